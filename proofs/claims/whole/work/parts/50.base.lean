/-! pure rows: loops, checks, small numbers -/
theorem iter_seq {σ τ : Type} {it : σ → Option (σ ⊕ τ)} (st : Nat → σ) (t : τ) : ∀ (N j n : Nat), (∀ i, j ≤ i → i < j + N → it (st i) = some (.inl (st (i + 1)))) → it (st (j + N)) = some (.inr t) → N < n → iter it n (st j) = some t := by
  intro N
  induction N with
  | zero =>
    intro j n h he hn
    obtain ⟨m, rfl⟩ : ∃ m, n = m + 1 := ⟨n - 1, by omega⟩
    have he' : it (st j) = some (.inr t) := he
    simp [iter, he']
  | succ N ih =>
    intro j n h he hn
    obtain ⟨m, rfl⟩ : ∃ m, n = m + 1 := ⟨n - 1, by omega⟩
    have h0 := h j (Nat.le_refl j) (by omega)
    simp only [iter, h0]
    exact ih (j + 1) m (fun i h1 h2 => h i (by omega) (by omega)) (by rw [show j + 1 + N = j + (N + 1) by omega]; exact he) (by omega)
theorem iter_to {σ τ : Type} {it : σ → Option (σ ⊕ τ)} (st : Nat → σ) (N : Nat) {t : τ} {s0 : σ} (h0 : s0 = st 0) (h : ∀ i, i < N → it (st i) = some (.inl (st (i + 1)))) (he : it (st N) = some (.inr t)) (hN : N < BIG) : iter it BIG s0 = some t := by
  rw [h0]
  exact iter_seq st t N 0 BIG (fun i _ h2 => h i (by omega)) (by rw [Nat.zero_add]; exact he) hN
theorem bd_s {α β : Type} (a : α) (k : α → Option β) : bd (some a) k = k a := rfl
theorem ck_t {α : Type} {c : Prop} [Decidable c] {x : Option α} (h : c) : ck c x = x := by unfold ck; rw [if_pos h]
theorem sm_i {α β γ : Type} (a : α) (f : α → Option γ) (g : β → Option γ) : sm (.inl a) f g = f a := rfl
theorem sm_o {α β γ : Type} (b : β) (f : α → Option γ) (g : β → Option γ) : sm (.inr b) f g = g b := rfl
theorem op_0 {α γ : Type} (n : Option γ) (f : α → Option γ) : op none n f = n := rfl
theorem op_1 {α γ : Type} (a : α) (n : Option γ) (f : α → Option γ) : op (some a) n f = f a := rfl
theorem okn {j n : Nat} (h : j < n) (hn : n < 2 ^ 31) : okx (nI j) n := by
  constructor <;> rw [nI_toInt (by omega)] <;> omega
theorem ixn {j : Nat} (h : j < 2 ^ 31) : ix (nI j) = j := nI_clamp h
theorem up_ap (S : St) (k j : Nat) (v : Int32) (a b : Nat) : up S k j v a b = if a = k then (if b = j then v else S k b) else S a b := by
  unfold up va_up upd
  by_cases h : a = k <;> simp [h]
theorem up_ne (S : St) (k j : Nat) (v : Int32) {a : Nat} (h : a ≠ k) : up S k j v a = S a := by
  unfold up va_up
  simp [h]
theorem up_at (S : St) (k j : Nat) (v : Int32) : up S k j v k = upd (S k) j v := by unfold up va_up; simp
theorem nlt {a b : Nat} (ha : a < 2 ^ 31) (hb : b < 2 ^ 31) : (nI a < nI b) = (a < b) := propext (nI_ltI ha hb)
theorem nle {a b : Nat} (ha : a < 2 ^ 31) (hb : b < 2 ^ 31) : (nI a ≤ nI b) = (a ≤ b) := propext (nI_leI ha hb)
theorem neq {a b : Nat} (ha : a < 2 ^ 31) (hb : b < 2 ^ 31) : (nI a = nI b) = (a = b) := propext (nI_eq ha hb)
theorem n0 : (0 : Int32) = nI 0 := rfl
theorem n1 : (1 : Int32) = nI 1 := rfl
theorem n2 : (2 : Int32) = nI 2 := rfl
theorem n3 : (3 : Int32) = nI 3 := rfl
theorem n4 : (4 : Int32) = nI 4 := rfl
theorem n5 : (5 : Int32) = nI 5 := rfl
theorem n8 : (8 : Int32) = nI 8 := rfl
theorem n10 : (10 : Int32) = nI 10 := rfl
theorem n60 : (60 : Int32) = nI 60 := rfl
theorem n3125 : (3125 : Int32) = nI 3125 := rfl
theorem nneg_ne {a : Nat} (ha : a < 2 ^ 31) {z : Int32} (hz : z.toInt < 0) : ¬ nI a = z := fun h => by
  have := congrArg Int32.toInt h
  rw [nI_toInt ha] at this
  omega
theorem nnot0 {a : Nat} (ha : a < 2 ^ 31) : ¬ nI a < (0 : Int32) := nI_pos ha
theorem n0le {a : Nat} (ha : a < 2 ^ 31) : (0 : Int32) ≤ nI a := nI_pos' ha
/-- a number of a set of n: below, beyond, or one of them -/
theorem nix (x : Int32) {n : Nat} (hn : n < 2 ^ 31) : x < 0 ∨ (¬ x < 0 ∧ nI n ≤ x) ∨ ∃ j : Nat, j < n ∧ x = nI j := by
  by_cases h : x < 0
  · exact Or.inl h
  · rcases pk_ix x hn with h1 | h1 | h1
    · exact absurd h1 h
    · exact Or.inr (Or.inl ⟨h, h1⟩)
    · exact Or.inr (Or.inr h1)
/-- rows: the first n places of a row are f's -/
def fill (S : St) (k n : Nat) (f : Nat → Int32) : St := va_up S k (fun j => if j < n then f j else S k j)
theorem fill_0 (S : St) (k : Nat) (f : Nat → Int32) : fill S k 0 f = S := by
  funext a b
  unfold fill va_up
  by_cases h : a = k <;> simp [h]
theorem fill_ne (S : St) (k n : Nat) (f : Nat → Int32) {a : Nat} (h : a ≠ k) : fill S k n f a = S a := by unfold fill va_up; simp [h]
theorem fill_at (S : St) (k n : Nat) (f : Nat → Int32) (b : Nat) : fill S k n f k b = if b < n then f b else S k b := by unfold fill va_up; simp
theorem fill_up (S : St) (k n : Nat) (f : Nat → Int32) : up (fill S k n f) k n (f n) = fill S k (n + 1) f := by
  funext a b
  rw [up_ap]
  by_cases h : a = k
  · subst h
    rw [if_pos rfl, fill_at, fill_at]
    by_cases hb : b = n
    · subst hb
      rw [if_pos rfl, if_pos (by omega)]
    · rw [if_neg hb]
      by_cases h1 : b < n
      · rw [if_pos h1, if_pos (by omega)]
      · rw [if_neg h1, if_neg (by omega)]
  · rw [if_neg h, fill_ne _ _ _ _ h, fill_ne _ _ _ _ h]
theorem fill_up' {S : St} {k n : Nat} {f : Nat → Int32} {v : Int32} (h : v = f n) : up (fill S k n f) k n v = fill S k (n + 1) f := by rw [h, fill_up]
theorem fill_lo {S : St} {k n : Nat} {f : Nat → Int32} {b : Nat} (h : b < n) : fill S k n f k b = f b := by rw [fill_at, if_pos h]
theorem fill_hi {S : St} {k n : Nat} {f : Nat → Int32} {b : Nat} (h : n ≤ b) : fill S k n f k b = S k b := by rw [fill_at, if_neg (by omega)]
theorem nadd1 (a : Nat) : nI a + (1 : Int32) = nI (a + 1) := nI_1 a
theorem bigN : (100 : Nat) < BIG := by decide
/-! how many of the first n are so; sums -/
def cnt (p : Nat → Bool) : Nat → Nat
  | 0 => 0
  | n + 1 => cnt p n + (if p n then 1 else 0)
theorem cnt_le (p : Nat → Bool) : ∀ n, cnt p n ≤ n
  | 0 => Nat.le_refl 0
  | n + 1 => by
    have := cnt_le p n
    unfold cnt
    split <;> omega
theorem cnt_cong {p q : Nat → Bool} : ∀ {n : Nat}, (∀ k, k < n → p k = q k) → cnt p n = cnt q n
  | 0, _ => rfl
  | n + 1, h => by rw [cnt, cnt, cnt_cong (fun k hk => h k (by omega)), h n (by omega)]
theorem cnt_all {p : Nat → Bool} : ∀ {n : Nat}, cnt p n = n ↔ ∀ k, k < n → p k = true
  | 0 => ⟨fun _ k hk => absurd hk (Nat.not_lt_zero k), fun _ => rfl⟩
  | n + 1 => by
    have h := cnt_all (p := p) (n := n)
    have hl := cnt_le p n
    constructor
    · intro e k hk
      unfold cnt at e
      by_cases hp : p n = true
      · rw [if_pos hp] at e
        by_cases hkn : k = n
        · rw [hkn]; exact hp
        · exact (h.mp (by omega)) k (by omega)
      · rw [if_neg hp] at e
        omega
    · intro hh
      unfold cnt
      rw [if_pos (hh n (by omega)), h.mpr (fun k hk => hh k (by omega))]
def sumI (f : Nat → Int32) : Nat → Int32
  | 0 => 0
  | n + 1 => sumI f n + f n
theorem sumI_cong {f g : Nat → Int32} : ∀ {n : Nat}, (∀ k, k < n → f k = g k) → sumI f n = sumI g n
  | 0, _ => rfl
  | n + 1, h => by rw [sumI, sumI, sumI_cong (fun k hk => h k (by omega)), h n (by omega)]
theorem sumI_upd {f : Nat → Int32} {v : Int32} {j : Nat} : ∀ {n : Nat}, j < n → sumI (fun k => if k = j then f k + v else f k) n = sumI f n + v
  | 0, h => absurd h (Nat.not_lt_zero j)
  | n + 1, h => by
    rw [sumI, sumI]
    by_cases e : j = n
    · subst e
      rw [sumI_cong (g := f) (fun k hk => by rw [if_neg (by omega)]), if_pos rfl, Int32.add_assoc]
    · rw [sumI_upd (by omega), if_neg (by omega), Int32.add_assoc, Int32.add_comm v, Int32.add_assoc]
theorem sumI_zero : ∀ n, sumI (fun _ => 0) n = 0
  | 0 => rfl
  | n + 1 => by rw [sumI, sumI_zero n]; rfl
