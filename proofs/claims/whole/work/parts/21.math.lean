/-! PART 21: the book and what follows from it, in plain numbers -/
abbrev Bk : Type := Nat × (Nat → Nat) × (Nat → Nat) × (Nat → Nat) × (Nat → Nat)
abbrev Bk.n (b : Bk) : Nat := b.1
abbrev Bk.len (b : Bk) (w : Nat) : Nat := b.2.1 w
abbrev Bk.of (b : Bk) (w : Nat) : Nat := b.2.2.1 w
abbrev Bk.sg (b : Bk) (w i : Nat) : Nat := b.2.2.2.1 (5 * w + i)
abbrev Bk.sd (b : Bk) (w i : Nat) : Nat := b.2.2.2.2 (5 * w + i)
def BOk (b : Bk) : Prop := b.n ≤ 12 ∧ ∀ w, w < b.n → 1 ≤ b.len w ∧ b.len w ≤ 5 ∧ 1 ≤ b.of w ∧ b.of w ≤ 999 ∧ ∀ i, i < b.len w → b.sg w i < 10 ∧ b.sd w i < 10
def orB (f : Nat → Nat) : Nat → Nat
  | 0 => 0
  | n + 1 => orB f n ||| f n
def alB (p : Nat → Bool) : Nat → Bool
  | 0 => true
  | n + 1 => alB p n && p n
/-- of those below n with p the one with the greatest f, the least such -/
def am (p : Nat → Bool) (f : Nat → Nat) : Nat → Option Nat
  | 0 => none
  | n + 1 => match am p f n with
    | none => if p n then some n else none
    | some m => if p n && decide (f m < f n) then some n else some m
/-- the least one below n with p -/
def fm (p : Nat → Bool) : Nat → Option Nat
  | 0 => none
  | n + 1 => match fm p n with
    | none => if p n then some n else none
    | some m => some m
def bk_bits (b : Bk) (w : Nat) : Nat := orB (fun i => 2 ^ b.sg w i) (b.len w)
/-- of word w: often at each place with sign and sound k = 10 s + u -/
def bk_hw (b : Bk) (k w : Nat) : Nat := fb_sm (fun i => if 10 * b.sg w i + b.sd w i = k then b.of w else 0) (b.len w)
def bk_has (b : Bk) (k : Nat) : Nat := fb_sm (bk_hw b k) b.n
def bk_comm (b : Bk) (s : Nat) : Option Nat := am (fun u => decide (0 < bk_has b (10 * s + u))) (fun u => bk_has b (10 * s + u)) 10
def bk_reg (b : Bk) (w : Nat) : Bool := alB (fun i => decide (bk_comm b (b.sg w i) = some (b.sd w i))) (b.len w)
def bk_all (b : Bk) (s : Nat) : Nat := fb_sm (fun u => bk_has b (10 * s + u)) 10
theorem orB_lt {f : Nat → Nat} {k : Nat} : ∀ {n : Nat}, (∀ i, i < n → f i < 2 ^ k) → orB f n < 2 ^ k
  | 0, _ => Nat.two_pow_pos k
  | n + 1, h => Nat.or_lt_two_pow (orB_lt fun i hi => h i (by omega)) (h n (by omega))
theorem orB_bit {f : Nat → Nat} {j : Nat} : ∀ {n : Nat}, (orB f n).testBit j = true ↔ ∃ i, i < n ∧ (f i).testBit j = true
  | 0 => by simp [orB]
  | n + 1 => by
    rw [orB, Nat.testBit_or, Bool.or_eq_true, orB_bit]
    constructor
    · rintro (⟨i, h1, h2⟩ | h)
      · exact ⟨i, by omega, h2⟩
      · exact ⟨n, by omega, h⟩
    · rintro ⟨i, h1, h2⟩
      rcases Nat.lt_or_ge i n with q | q
      · exact Or.inl ⟨i, q, h2⟩
      · have : i = n := by omega
        subst this
        exact Or.inr h2
theorem alB_iff {p : Nat → Bool} : ∀ {n : Nat}, alB p n = true ↔ ∀ i, i < n → p i = true
  | 0 => by simp [alB]
  | n + 1 => by
    rw [alB, Bool.and_eq_true, alB_iff]
    constructor
    · rintro ⟨h1, h2⟩ i hi
      rcases Nat.lt_or_ge i n with q | q
      · exact h1 i q
      · have : i = n := by omega
        subst this
        exact h2
    · intro h
      exact ⟨fun i hi => h i (by omega), h n (by omega)⟩
theorem am_lt {p : Nat → Bool} {f : Nat → Nat} : ∀ {n k : Nat}, am p f n = some k → k < n
  | 0, k, h => by cases h
  | n + 1, k, h => by
    unfold am at h
    cases hm : am p f n with
    | none =>
      rw [hm] at h
      dsimp only at h
      split at h
      · cases h; omega
      · cases h
    | some m =>
      rw [hm] at h
      dsimp only at h
      have := am_lt hm
      split at h
      · cases h; omega
      · cases h; omega
theorem am_p {p : Nat → Bool} {f : Nat → Nat} : ∀ {n k : Nat}, am p f n = some k → p k = true
  | 0, k, h => by cases h
  | n + 1, k, h => by
    unfold am at h
    cases hm : am p f n with
    | none =>
      rw [hm] at h
      dsimp only at h
      split at h
      · rename_i q; cases h; exact q
      · cases h
    | some m =>
      rw [hm] at h
      dsimp only at h
      have := am_p hm
      split at h
      · rename_i q
        cases h
        simp only [Bool.and_eq_true] at q
        exact q.1
      · cases h; exact this
theorem am_none {p : Nat → Bool} {f : Nat → Nat} : ∀ {n : Nat}, am p f n = none ↔ ∀ i, i < n → p i = false
  | 0 => by simp [am]
  | n + 1 => by
    have ih := am_none (p := p) (f := f) (n := n)
    unfold am
    cases hm : am p f n with
    | none =>
      have h1 := ih.mp hm
      dsimp only
      constructor
      · intro h i hi
        rcases Nat.lt_or_ge i n with q | q
        · exact h1 i q
        · have : i = n := by omega
          subst this
          cases hp : p i with
          | false => rfl
          | true => rw [hp] at h; cases h
      · intro h
        rw [h n (by omega)]
        rfl
    | some m =>
      dsimp only
      constructor
      · intro h
        split at h <;> cases h
      · intro h
        have := h m (by have := am_lt hm; omega)
        rw [am_p hm] at this
        cases this
/-- what the choice is: greatest, and first among the greatest -/
theorem am_best {p : Nat → Bool} {f : Nat → Nat} : ∀ {n k : Nat}, am p f n = some k → ∀ i, i < n → p i = true → f i < f k ∨ (f i = f k ∧ k ≤ i)
  | 0, k, h => by cases h
  | n + 1, k, h => by
    intro i hi hpi
    unfold am at h
    cases hm : am p f n with
    | none =>
      rw [hm] at h
      dsimp only at h
      split at h
      · cases h
        rcases Nat.lt_or_ge i n with q | q
        · rw [am_none.mp hm i q] at hpi; cases hpi
        · have : i = n := by omega
          subst this
          exact Or.inr ⟨rfl, Nat.le_refl _⟩
      · cases h
    | some m =>
      rw [hm] at h
      dsimp only at h
      have ih := am_best hm
      split at h
      · rename_i q
        cases h
        simp only [Bool.and_eq_true, decide_eq_true_eq] at q
        rcases Nat.lt_or_ge i n with r | r
        · rcases ih i r hpi with z | z
          · exact Or.inl (by omega)
          · exact Or.inl (by omega)
        · have : i = n := by omega
          subst this
          exact Or.inr ⟨rfl, Nat.le_refl _⟩
      · rename_i q
        cases h
        rcases Nat.lt_or_ge i n with r | r
        · exact ih i r hpi
        · have : i = n := by omega
          subst this
          simp only [hpi, Bool.true_and, decide_eq_true_eq] at q
          have := am_lt hm
          omega
theorem am_uniq {p : Nat → Bool} {f : Nat → Nat} {n k : Nat} (hk : k < n) (hp : p k = true) (hb : ∀ i, i < n → p i = true → f i < f k ∨ (f i = f k ∧ k ≤ i)) : am p f n = some k := by
  cases h : am p f n with
  | none => rw [am_none.mp h k hk] at hp; cases hp
  | some j =>
    have h1 := am_best h k hk hp
    have h2 := hb j (am_lt h) (am_p h)
    congr 1
    omega
theorem fm_some {p : Nat → Bool} : ∀ {n k : Nat}, fm p n = some k ↔ k < n ∧ p k = true ∧ ∀ j, j < k → p j = false
  | 0, k => by simp [fm]
  | n + 1, k => by
    have ih := fun k => fm_some (p := p) (n := n) (k := k)
    unfold fm
    cases hm : fm p n with
    | none =>
      dsimp only
      have hno : ∀ j, j < n → p j = false := by
        intro j
        induction j using Nat.strongRecOn with
        | _ j ihj =>
          intro hj
          cases hp : p j with
          | false => rfl
          | true =>
            have := (ih j).mpr ⟨hj, hp, fun q hq => ihj q hq (by omega)⟩
            rw [hm] at this; cases this
      constructor
      · intro h
        split at h
        · rename_i q; cases h; exact ⟨by omega, q, hno⟩
        · cases h
      · rintro ⟨h1, h2, h3⟩
        rcases Nat.lt_or_ge k n with q | q
        · rw [hno k q] at h2; cases h2
        · have : k = n := by omega
          subst this
          rw [h2]; rfl
    | some m =>
      dsimp only
      obtain ⟨a1, a2, a3⟩ := (ih m).mp hm
      constructor
      · intro h; cases h; exact ⟨by omega, a2, a3⟩
      · rintro ⟨h1, h2, h3⟩
        congr 1
        rcases Nat.lt_or_ge k m with q | q
        · rw [a3 k q] at h2; cases h2
        · rcases Nat.lt_or_ge m k with r | r
          · rw [h3 m r] at a2; cases a2
          · omega
theorem fm_none {p : Nat → Bool} {n : Nat} : fm p n = none ↔ ∀ j, j < n → p j = false := by
  constructor
  · intro h j
    induction j using Nat.strongRecOn with
    | _ j ihj =>
      intro hj
      cases hp : p j with
      | false => rfl
      | true =>
        have := fm_some.mpr ⟨hj, hp, fun q hq => ihj q hq (by omega)⟩
        rw [h] at this; cases this
  · intro h
    cases hm : fm p n with
    | none => rfl
    | some k =>
      obtain ⟨a1, a2, a3⟩ := fm_some.mp hm
      rw [h k a1] at a2; cases a2
