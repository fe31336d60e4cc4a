/-! PART 25: counts of bits; the order of signs -/
def pc (n : Nat) : Nat := fb_ct n.testBit 12
theorem pc_step0 : ∀ a, a < 64 → ∀ c, c < 64 → 64 * a + c = 0 ∨ (pc ((64 * a + c) &&& (64 * a + c - 1)) + 1 = pc (64 * a + c) ∧ (64 * a + c) &&& (64 * a + c - 1) < 64 * a + c) := by decide +kernel
theorem pc_step (v : Nat) (h : v < 4096) : v = 0 ∨ (pc (v &&& (v - 1)) + 1 = pc v ∧ v &&& (v - 1) < v) := by
  have := pc_step0 (v / 64) (by omega) (v % 64) (by omega)
  rw [Nat.div_add_mod] at this
  exact this
theorem pc_some : ∀ k, k < 11 → pc (2 ^ k - 1) = k ∧ 2 ^ k - 1 < 1024 := by decide +kernel
theorem pc_le (n : Nat) : pc n ≤ 12 := fb_ct_le _ _
theorem pc_or {v s : Nat} (hs : s < 12) (h : v.testBit s = false) : pc (v ||| 2 ^ s) = pc v + 1 := by
  have h1 := fb_ct_upd v.testBit true (i := s) (n := 12) hs
  rw [h] at h1
  have e : (fun k => if k = s then true else v.testBit k) = (v ||| 2 ^ s).testBit := by
    funext k
    rw [fb_bit_set]
    by_cases hk : k = s <;> simp [hk]
  rw [e] at h1
  unfold pc
  simpa using h1
theorem or_gt {v s : Nat} (h : v.testBit s = false) : v < v ||| 2 ^ s := by
  have h1 : v ≤ v ||| 2 ^ s := Nat.left_le_or
  rcases Nat.lt_or_ge v (v ||| 2 ^ s) with q | q
  · exact q
  · have e : v ||| 2 ^ s = v := by omega
    have := fb_bit_set v s s
    rw [e, h] at this
    simp at this
theorem or_same {v s : Nat} : v ||| 2 ^ s = v ↔ v.testBit s = true := by
  constructor
  · intro e
    cases h : v.testBit s with
    | true => rfl
    | false => have := or_gt h; omega
  · intro h
    apply Nat.eq_of_testBit_eq
    intro i
    rw [fb_bit_set]
    by_cases hi : i = s
    · subst hi; simp [h]
    · simp [hi]
theorem or_lt {v s k : Nat} (hv : v < 2 ^ k) (hs : s < k) : v ||| 2 ^ s < 2 ^ k := Nat.or_lt_two_pow hv (Nat.pow_lt_pow_right (by decide) hs)
def mxS (f : Nat → Nat) : Nat → Nat
  | 0 => 0
  | n + 1 => if mxS f n < f n then f n else mxS f n
theorem mxS_ge {f : Nat → Nat} : ∀ {n i : Nat}, i < n → f i ≤ mxS f n
  | 0, i, h => by omega
  | n + 1, i, h => by
    rw [mxS]
    rcases Nat.lt_or_ge i n with q | q
    · have := mxS_ge (f := f) q
      split <;> omega
    · have : i = n := by omega
      subst this
      split <;> omega
theorem mxS_at {f : Nat → Nat} : ∀ {n : Nat}, mxS f n = 0 ∨ ∃ i, i < n ∧ f i = mxS f n
  | 0 => Or.inl rfl
  | n + 1 => by
    rw [mxS]
    split
    · exact Or.inr ⟨n, by omega, rfl⟩
    · rcases mxS_at (f := f) (n := n) with q | ⟨i, h1, h2⟩
      · exact Or.inl q
      · exact Or.inr ⟨i, by omega, h2⟩
theorem mxS_le {f : Nat → Nat} {c : Nat} : ∀ {n : Nat}, (∀ i, i < n → f i ≤ c) → mxS f n ≤ c
  | 0, _ => Nat.zero_le _
  | n + 1, h => by
    rw [mxS]
    have h1 := mxS_le (f := f) (c := c) (n := n) (fun i hi => h i (by omega))
    have h2 := h n (by omega)
    split <;> omega
theorem mxS_cong {f h : Nat → Nat} : ∀ {n : Nat}, (∀ i, i < n → f i = h i) → mxS f n = mxS h n
  | 0, _ => rfl
  | n + 1, e => by
    rw [mxS, mxS, mxS_cong (fun i hi => e i (by omega)), e n (by omega)]
/-- what the longer beginnings behind a set can give at most -/
def ahF (gv : Nat → Nat) : Nat → Nat → Nat
  | 0, _ => 0
  | f + 1, set => mxS (fun s => if set.testBit s = true then 0 else gv (set ||| 2 ^ s) + ahF gv f (set ||| 2 ^ s)) 10
theorem ahF_fuel {gv : Nat → Nat} : ∀ (f f2 set : Nat), set < 1024 → 1024 ≤ f + set → 1024 ≤ f2 + set → ahF gv f set = ahF gv f2 set
  | 0, f2, set, h, h1, h2 => by omega
  | f + 1, 0, set, h, h1, h2 => by omega
  | f + 1, f2 + 1, set, h, h1, h2 => by
    rw [ahF, ahF]
    apply mxS_cong
    intro s hs
    cases hb : set.testBit s with
    | true => rfl
    | false =>
      have g1 := or_gt hb
      have g2 := or_lt (k := 10) h hs
      have := ahF_fuel (gv := gv) f f2 (set ||| 2 ^ s) g2 (by omega) (by omega)
      simp [this]
def ah (gv : Nat → Nat) (set : Nat) : Nat := ahF gv 1024 set
def ahs (gv : Nat → Nat) (set s : Nat) : Nat := if set.testBit s = true then 0 else gv (set ||| 2 ^ s) + ah gv (set ||| 2 ^ s)
theorem ah_eq {gv : Nat → Nat} {set : Nat} (h : set < 1024) : ah gv set = mxS (ahs gv set) 10 := by
  unfold ah
  rw [ahF]
  apply mxS_cong
  intro s hs
  unfold ahs ah
  cases hb : set.testBit s with
  | true => simp only [if_true]
  | false =>
    have g1 := or_gt hb
    have g2 := or_lt (k := 10) h hs
    simp only [Bool.false_eq_true, if_false]
    rw [ahF_fuel 1023 1024 _ g2 (by omega) (by omega)]
theorem ahF_le {gv : Nat → Nat} {c : Nat} (hg : ∀ s, gv s ≤ c) : ∀ (f set : Nat), ahF gv f set ≤ f * c
  | 0, set => by simp [ahF]
  | f + 1, set => by
    rw [ahF]
    apply mxS_le
    intro s hs
    have h1 := ahF_le hg f (set ||| 2 ^ s)
    have h2 := hg (set ||| 2 ^ s)
    rw [Nat.succ_mul]
    split <;> omega
theorem ah_le {gv : Nat → Nat} {c : Nat} (hg : ∀ s, gv s ≤ c) (set : Nat) : ah gv set ≤ 1024 * c := ahF_le hg 1024 set
def nxP (gv : Nat → Nat) (set s : Nat) : Bool := !set.testBit s && decide (gv (set ||| 2 ^ s) + ah gv (set ||| 2 ^ s) = ah gv set)
def nxt (gv : Nat → Nat) (set : Nat) : Nat := (fm (nxP gv set) 10).getD 0
theorem nxt_ok {gv : Nat → Nat} {set : Nat} (h : set < 1024) (hm : ∃ s, s < 10 ∧ set.testBit s = false) : nxt gv set < 10 ∧ nxP gv set (nxt gv set) = true ∧ ∀ j, j < nxt gv set → nxP gv set j = false := by
  have hex : ∃ s, s < 10 ∧ nxP gv set s = true := by
    obtain ⟨s0, h0, hb0⟩ := hm
    rcases mxS_at (f := ahs gv set) (n := 10) with q | ⟨i, h1, h2⟩
    · refine ⟨s0, h0, ?_⟩
      have h3 := mxS_ge (f := ahs gv set) h0
      rw [q] at h3
      unfold ahs at h3
      rw [hb0] at h3
      simp only [Bool.false_eq_true, if_false] at h3
      unfold nxP
      rw [hb0, ah_eq h, q]
      simp
      omega
    · by_cases hz : mxS (ahs gv set) 10 = 0
      · refine ⟨s0, h0, ?_⟩
        have h3 := mxS_ge (f := ahs gv set) h0
        rw [hz] at h3
        unfold ahs at h3
        rw [hb0] at h3
        simp only [Bool.false_eq_true, if_false] at h3
        unfold nxP
        rw [hb0, ah_eq h, hz]
        simp
        omega
      · refine ⟨i, h1, ?_⟩
        unfold nxP
        cases hb : set.testBit i with
        | true =>
          have h5 : ahs gv set i = 0 := by unfold ahs; rw [hb]; simp
          omega
        | false =>
          have h5 : ahs gv set i = gv (set ||| 2 ^ i) + ah gv (set ||| 2 ^ i) := by unfold ahs; rw [hb]; simp
          rw [ah_eq h, ← h2, h5]
          simp
  unfold nxt
  cases hf : fm (nxP gv set) 10 with
  | none =>
    obtain ⟨s, h1, h2⟩ := hex
    rw [fm_none.mp hf s h1] at h2
    cases h2
  | some k => exact fm_some.mp hf
/-- the first k signs of the order -/
def ost (gv : Nat → Nat) : Nat → Nat
  | 0 => 0
  | k + 1 => ost gv k ||| 2 ^ nxt gv (ost gv k)
theorem ost_ok {gv : Nat → Nat} : ∀ {k : Nat}, k ≤ 10 → ost gv k < 1024 ∧ pc (ost gv k) = k ∧ (k < 10 → ∃ s, s < 10 ∧ (ost gv k).testBit s = false) := by
  have hmiss : ∀ v, v < 1024 → pc v < 10 → ∃ s, s < 10 ∧ v.testBit s = false := by
    intro v hv hp
    rcases Classical.em (∃ s, s < 10 ∧ v.testBit s = false) with q | q
    · exact q
    · exfalso
      have h : fb_ct v.testBit 10 = 10 := fb_ct_all.mpr (fun k hk => by
        cases hb : v.testBit k with
        | true => rfl
        | false => exact absurd ⟨k, hk, hb⟩ q)
      have := fb_ct_mono v.testBit (m := 10) (n := 12) (by decide)
      unfold pc at hp
      omega
  intro k
  induction k with
  | zero =>
    intro _
    have e : pc (ost gv 0) = 0 := by unfold ost; decide +kernel
    exact ⟨by unfold ost; decide, e, fun _ => hmiss _ (by unfold ost; decide) (by omega)⟩
  | succ k ih =>
    intro hk
    obtain ⟨h1, h2, h3⟩ := ih (by omega)
    obtain ⟨n1, n2, n3⟩ := nxt_ok (gv := gv) h1 (h3 (by omega))
    unfold nxP at n2
    simp only [Bool.and_eq_true, Bool.not_eq_true'] at n2
    have g2 := or_lt (k := 10) h1 n1
    have g3 := pc_or (by omega : nxt gv (ost gv k) < 12) n2.1
    rw [ost]
    exact ⟨g2, by omega, fun h => hmiss _ g2 (by omega)⟩
/-- whole words chosen beside given signs: the most often ones that are not given -/
def wfor (b : Bk) (s : Nat) : Nat → Nat
  | 0 => 0
  | k + 1 => match am (fun w => !(wfor b s k).testBit w && !bk_given b s w) b.of b.n with
    | none => wfor b s k
    | some w => wfor b s k ||| 2 ^ w
theorem wfor_lt {b : Bk} (hb : BOk b) (s : Nat) : ∀ k, wfor b s k < 4096
  | 0 => by unfold wfor; decide
  | k + 1 => by
    rw [wfor]
    have h := wfor_lt hb s k
    cases hm : am (fun w => !(wfor b s k).testBit w && !bk_given b s w) b.of b.n with
    | none => exact h
    | some w => exact or_lt (k := 12) h (by have := am_lt hm; have := hb.1; omega)
theorem gives_le {b : Bk} (hb : BOk b) (s ws : Nat) : bk_gives b s ws ≤ 11988 := smO_le hb _ (Nat.le_refl _)
def lvI (k : Nat) : Int32 := match k with
  | 0 => -1
  | k + 1 => nI k
theorem lvI_pred (k : Nat) : nI k + (-1) = lvI k := by
  cases k with
  | zero => decide
  | succ k => exact pk_m1 k
