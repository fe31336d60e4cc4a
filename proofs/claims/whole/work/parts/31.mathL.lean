/-! PART 31: lessons, sharing, reading itself -/
theorem pc10 {v : Nat} (h : v < 1024) : pc v ≤ 10 := by
  have h1 := fb_ct_split v.testBit 10 2
  have h2 : fb_ct (fun j => v.testBit (10 + j)) 2 = 0 := fb_ct_zero.mpr (fun j _ => Nat.testBit_lt_two_pow (Nat.lt_of_lt_of_le h (Nat.pow_le_pow_right (n := 2) (by decide) (by omega : 10 ≤ 10 + j))))
  have h3 := fb_ct_le v.testBit 10
  unfold pc
  rw [show (12 : Nat) = 10 + 2 from rfl, h1, h2]
  omega
/-- may a child with the signs k be taught the set T by n lessons -/
def lsP (k n T : Nat) : Bool := decide (T &&& k = 0) && (decide (pc T = n) || (decide (pc T = 10 - pc k) && decide (pc T ≤ n)))
def lsF (b : Bk) (m : Option Nat) (k ws n T : Nat) : Nat := if lsP k n T = true then bk_share b m (k ||| T) ws else 0
def les (b : Bk) (m : Option Nat) (k ws n : Nat) : Nat := mxS (lsF b m k ws n) 1024
theorem share_le {b : Bk} (hb : BOk b) (m : Option Nat) (k ws : Nat) : bk_share b m k ws ≤ 11988 := smO_le hb _ (Nat.le_refl _)
theorem lsF_le {b : Bk} (hb : BOk b) (m : Option Nat) (k ws n T : Nat) : lsF b m k ws n T ≤ 11988 := by
  unfold lsF
  have := share_le hb m (k ||| T) ws
  split <;> omega
theorem les_le {b : Bk} (hb : BOk b) (m : Option Nat) (k ws n : Nat) : les b m k ws n ≤ 11988 := mxS_le (fun T _ => lsF_le hb m k ws n T)
/-- the parts of a split, by its number 169 a + 13 b + c -/
def spP (n t : Nat) : Bool := decide (t / 13 / 13 + t / 13 % 13 + t % 13 ≤ n)
def spF (f : Nat → Nat → Nat) (n t : Nat) : Nat := f 0 (t / 13 / 13) + f 1 (t / 13 % 13) + f 2 (t % 13) + f 3 (n - t / 13 / 13 - t / 13 % 13 - t % 13)
def spO (f : Nat → Nat → Nat) (n t : Nat) : Option Nat := am (spP n) (spF f n) t
theorem am_skip {p : Nat → Bool} {f : Nat → Nat} {lo : Nat} : ∀ {d : Nat}, (∀ i, lo ≤ i → i < lo + d → p i = false) → am p f (lo + d) = am p f lo
  | 0, _ => rfl
  | d + 1, h => by
    rw [← Nat.add_assoc, am_no (h (lo + d) (by omega) (by omega)), am_skip (fun i h1 h2 => h i h1 (by omega))]
theorem spO_some {f : Nat → Nat → Nat} {n : Nat} : ∃ t, spO f n 2197 = some t := by
  cases h : spO f n 2197 with
  | some t => exact ⟨t, rfl⟩
  | none =>
    have := am_none.mp h 0 (by decide)
    simp [spP] at this
/-- often of the words of a set -/
def tmS (b : Bk) (W : Nat) : Nat := fb_sm (fun w => if W.testBit w = true then b.of w else 0) b.n
def ofA (b : Bk) : Nat := fb_sm b.of b.n
theorem tmS_le {b : Bk} (hb : BOk b) (W : Nat) : tmS b W ≤ 11988 := smO_le hb _ (Nat.le_refl _)
theorem ofA_le {b : Bk} (hb : BOk b) {n : Nat} (hn : n ≤ b.n) : fb_sm b.of n ≤ 11988 := by
  have := smO_le hb (fun _ => true) hn
  simpa using this
/-- one reads on by itself: fuel, the words that can be read -/
def its (b : Bk) (line : Nat) : Nat → Nat → Nat
  | 0, W => W
  | f + 1, W => if 1000 * tmS b W < line * ofA b then W else match am (fun w => !W.testBit w) b.of b.n with
    | none => W
    | some w => its b line f (W ||| 2 ^ w)
def rdB (b : Bk) (m : Option Nat) (k ws : Nat) : Nat := orB (fun w => if bk_can b m k ws w = true then 2 ^ w else 0) b.n
theorem rdB_lt {b : Bk} (hb : BOk b) (m : Option Nat) (k ws : Nat) : rdB b m k ws < 2 ^ b.n := orB_lt (fun i hi => by
  split
  · exact Nat.pow_lt_pow_right (by decide) hi
  · exact Nat.two_pow_pos _)
theorem rdB_bit {b : Bk} {m : Option Nat} {k ws j : Nat} : (rdB b m k ws).testBit j = true ↔ j < b.n ∧ bk_can b m k ws j = true := orb2_bit
theorem sm_cong {f h : Nat → Nat} {n : Nat} (e : ∀ k, k < n → f k = h k) : fb_sm f n = fb_sm h n := fb_sm_cong e
theorem share_tm {b : Bk} {m : Option Nat} {k ws : Nat} : bk_share b m k ws = tmS b (rdB b m k ws) := by
  unfold bk_share tmS
  apply sm_cong
  intro w hw
  have := rdB_bit (b := b) (m := m) (k := k) (ws := ws) (j := w)
  by_cases h : bk_can b m k ws w = true
  · rw [if_pos h, if_pos (this.mpr ⟨hw, h⟩)]
  · rw [if_neg h, if_neg (fun q => h (this.mp q).2)]
/-- one more whole word makes that one readable, and no other one otherwise -/
theorem can_or {b : Bk} {m : Option Nat} {k ws v w : Nat} : bk_can b m k (ws ||| 2 ^ v) w = (bk_can b m k ws w || decide (w = v)) := by
  unfold bk_can bk_rd
  rw [fb_bit_set]
  by_cases h : w = v
  · subst h; simp
  · simp [h]
theorem rdB_or {b : Bk} {m : Option Nat} {k ws v : Nat} (hv : v < b.n) : rdB b m k (ws ||| 2 ^ v) = rdB b m k ws ||| 2 ^ v := by
  apply Nat.eq_of_testBit_eq
  intro j
  have h1 := rdB_bit (b := b) (m := m) (k := k) (ws := ws ||| 2 ^ v) (j := j)
  have h2 := rdB_bit (b := b) (m := m) (k := k) (ws := ws) (j := j)
  rw [can_or, Bool.or_eq_true, decide_eq_true_eq] at h1
  rw [fb_bit_set]
  cases h3 : (rdB b m k ws).testBit j with
  | true =>
    rw [Bool.true_or]
    exact h1.mpr ⟨(h2.mp h3).1, Or.inl (h2.mp h3).2⟩
  | false =>
    rw [Bool.false_or]
    by_cases hj : j = v
    · rw [decide_eq_true hj]
      exact h1.mpr ⟨by omega, Or.inr hj⟩
    · rw [decide_eq_false hj]
      cases h4 : (rdB b m k (ws ||| 2 ^ v)).testBit j with
      | false => rfl
      | true =>
        obtain ⟨a1, a2⟩ := h1.mp h4
        rcases a2 with a2 | a2
        · rw [h2.mpr ⟨a1, a2⟩] at h3; cases h3
        · exact absurd a2 hj
theorem tmS_or {b : Bk} {W v : Nat} (hv : v < b.n) (h : W.testBit v = false) : tmS b (W ||| 2 ^ v) = tmS b W + b.of v := by
  have h1 := fb_sm_upd (fun w => if W.testBit w = true then b.of w else 0) (b.of v) (i := v) (n := b.n) hv
  unfold tmS
  have e : fb_sm (fun w => if (W ||| 2 ^ v).testBit w = true then b.of w else 0) b.n = fb_sm (fun k => if k = v then b.of v else if W.testBit k = true then b.of k else 0) b.n := by
    apply sm_cong
    intro w hw
    rw [fb_bit_set]
    by_cases hwv : w = v
    · subst hwv; simp
    · simp [hwv]
  rw [e]
  simp only [h] at h1
  simpa using h1
theorem tmS_all {b : Bk} (hb : BOk b) {W : Nat} (h : am (fun w => !W.testBit w) b.of b.n = none) : tmS b W = ofA b := by
  unfold tmS ofA
  apply sm_cong
  intro w hw
  have := am_none.mp h w hw
  simp only [Bool.not_eq_false'] at this
  rw [if_pos this]
theorem tmS_less {b : Bk} (hb : BOk b) {W v : Nat} (h : am (fun w => !W.testBit w) b.of b.n = some v) : tmS b W < ofA b := by
  have hv := am_lt h
  have hp := am_p h
  simp only [Bool.not_eq_true'] at hp
  have h1 := tmS_or hv hp
  have h2 : tmS b (W ||| 2 ^ v) ≤ ofA b := fb_sm_le (fun w hw => by split <;> omega)
  have := (hb.2 v hv).2.2.1
  omega
theorem pc_lt {b : Bk} (hn : b.n ≤ 12) {W v : Nat} (h : am (fun w => !W.testBit w) b.of b.n = some v) : pc (W ||| 2 ^ v) = pc W + 1 := by
  have hv := am_lt h
  have hp := am_p h
  simp only [Bool.not_eq_true'] at hp
  exact pc_or (by omega) hp
theorem its_lt {b : Bk} (hb : BOk b) {line : Nat} : ∀ (f W : Nat), W < 2 ^ b.n → its b line f W < 2 ^ b.n
  | 0, W, h => h
  | f + 1, W, h => by
    rw [its]
    split
    · exact h
    · cases hm : am (fun w => !W.testBit w) b.of b.n with
      | none => exact h
      | some w => exact its_lt hb f _ (or_lt h (am_lt hm))
/-- all is read at last, if the first step can be done -/
theorem its_all {b : Bk} (hb : BOk b) {line : Nat} : ∀ (f W : Nat), 12 ≤ f + pc W → line * ofA b ≤ 1000 * tmS b W → tmS b (its b line f W) = ofA b
  | 0, W, h, hl => by
    rw [its]
    cases hm : am (fun w => !W.testBit w) b.of b.n with
    | none => exact tmS_all hb hm
    | some v =>
      have := pc_lt hb.1 hm
      have := pc_le (W ||| 2 ^ v)
      omega
  | f + 1, W, h, hl => by
    rw [its, if_neg (by omega)]
    cases hm : am (fun w => !W.testBit w) b.of b.n with
    | none => exact tmS_all hb hm
    | some v =>
      have h1 := pc_lt hb.1 hm
      have h2 := tmS_or (am_lt hm) (by have := am_p hm; simpa using this)
      exact its_all hb f _ (by omega) (by omega)
def hln (b : Bk) (W : Nat) : Nat := if tmS b W = ofA b then 1000 else 1000 * tmS b W / ofA b
