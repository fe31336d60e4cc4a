/-! PART 20: helpers over numbers -/
theorem nI_eq0 {n : Nat} (h : n < 2 ^ 31) : nI n = 0 ↔ n = 0 := by
  rw [← nI_0]; exact nI_eq h (by decide)
theorem nI_lt0 {n : Nat} (h : n < 2 ^ 31) : nI n < 0 ↔ False := ⟨fun q => nI_pos h q, False.elim⟩
theorem nI_le0 {n : Nat} (h : n < 2 ^ 31) : nI n ≤ 0 ↔ n = 0 := by
  rw [← nI_0, nI_leI h (by decide)]; omega
theorem nI_0le {n : Nat} (h : n < 2 ^ 31) : 0 ≤ nI n ↔ True := ⟨fun _ => trivial, fun _ => nI_pos' h⟩
theorem nI_0lt {n : Nat} (h : n < 2 ^ 31) : 0 < nI n ↔ 0 < n := by
  rw [← nI_0, nI_ltI (by decide) h]
theorem sh_mod : ∀ k, k < 32 → ((nI k &&& 31).toBitVec.smod 32).toNat = k := by decide +kernel
theorem jshl_n {a k : Nat} (hk : k < 32) (h : a * 2 ^ k < 2 ^ 32) : jshl (nI a) (nI k) = nI (a * 2 ^ k) := pk_shlN _ k (sh_mod k hk) h
theorem jshl_1 {k : Nat} (hk : k < 31) : jshl (nI 1) (nI k) = nI (2 ^ k) := by
  have h : 2 ^ k < 2 ^ 31 := Nat.pow_lt_pow_right (by decide) hk
  rw [jshl_n (by omega) (by omega), Nat.one_mul]
theorem jshr_n {a k : Nat} (ha : a < 2 ^ 31) (hk : k < 32) : jshr (nI a) (nI k) = nI (a / 2 ^ k) := pk_shrN ha _ k (sh_mod k hk)
theorem bit_n {a k : Nat} (ha : a < 2 ^ 31) (hk : k < 32) : jshr (nI a) (nI k) &&& nI 1 = nI (a.testBit k).toNat := by
  rw [jshr_n ha hk]
  have := fa_mask (a / 2 ^ k) 1
  rw [Nat.toNat_testBit]
  exact this
theorem jrem_n {a d : Nat} (ha : a < 2 ^ 31) (h0 : 0 < d) (hd : d < 2 ^ 31) : jrem (nI a) (nI d) = nI (a % d) := pk_rem ha h0 hd
theorem jremL_n {a d : Nat} (ha : a < 2 ^ 63) (h0 : 0 < d) (hd : d < 2 ^ 63) : jremL (lN a) (lN d) = lN (a % d) := pk_lRem ha h0 hd
/-- a is a part of b -/
abbrev sub (a b : Nat) : Prop := a &&& b = a
theorem sub_iff {a b : Nat} : sub a b ↔ ∀ i, a.testBit i = true → b.testBit i = true := by
  constructor
  · intro h i hi
    have h2 : (a &&& b).testBit i = true := by rw [h]; exact hi
    rw [Nat.testBit_and, Bool.and_eq_true] at h2
    exact h2.2
  · intro h
    apply Nat.eq_of_testBit_eq
    intro i
    rw [Nat.testBit_and]
    cases ha : a.testBit i with
    | false => rfl
    | true => simp [h i ha]
theorem sub_n {a b : Nat} (ha : a < 2 ^ 31) (hb : b < 2 ^ 31) : nI a &&& (nI b ^^^ (-1)) = 0 ↔ sub a b := by
  have e1 : (nI a).toBitVec = BitVec.ofNat 32 a := rfl
  have e2 : (nI b).toBitVec = BitVec.ofNat 32 b := rfl
  rw [← Int32.toBitVec_inj, Int32.toBitVec_and, Int32.toBitVec_xor, e1, e2, sub_iff]
  have e3 : (-1 : Int32).toBitVec = BitVec.allOnes 32 := by decide
  have e4 : (0 : Int32).toBitVec = 0#32 := rfl
  rw [e3, e4]
  constructor
  · intro h i hi
    have hi32 : i < 32 := by
      rcases Nat.lt_or_ge i 32 with q | q
      · exact q
      · have : a < 2 ^ i := Nat.lt_of_lt_of_le ha (Nat.pow_le_pow_right (by decide) (by omega))
        rw [Nat.testBit_lt_two_pow this] at hi
        cases hi
    have h2 := congrArg (fun v => v.getLsbD i) h
    simp only [BitVec.getLsbD_and, BitVec.getLsbD_xor, BitVec.getLsbD_ofNat, BitVec.getLsbD_allOnes, hi32, hi, decide_true, Bool.true_and, BitVec.getLsbD_zero] at h2
    cases hb2 : b.testBit i with
    | true => rfl
    | false => rw [hb2] at h2; simp at h2
  · intro h
    apply BitVec.eq_of_getLsbD_eq
    intro i hi
    simp only [BitVec.getLsbD_and, BitVec.getLsbD_xor, BitVec.getLsbD_ofNat, BitVec.getLsbD_allOnes, hi, decide_true, Bool.true_and, BitVec.getLsbD_zero]
    cases ha2 : a.testBit i with
    | false => simp
    | true => rw [h i ha2]; simp
/-- an optional number as the program tells it: NONE is -6 -/
def oI (o : Option Nat) : Int32 := match o with
  | none => -6
  | some k => nI k
theorem oI_none : oI none = -6 := rfl
theorem oI_some (k : Nat) : oI (some k) = nI k := rfl
theorem neg6_ne {k : Nat} (h : k < 2 ^ 31) : ¬ (-6 : Int32) = nI k := by
  intro e
  have h2 : (nI k).toInt = -6 := by rw [← e]; decide
  rw [nI_toInt h] at h2
  omega
theorem ne_neg6 {k : Nat} (h : k < 2 ^ 31) : ¬ nI k = (-6 : Int32) := fun e => neg6_ne h e.symm
theorem oI_lt0 {o : Option Nat} (h : ∀ k, o = some k → k < 2 ^ 31) : oI o < 0 ↔ o = none := by
  cases o with
  | none => exact ⟨fun _ => rfl, fun _ => by decide⟩
  | some k => exact ⟨fun q => absurd q (nI_pos (h k rfl)), fun q => by cases q⟩
theorem oI_nI {o : Option Nat} {k : Nat} (h : ∀ k, o = some k → k < 2 ^ 31) (hk : k < 2 ^ 31) : oI o = nI k ↔ o = some k := by
  cases o with
  | none => exact ⟨fun q => absurd q (neg6_ne hk), fun q => by cases q⟩
  | some j => rw [oI_some, nI_eq (h j rfl) hk, Option.some.injEq]
/-- a loop that goes up: from what holds at its end, down to its start -/
theorem lpU (P : Nat → Prop) (n : Nat) (hx : P n) (hs : ∀ i, i < n → P (i + 1) → P i) : ∀ i, i ≤ n → P i := by
  intro i hi
  induction h : n - i generalizing i with
  | zero => have : i = n := by omega
            rw [this]; exact hx
  | succ k ih => exact hs i (by omega) (ih (i + 1) (by omega) (by omega))
theorem inI {i n : Nat} (h : i < n) (hn : n < 2 ^ 31) : vp_in (nI i) n := vp_in_nI h hn
theorem st2_get {S : Mem} {k i j : Nat} {v : Int32} : st2 S k i v k j = if j = i then v else S k j := by rw [st2_same]; rfl
theorem st2_eq {S : Mem} {k i a j : Nat} {v : Int32} : st2 S k i v a j = if a = k ∧ j = i then v else S a j := by
  by_cases h : a = k
  · subst h; rw [st2_get]; simp
  · rw [st2_off h]; simp [h]
theorem stf_eq {S : Mem} {k a j : Nat} {f : Nat → Int32} : stf S k f a j = if a = k then f j else S a j := by
  by_cases h : a = k
  · subst h; rw [stf_same]; simp
  · rw [stf_off h]; simp [h]
theorem nar0 : narrow .boolean (.int (nI 0)) = .int (nI 0) := rfl
theorem nar1 : narrow .boolean (.int (nI 1)) = .int (nI 1) := rfl
theorem narB (b : Bool) : narrow .boolean (.int (nI b.toNat)) = .int (nI b.toNat) := by cases b <;> rfl
theorem fitB (b : Bool) : fits .boolean (.int (nI b.toNat)) = true := by cases b <;> rfl
theorem vnrB (b : Bool) : vp_nar .boolean (nI b.toNat) = nI b.toNat := by cases b <;> rfl
