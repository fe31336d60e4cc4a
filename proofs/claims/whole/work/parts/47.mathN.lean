/-! PART 47: parts of a set in their order; rows of just the words of a set -/
theorem and_two (a b : Nat) : a &&& b = 2 * (a / 2 &&& b / 2) + (if a % 2 = 1 ∧ b % 2 = 1 then 1 else 0) := by
  have h1 := Nat.and_div_two (a := a) (b := b)
  have h2 := Nat.and_mod_two_eq_one (a := a) (b := b)
  by_cases h : a % 2 = 1 ∧ b % 2 = 1
  · rw [if_pos h]
    have := h2.mpr h
    omega
  · rw [if_neg h]
    have : ¬ (a &&& b) % 2 = 1 := fun q => h (h2.mp q)
    omega
theorem sub_two {a b : Nat} (h : sub a b) : sub (a / 2) (b / 2) ∧ (a % 2 = 1 → b % 2 = 1) := by
  have h1 := and_two a b
  unfold sub at h ⊢
  rw [h] at h1
  constructor
  · split at h1 <;> omega
  · intro h2
    rcases Nat.mod_two_eq_zero_or_one b with q | q
    · rw [if_neg (by omega)] at h1
      omega
    · exact q
/-- of the parts of R that are less than D, which is one: the greatest -/
theorem part_below : ∀ (R D E : Nat), sub D R → 0 < D → sub E R → E < D → E ≤ (D - 1) &&& R := by
  intro R
  induction R using Nat.strongRecOn with
  | _ R ih =>
    intro D E hD h0 hE hlt
    obtain ⟨d1, d2⟩ := sub_two hD
    obtain ⟨e1, e2⟩ := sub_two hE
    have hR : 0 < R := by
      rcases Nat.eq_zero_or_pos R with q | q
      · subst q
        unfold sub at hD
        rw [Nat.and_zero] at hD
        omega
      · exact q
    have h1 := and_two (D - 1) R
    rcases Nat.mod_two_eq_zero_or_one D with q | q
    · have i1 := ih (R / 2) (by omega) (D / 2) (E / 2) d1 (by omega) e1 (by omega)
      have i2 : (D - 1) / 2 = D / 2 - 1 := by omega
      rw [i2] at h1
      by_cases r : R % 2 = 1
      · rw [if_pos ⟨by omega, r⟩] at h1
        omega
      · rw [if_neg (fun z => r z.2)] at h1
        have : ¬ E % 2 = 1 := fun z => r (e2 z)
        omega
    · have i2 : (D - 1) / 2 = D / 2 := by omega
      rw [i2, d1, if_neg (by omega)] at h1
      omega
theorem sub_xor_add : ∀ (b a : Nat), sub a b → a + (b ^^^ a) = b := by
  intro b
  induction b using Nat.strongRecOn with
  | _ b ih =>
    intro a h
    rcases Nat.eq_zero_or_pos b with q | q
    · subst q
      unfold sub at h
      rw [Nat.and_zero] at h
      subst h; rfl
    · obtain ⟨h1, h2⟩ := sub_two h
      have i1 := ih (b / 2) (by omega) (a / 2) h1
      have x1 : (b ^^^ a) / 2 = b / 2 ^^^ a / 2 := Nat.xor_div_two
      have x2 : (b ^^^ a) % 2 = (b % 2 + a % 2) % 2 := by
        have h3 := Nat.testBit_xor b a 0
        have e : ∀ n, Nat.testBit n 0 = decide (n % 2 = 1) := fun n => Nat.testBit_zero n
        rw [e, e, e] at h3
        rcases Nat.mod_two_eq_zero_or_one b with p | p <;> rcases Nat.mod_two_eq_zero_or_one a with r | r <;> rcases Nat.mod_two_eq_zero_or_one (b ^^^ a) with u | u <;> rw [p, r, u] at h3 <;> revert h3 <;> rw [p, r, u] <;> decide
      rcases Nat.mod_two_eq_zero_or_one a with p | p
      · omega
      · have := h2 p
        omega
/-- the next part of R by number -/
def nxw (set R : Nat) : Nat := (2 ^ 32 - (R ^^^ set)) &&& R
theorem nxw_ok {set R : Nat} (hR : R < 4096) (h : sub set R) (hne : set ≠ R) : sub (nxw set R) R ∧ set < nxw set R ∧ ∀ T, sub T R → set < T → nxw set R ≤ T := by
  have hx := sub_xor_add R set h
  obtain ⟨D, hD⟩ : ∃ D, R ^^^ set = D + 1 := ⟨(R ^^^ set) - 1, by omega⟩
  have hb : ∀ i, (nxw set R).testBit i = (R.testBit i && !D.testBit i) := by
    intro i
    unfold nxw
    rw [hD, Nat.testBit_and, Nat.testBit_two_pow_sub_succ (by omega)]
    by_cases hi : i < 32
    · rw [decide_eq_true hi, Bool.true_and, Bool.and_comm]
    · rw [decide_eq_false hi, Nat.testBit_lt_two_pow (Nat.lt_of_lt_of_le hR (Nat.le_trans (by decide : (4096 : Nat) ≤ 2 ^ 32) (Nat.pow_le_pow_right (by decide) (by omega : 32 ≤ i))))]
      rfl
  have hs : sub (nxw set R) R := sub_iff.mpr (fun i hi => by
    rw [hb] at hi
    simp only [Bool.and_eq_true] at hi
    exact hi.1)
  have hc : R ^^^ nxw set R = D &&& R := by
    apply Nat.eq_of_testBit_eq
    intro i
    rw [Nat.testBit_xor, hb, Nat.testBit_and]
    cases R.testBit i <;> cases D.testBit i <;> rfl
  have hx2 := sub_xor_add R _ hs
  rw [hc] at hx2
  have hle : D &&& R ≤ D := Nat.and_le_left
  have hsD : sub (R ^^^ set) R := sub_iff.mpr (fun i hi => by
    rw [Nat.testBit_xor] at hi
    cases hr : R.testBit i with
    | true => rfl
    | false =>
      rw [hr] at hi
      cases hs2 : set.testBit i with
      | false => rw [hs2] at hi; cases hi
      | true => rw [sub_iff.mp h i hs2] at hr; cases hr)
  refine ⟨hs, by omega, fun T hT hlt => ?_⟩
  have hx3 := sub_xor_add R T hT
  have hsT : sub (R ^^^ T) R := sub_iff.mpr (fun i hi => by
    rw [Nat.testBit_xor] at hi
    cases hr : R.testBit i with
    | true => rfl
    | false =>
      rw [hr] at hi
      cases hs2 : T.testBit i with
      | false => rw [hs2] at hi; cases hi
      | true => rw [sub_iff.mp hT i hs2] at hr; cases hr)
  have := part_below R (R ^^^ set) (R ^^^ T) hsD (by omega) hsT (by omega)
  rw [hD, Nat.add_sub_cancel] at this
  omega
theorem sub_le {a b : Nat} (h : sub a b) : a ≤ b := by
  unfold sub at h
  have : a &&& b ≤ b := Nat.and_le_right
  omega
theorem nI_wrap (n : Nat) : nI (2 ^ 32 + n) = nI n := by
  apply Int32.toBitVec_inj.1
  show BitVec.ofNat 32 (2 ^ 32 + n) = BitVec.ofNat 32 n
  apply BitVec.eq_of_toNat_eq
  simp
theorem nxw_I {set R : Nat} (hR : R < 4096) (h : sub set R) : (nI set - nI R) &&& nI R = nI (nxw set R) := by
  have hx := sub_xor_add R set h
  have e : nI set - nI R = nI (2 ^ 32 - (R ^^^ set)) := by
    have : nI (2 ^ 32 - (R ^^^ set)) + nI R = nI set := by
      rw [nI_add, ← nI_wrap set]
      congr 1
      omega
    rw [← this, Int32.add_sub_cancel]
  rw [e, fa_and]
  rfl
/-- which words can stand behind w -/
def beh (b : Bk) (w : Nat) : Nat := orB (fun v => if fol b w v = true then 2 ^ v else 0) b.n
theorem beh_bit {b : Bk} {w v : Nat} : (beh b w).testBit v = true ↔ v < b.n ∧ fol b w v = true := orb2_bit
/-- with which words a row of just those of T can begin -/
def stP (b : Bk) (st : Nat → Nat) (T w : Nat) : Bool := T.testBit w && (decide (T ^^^ 2 ^ w = 0) || decide (¬ st (T ^^^ 2 ^ w) &&& beh b w = 0))
def stF (b : Bk) : Nat → Nat → Nat
  | 0, _ => 0
  | f + 1, T => orB (fun w => if stP b (stF b f) T w = true then 2 ^ w else 0) b.n
theorem xor_less {T w : Nat} (h : T.testBit w = true) : T ^^^ 2 ^ w < T := by
  have : sub (2 ^ w) T := sub_iff.mpr (fun i hi => by
    rw [Nat.testBit_two_pow, decide_eq_true_eq] at hi
    subst hi; exact h)
  have h1 := sub_xor_add T (2 ^ w) this
  have := Nat.two_pow_pos w
  omega
theorem orB_cong {f h : Nat → Nat} : ∀ {n : Nat}, (∀ i, i < n → f i = h i) → orB f n = orB h n
  | 0, _ => rfl
  | n + 1, e => by rw [orB, orB, orB_cong (fun i hi => e i (by omega)), e n (by omega)]
theorem stF_fuel {b : Bk} : ∀ (f f2 T : Nat), T < f → T < f2 → stF b f T = stF b f2 T
  | 0, f2, T, h, h2 => by omega
  | f + 1, 0, T, h, h2 => by omega
  | f + 1, f2 + 1, T, h, h2 => by
    rw [stF, stF]
    apply orB_cong
    intro w hw
    unfold stP
    cases ht : T.testBit w with
    | false => rfl
    | true =>
      have := xor_less ht
      rw [stF_fuel f f2 (T ^^^ 2 ^ w) (by omega) (by omega)]
def st (b : Bk) (T : Nat) : Nat := stF b 4096 T
theorem st_eq {b : Bk} {T : Nat} (h : T < 4096) : st b T = orB (fun w => if stP b (st b) T w = true then 2 ^ w else 0) b.n := by
  unfold st
  rw [stF]
  apply orB_cong
  intro w hw
  unfold stP
  cases ht : T.testBit w with
  | false => rw [Bool.false_and, Bool.false_and]
  | true =>
    have := xor_less ht
    rw [stF_fuel 4095 4096 (T ^^^ 2 ^ w) (by omega) (by omega)]
theorem st_bit {b : Bk} {T w : Nat} (h : T < 4096) : (st b T).testBit w = true ↔ w < b.n ∧ stP b (st b) T w = true := by
  rw [st_eq h]; exact orb2_bit
theorem st_lt {b : Bk} (hn : b.n ≤ 12) (T : Nat) : st b T < 4096 := by
  unfold st
  rw [stF]
  exact Nat.lt_of_lt_of_le (orB_lt (k := b.n) (fun i hi => by
    split
    · exact Nat.pow_lt_pow_right (by decide) hi
    · exact Nat.two_pow_pos _)) (Nat.pow_le_pow_right (n := 2) (by decide) hn)
theorem and_ne0 {a c : Nat} : ¬ a &&& c = 0 ↔ ∃ v, a.testBit v = true ∧ c.testBit v = true := by
  constructor
  · intro h
    obtain ⟨v, hv⟩ := Nat.exists_testBit_of_ne_zero h
    rw [Nat.testBit_and, Bool.and_eq_true] at hv
    exact ⟨v, hv⟩
  · rintro ⟨v, h1, h2⟩ h
    have : (a &&& c).testBit v = true := by rw [Nat.testBit_and, h1, h2]; rfl
    rw [h, Nat.zero_testBit] at this
    cases this
theorem xor_off {T w : Nat} (h : T.testBit w = true) (i : Nat) : (T ^^^ 2 ^ w).testBit i = (T.testBit i && !decide (w = i)) := by
  rw [xor_bit]
  by_cases e : w = i
  · subst e; rw [h]; simp
  · simp [e]
theorem pc_off {T w : Nat} (hw : w < 12) (h : T.testBit w = true) : pc T = pc (T ^^^ 2 ^ w) + 1 := by
  have h1 : (T ^^^ 2 ^ w).testBit w = false := by rw [xor_off h]; simp
  have h2 : (T ^^^ 2 ^ w) ||| 2 ^ w = T := by
    apply Nat.eq_of_testBit_eq
    intro i
    rw [fb_bit_set, xor_off h]
    by_cases e : w = i
    · subst e; simp [h]
    · have e2 : ¬ i = w := fun q => e q.symm
      simp [e, e2]
  rw [← pc_or hw h1, h2]
theorem pc_0 : pc 0 = 0 := by decide +kernel
/-- a row of just T that begins with w is no longer than the longest -/
theorem st_most {b : Bk} {rb : Nat → Bool} (hn : b.n ≤ 12) : ∀ (T U w : Nat), T < 4096 → U < 4096 → (∀ v, T.testBit v = true → v < b.n ∧ rb v = true ∧ U.testBit v = false) → (st b T).testBit w = true → pc T ≤ 1 + mc b rb (U ||| 2 ^ w) w := by
  intro T
  induction T using Nat.strongRecOn with
  | _ T ih =>
    intro U w hT hU hv hs
    obtain ⟨hw, hp⟩ := (st_bit hT).mp hs
    unfold stP at hp
    rw [Bool.and_eq_true, Bool.or_eq_true, decide_eq_true_eq, decide_eq_true_eq, and_ne0] at hp
    obtain ⟨hTw, hp⟩ := hp
    have hpc := pc_off (by omega) hTw
    rcases hp with hp | ⟨v, h1, h2⟩
    · rw [hp, pc_0] at hpc; omega
    · have hless := xor_less hTw
      have hU2 : U ||| 2 ^ w < 4096 := or_lt (k := 12) hU (by omega)
      have i1 := ih (T ^^^ 2 ^ w) hless (U ||| 2 ^ w) v (by omega) hU2 (fun i hi => by
        rw [xor_off hTw, Bool.and_eq_true] at hi
        obtain ⟨a1, a2, a3⟩ := hv i hi.1
        refine ⟨a1, a2, ?_⟩
        rw [fb_bit_set, a3]
        have := hi.2
        simp at this
        simp
        exact fun q => this q.symm) h1
      obtain ⟨hvn, hfo⟩ := beh_bit.mp h2
      have hTv : (T ^^^ 2 ^ w).testBit v = true := by
        have := ((st_bit (by omega)).mp h1).2
        unfold stP at this
        rw [Bool.and_eq_true] at this
        exact this.1
      have hTv2 := hTv
      rw [xor_off hTw, Bool.and_eq_true] at hTv2
      obtain ⟨a1, a2, a3⟩ := hv v hTv2.1
      have hge := mxS_ge (f := mcs b rb (U ||| 2 ^ w) w) hvn
      rw [← mc_eq hn hU2] at hge
      have hcs : mcs b rb (U ||| 2 ^ w) w v = 1 + mc b rb (U ||| 2 ^ w ||| 2 ^ v) v := by
        unfold mcs
        rw [if_pos]
        rw [fb_bit_set, a3, a2, hfo]
        have := hTv2.2
        simp at this
        simp
        exact fun q => this q.symm
      omega
theorem st_one {b : Bk} {w : Nat} (hn : b.n ≤ 12) (hw : w < b.n) : (st b (2 ^ w)).testBit w = true := by
  have h : 2 ^ w < 4096 := Nat.pow_lt_pow_right (n := 12) (a := 2) (by decide) (by omega)
  refine (st_bit h).mpr ⟨hw, ?_⟩
  unfold stP
  rw [Nat.testBit_two_pow, Nat.xor_self]
  simp
/-- and some row is as long -/
theorem st_some {b : Bk} {rb : Nat → Bool} (hn : b.n ≤ 12) : ∀ (d U w : Nat), 4096 ≤ d + U → U < 4096 → w < b.n → rb w = true → U.testBit w = false → ∃ T, T < 4096 ∧ (∀ v, T.testBit v = true → v < b.n ∧ rb v = true ∧ U.testBit v = false) ∧ (st b T).testBit w = true ∧ pc T = 1 + mc b rb (U ||| 2 ^ w) w
  | 0, U, w, h, hU, _, _, _ => by omega
  | d + 1, U, w, h, hU, hw, hr, hu => by
    have hU2 : U ||| 2 ^ w < 4096 := or_lt (k := 12) hU (by omega)
    have hgt := or_gt hu
    have hp1 : pc (2 ^ w) = 1 := by
      have := pc_off (T := 2 ^ w) (w := w) (by omega) (by rw [Nat.testBit_two_pow]; simp)
      rw [Nat.xor_self, pc_0] at this
      exact this
    have single : mc b rb (U ||| 2 ^ w) w = 0 → ∃ T, T < 4096 ∧ (∀ v, T.testBit v = true → v < b.n ∧ rb v = true ∧ U.testBit v = false) ∧ (st b T).testBit w = true ∧ pc T = 1 + mc b rb (U ||| 2 ^ w) w := by
      intro h0
      refine ⟨2 ^ w, Nat.pow_lt_pow_right (n := 12) (a := 2) (by decide) (by omega), fun v hv => ?_, st_one hn hw, by rw [h0, hp1]⟩
      rw [Nat.testBit_two_pow, decide_eq_true_eq] at hv
      subst hv
      exact ⟨hw, hr, hu⟩
    rcases mxS_at (f := mcs b rb (U ||| 2 ^ w) w) (n := b.n) with q | ⟨v, hv, he⟩
    · rw [← mc_eq hn hU2] at q
      exact single q
    · rw [← mc_eq hn hU2] at he
      by_cases h0 : mc b rb (U ||| 2 ^ w) w = 0
      · exact single h0
      · unfold mcs at he
        split at he
        · rename_i hc
          simp only [Bool.and_eq_true, Bool.not_eq_true'] at hc
          obtain ⟨c1, c2, c3⟩ := hc
          obtain ⟨T, t1, t2, t3, t4⟩ := st_some (rb := rb) hn d (U ||| 2 ^ w) v (by omega) hU2 hv c2 c1
          have tw : T.testBit w = false := by
            cases q : T.testBit w with
            | false => rfl
            | true =>
              have := (t2 w q).2.2
              rw [fb_bit_set] at this
              simp at this
          have hxor : (T ||| 2 ^ w) ^^^ 2 ^ w = T := by
            apply Nat.eq_of_testBit_eq
            intro i
            rw [xor_bit, fb_bit_set]
            by_cases e : w = i
            · subst e; simp [tw]
            · have e2 : ¬ i = w := fun q => e q.symm
              simp [e, e2]
          have hlt : T ||| 2 ^ w < 4096 := or_lt (k := 12) t1 (by omega)
          refine ⟨T ||| 2 ^ w, hlt, fun i hi => ?_, (st_bit hlt).mpr ⟨hw, ?_⟩, ?_⟩
          · rw [fb_bit_set, Bool.or_eq_true, decide_eq_true_eq] at hi
            rcases hi with hi | hi
            · obtain ⟨a1, a2, a3⟩ := t2 i hi
              rw [fb_bit_set, Bool.or_eq_false_iff] at a3
              exact ⟨a1, a2, a3.1⟩
            · subst hi; exact ⟨hw, hr, hu⟩
          · unfold stP
            rw [hxor, fb_bit_set, Bool.and_eq_true]
            refine ⟨by simp, (Bool.or_eq_true _ _).mpr <| Or.inr (decide_eq_true (and_ne0.mpr ⟨v, t3, beh_bit.mpr ⟨hv, c3⟩⟩))⟩
          · rw [pc_or (by omega) tw, t4, he]
            omega
        · omega
