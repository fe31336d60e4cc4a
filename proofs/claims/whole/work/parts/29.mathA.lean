/-! PART 29: answers, tests, spelling -/
abbrev An : Type := Nat × (Nat → Nat) × (Nat → Bool)
abbrev An.n (a : An) : Nat := a.1
abbrev An.w (a : An) (k : Nat) : Nat := a.2.1 k
abbrev An.r (a : An) (k : Nat) : Bool := a.2.2 k
def AnOk (b : Bk) (a : An) : Prop := a.n ≤ 20 ∧ ∀ k, k < a.n → a.w k < b.n
def rrt (b : Bk) (lack w : Nat) : Bool := bk_reg b w && decide (bk_bits b w &&& lack = 0)
def mlk (b : Bk) (a : An) (lack : Nat) : Bool := alB (fun k => rrt b lack (a.w k) == a.r k) a.n
def mayN (b : Bk) (a : An) (signs : Nat) : Nat := fb_ct (fun set => decide (sub signs set) && mlk b a set) 1024
def rgt (b : Bk) (a : An) (w : Nat) : Nat := fb_ct (fun set => rrt b set w && mlk b a set) 1024
def lsr (b : Bk) (a : An) (w : Nat) : Nat := if rgt b a w < mayN b a 0 - rgt b a w then rgt b a w else mayN b a 0 - rgt b a w
def tllO (b : Bk) (a : An) (n : Nat) : Option Nat := am (fun _ => true) (lsr b a) n
theorem rgt_le (b : Bk) (a : An) (w : Nat) : rgt b a w ≤ mayN b a 0 := by
  unfold rgt mayN
  refine fb_ct_sub (fun k _ h => ?_)
  rw [Bool.and_eq_true] at h
  rw [h.2]
  simp [sub]
theorem mayN_le (b : Bk) (a : An) (s : Nat) : mayN b a s ≤ 1024 := fb_ct_le _ _
def colm (b : Bk) (s : Nat) : Nat := orB (fun w => if (bk_reg b w && (bk_bits b w).testBit s) = true then 2 ^ w else 0) b.n
def regB (b : Bk) : Nat := orB (fun w => if bk_reg b w = true then 2 ^ w else 0) b.n
def tpr (b : Bk) (test : Nat) (x y : Nat) : Bool := decide ((colm b x ^^^ colm b y) &&& regB b = 0) || !decide ((colm b x ^^^ colm b y) &&& test = 0)
def tla (b : Bk) (test : Nat) : Bool := alB (fun x => alB (tpr b test x) x) 11
def tstO (b : Bk) (n : Nat) : Option Nat := am (fun t => decide (sub t (regB b)) && tla b t) (fun t => 12 - pc t) n
theorem orb2_lt {n : Nat} (hn : n ≤ 12) (p : Nat → Bool) : orB (fun w => if p w = true then 2 ^ w else 0) n < 4096 := orB_lt (k := 12) (fun i hi => by
  split
  · exact Nat.pow_lt_pow_right (by decide) (by omega)
  · exact Nat.two_pow_pos 12)
theorem orb2_bit {n : Nat} {p : Nat → Bool} {j : Nat} : (orB (fun w => if p w = true then 2 ^ w else 0) n).testBit j = true ↔ j < n ∧ p j = true := by
  rw [orB_bit]
  constructor
  · rintro ⟨i, h1, h2⟩
    split at h2
    · rename_i h
      rw [Nat.testBit_two_pow] at h2
      simp only [decide_eq_true_eq] at h2
      subst h2
      exact ⟨h1, h⟩
    · simp at h2
  · rintro ⟨h1, h2⟩
    exact ⟨j, h1, by rw [if_pos h2, Nat.testBit_two_pow]; simp⟩
/-- the first one of the greatest below n, 0 if none -/
def amz (f : Nat → Nat) : Nat → Nat
  | 0 => 0
  | n + 1 => if f (amz f n) < f n then n else amz f n
theorem amz_ok {f : Nat → Nat} : ∀ {n : Nat}, amz f (n + 1) < n + 1 ∧ ∀ i, i < n + 1 → f i < f (amz f (n + 1)) ∨ (f i = f (amz f (n + 1)) ∧ amz f (n + 1) ≤ i)
  | 0 => by
    have e : amz f 1 = 0 := by simp [amz]
    rw [e]
    exact ⟨by omega, fun i hi => Or.inr ⟨by rw [show i = 0 by omega], by omega⟩⟩
  | n + 1 => by
    obtain ⟨h1, h2⟩ := amz_ok (f := f) (n := n)
    rw [amz]
    split
    · rename_i q
      refine ⟨by omega, fun i hi => ?_⟩
      rcases Nat.lt_or_ge i (n + 1) with r | r
      · rcases h2 i r with z | z <;> exact Or.inl (by omega)
      · exact Or.inr ⟨by rw [show i = n + 1 by omega], by omega⟩
    · rename_i q
      refine ⟨by omega, fun i hi => ?_⟩
      rcases Nat.lt_or_ge i (n + 1) with r | r
      · exact h2 i r
      · have : i = n + 1 := by omega
        subst this
        omega
theorem amz_am {f : Nat → Nat} {n : Nat} (h : ∃ i, i < n ∧ 0 < f i) : am (fun i => decide (0 < f i)) f n = some (amz f n) := by
  obtain ⟨i, hi, hp⟩ := h
  obtain ⟨m, rfl⟩ : ∃ m, n = m + 1 := ⟨n - 1, by omega⟩
  obtain ⟨h1, h2⟩ := amz_ok (f := f) (n := m)
  refine am_uniq h1 ?_ (fun j hj _ => h2 j hj)
  have := h2 i hi
  simp only [decide_eq_true_eq]
  omega
def rsp (b : Bk) (w i : Nat) : Nat := amz (fun s => bk_has b (10 * s + b.sd w i)) 10
theorem rsp_lt (b : Bk) (w i : Nat) : rsp b w i < 10 := amz_ok.1
def prc1 (b : Bk) (w i : Nat) : Nat := if rsp b w i = b.sg w i then 0 else b.of w
def prcW (b : Bk) (w : Nat) : Nat := fb_sm (prc1 b w) (b.len w)
def prcN (b : Bk) : Nat := fb_sm (prcW b) b.n
def csh (b : Bk) (x y : Nat) : Bool := decide (b.len x = b.len y) && alB (fun i => decide (rsp b x i = rsp b y i)) (b.len x)
/-- the first other word behind x that is spelt like x -/
def cshX (b : Bk) (x : Nat) : Option Nat := fm (fun y => decide (x < y) && csh b x y) b.n
def cshO (b : Bk) : Option Nat := match fm (fun x => (cshX b x).isSome) b.n with
  | none => none
  | some x => some (100 * x + (cshX b x).getD 0)
theorem cshO_some {b : Bk} {x y : Nat} (h1 : ∀ z, z < x → cshX b z = none) (h2 : cshX b x = some y) (hx : x < b.n) : cshO b = some (100 * x + y) := by
  unfold cshO
  have : fm (fun x => (cshX b x).isSome) b.n = some x := fm_some.mpr ⟨hx, by simp [h2], fun j hj => by simp [h1 j hj]⟩
  rw [this]
  dsimp only
  rw [h2]
  rfl
theorem cshO_none {b : Bk} (h1 : ∀ z, z < b.n → cshX b z = none) : cshO b = none := by
  unfold cshO
  have : fm (fun x => (cshX b x).isSome) b.n = none := fm_none.mpr (fun j hj => by simp [h1 j hj])
  rw [this]
theorem prcW_le {b : Bk} (hb : BOk b) {w : Nat} (hw : w < b.n) : prcW b w ≤ 4995 := by
  obtain ⟨h1, h2, h3, h4, h5⟩ := hb.2 w hw
  have h := sm_le (f := prc1 b w) (c := 999) (n := b.len w) (fun i hi => by unfold prc1; split <;> omega)
  unfold prcW
  have : b.len w * 999 ≤ 5 * 999 := Nat.mul_le_mul_right _ h2
  omega
theorem prcS_le {b : Bk} (hb : BOk b) {n : Nat} (hn : n ≤ b.n) : fb_sm (prcW b) n ≤ 59940 := by
  have h := sm_le (f := prcW b) (c := 4995) (n := n) (fun w hw => prcW_le hb (by omega))
  have := hb.1
  have : n * 4995 ≤ 12 * 4995 := Nat.mul_le_mul_right _ (by omega)
  omega
