/-! PART 22: the model's small methods -/
theorem bI0 {b : Bool} : nI b.toNat = 0 ↔ b = false := by cases b <;> decide
theorem bI1 {b : Bool} : nI b.toNat = nI 1 ↔ b = true := by cases b <;> decide
def MB (S : Mem) (b : Bk) : Prop := S 0 4 = nI b.n ∧ ∀ w, w < b.n → S 3 w = nI (b.len w) ∧ S 4 w = nI (b.of w) ∧ ∀ i, i < b.len w → S 1 (5 * w + i) = nI (b.sg w i) ∧ S 2 (5 * w + i) = nI (b.sd w i)
def MC (S : Mem) (b : Bk) : Prop := (∀ k, k < 100 → S 6 k = nI (bk_has b k)) ∧ (∀ s, s < 10 → S 7 s = oI (bk_comm b s)) ∧ ∀ w, w < b.n → S 8 w = nI (bk_reg b w).toNat
section MOD0
variable {l : Launch} {g : Geo} {S : Mem} {b : Bk} {K : Int32 → Mem → Prop}
theorem c_X12_in {v lo hi : Int64} (h1 : lo ≤ v → v ≤ hi → K (nI 1) S) (h0 : ¬ (lo ≤ v ∧ v ≤ hi) → K (nI 0) S) : MWi l g shM m_X12_in [.long v, .long lo, .long hi] S K := by
  refine MWi.intro _ rfl (Nat.le_of_ble_eq_true rfl) rfl (fun x ok => s_X12_in_0 ok _ _ _ S ⟨fun c => h0 ?_, fun c => ⟨fun d => h0 ?_, fun d => h1 ?_ ?_⟩⟩)
  · rw [lg_cmp_lt, fa_lt64] at c
    rw [fa_le64, fa_le64]; omega
  · rw [lg_cmp_gt, fa_lt64] at d
    rw [fa_le64, fa_le64]; omega
  · rw [lg_cmp_lt, fa_lt64] at c
    rw [fa_le64]; omega
  · rw [lg_cmp_gt, fa_lt64] at d
    rw [fa_le64]; omega
theorem c_X12_inN {v : Int32} {lo hi : Nat} (hq : lo ≤ hi ∧ hi < 2 ^ 31) (h1 : ∀ j, lo ≤ j → j ≤ hi → v = nI j → K (nI 1) S) (h0 : (∀ j, lo ≤ j → j ≤ hi → ¬ v = nI j) → K (nI 0) S) : MWi l g shM m_X12_in [.long v.toInt64, .long (lN lo), .long (lN hi)] S K := by
  obtain ⟨hl, hh⟩ := hq
  have e1 : (lN hi).toInt = hi := lN_toInt hh
  refine c_X12_in (fun a c => ?_) (fun a => h0 fun j q1 q2 e => a ?_)
  · rw [fa_le64, Int32.toInt_toInt64, lN_toInt (by omega)] at a
    rw [fa_le64, Int32.toInt_toInt64, e1] at c
    have h : ¬ v < 0 := by rw [fa_lt]; show ¬ v.toInt < 0; omega
    obtain ⟨j, hj, rfl⟩ := nI_of h
    rw [nI_toInt hj] at a c
    exact h1 j (by omega) (by omega) rfl
  · subst e
    rw [fa_le64, fa_le64, Int32.toInt_toInt64, e1, lN_toInt (by omega), nI_toInt (by omega)]
    omega
theorem c_X12_isSign {v : Int32} (h1 : ∀ j, j < 10 → v = nI j → K (nI 1) S) (h0 : (∀ j, j < 10 → ¬ v = nI j) → K (nI 0) S) : MWi l g shM m_X12_isSign [.int v] S K :=
  MWi.intro _ rfl (Nat.le_of_ble_eq_true rfl) rfl (fun x ok => s_X12_isSign_0 ok _ S (c_X12_inN (by decide) (fun j _ q e => ⟨nar1, h1 j (by omega) e⟩) (fun h => ⟨nar0, h0 fun j hj => h j (by omega) (by omega)⟩)))
theorem c_X12_isChild {v : Int32} (h1 : ∀ j, j < 4 → v = nI j → K (nI 1) S) (h0 : (∀ j, j < 4 → ¬ v = nI j) → K (nI 0) S) : MWi l g shM m_X12_isChild [.int v] S K :=
  MWi.intro _ rfl (Nat.le_of_ble_eq_true rfl) rfl (fun x ok => s_X12_isChild_0 ok _ S (c_X12_inN (by decide) (fun j _ q e => ⟨nar1, h1 j (by omega) e⟩) (fun h => ⟨nar0, h0 fun j hj => h j (by omega) (by omega)⟩)))
theorem c_X12_isEnd {v : Int32} (h1 : ∀ j, j < 2 → v = nI j → K (nI 1) S) (h0 : (∀ j, j < 2 → ¬ v = nI j) → K (nI 0) S) : MWi l g shM m_X12_isEnd [.int v] S K :=
  MWi.intro _ rfl (Nat.le_of_ble_eq_true rfl) rfl (fun x ok => s_X12_isEnd_0 ok _ S (c_X12_inN (by decide) (fun j _ q e => ⟨nar1, h1 j (by omega) e⟩) (fun h => ⟨nar0, h0 fun j hj => h j (by omega) (by omega)⟩)))
theorem c_X12_isOften {v : Int32} (h1 : ∀ j, 1 ≤ j → j ≤ 999 → v = nI j → K (nI 1) S) (h0 : (∀ j, 1 ≤ j → j ≤ 999 → ¬ v = nI j) → K (nI 0) S) : MWi l g shM m_X12_isOften [.int v] S K :=
  MWi.intro _ rfl (Nat.le_of_ble_eq_true rfl) rfl (fun x ok => s_X12_isOften_0 ok _ S (c_X12_inN (by decide) (fun j p q e => ⟨nar1, h1 j p q e⟩) (fun h => ⟨nar0, h0 h⟩)))
/-- the model's range test below a number that may be 0 -/
theorem c_X12_inB {v : Int32} {n : Nat} (hn : n < 2 ^ 31) (h1 : ∀ j, j < n → v = nI j → K (nI 1) S) (h0 : (∀ j, j < n → ¬ v = nI j) → K (nI 0) S) : MWi l g shM m_X12_in [.long v.toInt64, .long (lN 0), .long (nI n - nI 1).toInt64] S K := by
  rcases Nat.eq_zero_or_pos n with q | q
  · subst q
    refine c_X12_in (fun a c => absurd a ?_) (fun _ => h0 fun j q => by omega)
    intro a
    have h1 := Int64.le_trans a c
    exact absurd h1 (by decide)
  · rw [pk_sub q, nI_l (by omega)]
    exact c_X12_inN ⟨by omega, by omega⟩ (fun j _ q e => h1 j (by omega) e) (fun h => h0 fun j hj => h j (by omega) (by omega))
theorem c_X12_isWord {v : Int32} (hb : BOk b) (hM : MB S b) (h1 : ∀ w, w < b.n → v = nI w → K (nI 1) S) (h0 : (∀ w, w < b.n → ¬ v = nI w) → K (nI 0) S) : MWi l g shM m_X12_isWord [.ref (g.ad 0), .int v] S K := by
  refine MWi.intro _ rfl (Nat.le_of_ble_eq_true rfl) rfl (fun x ok => s_X12_isWord_0 ok _ S ?_)
  rw [hM.1]
  have hn := hb.1
  exact c_X12_inB (by omega) (fun j q e => ⟨nar1, h1 j q e⟩) (fun h => ⟨nar0, h0 h⟩)
theorem c_X12_isRegular {w : Nat} (hb : BOk b) (hC : MC S b) (hw : w < b.n) (hk : K (nI (bk_reg b w).toNat) S) : MWi l g shM m_X12_isRegular [.ref (g.ad 0), .int (nI w)] S K := by
  have hn := hb.1
  refine MWi.intro _ rfl (Nat.le_of_ble_eq_true rfl) rfl (fun x ok => s_X12_isRegular_0 ok _ S ⟨inI (by omega) (by decide), ?_⟩)
  simp (disch := omega) only [cl, nI_clamp, hC.2.2 w hw]
  cases h : bk_reg b w <;> rw [h] at hk
  · exact ⟨fun _ => hk, fun c => absurd c (by decide)⟩
  · exact ⟨fun c => absurd rfl c, fun _ => hk⟩
theorem c_X12_signsOf {w : Nat} (hb : BOk b) (hM : MB S b) (hw : w < b.n) (hk : K (nI (bk_bits b w)) S) : MWi l g shM m_X12_signsOf [.ref (g.ad 0), .int (nI w)] S K := by
  have hn := hb.1
  obtain ⟨h1, h2, h3, h4, h5⟩ := hb.2 w hw
  obtain ⟨e1, e2, e3⟩ := hM.2 w hw
  refine MWi.intro _ rfl (Nat.le_of_ble_eq_true rfl) rfl (fun x ok => s_X12_signsOf_0 ok _ S ?_)
  refine lpU (fun i => PW l x g shM m_X12_signsOf (Qi x g shM K) 4 [(0, .ref (g.ad 0)), (1, .int (nI w)), (2, .int (nI (orB (fun i => 2 ^ b.sg w i) i))), (3, .int (nI i))] [] S) (b.len w) ?_ (fun i hi ih => ?_) 0 (Nat.zero_le _)
  · refine s_X12_signsOf_4 ok _ _ _ S ⟨inI (by omega) (by decide), fun _ => hk, fun c => absurd ?_ c⟩
    simp (disch := omega) only [cl, nI_clamp, e1, nI_leI, Nat.le_refl]
  · obtain ⟨q1, q2⟩ := h5 i hi
    refine s_X12_signsOf_4 ok _ _ _ S ⟨inI (by omega) (by decide), fun c => absurd c ?_, fun c => ⟨?_, ?_⟩⟩
    · simp (disch := omega) only [cl, nI_clamp, e1, nI_leI]; omega
    · simp (disch := omega) only [pk_mul, nI_add]
      exact inI (by omega) (by decide)
    · simp (disch := omega) only [pk_mul, nI_add, cl, nI_clamp, (e3 i hi).1, jshl_1, fa_or]
      exact ih
end MOD0
