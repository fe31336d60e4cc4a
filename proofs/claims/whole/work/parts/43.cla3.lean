/-! PART 43: the class: reading by itself -/
theorem tmS_full {b : Bk} : tmS b (2 ^ b.n - 1) = ofA b := by
  unfold tmS ofA
  apply sm_cong
  intro w hw
  rw [if_pos (by rw [Nat.testBit_two_pow_sub_one]; exact decide_eq_true hw)]
theorem its_end {b : Bk} {line : Nat} {W : Nat} (h : am (fun w => !W.testBit w) b.of b.n = none) : ∀ f, its b line f W = W
  | 0 => rfl
  | f + 1 => by
    rw [its, h]
    split <;> rfl
section CLA3
variable {l : Launch} {g : Geo} {S : Mem} {b : Bk} {K : Int32 → Mem → Prop}
theorem c_X6_atLast {W0 line : Nat} (hb : BOk b) (hX : XB S 4 b) (hU : XU S b) (hW : W0 < 2 ^ b.n) (hl : line ≤ 1000) (hk : K (nI (its b line 12 W0)) S) : MWi l g shX m_X6_readableAtLast [.ref (g.ad 25), .int (nI W0), .int (nI line)] S K := by
  have hn := hb.1
  have hp : ∀ W, W < 2 ^ b.n → W < 4096 := fun W h => Nat.lt_of_lt_of_le h (Nat.pow_le_pow_right (by decide) hn)
  have hpos : 0 < 2 ^ b.n := Nat.two_pow_pos _
  obtain ⟨f, hf, hs⟩ := hU.2.2.2.2.1
  have hall := ofA_le hb (Nat.le_refl b.n)
  have hml : line * ofA b ≤ 1000 * 11988 := Nat.mul_le_mul hl hall
  refine MWi.intro _ rfl (Nat.le_of_ble_eq_true rfl) rfl (fun x ok => s_X6_readableAtLast_0 ok _ _ S (c_X1_allWords hb hX (c_X1_timesOf hb hX (hp _ (by omega)) ?_)))
  rw [tmS_full]
  obtain ⟨R, hR⟩ : ∃ R, its b line 12 W0 = R := ⟨_, rfl⟩
  rw [hR] at hk
  refine lpU (fun i => ∀ W fu, W < 2 ^ b.n → (∀ j, j < i → W.testBit (f j) = true) → 12 ≤ fu + pc W → R = its b line fu W → PW l x g shX m_X6_readableAtLast (Qi x g shX K) 21 [(0, .ref (g.ad 25)), (2, .int (nI line)), (3, .int (nI (ofA b))), (4, .int (nI W)), (5, .int (nI i))] [] S) b.n ?_ (fun i hi ih => ?_) 0 (Nat.zero_le _) W0 12 hW (fun j hj => by omega) (by omega) hR.symm
  · intro W fu h1 h2 h3 h4
    refine s_X6_readableAtLast_21 ok _ _ _ _ S ⟨fun _ => ?_, fun c => absurd ?_ c⟩
    · have e : am (fun w => !W.testBit w) b.of b.n = none := am_none.mpr (fun w hw => by
        obtain ⟨j, hj, rfl⟩ := hf.onto hw
        simp [h2 j hj])
      rw [its_end e] at h4
      rw [h4] at hk
      exact hk
    · simp (disch := omega) only [hX.1, nI_leI, Nat.le_refl]
  · intro W fu h1 h2 h3 h4
    have hv := hf.1 i hi
    have h5 := hp W h1
    have htm := tmS_le hb W
    refine s_X6_readableAtLast_21 ok _ _ _ _ S ⟨fun c => absurd c ?_, fun _ => ⟨inI (by omega) (by decide), ?_⟩⟩
    · simp (disch := omega) only [hX.1, nI_leI]; omega
    simp (disch := omega) only [cl, nI_clamp, hs i hi]
    refine c_X11_hasBit (by omega) (by omega) ?_
    rw [bI0]
    refine ⟨fun y => c_X1_timesOf hb hX h5 ?_, fun y => ?_⟩
    · have e : am (fun w => !W.testBit w) b.of b.n = some (f i) := by
        rw [← hf.first, fm_some.mpr ⟨hi, by simp [y], fun j hj => by simp [h2 j hj]⟩]
        rfl
      have hpc := pc_lt hn e
      have hle := pc_le (W ||| 2 ^ f i)
      cases fu with
      | zero => omega
      | succ fu =>
        rw [its, e] at h4
        have hml2 : tmS b W * 1000 ≤ 11988 * 1000 := Nat.mul_le_mul htm (Nat.le_refl _)
        simp (disch := omega) only [pk_mul, nI_leI, nI_add, jshl_1, fa_or]
        refine ⟨fun z => ?_, fun z => ?_⟩
        · rw [if_neg (by omega)] at h4
          refine ih _ fu (or_lt h1 hv) (fun j hj => ?_) (by omega) h4
          rw [fb_bit_set]
          rcases Nat.lt_or_ge j i with q | q
          · rw [h2 j q]; rfl
          · have : j = i := by omega
            subst this; simp
        · rw [if_pos (by omega)] at h4
          rw [h4] at hk
          exact hk
    · rw [Bool.not_eq_false] at y
      rw [nI_add]
      refine ih W fu h1 (fun j hj => ?_) h3 h4
      rcases Nat.lt_or_ge j i with q | q
      · exact h2 j q
      · have : j = i := by omega
        subst this; exact y
theorem c_X6_highestLine {W : Nat} (hb : BOk b) (hX : XB S 4 b) (hW : W < 2 ^ b.n) (hk : K (nI (hln b W)) S) : MWi l g shX m_X6_highestLine [.ref (g.ad 25), .int (nI W)] S K := by
  have hn := hb.1
  have hp : ∀ W, W < 2 ^ b.n → W < 4096 := fun W h => Nat.lt_of_lt_of_le h (Nat.pow_le_pow_right (by decide) hn)
  have hpos : 0 < 2 ^ b.n := Nat.two_pow_pos _
  have hall : ofA b ≤ 11988 := ofA_le hb (Nat.le_refl b.n)
  have htm := tmS_le hb W
  have h5 := hp W hW
  have h6 := hp (2 ^ b.n - 1) (by omega)
  refine MWi.intro _ rfl (Nat.le_of_ble_eq_true rfl) rfl (fun x ok => s_X6_highestLine_0 ok _ S (c_X1_allWords hb hX (c_X1_timesOf hb hX h6 (c_X1_allWords hb hX ?_))))
  rw [tmS_full]
  unfold hln at hk
  simp (disch := omega) only [nI_eq, nI_0lt]
  refine ⟨fun y => ?_, fun y => ⟨fun z => c_X1_timesOf hb hX h5 ?_, fun z => ?_⟩⟩
  · rw [y, tmS_full, if_pos rfl] at hk
    exact hk
  · have hne : tmS b W < ofA b := by
      cases h : am (fun w => !W.testBit w) b.of b.n with
      | some v => exact tmS_less hb h
      | none =>
        exfalso
        apply y
        apply Nat.eq_of_testBit_eq
        intro i
        rw [Nat.testBit_two_pow_sub_one]
        rcases Nat.lt_or_ge i b.n with q | q
        · have := am_none.mp h i q
          simp only [Bool.not_eq_false'] at this
          rw [this, decide_eq_true q]
        · rw [decide_eq_false (by omega), Nat.testBit_lt_two_pow (Nat.lt_of_lt_of_le hW (Nat.pow_le_pow_right (by decide) q))]
    rw [if_neg (by omega)] at hk
    have hml2 : tmS b W * 1000 ≤ 11988 * 1000 := Nat.mul_le_mul htm (Nat.le_refl _)
    rw [pk_mul, pk_div (by omega) (by omega) (by omega), nI_eq0 (by omega), Nat.mul_comm]
    exact ⟨by omega, hk⟩
  · have h0 : tmS b W = ofA b := by
      have : tmS b W ≤ ofA b := fb_sm_le (fun w hw => by split <;> omega)
      omega
    rw [if_pos h0] at hk
    exact hk
end CLA3
