/-! PART 41: the class: the rule -/
theorem sm_single {d v : Nat} : ∀ {n : Nat}, fb_sm (fun u => if d = u then v else 0) n = if d < n then v else 0
  | 0 => by simp [fb_sm]
  | n + 1 => by
    rw [fb_sm_succ, sm_single]
    by_cases h1 : d < n
    · rw [if_pos h1, if_neg (by omega), if_pos (by omega)]; rfl
    · by_cases h2 : d = n
      · rw [if_neg h1, if_pos h2, if_pos (by omega)]; omega
      · rw [if_neg h1, if_neg h2, if_neg (by omega)]
theorem sm_swap {f : Nat → Nat → Nat} {m : Nat} : ∀ {n : Nat}, fb_sm (fun u => fb_sm (f u) m) n = fb_sm (fun w => fb_sm (fun u => f u w) n) m
  | 0 => by
    have : ∀ m, fb_sm (fun w => fb_sm (fun u => f u w) 0) m = 0 := by
      intro m
      induction m with
      | zero => rfl
      | succ m ih => rw [fb_sm_succ, ih]; rfl
    rw [this]; rfl
  | n + 1 => by
    rw [fb_sm_succ, sm_swap, ← fb_sm_add]
    apply sm_cong
    intro w _
    rw [fb_sm_succ]
def bk_pl (b : Bk) (s : Nat) : Nat := fb_sm (fun w => fb_sm (fun i => if b.sg w i = s then b.of w else 0) (b.len w)) b.n
theorem all_pl {b : Bk} (hb : BOk b) (s : Nat) : bk_all b s = bk_pl b s := by
  unfold bk_all bk_has bk_pl
  rw [sm_swap (f := fun u w => bk_hw b (10 * s + u) w)]
  apply sm_cong
  intro w hw
  unfold bk_hw
  rw [sm_swap (f := fun u i => if 10 * b.sg w i + b.sd w i = 10 * s + u then b.of w else 0)]
  apply sm_cong
  intro i hi
  have h5 := ((hb.2 w hw).2.2.2.2 i hi).2
  have e : fb_sm (fun u => if 10 * b.sg w i + b.sd w i = 10 * s + u then b.of w else 0) 10 = fb_sm (fun u => if b.sd w i = u then (if b.sg w i = s then b.of w else 0) else 0) 10 := by
    apply sm_cong
    intro u hu
    by_cases h1 : b.sg w i = s
    · by_cases h2 : b.sd w i = u
      · rw [if_pos (by omega), if_pos h2, if_pos h1]
      · rw [if_neg (by omega), if_neg h2]
    · rw [if_neg (by omega), if_neg h1]; simp
  rw [e, sm_single, if_pos h5]
/-- which of two words comes first: the more often one, then the lesser -/
def bet (b : Bk) (x y : Nat) : Prop := b.of y < b.of x ∨ (b.of x = b.of y ∧ x < y)
def SR (b : Bk) (f : Nat → Nat) (n : Nat) : Prop := (∀ i, i < n → f i < n) ∧ ∀ i j, i < j → j < n → bet b (f i) (f j)
theorem SR.onto {b : Bk} {f : Nat → Nat} {n : Nat} (h : SR b f n) {w : Nat} (hw : w < n) : ∃ i, i < n ∧ f i = w := fb_onto h.1 (fun i j hij hj e => by
  have := h.2 i j hij hj
  unfold bet at this
  rw [e] at this
  omega) hw
theorem SR.first {b : Bk} {f : Nat → Nat} {n : Nat} (h : SR b f n) (p : Nat → Bool) : (fm (fun j => p (f j)) n).map f = am p b.of n := by
  cases hf : fm (fun j => p (f j)) n with
  | none =>
    have := (am_none (p := p) (f := b.of) (n := n)).mpr (fun w hw => by
      obtain ⟨i, hi, rfl⟩ := h.onto hw
      exact fm_none.mp hf i hi)
    rw [this]; rfl
  | some j =>
    obtain ⟨h1, h2, h3⟩ := fm_some.mp hf
    symm
    refine am_uniq (h.1 j h1) h2 (fun i hi hp => ?_)
    obtain ⟨j2, hj2, rfl⟩ := h.onto hi
    rcases Nat.lt_or_ge j2 j with q | q
    · rw [h3 j2 q] at hp; cases hp
    · rcases Nat.lt_or_ge j j2 with r | r
      · have := h.2 j j2 r hj2
        unfold bet at this
        omega
      · have : j2 = j := by omega
        subst this
        exact Or.inr ⟨rfl, Nat.le_refl _⟩
theorem SR.insert {b : Bk} {f : Nat → Nat} {w p : Nat} (h : SR b f w) (hp : p ≤ w) (h1 : ∀ j, p ≤ j → j < w → b.of (f j) < b.of w) (h2 : p = 0 ∨ b.of w ≤ b.of (f (p - 1))) : SR b (fun j => if j < p then f j else if j = p then w else f (j - 1)) (w + 1) := by
  refine ⟨fun i hi => ?_, fun i j hij hj => ?_⟩
  · dsimp only
    split
    · have := h.1 i (by omega); omega
    · split
      · omega
      · have := h.1 (i - 1) (by omega); omega
  · dsimp only
    by_cases a1 : j < p
    · rw [if_pos (by omega), if_pos a1]
      exact h.2 i j hij (by omega)
    · rw [if_neg a1]
      by_cases a2 : j = p
      · rw [if_pos a2, if_pos (by omega)]
        have hw := h.1 i (by omega)
        have h3 : b.of w ≤ b.of (f i) := by
          rcases h2 with q | q
          · omega
          · rcases Nat.lt_or_ge i (p - 1) with r | r
            · have := h.2 i (p - 1) r (by omega)
              unfold bet at this
              omega
            · have : i = p - 1 := by omega
              rw [this]; exact q
        unfold bet
        omega
      · rw [if_neg a2]
        by_cases a3 : i < p
        · rw [if_pos a3]
          exact h.2 i (j - 1) (by omega) (by omega)
        · rw [if_neg a3]
          by_cases a4 : i = p
          · rw [if_pos a4]
            exact Or.inl (h1 (j - 1) (by omega) (by omega))
          · rw [if_neg a4]
            exact h.2 (i - 1) (j - 1) (by omega) (by omega)
def nsg (b : Bk) (u : Nat) : Option Nat := am (fun s => decide (0 < bk_has b (10 * s + u))) (fun s => bk_has b (10 * s + u)) 10
theorem hw_pos {b : Bk} (hb : BOk b) {w i : Nat} (hw : w < b.n) (hi : i < b.len w) : 0 < bk_has b (10 * b.sg w i + b.sd w i) := by
  have h1 : bk_hw b (10 * b.sg w i + b.sd w i) w ≤ bk_has b (10 * b.sg w i + b.sd w i) := by
    have := fb_sm_part (bk_hw b (10 * b.sg w i + b.sd w i)) hw
    have h2 := fb_sm_mono (bk_hw b (10 * b.sg w i + b.sd w i)) w 0
    unfold bk_has
    omega
  have h2 : b.of w ≤ bk_hw b (10 * b.sg w i + b.sd w i) w := by
    have := fb_sm_part (fun j => if 10 * b.sg w j + b.sd w j = 10 * b.sg w i + b.sd w i then b.of w else 0) hi
    simp only [if_true] at this
    unfold bk_hw
    omega
  have := (hb.2 w hw).2.2.1
  omega
theorem nsg_rsp {b : Bk} (hb : BOk b) {w i : Nat} (hw : w < b.n) (hi : i < b.len w) : nsg b (b.sd w i) = some (rsp b w i) := amz_am ⟨b.sg w i, ((hb.2 w hw).2.2.2.2 i hi).1, hw_pos hb hw hi⟩
def XU (S : Mem) (b : Bk) : Prop := (∀ k, k < 100 → S 19 k = nI (bk_has b k)) ∧ (∀ s, s < 10 → S 20 s = nI (bk_all b s)) ∧ (∀ s, s < 10 → S 21 s = oI (bk_comm b s)) ∧ (∀ u, u < 10 → S 22 u = oI (nsg b u)) ∧ (∃ f, SR b f b.n ∧ ∀ i, i < b.n → S 23 i = nI (f i)) ∧ (∀ s, s < 10 → S 24 s = oI (bk_guess b s)) ∧ S 18 7 = nI (regB b)
theorem XB.of {S S2 : Mem} {o : Nat} {b : Bk} (h : XB S o b) (e : ∀ a, o ≤ a → a ≤ o + 5 → S2 a = S a) : XB S2 o b := by
  unfold XB
  rw [e o (by omega) (by omega), e (o + 1) (by omega) (by omega), e (o + 2) (by omega) (by omega), e (o + 3) (by omega) (by omega), e (o + 4) (by omega) (by omega), e (o + 5) (by omega) (by omega)]
  exact h
theorem XU.of {S S2 : Mem} {b : Bk} (h : XU S b) (e : ∀ a, 18 ≤ a → a ≤ 24 → S2 a = S a) : XU S2 b := by
  unfold XU
  rw [e 18 (by omega) (by omega), e 19 (by omega) (by omega), e 20 (by omega) (by omega), e 21 (by omega) (by omega), e 22 (by omega) (by omega), e 23 (by omega) (by omega), e 24 (by omega) (by omega)]
  exact h
theorem reg_bit {b : Bk} {w : Nat} (hw : w < b.n) : (regB b).testBit w = bk_reg b w := by
  have := orb2_bit (n := b.n) (p := bk_reg b) (j := w)
  cases h : bk_reg b w with
  | true => exact this.mpr ⟨hw, h⟩
  | false =>
    cases h2 : (regB b).testBit w with
    | false => rfl
    | true => rw [(this.mp h2).2] at h; cases h
section CLA1
variable {l : Launch} {g : Geo} {S : Mem} {b : Bk} {K : Int32 → Mem → Prop}
theorem c_X8_greatestAt {f st : Nat} (hb : BOk b) (hf : ∀ u, u < 10 → f + u * st < 100) (hst : st < 100) (hS : ∀ k, k < 100 → S 19 k = nI (bk_has b k)) (hk : K (oI (am (fun u => decide (0 < bk_has b (f + u * st))) (fun u => bk_has b (f + u * st)) 10)) S) : MWi l g shX m_X8_greatestAt [.ref (g.ad 18), .int (nI f), .int (nI st)] S K := by
  have hle := fun k => has_le hb k
  refine MWi.intro _ rfl (Nat.le_of_ble_eq_true rfl) rfl (fun x ok => s_X8_greatestAt_0 ok _ _ S ?_)
  refine lpU (fun u => PW l x g shX m_X8_greatestAt (Qi x g shX K) 9 [(0, .ref (g.ad 18)), (1, .int (nI f)), (2, .int (nI st)), (3, .int (nI (gmv (fun u => bk_has b (f + u * st)) (am (fun u => decide (0 < bk_has b (f + u * st))) (fun u => bk_has b (f + u * st)) u)))), (4, .int (oI (am (fun u => decide (0 < bk_has b (f + u * st))) (fun u => bk_has b (f + u * st)) u))), (5, .int (nI u))] [] S) 10 ?_ (fun u hu ih => ?_) 0 (Nat.zero_le _)
  · exact s_X8_greatestAt_9 ok _ _ _ _ _ S ⟨fun _ => hk, fun c => absurd (nI_le (Nat.le_refl 10) (by decide)) c⟩
  · have hfu := hf u hu
    have hz := hle (f + u * st)
    have hg : gmv (fun u => bk_has b (f + u * st)) (am (fun u => decide (0 < bk_has b (f + u * st))) (fun u => bk_has b (f + u * st)) u) ≤ 59940 := by
      cases am (fun u => decide (0 < bk_has b (f + u * st))) (fun u => bk_has b (f + u * st)) u with
      | none => exact Nat.zero_le _
      | some m => exact hle _
    refine s_X8_greatestAt_9 ok _ _ _ _ _ S ⟨fun c => absurd c (nI_ge hu (by decide)), fun _ => ?_⟩
    simp (disch := omega) only [pk_mul, nI_add, cl, nI_clamp, hS (f + u * st) hfu, nI_leI]
    refine ⟨inI hfu (by decide), fun y => ?_, fun y => ?_⟩
    · have e := gm_no (f := fun u => bk_has b (f + u * st)) y
      rw [e] at ih; exact ih
    · have e := gm_yes (f := fun u => bk_has b (f + u * st)) (u := u) (by omega)
      rw [e] at ih; exact ih
theorem c_X8_goesByRule {w : Nat} (hb : BOk b) (hX : XB S 4 b) (hC : ∀ s, s < 10 → S 21 s = oI (bk_comm b s)) (hw : w < b.n) (hk : K (nI (bk_reg b w).toNat) S) : MWi l g shX m_X8_goesByRule [.ref (g.ad 18), .int (nI w)] S K := by
  have hn := hb.1
  obtain ⟨q1, q2, q3, q4, q5⟩ := hb.2 w hw
  have e1 : S 5 w = nI (b.len w) := (hX.2 w hw).1
  refine MWi.intro _ rfl (Nat.le_of_ble_eq_true rfl) rfl (fun x ok => s_X8_goesByRule_0 ok _ S ?_)
  refine lpU (fun i => (∀ j, j < i → bk_comm b (b.sg w j) = some (b.sd w j)) → PW l x g shX m_X8_goesByRule (Qi x g shX K) 2 [(0, .ref (g.ad 18)), (1, .int (nI w)), (2, .int (nI i))] [] S) (b.len w) ?_ (fun i hi ih => ?_) 0 (Nat.zero_le _) (fun j hj => by omega)
  · intro hall
    have e : bk_reg b w = true := alB_iff.mpr (fun i hi => decide_eq_true (hall i hi))
    rw [e] at hk
    refine s_X8_goesByRule_2 ok _ _ S ⟨inI (by omega) (by decide), fun _ => hk, fun c => absurd ?_ c⟩
    simp (disch := omega) only [cl, nI_clamp, e1, nI_leI, Nat.le_refl]
  · intro hall
    obtain ⟨r1, r2⟩ := q5 i hi
    have hcl : ∀ k, bk_comm b (b.sg w i) = some k → k < 2 ^ 31 := fun k h => by have := comm_lt h; omega
    refine s_X8_goesByRule_2 ok _ _ S ⟨inI (by omega) (by decide), fun c => absurd c ?_, fun _ => c_X1_signAt hb hX hw hi ⟨inI r1 (by decide), c_X1_soundAt hb hX hw hi ?_⟩⟩
    · simp (disch := omega) only [cl, nI_clamp, e1, nI_leI]; omega
    rw [cl, nI_clamp (by omega), hC _ r1, oI_nI hcl (by omega), nI_add]
    refine ⟨fun y => ih (fun j hj => ?_), fun y => ?_⟩
    · rcases Nat.lt_or_ge j i with q | q
      · exact hall j q
      · have : j = i := by omega
        subst this; exact y
    · have e : bk_reg b w = false := by
        cases h : bk_reg b w with
        | false => rfl
        | true => exact absurd (by simpa using alB_iff.mp h i hi) y
      rw [e] at hk; exact hk
set_option maxHeartbeats 2000000 in
theorem c_X8_refresh {K : Mem → Prop} (hb : BOk b) (hX : XB S 4 b) (hk : ∀ S2, (∀ a, a < 18 ∨ 24 < a → S2 a = S a) → XU S2 b → K S2) : MWv l g shX m_X8_refresh [.ref (g.ad 18)] S K := by
  have hn := hb.1
  have hle := fun k => has_le hb k
  -- guesses
  have G : ∀ S2 : Mem, (∀ a, a < 18 ∨ 24 < a → S2 a = S a) → ∀ {K2 : Mem → Prop} {f : Nat → Nat}, SR b f b.n → (∀ i, i < b.n → S2 23 i = nI (f i)) → (∀ S3, (∀ a, a ≠ 24 → S3 a = S2 a) → (∀ s, s < 10 → S3 24 s = oI (bk_guess b s)) → K2 S3) → MWv l g shX m_X8_findGuesses [.ref (g.ad 18)] S2 K2 := by
    intro S2 g1 K2 f hf h23 hk2
    have hX2 : XB S2 4 b := hX.of (fun a h1 h2 => g1 a (by omega))
    refine MWv.intro _ rfl (Nat.le_of_ble_eq_true rfl) rfl (fun x ok => s_X8_findGuesses_0 ok S2 (c_fill (n := 10) rfl (by decide) (fun f0 hf0 => ?_)))
    have hX3 : ∀ S3 : Mem, (∀ a, a ≠ 24 → S3 a = S2 a) → XB S3 4 b := fun S3 k1 => hX2.of (fun a h1 h2 => k1 a (by omega))
    refine lpU (fun i => ∀ S3 : Mem, (∀ a, a ≠ 24 → S3 a = S2 a) → (∀ s, s < 10 → S3 24 s = oI ((fm (fun j => decide (b.sg (f j) 0 = s)) i).map f)) → PW l x g shX m_X8_findGuesses (Qv x g shX K2) 11 [(0, .ref (g.ad 18)), (1, .int (nI i))] [] S3) b.n ?_ (fun i hi ih => ?_) 0 (Nat.zero_le _) _ (fun a ha => stf_off ha) (fun s hs => by rw [stf_same, hf0 s hs]; rfl)
    · intro S3 k1 k2
      refine s_X8_findGuesses_11 ok _ S3 ⟨fun _ => hk2 S3 k1 (fun s hs => ?_), fun c => absurd ?_ c⟩
      · rw [k2 s hs, hf.first (fun w => decide (b.sg w 0 = s))]; rfl
      · simp (disch := omega) only [(hX3 S3 k1).1, nI_leI, Nat.le_refl]
    · intro S3 k1 k2
      have hfi := hf.1 i hi
      have e23 : S3 23 i = nI (f i) := by rw [k1 23 (by decide)]; exact h23 i hi
      have q1 := ((hb.2 (f i) hfi).2.2.2.2 0 (hb.2 (f i) hfi).1).1
      refine s_X8_findGuesses_11 ok _ S3 ⟨fun c => absurd c ?_, fun _ => ⟨inI (by omega) (by decide), ?_⟩⟩
      · simp (disch := omega) only [(hX3 S3 k1).1, nI_leI]; omega
      rw [cl, nI_clamp (by omega), e23]
      refine c_X1_firstSign hb (hX3 S3 k1) hfi ⟨inI q1 (by decide), ?_⟩
      simp (disch := omega) only [cl, nI_clamp, k2 _ q1, e23, nI_add]
      cases hm : fm (fun j => decide (b.sg (f j) 0 = b.sg (f i) 0)) i with
      | some j =>
        have hj := (fm_some.mp hm).1
        have hfj := hf.1 j (by omega)
        refine ⟨fun _ => ih S3 k1 (fun s hs => ?_), fun c => absurd c (ne_neg6 (by omega))⟩
        rw [k2 s hs, fm]
        cases hm2 : fm (fun j => decide (b.sg (f j) 0 = s)) i with
        | some j2 => rfl
        | none =>
          have : ¬ b.sg (f i) 0 = s := fun e => by rw [← e, hm] at hm2; cases hm2
          dsimp only
          rw [decide_eq_false this]; rfl
      | none =>
        refine ⟨fun c => absurd rfl c, fun _ => ⟨inI (by omega) (by decide), inI q1 (by decide), ih _ (fun a ha => by rw [st2_off ha]; exact k1 a ha) (fun s hs => ?_)⟩⟩
        rw [st2_get]
        by_cases e : s = b.sg (f i) 0
        · subst e
          rw [if_pos rfl, fm, hm]
          dsimp only
          rw [decide_eq_true rfl]; rfl
        · rw [if_neg e, k2 s hs, fm]
          cases hm2 : fm (fun j => decide (b.sg (f j) 0 = s)) i with
          | some j2 => rfl
          | none =>
            dsimp only
            rw [decide_eq_false (fun q => e q.symm)]; rfl
  -- sorting
  have Q : ∀ S2 : Mem, (∀ a, a < 18 ∨ 24 < a → S2 a = S a) → ∀ {K2 : Mem → Prop}, (∀ S3 f, (∀ a, a ≠ 23 → S3 a = S2 a) → SR b f b.n → (∀ i, i < b.n → S3 23 i = nI (f i)) → K2 S3) → MWv l g shX m_X8_sortByTimes [.ref (g.ad 18)] S2 K2 := by
    intro S2 g1 K2 hk2
    have hX2 : XB S2 4 b := hX.of (fun a h1 h2 => g1 a (by omega))
    have hX3 : ∀ S3 : Mem, (∀ a, a ≠ 23 → S3 a = S2 a) → XB S3 4 b := fun S3 k1 => hX2.of (fun a h1 h2 => k1 a (by omega))
    refine MWv.intro _ rfl (Nat.le_of_ble_eq_true rfl) rfl (fun x ok => s_X8_sortByTimes_0 ok S2 ?_)
    refine lpU (fun w => ∀ S3 : Mem, ∀ f : Nat → Nat, (∀ a, a ≠ 23 → S3 a = S2 a) → SR b f w → (∀ i, i < w → S3 23 i = nI (f i)) → PW l x g shX m_X8_sortByTimes (Qv x g shX K2) 2 [(0, .ref (g.ad 18)), (1, .int (nI w))] [] S3) b.n ?_ (fun w hw ih => ?_) 0 (Nat.zero_le _) S2 (fun _ => 0) (fun _ _ => rfl) ⟨fun i hi => by omega, fun i j _ hj => by omega⟩ (fun i hi => by omega)
    · intro S3 f k1 k2 k3
      refine s_X8_sortByTimes_2 ok _ S3 ⟨fun _ => hk2 S3 f k1 k2 k3, fun c => absurd ?_ c⟩
      simp (disch := omega) only [(hX3 S3 k1).1, nI_leI, Nat.le_refl]
    · intro S3 f k1 k2 k3
      refine s_X8_sortByTimes_2 ok _ S3 ⟨fun c => absurd c ?_, fun _ => ?_⟩
      · simp (disch := omega) only [(hX3 S3 k1).1, nI_leI]; omega
      have ow := (hb.2 w hw).2.2.2.1
      have put : ∀ p, p ≤ w → ∀ S4 : Mem, (∀ a, a ≠ 23 → S4 a = S2 a) → (∀ j, j < p → S4 23 j = nI (f j)) → (∀ j, p < j → j ≤ w → S4 23 j = nI (f (j - 1))) → (∀ j, p ≤ j → j < w → b.of (f j) < b.of w) → (p = 0 ∨ b.of w ≤ b.of (f (p - 1))) → PW l x g shX m_X8_sortByTimes (Qv x g shX K2) 2 [(0, .ref (g.ad 18)), (1, .int (nI w + nI 1))] [] (st2 S4 23 p (nI w)) := by
        intro p hp S4 m1 m2 m3 m4 m5
        rw [nI_add]
        refine ih _ (fun j => if j < p then f j else if j = p then w else f (j - 1)) (fun a ha => by rw [st2_off ha]; exact m1 a ha) (k2.insert hp m4 m5) (fun i hi => ?_)
        rw [st2_get]
        by_cases e1 : i = p
        · subst e1
          rw [if_pos rfl, if_neg (by omega), if_pos rfl]
        · rw [if_neg e1]
          by_cases e2 : i < p
          · rw [if_pos e2]; exact m2 i e2
          · rw [if_neg e2, if_neg e1]; exact m3 i (by omega) (by omega)
      have L : ∀ p, p ≤ w → ∀ S4 : Mem, (∀ a, a ≠ 23 → S4 a = S2 a) → (∀ j, j < p → S4 23 j = nI (f j)) → (∀ j, p < j → j ≤ w → S4 23 j = nI (f (j - 1))) → (∀ j, p ≤ j → j < w → b.of (f j) < b.of w) → PW l x g shX m_X8_sortByTimes (Qv x g shX K2) 15 [(0, .ref (g.ad 18)), (1, .int (nI w)), (2, .int (nI p))] [] S4 := by
        intro p
        induction p with
        | zero =>
          intro hp S4 m1 m2 m3 m4
          exact s_X8_sortByTimes_15 ok _ _ S4 ⟨fun _ => ⟨inI (by decide) (by decide), put 0 hp S4 m1 m2 m3 m4 (Or.inl rfl)⟩, fun c => absurd (by decide) c⟩
        | succ p ihp =>
          intro hp S4 m1 m2 m3 m4
          have hfp := k2.1 p (by omega)
          have e6 : ∀ u, u < b.n → S4 6 u = nI (b.of u) := fun u hu => ((hX3 S4 m1).2 u hu).2.1
          have op := (hb.2 (f p) (by omega)).2.2.2.1
          refine s_X8_sortByTimes_15 ok _ _ S4 ⟨fun c => absurd c (by rw [nI_le0 (by omega)]; omega), fun _ => ?_⟩
          simp (disch := omega) only [pk_sub, Nat.add_sub_cancel, cl, nI_clamp, m2 p (by omega), e6 w hw, e6 (f p) (by omega), nI_leI]
          refine ⟨inI (by omega) (by decide), inI (by omega) (by decide), inI (by omega) (by decide), fun y => ⟨inI (by omega) (by decide), ?_⟩, fun y => ⟨inI (by omega) (by decide), inI (by omega) (by decide), ?_⟩⟩
          · exact put (p + 1) hp S4 m1 m2 m3 m4 (Or.inr y)
          · rw [pk_m1]
            refine ihp (by omega) _ (fun a ha => by rw [st2_off ha]; exact m1 a ha) (fun j hj => by rw [st2_get, if_neg (by omega)]; exact m2 j (by omega)) (fun j h1 h2 => ?_) (fun j h1 h2 => ?_)
            · rw [st2_get]
              split
              · rename_i q; subst q; rfl
              · exact m3 j (by omega) h2
            · rcases Nat.lt_or_ge p j with q | q
              · exact m4 j q h2
              · have : j = p := by omega
                subst this; omega
      exact L w (Nat.le_refl _) S3 k1 k3 (fun j h1 h2 => by omega) (fun j h1 h2 => by omega)
  -- who is regular
  have R : ∀ S2 : Mem, (∀ a, a < 18 ∨ 24 < a → S2 a = S a) → (∀ s, s < 10 → S2 21 s = oI (bk_comm b s)) → ∀ {K2 : Mem → Prop}, (∀ S3, (∀ a, a ≠ 18 → S3 a = S2 a) → S3 18 7 = nI (regB b) → K2 S3) → MWv l g shX m_X8_findRegular [.ref (g.ad 18)] S2 K2 := by
    intro S2 g1 g2 K2 hk2
    have hX2 : XB S2 4 b := hX.of (fun a h1 h2 => g1 a (by omega))
    have hX3 : ∀ S3 : Mem, (∀ a, a ≠ 18 → S3 a = S2 a) → XB S3 4 b := fun S3 k1 => hX2.of (fun a h1 h2 => k1 a (by omega))
    refine MWv.intro _ rfl (Nat.le_of_ble_eq_true rfl) rfl (fun x ok => s_X8_findRegular_0 ok S2 ?_)
    refine lpU (fun w => ∀ S3 : Mem, (∀ a, a ≠ 18 → S3 a = S2 a) → S3 18 7 = nI (orB (fun w => if bk_reg b w = true then 2 ^ w else 0) w) → PW l x g shX m_X8_findRegular (Qv x g shX K2) 7 [(0, .ref (g.ad 18)), (1, .int (nI w))] [] S3) b.n ?_ (fun w hw ih => ?_) 0 (Nat.zero_le _) _ (fun a ha => st2_off ha) (by rw [st2_get, if_pos rfl]; rfl)
    · intro S3 k1 k2
      refine s_X8_findRegular_7 ok _ S3 ⟨fun _ => hk2 S3 k1 k2, fun c => absurd ?_ c⟩
      simp (disch := omega) only [(hX3 S3 k1).1, nI_leI, Nat.le_refl]
    · intro S3 k1 k2
      refine s_X8_findRegular_7 ok _ S3 ⟨fun c => absurd c ?_, fun _ => c_X8_goesByRule hb (hX3 S3 k1) (fun s hs => by rw [k1 21 (by decide)]; exact g2 s hs) hw ?_⟩
      · simp (disch := omega) only [(hX3 S3 k1).1, nI_leI]; omega
      simp (disch := omega) only [bI0, nI_add, k2, jshl_1, fa_or]
      refine ⟨fun y => ih S3 k1 (by rw [k2, orB, y]; simp), fun y => ih _ (fun a ha => by rw [st2_off ha]; exact k1 a ha) ?_⟩
      rw [Bool.not_eq_false] at y
      rw [st2_get, if_pos rfl, orB, y, if_pos rfl]
  -- places
  have P : ∀ {K2 : Mem → Prop}, (∀ S3, (∀ a, a ≠ 19 → a ≠ 20 → S3 a = S a) → (∀ k, k < 100 → S3 19 k = nI (bk_has b k)) → (∀ s, s < 10 → S3 20 s = nI (bk_all b s)) → K2 S3) → MWv l g shX m_X8_countPlaces [.ref (g.ad 18)] S K2 := by
    intro K2 hk2
    refine MWv.intro _ rfl (Nat.le_of_ble_eq_true rfl) rfl (fun x ok => s_X8_countPlaces_0 ok S (c_fill (n := 100) rfl (by decide) (fun f0 hf0 => c_fill (n := 10) rfl (by decide) (fun f1 hf1 => ?_))))
    have hX3 : ∀ S3 : Mem, (∀ a, a ≠ 19 → a ≠ 20 → S3 a = S a) → XB S3 4 b := fun S3 k1 => hX.of (fun a h1 h2 => k1 a (by omega) (by omega))
    refine lpU (fun w => ∀ S3 : Mem, (∀ a, a ≠ 19 → a ≠ 20 → S3 a = S a) → (∀ k, k < 100 → S3 19 k = nI (fb_sm (bk_hw b k) w)) → (∀ s, s < 10 → S3 20 s = nI (fb_sm (fun w => fb_sm (fun i => if b.sg w i = s then b.of w else 0) (b.len w)) w)) → PW l x g shX m_X8_countPlaces (Qv x g shX K2) 18 [(0, .ref (g.ad 18)), (1, .int (nI w))] [] S3) b.n ?_ (fun w hw ih => ?_) 0 (Nat.zero_le _) _ (fun a h1 h2 => by rw [stf_off h2, stf_off h1]) (fun k hk => by rw [stf_off (by decide), stf_same, hf0 k hk]; rfl) (fun s hs => by rw [stf_same, hf1 s hs]; rfl)
    · intro S3 k1 k2 k3
      refine s_X8_countPlaces_18 ok _ S3 ⟨fun _ => hk2 S3 k1 k2 (fun s hs => by rw [k3 s hs, all_pl hb]; rfl), fun c => absurd ?_ c⟩
      simp (disch := omega) only [(hX3 S3 k1).1, nI_leI, Nat.le_refl]
    · intro S3 k1 k2 k3
      obtain ⟨q1, q2, q3, q4, q5⟩ := hb.2 w hw
      refine s_X8_countPlaces_18 ok _ S3 ⟨fun c => absurd c ?_, fun _ => ?_⟩
      · simp (disch := omega) only [(hX3 S3 k1).1, nI_leI]; omega
      refine lpU (fun i => ∀ S3 : Mem, (∀ a, a ≠ 19 → a ≠ 20 → S3 a = S a) → (∀ k, k < 100 → S3 19 k = nI (fb_sm (bk_hw b k) w + fb_sm (fun i => if 10 * b.sg w i + b.sd w i = k then b.of w else 0) i)) → (∀ s, s < 10 → S3 20 s = nI (fb_sm (fun w => fb_sm (fun i => if b.sg w i = s then b.of w else 0) (b.len w)) w + fb_sm (fun i => if b.sg w i = s then b.of w else 0) i)) → PW l x g shX m_X8_countPlaces (Qv x g shX K2) 31 [(0, .ref (g.ad 18)), (1, .int (nI w)), (2, .int (nI i))] [] S3) (b.len w) ?_ (fun i hi ih2 => ?_) 0 (Nat.zero_le _) S3 k1 k2 k3
      · intro S3 k1 k2 k3
        have e5 : S3 5 w = nI (b.len w) := ((hX3 S3 k1).2 w hw).1
        refine s_X8_countPlaces_31 ok _ _ S3 ⟨inI (by omega) (by decide), fun _ => ?_, fun c => absurd ?_ c⟩
        · rw [nI_add]; exact ih S3 k1 k2 k3
        · simp (disch := omega) only [cl, nI_clamp, e5, nI_leI, Nat.le_refl]
      · intro S3 k1 k2 k3
        have e5 : S3 5 w = nI (b.len w) := ((hX3 S3 k1).2 w hw).1
        have e6 : S3 6 w = nI (b.of w) := ((hX3 S3 k1).2 w hw).2.1
        obtain ⟨r1, r2⟩ := q5 i hi
        refine s_X8_countPlaces_31 ok _ _ S3 ⟨inI (by omega) (by decide), fun c => absurd c ?_, fun _ => c_X1_signAt hb (hX3 S3 k1) hw hi (c_X1_soundAt hb (hX3 S3 k1) hw hi ?_)⟩
        · simp (disch := omega) only [cl, nI_clamp, e5, nI_leI]; omega
        rw [pk_mul, nI_add, show b.sg w i * 10 + b.sd w i = 10 * b.sg w i + b.sd w i by omega]
        simp (disch := omega) only [st2_off, cl, nI_clamp, e6, k2 (10 * b.sg w i + b.sd w i) (by omega), k3 (b.sg w i) r1, nI_add]
        refine ⟨inI (by omega) (by decide), inI (by omega) (by decide), inI (by omega) (by decide), inI r1 (by decide), inI (by omega) (by decide), inI r1 (by decide), ?_⟩
        refine ih2 _ (fun a h1 h2 => by rw [st2_off h2, st2_off h1]; exact k1 a h1 h2) (fun k hk => ?_) (fun s hs => ?_)
        · rw [st2_off (by decide), st2_get, fb_sm_succ]
          split
          · rename_i q
            subst q
            rw [if_pos rfl, Nat.add_assoc]
          · rename_i q
            rw [k2 k hk, if_neg (fun h => q h.symm)]; rfl
        · rw [st2_get, fb_sm_succ]
          split
          · rename_i q
            subst q
            rw [if_pos rfl, Nat.add_assoc]
          · rename_i q
            rw [st2_off (by decide), k3 s hs, if_neg (fun h => q h.symm)]; rfl
  refine MWv.intro _ rfl (Nat.le_of_ble_eq_true rfl) rfl (fun x ok => s_X8_refresh_0 ok S (P (fun S2 g1 g2 g3 => ?_)))
  refine lpU (fun t => ∀ S3 : Mem, (∀ a, a < 19 ∨ 22 < a → S3 a = S a) → (∀ k, k < 100 → S3 19 k = nI (bk_has b k)) → (∀ s, s < 10 → S3 20 s = nI (bk_all b s)) → (∀ s, s < t → S3 21 s = oI (bk_comm b s)) → (∀ u, u < t → S3 22 u = oI (nsg b u)) → PW l x g shX m_X8_refresh (Qv x g shX K) 6 [(0, .ref (g.ad 18)), (1, .int (nI t))] [] S3) 10 ?_ (fun t ht ih => ?_) 0 (Nat.zero_le _) S2 (fun a h => g1 a (by omega) (by omega)) g2 g3 (fun s hs => by omega) (fun s hs => by omega)
  · intro S3 k1 k2 k3 k4 k5
    refine s_X8_refresh_6 ok _ S3 ⟨fun _ => R S3 (fun a h => k1 a (by omega)) k4 (fun S4 m1 m2 => Q S4 (fun a h => by rw [m1 a (by omega)]; exact k1 a (by omega)) (fun S5 f n1 n2 n3 => G S5 (fun a h => by rw [n1 a (by omega), m1 a (by omega)]; exact k1 a (by omega)) n2 n3 (fun S6 o1 o2 => ?_))), fun c => absurd (nI_le (Nat.le_refl 10) (by decide)) c⟩
    refine hk S6 (fun a h => by rw [o1 a (by omega), n1 a (by omega), m1 a (by omega)]; exact k1 a (by omega)) ⟨?_, ?_, ?_, ?_, ⟨f, n2, fun i hi => by rw [o1 23 (by decide)]; exact n3 i hi⟩, o2, by rw [o1 18 (by decide), n1 18 (by decide)]; exact m2⟩
    · intro k hk; rw [o1 19 (by decide), n1 19 (by decide), m1 19 (by decide)]; exact k2 k hk
    · intro k hk; rw [o1 20 (by decide), n1 20 (by decide), m1 20 (by decide)]; exact k3 k hk
    · intro k hk; rw [o1 21 (by decide), n1 21 (by decide), m1 21 (by decide)]; exact k4 k hk
    · intro k hk; rw [o1 22 (by decide), n1 22 (by decide), m1 22 (by decide)]; exact k5 k hk
  · intro S3 k1 k2 k3 k4 k5
    refine s_X8_refresh_6 ok _ S3 ⟨fun c => absurd c (nI_ge ht (by decide)), fun _ => ?_⟩
    rw [pk_mul, show t * 10 = 10 * t by omega]
    refine c_X8_greatestAt (f := 10 * t) (st := 1) hb (fun u hu => by omega) (by decide) k2 ⟨inI ht (by decide), ?_⟩
    rw [cl, nI_clamp (by omega)]
    refine c_X8_greatestAt (f := t) (st := 10) hb (fun u hu => by omega) (by decide) (fun k hk => by rw [st2_off (by decide)]; exact k2 k hk) ⟨inI ht (by decide), ?_⟩
    rw [nI_add]
    refine ih _ (fun a h => by rw [st2_off (by omega), st2_off (by omega)]; exact k1 a h) (fun k hk => by rw [st2_off (by decide), st2_off (by decide)]; exact k2 k hk) (fun k hk => by rw [st2_off (by decide), st2_off (by decide)]; exact k3 k hk) (fun s hs => ?_) (fun u hu => ?_)
    · rw [st2_off (by decide), st2_get]
      split
      · rename_i q
        subst q
        simp only [Nat.mul_one]
        rfl
      · exact k4 s (by omega)
    · rw [st2_get]
      split
      · rename_i q
        subst q
        unfold nsg
        simp only [Nat.add_comm u, Nat.mul_comm _ 10]
      · rw [st2_off (by decide)]
        exact k5 u (by omega)
end CLA1
