/-! PART 45: the class: the plan of signs -/
theorem ah_top {gv : Nat → Nat} : ah gv 1023 = 0 := by
  rw [ah_eq (by decide)]
  have := mxS_le (f := ahs gv 1023) (c := 0) (n := 10) (fun i hi => by
    unfold ahs
    have : ∀ i, i < 10 → (1023 : Nat).testBit i = true := by decide
    rw [if_pos (this i hi)]; exact Nat.le_refl _)
  omega
section CLA5
variable {l : Launch} {g : Geo} {S : Mem} {b : Bk} {K : Int32 → Mem → Prop}
theorem c_X9_weighSets {K : Mem → Prop} (hb : BOk b) (hX : XB S 4 b) (hU : XU S b) (hk : ∀ S2, (∀ a, a ≠ 28 → S2 a = S a) → (∀ i, i < 1024 → S2 28 i = nI (gv0 b i)) → K S2) : MWv l g shX m_X9_weighSets [.ref (g.ad 27)] S K := by
  have hn := hb.1
  refine MWv.intro _ rfl (Nat.le_of_ble_eq_true rfl) rfl (fun x ok => s_X9_weighSets_0 ok S (c_fill rfl (by decide) (fun f hf => ?_)))
  refine lpU (fun w => ∀ S2 : Mem, (∀ a, a ≠ 28 → S2 a = S a) → (∀ i, i < 1024 → S2 28 i = iI (ptS (bk_bits b) (fun w => if bk_reg b w = true then (b.of w : Int) else 0) w i)) → PW l x g shX m_X9_weighSets (Qv x g shX K) 10 [(0, .ref (g.ad 27)), (1, .int (nI w))] [] S2) b.n ?_ (fun w hw ih => ?_) 0 (Nat.zero_le _) _ (fun a ha => by rw [stf_off ha]) (fun i hi => by rw [stf_same, hf i hi]; rfl)
  · intro S2 g1 g2
    have hX2 : XB S2 4 b := hX.of (fun a h1 h2 => g1 a (by omega))
    refine s_X9_weighSets_10 ok _ S2 ⟨fun _ => c_addUp rfl g2 (fun f hf => ?_), fun c => absurd ?_ c⟩
    · refine hk _ (fun a ha => by rw [stf_off ha]; exact g1 a ha) (fun i hi => ?_)
      rw [stf_same, hf i hi, zI_ptS hi b.n (fun w hw => bits_lt hb hw)]
      rw [smI_nat (h := fun w => if ((0 : Nat).testBit w || bk_given b i w) = true then b.of w else 0) (fun w hw => ?_), iI_nat]
      · rfl
      · unfold bk_given
        rw [Nat.zero_testBit, Bool.false_or]
        by_cases h1 : sub (bk_bits b w) i
        · rw [if_pos h1, decide_eq_true h1, Bool.and_true]
          split <;> rfl
        · rw [if_neg h1, decide_eq_false h1, Bool.and_false]; rfl
    · simp (disch := omega) only [hX2.1, nI_leI, Nat.le_refl]
  · intro S2 g1 g2
    have hX2 : XB S2 4 b := hX.of (fun a h1 h2 => g1 a (by omega))
    have hU2 : XU S2 b := hU.of (fun a h1 h2 => g1 a (by omega))
    have e7 : S2 7 w = nI (bk_bits b w) := (hX2.2 w hw).2.2.1
    have e6 : S2 6 w = nI (b.of w) := (hX2.2 w hw).2.1
    have hbl : bk_bits b w < 1024 := bits_lt hb hw
    refine s_X9_weighSets_10 ok _ S2 ⟨fun c => absurd c ?_, fun _ => c_X8_isRegular hb hU2 hw ?_⟩
    · simp (disch := omega) only [hX2.1, nI_leI]; omega
    simp (disch := omega) only [bI0, cl, nI_clamp, e7, e6, nI_add]
    refine ⟨fun y => ih S2 g1 (fun i hi => ?_), fun y => ⟨inI (by omega) (by decide), inI hbl (by decide), inI (by omega) (by decide), inI hbl (by decide), ih _ (fun a ha => by rw [st2_off ha]; exact g1 a ha) (fun i hi => ?_)⟩⟩
    · rw [ptS, g2 i hi]
      simp [y]
    · rw [Bool.not_eq_false] at y
      rw [ptS, iI_add, ← g2 i hi, st2_get]
      rw [if_pos y]
      by_cases e : i = bk_bits b w
      · rw [if_pos e, if_pos e.symm, iI_nat, e]
      · rw [if_neg e, if_neg (fun q => e q.symm)]
        have : iI 0 = 0 := rfl
        rw [this, Int32.add_zero]
theorem c_X9_bestAhead {gv : Nat → Nat} {set : Nat} (hs : set < 1024) (hg : ∀ t, gv t ≤ 11988) (h28 : ∀ i, i < 1024 → S 28 i = nI (gv i)) (h29 : ∀ t, set < t → t < 1024 → S 29 t = nI (ah gv t)) (hk : K (nI (ah gv set)) S) : MWi l g shX m_X9_bestAhead [.ref (g.ad 27), .int (nI set)] S K := by
  have hal : ∀ t, ah gv t ≤ 1024 * 11988 := fun t => ah_le hg t
  have hsl : ∀ s, ahs gv set s ≤ 1025 * 11988 := fun s => by
    unfold ahs
    have := hg (set ||| 2 ^ s)
    have := hal (set ||| 2 ^ s)
    split <;> omega
  have hml : ∀ n, mxS (ahs gv set) n ≤ 1025 * 11988 := fun n => mxS_le (fun i _ => hsl i)
  rw [ah_eq hs] at hk
  refine MWi.intro _ rfl (Nat.le_of_ble_eq_true rfl) rfl (fun x ok => s_X9_bestAhead_0 ok _ S ?_)
  refine lpU (fun s => PW l x g shX m_X9_bestAhead (Qi x g shX K) 4 [(0, .ref (g.ad 27)), (1, .int (nI set)), (2, .int (nI (mxS (ahs gv set) s))), (3, .int (nI s))] [] S) 10 ?_ (fun s hs10 ih => ?_) 0 (Nat.zero_le _)
  · exact s_X9_bestAhead_4 ok _ _ _ S ⟨fun _ => hk, fun c => absurd (nI_le (Nat.le_refl 10) (by decide)) c⟩
  · have hm : set ||| 2 ^ s < 1024 := or_lt (k := 10) hs hs10
    have h1 := hml s
    have h2 := hg (set ||| 2 ^ s)
    have h3 := hal (set ||| 2 ^ s)
    refine s_X9_bestAhead_4 ok _ _ _ S ⟨fun c => absurd c (nI_ge hs10 (by decide)), fun _ => ?_⟩
    simp (disch := omega) only [jshl_1, fa_or, nI_eq, cl, nI_clamp, nI_add]
    rw [or_same]
    rw [mxS] at ih
    refine ⟨fun y => ?_, fun y => ⟨inI hm (by decide), inI hm (by decide), ?_⟩⟩
    · have e : ahs gv set s = 0 := by unfold ahs; rw [if_pos y]
      rw [e, if_neg (by omega)] at ih
      exact ih
    · have e : ahs gv set s = gv (set ||| 2 ^ s) + ah gv (set ||| 2 ^ s) := by unfold ahs; rw [if_neg y]
      rw [Bool.not_eq_true] at y
      rw [h28 _ hm, h29 _ (or_gt y) hm, nI_add, jmax_n (by omega) (by omega), ← e]
      exact ih
theorem c_X9_nextSign {gv : Nat → Nat} {set : Nat} (hs : set < 1024) (hmi : ∃ s, s < 10 ∧ set.testBit s = false) (hg : ∀ t, gv t ≤ 11988) (h28 : ∀ i, i < 1024 → S 28 i = nI (gv i)) (h29 : ∀ t, t < 1024 → S 29 t = nI (ah gv t)) (hk : K (nI (nxt gv set)) S) : MWi l g shX m_X9_nextSign [.ref (g.ad 27), .int (nI set)] S K := by
  have hal : ∀ t, ah gv t ≤ 1024 * 11988 := fun t => ah_le hg t
  obtain ⟨n1, n2, n3⟩ := nxt_ok (gv := gv) hs hmi
  refine MWi.intro _ rfl (Nat.le_of_ble_eq_true rfl) rfl (fun x ok => s_X9_nextSign_0 ok _ S ?_)
  have key : ∀ s, s < 10 → (nxP gv set s = true → K (nI s) S) → (nxP gv set s = false → PW l x g shX m_X9_nextSign (Qi x g shX K) 2 [(0, .ref (g.ad 27)), (1, .int (nI set)), (2, .int (nI (s + 1)))] [] S) → PW l x g shX m_X9_nextSign (Qi x g shX K) 2 [(0, .ref (g.ad 27)), (1, .int (nI set)), (2, .int (nI s))] [] S := by
    intro s hs10 k1 k2
    have hm : set ||| 2 ^ s < 1024 := or_lt (k := 10) hs hs10
    have h2 := hg (set ||| 2 ^ s)
    have h3 := hal (set ||| 2 ^ s)
    have h4 := hal set
    unfold nxP at k1 k2
    refine s_X9_nextSign_2 ok _ _ S ⟨fun c => absurd c (nI_ge hs10 (by decide)), fun _ => ?_⟩
    simp (disch := omega) only [jshl_1, fa_or, nI_eq, cl, nI_clamp, nI_add]
    rw [or_same]
    refine ⟨fun y => k2 (by rw [y]; rfl), fun y => ⟨inI hm (by decide), inI hm (by decide), inI hs (by decide), ?_⟩⟩
    rw [Bool.not_eq_true] at y
    rw [h28 _ hm, h29 _ hm, h29 _ hs, nI_add, nI_eq (by omega) (by omega)]
    exact ⟨fun z => k2 (by rw [decide_eq_false z, Bool.and_false]), fun z => k1 (by rw [decide_eq_true z, y]; rfl)⟩
  refine lpU (fun s => PW l x g shX m_X9_nextSign (Qi x g shX K) 2 [(0, .ref (g.ad 27)), (1, .int (nI set)), (2, .int (nI s))] [] S) (nxt gv set) ?_ (fun s hs10 ih => ?_) 0 (Nat.zero_le _)
  · exact key _ n1 (fun _ => hk) (fun c => by rw [n2] at c; cases c)
  · exact key _ (by omega) (fun c => by rw [n3 s hs10] at c; cases c) (fun _ => ih)
theorem c_X9_pickOrder {gv : Nat → Nat} {K : Mem → Prop} (hg : ∀ t, gv t ≤ 11988) (h28 : ∀ i, i < 1024 → S 28 i = nI (gv i)) (h29 : ∀ t, t < 1024 → S 29 t = nI (ah gv t)) (hk : ∀ S2, (∀ a, a ≠ 30 → S2 a = S a) → (∀ i, i < 10 → S2 30 i = nI (nxt gv (ost gv i))) → K S2) : MWv l g shX m_X9_pickOrder [.ref (g.ad 27)] S K := by
  refine MWv.intro _ rfl (Nat.le_of_ble_eq_true rfl) rfl (fun x ok => s_X9_pickOrder_0 ok S ?_)
  refine lpU (fun i => ∀ S2 : Mem, (∀ a, a ≠ 30 → S2 a = S a) → (∀ j, j < i → S2 30 j = nI (nxt gv (ost gv j))) → PW l x g shX m_X9_pickOrder (Qv x g shX K) 4 [(0, .ref (g.ad 27)), (1, .int (nI (ost gv i))), (2, .int (nI i))] [] S2) 10 ?_ (fun i hi ih => ?_) 0 (Nat.zero_le _) S (fun _ _ => rfl) (fun j hj => by omega)
  · intro S2 g1 g2
    exact s_X9_pickOrder_4 ok _ _ S2 ⟨fun _ => hk S2 g1 g2, fun c => absurd (nI_le (Nat.le_refl 10) (by decide)) c⟩
  · intro S2 g1 g2
    obtain ⟨o1, o2, o3⟩ := ost_ok (gv := gv) (k := i) (by omega)
    obtain ⟨n1, n2, n3⟩ := nxt_ok (gv := gv) o1 (o3 hi)
    refine s_X9_pickOrder_4 ok _ _ S2 ⟨fun c => absurd c (nI_ge hi (by decide)), fun _ => c_X9_nextSign o1 (o3 hi) hg (fun j hj => by rw [g1 28 (by decide)]; exact h28 j hj) (fun j hj => by rw [g1 29 (by decide)]; exact h29 j hj) ⟨inI hi (by decide), ?_⟩⟩
    simp (disch := omega) only [jshl_1, fa_or, cl, nI_clamp, nI_add]
    refine ih _ (fun a ha => by rw [st2_off ha]; exact g1 a ha) (fun j hj => ?_)
    rw [st2_get]
    by_cases e : j = i
    · rw [if_pos e, e]
    · rw [if_neg e]; exact g2 j (by omega)
def XO1 (S : Mem) (b : Bk) : Prop := S 27 6 = nI 1 ∧ S 27 5 = nI (ah (gv0 b) 0) ∧ ∀ i, i < 10 → S 30 i = nI (nxt (gv0 b) (ost (gv0 b) i))
def XO (S : Mem) (b : Bk) : Prop := S 27 6 = nI 0 ∨ XO1 S b
theorem c_X9_findOrder {K : Mem → Prop} (hb : BOk b) (hX : XB S 4 b) (hU : XU S b) (hO : XO S b) (hk : ∀ S2, (∀ a, a < 27 ∨ 30 < a → S2 a = S a) → XO1 S2 b → K S2) : MWv l g shX m_X9_findOrder [.ref (g.ad 27)] S K := by
  have hg : ∀ t, gv0 b t ≤ 11988 := fun t => gives_le hb t 0
  unfold XO at hO
  unfold XO1 at hk hO
  refine MWv.intro _ rfl (Nat.le_of_ble_eq_true rfl) rfl (fun x ok => s_X9_findOrder_0 ok S ?_)
  rcases hO with hO | hO
  · refine ⟨fun _ => c_X9_weighSets hb hX hU (fun S1 r1 r2 => ⟨inI (by decide) (by decide), ?_⟩), fun c => absurd hO c⟩
    obtain ⟨gv, hgv⟩ : ∃ gv, gv0 b = gv := ⟨_, rfl⟩
    rw [hgv] at hg hk
    have r2 : ∀ i, i < 1024 → S1 28 i = nI (gv i) := fun i hi => by rw [← hgv]; exact r2 i hi
    have main : ∀ k, k ≤ 1023 → ∀ S2 : Mem, (∀ a, a < 27 ∨ 30 < a → S2 a = S a) → (∀ i, i < 1024 → S2 28 i = nI (gv i)) → (∀ t, k ≤ t → t < 1024 → S2 29 t = nI (ah gv t)) → PW l x g shX m_X9_findOrder (Qv x g shX K) 25 [(0, .ref (g.ad 27)), (1, .int (lvI k))] [] S2 := by
      intro k
      induction k with
      | zero =>
        intro _ S2 g1 g2 g3
        refine s_X9_findOrder_25 ok _ S2 ⟨fun _ => ⟨inI (by decide) (by decide), c_X9_pickOrder (gv := gv) hg (fun i hi => ?_) (fun i hi => ?_) (fun S3 q1 q2 => ?_)⟩, fun c => absurd (by decide : lvI 0 < 0) c⟩
        · rw [st2_off (by decide)]; exact g2 i hi
        · rw [st2_off (by decide)]; exact g3 i (by omega) hi
        · refine hk _ (fun a ha => ?_) ⟨?_, ?_, fun i hi => ?_⟩
          · rw [st2_off (by omega), q1 a (by omega), st2_off (by omega)]; exact g1 a ha
          · rw [st2_get, if_pos rfl]
          · rw [st2_get, if_neg (by decide), q1 27 (by decide), st2_get, if_pos rfl, cl, nI_clamp (by decide)]
            exact g3 0 (by omega) (by decide)
          · rw [st2_off (by decide)]; exact q2 i hi
      | succ k ih =>
        intro hk2 S2 g1 g2 g3
        refine s_X9_findOrder_25 ok _ S2 ⟨fun c => absurd c (nI_pos (by omega)), fun _ => c_X9_bestAhead (gv := gv) (set := k) (by omega) hg g2 (fun t h1 h2 => g3 t (by omega) h2) ⟨inI (by omega) (by decide), ?_⟩⟩
        show PW l x g shX m_X9_findOrder (Qv x g shX K) 25 [(0, .ref (g.ad 27)), (1, .int (nI k + (-1)))] [] (st2 S2 29 (cl (nI k)) (nI (ah gv k)))
        rw [lvI_pred, cl, nI_clamp (by omega)]
        refine ih (by omega) _ (fun a ha => by rw [st2_off (by omega)]; exact g1 a ha) (fun i hi => by rw [st2_off (by decide)]; exact g2 i hi) (fun t h1 h2 => ?_)
        rw [st2_get]
        by_cases e : t = k
        · rw [if_pos e, e]
        · rw [if_neg e]; exact g3 t (by omega) h2
    refine main 1023 (Nat.le_refl _) _ (fun a ha => by rw [st2_off (by omega)]; exact r1 a (by omega)) (fun i hi => by rw [st2_off (by decide)]; exact r2 i hi) (fun t h1 h2 => ?_)
    have : t = 1023 := by omega
    subst this
    rw [st2_get, if_pos (by rw [cl, nI_clamp (by decide)]), ah_top]
  · refine ⟨fun c => absurd c (by rw [hO.1]; decide), fun _ => hk S (fun _ _ => rfl) hO⟩
end CLA5
