/-! PART 42: the class: what the rule tells; reading -/
section CLA2
variable {l : Launch} {g : Geo} {S : Mem} {b : Bk} {K : Int32 → Mem → Prop}
theorem c_X8_isRegular {w : Nat} (hb : BOk b) (hU : XU S b) (hw : w < b.n) (hk : K (nI (bk_reg b w).toNat) S) : MWi l g shX m_X8_isRegular [.ref (g.ad 18), .int (nI w)] S K := by
  have hn := hb.1
  have hrl : regB b < 4096 := orb2_lt hb.1 _
  refine MWi.intro _ rfl (Nat.le_of_ble_eq_true rfl) rfl (fun x ok => s_X8_isRegular_0 ok _ S ?_)
  rw [hU.2.2.2.2.2.2]
  refine c_X11_hasBit (by omega) (by omega) ⟨narB _, ?_⟩
  rw [reg_bit hw]; exact hk
theorem c_X8_placesByRule (hb : BOk b) (hU : XU S b) (hk : K (nI (rulN b 10)) S) : MWi l g shX m_X8_placesByRule [.ref (g.ad 18)] S K := by
  refine MWi.intro _ rfl (Nat.le_of_ble_eq_true rfl) rfl (fun x ok => s_X8_placesByRule_0 ok S ?_)
  refine lpU (fun t => PW l x g shX m_X8_placesByRule (Qi x g shX K) 4 [(0, .ref (g.ad 18)), (1, .int (nI (rulN b t))), (2, .int (nI t))] [] S) 10 ?_ (fun t ht ih => ?_) 0 (Nat.zero_le _)
  · exact s_X8_placesByRule_4 ok _ _ S ⟨fun _ => hk, fun c => absurd (nI_le (Nat.le_refl 10) (by decide)) c⟩
  · have e1 : rulN b (t + 1) = rulN b t + (match bk_comm b t with
      | none => 0
      | some u => bk_has b (10 * t + u)) := fb_sm_succ _ _
    rw [e1] at ih
    refine s_X8_placesByRule_4 ok _ _ S ⟨fun c => absurd c (nI_ge ht (by decide)), fun _ => ⟨inI ht (by decide), ?_⟩⟩
    rw [cl, nI_clamp (by omega), hU.2.2.1 t ht, nI_add]
    cases hm : bk_comm b t with
    | none =>
      rw [hm] at ih
      exact ⟨fun _ => ih, fun c => absurd rfl c⟩
    | some u =>
      rw [hm] at ih
      have hu := comm_lt hm
      refine ⟨fun c => absurd c (ne_neg6 (by omega)), fun _ => ⟨inI ht (by decide), ?_⟩⟩
      rw [oI_some, pk_mul, nI_add, show t * 10 + u = 10 * t + u by omega]
      simp (disch := omega) only [cl, nI_clamp, hU.1 (10 * t + u) (by omega), nI_add]
      exact ⟨inI (by omega) (by decide), ih⟩
theorem c_X8_placesInAll (hb : BOk b) (hU : XU S b) (hk : K (nI (alsN b 10)) S) : MWi l g shX m_X8_placesInAll [.ref (g.ad 18)] S K := by
  refine MWi.intro _ rfl (Nat.le_of_ble_eq_true rfl) rfl (fun x ok => s_X8_placesInAll_0 ok S ?_)
  refine lpU (fun t => PW l x g shX m_X8_placesInAll (Qi x g shX K) 4 [(0, .ref (g.ad 18)), (1, .int (nI (alsN b t))), (2, .int (nI t))] [] S) 10 ?_ (fun t ht ih => ?_) 0 (Nat.zero_le _)
  · exact s_X8_placesInAll_4 ok _ _ S ⟨fun _ => hk, fun c => absurd (nI_le (Nat.le_refl 10) (by decide)) c⟩
  · have e1 : alsN b (t + 1) = alsN b t + bk_all b t := fb_sm_succ _ _
    rw [e1] at ih
    refine s_X8_placesInAll_4 ok _ _ S ⟨fun c => absurd c (nI_ge ht (by decide)), fun _ => ⟨inI ht (by decide), ?_⟩⟩
    simp (disch := omega) only [cl, nI_clamp, hU.2.1 t ht, nI_add]
    exact ih
theorem c_X8_isGiven {w s : Nat} (hb : BOk b) (hX : XB S 4 b) (hU : XU S b) (hw : w < b.n) (hs : s < 1024) (hk : K (nI (bk_given b s w).toNat) S) : MWi l g shX m_X8_isGiven [.ref (g.ad 18), .int (nI w), .int (nI s)] S K := by
  have hn := hb.1
  have hbl := bits_lt hb hw
  have e7 : S 7 w = nI (bk_bits b w) := (hX.2 w hw).2.2.1
  refine MWi.intro _ rfl (Nat.le_of_ble_eq_true rfl) rfl (fun x ok => s_X8_isGiven_0 ok _ _ S (c_X8_isRegular hb hU hw ?_))
  unfold bk_given at hk
  simp (disch := omega) only [bI0, cl, nI_clamp, e7, sub_n]
  refine ⟨fun y => ?_, fun y => ⟨inI (by omega) (by decide), ?_⟩⟩
  · rw [y] at hk; exact hk
  · rw [Bool.not_eq_false] at y
    rw [y, Bool.true_and] at hk
    refine ⟨fun z => ?_, fun z => ?_⟩
    · rw [decide_eq_false z] at hk; exact hk
    · rw [decide_eq_true z] at hk; exact hk
def gvB (b : Bk) (s : Nat) : Nat := orB (fun w => if bk_given b s w = true then 2 ^ w else 0) b.n
theorem gvB_lt {b : Bk} (s : Nat) : gvB b s < 2 ^ b.n := orB_lt (fun i hi => by
  split
  · exact Nat.pow_lt_pow_right (by decide) hi
  · exact Nat.two_pow_pos _)
theorem gvB_tm {b : Bk} (s ws : Nat) : tmS b (gvB b s ||| ws) = bk_gives b s ws := by
  unfold tmS bk_gives
  apply sm_cong
  intro w hw
  have h1 := orb2_bit (n := b.n) (p := bk_given b s) (j := w)
  have e : (gvB b s ||| ws).testBit w = (ws.testBit w || bk_given b s w) := by
    rw [Nat.testBit_or, Bool.or_comm]
    congr 1
    cases h : bk_given b s w with
    | true => exact h1.mpr ⟨hw, h⟩
    | false =>
      cases h2 : (gvB b s).testBit w with
      | false => rfl
      | true => rw [(h1.mp h2).2] at h; cases h
  rw [e]
theorem c_X8_givenBy {s : Nat} (hb : BOk b) (hX : XB S 4 b) (hU : XU S b) (hs : s < 1024) (hk : K (nI (gvB b s)) S) : MWi l g shX m_X8_givenBy [.ref (g.ad 18), .int (nI s)] S K := by
  have hn := hb.1
  refine MWi.intro _ rfl (Nat.le_of_ble_eq_true rfl) rfl (fun x ok => s_X8_givenBy_0 ok _ S ?_)
  refine lpU (fun w => PW l x g shX m_X8_givenBy (Qi x g shX K) 4 [(0, .ref (g.ad 18)), (1, .int (nI s)), (2, .int (nI (orB (fun w => if bk_given b s w = true then 2 ^ w else 0) w))), (3, .int (nI w))] [] S) b.n ?_ (fun w hw ih => ?_) 0 (Nat.zero_le _)
  · refine s_X8_givenBy_4 ok _ _ _ S ⟨fun _ => hk, fun c => absurd ?_ c⟩
    simp (disch := omega) only [hX.1, nI_leI, Nat.le_refl]
  · rw [orB] at ih
    refine s_X8_givenBy_4 ok _ _ _ S ⟨fun c => absurd c ?_, fun _ => c_X8_isGiven hb hX hU hw hs ?_⟩
    · simp (disch := omega) only [hX.1, nI_leI]; omega
    simp (disch := omega) only [bI0, nI_add, jshl_1, fa_or]
    refine ⟨fun y => ?_, fun y => ?_⟩
    · rw [y] at ih; simpa using ih
    · rw [Bool.not_eq_false] at y
      rw [y, if_pos rfl] at ih; exact ih
theorem c_X8_newSign {w i : Nat} (hb : BOk b) (hX : XB S 4 b) (hU : XU S b) (hw : w < b.n) (hi : i < b.len w) (hk : K (nI (rsp b w i)) S) : MWi l g shX m_X8_newSign [.ref (g.ad 18), .int (nI w), .int (nI i)] S K := by
  have h5 := ((hb.2 w hw).2.2.2.2 i hi).2
  refine MWi.intro _ rfl (Nat.le_of_ble_eq_true rfl) rfl (fun x ok => s_X8_newSign_0 ok _ _ S (c_X1_soundAt hb hX hw hi ⟨inI h5 (by decide), ?_⟩))
  rw [cl, nI_clamp (by omega), hU.2.2.2.1 _ h5, nsg_rsp hb hw hi]
  exact hk
theorem c_X8_changedPlaces (hb : BOk b) (hX : XB S 4 b) (hU : XU S b) (hk : K (nI (prcN b)) S) : MWi l g shX m_X8_changedPlaces [.ref (g.ad 18)] S K := by
  have hn := hb.1
  refine MWi.intro _ rfl (Nat.le_of_ble_eq_true rfl) rfl (fun x ok => s_X8_changedPlaces_0 ok S ?_)
  refine lpU (fun w => PW l x g shX m_X8_changedPlaces (Qi x g shX K) 4 [(0, .ref (g.ad 18)), (1, .int (nI (fb_sm (prcW b) w))), (2, .int (nI w))] [] S) b.n ?_ (fun w hw ih => ?_) 0 (Nat.zero_le _)
  · refine s_X8_changedPlaces_4 ok _ _ S ⟨fun _ => hk, fun c => absurd ?_ c⟩
    simp (disch := omega) only [hX.1, nI_leI, Nat.le_refl]
  · obtain ⟨q1, q2, q3, q4, q5⟩ := hb.2 w hw
    have e5 : S 5 w = nI (b.len w) := (hX.2 w hw).1
    have e6 : S 6 w = nI (b.of w) := (hX.2 w hw).2.1
    refine s_X8_changedPlaces_4 ok _ _ S ⟨fun c => absurd c ?_, fun _ => ?_⟩
    · simp (disch := omega) only [hX.1, nI_leI]; omega
    refine lpU (fun i => PW l x g shX m_X8_changedPlaces (Qi x g shX K) 17 [(0, .ref (g.ad 18)), (1, .int (nI (fb_sm (prcW b) w + fb_sm (prc1 b w) i))), (2, .int (nI w)), (3, .int (nI i))] [] S) (b.len w) ?_ (fun i hi ih2 => ?_) 0 (Nat.zero_le _)
    · refine s_X8_changedPlaces_17 ok _ _ _ S ⟨inI (by omega) (by decide), fun _ => ?_, fun c => absurd ?_ c⟩
      · rw [nI_add]; exact ih
      · simp (disch := omega) only [cl, nI_clamp, e5, nI_leI, Nat.le_refl]
    · have r1 := rsp_lt b w i
      have r2 := (q5 i hi).1
      rw [fb_sm_succ] at ih2
      have e4 : prc1 b w i = if rsp b w i = b.sg w i then 0 else b.of w := rfl
      refine s_X8_changedPlaces_17 ok _ _ _ S ⟨inI (by omega) (by decide), fun c => absurd c ?_, fun _ => c_X8_newSign hb hX hU hw hi (c_X1_signAt hb hX hw hi ?_)⟩
      · simp (disch := omega) only [cl, nI_clamp, e5, nI_leI]; omega
      simp (disch := omega) only [cl, nI_clamp, e6, nI_eq, nI_add]
      refine ⟨fun y => ?_, fun y => ⟨inI (by omega) (by decide), ?_⟩⟩
      · rw [e4, if_pos y] at ih2; exact ih2
      · rw [e4, if_neg y] at ih2
        rw [Nat.add_assoc]; exact ih2
theorem c_X8_alike {w v : Nat} (hb : BOk b) (hX : XB S 4 b) (hU : XU S b) (hw : w < b.n) (hv : v < b.n) (hk : K (nI (csh b w v).toNat) S) : MWi l g shX m_X8_areRespeltAlike [.ref (g.ad 18), .int (nI w), .int (nI v)] S K := by
  have hn := hb.1
  obtain ⟨q1, q2, q3, q4, q5⟩ := hb.2 w hw
  obtain ⟨p1, p2, p3, p4, p5⟩ := hb.2 v hv
  have e5 : S 5 w = nI (b.len w) := (hX.2 w hw).1
  have d5 : S 5 v = nI (b.len v) := (hX.2 v hv).1
  refine MWi.intro _ rfl (Nat.le_of_ble_eq_true rfl) rfl (fun x ok => s_X8_areRespeltAlike_0 ok _ _ S ⟨inI (by omega) (by decide), inI (by omega) (by decide), ?_⟩)
  simp (disch := omega) only [cl, nI_clamp, e5, d5, nI_eq]
  unfold csh at hk
  refine ⟨fun y => ?_, fun y => ?_⟩
  · rw [decide_eq_true y, Bool.true_and] at hk
    refine lpU (fun i => (∀ j, j < i → rsp b w j = rsp b v j) → PW l x g shX m_X8_areRespeltAlike (Qi x g shX K) 25 [(0, .ref (g.ad 18)), (1, .int (nI w)), (2, .int (nI v)), (3, .int (nI i))] [] S) (b.len w) ?_ (fun i hi ih => ?_) 0 (Nat.zero_le _) (fun j hj => by omega)
    · intro hall
      have e : alB (fun i => decide (rsp b w i = rsp b v i)) (b.len w) = true := alB_iff.mpr (fun i hi => decide_eq_true (hall i hi))
      rw [e] at hk
      refine s_X8_areRespeltAlike_25 ok _ _ _ S ⟨inI (by omega) (by decide), fun _ => hk, fun c => absurd ?_ c⟩
      simp (disch := omega) only [cl, nI_clamp, e5, nI_leI, Nat.le_refl]
    · intro hall
      have r1 := rsp_lt b w i
      have r2 := rsp_lt b v i
      refine s_X8_areRespeltAlike_25 ok _ _ _ S ⟨inI (by omega) (by decide), fun c => absurd c ?_, fun _ => c_X8_newSign hb hX hU hw hi (c_X8_newSign hb hX hU hv (by omega) ?_)⟩
      · simp (disch := omega) only [cl, nI_clamp, e5, nI_leI]; omega
      rw [nI_eq (by omega) (by omega), nI_add]
      refine ⟨fun z => ih (fun j hj => ?_), fun z => ?_⟩
      · rcases Nat.lt_or_ge j i with q | q
        · exact hall j q
        · have : j = i := by omega
          subst this; exact z
      · have e : alB (fun i => decide (rsp b w i = rsp b v i)) (b.len w) = false := by
          cases h : alB (fun i => decide (rsp b w i = rsp b v i)) (b.len w) with
          | false => rfl
          | true => exact absurd (by simpa using alB_iff.mp h i hi) z
        rw [e] at hk; exact hk
  · rw [decide_eq_false y] at hk; exact hk
theorem c_X8_firstClash (hb : BOk b) (hX : XB S 4 b) (hU : XU S b) (hk : K (oI (cshO b)) S) : MWi l g shX m_X8_firstClash [.ref (g.ad 18)] S K := by
  have hn := hb.1
  refine MWi.intro _ rfl (Nat.le_of_ble_eq_true rfl) rfl (fun x ok => s_X8_firstClash_0 ok S ?_)
  refine lpU (fun w => (∀ z, z < w → cshX b z = none) → PW l x g shX m_X8_firstClash (Qi x g shX K) 2 [(0, .ref (g.ad 18)), (1, .int (nI w))] [] S) b.n ?_ (fun w hw ih => ?_) 0 (Nat.zero_le _) (fun z hz => by omega)
  · intro hno
    rw [cshO_none hno] at hk
    refine s_X8_firstClash_2 ok _ S ⟨fun _ => hk, fun c => absurd ?_ c⟩
    simp (disch := omega) only [hX.1, nI_leI, Nat.le_refl]
  · intro hno
    refine s_X8_firstClash_2 ok _ S ⟨fun c => absurd c ?_, fun _ => ?_⟩
    · simp (disch := omega) only [hX.1, nI_leI]; omega
    rw [nI_add]
    refine lpU (fun u => w + 1 ≤ u → (∀ j, j < u → (decide (w < j) && csh b w j) = false) → PW l x g shX m_X8_firstClash (Qi x g shX K) 17 [(0, .ref (g.ad 18)), (1, .int (nI w)), (2, .int (nI u))] [] S) b.n ?_ (fun u hu ih2 => ?_) (w + 1) (by omega) (Nat.le_refl _) (fun j hj => by rw [decide_eq_false (by omega)]; rfl)
    · intro _ hnu
      refine s_X8_firstClash_17 ok _ _ S ⟨fun _ => ?_, fun c => absurd ?_ c⟩
      · rw [nI_add]
        refine ih (fun z hz => ?_)
        rcases Nat.lt_or_ge z w with r | r
        · exact hno z r
        · have : z = w := by omega
          subst this
          exact fm_none.mpr hnu
      · simp (disch := omega) only [hX.1, nI_leI, Nat.le_refl]
    · intro hwu hnu
      refine s_X8_firstClash_17 ok _ _ S ⟨fun c => absurd c ?_, fun _ => c_X8_alike hb hX hU hw hu ?_⟩
      · simp (disch := omega) only [hX.1, nI_leI]; omega
      rw [bI0]
      refine ⟨fun r => ?_, fun r => ?_⟩
      · rw [nI_add]
        refine ih2 (by omega) (fun j hj => ?_)
        rcases Nat.lt_or_ge j u with q | q
        · exact hnu j q
        · have : j = u := by omega
          subst this
          rw [r]; simp
      · rw [Bool.not_eq_false] at r
        have hX2 : cshX b w = some u := fm_some.mpr ⟨hu, by rw [decide_eq_true (by omega), r]; rfl, hnu⟩
        rw [cshO_some hno hX2 hw] at hk
        rw [pk_mul, nI_add]
        exact hk
/-! reading: only the row of sounds is written -/
def Xs (S S2 : Mem) : Prop := ∀ a, a ≠ 26 → S2 a = S a
theorem Xs.rf {S : Mem} : Xs S S := fun _ _ => rfl
theorem Xs.tr {S S2 S3 : Mem} (h : Xs S S2) (h2 : Xs S2 S3) : Xs S S3 := fun a ha => (h2 a ha).trans (h a ha)
theorem Xs.XB {S S2 : Mem} {o : Nat} (h : Xs S S2) (ho : o ≠ 26 ∧ ¬ (o ≤ 26 ∧ 26 ≤ o + 5)) (hX : XB S o b) : XB S2 o b := hX.of (fun a h1 h2 => h a (by omega))
theorem Xs.XU {S S2 : Mem} (h : Xs S S2) (hU : XU S b) : XU S2 b := hU.of (fun a h1 h2 => h a (by omega))
theorem XH.of {S S2 : Mem} {o : Nat} {c : Ch} (h : XH S o c) (e : ∀ a, o ≤ a → a ≤ o + 4 → S2 a = S a) : XH S2 o c := by
  unfold XH
  rw [e (o + 1) (by omega) (by omega), e (o + 2) (by omega) (by omega), e (o + 3) (by omega) (by omega), e (o + 4) (by omega) (by omega)]
  exact h
theorem Xs.XH {S S2 : Mem} {c : Ch} (h : Xs S S2) (hH : XH S 10 c) : XH S2 10 c := hH.of (fun a h1 h2 => h a (by omega))
variable {ch : Ch}
theorem c_X6_hasSoundRow {v p : Nat} {q : Nat → Nat} (hb : BOk b) (hX : XB S 4 b) (hv : v < b.n) (hp : p ≤ 5) (hq : ∀ i, i < p → q i < 10 ∧ S 26 i = nI (q i)) (hk : K (nI (decide (b.len v = p) && alB (fun i => decide (q i = b.sd v i)) p).toNat) S) : MWi l g shX m_X6_hasSoundRow [.ref (g.ad 25), .int (nI v), .int (nI p)] S K := by
  have hn := hb.1
  obtain ⟨q1, q2, q3, q4, q5⟩ := hb.2 v hv
  have e5 : S 5 v = nI (b.len v) := (hX.2 v hv).1
  refine MWi.intro _ rfl (Nat.le_of_ble_eq_true rfl) rfl (fun x ok => s_X6_hasSoundRow_0 ok _ _ S ⟨inI (by omega) (by decide), ?_⟩)
  simp (disch := omega) only [cl, nI_clamp, e5, nI_eq]
  refine ⟨fun y => ?_, fun y => ?_⟩
  · rw [decide_eq_true y, Bool.true_and] at hk
    refine lpU (fun i => (∀ j, j < i → q j = b.sd v j) → PW l x g shX m_X6_hasSoundRow (Qi x g shX K) 17 [(0, .ref (g.ad 25)), (1, .int (nI v)), (2, .int (nI p)), (3, .int (nI i))] [] S) p ?_ (fun i hi ih => ?_) 0 (Nat.zero_le _) (fun j hj => by omega)
    · intro hall
      have e : alB (fun i => decide (q i = b.sd v i)) p = true := alB_iff.mpr (fun i hi => decide_eq_true (hall i hi))
      rw [e] at hk
      exact s_X6_hasSoundRow_17 ok _ _ _ S ⟨fun _ => hk, fun c => absurd (nI_le (Nat.le_refl p) (by omega)) c⟩
    · intro hall
      obtain ⟨r1, r2⟩ := hq i hi
      have r3 := (q5 i (by omega)).2
      refine s_X6_hasSoundRow_17 ok _ _ _ S ⟨fun c => absurd c (nI_ge hi (by omega)), fun _ => c_X1_soundAt hb hX hv (by omega) ⟨inI (by omega) (by decide), ?_⟩⟩
      rw [cl, nI_clamp (by omega), r2, nI_eq (by omega) (by omega), nI_add]
      refine ⟨fun z => ih (fun j hj => ?_), fun z => ?_⟩
      · rcases Nat.lt_or_ge j i with q | q
        · exact hall j q
        · have : j = i := by omega
          subst this; exact z.symm
      · have e : alB (fun i => decide (q i = b.sd v i)) p = false := by
          cases h : alB (fun i => decide (q i = b.sd v i)) p with
          | false => rfl
          | true =>
            have z2 : q i = b.sd v i := by simpa using alB_iff.mp h i hi
            exact absurd z2.symm z
        rw [e] at hk; exact hk
  · rw [decide_eq_false y] at hk; exact hk
theorem c_X6_soundedAs {c w : Nat} (hb : BOk b) (hX : XB S 4 b) (hU : XU S b) (hH : XH S 10 ch) (hc : c < 4) (hw : w < b.n) (hm : mx2 (ch.m c)) (hk : ∀ S2, Xs S S2 → K (oI (bk_sounded b (ch.m c) w)) S2) : MWi l g shX m_X6_soundedAs [.ref (g.ad 25), .int (nI c), .int (nI w)] S K := by
  have hn := hb.1
  obtain ⟨q1, q2, q3, q4, q5⟩ := hb.2 w hw
  have e5 : S 5 w = nI (b.len w) := (hX.2 w hw).1
  refine MWi.intro _ rfl (Nat.le_of_ble_eq_true rfl) rfl (fun x ok => s_X6_soundedAs_0 ok _ _ S ⟨inI (by omega) (by decide), ?_⟩)
  rw [cl, nI_clamp (by omega), e5]
  refine lpU (fun i => ∀ S2 (q : Nat → Nat), Xs S S2 → (∀ j, j < i → q j < 10 ∧ S2 26 j = nI (q j) ∧ bk_comm b (taken (ch.m c) (b.sg w j)) = some (q j)) → PW l x g shX m_X6_soundedAs (Qi x g shX K) 13 [(0, .ref (g.ad 25)), (1, .int (nI c)), (2, .int (nI w)), (3, .int (nI (b.len w))), (4, .int (nI i))] [] S2) (b.len w) ?_ (fun i hi ih => ?_) 0 (Nat.zero_le _) S (fun _ => 0) Xs.rf (fun j hj => by omega)
  · intro S2 q R hq
    have hX2 := R.XB (o := 4) (by decide) hX
    have hk := hk S2 R
    -- what a row of sounds says
    have eq : ∀ v, (decide (b.len v = b.len w) && alB (fun i => decide (q i = b.sd v i)) (b.len w)) = sdAs b (ch.m c) w v := by
      intro v
      unfold sdAs
      congr 1
      have h : ∀ n, n ≤ b.len w → alB (fun i => decide (q i = b.sd v i)) n = alB (fun i => decide (bk_comm b (taken (ch.m c) (b.sg w i)) = some (b.sd v i))) n := by
        intro n
        induction n with
        | zero => intro _; rfl
        | succ n ih =>
          intro hn
          rw [alB, alB, ih (by omega), (hq n (by omega)).2.2]
          simp
      exact h _ (Nat.le_refl _)
    refine s_X6_soundedAs_13 ok _ _ _ _ S2 ⟨fun _ => c_X6_hasSoundRow (q := q) hb hX2 hw q2 (fun i hi => ⟨(hq i hi).1, (hq i hi).2.1⟩) ?_, fun c => absurd (nI_le (Nat.le_refl _) (by omega)) c⟩
    rw [eq w, bI0]
    refine ⟨fun z => ?_, fun z => ?_⟩
    · unfold bk_sounded at hk
      rw [if_neg (by rw [z]; decide)] at hk
      refine lpU (fun v => (∀ j, j < v → sdAs b (ch.m c) w j = false) → PW l x g shX m_X6_soundedAs (Qi x g shX K) 91 [(0, .ref (g.ad 25)), (3, .int (nI (b.len w))), (4, .int (nI v))] [] S2) b.n ?_ (fun v hv ih => ?_) 0 (Nat.zero_le _) (fun j hj => by omega)
      · intro hno
        rw [fm_none.mpr hno] at hk
        refine s_X6_soundedAs_91 ok _ _ S2 ⟨fun _ => hk, fun c => absurd ?_ c⟩
        simp (disch := omega) only [hX2.1, nI_leI, Nat.le_refl]
      · intro hno
        refine s_X6_soundedAs_91 ok _ _ S2 ⟨fun c => absurd c ?_, fun _ => c_X6_hasSoundRow (q := q) hb hX2 hv q2 (fun i hi => ⟨(hq i hi).1, (hq i hi).2.1⟩) ?_⟩
        · simp (disch := omega) only [hX2.1, nI_leI]; omega
        rw [eq v, bI0, nI_add]
        refine ⟨fun y => ih (fun j hj => ?_), fun y => ?_⟩
        · rcases Nat.lt_or_ge j v with r | r
          · exact hno j r
          · have : j = v := by omega
            subst this; exact y
        · rw [Bool.not_eq_false] at y
          rw [fm_some.mpr ⟨hv, y, hno⟩] at hk
          exact hk
    · rw [Bool.not_eq_false] at z
      unfold bk_sounded at hk
      rw [if_pos z] at hk
      exact hk
  · intro S2 q R hq
    have hX2 := R.XB (o := 4) (by decide) hX
    have hU2 := R.XU hU
    obtain ⟨r1, r2⟩ := q5 i hi
    have ht := taken_lt hm.ok r1
    refine s_X6_soundedAs_13 ok _ _ _ _ S2 ⟨fun c => absurd c (nI_ge hi (by omega)), fun _ => c_X1_signAt hb hX2 hw hi (c_X2_takenFor hc r1 (R.XH hH) hm ⟨inI ht (by decide), inI (by omega) (by decide), inI (by omega) (by decide), ?_⟩)⟩
    simp (disch := omega) only [cl, nI_clamp, hU2.2.2.1 _ ht, nI_add]
    rw [st2_get, if_pos rfl]
    have R3 : ∀ v, Xs S (st2 S2 26 i v) := fun v a ha => by rw [st2_off ha]; exact R a ha
    cases hcm : bk_comm b (taken (ch.m c) (b.sg w i)) with
    | none =>
      refine ⟨fun c => absurd rfl c, fun _ => ?_⟩
      have hno : ∀ v, sdAs b (ch.m c) w v = false := by
        intro v
        cases h : sdAs b (ch.m c) w v with
        | false => rfl
        | true =>
          unfold sdAs at h
          rw [Bool.and_eq_true] at h
          have := alB_iff.mp h.2 i hi
          rw [hcm] at this
          simp at this
      have e : bk_sounded b (ch.m c) w = none := by
        unfold bk_sounded
        rw [if_neg (by rw [hno w]; decide), fm_none.mpr (fun j _ => hno j)]
      have hk := hk _ (R3 (oI none))
      rw [e] at hk
      exact hk
    | some u =>
      have hu := comm_lt hcm
      refine ⟨fun _ => ih _ (fun j => if j = i then u else q j) (R3 _) (fun j hj => ?_), fun c => absurd c (ne_neg6 (by omega))⟩
      by_cases e : j = i
      · subst e
        rw [if_pos rfl]
        exact ⟨hu, by rw [st2_get, if_pos rfl]; rfl, hcm⟩
      · rw [if_neg e]
        obtain ⟨a1, a2, a3⟩ := hq j (by omega)
        exact ⟨a1, by rw [st2_get, if_neg e]; exact a2, a3⟩
theorem c_X6_guessedAs {w : Nat} (hb : BOk b) (hX : XB S 4 b) (hU : XU S b) (hw : w < b.n) (hk : K (oI (bk_guess b (b.sg w 0))) S) : MWi l g shX m_X6_guessedAs [.ref (g.ad 25), .int (nI w)] S K := by
  have q1 := ((hb.2 w hw).2.2.2.2 0 (hb.2 w hw).1).1
  refine MWi.intro _ rfl (Nat.le_of_ble_eq_true rfl) rfl (fun x ok => s_X6_guessedAs_0 ok _ S (c_X1_firstSign hb hX hw ⟨inI q1 (by decide), ?_⟩))
  rw [cl, nI_clamp (by omega), hU.2.2.2.2.2.1 _ q1]
  exact hk
theorem c_X6_wayOf {c w : Nat} (hb : BOk b) (hX : XB S 4 b) (hH : XH S 10 ch) (hc : c < 4) (hw : w < b.n) (hkn : ch.k c < 1024) (hws : ch.ws c < 4096) (hk : K (nI (bk_way b (ch.k c) (ch.ws c) w)) S) : MWi l g shX m_X6_wayOf [.ref (g.ad 25), .int (nI c), .int (nI w)] S K := by
  have hn := hb.1
  obtain ⟨d1, d2, d3, d4⟩ := hH c hc
  have d1 : S 11 c = nI (ch.k c) := d1
  have d2 : S 12 c = nI (ch.ws c) := d2
  have e7 : S 7 w = nI (bk_bits b w) := (hX.2 w hw).2.2.1
  have hbl := bits_lt hb hw
  have q1 := ((hb.2 w hw).2.2.2.2 0 (hb.2 w hw).1).1
  refine MWi.intro _ rfl (Nat.le_of_ble_eq_true rfl) rfl (fun x ok => s_X6_wayOf_0 ok _ _ S ⟨inI hc (by decide), inI hc (by decide), ?_⟩)
  simp (disch := omega) only [cl, nI_clamp, d1, d2]
  refine c_X11_hasBit (by omega) (by omega) ?_
  unfold bk_way at hk
  simp (disch := omega) only [bI0, cl, nI_clamp, e7, sub_n]
  refine ⟨fun y => ⟨inI (by omega) (by decide), fun z => c_X1_firstSign hb hX hw (c_X11_hasBit (by omega) (by omega) ?_), fun z => ?_⟩, fun y => ?_⟩
  · rw [if_neg (by rw [y]; decide), if_neg z] at hk
    rw [bI0]
    refine ⟨fun u => ?_, fun u => ?_⟩
    · rw [if_neg (by rw [u]; decide)] at hk; exact hk
    · rw [Bool.not_eq_false] at u
      rw [if_pos u] at hk; exact hk
  · rw [if_neg (by rw [y]; decide), if_pos z] at hk; exact hk
  · rw [Bool.not_eq_false] at y
    rw [if_pos y] at hk; exact hk
theorem c_X6_readAs {c w : Nat} (hb : BOk b) (hX : XB S 4 b) (hU : XU S b) (hH : XH S 10 ch) (hc : c < 4) (hw : w < b.n) (hm : mx2 (ch.m c)) (hkn : ch.k c < 1024) (hws : ch.ws c < 4096) (hk : ∀ S2, Xs S S2 → K (oI (bk_rd b (ch.m c) (ch.k c) (ch.ws c) w)) S2) : MWi l g shX m_X6_readAs [.ref (g.ad 25), .int (nI c), .int (nI w)] S K := by
  refine MWi.intro _ rfl (Nat.le_of_ble_eq_true rfl) rfl (fun x ok => s_X6_readAs_0 ok _ _ S (c_X6_wayOf hb hX hH hc hw hkn hws ?_))
  unfold bk_rd at hk
  unfold bk_way
  by_cases h1 : (ch.ws c).testBit w = true
  · simp only [if_pos h1] at hk ⊢
    exact ⟨fun _ => hk S Xs.rf, fun q => absurd q (by decide), fun q => absurd q (by decide), fun q => absurd q (by decide)⟩
  · simp only [if_neg h1] at hk ⊢
    by_cases h2 : sub (bk_bits b w) (ch.k c)
    · simp only [if_pos h2] at hk ⊢
      exact ⟨fun q => absurd q (by decide), fun _ => c_X6_soundedAs hb hX hU hH hc hw hm hk, fun q => absurd q (by decide), fun q => absurd q (by decide)⟩
    · simp only [if_neg h2] at hk ⊢
      by_cases h3 : (ch.k c).testBit (b.sg w 0) = true
      · simp only [if_pos h3] at hk ⊢
        exact ⟨fun q => absurd q (by decide), fun q => absurd q (by decide), fun _ => c_X6_guessedAs hb hX hU hw (hk S Xs.rf), fun q => absurd q (by decide)⟩
      · simp only [if_neg h3] at hk ⊢
        exact ⟨fun q => absurd q (by decide), fun q => absurd q (by decide), fun q => absurd q (by decide), fun _ => hk S Xs.rf⟩
theorem c_X6_readable {c : Nat} (hb : BOk b) (hX : XB S 4 b) (hU : XU S b) (hH : XH S 10 ch) (hc : c < 4) (hm : mx2 (ch.m c)) (hkn : ch.k c < 1024) (hws : ch.ws c < 4096) (hk : ∀ S2, Xs S S2 → K (nI (rdB b (ch.m c) (ch.k c) (ch.ws c))) S2) : MWi l g shX m_X6_readable [.ref (g.ad 25), .int (nI c)] S K := by
  have hn := hb.1
  refine MWi.intro _ rfl (Nat.le_of_ble_eq_true rfl) rfl (fun x ok => s_X6_readable_0 ok _ S ?_)
  refine lpU (fun w => ∀ S2, Xs S S2 → PW l x g shX m_X6_readable (Qi x g shX K) 4 [(0, .ref (g.ad 25)), (1, .int (nI c)), (2, .int (nI (orB (fun w => if bk_can b (ch.m c) (ch.k c) (ch.ws c) w = true then 2 ^ w else 0) w))), (3, .int (nI w))] [] S2) b.n ?_ (fun w hw ih => ?_) 0 (Nat.zero_le _) S Xs.rf
  · intro S2 R
    refine s_X6_readable_4 ok _ _ _ S2 ⟨fun _ => hk S2 R, fun c => absurd ?_ c⟩
    simp (disch := omega) only [(R.XB (o := 4) (by decide) hX).1, nI_leI, Nat.le_refl]
  · intro S2 R
    refine s_X6_readable_4 ok _ _ _ S2 ⟨fun c => absurd c ?_, fun _ => c_X6_readAs hb (R.XB (o := 4) (by decide) hX) (R.XU hU) (R.XH hH) hc hw hm hkn hws (fun S3 R3 => ?_)⟩
    · simp (disch := omega) only [(R.XB (o := 4) (by decide) hX).1, nI_leI]; omega
    have h := ih S3 (R.tr R3)
    rw [orB] at h
    have hlt : ∀ r, bk_rd b (ch.m c) (ch.k c) (ch.ws c) w = some r → r < 2 ^ 31 := fun r h => by have := rd_lt hw h; omega
    have ec : bk_can b (ch.m c) (ch.k c) (ch.ws c) w = decide (bk_rd b (ch.m c) (ch.k c) (ch.ws c) w = some w) := rfl
    rw [oI_nI hlt (by omega), nI_add]
    refine ⟨fun y => ?_, fun y => ?_⟩
    · rw [ec, decide_eq_false y] at h
      simpa using h
    · rw [ec, decide_eq_true y, if_pos rfl] at h
      rw [jshl_1 (by omega), fa_or]; exact h
end CLA2
