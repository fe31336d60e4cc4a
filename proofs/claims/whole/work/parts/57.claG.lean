/-! PART 57: the class: copies of a room -/
theorem stc_same {S : Mem} {s d n j : Nat} (hn : n < 2 ^ 31) : stc S s d (nI n) d j = if j < n then S s j else S d j := by
  unfold stc
  rw [stf_same, nI_clamp hn]
  unfold va_cpy
  by_cases h : j < n
  · rw [if_pos ⟨Nat.zero_le _, by omega⟩, if_pos h]
    congr 1
    omega
  · rw [if_neg (by omega), if_neg h]
theorem stc_off {S : Mem} {s d a : Nat} {n : Int32} (h : a ≠ d) : stc S s d n a = S a := by
  unfold stc
  rw [stf_off h]
theorem XB_copy {S : Mem} {b : Bk} {o q : Nat} (hb : BOk b) (hoq : o + 5 < q ∨ q + 5 < o) (hX : XB S q b) : (∀ a, a < o ∨ o + 5 < a → (st2 (stc (stc (stc (stc (stc S (q + 1) (o + 1) (nI 12)) (q + 2) (o + 2) (nI 12)) (q + 3) (o + 3) (nI 12)) (q + 4) (o + 4) (nI 60)) (q + 5) (o + 5) (nI 60)) o 5 ((stc (stc (stc (stc (stc S (q + 1) (o + 1) (nI 12)) (q + 2) (o + 2) (nI 12)) (q + 3) (o + 3) (nI 12)) (q + 4) (o + 4) (nI 60)) (q + 5) (o + 5) (nI 60)) q 5)) a = S a) ∧ XB (st2 (stc (stc (stc (stc (stc S (q + 1) (o + 1) (nI 12)) (q + 2) (o + 2) (nI 12)) (q + 3) (o + 3) (nI 12)) (q + 4) (o + 4) (nI 60)) (q + 5) (o + 5) (nI 60)) o 5 ((stc (stc (stc (stc (stc S (q + 1) (o + 1) (nI 12)) (q + 2) (o + 2) (nI 12)) (q + 3) (o + 3) (nI 12)) (q + 4) (o + 4) (nI 60)) (q + 5) (o + 5) (nI 60)) q 5)) o b := by
  have hn := hb.1
  refine ⟨fun a ha => ?_, ?_, fun w hw => ?_⟩
  · rw [st2_off (by omega), stc_off (by omega), stc_off (by omega), stc_off (by omega), stc_off (by omega), stc_off (by omega)]
  · rw [st2_get, if_pos rfl, stc_off (by omega), stc_off (by omega), stc_off (by omega), stc_off (by omega), stc_off (by omega)]
    exact hX.1
  · obtain ⟨p1, p2, p3, p4⟩ := hX.2 w hw
    have hl := (hb.2 w hw).2.1
    refine ⟨?_, ?_, ?_, fun i hi => ⟨?_, ?_⟩⟩
    · rw [st2_off (by omega), stc_off (by omega), stc_off (by omega), stc_off (by omega), stc_off (by omega), stc_same (by decide), if_pos (by omega)]
      exact p1
    · rw [st2_off (by omega), stc_off (by omega), stc_off (by omega), stc_off (by omega), stc_same (by decide), if_pos (by omega), stc_off (by omega)]
      exact p2
    · rw [st2_off (by omega), stc_off (by omega), stc_off (by omega), stc_same (by decide), if_pos (by omega), stc_off (by omega), stc_off (by omega)]
      exact p3
    · rw [st2_off (by omega), stc_off (by omega), stc_same (by decide), if_pos (by omega), stc_off (by omega), stc_off (by omega), stc_off (by omega)]
      exact (p4 i hi).1
    · rw [st2_off (by omega), stc_same (by decide), if_pos (by omega), stc_off (by omega), stc_off (by omega), stc_off (by omega), stc_off (by omega)]
      exact (p4 i hi).2
theorem XH_copy {S : Mem} {h : Ch} {o q : Nat} (hoq : o + 4 < q ∨ q + 4 < o) (hX : XH S q h) : (∀ a, a < o ∨ o + 4 < a → (stc (stc (stc (stc S (q + 1) (o + 1) (nI 4)) (q + 2) (o + 2) (nI 4)) (q + 3) (o + 3) (nI 4)) (q + 4) (o + 4) (nI 4)) a = S a) ∧ XH (stc (stc (stc (stc S (q + 1) (o + 1) (nI 4)) (q + 2) (o + 2) (nI 4)) (q + 3) (o + 3) (nI 4)) (q + 4) (o + 4) (nI 4)) o h := by
  refine ⟨fun a ha => ?_, fun c hc => ?_⟩
  · rw [stc_off (by omega), stc_off (by omega), stc_off (by omega), stc_off (by omega)]
  · obtain ⟨p1, p2, p3, p4⟩ := hX c hc
    refine ⟨?_, ?_, ?_, ?_⟩
    · rw [stc_off (by omega), stc_off (by omega), stc_off (by omega), stc_same (by decide), if_pos hc]; exact p1
    · rw [stc_off (by omega), stc_off (by omega), stc_same (by decide), if_pos hc, stc_off (by omega)]; exact p2
    · rw [stc_off (by omega), stc_same (by decide), if_pos hc, stc_off (by omega), stc_off (by omega)]; exact p3
    · rw [stc_same (by decide), if_pos hc, stc_off (by omega), stc_off (by omega), stc_off (by omega)]; exact p4
/-- the answers' second row holds booleans -/
def XN (S : Mem) (o : Nat) : Prop := ∀ k, k < 20 → vp_nar .boolean (S o k) = S o k
section CLAG
variable {l : Launch} {g : Geo} {S : Mem} {K : Mem → Prop}
theorem c_copyA_4_47 {a : An} (ha : a.n ≤ 20) (hA : XA S 58 a) (hN : XN S 60) (hk : ∀ S2, (∀ c, c < 15 ∨ 17 < c → S2 c = S c) → XA S2 15 a → XN S2 17 → K S2) : MWv l g shX m_X0_copyFrom [.ref (g.ad 15), .ref (g.ad 58)] S K := by
  refine MWv.intro _ rfl (Nat.le_of_ble_eq_true rfl) rfl (fun x ok => s_X0_copyFrom_15_58_0 ok S ?_)
  refine lpU (fun i => ∀ S2 : Mem, (∀ c, c ≠ 16 → c ≠ 17 → S2 c = S c) → (∀ j, j < i → S2 16 j = S 59 j ∧ S2 17 j = S 60 j) → PW l x g shX m_X0_copyFrom (Qv x g shX K) 2 [(0, .ref (g.ad 15)), (1, .ref (g.ad 58)), (2, .int (nI i))] [] S2) 20 ?_ (fun i hi ih => ?_) 0 (Nat.zero_le _) S (fun _ _ _ => rfl) (fun j hj => by omega)
  · intro S2 g1 g2
    refine s_X0_copyFrom_15_58_2 ok _ S2 ⟨fun _ => ?_, fun q => absurd (nI_le (Nat.le_refl 20) (by decide)) q⟩
    refine hk _ (fun c hc => by rw [st2_off (by omega)]; exact g1 c (by omega) (by omega)) ⟨?_, fun k hk2 => ⟨?_, ?_⟩⟩ (fun k hk2 => ?_)
    · rw [st2_get, if_pos rfl, g1 58 (by decide) (by decide)]; exact hA.1
    · rw [st2_off (by decide)]; exact (g2 k (by omega)).1.trans (hA.2 k hk2).1
    · rw [st2_off (by decide)]; exact (g2 k (by omega)).2.trans (hA.2 k hk2).2
    · rw [st2_off (by decide), (g2 k hk2).2]; exact hN k hk2
  · intro S2 g1 g2
    refine s_X0_copyFrom_15_58_2 ok _ S2 ⟨fun q => absurd q (nI_ge hi (by decide)), fun _ => ⟨inI hi (by decide), inI hi (by decide), inI hi (by decide), inI hi (by decide), ?_⟩⟩
    rw [cl, nI_clamp (by omega), st2_off (show (60 : Nat) ≠ 16 by decide), g1 60 (by decide) (by decide), g1 59 (by decide) (by decide), nI_add]
    refine ⟨hN i hi, ih _ (fun c h1 h2 => by rw [st2_off h2, st2_off h1]; exact g1 c h1 h2) (fun j hj => ⟨?_, ?_⟩)⟩
    · rw [st2_off (by decide), st2_get]
      by_cases e : j = i
      · rw [if_pos e, e]
      · rw [if_neg e]; exact (g2 j (by omega)).1
    · rw [st2_get]
      by_cases e : j = i
      · rw [if_pos e, e]
      · rw [if_neg e, st2_off (by decide)]; exact (g2 j (by omega)).2
theorem c_copy_4_47 {c : Co} (hc : CoOk c) (hX : XC S 47 c) (hN : XN S 60) (hk : ∀ S2, (∀ a, a < 4 ∨ 17 < a → S2 a = S a) → XC S2 4 c → XN S2 17 → K S2) : MWv l g shX m_X7_copyFrom [.ref (g.ad 3), .ref (g.ad 46)] S K := by
  obtain ⟨hb, hh, ha⟩ := hc
  obtain ⟨x1, x2, x3⟩ := hX
  refine MWv.intro _ rfl (Nat.le_of_ble_eq_true rfl) rfl (fun x ok => s_X7_copyFrom_3_46_0 ok S ?_)
  refine MWv.intro _ rfl (Nat.le_of_ble_eq_true rfl) rfl (fun x ok => s_X1_copyFrom_4_47_0 ok S ?_)
  obtain ⟨p1, p2⟩ := XB_copy (o := 4) hb (by decide) x1
  obtain ⟨S1, hS1⟩ : ∃ S1, S1 = (st2 (stc (stc (stc (stc (stc S (47 + 1) (4 + 1) (nI 12)) (47 + 2) (4 + 2) (nI 12)) (47 + 3) (4 + 3) (nI 12)) (47 + 4) (4 + 4) (nI 60)) (47 + 5) (4 + 5) (nI 60)) 4 5 ((stc (stc (stc (stc (stc S (47 + 1) (4 + 1) (nI 12)) (47 + 2) (4 + 2) (nI 12)) (47 + 3) (4 + 3) (nI 12)) (47 + 4) (4 + 4) (nI 60)) (47 + 5) (4 + 5) (nI 60)) 47 5)) := ⟨_, rfl⟩
  rw [← hS1] at p1 p2
  refine (show MWv l g shX m_X2_copyFrom [.ref (g.ad 10), .ref (g.ad 53)] S1 _ → _ from fun z => by rw [hS1] at z; exact z) ?_
  have x2 : XH S1 53 c.2.1 := XH.of (o := 53) x2 (fun a h1 h2 => p1 a (by omega))
  have x3 : XA S1 58 c.2.2 := XA.of (o := 58) x3 (fun a h1 h2 => p1 a (by omega))
  have hN : XN S1 60 := by unfold XN; rw [p1 60 (by decide)]; exact hN
  refine MWv.intro _ rfl (Nat.le_of_ble_eq_true rfl) rfl (fun x ok => s_X2_copyFrom_10_53_0 ok S1 ?_)
  obtain ⟨q1, q2⟩ := XH_copy (o := 10) (by decide) x2
  obtain ⟨S2, hS2⟩ : ∃ S2, S2 = (stc (stc (stc (stc S1 (53 + 1) (10 + 1) (nI 4)) (53 + 2) (10 + 2) (nI 4)) (53 + 3) (10 + 3) (nI 4)) (53 + 4) (10 + 4) (nI 4)) := ⟨_, rfl⟩
  rw [← hS2] at q1 q2
  refine (show MWv l g shX m_X0_copyFrom [.ref (g.ad 15), .ref (g.ad 58)] S2 _ → _ from fun z => by rw [hS2] at z; exact z) ?_
  have x3 : XA S2 58 c.2.2 := XA.of (o := 58) x3 (fun a h1 h2 => q1 a (by omega))
  have hN : XN S2 60 := by unfold XN; rw [q1 60 (by decide)]; exact hN
  refine c_copyA_4_47 ha.1 x3 hN (fun S3 r1 r2 r3 => hk S3 (fun a h => ?_) ⟨?_, ?_, r2⟩ r3)
  · rw [r1 a (by omega), q1 a (by omega)]; exact p1 a (by omega)
  · exact p2.of (fun a h1 h2 => by rw [r1 a (by omega)]; exact q1 a (by omega))
  · exact q2.of (fun a h1 h2 => r1 a (by omega))
theorem c_copyA_4_62 {a : An} (ha : a.n ≤ 20) (hA : XA S 73 a) (hN : XN S 75) (hk : ∀ S2, (∀ c, c < 15 ∨ 17 < c → S2 c = S c) → XA S2 15 a → XN S2 17 → K S2) : MWv l g shX m_X0_copyFrom [.ref (g.ad 15), .ref (g.ad 73)] S K := by
  refine MWv.intro _ rfl (Nat.le_of_ble_eq_true rfl) rfl (fun x ok => s_X0_copyFrom_15_73_0 ok S ?_)
  refine lpU (fun i => ∀ S2 : Mem, (∀ c, c ≠ 16 → c ≠ 17 → S2 c = S c) → (∀ j, j < i → S2 16 j = S 74 j ∧ S2 17 j = S 75 j) → PW l x g shX m_X0_copyFrom (Qv x g shX K) 2 [(0, .ref (g.ad 15)), (1, .ref (g.ad 73)), (2, .int (nI i))] [] S2) 20 ?_ (fun i hi ih => ?_) 0 (Nat.zero_le _) S (fun _ _ _ => rfl) (fun j hj => by omega)
  · intro S2 g1 g2
    refine s_X0_copyFrom_15_73_2 ok _ S2 ⟨fun _ => ?_, fun q => absurd (nI_le (Nat.le_refl 20) (by decide)) q⟩
    refine hk _ (fun c hc => by rw [st2_off (by omega)]; exact g1 c (by omega) (by omega)) ⟨?_, fun k hk2 => ⟨?_, ?_⟩⟩ (fun k hk2 => ?_)
    · rw [st2_get, if_pos rfl, g1 73 (by decide) (by decide)]; exact hA.1
    · rw [st2_off (by decide)]; exact (g2 k (by omega)).1.trans (hA.2 k hk2).1
    · rw [st2_off (by decide)]; exact (g2 k (by omega)).2.trans (hA.2 k hk2).2
    · rw [st2_off (by decide), (g2 k hk2).2]; exact hN k hk2
  · intro S2 g1 g2
    refine s_X0_copyFrom_15_73_2 ok _ S2 ⟨fun q => absurd q (nI_ge hi (by decide)), fun _ => ⟨inI hi (by decide), inI hi (by decide), inI hi (by decide), inI hi (by decide), ?_⟩⟩
    rw [cl, nI_clamp (by omega), st2_off (show (75 : Nat) ≠ 16 by decide), g1 75 (by decide) (by decide), g1 74 (by decide) (by decide), nI_add]
    refine ⟨hN i hi, ih _ (fun c h1 h2 => by rw [st2_off h2, st2_off h1]; exact g1 c h1 h2) (fun j hj => ⟨?_, ?_⟩)⟩
    · rw [st2_off (by decide), st2_get]
      by_cases e : j = i
      · rw [if_pos e, e]
      · rw [if_neg e]; exact (g2 j (by omega)).1
    · rw [st2_get]
      by_cases e : j = i
      · rw [if_pos e, e]
      · rw [if_neg e, st2_off (by decide)]; exact (g2 j (by omega)).2
theorem c_copy_4_62 {c : Co} (hc : CoOk c) (hX : XC S 62 c) (hN : XN S 75) (hk : ∀ S2, (∀ a, a < 4 ∨ 17 < a → S2 a = S a) → XC S2 4 c → XN S2 17 → K S2) : MWv l g shX m_X7_copyFrom [.ref (g.ad 3), .ref (g.ad 61)] S K := by
  obtain ⟨hb, hh, ha⟩ := hc
  obtain ⟨x1, x2, x3⟩ := hX
  refine MWv.intro _ rfl (Nat.le_of_ble_eq_true rfl) rfl (fun x ok => s_X7_copyFrom_3_61_0 ok S ?_)
  refine MWv.intro _ rfl (Nat.le_of_ble_eq_true rfl) rfl (fun x ok => s_X1_copyFrom_4_62_0 ok S ?_)
  obtain ⟨p1, p2⟩ := XB_copy (o := 4) hb (by decide) x1
  obtain ⟨S1, hS1⟩ : ∃ S1, S1 = (st2 (stc (stc (stc (stc (stc S (62 + 1) (4 + 1) (nI 12)) (62 + 2) (4 + 2) (nI 12)) (62 + 3) (4 + 3) (nI 12)) (62 + 4) (4 + 4) (nI 60)) (62 + 5) (4 + 5) (nI 60)) 4 5 ((stc (stc (stc (stc (stc S (62 + 1) (4 + 1) (nI 12)) (62 + 2) (4 + 2) (nI 12)) (62 + 3) (4 + 3) (nI 12)) (62 + 4) (4 + 4) (nI 60)) (62 + 5) (4 + 5) (nI 60)) 62 5)) := ⟨_, rfl⟩
  rw [← hS1] at p1 p2
  refine (show MWv l g shX m_X2_copyFrom [.ref (g.ad 10), .ref (g.ad 68)] S1 _ → _ from fun z => by rw [hS1] at z; exact z) ?_
  have x2 : XH S1 68 c.2.1 := XH.of (o := 68) x2 (fun a h1 h2 => p1 a (by omega))
  have x3 : XA S1 73 c.2.2 := XA.of (o := 73) x3 (fun a h1 h2 => p1 a (by omega))
  have hN : XN S1 75 := by unfold XN; rw [p1 75 (by decide)]; exact hN
  refine MWv.intro _ rfl (Nat.le_of_ble_eq_true rfl) rfl (fun x ok => s_X2_copyFrom_10_68_0 ok S1 ?_)
  obtain ⟨q1, q2⟩ := XH_copy (o := 10) (by decide) x2
  obtain ⟨S2, hS2⟩ : ∃ S2, S2 = (stc (stc (stc (stc S1 (68 + 1) (10 + 1) (nI 4)) (68 + 2) (10 + 2) (nI 4)) (68 + 3) (10 + 3) (nI 4)) (68 + 4) (10 + 4) (nI 4)) := ⟨_, rfl⟩
  rw [← hS2] at q1 q2
  refine (show MWv l g shX m_X0_copyFrom [.ref (g.ad 15), .ref (g.ad 73)] S2 _ → _ from fun z => by rw [hS2] at z; exact z) ?_
  have x3 : XA S2 73 c.2.2 := XA.of (o := 73) x3 (fun a h1 h2 => q1 a (by omega))
  have hN : XN S2 75 := by unfold XN; rw [q1 75 (by decide)]; exact hN
  refine c_copyA_4_62 ha.1 x3 hN (fun S3 r1 r2 r3 => hk S3 (fun a h => ?_) ⟨?_, ?_, r2⟩ r3)
  · rw [r1 a (by omega), q1 a (by omega)]; exact p1 a (by omega)
  · exact p2.of (fun a h1 h2 => by rw [r1 a (by omega)]; exact q1 a (by omega))
  · exact q2.of (fun a h1 h2 => r1 a (by omega))
theorem c_copyA_47_4 {a : An} (ha : a.n ≤ 20) (hA : XA S 15 a) (hN : XN S 17) (hk : ∀ S2, (∀ c, c < 58 ∨ 60 < c → S2 c = S c) → XA S2 58 a → XN S2 60 → K S2) : MWv l g shX m_X0_copyFrom [.ref (g.ad 58), .ref (g.ad 15)] S K := by
  refine MWv.intro _ rfl (Nat.le_of_ble_eq_true rfl) rfl (fun x ok => s_X0_copyFrom_58_15_0 ok S ?_)
  refine lpU (fun i => ∀ S2 : Mem, (∀ c, c ≠ 59 → c ≠ 60 → S2 c = S c) → (∀ j, j < i → S2 59 j = S 16 j ∧ S2 60 j = S 17 j) → PW l x g shX m_X0_copyFrom (Qv x g shX K) 2 [(0, .ref (g.ad 58)), (1, .ref (g.ad 15)), (2, .int (nI i))] [] S2) 20 ?_ (fun i hi ih => ?_) 0 (Nat.zero_le _) S (fun _ _ _ => rfl) (fun j hj => by omega)
  · intro S2 g1 g2
    refine s_X0_copyFrom_58_15_2 ok _ S2 ⟨fun _ => ?_, fun q => absurd (nI_le (Nat.le_refl 20) (by decide)) q⟩
    refine hk _ (fun c hc => by rw [st2_off (by omega)]; exact g1 c (by omega) (by omega)) ⟨?_, fun k hk2 => ⟨?_, ?_⟩⟩ (fun k hk2 => ?_)
    · rw [st2_get, if_pos rfl, g1 15 (by decide) (by decide)]; exact hA.1
    · rw [st2_off (by decide)]; exact (g2 k (by omega)).1.trans (hA.2 k hk2).1
    · rw [st2_off (by decide)]; exact (g2 k (by omega)).2.trans (hA.2 k hk2).2
    · rw [st2_off (by decide), (g2 k hk2).2]; exact hN k hk2
  · intro S2 g1 g2
    refine s_X0_copyFrom_58_15_2 ok _ S2 ⟨fun q => absurd q (nI_ge hi (by decide)), fun _ => ⟨inI hi (by decide), inI hi (by decide), inI hi (by decide), inI hi (by decide), ?_⟩⟩
    rw [cl, nI_clamp (by omega), st2_off (show (17 : Nat) ≠ 59 by decide), g1 17 (by decide) (by decide), g1 16 (by decide) (by decide), nI_add]
    refine ⟨hN i hi, ih _ (fun c h1 h2 => by rw [st2_off h2, st2_off h1]; exact g1 c h1 h2) (fun j hj => ⟨?_, ?_⟩)⟩
    · rw [st2_off (by decide), st2_get]
      by_cases e : j = i
      · rw [if_pos e, e]
      · rw [if_neg e]; exact (g2 j (by omega)).1
    · rw [st2_get]
      by_cases e : j = i
      · rw [if_pos e, e]
      · rw [if_neg e, st2_off (by decide)]; exact (g2 j (by omega)).2
theorem c_copy_47_4 {c : Co} (hc : CoOk c) (hX : XC S 4 c) (hN : XN S 17) (hk : ∀ S2, (∀ a, a < 47 ∨ 60 < a → S2 a = S a) → XC S2 47 c → XN S2 60 → K S2) : MWv l g shX m_X7_copyFrom [.ref (g.ad 46), .ref (g.ad 3)] S K := by
  obtain ⟨hb, hh, ha⟩ := hc
  obtain ⟨x1, x2, x3⟩ := hX
  refine MWv.intro _ rfl (Nat.le_of_ble_eq_true rfl) rfl (fun x ok => s_X7_copyFrom_46_3_0 ok S ?_)
  refine MWv.intro _ rfl (Nat.le_of_ble_eq_true rfl) rfl (fun x ok => s_X1_copyFrom_47_4_0 ok S ?_)
  obtain ⟨p1, p2⟩ := XB_copy (o := 47) hb (by decide) x1
  obtain ⟨S1, hS1⟩ : ∃ S1, S1 = (st2 (stc (stc (stc (stc (stc S (4 + 1) (47 + 1) (nI 12)) (4 + 2) (47 + 2) (nI 12)) (4 + 3) (47 + 3) (nI 12)) (4 + 4) (47 + 4) (nI 60)) (4 + 5) (47 + 5) (nI 60)) 47 5 ((stc (stc (stc (stc (stc S (4 + 1) (47 + 1) (nI 12)) (4 + 2) (47 + 2) (nI 12)) (4 + 3) (47 + 3) (nI 12)) (4 + 4) (47 + 4) (nI 60)) (4 + 5) (47 + 5) (nI 60)) 4 5)) := ⟨_, rfl⟩
  rw [← hS1] at p1 p2
  refine (show MWv l g shX m_X2_copyFrom [.ref (g.ad 53), .ref (g.ad 10)] S1 _ → _ from fun z => by rw [hS1] at z; exact z) ?_
  have x2 : XH S1 10 c.2.1 := XH.of (o := 10) x2 (fun a h1 h2 => p1 a (by omega))
  have x3 : XA S1 15 c.2.2 := XA.of (o := 15) x3 (fun a h1 h2 => p1 a (by omega))
  have hN : XN S1 17 := by unfold XN; rw [p1 17 (by decide)]; exact hN
  refine MWv.intro _ rfl (Nat.le_of_ble_eq_true rfl) rfl (fun x ok => s_X2_copyFrom_53_10_0 ok S1 ?_)
  obtain ⟨q1, q2⟩ := XH_copy (o := 53) (by decide) x2
  obtain ⟨S2, hS2⟩ : ∃ S2, S2 = (stc (stc (stc (stc S1 (10 + 1) (53 + 1) (nI 4)) (10 + 2) (53 + 2) (nI 4)) (10 + 3) (53 + 3) (nI 4)) (10 + 4) (53 + 4) (nI 4)) := ⟨_, rfl⟩
  rw [← hS2] at q1 q2
  refine (show MWv l g shX m_X0_copyFrom [.ref (g.ad 58), .ref (g.ad 15)] S2 _ → _ from fun z => by rw [hS2] at z; exact z) ?_
  have x3 : XA S2 15 c.2.2 := XA.of (o := 15) x3 (fun a h1 h2 => q1 a (by omega))
  have hN : XN S2 17 := by unfold XN; rw [q1 17 (by decide)]; exact hN
  refine c_copyA_47_4 ha.1 x3 hN (fun S3 r1 r2 r3 => hk S3 (fun a h => ?_) ⟨?_, ?_, r2⟩ r3)
  · rw [r1 a (by omega), q1 a (by omega)]; exact p1 a (by omega)
  · exact p2.of (fun a h1 h2 => by rw [r1 a (by omega)]; exact q1 a (by omega))
  · exact q2.of (fun a h1 h2 => r1 a (by omega))
theorem c_copyA_62_4 {a : An} (ha : a.n ≤ 20) (hA : XA S 15 a) (hN : XN S 17) (hk : ∀ S2, (∀ c, c < 73 ∨ 75 < c → S2 c = S c) → XA S2 73 a → XN S2 75 → K S2) : MWv l g shX m_X0_copyFrom [.ref (g.ad 73), .ref (g.ad 15)] S K := by
  refine MWv.intro _ rfl (Nat.le_of_ble_eq_true rfl) rfl (fun x ok => s_X0_copyFrom_73_15_0 ok S ?_)
  refine lpU (fun i => ∀ S2 : Mem, (∀ c, c ≠ 74 → c ≠ 75 → S2 c = S c) → (∀ j, j < i → S2 74 j = S 16 j ∧ S2 75 j = S 17 j) → PW l x g shX m_X0_copyFrom (Qv x g shX K) 2 [(0, .ref (g.ad 73)), (1, .ref (g.ad 15)), (2, .int (nI i))] [] S2) 20 ?_ (fun i hi ih => ?_) 0 (Nat.zero_le _) S (fun _ _ _ => rfl) (fun j hj => by omega)
  · intro S2 g1 g2
    refine s_X0_copyFrom_73_15_2 ok _ S2 ⟨fun _ => ?_, fun q => absurd (nI_le (Nat.le_refl 20) (by decide)) q⟩
    refine hk _ (fun c hc => by rw [st2_off (by omega)]; exact g1 c (by omega) (by omega)) ⟨?_, fun k hk2 => ⟨?_, ?_⟩⟩ (fun k hk2 => ?_)
    · rw [st2_get, if_pos rfl, g1 15 (by decide) (by decide)]; exact hA.1
    · rw [st2_off (by decide)]; exact (g2 k (by omega)).1.trans (hA.2 k hk2).1
    · rw [st2_off (by decide)]; exact (g2 k (by omega)).2.trans (hA.2 k hk2).2
    · rw [st2_off (by decide), (g2 k hk2).2]; exact hN k hk2
  · intro S2 g1 g2
    refine s_X0_copyFrom_73_15_2 ok _ S2 ⟨fun q => absurd q (nI_ge hi (by decide)), fun _ => ⟨inI hi (by decide), inI hi (by decide), inI hi (by decide), inI hi (by decide), ?_⟩⟩
    rw [cl, nI_clamp (by omega), st2_off (show (17 : Nat) ≠ 74 by decide), g1 17 (by decide) (by decide), g1 16 (by decide) (by decide), nI_add]
    refine ⟨hN i hi, ih _ (fun c h1 h2 => by rw [st2_off h2, st2_off h1]; exact g1 c h1 h2) (fun j hj => ⟨?_, ?_⟩)⟩
    · rw [st2_off (by decide), st2_get]
      by_cases e : j = i
      · rw [if_pos e, e]
      · rw [if_neg e]; exact (g2 j (by omega)).1
    · rw [st2_get]
      by_cases e : j = i
      · rw [if_pos e, e]
      · rw [if_neg e, st2_off (by decide)]; exact (g2 j (by omega)).2
theorem c_copy_62_4 {c : Co} (hc : CoOk c) (hX : XC S 4 c) (hN : XN S 17) (hk : ∀ S2, (∀ a, a < 62 ∨ 75 < a → S2 a = S a) → XC S2 62 c → XN S2 75 → K S2) : MWv l g shX m_X7_copyFrom [.ref (g.ad 61), .ref (g.ad 3)] S K := by
  obtain ⟨hb, hh, ha⟩ := hc
  obtain ⟨x1, x2, x3⟩ := hX
  refine MWv.intro _ rfl (Nat.le_of_ble_eq_true rfl) rfl (fun x ok => s_X7_copyFrom_61_3_0 ok S ?_)
  refine MWv.intro _ rfl (Nat.le_of_ble_eq_true rfl) rfl (fun x ok => s_X1_copyFrom_62_4_0 ok S ?_)
  obtain ⟨p1, p2⟩ := XB_copy (o := 62) hb (by decide) x1
  obtain ⟨S1, hS1⟩ : ∃ S1, S1 = (st2 (stc (stc (stc (stc (stc S (4 + 1) (62 + 1) (nI 12)) (4 + 2) (62 + 2) (nI 12)) (4 + 3) (62 + 3) (nI 12)) (4 + 4) (62 + 4) (nI 60)) (4 + 5) (62 + 5) (nI 60)) 62 5 ((stc (stc (stc (stc (stc S (4 + 1) (62 + 1) (nI 12)) (4 + 2) (62 + 2) (nI 12)) (4 + 3) (62 + 3) (nI 12)) (4 + 4) (62 + 4) (nI 60)) (4 + 5) (62 + 5) (nI 60)) 4 5)) := ⟨_, rfl⟩
  rw [← hS1] at p1 p2
  refine (show MWv l g shX m_X2_copyFrom [.ref (g.ad 68), .ref (g.ad 10)] S1 _ → _ from fun z => by rw [hS1] at z; exact z) ?_
  have x2 : XH S1 10 c.2.1 := XH.of (o := 10) x2 (fun a h1 h2 => p1 a (by omega))
  have x3 : XA S1 15 c.2.2 := XA.of (o := 15) x3 (fun a h1 h2 => p1 a (by omega))
  have hN : XN S1 17 := by unfold XN; rw [p1 17 (by decide)]; exact hN
  refine MWv.intro _ rfl (Nat.le_of_ble_eq_true rfl) rfl (fun x ok => s_X2_copyFrom_68_10_0 ok S1 ?_)
  obtain ⟨q1, q2⟩ := XH_copy (o := 68) (by decide) x2
  obtain ⟨S2, hS2⟩ : ∃ S2, S2 = (stc (stc (stc (stc S1 (10 + 1) (68 + 1) (nI 4)) (10 + 2) (68 + 2) (nI 4)) (10 + 3) (68 + 3) (nI 4)) (10 + 4) (68 + 4) (nI 4)) := ⟨_, rfl⟩
  rw [← hS2] at q1 q2
  refine (show MWv l g shX m_X0_copyFrom [.ref (g.ad 73), .ref (g.ad 15)] S2 _ → _ from fun z => by rw [hS2] at z; exact z) ?_
  have x3 : XA S2 15 c.2.2 := XA.of (o := 15) x3 (fun a h1 h2 => q1 a (by omega))
  have hN : XN S2 17 := by unfold XN; rw [q1 17 (by decide)]; exact hN
  refine c_copyA_62_4 ha.1 x3 hN (fun S3 r1 r2 r3 => hk S3 (fun a h => ?_) ⟨?_, ?_, r2⟩ r3)
  · rw [r1 a (by omega), q1 a (by omega)]; exact p1 a (by omega)
  · exact p2.of (fun a h1 h2 => by rw [r1 a (by omega)]; exact q1 a (by omega))
  · exact q2.of (fun a h1 h2 => r1 a (by omega))
end CLAG
