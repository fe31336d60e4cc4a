/-! PART 39: the model's calls: answers, lessons, images -/
section MODS
variable {l : Launch} {g : Geo} {S : Mem} {s : Sg} {K : Int32 → Mem → Prop} {v v1 v2 v3 : Int32}
theorem pm_answer {r : Bool} (hs : SgOk s) (hR : MRep S s) (hk : ∀ S2, MRep S2 (st_answer s v1 r) → K (sp_answer s v1) S2) : MWi l g shM m_X12_answer [.ref (g.ad 0), .int v1, .int (nI r.toNat)] S K := by
  obtain ⟨hb, hh, ha⟩ : BOk s.b ∧ ChOk s.b s.h ∧ AnOk s.b s.a := hs.1
  have hn := hb.1
  have hna : s.a.n ≤ 20 := ha.1
  obtain ⟨⟨hM, hH, hA⟩, p2, p3, p4⟩ := id hR
  have hM : MB S s.b := hM
  have hH : MH S s.h := hH
  have hA : MA S s.a := hA
  unfold sp_answer st_answer at hk
  refine MWi.intro _ rfl (Nat.le_of_ble_eq_true rfl) rfl (fun x ok => s_X12_answer_0 ok _ _ S (c_X12_isWord hb hM (fun w hw e => z1 ?_) (fun h => z0 ?_)))
  · subst e
    rw [ix_nI hw (by omega)] at hk
    dsimp only at hk
    simp (disch := omega) only [hA.1, nI_eq, cl, nI_clamp, st2_off, st2_get, nI_add, if_true, bI0]
    have fin : ¬ s.a.n = 20 → K (nI (s.a.n + 1)) (st2 (st2 (st2 S 16 s.a.n (nI w)) 17 s.a.n (nI r.toNat)) 0 22 (nI (s.a.n + 1))) := by
      intro y
      rw [if_neg y, if_neg y] at hk
      refine hk _ ⟨⟨hM.of (by rw [st2_get, if_neg (by decide), st2_off (by decide), st2_off (by decide)]) (fun b _ _ => by rw [st2_off (by omega), st2_off (by omega), st2_off (by omega)]), fun c hc => ?_, ?_, fun k hk => ?_⟩, ?_, fun i hi => ?_, im_of (s := s) hs p4 ?_ ?_⟩
      · simp (disch := decide) only [st2_off]; exact hH c hc
      · rw [st2_get, if_pos rfl]
      · have hk : k < s.a.n + 1 := hk
        simp (disch := decide) only [st2_off, st2_get]
        show _ = nI (upN s.a.2.1 s.a.n w k) ∧ _ = nI (upN s.a.2.2 s.a.n r k).toNat
        unfold upN
        split
        · exact ⟨rfl, rfl⟩
        · exact hA.2 k (by omega)
      · rw [st2_get, if_neg (by decide), st2_off (by decide), st2_off (by decide)]; exact p2
      · simp (disch := decide) only [st2_off]; exact p3 i hi
      · simp (disch := decide) only [st2_off]
      · simp (disch := decide) only [st2_off]
    refine ⟨fun y => ⟨inI (by omega) (by decide), fun z => ⟨inI (by omega) (by decide), ?_⟩, fun z => ⟨inI (by omega) (by decide), ?_⟩⟩, fun y => ?_⟩
    · have := fin y; rw [z] at this; exact this
    · rw [Bool.not_eq_false] at z
      have := fin y; rw [z] at this; exact this
    · rw [if_pos y, if_pos y] at hk
      exact hk S hR
  · rw [ix_no h] at hk
    exact hk S hR
theorem pm_clear (hs : SgOk s) (hR : MRep S s) (hk : ∀ S2, MRep S2 (st_clear s) → K (nI s.a.n) S2) : MWi l g shM m_X12_clear [.ref (g.ad 0)] S K := by
  obtain ⟨⟨hM, hH, hA⟩, p2, p3, p4⟩ := id hR
  have hM : MB S s.b := hM
  have hH : MH S s.h := hH
  have hA : MA S s.a := hA
  refine MWi.intro _ rfl (Nat.le_of_ble_eq_true rfl) rfl (fun x ok => s_X12_clear_0 ok S ?_)
  rw [hA.1]
  refine hk _ ⟨⟨hM.of (by rw [st2_get, if_neg (by decide)]) (fun b _ _ => by rw [st2_off (by omega)]), fun c hc => ?_, ?_, fun k hk => ?_⟩, ?_, fun i hi => ?_, im_of (s := s) hs p4 (st2_off (by decide)) (st2_off (by decide))⟩
  · simp (disch := decide) only [st2_off]; exact hH c hc
  · rw [st2_get, if_pos rfl]; rfl
  · have hk : k < 0 := hk
    omega
  · rw [st2_get, if_neg (by decide)]; exact p2
  · rw [st2_off (by decide)]; exact p3 i hi
theorem MAo {S S2 : Mem} {a : An} (h : MA S a) (o : ∀ b, b < 6 ∨ 8 < b → S2 b = S b) : MA S2 a := by
  unfold MA
  rw [o 0 (by omega), o 16 (by omega), o 17 (by omega)]; exact h
theorem MBo {S S2 : Mem} {b : Bk} (h : MB S b) (o : ∀ b, b < 6 ∨ 8 < b → S2 b = S b) : MB S2 b := h.of (by rw [o 0 (by omega)]) (fun a _ _ => o a (by omega))
theorem pm_may (hs : SgOk s) (hR : MRep S s) (hk : ∀ S2, MRep S2 s → K (nI (mayN s.b s.a 0)) S2) : MWi l g shM m_X12_may [.ref (g.ad 0)] S K := by
  obtain ⟨hb, hh, ha⟩ : BOk s.b ∧ ChOk s.b s.h ∧ AnOk s.b s.a := hs.1
  have hM : MB S s.b := hR.1.1
  have hA : MA S s.a := hR.1.2.2
  exact MWi.intro _ rfl (Nat.le_of_ble_eq_true rfl) rfl (fun x ok => s_X12_may_0 ok S (c_X12_findCommon hb hM (fun S2 o hC => c_X12_mayWith hb (MBo hM o) hC ha (MAo hA o) (by decide) (hk S2 (fC hs hR o)))))
theorem pm_lacks {K : Int64 → Mem → Prop} (hs : SgOk s) (hR : MRep S s) (hk : ∀ S2, MRep S2 s → K (sp_lacks s v1 v2) S2) : MWl l g shM m_X12_lacks [.ref (g.ad 0), .int v1, .int v2] S K := by
  obtain ⟨hb, hh, ha⟩ : BOk s.b ∧ ChOk s.b s.h ∧ AnOk s.b s.a := hs.1
  have hM : MB S s.b := hR.1.1
  have hA : MA S s.a := hR.1.2.2
  unfold sp_lacks at hk
  refine MWl.intro _ rfl (Nat.le_of_ble_eq_true rfl) rfl (fun x ok => s_X12_lacks_0 ok _ _ S (c_X12_isSign (fun t ht e => z1 (c_X12_isEnd (fun p hp e2 => z1 ?_) (fun h => z0 ?_))) (fun h => z0 ?_)))
  · subst e; subst e2
    rw [ix_nI ht (by omega), ix_nI hp (by omega)] at hk
    dsimp only at hk
    refine c_X12_findCommon hb hM (fun S2 o hC => c_X12_mayWith hb (MBo hM o) hC ha (MAo hA o) (by decide) ?_)
    have hk := hk S2 (fC hs hR o)
    have hml := mayN_le s.b s.a 0
    have h2t : 2 ^ t < 1024 := Nat.pow_lt_pow_right (n := 10) (by decide) ht
    have hml2 := mayN_le s.b s.a (2 ^ t)
    rw [nI_eq0 (by omega)]
    refine ⟨fun y => ?_, fun y => ?_⟩
    · rw [if_neg y] at hk
      rw [jshl_1 (by omega)]
      refine c_X12_mayWith hb (MBo hM o) hC ha (MAo hA o) h2t ?_
      rw [nI_l (by omega), nI_l (by omega)]
      exact c_X12_lowest (by omega) (by omega) hp hk
    · rw [if_pos y] at hk; exact hk
  · subst e
    rw [ix_nI ht (by omega), ix_no h] at hk
    exact hk S hR
  · rw [ix_no h] at hk
    exact hk S hR
theorem pm_tells (hs : SgOk s) (hR : MRep S s) (hk : ∀ S2, MRep S2 s → K (oI (tllO s.b s.a s.b.n)) S2) : MWi l g shM m_X12_tells [.ref (g.ad 0)] S K := by
  obtain ⟨hb, hh, ha⟩ : BOk s.b ∧ ChOk s.b s.h ∧ AnOk s.b s.a := hs.1
  exact c_X12_tells hb hR.1.1 ha hR.1.2.2 (fun S2 o => hk S2 (fC hs hR o))
theorem jshlB {b : Bool} {k : Nat} (hk : k < 31) : jshl (nI b.toNat) (nI k) = nI (if b = true then 2 ^ k else 0) := by
  have h : 2 ^ k < 2 ^ 31 := Nat.pow_lt_pow_right (by decide) hk
  cases b
  · rw [show (false : Bool).toNat = 0 from rfl, jshl_n (by omega) (by rw [Nat.zero_mul]; decide), Nat.zero_mul]; rfl
  · exact jshl_1 hk
set_option maxHeartbeats 1000000 in
theorem pm_test (hs : SgOk s) (hR : MRep S s) (hk : ∀ S2, MRep S2 s → K (oI (tstO s.b (regB s.b + 1))) S2) : MWi l g shM m_X12_test [.ref (g.ad 0)] S K := by
  obtain ⟨hb, hh, ha⟩ : BOk s.b ∧ ChOk s.b s.h ∧ AnOk s.b s.a := hs.1
  have hn := hb.1
  have hM : MB S s.b := hR.1.1
  have hrl : regB s.b < 4096 := orb2_lt hb.1 _
  refine MWi.intro _ rfl (Nat.le_of_ble_eq_true rfl) rfl (fun x ok => s_X12_test_0 ok S (c_X12_findCommon hb hM (fun S1 o hC => ?_)))
  have hM1 : MB S1 s.b := MBo hM o
  -- the sets
  have L3 : ∀ S2 : Mem, (∀ a, a ≠ 18 → S2 a = S1 a) → (∀ t, t < 11 → S2 18 t = nI (colm s.b t)) → PW l x g shM m_X12_test (Qi x g shM K) 96 [(0, .ref (g.ad 0)), (1, .int (nI (regB s.b))), (2, .int (-6)), (3, .int (nI 0))] [] S2 := by
    intro S2 g1 g2
    have hk := hk S2 ((fC hs hR o).of hs (fun a j h => by rw [g1 a (by have := pub_ne h; omega)]))
    refine lpU (fun t => PW l x g shM m_X12_test (Qi x g shM K) 96 [(0, .ref (g.ad 0)), (1, .int (nI (regB s.b))), (2, .int (oI (tstO s.b t))), (3, .int (nI t))] [] S2) (regB s.b + 1) ?_ (fun t ht ih => ?_) 0 (Nat.zero_le _)
    · exact s_X12_test_96 ok _ _ _ S2 ⟨fun _ => hk, fun c => absurd (nI_lt (by omega) (by omega)) c⟩
    · refine s_X12_test_96 ok _ _ _ S2 ⟨fun c => absurd c (nI_nlt (by omega) (by omega)), fun _ => ?_⟩
      have hlt : ∀ j, tstO s.b t = some j → j < 2 ^ 31 := fun j h => by have := am_lt h; omega
      simp (disch := omega) only [sub_n, oI_lt0 hlt, nI_add]
      have no : (decide (sub t (regB s.b)) && tla s.b t) = false → tstO s.b (t + 1) = tstO s.b t := fun h => am_no h
      refine ⟨fun y => ?_, fun y => ⟨fun z => ?_, fun z => ?_⟩⟩
      · rw [no (by rw [decide_eq_false y]; rfl)] at ih; exact ih
      · refine c_X12_tellsAll hb g2 (by omega) ?_
        rw [bI0]
        refine ⟨fun r => ?_, fun r => ?_⟩
        · rw [no (by rw [r]; simp)] at ih; exact ih
        · rw [Bool.not_eq_false] at r
          have e : tstO s.b (t + 1) = some t := am_one (by rw [decide_eq_true y, r]; rfl) z
          rw [e] at ih; exact ih
      · cases hm : tstO s.b t with
        | none => exact absurd hm z
        | some j =>
          have hj := am_lt hm
          have p1 := pc_le t
          have p2 := pc_le j
          refine c_X12_ones (by omega) (c_X12_ones (v := j) (by omega) ?_)
          rw [nI_leI (by omega) (by omega)]
          refine ⟨fun r => ?_, fun r => c_X12_tellsAll hb g2 (by omega) ?_⟩
          · have e : tstO s.b (t + 1) = some j := am_less hm (by omega)
            rw [e] at ih; exact ih
          · rw [bI0]
            refine ⟨fun q => ?_, fun q => ?_⟩
            · rw [no (by rw [q]; simp), hm] at ih; exact ih
            · rw [Bool.not_eq_false] at q
              have e : tstO s.b (t + 1) = some t := am_more (by rw [decide_eq_true y, q]; rfl) hm (by omega)
              rw [e] at ih; exact ih
  -- the words
  have L2 : ∀ S2 : Mem, (∀ a, a ≠ 18 → S2 a = S1 a) → (∀ t, t < 11 → S2 18 t = nI 0) → PW l x g shM m_X12_test (Qi x g shM K) 29 [(0, .ref (g.ad 0)), (1, .int (nI 0)), (2, .int (nI 0))] [] S2 := by
    intro S2 g1 g2
    refine lpU (fun w => ∀ S2 : Mem, (∀ a, a ≠ 18 → S2 a = S1 a) → (∀ t, t < 11 → S2 18 t = nI (orB (fun w => if (bk_reg s.b w && (bk_bits s.b w).testBit t) = true then 2 ^ w else 0) w)) → PW l x g shM m_X12_test (Qi x g shM K) 29 [(0, .ref (g.ad 0)), (1, .int (nI (orB (fun w => if bk_reg s.b w = true then 2 ^ w else 0) w))), (2, .int (nI w))] [] S2) s.b.n ?_ (fun w hw ih => ?_) 0 (Nat.zero_le _) S2 g1 g2
    · intro S2 g1 g2
      have e : S2 0 4 = nI s.b.n := by rw [g1 0 (by decide)]; exact hM1.1
      refine s_X12_test_29 ok _ _ S2 ⟨fun _ => L3 S2 g1 g2, fun c => absurd ?_ c⟩
      simp (disch := omega) only [e, nI_leI, Nat.le_refl]
    · intro S2 g1 g2
      have hM2 : MB S2 s.b := hM1.of (by rw [g1 0 (by decide)]) (fun a _ _ => g1 a (by omega))
      have hC2 : MC S2 s.b := hC.of (fun a _ _ => g1 a (by omega))
      have hbl := bits_lt hb hw
      refine s_X12_test_29 ok _ _ S2 ⟨fun c => absurd c ?_, fun _ => c_X12_isRegular hb hC2 hw ?_⟩
      · simp (disch := omega) only [hM2.1, nI_leI]; omega
      simp (disch := omega) only [bI0, nI_add, jshl_1, fa_or]
      refine ⟨fun y => ?_, fun y => ?_⟩
      · have h := ih S2 g1 (fun t ht => by rw [g2 t ht, orB, y]; simp)
        rw [orB, y] at h
        simpa using h
      · rw [Bool.not_eq_false] at y
        have ih2 := ih
        rw [orB, y, if_pos rfl] at ih2
        refine lpU (fun t => ∀ S3 : Mem, (∀ a, a ≠ 18 → S3 a = S1 a) → (∀ u, u < t → S3 18 u = nI (orB (fun w => if (bk_reg s.b w && (bk_bits s.b w).testBit u) = true then 2 ^ w else 0) (w + 1))) → (∀ u, t ≤ u → u < 11 → S3 18 u = nI (orB (fun w => if (bk_reg s.b w && (bk_bits s.b w).testBit u) = true then 2 ^ w else 0) w)) → PW l x g shM m_X12_test (Qi x g shM K) 53 [(0, .ref (g.ad 0)), (1, .int (nI (orB (fun w => if bk_reg s.b w = true then 2 ^ w else 0) w ||| 2 ^ w))), (2, .int (nI w)), (3, .int (nI t))] [] S3) 10 ?_ (fun t ht ih3 => ?_) 0 (Nat.zero_le _) S2 g1 (fun u hu => by omega) (fun u _ hu => g2 u hu)
        · intro S3 k1 k2 k3
          refine s_X12_test_53 ok _ _ _ S3 ⟨fun _ => ?_, fun c => absurd (nI_le (Nat.le_refl 10) (by decide)) c⟩
          rw [nI_add]
          refine ih2 S3 k1 (fun u hu => ?_)
          rcases Nat.lt_or_ge u 10 with q | q
          · exact k2 u q
          · have : u = 10 := by omega
            subst this
            rw [k3 10 (by omega) (by omega), orB, Nat.testBit_lt_two_pow (x := bk_bits s.b w) (i := 10) hbl]
            simp
        · intro S3 k1 k2 k3
          have hM3 : MB S3 s.b := hM1.of (by rw [k1 0 (by decide)]) (fun a _ _ => k1 a (by omega))
          refine s_X12_test_53 ok _ _ _ S3 ⟨fun c => absurd c (nI_ge ht (by decide)), fun _ => ⟨inI (by omega) (by decide), c_X12_signsOf hb hM3 hw ⟨inI (by omega) (by decide), ?_⟩⟩⟩
          simp (disch := omega) only [bit_n, jshlB, cl, nI_clamp, k3 t (Nat.le_refl _) (by omega), fa_or, nI_add]
          refine ih3 _ (fun a h => by rw [st2_off h]; exact k1 a h) (fun u hu => ?_) (fun u h1 h2 => by rw [st2_get, if_neg (by omega)]; exact k3 u (by omega) h2)
          rw [st2_get]
          split
          · rename_i q
            subst q
            rw [orB, y, Bool.true_and]
          · exact k2 u (by omega)
  refine lpU (fun t => ∀ S2 : Mem, (∀ a, a ≠ 18 → S2 a = S1 a) → (∀ u, u < t → S2 18 u = nI 0) → PW l x g shM m_X12_test (Qi x g shM K) 8 [(0, .ref (g.ad 0)), (1, .int (nI 0)), (2, .int (nI t))] [] S2) 11 ?_ (fun t ht ih => ?_) 0 (Nat.zero_le _) S1 (fun _ _ => rfl) (fun u hu => by omega)
  · intro S2 g1 g2
    exact s_X12_test_8 ok _ _ S2 ⟨fun _ => L2 S2 g1 g2, fun c => absurd (nI_lt (by decide) (by decide)) c⟩
  · intro S2 g1 g2
    refine s_X12_test_8 ok _ _ S2 ⟨fun c => absurd c (nI_nlt (by omega) (by decide)), fun _ => ⟨inI ht (by decide), ?_⟩⟩
    simp (disch := omega) only [cl, nI_clamp, nI_add]
    refine ih _ (fun a h => by rw [st2_off h]; exact g1 a h) (fun u hu => ?_)
    rw [st2_get]
    split
    · rfl
    · exact g2 u (by omega)
theorem pm_respelt (hs : SgOk s) (hR : MRep S s) (hk : ∀ S2, MRep S2 s → K (sp_respelt s v1 v2) S2) : MWi l g shM m_X12_respelt [.ref (g.ad 0), .int v1, .int v2] S K := by
  obtain ⟨hb, hh, ha⟩ : BOk s.b ∧ ChOk s.b s.h ∧ AnOk s.b s.a := hs.1
  have hn := hb.1
  have hM : MB S s.b := hR.1.1
  unfold sp_respelt at hk
  refine MWi.intro _ rfl (Nat.le_of_ble_eq_true rfl) rfl (fun x ok => s_X12_respelt_0 ok _ _ S (c_X12_isWord hb hM (fun w hw e => z1 (c_X12_inN (by decide) (fun i _ hi e2 => z1 ?_) (fun h => z0 ?_))) (fun h => z0 ?_)))
  · subst e; subst e2
    rw [ix_nI hw (by omega), ix_nI (n := 5) (by omega) (by omega)] at hk
    dsimp only at hk
    refine c_X12_findCommon hb hM (fun S2 o hC => ⟨inI (by omega) (by decide), ?_⟩)
    have hk := hk S2 (fC hs hR o)
    have hM2 := MBo hM o
    obtain ⟨q1, q2, q3, q4, q5⟩ := hb.2 w hw
    simp (disch := omega) only [cl, nI_clamp, (hM2.2 w hw).1, nI_leI]
    refine ⟨fun y => ?_, fun y => c_X12_respeltAt hb hM2 hC hw (by omega) ?_⟩
    · rw [if_neg (by omega)] at hk; exact hk
    · rw [if_pos (by omega)] at hk; exact hk
  · subst e
    rw [ix_nI hw (by omega), ix_no (n := 5) (fun j hj => h j (by omega) (by omega))] at hk
    exact hk S hR
  · rw [ix_no h] at hk
    exact hk S hR
theorem pm_price (hs : SgOk s) (hR : MRep S s) (hk : ∀ S2, MRep S2 s → K (sp_price s v) S2) : MWi l g shM m_X12_price [.ref (g.ad 0), .int v] S K := by
  obtain ⟨hb, hh, ha⟩ : BOk s.b ∧ ChOk s.b s.h ∧ AnOk s.b s.a := hs.1
  have hn := hb.1
  have hM : MB S s.b := hR.1.1
  unfold sp_price at hk
  refine MWi.intro _ rfl (Nat.le_of_ble_eq_true rfl) rfl (fun x ok => s_X12_price_0 ok _ S (c_X12_isEnd (fun q hq e => z1 ?_) (fun h => z0 ?_)))
  · subst e
    rw [ix_nI hq (by omega)] at hk
    dsimp only at hk
    refine c_X12_findCommon hb hM (fun S2 o hC => ?_)
    have hk := hk S2 (fC hs hR o)
    have hM2 := MBo hM o
    refine lpU (fun w => (q = 1 → ∀ z, z < w → cshX s.b z = none) → PW l x g shM m_X12_price (Qi x g shM K) 18 [(0, .ref (g.ad 0)), (1, .int (nI q)), (2, .int (nI (fb_sm (prcW s.b) w))), (3, .int (nI w))] [] S2) s.b.n ?_ (fun w hw ih => ?_) 0 (Nat.zero_le _) (fun _ z hz => by omega)
    · intro hno
      refine s_X12_price_18 ok _ _ _ S2 ⟨fun _ => ?_, fun c => absurd ?_ c⟩
      · rw [nI_eq0 (by omega)]
        refine ⟨fun y => ?_, fun y => ?_⟩
        · rw [if_neg y, cshO_none (hno (by omega))] at hk; exact hk
        · rw [if_pos y] at hk; exact hk
      · simp (disch := omega) only [hM2.1, nI_leI, Nat.le_refl]
    · intro hno
      obtain ⟨q1, q2, q3, q4, q5⟩ := hb.2 w hw
      obtain ⟨e1, e2, e3⟩ := hM2.2 w hw
      have hsw := prcS_le hb (n := w) (by omega)
      refine s_X12_price_18 ok _ _ _ S2 ⟨fun c => absurd c ?_, fun _ => ?_⟩
      · simp (disch := omega) only [hM2.1, nI_leI]; omega
      -- the clashes of w
      have L2 : PW l x g shM m_X12_price (Qi x g shM K) 85 [(0, .ref (g.ad 0)), (1, .int (nI q)), (2, .int (nI (fb_sm (prcW s.b) w + fb_sm (prc1 s.b w) (s.b.len w)))), (3, .int (nI w)), (4, .int (nI w + nI 1))] [] S2 := by
        rw [nI_add]
        have ih : (q = 1 → cshX s.b w = none) → PW l x g shM m_X12_price (Qi x g shM K) 18 [(0, .ref (g.ad 0)), (1, .int (nI q)), (2, .int (nI (fb_sm (prcW s.b) w + fb_sm (prc1 s.b w) (s.b.len w)))), (3, .int (nI (w + 1)))] [] S2 := fun h => ih (fun hq1 z hz => by
          rcases Nat.lt_or_ge z w with r | r
          · exact hno hq1 z r
          · have : z = w := by omega
            subst this
            exact h hq1)
        refine lpU (fun u => w + 1 ≤ u → (∀ j, j < u → (decide (w < j) && csh s.b w j) = false) → PW l x g shM m_X12_price (Qi x g shM K) 85 [(0, .ref (g.ad 0)), (1, .int (nI q)), (2, .int (nI (fb_sm (prcW s.b) w + fb_sm (prc1 s.b w) (s.b.len w)))), (3, .int (nI w)), (4, .int (nI u))] [] S2) s.b.n ?_ (fun u hu ih2 => ?_) (w + 1) (by omega) (Nat.le_refl _) (fun j hj => by rw [decide_eq_false (by omega)]; rfl)
        · intro _ hnu
          refine s_X12_price_85 ok _ _ _ _ S2 ⟨fun _ => ?_, fun c => absurd ?_ c⟩
          · rw [nI_add]; exact ih (fun _ => fm_none.mpr hnu)
          · simp (disch := omega) only [hM2.1, nI_leI, Nat.le_refl]
        · intro hwu hnu
          refine s_X12_price_85 ok _ _ _ _ S2 ⟨fun c => absurd c ?_, fun _ => ?_⟩
          · simp (disch := omega) only [hM2.1, nI_leI]; omega
          rw [nI_eq (by omega) (by omega)]
          refine ⟨fun y => ?_, fun y => c_X12_clash hb hM2 hC hw hu ?_⟩
          · rw [nI_add]; exact ih (fun h => absurd h y)
          · rw [bI0]
            refine ⟨fun r => ?_, fun r => ?_⟩
            · rw [nI_add]
              refine ih2 (by omega) (fun j hj => ?_)
              rcases Nat.lt_or_ge j u with q | q
              · exact hnu j q
              · have : j = u := by omega
                subst this
                rw [r]; simp
            · rw [Bool.not_eq_false] at r
              have hX : cshX s.b w = some u := fm_some.mpr ⟨hu, by rw [decide_eq_true (by omega), r]; rfl, hnu⟩
              rw [if_neg (by omega), cshO_some (hno y) hX hw] at hk
              rw [pk_mul, nI_add]
              exact hk
      refine lpU (fun i => PW l x g shM m_X12_price (Qi x g shM K) 29 [(0, .ref (g.ad 0)), (1, .int (nI q)), (2, .int (nI (fb_sm (prcW s.b) w + fb_sm (prc1 s.b w) i))), (3, .int (nI w)), (4, .int (nI i))] [] S2) (s.b.len w) ?_ (fun i hi ih2 => ?_) 0 (Nat.zero_le _)
      · refine s_X12_price_29 ok _ _ _ _ S2 ⟨inI (by omega) (by decide), fun _ => L2, fun c => absurd ?_ c⟩
        simp (disch := omega) only [cl, nI_clamp, e1, nI_leI, Nat.le_refl]
      · have r1 := rsp_lt s.b w i
        have r2 := (q5 i hi).1
        rw [fb_sm_succ] at ih2
        refine s_X12_price_29 ok _ _ _ _ S2 ⟨inI (by omega) (by decide), fun c => absurd c ?_, fun _ => c_X12_respeltAt hb hM2 hC hw hi ?_⟩
        · simp (disch := omega) only [cl, nI_clamp, e1, nI_leI]; omega
        simp (disch := omega) only [pk_mul, nI_add, cl, nI_clamp, (e3 i hi).1, e2, nI_eq]
        have e4 : prc1 s.b w i = if rsp s.b w i = s.b.sg w i then 0 else s.b.of w := rfl
        refine ⟨inI (by omega) (by decide), fun y => ?_, fun y => ⟨inI (by omega) (by decide), ?_⟩⟩
        · rw [e4, if_pos y] at ih2; exact ih2
        · rw [e4, if_neg y] at ih2
          rw [Nat.add_assoc]; exact ih2
  · rw [ix_no h] at hk
    exact hk S hR
theorem pm_lessons (hs : SgOk s) (hR : MRep S s) (hk : ∀ S2, MRep S2 s → K (sp_lessons s v1 v2) S2) : MWi l g shM m_X12_lessons [.ref (g.ad 0), .int v1, .int v2] S K := by
  obtain ⟨hb, hh, ha⟩ : BOk s.b ∧ ChOk s.b s.h ∧ AnOk s.b s.a := hs.1
  have hM : MB S s.b := hR.1.1
  unfold sp_lessons at hk
  refine MWi.intro _ rfl (Nat.le_of_ble_eq_true rfl) rfl (fun x ok => s_X12_lessons_0 ok _ _ S (c_X12_isChild (fun c hc e => z1 (c_X12_inN (by decide) (fun n _ hn e2 => z1 ?_) (fun h => z0 ?_))) (fun h => z0 ?_)))
  · subst e; subst e2
    rw [ix_nI hc (by omega), ix_nI (n := 13) (by omega) (by omega)] at hk
    dsimp only at hk
    refine c_X12_findCommon hb hM (fun S2 o hC => ?_)
    obtain ⟨d1, d2, d3, d4, d5, d6, d7⟩ := chS hs hR o hc
    refine c_X12_findLessons hb d7 hC hc d6 d3 d4 d5 d1 d2 (fun S3 k1 k2 k3 k4 => ?_)
    simp (disch := omega) only [pk_mul, nI_add, cl, nI_clamp, k4 n hn]
    refine ⟨inI (by omega) (by decide), hk S3 ((fC hs hR o).of hs (fun a j h => ?_))⟩
    have := pub_ne h
    by_cases ha : a = 0
    · subst ha
      exact k2 j (by omega) (by omega)
    · rw [k1 a ha (by omega)]
  · subst e
    rw [ix_nI hc (by omega), ix_no (n := 13) (fun j hj => h j (by omega) (by omega))] at hk
    exact hk S hR
  · rw [ix_no h] at hk
    exact hk S hR
theorem pm_shared (hs : SgOk s) (hR : MRep S s) (hk : ∀ S2, MRep S2 s → K (sp_shared s v1 v2) S2) : MWi l g shM m_X12_shared [.ref (g.ad 0), .int v1, .int v2] S K := by
  obtain ⟨hb, hh, ha⟩ : BOk s.b ∧ ChOk s.b s.h ∧ AnOk s.b s.a := hs.1
  have hM : MB S s.b := hR.1.1
  unfold sp_shared at hk
  have fin : ∀ {S2 : Mem}, (∀ a, a ≠ 0 → a ≠ 6 → a ≠ 7 → a ≠ 8 → a ≠ 19 → a ≠ 20 → S2 a = S a) → (∀ j, j ≠ 14 → j ≠ 15 → S2 0 j = S 0 j) → MRep S2 s := fun o1 o2 => hR.of hs (fun a j h => by
    have := pub_ne h
    by_cases ha : a = 0
    · subst ha
      exact o2 j (by omega) (by omega)
    · rw [o1 a ha (by omega) (by omega) (by omega) (by omega) (by omega)])
  refine MWi.intro _ rfl (Nat.le_of_ble_eq_true rfl) rfl (fun x ok => s_X12_shared_0 ok _ _ S ⟨fun y => c_X12_inN (by decide) (fun n _ hn e => z1 ?_) (fun h => z0 ?_), fun y => c_X12_isChild (fun c hc e2 => z1 (c_X12_inN (by decide) (fun n _ hn e => z1 ?_) (fun h => z0 ?_))) (fun h => z0 ?_)⟩)
  · subst e
    obtain ⟨u, hu⟩ := spO_some (f := lesC s.b s.h) (n := n)
    rw [if_pos y, ix_nI (n := 13) (by omega) (by omega)] at hk
    dsimp only at hk
    rw [hu] at hk
    exact c_X12_findShared hb hM hh hR.1.2.1 hn hu (fun S2 o1 o2 o3 => ⟨fun z => absurd y z, fun _ => hk S2 (fin o1 o2)⟩)
  · rw [if_pos y, ix_no (n := 13) (fun j hj => h j (by omega) (by omega))] at hk
    exact hk S hR
  · subst e; subst e2
    obtain ⟨u, hu⟩ := spO_some (f := lesC s.b s.h) (n := n)
    rw [if_neg y, ix_nI hc (by omega), ix_nI (n := 13) (by omega) (by omega)] at hk
    dsimp only at hk
    rw [hu] at hk
    refine c_X12_findShared hb hM hh hR.1.2.1 hn hu (fun S2 o1 o2 o3 => ⟨fun _ => ⟨inI hc (by decide), ?_⟩, fun z => absurd z y⟩)
    have hk := hk S2 (fin o1 o2)
    rw [cl, nI_clamp (by omega)]
    obtain ⟨g0, g1, g2, g3⟩ := o3
    unfold spD at hk
    have hc4 : c = 0 ∨ c = 1 ∨ c = 2 ∨ c = 3 := by omega
    rcases hc4 with rfl | rfl | rfl | rfl
    · rw [g0]; exact hk
    · rw [g1]; exact hk
    · rw [g2]; exact hk
    · rw [g3]; exact hk
  · subst e2
    rw [if_neg y, ix_nI hc (by omega), ix_no (n := 13) (fun j hj => h j (by omega) (by omega))] at hk
    exact hk S hR
  · rw [if_neg y, ix_no h] at hk
    exact hk S hR
theorem pm_itself (hs : SgOk s) (hR : MRep S s) (hk : ∀ S2, MRep S2 s → K (sp_itself s v1 v2 v3) S2) : MWi l g shM m_X12_itself [.ref (g.ad 0), .int v1, .int v2, .int v3] S K := by
  obtain ⟨hb, hh, ha⟩ : BOk s.b ∧ ChOk s.b s.h ∧ AnOk s.b s.a := hs.1
  have hM : MB S s.b := hR.1.1
  unfold sp_itself at hk
  refine MWi.intro _ rfl (Nat.le_of_ble_eq_true rfl) rfl (fun x ok => s_X12_itself_0 ok _ _ _ S (c_X12_isChild (fun c hc e => z1 (c_X12_inN (by decide) (fun li _ hli e2 => y1 (c_X12_isEnd (fun q hq e3 => z1 ?_) (fun h => z0 ?_))) (fun h => y0 ?_))) (fun h => z0 ?_)))
  · subst e; subst e2; subst e3
    rw [ix_nI hc (by omega), ix_nI (n := 1001) (by omega) (by omega), ix_nI hq (by omega)] at hk
    dsimp only at hk
    refine c_X12_findCommon hb hM (fun S2 o hC => ?_)
    obtain ⟨d1, d2, d3, d4, d5, d6, d7⟩ := chS hs hR o hc
    refine c_X12_byItself hb d7 hC hc d6 d3 d4 d5 d1 d2 hli (fun S3 R e1 => ?_)
    have hk := hk S3 (fCi hs hR o R)
    rw [nI_eq0 (by omega), e1]
    refine ⟨fun y => ?_, fun y => ?_⟩
    · rw [if_neg y] at hk; exact hk
    · rw [if_pos y] at hk; exact hk
  · subst e; subst e2
    rw [ix_nI hc (by omega), ix_nI (n := 1001) (by omega) (by omega), ix_no h] at hk
    exact hk S hR
  · subst e
    rw [ix_nI hc (by omega), ix_no (n := 1001) (fun j hj => h j (by omega) (by omega))] at hk
    exact hk S hR
  · rw [ix_no h] at hk
    exact hk S hR
theorem pm_line (hs : SgOk s) (hR : MRep S s) (hk : ∀ S2, MRep S2 s → K (sp_line s v) S2) : MWi l g shM m_X12_line [.ref (g.ad 0), .int v] S K := by
  obtain ⟨hb, hh, ha⟩ : BOk s.b ∧ ChOk s.b s.h ∧ AnOk s.b s.a := hs.1
  have hM : MB S s.b := hR.1.1
  unfold sp_line at hk
  refine MWi.intro _ rfl (Nat.le_of_ble_eq_true rfl) rfl (fun x ok => s_X12_line_0 ok _ S (c_X12_isChild (fun c hc e => z1 ?_) (fun h => z0 ?_)))
  · subst e
    rw [ix_nI hc (by omega)] at hk
    refine c_X12_findCommon hb hM (fun S2 o hC => ?_)
    obtain ⟨d1, d2, d3, d4, d5, d6, d7⟩ := chS hs hR o hc
    exact c_X12_lineL ok hb d7 hC hc d6 d3 d4 d5 d1 d2 (fun S3 R => hk S3 (fCi hs hR o R))
  · rw [ix_no h] at hk
    exact hk S hR
theorem not_sem5 (j : Nat) : ¬ sem 5 j := by unfold sem; omega
theorem not_sem22 (j : Nat) : ¬ sem 22 j := by unfold sem; omega
theorem not_sem06 : ¬ sem 0 6 := by unfold sem; omega
theorem pm_image (hs : SgOk s) (hR : MRep S s) (hk : ∀ S2, MRep S2 (st_image s v) → K (sp_image v) S2) : MWi l g shM m_X12_image [.ref (g.ad 0), .int v] S K := by
  obtain ⟨h1, p2, p3, p4⟩ := id hR
  unfold sp_image st_image at hk
  refine MWi.intro _ rfl (Nat.le_of_ble_eq_true rfl) rfl (fun x ok => s_X12_image_0 ok _ S (c_X12_isEnd (fun n hn e => z1 ?_) (fun h => z0 ?_)))
  · subst e
    rw [ix_nI hn (by omega)] at hk
    dsimp only at hk
    rw [pk_mul]
    refine c_X12_passAll (S := S) (wr := true) hn (by rw [st2_get, if_neg (by decide), st2_get, if_pos rfl]) (by rw [st2_get, if_pos rfl]; rfl) (fun a j h => by rw [st2_eq, if_neg (by omega), st2_eq, if_neg (by omega)]) (fun S3 I => ⟨inI hn (by decide), ?_⟩)
    rw [cl, nI_clamp (by omega)]
    obtain ⟨i1, i2, i3, i4, i5, i6⟩ := I
    simp only [if_true] at i3
    have hsm : ∀ a j, sem a j → S3 a j = S a j ∧ S3 21 (220 * n + pos a j) = S a j := fun a j h => i3 a j h (dcd_pos h).2
    refine hk _ ⟨h1.of hs.1 (fun a j h => ?_), ?_, fun i hi => ?_, fun k hk => ?_⟩
    · have : a ≠ 22 := by unfold sem at h; omega
      rw [st2_off this]; exact (hsm a j h).1
    · rw [st2_off (by decide), i6 0 6 not_sem06 (by decide) (by omega)]; exact p2
    · rw [st2_off (by decide), i6 5 i (not_sem5 i) (by decide) (by omega)]; exact p3 i hi
    · show match upN s.im n (some s.1) k with
        | none => st2 S3 22 n (nI 1) 22 k = 0
        | some c => st2 S3 22 n (nI 1) 22 k = nI 1 ∧ MSt (kv (st2 S3 22 n (nI 1)) k) c
      unfold upN
      by_cases hkn : k = n
      · subst hkn
        rw [if_pos rfl]
        refine ⟨by rw [st2_get, if_pos rfl], h1.of hs.1 (fun a j h => ?_)⟩
        unfold kv
        rw [st2_off (by decide)]
        exact (hsm a j h).2
      · rw [if_neg hkn]
        have h5 := p4 k hk
        have e22 : S3 22 k = S 22 k := i6 22 k (not_sem22 k) (by decide) (by omega)
        cases hm : s.im k with
        | none =>
          rw [hm] at h5
          show st2 S3 22 n (nI 1) 22 k = 0
          rw [st2_get, if_neg hkn, e22]; exact h5
        | some c =>
          rw [hm] at h5
          refine ⟨by rw [st2_get, if_neg hkn, e22]; exact h5.1, h5.2.of (hs.2.2.2 k hk c hm) (fun a j h => ?_)⟩
          unfold kv
          rw [st2_off (by decide)]
          have := (dcd_pos h).2
          refine i5 _ ?_
          omega
  · rw [ix_no h] at hk
    exact hk S hR
theorem pm_restore (hs : SgOk s) (hR : MRep S s) (hk : ∀ S2, MRep S2 (st_restore s v) → K (sp_restore s v) S2) : MWi l g shM m_X12_restore [.ref (g.ad 0), .int v] S K := by
  obtain ⟨h1, p2, p3, p4⟩ := id hR
  unfold sp_restore st_restore at hk
  refine MWi.intro _ rfl (Nat.le_of_ble_eq_true rfl) rfl (fun x ok => s_X12_restore_0 ok _ S (c_X12_isEnd (fun n hn e => z1 ⟨?_, ?_⟩) (fun h => z0 ?_)))
  · subst e; exact inI hn (by decide)
  · subst e
    rw [ix_nI hn (by omega)] at hk
    dsimp only at hk
    rw [cl, nI_clamp (by omega)]
    have h5 := p4 n hn
    cases hm : s.im n with
    | none =>
      rw [hm] at h5 hk
      exact ⟨fun c => absurd h5 c, fun _ => hk S hR⟩
    | some c =>
      rw [hm] at h5 hk
      refine ⟨fun _ => ?_, fun q => absurd q (by rw [h5.1]; decide)⟩
      rw [pk_mul]
      refine c_X12_passAll (S := S) (wr := false) hn (by rw [st2_get, if_neg (by decide), st2_get, if_pos rfl]) (by rw [st2_get, if_pos rfl]; rfl) (fun a j h => by rw [st2_eq, if_neg (by omega), st2_eq, if_neg (by omega)]) (fun S3 I => ?_)
      obtain ⟨i1, i2, i3, i4, i5, i6⟩ := I
      simp only [Bool.false_eq_true, if_false] at i3
      have hco := hs.2.2.2 n hn c hm
      have h21 : ∀ k a j, k < 2 → sem a j → S3 21 (220 * k + pos a j) = S 21 (220 * k + pos a j) := fun k a j hk h => by
        have hp := (dcd_pos h).2
        by_cases hkn : k = n
        · subst hkn
          exact (i3 a j h hp).2
        · exact i5 _ (by omega)
      refine hk _ ⟨h5.2.of hco (fun a j h => (i3 a j h (dcd_pos h).2).1), ?_, fun i hi => ?_, fun k hk => ?_⟩
      · rw [i6 0 6 not_sem06 (by decide) (by omega)]; exact p2
      · rw [i6 5 i (not_sem5 i) (by decide) (by omega)]; exact p3 i hi
      · have h6 := p4 k hk
        have e22 : S3 22 k = S 22 k := i6 22 k (not_sem22 k) (by decide) (by omega)
        show match s.im k with
          | none => S3 22 k = 0
          | some c => S3 22 k = nI 1 ∧ MSt (kv S3 k) c
        cases hm2 : s.im k with
        | none => rw [hm2] at h6; show S3 22 k = 0; rw [e22]; exact h6
        | some c2 =>
          rw [hm2] at h6
          exact ⟨by rw [e22]; exact h6.1, h6.2.of (hs.2.2.2 k hk c2 hm2) (fun a j h => h21 k a j hk h)⟩
  · rw [ix_no h] at hk
    exact hk S hR
theorem pm_told (hs : SgOk s) (hR : MRep S s) (hk : ∀ S2, MRep S2 s → K (sp_told s v) S2) : MWi l g shM m_X12_told [.ref (g.ad 0), .int v] S K := by
  obtain ⟨hb, hh, ha⟩ : BOk s.b ∧ ChOk s.b s.h ∧ AnOk s.b s.a := hs.1
  have hM : MB S s.b := hR.1.1
  have hH : MH S s.h := hR.1.2.1
  have hA : MA S s.a := hR.1.2.2
  unfold sp_told at hk
  refine MWi.intro _ rfl (Nat.le_of_ble_eq_true rfl) rfl (fun x ok => s_X12_told_0 ok _ S (c_X12_inN (by decide) (fun q p1 p2 e => y1 ?_) (fun h => y0 (c_X12_inN (by decide) (fun q p1 p2 e => y1 ?_) (fun h2 => y0 (c_X12_inN (by decide) (fun q p1 p2 e => y1 ?_) (fun h3 => y0 ?_)))))))
  · subst e
    rw [rg_nI p1 p2 (by omega)] at hk
    simp (disch := omega) only [pk_sub, cl, nI_clamp, (hH (q - 10) (by omega)).1]
    exact ⟨inI (by omega) (by decide), hk S hR⟩
  · rw [rg_no h] at hk
    subst e
    rw [rg_nI p1 p2 (by omega)] at hk
    simp (disch := omega) only [pk_sub, cl, nI_clamp, (hH (q - 20) (by omega)).2.1]
    exact ⟨inI (by omega) (by decide), hk S hR⟩
  · rw [rg_no h, rg_no h2] at hk
    subst e
    rw [rg_nI p1 p2 (by omega)] at hk
    simp (disch := omega) only [pk_sub, cl, nI_clamp, (hH (q - 30) (by omega)).2.2]
    exact ⟨inI (by omega) (by decide), hk S hR⟩
  · rw [rg_no h, rg_no h2, rg_no h3] at hk
    dsimp only at hk
    rw [hR.2.1, hM.1, hA.1]
    refine ⟨fun e => ?_, fun e => ?_, fun e => ?_, fun e => ?_, fun e => ?_⟩
    · subst e; rw [ix_nI (by decide) (by decide)] at hk; exact hk S hR
    · subst e; rw [ix_nI (by decide) (by decide)] at hk; exact hk S hR
    · subst e; rw [ix_nI (by decide) (by decide)] at hk; exact hk S hR
    · subst e; rw [ix_nI (by decide) (by decide)] at hk
      exact c_X12_allOften hb hM (hk S hR)
    · rw [ix_no (fun j hj e2 => by subst e2; rw [nI_toInt (by omega)] at e; omega)] at hk
      exact hk S hR
end MODS
