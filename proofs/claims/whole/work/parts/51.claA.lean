/-! PART 51: the class: questions and tests -/
def kcn (b : Bk) (a : An) (w i : Nat) : Nat := fb_ct (fun set => decide (bk_bits b w &&& set = 0) && mlk b a set) i
theorem kcn_le (b : Bk) (a : An) (w i : Nat) : kcn b a w i ≤ i := fb_ct_le _ _
section CLAA
variable {l : Launch} {g : Geo} {S : Mem} {b : Bk} {a : An} {K : Int32 → Mem → Prop}
theorem HDk.of {S S2 : Mem} {k : Nat} (h : HDk S b a k) (e : ∀ c, 35 ≤ c → c ≤ 36 → S2 c = S c) : HDk S2 b a k := by
  unfold HDk at h ⊢
  rw [e 35 (by decide) (by decide), e 36 (by decide) (by decide)]
  exact h
theorem c_X3_countKnown {K : Mem → Prop} {lack : Nat} {f : Nat → Nat} (hb : BOk b) (hX : XB S 4 b) (hlk : lack < 1024) (h37 : ∀ w, w < b.n → f w < 2000 ∧ S 37 w = nI (f w)) (hk : ∀ S2, (∀ c, c ≠ 37 → S2 c = S c) → (∀ w, w < b.n → S2 37 w = nI (f w + if decide (bk_bits b w &&& lack = 0) = true then 1 else 0)) → K S2) : MWv l g shX m_X3_countKnown [.ref (g.ad 35), .int (nI lack)] S K := by
  have hn := hb.1
  refine MWv.intro _ rfl (Nat.le_of_ble_eq_true rfl) rfl (fun x ok => s_X3_countKnown_0 ok _ S ?_)
  refine lpU (fun w => ∀ S2 : Mem, (∀ c, c ≠ 37 → S2 c = S c) → (∀ u, u < w → S2 37 u = nI (f u + if decide (bk_bits b u &&& lack = 0) = true then 1 else 0)) → (∀ u, w ≤ u → u < b.n → S2 37 u = nI (f u)) → PW l x g shX m_X3_countKnown (Qv x g shX K) 2 [(0, .ref (g.ad 35)), (1, .int (nI lack)), (2, .int (nI w))] [] S2) b.n ?_ (fun w hw ih => ?_) 0 (Nat.zero_le _) S (fun _ _ => rfl) (fun u hu => by omega) (fun u _ hu => (h37 u hu).2)
  · intro S2 g1 g2 g3
    have hX2 : XB S2 4 b := hX.of (fun c h1 h2 => g1 c (by omega))
    refine s_X3_countKnown_2 ok _ _ S2 ⟨fun _ => hk S2 g1 g2, fun c => absurd ?_ c⟩
    simp (disch := omega) only [hX2.1, nI_leI, Nat.le_refl]
  · intro S2 g1 g2 g3
    have hX2 : XB S2 4 b := hX.of (fun c h1 h2 => g1 c (by omega))
    have e7 : S2 7 w = nI (bk_bits b w) := (hX2.2 w hw).2.2.1
    have hal : bk_bits b w &&& lack < 1024 := Nat.and_lt_two_pow (n := 10) _ hlk
    refine s_X3_countKnown_2 ok _ _ S2 ⟨fun c => absurd c ?_, fun _ => ⟨inI (by omega) (by decide), ?_⟩⟩
    · simp (disch := omega) only [hX2.1, nI_leI]; omega
    rw [cl, nI_clamp (by omega), e7, fa_and, nI_eq0 (by omega), nI_add]
    refine ⟨fun y => ih S2 g1 (fun u hu => ?_) (fun u h1 h2 => g3 u (by omega) h2), fun y => ⟨inI (by omega) (by decide), inI (by omega) (by decide), ih _ (fun c hc => by rw [st2_off hc]; exact g1 c hc) (fun u hu => ?_) (fun u h1 h2 => ?_)⟩⟩
    · by_cases e : u = w
      · subst e
        rw [decide_eq_false y]; exact g3 u (Nat.le_refl _) hw
      · exact g2 u (by omega)
    · rw [st2_get]
      by_cases e : u = w
      · subst e
        rw [if_pos rfl, g3 u (Nat.le_refl _) hw, decide_eq_true y, nI_add]; rfl
      · rw [if_neg e]; exact g2 u (by omega)
    · rw [st2_get, if_neg (by omega)]; exact g3 u (by omega) h2
theorem c_X3_bestQuestion (hb : BOk b) (ha : a.n ≤ 20) (hX : XB S 4 b) (hU : XU S b) (hD : HDk S b a a.n) (hk : ∀ S2, (∀ c, c ≠ 37 → S2 c = S c) → K (oI (tllO b a b.n)) S2) : MWi l g shX m_X3_bestQuestion [.ref (g.ad 35)] S K := by
  have hn := hb.1
  refine MWi.intro _ rfl (Nat.le_of_ble_eq_true rfl) rfl (fun x ok => s_X3_bestQuestion_0 ok S (c_fill rfl (by decide) (fun f hf => ?_)))
  refine lpU (fun i => ∀ S2 : Mem, (∀ c, c ≠ 37 → S2 c = S c) → (∀ w, w < b.n → S2 37 w = nI (kcn b a w i)) → PW l x g shX m_X3_bestQuestion (Qi x g shX K) 12 [(0, .ref (g.ad 35)), (1, .int (nI (fb_ct (mlk b a) i))), (2, .int (nI i))] [] S2) 1024 ?_ (fun i hi ih => ?_) 0 (Nat.zero_le _) _ (fun c hc => by rw [stf_off hc]) (fun w hw => by rw [stf_same, hf w (by omega)]; rfl)
  · intro S2 g1 g2
    have hX2 : XB S2 4 b := hX.of (fun c h1 h2 => g1 c (by omega))
    have hU2 : XU S2 b := hU.of (fun c h1 h2 => g1 c (by omega))
    refine s_X3_bestQuestion_12 ok _ _ S2 ⟨fun _ => ?_, fun c => absurd (nI_le (Nat.le_refl 1024) (by decide)) c⟩
    have em : fb_ct (mlk b a) 1024 = mayN b a 0 := by
      unfold mayN
      apply fb_ct_cong
      intro k _
      have : sub 0 k := by unfold sub; exact Nat.zero_and _
      rw [decide_eq_true this, Bool.true_and]
    rw [em]
    have hm := mayN_le b a 0
    have er : ∀ w, rgt b a w = if bk_reg b w = true then kcn b a w 1024 else 0 := by
      intro w
      unfold rgt kcn rrt
      by_cases h : bk_reg b w = true
      · rw [if_pos h]
        apply fb_ct_cong
        intro k _
        rw [h, Bool.true_and]
      · rw [if_neg h]
        apply fb_ct_zero.mpr
        intro k _
        rw [Bool.not_eq_true] at h
        rw [h]; rfl
    refine lpU (fun w => PW l x g shX m_X3_bestQuestion (Qi x g shX K) 49 [(0, .ref (g.ad 35)), (1, .int (nI (mayN b a 0))), (2, .int (match tllO b a w with | none => -1 | some j => nI (lsr b a j))), (3, .int (oI (tllO b a w))), (4, .int (nI w))] [] S2) b.n ?_ (fun w hw ih => ?_) 0 (Nat.zero_le _)
    · refine s_X3_bestQuestion_49 ok _ _ _ _ S2 ⟨fun _ => hk S2 g1, fun c => absurd ?_ c⟩
      simp (disch := omega) only [hX2.1, nI_leI, Nat.le_refl]
    · have hr := rgt_le b a w
      have lastly : ∀ r, r = rgt b a w → (((jmin (nI r) (nI (mayN b a 0) - nI r)) ≤ (match tllO b a w with | none => -1 | some j => nI (lsr b a j)) → PW l x g shX m_X3_bestQuestion (Qi x g shX K) 49 [(0, .ref (g.ad 35)), (1, .int (nI (mayN b a 0))), (2, .int (match tllO b a w with | none => -1 | some j => nI (lsr b a j))), (3, .int (oI (tllO b a w))), (4, .int (nI (w + 1)))] [] S2) ∧ (¬ (jmin (nI r) (nI (mayN b a 0) - nI r)) ≤ (match tllO b a w with | none => -1 | some j => nI (lsr b a j)) → PW l x g shX m_X3_bestQuestion (Qi x g shX K) 49 [(0, .ref (g.ad 35)), (1, .int (nI (mayN b a 0))), (2, .int (jmin (nI r) (nI (mayN b a 0) - nI r))), (3, .int (nI w)), (4, .int (nI (w + 1)))] [] S2)) := by
        intro r hrr
        subst hrr
        have ej : jmin (nI (rgt b a w)) (nI (mayN b a 0) - nI (rgt b a w)) = nI (lsr b a w) := by
          rw [pk_sub hr, jmin_n (by omega) (by omega)]
          congr 1
          unfold lsr
          split <;> split <;> omega
        have hl : ∀ j, lsr b a j ≤ 1024 := fun j => by
          have := rgt_le b a j
          unfold lsr
          split <;> omega
        rw [ej]
        have hlw := hl w
        cases hm2 : tllO b a w with
        | none =>
          have e : tllO b a (w + 1) = some w := am_one rfl hm2
          rw [e] at ih
          refine ⟨fun c => absurd c ?_, fun _ => ih⟩
          rw [fa_le, nI_toInt (by omega)]
          have : (-1 : Int32).toInt = -1 := by decide
          dsimp only
          omega
        | some j =>
          have hlj := hl j
          dsimp only
          rw [nI_leI (by omega) (by omega)]
          refine ⟨fun c => ?_, fun c => ?_⟩
          · have e : tllO b a (w + 1) = some j := am_less hm2 c
            rw [e] at ih; exact ih
          · have e : tllO b a (w + 1) = some w := am_more rfl hm2 (by omega)
            rw [e] at ih; exact ih
      refine s_X3_bestQuestion_49 ok _ _ _ _ S2 ⟨fun c => absurd c ?_, fun _ => c_X8_isRegular hb hU2 hw ?_⟩
      · simp (disch := omega) only [hX2.1, nI_leI]; omega
      rw [bI0, nI_add, cl, nI_clamp (by omega), g2 w hw]
      refine ⟨fun y => lastly 0 (by rw [er, y]; rfl), fun y => ⟨inI (by omega) (by decide), lastly _ (by rw [Bool.not_eq_false] at y; rw [er, y]; rfl)⟩⟩
  · intro S2 g1 g2
    have hX2 : XB S2 4 b := hX.of (fun c h1 h2 => g1 c (by omega))
    have hD2 := hD.of (S2 := S2) (fun c h1 h2 => g1 c (by omega))
    refine s_X3_bestQuestion_12 ok _ _ S2 ⟨fun c => absurd c (nI_ge hi (by decide)), fun _ => c_X3_fits ha hD2 hi ?_⟩
    have hc : ∀ w, kcn b a w (i + 1) = kcn b a w i + if (decide (bk_bits b w &&& i = 0) && mlk b a i) = true then 1 else 0 := fun w => rfl
    rw [bI0, nI_add]
    rw [fb_ct_succ] at ih
    refine ⟨fun y => ?_, fun y => ?_⟩
    · rw [y] at ih
      refine ih S2 g1 (fun w hw => ?_)
      rw [hc, y, Bool.and_false]; exact g2 w hw
    · rw [Bool.not_eq_false] at y
      rw [y] at ih
      refine c_X3_countKnown hb hX2 hi (fun w hw => ⟨?_, g2 w hw⟩) (fun S3 q1 q2 => ?_)
      · have := kcn_le b a w i; omega
      · rw [nI_add]
        refine ih S3 (fun c hc => by rw [q1 c hc]; exact g1 c hc) (fun w hw => ?_)
        rw [hc, y, Bool.and_true]; exact q2 w hw
theorem c_X3_findWordsWith {K : Mem → Prop} (hb : BOk b) (hX : XB S 4 b) (hU : XU S b) (hk : ∀ S2, (∀ c, c ≠ 38 → S2 c = S c) → (∀ s, s < 10 → S2 38 s = nI (colm b s)) → K S2) : MWv l g shX m_X3_findWordsWith [.ref (g.ad 35)] S K := by
  have hn := hb.1
  refine MWv.intro _ rfl (Nat.le_of_ble_eq_true rfl) rfl (fun x ok => s_X3_findWordsWith_0 ok S (c_fill rfl (by decide) (fun f hf => ?_)))
  refine lpU (fun w => ∀ S2 : Mem, (∀ c, c ≠ 38 → S2 c = S c) → (∀ s, s < 10 → S2 38 s = nI (orB (fun w => if (bk_reg b w && (bk_bits b w).testBit s) = true then 2 ^ w else 0) w)) → PW l x g shX m_X3_findWordsWith (Qv x g shX K) 10 [(0, .ref (g.ad 35)), (1, .int (nI w))] [] S2) b.n ?_ (fun w hw ih => ?_) 0 (Nat.zero_le _) _ (fun c hc => by rw [stf_off hc]) (fun s hs => by rw [stf_same, hf s hs]; rfl)
  · intro S2 g1 g2
    have hX2 : XB S2 4 b := hX.of (fun c h1 h2 => g1 c (by omega))
    refine s_X3_findWordsWith_10 ok _ S2 ⟨fun _ => hk S2 g1 g2, fun c => absurd ?_ c⟩
    simp (disch := omega) only [hX2.1, nI_leI, Nat.le_refl]
  · intro S2 g1 g2
    have hX2 : XB S2 4 b := hX.of (fun c h1 h2 => g1 c (by omega))
    have hU2 : XU S2 b := hU.of (fun c h1 h2 => g1 c (by omega))
    refine s_X3_findWordsWith_10 ok _ S2 ⟨fun c => absurd c ?_, fun _ => c_X8_isRegular hb hU2 hw ?_⟩
    · simp (disch := omega) only [hX2.1, nI_leI]; omega
    rw [bI0, nI_add]
    refine ⟨fun y => ?_, fun y => ih S2 g1 (fun s hs => ?_)⟩
    · rw [Bool.not_eq_false] at y
      refine lpU (fun i => ∀ S3 : Mem, (∀ c, c ≠ 38 → S3 c = S c) → (∀ s, s < 10 → S3 38 s = nI (orB (fun w => if (bk_reg b w && (bk_bits b w).testBit s) = true then 2 ^ w else 0) w ||| (if (orB (fun i => 2 ^ b.sg w i) i).testBit s = true then 2 ^ w else 0))) → PW l x g shX m_X3_findWordsWith (Qv x g shX K) 37 [(0, .ref (g.ad 35)), (1, .int (nI w)), (2, .int (nI i))] [] S3) (b.len w) ?_ (fun i hi ih2 => ?_) 0 (Nat.zero_le _) S2 g1 (fun s hs => by rw [g2 s hs]; simp [orB])
      · intro S3 r1 r2
        have hX3 : XB S3 4 b := hX.of (fun c h1 h2 => r1 c (by omega))
        have e5 : S3 5 w = nI (b.len w) := (hX3.2 w hw).1
        have hl := (hb.2 w hw).2.1
        refine s_X3_findWordsWith_37 ok _ _ S3 ⟨inI (by omega) (by decide), fun _ => ?_, fun c => absurd ?_ c⟩
        · rw [nI_add]
          refine ih S3 r1 (fun s hs => ?_)
          rw [r2 s hs, orB, y, Bool.true_and]
          rfl
        · rw [cl, nI_clamp (by omega), e5]; exact nI_le (Nat.le_refl _) (by omega)
      · intro S3 r1 r2
        have hX3 : XB S3 4 b := hX.of (fun c h1 h2 => r1 c (by omega))
        have e5 : S3 5 w = nI (b.len w) := (hX3.2 w hw).1
        have hl := (hb.2 w hw).2.1
        have hsg := ((hb.2 w hw).2.2.2.2 i hi).1
        refine s_X3_findWordsWith_37 ok _ _ S3 ⟨inI (by omega) (by decide), fun c => absurd c ?_, fun _ => c_X1_signAt hb hX3 hw hi ⟨inI hsg (by decide), inI hsg (by decide), ?_⟩⟩
        · rw [cl, nI_clamp (by omega), e5]; exact nI_ge hi (by omega)
        rw [cl, nI_clamp (by omega), nI_add, jshl_1 (by omega), r2 _ hsg, fa_or]
        refine ih2 _ (fun c hc => by rw [st2_off hc]; exact r1 c hc) (fun s hs => ?_)
        have eb : (orB (fun i => 2 ^ b.sg w i) (i + 1)).testBit s = ((orB (fun i => 2 ^ b.sg w i) i).testBit s || decide (b.sg w i = s)) := by
          rw [orB, Nat.testBit_or, Nat.testBit_two_pow]
        rw [st2_get, eb]
        by_cases e : s = b.sg w i
        · subst e
          rw [if_pos rfl, decide_eq_true rfl, Bool.or_true, if_pos rfl]
          congr 1
          split
          · rw [Nat.or_assoc, Nat.or_self]
          · rw [Nat.or_zero]
        · rw [if_neg e, decide_eq_false (fun q => e q.symm), Bool.or_false]; exact r2 s hs
    · rw [orB, y, Bool.false_and]
      simpa using g2 s hs
theorem colm_10 (hb : BOk b) : colm b 10 = 0 := by
  apply Nat.eq_of_testBit_eq
  intro i
  rw [Nat.zero_testBit]
  cases h : (colm b 10).testBit i with
  | false => rfl
  | true =>
    obtain ⟨h1, h2⟩ := orb2_bit.mp h
    rw [Bool.and_eq_true] at h2
    have := Nat.testBit_lt_two_pow (i := 10) (x := bk_bits b i) (bits_lt hb h1)
    rw [this] at h2
    exact absurd h2.2 (by decide)
theorem colm_reg (s : Nat) : sub (colm b s) (regB b) := sub_iff.mpr (fun i hi => by
  obtain ⟨h1, h2⟩ := orb2_bit.mp hi
  rw [Bool.and_eq_true] at h2
  exact orb2_bit.mpr ⟨h1, h2.1⟩)
theorem colx_reg (x y : Nat) : (colm b x ^^^ colm b y) &&& regB b = colm b x ^^^ colm b y := by
  rw [Nat.and_xor_distrib_right, colm_reg, colm_reg]
theorem c_X3_tellsAll {t : Nat} (hb : BOk b) (ht : t < 4096) (h38 : ∀ s, s < 10 → S 38 s = nI (colm b s)) (hk : K (nI (tla b t).toNat) S) : MWi l g shX m_X3_tellsAll [.ref (g.ad 35), .int (nI t)] S K := by
  have hn := hb.1
  have hc : ∀ s, colm b s < 4096 := fun s => orb2_lt hn _
  have hal : ∀ v, v &&& t < 4096 := fun v => Nat.and_lt_two_pow (n := 12) _ ht
  have hxl : ∀ x y, colm b x ^^^ colm b y < 4096 := fun x y => Nat.xor_lt_two_pow (n := 12) (hc x) (hc y)
  have bad : ∀ x y, y < x → x < 11 → tpr b t x y = false → K (nI 0) S := by
    intro x y h1 h2 h3
    have : tla b t = false := by
      cases q : tla b t with
      | false => rfl
      | true =>
        have := alB_iff.mp (alB_iff.mp q x h2) y h1
        rw [h3] at this; cases this
    rw [this] at hk; exact hk
  have tpe : ∀ x y, tpr b t x y = (decide (colm b x ^^^ colm b y = 0) || !decide ((colm b x ^^^ colm b y) &&& t = 0)) := by
    intro x y
    unfold tpr
    rw [colx_reg]
  have t10 : ∀ y, tpr b t 10 y = (decide (colm b y = 0) || !decide (colm b y &&& t = 0)) := by
    intro y
    rw [tpe, colm_10 hb, Nat.zero_xor]
  refine MWi.intro _ rfl (Nat.le_of_ble_eq_true rfl) rfl (fun x ok => s_X3_tellsAll_0 ok _ S ?_)
  refine lpU (fun x2 => (∀ z, z < x2 → tpr b t 10 z = true ∧ alB (tpr b t z) z = true) → PW l x g shX m_X3_tellsAll (Qi x g shX K) 2 [(0, .ref (g.ad 35)), (1, .int (nI t)), (2, .int (nI x2))] [] S) 10 ?_ (fun x2 hx2 ih => ?_) 0 (Nat.zero_le _) (fun z hz => by omega)
  · intro h
    refine s_X3_tellsAll_2 ok _ _ S ⟨fun _ => ?_, fun c => absurd (nI_le (Nat.le_refl 10) (by decide)) c⟩
    have : tla b t = true := alB_iff.mpr (fun z hz => by
      rcases Nat.lt_or_ge z 10 with q | q
      · exact (h z q).2
      · have : z = 10 := by omega
        subst this
        exact alB_iff.mpr (fun y hy => (h y hy).1))
    rw [this] at hk; exact hk
  · intro h
    refine s_X3_tellsAll_2 ok _ _ S ⟨fun c => absurd c (nI_ge hx2 (by decide)), fun _ => ⟨inI hx2 (by decide), ?_⟩⟩
    have h1 := hc x2
    have h2 := hal (colm b x2)
    simp (disch := omega) only [cl, nI_clamp, h38 x2 hx2, fa_and, nI_eq0]
    have inner : tpr b t 10 x2 = true → PW l x g shX m_X3_tellsAll (Qi x g shX K) 30 [(0, .ref (g.ad 35)), (1, .int (nI t)), (2, .int (nI x2)), (3, .int (nI (colm b x2))), (4, .int (nI 0))] [] S := by
      intro h10
      refine lpU (fun y => alB (tpr b t x2) y = true → PW l x g shX m_X3_tellsAll (Qi x g shX K) 30 [(0, .ref (g.ad 35)), (1, .int (nI t)), (2, .int (nI x2)), (3, .int (nI (colm b x2))), (4, .int (nI y))] [] S) x2 ?_ (fun y hy ih2 => ?_) 0 (Nat.zero_le _) rfl
      · intro hy
        refine s_X3_tellsAll_30 ok _ _ _ _ S ⟨fun _ => ?_, fun c => absurd (nI_le (Nat.le_refl x2) (by omega)) c⟩
        rw [nI_add]
        refine ih (fun z hz => ?_)
        rcases Nat.lt_or_ge z x2 with q | q
        · exact h z q
        · have : z = x2 := by omega
          subst this; exact ⟨h10, hy⟩
      · intro hy2
        have h3 := hxl x2 y
        have h4 := hal (colm b x2 ^^^ colm b y)
        refine s_X3_tellsAll_30 ok _ _ _ _ S ⟨fun c => absurd c (nI_ge hy (by omega)), fun _ => ⟨inI (by omega) (by decide), ?_⟩⟩
        simp (disch := omega) only [cl, nI_clamp, h38 y (by omega), fa_and, fa_xor, nI_eq0, nI_add]
        refine ⟨fun u => ih2 ?_, fun u => ⟨fun v => ih2 ?_, fun v => bad x2 y hy (by omega) ?_⟩⟩
        · rw [alB, hy2, tpe, decide_eq_true u]; rfl
        · rw [alB, hy2, tpe, decide_eq_false v]; simp
        · rw [tpe, decide_eq_false u, decide_eq_true v]; rfl
    refine ⟨fun u => inner (by rw [t10, decide_eq_true u]; rfl), fun u => ⟨fun v => inner (by rw [t10, decide_eq_false v]; simp), fun v => bad 10 x2 hx2 (by omega) (by rw [t10, decide_eq_false u, decide_eq_true v]; rfl)⟩⟩
theorem pc_part {T R : Nat} (hR : R < 4096) (h : sub T R) (hne : T ≠ R) : pc T < pc R := by
  have hx := sub_xor_add R T h
  obtain ⟨v, hv⟩ := Nat.exists_testBit_of_ne_zero (show R ^^^ T ≠ 0 by omega)
  rw [Nat.testBit_xor] at hv
  have h1 : T.testBit v = false := by
    cases q : T.testBit v with
    | false => rfl
    | true => rw [q, sub_iff.mp h v q] at hv; cases hv
  have h2 : R.testBit v = true := by
    rw [h1] at hv
    simpa using hv
  have hv12 : v < 12 := by
    rcases Nat.lt_or_ge v 12 with q | q
    · exact q
    · rw [Nat.testBit_lt_two_pow (Nat.lt_of_lt_of_le hR (Nat.pow_le_pow_right (n := 2) (by decide) q : 2 ^ 12 ≤ 2 ^ v))] at h2; cases h2
  have h3 := pc_or hv12 h1
  have h4 : pc (T ||| 2 ^ v) ≤ pc R := fb_ct_sub (fun k _ hk => by
    rw [fb_bit_set, Bool.or_eq_true, decide_eq_true_eq] at hk
    rcases hk with hk | hk
    · exact sub_iff.mp h k hk
    · subst hk; exact h2)
  omega
theorem c_X3_leastTest (hb : BOk b) (hX : XB S 4 b) (hU : XU S b) (hk : ∀ S2, (∀ c, c ≠ 38 → S2 c = S c) → K (oI (tstO b (regB b + 1))) S2) : MWi l g shX m_X3_leastTest [.ref (g.ad 35)] S K := by
  have hn := hb.1
  have hR : regB b < 4096 := orb2_lt hn _
  refine MWi.intro _ rfl (Nat.le_of_ble_eq_true rfl) rfl (fun x ok => s_X3_leastTest_0 ok S (c_X3_findWordsWith hb hX hU (fun S2 g1 g2 => ?_)))
  have hU2 : XU S2 b := hU.of (fun c h1 h2 => g1 c (by omega))
  have e7 : S2 18 7 = nI (regB b) := hU2.2.2.2.2.2.2
  have hk := hk S2 g1
  have hpr := pc_le (regB b)
  rw [e7]
  refine c_bitCount hR ?_
  have hall : tla b (regB b) = true := alB_iff.mpr (fun x2 _ => alB_iff.mpr (fun y _ => by
    unfold tpr
    cases decide ((colm b x2 ^^^ colm b y) &&& regB b = 0) <;> rfl))
  refine lpU (fun i => ∀ B, B = (match tstO b i with | none => regB b | some t => t) → PW l x g shX m_X3_leastTest (Qi x g shX K) 19 [(0, .ref (g.ad 35)), (1, .int (nI B)), (2, .int (nI (pc B))), (3, .int (nI i))] [] S2) (regB b) ?_ (fun i hi ih => ?_) 0 (Nat.zero_le _) (regB b) rfl
  · intro B hB
    refine s_X3_leastTest_19 ok _ _ _ S2 ⟨fun _ => ?_, fun c => absurd ?_ c⟩
    · cases hm : tstO b (regB b) with
      | none =>
        have e : tstO b (regB b + 1) = some (regB b) := am_one (by rw [hall]; simp [sub]) hm
        rw [e] at hk
        rw [hm] at hB
        rw [hB]; exact hk
      | some t =>
        have hp := am_p hm
        rw [Bool.and_eq_true, decide_eq_true_eq] at hp
        have hl : pc t ≤ pc (regB b) := fb_ct_sub (fun k _ hk => sub_iff.mp hp.1 k hk)
        have e : tstO b (regB b + 1) = some t := am_less hm (by omega)
        rw [e] at hk
        rw [hm] at hB
        rw [hB]; exact hk
    · rw [e7]; exact nI_le (Nat.le_refl _) (by omega)
  · intro B hB
    have hBp := pc_le B
    have hip := pc_le i
    refine s_X3_leastTest_19 ok _ _ _ S2 ⟨fun c => absurd c ?_, fun _ => c_bitCount (by omega) ?_⟩
    · rw [e7]; exact nI_ge hi (by omega)
    rw [e7, nI_add, nI_leI (by omega) (by omega), sub_n (by omega) (by omega)]
    have stay : (tstO b (i + 1) = tstO b i) → PW l x g shX m_X3_leastTest (Qi x g shX K) 19 [(0, .ref (g.ad 35)), (1, .int (nI B)), (2, .int (nI (pc B))), (3, .int (nI (i + 1)))] [] S2 := fun e => ih B (by rw [e]; exact hB)
    refine ⟨fun y => ?_, fun y => ⟨fun z => stay (am_no (by rw [decide_eq_false z]; rfl)), fun z => c_X3_tellsAll hb (by omega) g2 ?_⟩⟩
    · cases hm : tstO b i with
      | none =>
        rw [hm] at hB
        have hB : B = regB b := hB
        refine stay ?_
        refine am_no ?_
        cases q : decide (sub i (regB b)) with
        | false => rfl
        | true =>
          have := pc_part hR (of_decide_eq_true q) (by omega)
          rw [hB] at y
          omega
      | some t =>
        rw [hm] at hB
        have hB : B = t := hB
        subst hB
        exact stay (by rw [hm]; exact am_less hm (by omega))
    · rw [bI0]
      refine ⟨fun u => stay (am_no (by rw [u, Bool.and_false])), fun u => ?_⟩
      rw [Bool.not_eq_false] at u
      refine ih i ?_
      have hp : (fun t => decide (sub t (regB b)) && tla b t) i = true := by
        show (decide (sub i (regB b)) && tla b i) = true
        rw [decide_eq_true z, u]; rfl
      cases hm : tstO b i with
      | none =>
        have e : tstO b (i + 1) = some i := am_one hp hm
        rw [e]
      | some t =>
        rw [hm] at hB
        have hB : B = t := hB
        subst hB
        have e : tstO b (i + 1) = some i := am_more hp hm (by omega)
        rw [e]
end CLAA
