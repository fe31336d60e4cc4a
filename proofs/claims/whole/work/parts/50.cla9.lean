/-! PART 50: the class: who lacks what -/
def fitD (im : Bool) (pr : Nat) (mi : Nat → Nat) (m lack : Nat) : Bool := !im && (decide (lack &&& pr = 0) && alB (fun i => !decide (lack &&& mi i = 0)) m)
def mlkP (b : Bk) (a : An) (k lack : Nat) : Bool := alB (fun k => rrt b lack (a.w k) == a.r k) k
theorem and_or0 {a c d : Nat} : decide (a &&& (c ||| d) = 0) = (decide (a &&& c = 0) && decide (d &&& a = 0)) := by
  have h : a &&& (c ||| d) = 0 ↔ a &&& c = 0 ∧ d &&& a = 0 := by
    rw [Nat.and_or_distrib_left, Nat.and_comm d a]
    exact Nat.or_eq_zero_iff
  by_cases h1 : a &&& c = 0 <;> by_cases h2 : d &&& a = 0
  · rw [decide_eq_true (h.mpr ⟨h1, h2⟩), decide_eq_true h1, decide_eq_true h2]; rfl
  · rw [decide_eq_false (fun q => h2 (h.mp q).2), decide_eq_false h2, Bool.and_false]
  · rw [decide_eq_false (fun q => h1 (h.mp q).1), decide_eq_false h1, Bool.false_and]
  · rw [decide_eq_false (fun q => h1 (h.mp q).1), decide_eq_false h1, Bool.false_and]
theorem alB_cong {p q : Nat → Bool} : ∀ {n : Nat}, (∀ i, i < n → p i = q i) → alB p n = alB q n
  | 0, _ => rfl
  | n + 1, h => by rw [alB, alB, alB_cong (fun i hi => h i (by omega)), h n (by omega)]
theorem fitD_add {im : Bool} {pr m v lack : Nat} {mi : Nat → Nat} : fitD im pr (fun i => if i = m then v else mi i) (m + 1) lack = (fitD im pr mi m lack && !decide (lack &&& v = 0)) := by
  have e1 : alB (fun i => !decide (lack &&& (if i = m then v else mi i) = 0)) m = alB (fun i => !decide (lack &&& mi i = 0)) m := alB_cong (fun i hi => by simp only [show ¬ i = m by omega, if_false])
  have e2 : alB (fun i => !decide (lack &&& (if i = m then v else mi i) = 0)) (m + 1) = (alB (fun i => !decide (lack &&& mi i = 0)) m && !decide (lack &&& v = 0)) := by
    rw [alB, e1]
    simp only [if_true]
  unfold fitD
  rw [e2, Bool.and_assoc, Bool.and_assoc]
def HDk (S : Mem) (b : Bk) (a : An) (k : Nat) : Prop := ∃ (m : Nat) (mi : Nat → Nat) (pr : Nat) (im : Bool), m ≤ k ∧ pr < 1024 ∧ (∀ i, i < m → mi i < 1024 ∧ S 36 i = nI (mi i)) ∧ S 35 4 = nI m ∧ S 35 5 = nI pr ∧ S 35 6 = nI im.toNat ∧ ∀ lack, fitD im pr mi m lack = mlkP b a k lack
section CLA9
variable {l : Launch} {g : Geo} {S : Mem} {b : Bk} {a : An} {K : Int32 → Mem → Prop}
theorem XA.of {S S2 : Mem} {o : Nat} {a : An} (h : XA S o a) (e : ∀ c, o ≤ c → c ≤ o + 2 → S2 c = S c) : XA S2 o a := by
  unfold XA at h ⊢
  rw [e o (by omega) (by omega), e (o + 1) (by omega) (by omega), e (o + 2) (by omega) (by omega)]
  exact h
theorem c_X3_hear {K : Mem → Prop} (hb : BOk b) (ha : AnOk b a) (hX : XB S 4 b) (hU : XU S b) (hA : XA S 15 a) (hk : ∀ S2, (∀ c, c ≠ 35 → c ≠ 36 → S2 c = S c) → HDk S2 b a a.n → K S2) : MWv l g shX m_X3_hear [.ref (g.ad 35)] S K := by
  have hn := hb.1
  obtain ⟨ha1, ha2⟩ := ha
  refine MWv.intro _ rfl (Nat.le_of_ble_eq_true rfl) rfl (fun x ok => s_X3_hear_0 ok S ?_)
  refine lpU (fun k => ∀ S2 : Mem, (∀ c, c ≠ 35 → c ≠ 36 → S2 c = S c) → HDk S2 b a k → PW l x g shX m_X3_hear (Qv x g shX K) 17 [(0, .ref (g.ad 35)), (1, .int (nI k))] [] S2) a.n ?_ (fun k hkn ih => ?_) 0 (Nat.zero_le _) _ (fun c h1 h2 => by rw [st2_off h1, st2_off h1, st2_off h1]) ⟨0, fun _ => 0, 0, false, Nat.le_refl _, by decide, fun i hi => by omega, ?_, ?_, ?_, fun lack => ?_⟩
  · intro S2 g1 g2
    have hA2 : XA S2 15 a := hA.of (fun c h1 h2 => g1 c (by omega) (by omega))
    have e2 : S2 15 2 = nI a.n := hA2.1
    refine s_X3_hear_17 ok _ S2 ⟨fun _ => hk S2 g1 g2, fun c => absurd ?_ c⟩
    rw [e2]; exact nI_le (Nat.le_refl _) (by omega)
  · intro S2 g1 g2
    have hA2 : XA S2 15 a := hA.of (fun c h1 h2 => g1 c (by omega) (by omega))
    have hX2 : XB S2 4 b := hX.of (fun c h1 h2 => g1 c (by omega) (by omega))
    have hU2 : XU S2 b := hU.of (fun c h1 h2 => g1 c (by omega) (by omega))
    have e2 : S2 15 2 = nI a.n := hA2.1
    have hw := ha2 k hkn
    have e16 : S2 16 k = nI (a.w k) := (hA2.2 k hkn).1
    have e17 : S2 17 k = nI (a.r k).toNat := (hA2.2 k hkn).2
    have e7 : S2 7 (a.w k) = nI (bk_bits b (a.w k)) := (hX2.2 _ hw).2.2.1
    have hbl : bk_bits b (a.w k) < 1024 := bits_lt hb hw
    obtain ⟨m, mi, pr, im, d1, d2, d3, d4, d5, d6, d7⟩ := g2
    refine s_X3_hear_17 ok _ S2 ⟨fun c => absurd c ?_, fun _ => ⟨inI (by omega) (by decide), ?_⟩⟩
    · rw [e2]; exact nI_ge hkn (by omega)
    rw [cl, nI_clamp (by omega), e16]
    refine c_X8_isRegular hb hU2 hw ⟨inI (by omega) (by decide), ?_⟩
    have hP : ∀ lack, mlkP b a (k + 1) lack = (mlkP b a k lack && (rrt b lack (a.w k) == a.r k)) := fun _ => rfl
    simp (disch := omega) only [cl, nI_clamp, e17, e7, bI0, nI_add]
    refine ⟨fun y => ⟨fun z => ih S2 g1 ⟨m, mi, pr, im, by omega, d2, d3, d4, d5, d6, fun lack => ?_⟩, fun z => ⟨inI (by omega) (by decide), ?_, ih _ (fun c h1 h2 => ?_) ⟨m + 1, fun i => if i = m then bk_bits b (a.w k) else mi i, pr, im, by omega, d2, fun i hi => ?_, ?_, ?_, ?_, fun lack => ?_⟩⟩⟩, fun y => ⟨inI (by omega) (by decide), fun z => ⟨?_, ih _ (fun c h1 h2 => ?_) ⟨m, mi, pr ||| bk_bits b (a.w k), im, by omega, Nat.or_lt_two_pow (n := 10) d2 hbl, fun i hi => ?_, ?_, ?_, ?_, fun lack => ?_⟩⟩, fun z => ⟨?_, ih _ (fun c h1 h2 => ?_) ⟨m, mi, pr ||| bk_bits b (a.w k), true, by omega, Nat.or_lt_two_pow (n := 10) d2 hbl, fun i hi => ?_, ?_, ?_, ?_, fun lack => ?_⟩⟩⟩⟩
    · rw [hP, d7, y]
      unfold rrt
      rw [z]
      simp
    · rw [d4]; exact inI (by omega) (by decide)
    · rw [st2_off h1, st2_off h2]; exact g1 c h1 h2
    · dsimp only
      rw [st2_off (by decide), st2_get, d4, nI_clamp (by omega)]
      by_cases e : i = m
      · rw [if_pos e, if_pos e]; exact ⟨hbl, rfl⟩
      · rw [if_neg e, if_neg e]; exact d3 i (by omega)
    · rw [st2_get, if_pos rfl, st2_off (by decide), d4, nI_add]
    · rw [st2_get, if_neg (by decide), st2_off (by decide)]; exact d5
    · rw [st2_get, if_neg (by decide), st2_off (by decide)]; exact d6
    · rw [Bool.not_eq_false] at z
      rw [hP, ← d7, y]
      unfold rrt
      rw [z, fitD_add, Nat.and_comm lack (bk_bits b (a.w k))]
      cases fitD im pr mi m lack <;> cases decide (bk_bits b (a.w k) &&& lack = 0) <;> rfl
    · rw [st2_get, if_neg (by decide), d6]
      cases im <;> exact ⟨rfl, rfl⟩
    · rw [st2_off h1, st2_off h1]; exact g1 c h1 h2
    · rw [st2_off (by decide), st2_off (by decide)]; exact d3 i hi
    · rw [st2_get, if_neg (by decide), st2_get, if_neg (by decide)]; exact d4
    · rw [st2_get, if_neg (by decide), st2_get, if_pos rfl, d5, fa_or]
    · rw [st2_get, if_pos rfl, st2_get, if_neg (by decide), d6]
      cases im <;> rfl
    · rw [Bool.not_eq_false] at y z
      rw [hP, ← d7, y]
      unfold rrt fitD
      rw [z, and_or0]
      cases im <;> cases decide (lack &&& pr = 0) <;> cases alB (fun i => !decide (lack &&& mi i = 0)) m <;> cases decide (bk_bits b (a.w k) &&& lack = 0) <;> rfl
    · rw [st2_get, if_neg (by decide), d6]
      cases im <;> exact ⟨rfl, rfl⟩
    · rw [st2_off h1, st2_off h1]; exact g1 c h1 h2
    · rw [st2_off (by decide), st2_off (by decide)]; exact d3 i hi
    · rw [st2_get, if_neg (by decide), st2_get, if_neg (by decide)]; exact d4
    · rw [st2_get, if_neg (by decide), st2_get, if_pos rfl, d5, fa_or]
    · rw [st2_get, if_pos rfl, st2_get, if_neg (by decide), d6]
      cases im <;> rfl
    · rw [Bool.not_eq_false] at y
      rw [hP, y]
      unfold rrt fitD
      rw [z]
      simp
  · rw [st2_get, if_neg (by decide), st2_get, if_neg (by decide), st2_get, if_pos rfl]
  · rw [st2_get, if_neg (by decide), st2_get, if_pos rfl]
  · rw [st2_get, if_pos rfl]; rfl
  · unfold fitD
    rw [Nat.and_zero]
    rfl
theorem c_X3_fits {lack : Nat} (ha : a.n ≤ 20) (hD : HDk S b a a.n) (hlk : lack < 1024) (hk : K (nI (mlk b a lack).toNat) S) : MWi l g shX m_X3_fits [.ref (g.ad 35), .int (nI lack)] S K := by
  obtain ⟨m, mi, pr, im, d1, d2, d3, d4, d5, d6, d7⟩ := hD
  have d8 : fitD im pr mi m lack = mlk b a lack := d7 lack
  rw [← d8] at hk
  have hal : lack &&& pr < 1024 := Nat.and_lt_two_pow (n := 10) _ d2
  refine MWi.intro _ rfl (Nat.le_of_ble_eq_true rfl) rfl (fun x ok => s_X3_fits_0 ok _ S ?_)
  rw [d6, d5, bI0, fa_and, nI_eq0 (by omega)]
  unfold fitD at hk
  refine ⟨fun y => ?_, fun y => ⟨fun z => ?_, fun z => ?_⟩⟩
  · rw [Bool.not_eq_false] at y
    rw [y] at hk; exact hk
  · rw [y, decide_eq_true z] at hk
    simp only [Bool.not_false, Bool.true_and] at hk
    refine lpU (fun i => alB (fun i => !decide (lack &&& mi i = 0)) i = true → PW l x g shX m_X3_fits (Qi x g shX K) 20 [(0, .ref (g.ad 35)), (1, .int (nI lack)), (2, .int (nI i))] [] S) m ?_ (fun i hi ih => ?_) 0 (Nat.zero_le _) rfl
    · intro h
      refine s_X3_fits_20 ok _ _ S ⟨fun _ => ?_, fun c => absurd ?_ c⟩
      · rw [h] at hk; exact hk
      · rw [d4]; exact nI_le (Nat.le_refl _) (by omega)
    · intro h
      obtain ⟨q1, q2⟩ := d3 i hi
      have hal2 : lack &&& mi i < 1024 := Nat.and_lt_two_pow (n := 10) _ q1
      refine s_X3_fits_20 ok _ _ S ⟨fun c => absurd c ?_, fun _ => ⟨inI (by omega) (by decide), ?_⟩⟩
      · rw [d4]; exact nI_ge hi (by omega)
      rw [cl, nI_clamp (by omega), q2, fa_and, nI_eq0 (by omega), nI_add]
      refine ⟨fun u => ih ?_, fun u => ?_⟩
      · rw [alB, h, decide_eq_false u]; rfl
      · have : alB (fun i => !decide (lack &&& mi i = 0)) m = false := alB_mono (i := i + 1) (by omega) (by rw [alB, h, decide_eq_true u]; rfl)
        rw [this] at hk; exact hk
  · rw [y, decide_eq_false z] at hk; exact hk
theorem c_X3_countSets {s : Nat} (ha : a.n ≤ 20) (hD : HDk S b a a.n) (hs : s < 1024) (hk : K (nI (mayN b a s)) S) : MWi l g shX m_X3_countSets [.ref (g.ad 35), .int (nI s)] S K := by
  refine MWi.intro _ rfl (Nat.le_of_ble_eq_true rfl) rfl (fun x ok => s_X3_countSets_0 ok _ S ?_)
  refine lpU (fun i => PW l x g shX m_X3_countSets (Qi x g shX K) 4 [(0, .ref (g.ad 35)), (1, .int (nI s)), (2, .int (nI (fb_ct (fun set => decide (sub s set) && mlk b a set) i))), (3, .int (nI i))] [] S) 1024 ?_ (fun i hi ih => ?_) 0 (Nat.zero_le _)
  · exact s_X3_countSets_4 ok _ _ _ S ⟨fun _ => hk, fun c => absurd (nI_le (Nat.le_refl 1024) (by decide)) c⟩
  · refine s_X3_countSets_4 ok _ _ _ S ⟨fun c => absurd c (nI_ge hi (by decide)), fun _ => ?_⟩
    rw [sub_n (by omega) (by omega)]
    rw [fb_ct_succ] at ih
    refine ⟨fun y => ?_, fun y => c_X3_fits ha hD hi ?_⟩
    · rw [decide_eq_false y] at ih
      rw [nI_add]; exact ih
    · rw [decide_eq_true y] at ih
      rw [bI0, nI_add, nI_add]
      refine ⟨fun z => ?_, fun z => ?_⟩
      · rw [z] at ih; exact ih
      · rw [Bool.not_eq_false] at z
        rw [z] at ih; exact ih
end CLA9
