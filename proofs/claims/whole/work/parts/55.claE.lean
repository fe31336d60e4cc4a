/-! PART 55: the class: what a change makes void; the pad -/
section CLAE
variable {l : Launch} {g : Geo} {S : Mem} {b : Bk} {ch : Ch} {K : Int32 → Mem → Prop}
theorem c_X11_childChanged {K : Mem → Prop} {c : Nat} (hc : c < 4) (hk : ∀ S2, (∀ a, a ≠ 31 → a ≠ 42 → S2 a = S a) → (∀ j, j ≠ 5 → S2 31 j = S 31 j) → S2 42 c = nI 0 → (∀ d, d ≠ c → S2 42 d = S 42 d) → (S 31 5 = nI c → S2 31 5 = -6) → (¬ S 31 5 = nI c → S2 31 5 = S 31 5) → K S2) : MWv l g shX m_X11_childChanged [.ref (g.ad 0), .int (nI c)] S K := by
  refine MWv.intro _ rfl (Nat.le_of_ble_eq_true rfl) rfl (fun x ok => s_X11_childChanged_0 ok _ S ⟨fun y => c_X4_forget hc ?_, fun y => c_X4_forget hc ?_⟩)
  · refine hk _ (fun a h1 h2 => by rw [st2_off h2]) (fun j _ => by rw [st2_off (by decide)]) (by rw [st2_get, if_pos rfl]) (fun d hd => by rw [st2_get, if_neg hd]) (fun z => absurd z y) (fun _ => by rw [st2_off (by decide)])
  · refine hk _ (fun a h1 h2 => by rw [st2_off h2, st2_off h1]) (fun j hj => by rw [st2_off (by decide), st2_get, if_neg hj]) (by rw [st2_get, if_pos rfl]) (fun d hd => by rw [st2_get, if_neg hd, st2_off (by decide)]) (fun _ => by rw [st2_off (by decide), st2_get, if_pos rfl]) (fun z => absurd y z)
theorem c_X11_bookChanged {K : Mem → Prop} (hb : BOk b) (hX : XB S 4 b) (h5 : S 31 5 = -6 ∨ ∃ c, c < 4 ∧ S 31 5 = nI c) (hk : ∀ S2, (∀ a, a < 18 ∨ 24 < a → a ≠ 27 → a ≠ 31 → a ≠ 42 → S2 a = S a) → XU S2 b → S2 27 6 = nI 0 → S2 31 5 = -6 → (∀ d, d < 4 → S2 42 d = nI 0) → K S2) : MWv l g shX m_X11_bookChanged [.ref (g.ad 0)] S K := by
  refine MWv.intro _ rfl (Nat.le_of_ble_eq_true rfl) rfl (fun x ok => s_X11_bookChanged_0 ok S (c_X8_refresh hb hX (fun S1 r1 r2 => ?_)))
  refine lpU (fun c => ∀ S2 : Mem, (∀ a, a < 18 ∨ 24 < a → a ≠ 27 → a ≠ 31 → a ≠ 42 → S2 a = S a) → XU S2 b → S2 27 6 = nI 0 → (S2 31 5 = -6 ∨ ∃ d, c ≤ d ∧ d < 4 ∧ S2 31 5 = nI d) → (∀ d, d < c → S2 42 d = nI 0) → PW l x g shX m_X11_bookChanged (Qv x g shX K) 17 [(0, .ref (g.ad 0)), (1, .int (nI c))] [] S2) 4 ?_ (fun c hc ih => ?_) 0 (Nat.zero_le _) _ (fun a h1 h2 h3 h4 => by rw [st2_off h2]; exact r1 a h1) (r2.of (fun a h1 h2 => by rw [st2_off (by omega)])) (by rw [st2_get, if_pos rfl]) (by
    rw [st2_off (by decide), r1 31 (by decide)]
    rcases h5 with h5 | ⟨c, hc, h5⟩
    · exact Or.inl h5
    · exact Or.inr ⟨c, by omega, hc, h5⟩) (fun d hd => by omega)
  · intro S2 g1 g2 g3 g4 g5
    refine s_X11_bookChanged_17 ok _ S2 ⟨fun _ => hk S2 g1 g2 g3 ?_ g5, fun q => absurd (nI_le (Nat.le_refl 4) (by decide)) q⟩
    rcases g4 with g4 | ⟨d, h1, h2, _⟩
    · exact g4
    · omega
  · intro S2 g1 g2 g3 g4 g5
    refine s_X11_bookChanged_17 ok _ S2 ⟨fun q => absurd q (nI_ge hc (by decide)), fun _ => c_X11_childChanged hc (fun S3 q1 q2 q3 q4 q5 q6 => ?_)⟩
    rw [nI_add]
    refine ih S3 (fun a h1 h2 h3 h4 => by rw [q1 a h3 h4]; exact g1 a h1 h2 h3 h4) (g2.of (fun a h1 h2 => q1 a (by omega) (by omega))) (by rw [q1 27 (by decide) (by decide)]; exact g3) ?_ (fun d hd => ?_)
    · rcases g4 with g4 | ⟨d, h1, h2, h3⟩
      · left
        rw [q6 (by rw [g4]; exact neg6_ne (by omega))]; exact g4
      · by_cases e : d = c
        · left
          exact q5 (by rw [h3, e])
        · right
          refine ⟨d, by omega, h2, ?_⟩
          rw [q6 (by rw [h3, nI_eq (by omega) (by omega)]; exact e)]; exact h3
    · by_cases e : d = c
      · rw [e]; exact q3
      · rw [q4 d e]; exact g5 d (by omega)
theorem c_X1_hasLetters {w : Nat} {pn li : Nat} {pd : Nat → Nat} (hb : BOk b) (hX : XB S 4 b) (hw : w < b.n) (h1 : S 1 1 = nI pn) (hp : pn ≤ 14) (hl : pn / 2 = li) (h2 : ∀ i, i < li → S 2 i = nI (pd i) ∧ 97 ≤ pd i ∧ pd i ≤ 106) (hk : K (nI (lets b li pd w).toNat) S) : MWi l g shX m_X1_hasLetters [.ref (g.ad 4), .int (nI w), .ref (g.ad 1)] S K := by
  have hn := hb.1
  obtain ⟨q1, q2, q3, q4, q5⟩ := hb.2 w hw
  have e5 : S 5 w = nI (b.len w) := (hX.2 w hw).1
  refine MWi.intro _ rfl (Nat.le_of_ble_eq_true rfl) rfl (fun x ok => s_X1_hasLetters_0 ok _ S ⟨inI (by omega) (by decide), c_X5_letterCount h1 hp ?_⟩)
  rw [hl, cl, nI_clamp (by omega), e5, nI_eq (by omega) (by omega)]
  unfold lets at hk
  refine ⟨fun y => ?_, fun y => ?_⟩
  · rw [decide_eq_true y, Bool.true_and] at hk
    subst y
    refine lpU (fun i => (∀ j, j < i → b.sg w j = pd j - 97) → PW l x g shX m_X1_hasLetters (Qi x g shX K) 17 [(0, .ref (g.ad 4)), (1, .int (nI w)), (2, .ref (g.ad 1)), (3, .int (nI i))] [] S) (b.len w) ?_ (fun i hi ih => ?_) 0 (Nat.zero_le _) (fun j hj => by omega)
    · intro h
      refine s_X1_hasLetters_17 ok _ _ S ⟨inI (by omega) (by decide), fun _ => ?_, fun q => absurd ?_ q⟩
      · have : alB (fun i => decide (b.sg w i = pd i - 97)) (b.len w) = true := alB_iff.mpr (fun i hi => decide_eq_true (h i hi))
        rw [this] at hk; exact hk
      · rw [cl, nI_clamp (by omega), e5]; exact nI_le (Nat.le_refl _) (by omega)
    · intro h
      obtain ⟨d1, d2, d3⟩ := h2 i hi
      have d4 := (q5 i hi).1
      refine s_X1_hasLetters_17 ok _ _ S ⟨inI (by omega) (by decide), fun q => absurd q ?_, fun _ => c_X1_signAt hb hX hw hi (c_X5_letterAt (by omega) d1 d2 ?_)⟩
      · rw [cl, nI_clamp (by omega), e5]; exact nI_ge hi (by omega)
      rw [nI_eq (by omega) (by omega), nI_add]
      refine ⟨fun z => ih (fun j hj => ?_), fun z => ?_⟩
      · rcases Nat.lt_or_ge j i with r | r
        · exact h j r
        · have : j = i := by omega
          subst this; exact z
      · have : alB (fun i => decide (b.sg w i = pd i - 97)) (b.len w) = false := by
          cases q : alB (fun i => decide (b.sg w i = pd i - 97)) (b.len w) with
          | false => rfl
          | true => exact absurd (of_decide_eq_true (alB_iff.mp q i hi)) z
        rw [this] at hk; exact hk
  · rw [decide_eq_false y, Bool.false_and] at hk; exact hk
theorem c_X1_hasLettersOf {pn li : Nat} {pd : Nat → Nat} (hb : BOk b) (hX : XB S 4 b) (h1 : S 1 1 = nI pn) (hp : pn ≤ 14) (hl : pn / 2 = li) (h2 : ∀ i, i < li → S 2 i = nI (pd i) ∧ 97 ≤ pd i ∧ pd i ≤ 106) (hk : K (nI (thr b li pd).toNat) S) : MWi l g shX m_X1_hasLettersOf [.ref (g.ad 4), .ref (g.ad 1)] S K := by
  have hn := hb.1
  refine MWi.intro _ rfl (Nat.le_of_ble_eq_true rfl) rfl (fun x ok => s_X1_hasLettersOf_0 ok S ?_)
  unfold thr at hk
  refine lpU (fun w => (∀ j, j < w → lets b li pd j = false) → PW l x g shX m_X1_hasLettersOf (Qi x g shX K) 2 [(0, .ref (g.ad 4)), (1, .ref (g.ad 1)), (2, .int (nI w))] [] S) b.n ?_ (fun w hw ih => ?_) 0 (Nat.zero_le _) (fun j hj => by omega)
  · intro h
    refine s_X1_hasLettersOf_2 ok _ S ⟨fun _ => ?_, fun q => absurd ?_ q⟩
    · rw [fm_none.mpr h] at hk; exact hk
    · simp (disch := omega) only [hX.1, nI_leI, Nat.le_refl]
  · intro h
    refine s_X1_hasLettersOf_2 ok _ S ⟨fun q => absurd q ?_, fun _ => c_X1_hasLetters hb hX hw h1 hp hl h2 ?_⟩
    · simp (disch := omega) only [hX.1, nI_leI]; omega
    rw [bI0, nI_add]
    refine ⟨fun y => ih (fun j hj => ?_), fun y => ?_⟩
    · rcases Nat.lt_or_ge j w with r | r
      · exact h j r
      · have : j = w := by omega
        subst this; exact y
    · rw [Bool.not_eq_false] at y
      rw [fm_some.mpr ⟨hw, y, h⟩] at hk; exact hk
end CLAE
