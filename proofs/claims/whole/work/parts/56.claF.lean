/-! PART 56: the class: the pad's fault, a new word -/
theorem scS_f {c l d : Nat} : scS c l d false = if (97 ≤ c ∧ c ≤ 106) ∧ l < 5 then some (l + 1, d, false) else if c = 61 ∧ 0 < l then some (l, d, true) else none := by
  unfold scS
  by_cases h1 : 97 ≤ c ∧ c ≤ 106 <;> by_cases h2 : l < 5 <;> by_cases h3 : c = 61 <;> by_cases h4 : 0 < l <;> simp [h1, h2, h3, h4]
theorem scS_t {c l d : Nat} : scS c l d true = if (48 ≤ c ∧ c ≤ 57) ∧ d < l then some (l, d + 1, true) else none := by
  unfold scS
  by_cases h1 : 48 ≤ c ∧ c ≤ 57 <;> by_cases h2 : d < l <;> simp [h1, h2]
section CLAF
variable {l : Launch} {g : Geo} {S : Mem} {b : Bk} {ch : Ch} {K : Int32 → Mem → Prop}
theorem c_X5_findFault {pn : Nat} {pd : Nat → Nat} (h1 : S 1 1 = nI pn) (hp : pn ≤ 14) (h2 : ∀ i, i < pn → S 2 i = nI (pd i) ∧ pd i ≤ 126) (hk : K (oI (flt pn pd)) S) : MWi l g shX m_X5_findFault [.ref (g.ad 1)] S K := by
  refine MWi.intro _ rfl (Nat.le_of_ble_eq_true rfl) rfl (fun x ok => s_X5_findFault_0 ok S ?_)
  refine lpU (fun i => ∀ le d bh, sc pd i = some (le, d, bh) → (∀ j, j < i → (sc pd (j + 1)).isNone = false) → PW l x g shX m_X5_findFault (Qi x g shX K) 9 [(0, .ref (g.ad 1)), (1, .int (nI le)), (2, .int (nI d)), (3, .int (nI bh.toNat)), (4, .int (nI i))] [] S) pn ?_ (fun i hi ih => ?_) 0 (Nat.zero_le _) 0 0 false rfl (fun j hj => by omega)
  · intro le d bh hs hn
    obtain ⟨a1, a2, a3, a4, a5⟩ := sc_ok hs
    unfold flt at hk
    rw [fm_none.mpr hn] at hk
    simp only [hs] at hk
    refine s_X5_findFault_9 ok _ _ _ _ S ⟨fun _ => ?_, fun q => absurd ?_ q⟩
    · rw [bI0, nI_eq (by omega) (by omega), h1]
      refine ⟨fun y => ?_, fun y => ⟨fun z => ?_, fun z => ?_⟩⟩
      · rw [y] at hk
        simpa [oI] using hk
      · rw [decide_eq_false z, Bool.and_false] at hk
        simpa [oI] using hk
      · rw [Bool.not_eq_false] at y
        rw [y, decide_eq_true z] at hk
        simpa [oI] using hk
    · rw [h1]; exact nI_le (Nat.le_refl _) (by omega)
  · intro le d bh hs hn
    obtain ⟨a1, a2, a3, a4, a5⟩ := sc_ok hs
    obtain ⟨e2, e3⟩ := h2 i hi
    have hsc : sc pd (i + 1) = scS (pd i) le d bh := by rw [sc, hs]
    have bad : scS (pd i) le d bh = none → K (nI i) S := by
      intro h
      unfold flt at hk
      rw [fm_some.mpr ⟨hi, by rw [hsc, h]; rfl, hn⟩] at hk
      exact hk
    have good : ∀ l2 d2 b2, scS (pd i) le d bh = some (l2, d2, b2) → PW l x g shX m_X5_findFault (Qi x g shX K) 9 [(0, .ref (g.ad 1)), (1, .int (nI l2)), (2, .int (nI d2)), (3, .int (nI b2.toNat)), (4, .int (nI (i + 1)))] [] S := by
      intro l2 d2 b2 h
      refine ih l2 d2 b2 (by rw [hsc, h]) (fun j hj => ?_)
      rcases Nat.lt_or_ge j i with q | q
      · exact hn j q
      · have : j = i := by omega
        subst this
        rw [hsc, h]; rfl
    refine s_X5_findFault_9 ok _ _ _ _ S ⟨fun q => absurd q ?_, fun _ => ⟨inI (by omega) (by decide), ?_⟩⟩
    · rw [h1]; exact nI_ge hi (by omega)
    simp (disch := omega) only [cl, nI_clamp, e2, bI0, nI_eq, nI_ltI, nI_le0, nI_add]
    cases bh with
    | false =>
      rw [scS_f] at bad good
      have lett : ¬ (pd i = 61 ∧ 0 < le) → ((pd i < 97 → K (nI i) S) ∧ (¬ pd i < 97 → ((106 < pd i → K (nI i) S) ∧ (¬ 106 < pd i → ((¬ le = 5 → PW l x g shX m_X5_findFault (Qi x g shX K) 9 [(0, .ref (g.ad 1)), (1, .int (nI (le + 1))), (2, .int (nI d)), (3, .int (nI false.toNat)), (4, .int (nI (i + 1)))] [] S) ∧ (le = 5 → K (nI i) S)))))) := by
        intro h
        refine ⟨fun y => bad ?_, fun y => ⟨fun z => bad ?_, fun z => ⟨fun u => good _ _ _ ?_, fun u => bad ?_⟩⟩⟩
        · rw [if_neg (by omega), if_neg h]
        · rw [if_neg (by omega), if_neg h]
        · rw [if_pos (by omega)]
        · rw [if_neg (by omega), if_neg h]
      refine ⟨fun _ => ⟨fun y => lett (by omega), fun y => ⟨fun z => lett (by omega), fun z => good _ _ true ?_⟩⟩, fun q => absurd rfl q⟩
      rw [if_neg (by omega), if_pos (by omega)]
    | true =>
      rw [scS_t] at bad good
      refine ⟨fun q => (by cases q), fun _ => ⟨fun y => bad ?_, fun y => ⟨fun z => bad ?_, fun z => ⟨fun u => good _ _ true ?_, fun u => bad ?_⟩⟩⟩⟩
      · rw [if_neg (by omega)]
      · rw [if_neg (by omega)]
      · rw [if_pos (by omega)]
      · rw [if_neg (by omega)]
theorem c_X1_add {K : Mem → Prop} {pn li f : Nat} {pd : Nat → Nat} (hb : BOk b) (hX : XB S 4 b) (hn12 : b.n < 12) (h1 : S 1 1 = nI pn) (hpn : pn = 2 * li + 1) (hl5 : li ≤ 5) (h2 : ∀ i, i < pn → S 2 i = nI (pd i)) (h3 : ∀ j, j < li → 97 ≤ pd j ∧ pd j ≤ 106) (h4 : ∀ j, j < li → 48 ≤ pd (li + 1 + j) ∧ pd (li + 1 + j) ≤ 57) (hk : ∀ S2, (∀ a, a < 4 ∨ 9 < a → S2 a = S a) → XB S2 4 (newB b li pd f) → K S2) : MWv l g shX m_X1_add [.ref (g.ad 4), .ref (g.ad 1), .int (nI f)] S K := by
  have e45 : S 4 5 = nI b.n := hX.1
  have hl : pn / 2 = li := by omega
  refine MWv.intro _ rfl (Nat.le_of_ble_eq_true rfl) rfl (fun x ok => s_X1_add_0 ok _ S (c_X5_letterCount h1 (by omega) ?_))
  rw [hl, e45]
  have ec : cl (nI b.n) = b.n := by rw [cl, nI_clamp (by omega)]
  rw [ec]
  refine ⟨fun q => absurd q (nI_ge hn12 (by decide)), fun _ => ⟨fun _ => ⟨inI hn12 (by decide), inI hn12 (by decide), inI hn12 (by decide), ?_⟩, fun q => absurd (nI_le hl5 (by decide)) q⟩⟩
  refine lpU (fun i => ∀ S2 : Mem, (∀ a, a < 5 ∨ 9 < a → S2 a = S a) → (∀ w, w < b.n → S2 5 w = S 5 w ∧ S2 6 w = S 6 w ∧ S2 7 w = S 7 w) → (∀ j, j < 5 * b.n → S2 8 j = S 8 j ∧ S2 9 j = S 9 j) → S2 5 b.n = nI li → S2 6 b.n = nI f → S2 7 b.n = nI (orB (fun j => 2 ^ (pd j - 97)) i) → (∀ j, j < i → S2 8 (5 * b.n + j) = nI (pd j - 97) ∧ S2 9 (5 * b.n + j) = nI (pd (li + 1 + j) - 48)) → PW l x g shX m_X1_add (Qv x g shX K) 49 [(0, .ref (g.ad 4)), (1, .ref (g.ad 1)), (3, .int (nI b.n)), (4, .int (nI li)), (5, .int (nI i))] [] S2) li ?_ (fun i hi ih => ?_) 0 (Nat.zero_le _) _ (fun a ha => by rw [st2_off (by omega), st2_off (by omega), st2_off (by omega)]) (fun w hw => ⟨?_, ?_, ?_⟩) (fun j hj => ⟨?_, ?_⟩) ?_ ?_ ?_ (fun j hj => by omega)
  · intro S2 g1 g2 g3 g4 g5 g6 g7
    refine s_X1_add_49 ok _ _ _ S2 ⟨fun _ => ?_, fun q => absurd (nI_le (Nat.le_refl _) (by omega)) q⟩
    rw [g1 4 (by decide), e45, nI_add]
    refine hk _ (fun a ha => by rw [st2_off (by omega)]; exact g1 a (by omega)) ⟨by rw [st2_get, if_pos rfl]; rfl, fun w hw => ?_⟩
    have hw : w < b.n + 1 := hw
    rw [st2_off (show (4 + 1 : Nat) ≠ 4 by decide), st2_off (show (4 + 2 : Nat) ≠ 4 by decide), st2_off (show (4 + 3 : Nat) ≠ 4 by decide), st2_off (show (4 + 4 : Nat) ≠ 4 by decide), st2_off (show (4 + 5 : Nat) ≠ 4 by decide)]
    have eL : (newB b li pd f).len w = if w = b.n then li else b.len w := rfl
    have eO : (newB b li pd f).of w = if w = b.n then f else b.of w := rfl
    have eS : ∀ i, (newB b li pd f).sg w i = if 5 * b.n ≤ 5 * w + i ∧ 5 * w + i < 5 * b.n + li then pd (5 * w + i - 5 * b.n) - 97 else b.sg w i := fun i => rfl
    have eD : ∀ i, (newB b li pd f).sd w i = if 5 * b.n ≤ 5 * w + i ∧ 5 * w + i < 5 * b.n + li then pd (li + 1 + (5 * w + i - 5 * b.n)) - 48 else b.sd w i := fun i => rfl
    by_cases e : w = b.n
    · subst e
      rw [if_pos rfl] at eL eO
      rw [eL, eO]
      have eS2 : ∀ i, i < li → (newB b li pd f).sg b.n i = pd i - 97 := fun i hi => by
        rw [eS, if_pos (by omega), show 5 * b.n + i - 5 * b.n = i by omega]
      have eD2 : ∀ i, i < li → (newB b li pd f).sd b.n i = pd (li + 1 + i) - 48 := fun i hi => by
        rw [eD, if_pos (by omega), show 5 * b.n + i - 5 * b.n = i by omega]
      refine ⟨g4, g5, ?_, fun i hi => ?_⟩
      · have : bk_bits (newB b li pd f) b.n = orB (fun j => 2 ^ (pd j - 97)) li := by
          unfold bk_bits
          rw [eL]
          exact orB_cong (fun i hi => by rw [eS2 i hi])
        rw [this]; exact g6
      · rw [eS2 i hi, eD2 i hi]; exact g7 i hi
    · rw [if_neg e] at eL eO
      have hw2 : w < b.n := by omega
      obtain ⟨q1, q2, q3⟩ := g2 w hw2
      obtain ⟨p1, p2, p3, p4⟩ := hX.2 w hw2
      have hlw := (hb.2 w hw2).2.1
      rw [eL, eO]
      have eS2 : ∀ i, i < b.len w → (newB b li pd f).sg w i = b.sg w i := fun i hi => by
        rw [eS, if_neg (by omega)]
      have eD2 : ∀ i, i < b.len w → (newB b li pd f).sd w i = b.sd w i := fun i hi => by
        rw [eD, if_neg (by omega)]
      refine ⟨q1.trans p1, q2.trans p2, ?_, fun i hi => ?_⟩
      · have : bk_bits (newB b li pd f) w = bk_bits b w := by
          unfold bk_bits
          rw [eL]
          exact orB_cong (fun i hi => by rw [eS2 i hi])
        rw [this]; exact q3.trans p3
      · obtain ⟨u1, u2⟩ := g3 (5 * w + i) (by omega)
        rw [eS2 i hi, eD2 i hi]
        exact ⟨u1.trans (p4 i hi).1, u2.trans (p4 i hi).2⟩
  · intro S2 g1 g2 g3 g4 g5 g6 g7
    have s2 : ∀ i, i < pn → S2 2 i = nI (pd i) := fun i hi => by rw [g1 2 (by decide)]; exact h2 i hi
    have s1 : S2 1 1 = nI pn := by rw [g1 1 (by decide)]; exact h1
    have hp := h3 i hi
    have hq := h4 i hi
    refine s_X1_add_49 ok _ _ _ S2 ⟨fun q => absurd q (nI_ge hi (by omega)), fun _ => c_X5_letterAt (by omega) (s2 i (by omega)) hp.1 ?_⟩
    have em : nI b.n * nI 5 + nI i = nI (5 * b.n + i) := by rw [pk_mul, nI_add, Nat.mul_comm]
    have ecm : cl (nI (5 * b.n + i)) = 5 * b.n + i := by rw [cl, nI_clamp (by omega)]
    rw [em, ecm]
    refine ⟨inI (by omega) (by decide), c_X5_digitAt (pd := pd) (li := li) (by rw [st2_off (by decide)]; exact s1) (by omega) hl (by omega) (by rw [st2_off (by decide)]; exact s2 _ (by omega)) hq.1 ⟨inI (by omega) (by decide), inI hn12 (by decide), c_X5_letterAt (pd := pd) (by omega) (by rw [st2_off (by decide), st2_off (by decide)]; exact s2 i (by omega)) hp.1 ⟨inI hn12 (by decide), ?_⟩⟩⟩
    rw [ec, nI_add, st2_off (show (7 : Nat) ≠ 9 by decide), st2_off (show (7 : Nat) ≠ 8 by decide), g6, jshl_1 (by omega), fa_or]
    refine ih _ (fun a ha => ?_) (fun w hw => ⟨?_, ?_, ?_⟩) (fun j hj => ⟨?_, ?_⟩) ?_ ?_ ?_ (fun j hj => ⟨?_, ?_⟩)
    · rw [st2_off (by omega), st2_off (by omega), st2_off (by omega)]; exact g1 a ha
    · rw [st2_off (by decide), st2_off (by decide), st2_off (by decide)]; exact (g2 w hw).1
    · rw [st2_off (by decide), st2_off (by decide), st2_off (by decide)]; exact (g2 w hw).2.1
    · rw [st2_get, if_neg (by omega), st2_off (by decide), st2_off (by decide)]; exact (g2 w hw).2.2
    · rw [st2_off (by decide), st2_off (by decide), st2_get, if_neg (by omega)]; exact (g3 j hj).1
    · rw [st2_off (by decide), st2_get, if_neg (by omega), st2_off (by decide)]; exact (g3 j hj).2
    · rw [st2_off (by decide), st2_off (by decide), st2_off (by decide)]; exact g4
    · rw [st2_off (by decide), st2_off (by decide), st2_off (by decide)]; exact g5
    · rw [st2_get, if_pos rfl, orB]
    · rw [st2_off (by decide), st2_off (by decide), st2_get]
      by_cases e : j = i
      · rw [if_pos (by omega), e]
      · rw [if_neg (by omega)]; exact (g7 j (by omega)).1
    · rw [st2_off (by decide), st2_get, st2_off (by decide)]
      by_cases e : j = i
      · rw [if_pos (by omega), e]
      · rw [if_neg (by omega)]; exact (g7 j (by omega)).2
  · rw [st2_off (by decide), st2_off (by decide), st2_get, if_neg (by omega)]
  · rw [st2_off (by decide), st2_get, if_neg (by omega), st2_off (by decide)]
  · rw [st2_get, if_neg (by omega), st2_off (by decide), st2_off (by decide)]
  · rw [st2_off (by decide), st2_off (by decide), st2_off (by decide)]
  · rw [st2_off (by decide), st2_off (by decide), st2_off (by decide)]
  · rw [st2_off (by decide), st2_off (by decide), st2_get, if_pos rfl]
  · rw [st2_off (by decide), st2_get, if_pos rfl]
  · rw [st2_get, if_pos rfl]; rfl
end CLAF
