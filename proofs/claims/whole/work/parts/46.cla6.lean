/-! PART 46: the class: most by so many signs and wholes -/
theorem SR.inj {b : Bk} {f : Nat → Nat} {n : Nat} (h : SR b f n) {i j : Nat} (hi : i < n) (hj : j < n) (e : f i = f j) : i = j := by
  rcases Nat.lt_trichotomy i j with q | q | q
  · have := h.2 i j q hj
    unfold bet at this
    rw [e] at this
    omega
  · exact q
  · have := h.2 j i q hi
    unfold bet at this
    rw [e] at this
    omega
def wInv (b : Bk) (f : Nat → Nat) (s w i W left : Nat) : Prop := left ≤ w ∧ W = wfor b s (w - left) ∧ (0 < left → ∀ j, j < i → bk_given b s (f j) = false → W.testBit (f j) = true) ∧ ∀ v, W.testBit v = true → ∃ j, j < i ∧ f j = v
theorem wInv.zero {b : Bk} {f : Nat → Nat} {s w : Nat} : wInv b f s w 0 0 w := by
  refine ⟨Nat.le_refl _, ?_, fun _ j hj => by omega, fun v h => ?_⟩
  · rw [Nat.sub_self]; rfl
  · rw [Nat.zero_testBit] at h; cases h
theorem wInv.skip {b : Bk} {f : Nat → Nat} {s w i W left : Nat} (h : wInv b f s w i W left) (hg : bk_given b s (f i) = true ∨ left = 0) : wInv b f s w (i + 1) W left := by
  obtain ⟨h1, h2, h3, h4⟩ := h
  refine ⟨h1, h2, fun h0 j hj hn => ?_, fun v hv => ?_⟩
  · rcases Nat.lt_or_ge j i with q | q
    · exact h3 h0 j q hn
    · have : j = i := by omega
      subst this
      rcases hg with g | g
      · rw [g] at hn; cases hn
      · omega
  · obtain ⟨j, hj, e⟩ := h4 v hv
    exact ⟨j, by omega, e⟩
theorem wInv.new {b : Bk} {f : Nat → Nat} {s w i W left : Nat} (hf : SR b f b.n) (hi : i < b.n) (h : wInv b f s w i W left) : W.testBit (f i) = false := by
  cases hb : W.testBit (f i) with
  | false => rfl
  | true =>
    obtain ⟨j, hj, e⟩ := h.2.2.2 _ hb
    have := hf.inj (by omega) hi e
    omega
theorem wInv.add {b : Bk} {f : Nat → Nat} {s w i W left : Nat} (hf : SR b f b.n) (hi : i < b.n) (h : wInv b f s w i W (left + 1)) (hg : bk_given b s (f i) = false) : wInv b f s w (i + 1) (W ||| 2 ^ f i) left := by
  have hn := h.new hf hi
  obtain ⟨h1, h2, h3, h4⟩ := h
  have e : am (fun v => !W.testBit v && !bk_given b s v) b.of b.n = some (f i) := by
    rw [← hf.first, fm_some.mpr ⟨hi, by simp [hn, hg], fun j hj => ?_⟩]
    · rfl
    · cases q : bk_given b s (f j) with
      | true => simp
      | false => rw [h3 (by omega) j hj q]; rfl
  refine ⟨by omega, ?_, fun _ j hj hn => ?_, fun v hv => ?_⟩
  · have : w - left = (w - (left + 1)) + 1 := by omega
    rw [this, wfor, ← h2, e]
  · rw [fb_bit_set]
    rcases Nat.lt_or_ge j i with q | q
    · rw [h3 (by omega) j q hn]; rfl
    · have : j = i := by omega
      subst this; simp
  · rw [fb_bit_set, Bool.or_eq_true, decide_eq_true_eq] at hv
    rcases hv with hv | hv
    · obtain ⟨j, hj, e⟩ := h4 v hv
      exact ⟨j, by omega, e⟩
    · exact ⟨i, by omega, hv.symm⟩
theorem wInv.done {b : Bk} {f : Nat → Nat} {s w i W left : Nat} (hf : SR b f b.n) (h : wInv b f s w i W left) (h0 : left = 0 ∨ i = b.n) : wfor b s w = W := by
  obtain ⟨h1, h2, h3, h4⟩ := h
  by_cases hl : left = 0
  · subst hl; rw [h2]; rfl
  · have hi : i = b.n := by omega
    subst hi
    have e : am (fun v => !W.testBit v && !bk_given b s v) b.of b.n = none := am_none.mpr (fun v hv => by
      obtain ⟨j, hj, rfl⟩ := hf.onto hv
      cases q : bk_given b s (f j) with
      | true => simp
      | false => rw [h3 (by omega) j hj q]; rfl)
    have : ∀ d, wfor b s (w - left + d) = W := by
      intro d
      induction d with
      | zero => exact h2.symm
      | succ d ih => rw [← Nat.add_assoc, wfor, ih, e]
    have := this left
    rw [Nat.sub_add_cancel h1] at this
    exact this
def sInv (b : Bk) (f : Nat → Nat) (s i W A : Nat) : Prop := ∀ v, A.testBit v = true ↔ ∃ j, j < i ∧ f j = v ∧ (bk_given b s v = true ∨ W.testBit v = true)
theorem sInv.new {b : Bk} {f : Nat → Nat} {s i W A : Nat} (hf : SR b f b.n) (hi : i < b.n) (h : sInv b f s i W A) : A.testBit (f i) = false := by
  cases hb : A.testBit (f i) with
  | false => rfl
  | true =>
    obtain ⟨j, hj, e, _⟩ := (h _).mp hb
    have := hf.inj (by omega) hi e
    omega
theorem sInv.addG {b : Bk} {f : Nat → Nat} {s i W A : Nat} (h : sInv b f s i W A) (hg : bk_given b s (f i) = true) : sInv b f s (i + 1) W (A ||| 2 ^ f i) := by
  intro v
  rw [fb_bit_set, Bool.or_eq_true, decide_eq_true_eq, h v]
  constructor
  · rintro (⟨j, h1, h2, h3⟩ | rfl)
    · exact ⟨j, by omega, h2, h3⟩
    · exact ⟨i, by omega, rfl, Or.inl hg⟩
  · rintro ⟨j, h1, h2, h3⟩
    rcases Nat.lt_or_ge j i with q | q
    · exact Or.inl ⟨j, q, h2, h3⟩
    · have : j = i := by omega
      subst this; exact Or.inr h2.symm
theorem sInv.addW {b : Bk} {f : Nat → Nat} {s i W A : Nat} (hf : SR b f b.n) (hi : i < b.n) (h : sInv b f s i W A) : sInv b f s (i + 1) (W ||| 2 ^ f i) (A ||| 2 ^ f i) := by
  intro v
  rw [fb_bit_set, fb_bit_set, Bool.or_eq_true, Bool.or_eq_true, decide_eq_true_eq, h v]
  constructor
  · rintro (⟨j, h1, h2, h3⟩ | rfl)
    · refine ⟨j, by omega, h2, ?_⟩
      rcases h3 with h3 | h3
      · exact Or.inl h3
      · exact Or.inr (Or.inl h3)
    · exact ⟨i, by omega, rfl, Or.inr (Or.inr rfl)⟩
  · rintro ⟨j, h1, h2, h3⟩
    rcases Nat.lt_or_ge j i with q | q
    · refine Or.inl ⟨j, q, h2, ?_⟩
      rcases h3 with h3 | h3 | h3
      · exact Or.inl h3
      · exact Or.inr h3
      · have := hf.inj (by omega) hi (h2.trans h3)
        omega
    · have : j = i := by omega
      subst this; exact Or.inr h2.symm
theorem sInv.skip {b : Bk} {f : Nat → Nat} {s i W A : Nat} (h : sInv b f s i W A) (hg : bk_given b s (f i) = false) (hw : W.testBit (f i) = false) : sInv b f s (i + 1) W A := by
  intro v
  rw [h v]
  constructor
  · rintro ⟨j, h1, h2, h3⟩
    exact ⟨j, by omega, h2, h3⟩
  · rintro ⟨j, h1, h2, h3⟩
    rcases Nat.lt_or_ge j i with q | q
    · exact ⟨j, q, h2, h3⟩
    · have : j = i := by omega
      subst this; subst h2
      rw [hg, hw] at h3
      rcases h3 with h3 | h3 <;> cases h3
theorem sInv.done {b : Bk} {f : Nat → Nat} {s W A : Nat} (hf : SR b f b.n) (h : sInv b f s b.n W A) : tmS b A = bk_gives b s W := by
  unfold tmS bk_gives
  apply sm_cong
  intro v hv
  obtain ⟨j, hj, e⟩ := hf.onto hv
  by_cases c : (W.testBit v || bk_given b s v) = true
  · rw [if_pos c, if_pos]
    refine (h v).mpr ⟨j, hj, e, ?_⟩
    rw [Bool.or_eq_true] at c
    exact c.symm
  · rw [if_neg c, if_neg]
    intro q
    obtain ⟨_, _, _, h3⟩ := (h v).mp q
    apply c
    rw [Bool.or_eq_true]
    exact h3.symm
section CLA6
variable {l : Launch} {g : Geo} {S : Mem} {b : Bk} {K : Int32 → Mem → Prop}
theorem c_X9_bestWholes {s w : Nat} (hb : BOk b) (hX : XB S 4 b) (hU : XU S b) (hs : s < 1024) (hw : w ≤ b.n) (hk : K (nI (wfor b s w)) S) : MWi l g shX m_X9_bestWholes [.ref (g.ad 27), .int (nI s), .int (nI w)] S K := by
  have hn := hb.1
  obtain ⟨f, hf, hS⟩ := hU.2.2.2.2.1
  refine MWi.intro _ rfl (Nat.le_of_ble_eq_true rfl) rfl (fun x ok => s_X9_bestWholes_0 ok _ _ S ?_)
  refine lpU (fun i => ∀ W left, wInv b f s w i W left → PW l x g shX m_X9_bestWholes (Qi x g shX K) 8 [(0, .ref (g.ad 27)), (1, .int (nI s)), (3, .int (nI W)), (4, .int (nI left)), (5, .int (nI i))] [] S) b.n ?_ (fun i hi ih => ?_) 0 (Nat.zero_le _) 0 w wInv.zero
  · intro W left h
    refine s_X9_bestWholes_8 ok _ _ _ _ S ⟨fun _ => ?_, fun c => absurd ?_ c⟩
    · rw [← h.done hf (Or.inr rfl)]; exact hk
    · simp (disch := omega) only [hX.1, nI_leI, Nat.le_refl]
  · intro W left h
    have hl := h.1
    have hv := hf.1 i hi
    refine s_X9_bestWholes_8 ok _ _ _ _ S ⟨fun c => absurd c ?_, fun _ => ?_⟩
    · simp (disch := omega) only [hX.1, nI_leI]; omega
    simp (disch := omega) only [nI_le0, cl, nI_clamp, hS i hi]
    refine ⟨fun y => ?_, fun y => ⟨inI (by omega) (by decide), c_X8_isGiven hb hX hU hv hs ?_⟩⟩
    · rw [← h.done hf (Or.inl y)]; exact hk
    cases left with
    | zero => omega
    | succ left =>
      rw [bI0, nI_add, jshl_1 (by omega), fa_or, pk_m1]
      refine ⟨fun z => ?_, fun z => ih _ _ (h.add hf hi z)⟩
      rw [Bool.not_eq_false] at z
      exact ih _ _ (h.skip (Or.inl z))
theorem c_X9_worthWith {s w : Nat} (hb : BOk b) (hX : XB S 4 b) (hU : XU S b) (hs : s < 1024) (hw : w ≤ b.n) (hk : K (nI (bk_gives b s (wfor b s w))) S) : MWi l g shX m_X9_worthWith [.ref (g.ad 27), .int (nI s), .int (nI w)] S K := by
  have hn := hb.1
  obtain ⟨f, hf, hS⟩ := hU.2.2.2.2.1
  refine MWi.intro _ rfl (Nat.le_of_ble_eq_true rfl) rfl (fun x ok => s_X9_worthWith_0 ok _ _ S ?_)
  have e0 : tmS b 0 = 0 := by
    have h : tmS b 0 = fb_sm (fun _ => 0) b.n := sm_cong (fun w _ => by rw [Nat.zero_testBit]; rfl)
    have h2 : ∀ n, fb_sm (fun _ => 0) n = 0 := fun n => by
      induction n with
      | zero => rfl
      | succ n ih => rw [fb_sm_succ, ih]
    rw [h, h2]
  have main : ∀ i, i ≤ b.n → ∀ W left A, wInv b f s w i W left → sInv b f s i W A → PW l x g shX m_X9_worthWith (Qi x g shX K) 8 [(0, .ref (g.ad 27)), (1, .int (nI s)), (3, .int (nI (tmS b A))), (4, .int (nI left)), (5, .int (nI i))] [] S := by
    refine lpU (fun i => ∀ W left A, wInv b f s w i W left → sInv b f s i W A → PW l x g shX m_X9_worthWith (Qi x g shX K) 8 [(0, .ref (g.ad 27)), (1, .int (nI s)), (3, .int (nI (tmS b A))), (4, .int (nI left)), (5, .int (nI i))] [] S) b.n ?_ (fun i hi ih => ?_)
    · intro W left A h hA
      refine s_X9_worthWith_8 ok _ _ _ _ S ⟨fun _ => ?_, fun c => absurd ?_ c⟩
      · rw [h.done hf (Or.inr rfl), ← hA.done hf] at hk; exact hk
      · simp (disch := omega) only [hX.1, nI_leI, Nat.le_refl]
    · intro W left A h hA
      have hl := h.1
      have hv := hf.1 i hi
      have e6 : S 6 (f i) = nI (b.of (f i)) := (hX.2 _ hv).2.1
      refine s_X9_worthWith_8 ok _ _ _ _ S ⟨fun c => absurd c ?_, fun _ => ⟨inI (by omega) (by decide), ?_⟩⟩
      · simp (disch := omega) only [hX.1, nI_leI]; omega
      simp (disch := omega) only [cl, nI_clamp, hS i hi]
      refine c_X8_isGiven hb hX hU hv hs ?_
      have hnew := hA.new hf hi
      rw [bI0, nI_le0 (by omega), e6, nI_add, nI_add, ← tmS_or hv hnew]
      refine ⟨fun z => ⟨fun y => ?_, fun y => ⟨inI (by omega) (by decide), ?_⟩⟩, fun z => ⟨inI (by omega) (by decide), ?_⟩⟩
      · exact ih _ _ _ (h.skip (Or.inr y)) (hA.skip z (h.new hf hi))
      · cases left with
        | zero => omega
        | succ left =>
          rw [pk_m1]
          exact ih _ _ _ (h.add hf hi z) (hA.addW hf hi)
      · rw [Bool.not_eq_false] at z
        exact ih _ _ _ (h.skip (Or.inl z)) (hA.addG z)
  have z := main 0 (Nat.zero_le _) 0 w 0 wInv.zero (fun v => by
    rw [Nat.zero_testBit]
    exact ⟨fun h => (by cases h), fun ⟨j, h, _⟩ => by omega⟩)
  rw [e0] at z
  exact z
theorem c_X9_bestSigns {k w : Nat} (hb : BOk b) (hX : XB S 4 b) (hU : XU S b) (hk10 : k ≤ 10) (hw : w ≤ b.n) {t : Nat} (ht : mostO b k w 1024 = some t) (hk : K (nI t) S) : MWi l g shX m_X9_bestSigns [.ref (g.ad 27), .int (nI k), .int (nI w)] S K := by
  have hn := hb.1
  refine MWi.intro _ rfl (Nat.le_of_ble_eq_true rfl) rfl (fun x ok => s_X9_bestSigns_0 ok _ _ S ?_)
  refine lpU (fun i => PW l x g shX m_X9_bestSigns (Qi x g shX K) 8 [(0, .ref (g.ad 27)), (1, .int (nI k)), (2, .int (nI w)), (3, .int (match mostO b k w i with | none => -1 | some t => nI (bk_gives b t (wfor b t w)))), (4, .int (match mostO b k w i with | none => nI 0 | some t => nI t)), (5, .int (nI i))] [] S) 1024 ?_ (fun i hi ih => ?_) 0 (Nat.zero_le _)
  · rw [ht]
    exact s_X9_bestSigns_8 ok _ _ _ _ _ S ⟨fun _ => hk, fun c => absurd (nI_le (Nat.le_refl 1024) (by decide)) c⟩
  · refine s_X9_bestSigns_8 ok _ _ _ _ _ S ⟨fun c => absurd c (nI_ge hi (by decide)), fun _ => c_bitCount (by omega) ?_⟩
    have hpl := pc_le i
    simp (disch := omega) only [nI_eq, nI_add]
    refine ⟨fun y => ?_, fun y => c_X9_worthWith hb hX hU hi hw ?_⟩
    · have e : mostO b k w (i + 1) = mostO b k w i := am_no (by simpa using y)
      rw [e] at ih; exact ih
    · have hp : (fun set => decide (pc set = k)) i = true := by simpa using y
      have hg := gives_le hb i (wfor b i w)
      cases hm : mostO b k w i with
      | none =>
        have e : mostO b k w (i + 1) = some i := am_one hp hm
        rw [e] at ih
        refine ⟨fun c => absurd c ?_, fun _ => ih⟩
        rw [fa_le, nI_toInt (by omega)]
        have : (-1 : Int32).toInt = -1 := by decide
        dsimp only
        omega
      | some j =>
        have hgj := gives_le hb j (wfor b j w)
        dsimp only
        simp (disch := omega) only [nI_leI]
        refine ⟨fun c => ?_, fun c => ?_⟩
        · have e : mostO b k w (i + 1) = some j := am_less hm c
          rw [e] at ih; exact ih
        · have e : mostO b k w (i + 1) = some i := am_more hp hm (by omega)
          rw [e] at ih; exact ih
end CLA6
