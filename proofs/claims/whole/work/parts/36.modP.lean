/-! PART 36: the model's calls -/
theorem z1 {A B : Prop} (a : A) : (¬ nI 1 = 0 → A) ∧ (nI 1 = 0 → B) := ⟨fun _ => a, fun c => absurd c (by decide)⟩
theorem z0 {A B : Prop} (b : B) : (¬ nI 0 = 0 → A) ∧ (nI 0 = 0 → B) := ⟨fun c => absurd (by decide) c, fun _ => b⟩
theorem y1 {A B : Prop} (b : B) : (nI 1 = 0 → A) ∧ (¬ nI 1 = 0 → B) := ⟨fun c => absurd c (by decide), fun _ => b⟩
theorem y0 {A B : Prop} (a : A) : (nI 0 = 0 → A) ∧ (¬ nI 0 = 0 → B) := ⟨fun _ => a, fun c => absurd (by decide) c⟩
def MSt (S : Mem) (c : Co) : Prop := MB S c.1 ∧ MH S c.2.1 ∧ MA S c.2.2
def MRep (S : Mem) (s : Sg) : Prop := MSt S s.1 ∧ S 0 6 = nI s.pn ∧ (∀ i, i < s.pn → S 5 i = nI (s.pd i)) ∧ ∀ n, n < 2 → match s.im n with
  | none => S 22 n = 0
  | some c => S 22 n = nI 1 ∧ MSt (kv S n) c
theorem MSt.of {S S2 : Mem} {c : Co} (h : MSt S c) (hc : CoOk c) (e : ∀ a j, sem a j → S2 a j = S a j) : MSt S2 c := by
  obtain ⟨h1, h2, h3⟩ := h
  obtain ⟨o1, o2, o3⟩ := hc
  have hn := o1.1
  refine ⟨⟨?_, fun w hw => ?_⟩, fun d hd => ?_, ?_, fun k hk => ?_⟩
  · rw [e 0 4 (Or.inl ⟨rfl, Or.inl rfl⟩)]; exact h1.1
  · obtain ⟨q1, q2, q3, q4, q5⟩ := o1.2 w hw
    obtain ⟨a1, a2, a3⟩ := h1.2 w hw
    rw [e 3 w (Or.inr (Or.inr (Or.inl ⟨Or.inl rfl, by omega⟩))), e 4 w (Or.inr (Or.inr (Or.inl ⟨Or.inr rfl, by omega⟩)))]
    refine ⟨a1, a2, fun i hi => ?_⟩
    rw [e 1 (5 * w + i) (Or.inr (Or.inl ⟨Or.inl rfl, by omega⟩)), e 2 (5 * w + i) (Or.inr (Or.inl ⟨Or.inr rfl, by omega⟩))]
    exact a3 i hi
  · rw [e 9 d (Or.inr (Or.inr (Or.inr (Or.inl ⟨Or.inl rfl, hd⟩)))), e 10 d (Or.inr (Or.inr (Or.inr (Or.inl ⟨Or.inr (Or.inl rfl), hd⟩)))), e 11 d (Or.inr (Or.inr (Or.inr (Or.inl ⟨Or.inr (Or.inr rfl), hd⟩))))]
    exact h2 d hd
  · rw [e 0 22 (Or.inl ⟨rfl, Or.inr rfl⟩)]; exact h3.1
  · have := o3.1
    rw [e 16 k (Or.inr (Or.inr (Or.inr (Or.inr ⟨Or.inl rfl, by omega⟩)))), e 17 k (Or.inr (Or.inr (Or.inr (Or.inr ⟨Or.inr rfl, by omega⟩))))]
    exact h3.2 k hk
def pub (a j : Nat) : Prop := sem a j ∨ a = 5 ∨ a = 21 ∨ a = 22 ∨ (a = 0 ∧ j = 6)
theorem pub_ne {a j : Nat} (h : pub a j) : a ≠ 6 ∧ a ≠ 7 ∧ a ≠ 8 ∧ a ≠ 12 ∧ a ≠ 13 ∧ a ≠ 14 ∧ a ≠ 15 ∧ a ≠ 18 ∧ a ≠ 19 ∧ a ≠ 20 ∧ (a = 0 → j = 4 ∨ j = 22 ∨ j = 6) := by
  unfold pub sem at h
  omega
theorem MRep.of {S S2 : Mem} {s : Sg} (h : MRep S s) (hs : SgOk s) (e : ∀ a j, pub a j → S2 a j = S a j) : MRep S2 s := by
  obtain ⟨h1, h2, h3, h4⟩ := h
  refine ⟨h1.of hs.1 (fun a j q => e a j (Or.inl q)), by rw [e 0 6 (Or.inr (Or.inr (Or.inr (Or.inr ⟨rfl, rfl⟩))))]; exact h2, fun i hi => by rw [e 5 i (Or.inr (Or.inl rfl))]; exact h3 i hi, fun n hn => ?_⟩
  have h5 := h4 n hn
  have ho := hs.2.2.2 n hn
  cases hm : s.im n with
  | none =>
    rw [hm] at h5
    show S2 22 n = 0
    rw [e 22 n (Or.inr (Or.inr (Or.inr (Or.inl rfl))))]; exact h5
  | some c =>
    rw [hm] at h5
    refine ⟨by rw [e 22 n (Or.inr (Or.inr (Or.inr (Or.inl rfl))))]; exact h5.1, h5.2.of (ho c hm) (fun a j _ => ?_)⟩
    exact e 21 _ (Or.inr (Or.inr (Or.inl rfl)))
section MODP
variable {l : Launch} {g : Geo} {S : Mem} {s : Sg} {K : Int32 → Mem → Prop} {v v1 v2 v3 : Int32}
theorem pm_say (hs : SgOk s) (hR : MRep S s) (hk : ∀ S2, MRep S2 (st_say s v) → K (sp_say s v) S2) : MWi l g shM m_X12_say [.ref (g.ad 0), .int v] S K := by
  obtain ⟨h1, h2, h3, h4⟩ := hR
  have hp := hs.2.1
  unfold sp_say st_say at hk
  refine MWi.intro _ rfl (Nat.le_of_ble_eq_true rfl) rfl (fun x ok => s_X12_say_0 ok _ S (c_X12_inN (by decide) (fun j q1 q2 e => z1 ?_) (fun h => z0 ?_)))
  · subst e
    rw [rg_nI q1 q2 (by omega)] at hk
    simp (disch := omega) only [h2, nI_eq, cl, nI_clamp, st2_off, st2_get, if_true, nI_add]
    refine ⟨fun y => ⟨inI (by omega) (by decide), ?_⟩, fun y => ?_⟩
    · dsimp only at hk
      rw [if_neg y, if_neg y] at hk
      refine hk _ ⟨h1.of hs.1 (fun a j q => ?_), ?_, fun i hi => ?_, fun n hn => ?_⟩
      · have : a ≠ 5 ∧ ¬ (a = 0 ∧ j = 6) := by unfold sem at q; omega
        rw [st2_eq, if_neg this.2, st2_off this.1]
      · rw [st2_get, if_pos rfl]
      · rw [st2_off (by decide), st2_get]
        show (if i = s.pn then nI j else S 5 i) = nI (upN s.pd s.pn j i)
        unfold upN
        split
        · rfl
        · exact h3 i (by show i < s.pn; have hi : i < s.pn + 1 := hi; omega)
      · have h5 := h4 n hn
        show match s.im n with
          | none => _
          | some c => _
        cases hm : s.im n with
        | none =>
          rw [hm] at h5
          show st2 (st2 S 5 s.pn (nI j)) 0 6 (nI (s.pn + 1)) 22 n = 0
          rw [st2_off (by decide), st2_off (by decide)]; exact h5
        | some c =>
          rw [hm] at h5
          refine ⟨by rw [st2_off (by decide), st2_off (by decide)]; exact h5.1, h5.2.of (hs.2.2.2 n hn c hm) (fun a j _ => ?_)⟩
          unfold kv
          rw [st2_off (by decide), st2_off (by decide)]
    · dsimp only at hk
      rw [if_pos y, if_pos y] at hk
      exact hk S ⟨h1, h2, h3, h4⟩
  · rw [rg_no h] at hk
    exact hk S ⟨h1, h2, h3, h4⟩
/-- a change of one number of the pad's or the core's: the images stay -/
theorem im_of {S S2 : Mem} {s : Sg} (hs : SgOk s) (h4 : ∀ n, n < 2 → match s.im n with
  | none => S 22 n = 0
  | some c => S 22 n = nI 1 ∧ MSt (kv S n) c) (e : S2 21 = S 21) (e2 : S2 22 = S 22) : ∀ n, n < 2 → match s.im n with
  | none => S2 22 n = 0
  | some c => S2 22 n = nI 1 ∧ MSt (kv S2 n) c := by
  intro n hn
  have h5 := h4 n hn
  cases hm : s.im n with
  | none => rw [hm] at h5; show S2 22 n = 0; rw [e2]; exact h5
  | some c =>
    rw [hm] at h5
    refine ⟨by rw [e2]; exact h5.1, h5.2.of (hs.2.2.2 n hn c hm) (fun a j _ => ?_)⟩
    unfold kv
    rw [e]
theorem pm_wipe (hs : SgOk s) (hR : MRep S s) (hk : ∀ S2, MRep S2 (st_wipe s) → K (nI s.pn) S2) : MWi l g shM m_X12_wipe [.ref (g.ad 0)] S K := by
  obtain ⟨h1, h2, h3, h4⟩ := hR
  refine MWi.intro _ rfl (Nat.le_of_ble_eq_true rfl) rfl (fun x ok => s_X12_wipe_0 ok S ?_)
  rw [h2]
  refine hk _ ⟨h1.of hs.1 (fun a j q => ?_), ?_, fun i hi => ?_, im_of (s := s) hs h4 (st2_off (by decide)) (st2_off (by decide))⟩
  · have : ¬ (a = 0 ∧ j = 6) := by unfold sem at q; omega
    rw [st2_eq, if_neg this]
  · rw [st2_get, if_pos rfl]; rfl
  · have hi : i < 0 := hi
    omega
theorem scS_1 {c l d : Nat} {bh : Bool} (hb : bh = false) (h : (97 ≤ c ∧ c ≤ 106) ∧ l < 5) : scS c l d bh = some (l + 1, d, bh) := by
  unfold scS; rw [hb, if_pos (by simp [h])]
theorem scS_2 {c l d : Nat} {bh : Bool} (hb : bh = false) (h1 : ¬ ((97 ≤ c ∧ c ≤ 106) ∧ l < 5)) (h : c = 61 ∧ 0 < l) : scS c l d bh = some (l, d, true) := by
  unfold scS; rw [hb, if_neg (by simpa using h1), if_pos (by simp [h])]
theorem scS_2n {c l d : Nat} {bh : Bool} (hb : bh = false) (h1 : ¬ ((97 ≤ c ∧ c ≤ 106) ∧ l < 5)) (h : ¬ (c = 61 ∧ 0 < l)) : scS c l d bh = none := by
  unfold scS; rw [hb, if_neg (by simpa using h1), if_neg (by simpa using h), if_neg (by simp)]
theorem scS_3 {c l d : Nat} {bh : Bool} (hb : bh = true) (h : (48 ≤ c ∧ c ≤ 57) ∧ d < l) : scS c l d bh = some (l, d + 1, bh) := by
  unfold scS; rw [hb, if_neg (by simp), if_neg (by simp), if_pos (by simp [h])]
theorem scS_3n {c l d : Nat} {bh : Bool} (hb : bh = true) (h : ¬ ((48 ≤ c ∧ c ≤ 57) ∧ d < l)) : scS c l d bh = none := by
  unfold scS; rw [hb, if_neg (by simp), if_neg (by simp), if_neg (by simpa using h)]
/-- the fault, and how many letters stand on the pad behind it -/
theorem c_X12_fault {K : Int32 → Mem → Prop} {pn : Nat} {pd : Nat → Nat} (hp : pn ≤ 14) (h2 : S 0 6 = nI pn) (h3 : ∀ i, i < pn → S 5 i = nI (pd i)) (hpd : ∀ i, i < pn → 33 ≤ pd i ∧ pd i ≤ 126) (hk : ∀ S2, (∀ a j, ¬ (a = 0 ∧ j = 7) → S2 a j = S a j) → (flt pn pd = none → S2 0 7 = nI (pn / 2)) → K (oI (flt pn pd)) S2) : MWi l g shM m_X12_fault [.ref (g.ad 0)] S K := by
  refine MWi.intro _ rfl (Nat.le_of_ble_eq_true rfl) rfl (fun x ok => s_X12_fault_0 ok S ?_)
  have L : ∀ i, i ≤ pn → ∀ li d bh, sc pd i = some (li, d, bh) → (∀ j, j < i → (sc pd (j + 1)).isNone = false) → ∀ S2, (∀ a j, ¬ (a = 0 ∧ j = 7) → S2 a j = S a j) → S2 0 7 = nI li → PW l x g shM m_X12_fault (Qi x g shM K) 11 [(0, .ref (g.ad 0)), (1, .int (nI d)), (2, .int (nI bh.toNat)), (3, .int (nI i))] [] S2 := by
    refine lpU (fun i => ∀ li d bh, sc pd i = some (li, d, bh) → (∀ j, j < i → (sc pd (j + 1)).isNone = false) → ∀ S2, (∀ a j, ¬ (a = 0 ∧ j = 7) → S2 a j = S a j) → S2 0 7 = nI li → PW l x g shM m_X12_fault (Qi x g shM K) 11 [(0, .ref (g.ad 0)), (1, .int (nI d)), (2, .int (nI bh.toNat)), (3, .int (nI i))] [] S2) pn ?_ (fun i hi ih => ?_)
    · intro li d bh hsc hno S2 g1 g2
      obtain ⟨q1, q2, q3, q4, q5⟩ := sc_ok hsc
      have e2 : S2 0 6 = nI pn := by rw [g1 0 6 (by omega)]; exact h2
      have hf : fm (fun i => (sc pd (i + 1)).isNone) pn = none := fm_none.mpr hno
      have hk := hk S2 g1
      unfold flt at hk
      rw [hf] at hk
      dsimp only at hk
      rw [hsc] at hk
      dsimp only at hk
      refine s_X12_fault_11 ok _ _ _ S2 ⟨fun _ => ?_, fun c => absurd ?_ c⟩
      · simp (disch := omega) only [e2, g2, bI0, nI_eq]
        refine ⟨fun y => ?_, fun y => ⟨fun z => ?_, fun z => ?_⟩⟩
        · rw [if_neg (by rw [y]; simp)] at hk
          exact hk (fun h => by cases h)
        · rw [if_neg (by rw [decide_eq_false z]; simp)] at hk
          exact hk (fun h => by cases h)
        · rw [Bool.not_eq_false] at y
          rw [if_pos (by rw [y, decide_eq_true z]; rfl)] at hk
          exact hk (fun _ => by rw [g2]; congr 1; have := q5 y; omega)
      · simp (disch := omega) only [e2, nI_leI, Nat.le_refl]
    · intro li d bh hsc hno S2 g1 g2
      obtain ⟨q1, q2, q3, q4, q5⟩ := sc_ok hsc
      obtain ⟨c1, c2⟩ := hpd i hi
      have e2 : S2 0 6 = nI pn := by rw [g1 0 6 (by omega)]; exact h2
      have e5 : S2 5 i = nI (pd i) := by rw [g1 5 i (by omega)]; exact h3 i hi
      have hsuc : sc pd (i + 1) = scS (pd i) li d bh := by rw [sc, hsc]
      -- the fault is here
      have bad : scS (pd i) li d bh = none → ∀ S3 : Mem, (∀ a j, ¬ (a = 0 ∧ j = 7) → S3 a j = S a j) → K (nI i) S3 := by
        intro hb S3 k1
        have hf : fm (fun i => (sc pd (i + 1)).isNone) pn = some i := fm_some.mpr ⟨hi, by simp [hsuc, hb], hno⟩
        have e : flt pn pd = some i := by unfold flt; rw [hf]
        have hk := hk S3 k1 (fun h => by rw [e] at h; cases h)
        rw [e] at hk
        exact hk
      have good : ∀ li2 d2 bh2, scS (pd i) li d bh = some (li2, d2, bh2) → ∀ S3 : Mem, (∀ a j, ¬ (a = 0 ∧ j = 7) → S3 a j = S a j) → S3 0 7 = nI li2 → PW l x g shM m_X12_fault (Qi x g shM K) 11 [(0, .ref (g.ad 0)), (1, .int (nI d2)), (2, .int (nI bh2.toNat)), (3, .int (nI (i + 1)))] [] S3 := by
        intro li2 d2 bh2 hg S3 k1 k2
        refine ih li2 d2 bh2 (by rw [hsuc, hg]) (fun j hj => ?_) S3 k1 k2
        rcases Nat.lt_or_ge j i with r | r
        · exact hno j r
        · have : j = i := by omega
          subst this
          rw [hsuc, hg]; rfl
      -- the third way
      have W3 : bh = true → PW l x g shM m_X12_fault (Qi x g shM K) 90 [(0, .ref (g.ad 0)), (1, .int (nI d)), (2, .int (nI bh.toNat)), (3, .int (nI i)), (4, .int (nI (pd i)))] [] S2 := by
        intro hbh
        refine s_X12_fault_90 ok _ _ _ _ S2 ?_
        rw [bI0]
        refine ⟨fun y => absurd y (by rw [hbh]; decide), fun _ => c_X12_inN (by decide) (fun j p1 p2 e => y1 ?_) (fun h => y0 (bad ?_ S2 g1))⟩
        · rw [nI_eq (by omega) (by omega)] at e
          rw [g2, nI_leI (by omega) (by omega), nI_add, nI_add]
          refine ⟨fun z => bad ?_ S2 g1, fun z => good li (d + 1) bh ?_ S2 g1 g2⟩
          · exact scS_3n hbh (by omega)
          · exact scS_3 hbh (by omega)
        · exact scS_3n hbh (fun q => h (pd i) q.1.1 q.1.2 rfl)
      have W2 : bh = false → ¬ ((97 ≤ pd i ∧ pd i ≤ 106) ∧ li < 5) → PW l x g shM m_X12_fault (Qi x g shM K) 67 [(0, .ref (g.ad 0)), (1, .int (nI d)), (2, .int (nI bh.toNat)), (3, .int (nI i)), (4, .int (nI (pd i)))] [] S2 := by
        intro hbh hno1
        refine s_X12_fault_67 ok _ _ _ _ S2 ?_
        simp (disch := omega) only [bI0, nI_eq, g2, nI_le0, nI_add]
        have B : scS (pd i) li d bh = none → PW l x g shM m_X12_fault (Qi x g shM K) 90 [(0, .ref (g.ad 0)), (1, .int (nI d)), (2, .int (nI bh.toNat)), (3, .int (nI i)), (4, .int (nI (pd i)))] [] S2 := fun hb => s_X12_fault_90 ok _ _ _ _ S2 (by
          rw [bI0]
          exact ⟨fun _ => bad hb S2 g1, fun y => absurd hbh y⟩)
        refine ⟨fun y => absurd hbh y, fun _ => ⟨fun z => B ?_, fun z => ⟨fun r => B ?_, fun r => good li d true ?_ S2 g1 g2⟩⟩⟩
        · exact scS_2n hbh hno1 (by omega)
        · exact scS_2n hbh hno1 (by omega)
        · exact scS_2 hbh hno1 (by omega)
      refine s_X12_fault_11 ok _ _ _ S2 ⟨fun c => absurd c ?_, fun _ => ?_⟩
      · simp (disch := omega) only [e2, nI_leI]; omega
      simp (disch := omega) only [bI0, cl, nI_clamp, e5]
      refine ⟨inI (by omega) (by decide), fun y => ?_, fun y => c_X12_inN (by decide) (fun j p1 p2 e => y1 ?_) (fun h => y0 (W2 y ?_))⟩
      · rw [Bool.not_eq_false] at y
        refine s_X12_fault_67 ok _ _ _ _ S2 ?_
        rw [bI0]
        exact ⟨fun _ => W3 y, fun z => absurd z (by rw [y]; decide)⟩
      · rw [nI_eq (by omega) (by omega)] at e
        rw [g2, nI_leI (by omega) (by omega), nI_add, nI_add]
        refine ⟨fun z => W2 y (by omega), fun z => good (li + 1) d bh ?_ _ (fun a j h => by rw [st2_eq, if_neg h]; exact g1 a j h) (by rw [st2_get, if_pos rfl])⟩
        exact scS_1 y (by omega)
      · intro q
        exact h (pd i) q.1.1 q.1.2 rfl
  exact L 0 (Nat.zero_le _) 0 0 false rfl (fun j hj => by omega) _ (fun a j h => by rw [st2_eq, if_neg h]) (by rw [st2_get, if_pos rfl])
theorem pm_fault (hs : SgOk s) (hR : MRep S s) (hk : ∀ S2, MRep S2 s → K (oI (flt s.pn s.pd)) S2) : MWi l g shM m_X12_fault [.ref (g.ad 0)] S K :=
  c_X12_fault hs.2.1 hR.2.1 hR.2.2.1 hs.2.2.1 (fun S2 g1 _ => hk S2 (hR.of hs (fun a j h => g1 a j (fun q => by have := (pub_ne h).2.2.2.2.2.2.2.2.2.2 q.1; omega))))
end MODP
