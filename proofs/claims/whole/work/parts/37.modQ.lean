/-! PART 37: the model's calls, on -/
section MODQ
variable {l : Launch} {g : Geo} {S : Mem} {s : Sg} {K : Int32 → Mem → Prop} {v v1 v2 v3 : Int32}
theorem fC {S S2 : Mem} {s : Sg} (hs : SgOk s) (hR : MRep S s) (o : ∀ a, a < 6 ∨ 8 < a → S2 a = S a) : MRep S2 s := hR.of hs (fun a j h => by rw [o a (by have := pub_ne h; omega)])
theorem fCr {S S2 S3 : Mem} {s : Sg} (hs : SgOk s) (hR : MRep S s) (o : ∀ a, a < 6 ∨ 8 < a → S2 a = S a) (R : Mr S2 S3) : MRep S3 s := (fC hs hR o).of hs (fun a j h => by
  by_cases ha : a = 0
  · subst ha
    have := (pub_ne h).2.2.2.2.2.2.2.2.2.2 rfl
    exact R.2 j (by omega) (by omega)
  · rw [R.1 a ha])
theorem fCi {S S2 S3 : Mem} {s : Sg} (hs : SgOk s) (hR : MRep S s) (o : ∀ a, a < 6 ∨ 8 < a → S2 a = S a) (R : Mi S2 S3) : MRep S3 s := (fC hs hR o).of hs (fun a j h => by
  by_cases ha : a = 0
  · subst ha
    have := (pub_ne h).2.2.2.2.2.2.2.2.2.2 rfl
    exact R.2 j (by omega) (by omega) (by omega)
  · rw [R.1 a ha])
theorem c_X12_isThere {b : Bk} {li : Nat} {pd : Nat → Nat} (hb : BOk b) (hM : MB S b) (hl : li ≤ 5) (h7 : S 0 7 = nI li) (h5 : ∀ i, i < li → S 5 i = nI (pd i)) (hpd : ∀ i, i < li → 97 ≤ pd i ∧ pd i ≤ 106) (hk : K (nI (thr b li pd).toNat) S) : MWi l g shM m_X12_isThere [.ref (g.ad 0)] S K := by
  have hn := hb.1
  refine MWi.intro _ rfl (Nat.le_of_ble_eq_true rfl) rfl (fun x ok => s_X12_isThere_0 ok S ?_)
  refine lpU (fun w => (∀ j, j < w → lets b li pd j = false) → PW l x g shM m_X12_isThere (Qi x g shM K) 2 [(0, .ref (g.ad 0)), (1, .int (nI w))] [] S) b.n ?_ (fun w hw ih => ?_) 0 (Nat.zero_le _) (fun j hj => by omega)
  · intro hno
    have e : thr b li pd = false := by unfold thr; rw [fm_none.mpr hno]; rfl
    rw [e] at hk
    refine s_X12_isThere_2 ok _ S ⟨fun _ => hk, fun c => absurd ?_ c⟩
    simp (disch := omega) only [hM.1, nI_leI, Nat.le_refl]
  · intro hno
    obtain ⟨q1, q2, q3, q4, q5⟩ := hb.2 w hw
    obtain ⟨e1, e2, e3⟩ := hM.2 w hw
    have yes : lets b li pd w = true → K (nI 1) S := fun h => by
      have e : thr b li pd = true := by unfold thr; rw [fm_some.mpr ⟨hw, h, hno⟩]; rfl
      rw [e] at hk; exact hk
    have no : lets b li pd w = false → PW l x g shM m_X12_isThere (Qi x g shM K) 2 [(0, .ref (g.ad 0)), (1, .int (nI (w + 1)))] [] S := fun h => ih (fun j hj => by
      rcases Nat.lt_or_ge j w with r | r
      · exact hno j r
      · have : j = w := by omega
        subst this; exact h)
    refine s_X12_isThere_2 ok _ S ⟨fun c => absurd c ?_, fun _ => ⟨inI (by omega) (by decide), ?_⟩⟩
    · simp (disch := omega) only [hM.1, nI_leI]; omega
    simp (disch := omega) only [cl, nI_clamp, e1, h7, nI_eq]
    have L : ∀ i, i ≤ li → PW l x g shM m_X12_isThere (Qi x g shM K) 31 [(0, .ref (g.ad 0)), (1, .int (nI w)), (2, .int (nI (decide (b.len w = li) && alB (fun i => decide (b.sg w i = pd i - 97)) i).toNat)), (3, .int (nI i))] [] S := by
      refine lpU (fun i => PW l x g shM m_X12_isThere (Qi x g shM K) 31 [(0, .ref (g.ad 0)), (1, .int (nI w)), (2, .int (nI (decide (b.len w = li) && alB (fun i => decide (b.sg w i = pd i - 97)) i).toNat)), (3, .int (nI i))] [] S) li ?_ (fun i hi ih2 => ?_)
      · refine s_X12_isThere_31 ok _ _ _ S ⟨fun _ => ?_, fun c => absurd ?_ c⟩
        · rw [bI0, nI_add]
          exact ⟨fun z => no z, fun z => yes (by rw [Bool.not_eq_false] at z; exact z)⟩
        · simp (disch := omega) only [h7, nI_leI, Nat.le_refl]
      · obtain ⟨p1, p2⟩ := hpd i hi
        refine s_X12_isThere_31 ok _ _ _ S ⟨fun c => absurd c ?_, fun _ => ?_⟩
        · simp (disch := omega) only [h7, nI_leI]; omega
        rw [bI0]
        refine ⟨fun z => ⟨fun _ => ?_, fun z2 => absurd z z2⟩, fun z => ?_⟩
        · rw [nI_add]
          refine no ?_
          unfold lets
          rw [Bool.and_eq_false_iff] at z ⊢
          rcases z with z | z
          · exact Or.inl z
          · exact Or.inr (alB_mono (by omega) z)
        · rw [Bool.not_eq_false, Bool.and_eq_true, decide_eq_true_eq] at z
          obtain ⟨r1, r2⟩ := q5 i (by omega)
          simp (disch := omega) only [pk_mul, nI_add, cl, nI_clamp, (e3 i (by omega)).1, h5 i hi, pk_sub, nI_eq]
          refine ⟨inI (by omega) (by decide), inI (by omega) (by decide), fun y => ?_, fun y => ?_⟩
          · rw [alB, decide_eq_false y] at ih2
            simpa using ih2
          · rw [alB, z.2, y, z.1] at ih2
            simpa using ih2
    have L := L 0 (Nat.zero_le _)
    refine ⟨fun q => ?_, fun q => ?_⟩
    · rw [decide_eq_false q] at L; exact L
    · rw [decide_eq_true q] at L; exact L
set_option maxHeartbeats 1000000 in
theorem pm_word (hs : SgOk s) (hR : MRep S s) (hk : ∀ S2, MRep S2 (st_word s v) → K (sp_word s v) S2) : MWi l g shM m_X12_word [.ref (g.ad 0), .int v] S K := by
  obtain ⟨hb, hh, ha⟩ : BOk s.b ∧ ChOk s.b s.h ∧ AnOk s.b s.a := hs.1
  have hn := hb.1
  unfold sp_word st_word at hk
  refine MWi.intro _ rfl (Nat.le_of_ble_eq_true rfl) rfl (fun x ok => s_X12_word_0 ok _ S (c_X12_isOften (fun f q1 q2 e => z1 ?_) (fun h => z0 ?_)))
  · subst e
    rw [rg_nI q1 q2 (by omega)] at hk
    dsimp only at hk
    refine c_X12_fault hs.2.1 hR.2.1 hR.2.2.1 hs.2.2.1 (fun S2 g1 g2 => ?_)
    have hR2 : MRep S2 s := hR.of hs (fun a j h => g1 a j (fun q => by have := (pub_ne h).2.2.2.2.2.2.2.2.2.2 q.1; omega))
    cases hf : flt s.pn s.pd with
    | some i =>
      rw [hf] at hk
      simp only [reduceCtorEq, if_false] at hk
      have hi : i < 2 ^ 31 := by
        have hp := hs.2.1
        unfold flt at hf
        cases hm : fm (fun i => (sc s.pd (i + 1)).isNone) s.pn with
        | some j => rw [hm] at hf; cases hf; have := (fm_some.mp hm).1; omega
        | none =>
          rw [hm] at hf
          dsimp only at hf
          cases hsc : sc s.pd s.pn with
          | none => rw [hsc] at hf; cases hf; omega
          | some q =>
            obtain ⟨a1, a2, a3⟩ := q
            rw [hsc] at hf
            dsimp only at hf
            split at hf
            · cases hf
            · cases hf; omega
      exact ⟨fun _ => hk S2 hR2, fun c => absurd (nI_pos' hi) c⟩
    | none =>
      obtain ⟨li, f1, f2, f3, f4, f5, f6⟩ := flt_none hf
      have e7 := g2 hf
      have hl2 : s.pn / 2 = li := by omega
      rw [hl2] at e7
      rw [hf] at hk
      simp only [if_true, hl2] at hk
      obtain ⟨⟨hM2, hH2, hA2⟩, p2, p3, p4⟩ := hR2
      have hM2 : MB S2 s.b := hM2
      have hH2 : MH S2 s.h := hH2
      have hA2 : MA S2 s.a := hA2
      refine ⟨fun c => absurd c (by decide), fun _ => c_X12_isThere (pd := s.pd) hb hM2 f3 e7 (fun i hi => p3 i (by omega)) f5 ?_⟩
      rw [bI0]
      refine ⟨fun y => ?_, fun y => ?_⟩
      · rw [y] at hk
        simp only [Bool.false_eq_true, if_false] at hk
        rw [hM2.1, nI_eq (by omega) (by omega)]
        refine ⟨fun z => ⟨inI (by omega) (by decide), ?_⟩, fun z => ?_⟩
        · rw [if_neg z, if_neg z] at hk
          simp (disch := omega) only [cl, nI_clamp, e7]
          -- the letters
          refine lpU (fun i => ∀ S3 : Mem, (∀ a, a ≠ 1 → a ≠ 2 → a ≠ 3 → S3 a = S2 a) → (∀ j, j ≠ s.b.n → S3 3 j = S2 3 j) → S3 3 s.b.n = nI li → (∀ q, (q < 5 * s.b.n ∨ 5 * s.b.n + i ≤ q) → S3 1 q = S2 1 q ∧ S3 2 q = S2 2 q) → (∀ j, j < i → S3 1 (5 * s.b.n + j) = nI (s.pd j - 97) ∧ S3 2 (5 * s.b.n + j) = nI (s.pd (li + 1 + j) - 48)) → PW l x g shM m_X12_word (Qi x g shM K) 54 [(0, .ref (g.ad 0)), (1, .int (nI f)), (2, .int (nI i))] [] S3) li ?_ (fun i hi ih => ?_) 0 (Nat.zero_le _) _ (fun a _ _ h3 => st2_off h3) (fun j hj => by rw [st2_get, if_neg hj]) (by rw [st2_get, if_pos rfl]) (fun q _ => ⟨by rw [st2_off (by decide)], by rw [st2_off (by decide)]⟩) (fun j hj => by omega)
          · intro S3 k1 k2 k3 k4 k5
            have e4 : S3 0 4 = nI s.b.n := by rw [k1 0 (by decide) (by decide) (by decide)]; exact hM2.1
            have e7 : S3 0 7 = nI li := by rw [k1 0 (by decide) (by decide) (by decide)]; exact e7
            refine s_X12_word_54 ok _ _ S3 ⟨fun _ => ?_, fun c => absurd ?_ c⟩
            · simp (disch := omega) only [e4, cl, nI_clamp, st2_off, nI_add]
              refine ⟨inI (by omega) (by decide), ?_⟩
              rw [st2_get, if_neg (by decide), st2_get, if_pos rfl, pk_sub (by omega), show s.b.n + 1 - 1 = s.b.n by omega]
              refine hk _ ⟨⟨⟨?_, fun w hw => ?_⟩, fun c hc => ?_, ?_, fun k hk => ?_⟩, ?_, fun i hi => by have hi : i < 0 := hi; omega, im_of (s := s) hs p4 ?_ ?_⟩
              · rw [st2_get, if_neg (by decide), st2_get, if_pos rfl]; rfl
              · have hw : w < s.b.n + 1 := hw
                simp (disch := decide) only [st2_off, st2_get]
                by_cases hwn : w = s.b.n
                · subst hwn
                  rw [k3, if_pos rfl]
                  refine ⟨by show nI li = nI (upN _ _ li _); unfold upN; rw [if_pos rfl], by show nI f = nI (upN _ _ f _); unfold upN; rw [if_pos rfl], fun i hi => ?_⟩
                  have hi : i < upN s.b.2.1 s.b.n li s.b.n := hi
                  unfold upN at hi
                  rw [if_pos rfl] at hi
                  obtain ⟨d1, d2⟩ := k5 i hi
                  rw [d1, d2]
                  refine ⟨?_, ?_⟩
                  · show _ = nI (if 5 * s.b.n ≤ 5 * s.b.n + i ∧ 5 * s.b.n + i < 5 * s.b.n + li then s.pd (5 * s.b.n + i - 5 * s.b.n) - 97 else _)
                    rw [if_pos (by omega), show 5 * s.b.n + i - 5 * s.b.n = i by omega]
                  · show _ = nI (if 5 * s.b.n ≤ 5 * s.b.n + i ∧ 5 * s.b.n + i < 5 * s.b.n + li then s.pd (li + 1 + (5 * s.b.n + i - 5 * s.b.n)) - 48 else _)
                    rw [if_pos (by omega), show 5 * s.b.n + i - 5 * s.b.n = i by omega]
                · obtain ⟨o1, o2, o3, o4, o5⟩ := hb.2 w (by omega)
                  obtain ⟨d1, d2, d3⟩ := hM2.2 w (by omega)
                  rw [k2 w hwn, if_neg hwn, k1 4 (by decide) (by decide) (by decide)]
                  refine ⟨by rw [d1]; show _ = nI (upN _ _ li _); unfold upN; rw [if_neg hwn], by rw [d2]; show _ = nI (upN _ _ f _); unfold upN; rw [if_neg hwn], fun i hi => ?_⟩
                  have hi : i < upN s.b.2.1 s.b.n li w := hi
                  unfold upN at hi
                  rw [if_neg hwn] at hi
                  have hi : i < s.b.len w := hi
                  obtain ⟨c1, c2⟩ := k4 (5 * w + i) (Or.inl (by omega))
                  rw [c1, c2, (d3 i hi).1, (d3 i hi).2]
                  refine ⟨?_, ?_⟩
                  · show _ = nI (if 5 * s.b.n ≤ 5 * w + i ∧ 5 * w + i < 5 * s.b.n + li then _ else _)
                    rw [if_neg (by omega)]
                  · show _ = nI (if 5 * s.b.n ≤ 5 * w + i ∧ 5 * w + i < 5 * s.b.n + li then _ else _)
                    rw [if_neg (by omega)]
              · rw [st2_off (by decide), st2_off (by decide), st2_off (by decide), st2_off (by decide), st2_off (by decide), st2_off (by decide), st2_off (by decide), st2_off (by decide), st2_off (by decide), k1 9 (by decide) (by decide) (by decide), k1 10 (by decide) (by decide) (by decide), k1 11 (by decide) (by decide) (by decide)]
                exact hH2 c hc
              · rw [st2_get, if_neg (by decide), st2_get, if_neg (by decide), st2_off (by decide), k1 0 (by decide) (by decide) (by decide)]
                exact hA2.1
              · rw [st2_off (by decide), st2_off (by decide), st2_off (by decide), st2_off (by decide), st2_off (by decide), st2_off (by decide), k1 16 (by decide) (by decide) (by decide), k1 17 (by decide) (by decide) (by decide)]
                exact hA2.2 k hk
              · rw [st2_get, if_pos rfl]
              · rw [st2_off (by decide), st2_off (by decide), st2_off (by decide), k1 21 (by decide) (by decide) (by decide)]
              · rw [st2_off (by decide), st2_off (by decide), st2_off (by decide), k1 22 (by decide) (by decide) (by decide)]
            · simp (disch := omega) only [e7, nI_leI, Nat.le_refl]
          · intro S3 k1 k2 k3 k4 k5
            have e4 : S3 0 4 = nI s.b.n := by rw [k1 0 (by decide) (by decide) (by decide)]; exact hM2.1
            have e7 : S3 0 7 = nI li := by rw [k1 0 (by decide) (by decide) (by decide)]; exact e7
            have e5 : ∀ i, i < s.pn → S3 5 i = nI (s.pd i) := fun i hi => by rw [k1 5 (by decide) (by decide) (by decide)]; exact p3 i hi
            have a1 := f5 i hi
            have a2 := f6 i hi
            refine s_X12_word_54 ok _ _ S3 ⟨fun c => absurd c ?_, fun _ => ?_⟩
            · simp (disch := omega) only [e7, nI_leI]; omega
            simp (disch := omega) only [e4, e7, st2_off, pk_mul, nI_add, cl, nI_clamp, e5 i (by omega), e5 (li + 1 + i) (by omega), pk_sub]
            refine ⟨inI (by omega) (by decide), inI (by omega) (by decide), inI (by omega) (by decide), inI (by omega) (by decide), ih _ (fun a h1 h2 h3 => by rw [st2_off h2, st2_off h1]; exact k1 a h1 h2 h3) (fun j hj => by rw [st2_off (by decide), st2_off (by decide)]; exact k2 j hj) (by rw [st2_off (by decide), st2_off (by decide)]; exact k3) (fun q hq => ?_) (fun j hj => ?_)⟩
            · obtain ⟨c1, c2⟩ := k4 q (by omega)
              exact ⟨by rw [st2_off (by decide), st2_get, if_neg (by omega)]; exact c1, by rw [st2_get, if_neg (by omega), st2_off (by decide)]; exact c2⟩
            · by_cases hji : j = i
              · subst hji
                exact ⟨by rw [st2_off (by decide), st2_get, if_pos rfl], by rw [st2_get, if_pos rfl]⟩
              · obtain ⟨c1, c2⟩ := k5 j (by omega)
                exact ⟨by rw [st2_off (by decide), st2_get, if_neg (by omega)]; exact c1, by rw [st2_get, if_neg (by omega), st2_off (by decide)]; exact c2⟩
        · rw [if_pos z, if_pos z] at hk
          exact hk S2 ⟨⟨hM2, hH2, hA2⟩, p2, p3, p4⟩
      · rw [Bool.not_eq_false] at y
        rw [y] at hk
        simp only [if_true] at hk
        exact hk S2 ⟨⟨hM2, hH2, hA2⟩, p2, p3, p4⟩
  · rw [rg_no h] at hk
    exact hk S hR
theorem pm_about (hs : SgOk s) (hR : MRep S s) (hk : ∀ S2, MRep S2 s → K (sp_about s v1 v2) S2) : MWi l g shM m_X12_about [.ref (g.ad 0), .int v1, .int v2] S K := by
  obtain ⟨hb, hh, ha⟩ : BOk s.b ∧ ChOk s.b s.h ∧ AnOk s.b s.a := hs.1
  have hn := hb.1
  have hM : MB S s.b := hR.1.1
  unfold sp_about at hk
  refine MWi.intro _ rfl (Nat.le_of_ble_eq_true rfl) rfl (fun x ok => s_X12_about_0 ok _ _ S (c_X12_isWord hb hM (fun w hw e => z1 ?_) (fun h => z0 ?_)))
  · subst e
    rw [ix_nI hw (by omega)] at hk
    dsimp only at hk
    obtain ⟨q1, q2, q3, q4, q5⟩ := hb.2 w hw
    obtain ⟨e1, e2, e3⟩ := hM.2 w hw
    refine c_X12_inN (by decide) (fun j p1 p2 e => y1 ?_) (fun h => y0 (c_X12_inN (by decide) (fun j p1 p2 e => y1 ?_) (fun h2 => y0 ?_)))
    · subst e
      rw [rg_nI p1 p2 (by omega)] at hk
      dsimp only at hk
      simp (disch := omega) only [cl, nI_clamp, e1, pk_sub, nI_leI, pk_mul, nI_add]
      refine ⟨inI (by omega) (by decide), fun y => ?_, fun y => ⟨inI (by omega) (by decide), ?_⟩⟩
      · rw [if_neg (by omega)] at hk; exact hk S hR
      · rw [if_pos (by omega)] at hk
        rw [show 5 * w + j - 10 = 5 * w + (j - 10) by omega, (e3 (j - 10) (by omega)).1]
        exact hk S hR
    · rw [rg_no h] at hk
      subst e
      rw [rg_nI p1 p2 (by omega)] at hk
      dsimp only at hk
      simp (disch := omega) only [cl, nI_clamp, e1, pk_sub, nI_leI, pk_mul, nI_add]
      refine ⟨inI (by omega) (by decide), fun y => ?_, fun y => ⟨inI (by omega) (by decide), ?_⟩⟩
      · rw [if_neg (by omega)] at hk; exact hk S hR
      · rw [if_pos (by omega)] at hk
        rw [show 5 * w + j - 20 = 5 * w + (j - 20) by omega, (e3 (j - 20) (by omega)).2]
        exact hk S hR
    · rw [rg_no h, rg_no h2] at hk
      dsimp only at hk
      simp (disch := omega) only [cl, nI_clamp, e1, e2]
      refine ⟨fun e => ?_, fun e => ?_, fun e => ?_, fun e => ?_, fun e => ?_⟩
      · subst e; rw [ix_nI (by decide) (by decide)] at hk
        exact ⟨inI (by omega) (by decide), hk S hR⟩
      · subst e; rw [ix_nI (by decide) (by decide)] at hk
        exact ⟨inI (by omega) (by decide), hk S hR⟩
      · subst e; rw [ix_nI (by decide) (by decide)] at hk
        exact c_X12_signsOf hb hM hw (hk S hR)
      · subst e; rw [ix_nI (by decide) (by decide)] at hk
        refine c_X12_findCommon hb hM (fun S2 o hC => c_X12_isRegular hb hC hw ?_)
        have hk := hk S2 (fC hs hR o)
        dsimp only at hk
        rw [if_neg (by decide), if_neg (by decide), if_neg (by decide)] at hk
        rw [bI0]
        refine ⟨fun y => ?_, fun y => ?_⟩
        · rw [y] at hk; exact hk
        · rw [Bool.not_eq_false] at y
          rw [y] at hk; exact hk
      · rw [ix_no (fun j hj e2 => by subst e2; rw [nI_toInt (by omega)] at e; omega)] at hk
        exact hk S hR
  · rw [ix_no h] at hk
    exact hk S hR
theorem pm_often (hs : SgOk s) (hR : MRep S s) (hk : ∀ S2, MRep S2 (st_often s v1 v2) → K (sp_often s v1 v2) S2) : MWi l g shM m_X12_often [.ref (g.ad 0), .int v1, .int v2] S K := by
  obtain ⟨hb, hh, ha⟩ : BOk s.b ∧ ChOk s.b s.h ∧ AnOk s.b s.a := hs.1
  have hn := hb.1
  obtain ⟨⟨hM, hH, hA⟩, p2, p3, p4⟩ := id hR
  have hM : MB S s.b := hM
  have hH : MH S s.h := hH
  have hA : MA S s.a := hA
  unfold sp_often st_often at hk
  refine MWi.intro _ rfl (Nat.le_of_ble_eq_true rfl) rfl (fun x ok => s_X12_often_0 ok _ _ S (c_X12_isWord hb hM (fun w hw e => z1 ?_) (fun h => z0 ?_)))
  · subst e
    rw [ix_nI hw (by omega)] at hk
    dsimp only at hk
    obtain ⟨e1, e2, e3⟩ := hM.2 w hw
    refine c_X12_isOften (fun f q1 q2 e => z1 ?_) (fun h => z0 ?_)
    · subst e
      rw [rg_nI q1 q2 (by omega)] at hk
      dsimp only at hk
      simp (disch := omega) only [cl, nI_clamp, e2]
      refine ⟨inI (by omega) (by decide), inI (by omega) (by decide), hk _ ⟨⟨⟨?_, fun u hu => ?_⟩, fun c hc => ?_, ?_, fun k hk => ?_⟩, ?_, fun i hi => ?_, im_of (s := s) hs p4 (st2_off (by decide)) (st2_off (by decide))⟩⟩
      · rw [st2_off (by decide)]; exact hM.1
      · obtain ⟨d1, d2, d3⟩ := hM.2 u hu
        rw [st2_off (by decide), st2_get, st2_off (by decide), st2_off (by decide)]
        refine ⟨d1, ?_, d3⟩
        show _ = nI (upN s.b.2.2.1 w f u)
        unfold upN
        split
        · rfl
        · exact d2
      · rw [st2_off (by decide), st2_off (by decide), st2_off (by decide)]; exact hH c hc
      · rw [st2_off (by decide)]; exact hA.1
      · rw [st2_off (by decide), st2_off (by decide)]; exact hA.2 k hk
      · rw [st2_off (by decide)]; exact p2
      · rw [st2_off (by decide)]; exact p3 i hi
    · rw [rg_no h] at hk
      exact hk S hR
  · rw [ix_no h] at hk
    exact hk S hR
theorem c_X12_allOf {b : Bk} {t : Nat} (hb : BOk b) (hC : MC S b) (ht : t < 10) (hk : K (nI (bk_all b t)) S) : MWi l g shM m_X12_allOf [.ref (g.ad 0), .int (nI t)] S K := by
  refine MWi.intro _ rfl (Nat.le_of_ble_eq_true rfl) rfl (fun x ok => s_X12_allOf_0 ok _ S ?_)
  refine lpU (fun u => PW l x g shM m_X12_allOf (Qi x g shM K) 4 [(0, .ref (g.ad 0)), (1, .int (nI t)), (2, .int (nI (fb_sm (fun u => bk_has b (10 * t + u)) u))), (3, .int (nI u))] [] S) 10 ?_ (fun u hu ih => ?_) 0 (Nat.zero_le _)
  · exact s_X12_allOf_4 ok _ _ _ S ⟨fun _ => hk, fun c => absurd (nI_le (Nat.le_refl 10) (by decide)) c⟩
  · rw [fb_sm_succ] at ih
    refine s_X12_allOf_4 ok _ _ _ S ⟨fun c => absurd c (nI_ge hu (by decide)), fun _ => ?_⟩
    simp (disch := omega) only [pk_mul, nI_add, cl, nI_clamp, hC.1 (10 * t + u) (by omega)]
    exact ⟨inI (by omega) (by decide), ih⟩
theorem all_le {b : Bk} (hb : BOk b) (t : Nat) : bk_all b t ≤ 599400 := by
  have := sm_le (f := fun u => bk_has b (10 * t + u)) (c := 59940) (n := 10) (fun u _ => has_le hb _)
  unfold bk_all
  omega
theorem pm_has {K : Int64 → Mem → Prop} (hs : SgOk s) (hR : MRep S s) (hk : ∀ S2, MRep S2 s → K (sp_has s v1 v2 v3) S2) : MWl l g shM m_X12_has [.ref (g.ad 0), .int v1, .int v2, .int v3] S K := by
  obtain ⟨hb, hh, ha⟩ : BOk s.b ∧ ChOk s.b s.h ∧ AnOk s.b s.a := hs.1
  unfold sp_has at hk
  refine MWl.intro _ rfl (Nat.le_of_ble_eq_true rfl) rfl (fun x ok => s_X12_has_0 ok _ _ _ S (c_X12_isSign (fun t ht e => z1 ?_) (fun h => z0 ?_)))
  · subst e
    rw [ix_nI ht (by omega)] at hk
    dsimp only at hk
    refine c_X12_inN (by decide) (fun u _ hu e => y1 (c_X12_isEnd (fun p hp e2 => z1 ?_) (fun h => z0 ?_))) (fun h => y0 ?_)
    · subst e; subst e2
      rw [ix_nI (by omega) (by omega), ix_nI hp (by omega)] at hk
      dsimp only at hk
      refine c_X12_findCommon hb hR.1.1 (fun S2 o hC => ?_)
      have h1 := has_le hb (10 * t + u)
      have h2 := all_le hb t
      simp (disch := omega) only [pk_mul, nI_add, cl, nI_clamp, hC.1 (10 * t + u) (by omega), nI_l]
      refine ⟨inI (by omega) (by decide), c_X12_allOf hb hC ht ?_⟩
      rw [nI_l (by omega)]
      exact c_X12_lowest (by omega) (by omega) hp (hk S2 (fC hs hR o))
    · subst e
      rw [ix_nI (by omega) (by omega), ix_no h] at hk
      exact hk S hR
    · rw [ix_no (fun j hj => h j (by omega) (by omega))] at hk
      exact hk S hR
  · rw [ix_no h] at hk
    exact hk S hR
theorem pm_common (hs : SgOk s) (hR : MRep S s) (hk : ∀ S2, MRep S2 s → K (sp_common s v) S2) : MWi l g shM m_X12_common [.ref (g.ad 0), .int v] S K := by
  obtain ⟨hb, hh, ha⟩ : BOk s.b ∧ ChOk s.b s.h ∧ AnOk s.b s.a := hs.1
  unfold sp_common at hk
  refine MWi.intro _ rfl (Nat.le_of_ble_eq_true rfl) rfl (fun x ok => s_X12_common_0 ok _ S (c_X12_isSign (fun t ht e => z1 ?_) (fun h => z0 ?_)))
  · subst e
    rw [ix_nI ht (by omega)] at hk
    refine c_X12_findCommon hb hR.1.1 (fun S2 o hC => ⟨inI ht (by decide), ?_⟩)
    simp (disch := omega) only [cl, nI_clamp, hC.2.1 t ht]
    exact hk S2 (fC hs hR o)
  · rw [ix_no h] at hk
    exact hk S hR
theorem rul_le {b : Bk} (hb : BOk b) {n : Nat} (hn : n ≤ 10) : rulN b n ≤ 599400 := by
  have h1 : rulN b n ≤ n * 59940 := fb_sm_bound (fun s _ => by
    split
    · exact Nat.zero_le _
    · exact has_le hb _)
  have : n * 59940 ≤ 10 * 59940 := Nat.mul_le_mul_right _ hn
  omega
theorem als_le {b : Bk} (hb : BOk b) {n : Nat} (hn : n ≤ 10) : alsN b n ≤ 5994000 := by
  have := sm_le (f := bk_all b) (c := 599400) (n := n) (fun s _ => all_le hb s)
  unfold alsN
  have : n * 599400 ≤ 10 * 599400 := Nat.mul_le_mul_right _ hn
  omega
theorem pm_ruled {K : Int64 → Mem → Prop} (hs : SgOk s) (hR : MRep S s) (hk : ∀ S2, MRep S2 s → K (sp_ruled s v) S2) : MWl l g shM m_X12_ruled [.ref (g.ad 0), .int v] S K := by
  obtain ⟨hb, hh, ha⟩ : BOk s.b ∧ ChOk s.b s.h ∧ AnOk s.b s.a := hs.1
  unfold sp_ruled at hk
  refine MWl.intro _ rfl (Nat.le_of_ble_eq_true rfl) rfl (fun x ok => s_X12_ruled_0 ok _ S (c_X12_isEnd (fun p hp e => z1 ?_) (fun h => z0 ?_)))
  · subst e
    rw [ix_nI hp (by omega)] at hk
    refine c_X12_findCommon hb hR.1.1 (fun S2 o hC => ?_)
    have hk := hk S2 (fC hs hR o)
    refine lpU (fun t => PW l x g shM m_X12_ruled (Ql x g shM K) 23 [(0, .ref (g.ad 0)), (1, .int (nI p)), (2, .long (lN (rulN s.b t))), (4, .long (lN (alsN s.b t))), (6, .int (nI t))] [] S2) 10 ?_ (fun t ht ih => ?_) 0 (Nat.zero_le _)
    · refine s_X12_ruled_23 ok _ _ _ _ S2 ⟨fun _ => ?_, fun c => absurd (nI_le (Nat.le_refl 10) (by decide)) c⟩
      have h1 := rul_le hb (Nat.le_refl 10)
      have h2 := als_le hb (Nat.le_refl 10)
      exact c_X12_lowest (by omega) (by omega) hp hk
    · have e1 : rulN s.b (t + 1) = rulN s.b t + (match bk_comm s.b t with
        | none => 0
        | some u => bk_has s.b (10 * t + u)) := fb_sm_succ _ _
      have e2 : alsN s.b (t + 1) = alsN s.b t + bk_all s.b t := fb_sm_succ _ _
      rw [e1, e2] at ih
      have h2 := all_le hb t
      refine s_X12_ruled_23 ok _ _ _ _ S2 ⟨fun c => absurd c (nI_ge ht (by decide)), fun _ => ⟨inI ht (by decide), ?_⟩⟩
      simp (disch := omega) only [cl, nI_clamp, hC.2.1 t ht]
      cases hm : bk_comm s.b t with
      | none =>
        rw [hm] at ih
        refine ⟨fun c => absurd c (by decide), fun _ => c_X12_allOf hb hC ht ?_⟩
        rw [nI_l (by omega), lN_add, lN_add, nI_add]
        exact ih
      | some u =>
        rw [hm] at ih
        have hu := comm_lt hm
        have h1 := has_le hb (10 * t + u)
        refine ⟨fun _ => ?_, fun c => absurd (nI_pos' (by omega)) c⟩
        simp (disch := omega) only [oI_some, pk_mul, nI_add, nI_clamp, hC.1 (10 * t + u) (by omega), nI_l]
        refine ⟨inI ht (by decide), inI (by omega) (by decide), c_X12_allOf hb hC ht ?_⟩
        rw [nI_l (by omega), lN_add, lN_add]
        exact ih
  · rw [ix_no h] at hk
    exact hk S hR
end MODQ
