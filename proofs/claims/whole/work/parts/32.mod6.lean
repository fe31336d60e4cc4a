/-! PART 32: the model: lessons, sharing, reading itself -/
section MOD6
variable {l : Launch} {g : Geo} {S : Mem} {b : Bk} {K : Int32 → Mem → Prop}
theorem c_X12_allOften (hb : BOk b) (hM : MB S b) (hk : K (nI (ofA b)) S) : MWi l g shM m_X12_allOften [.ref (g.ad 0)] S K := by
  have hn := hb.1
  refine MWi.intro _ rfl (Nat.le_of_ble_eq_true rfl) rfl (fun x ok => s_X12_allOften_0 ok S ?_)
  refine lpU (fun w => PW l x g shM m_X12_allOften (Qi x g shM K) 4 [(0, .ref (g.ad 0)), (1, .int (nI (fb_sm b.of w))), (2, .int (nI w))] [] S) b.n ?_ (fun w hw ih => ?_) 0 (Nat.zero_le _)
  · refine s_X12_allOften_4 ok _ _ S ⟨fun _ => hk, fun c => absurd ?_ c⟩
    simp (disch := omega) only [hM.1, nI_leI, Nat.le_refl]
  · have e2 := (hM.2 w hw).2.1
    rw [fb_sm_succ] at ih
    refine s_X12_allOften_4 ok _ _ S ⟨fun c => absurd c ?_, fun _ => ⟨inI (by omega) (by decide), ?_⟩⟩
    · simp (disch := omega) only [hM.1, nI_leI]; omega
    simp (disch := omega) only [cl, nI_clamp, e2, nI_add]
    exact ih
set_option maxHeartbeats 1000000 in
theorem c_X12_findLessons {c k ws : Nat} {m : Option Nat} {K : Mem → Prop} (hb : BOk b) (hM : MB S b) (hC : MC S b) (hc : c < 4) (hm : mxOk m) (hS : S 11 c = oI m) (hkn : k < 1024) (hws : ws < 4096) (h9 : S 9 c = nI k) (h10 : S 10 c = nI ws)
    (hk : ∀ S2, (∀ a, a ≠ 0 → a ≠ 19 → S2 a = S a) → (∀ j, j ≠ 14 → j ≠ 15 → S2 0 j = S 0 j) → (∀ j, j < 13 * c ∨ 13 * c + 13 ≤ j → S2 19 j = S 19 j) → (∀ n, n ≤ 12 → S2 19 (13 * c + n) = nI (les b m k ws n)) → K S2) : MWv l g shM m_X12_findLessons [.ref (g.ad 0), .int (nI c)] S K := by
  have hpk : pc k ≤ 10 := pc10 hkn
  refine MWv.intro _ rfl (Nat.le_of_ble_eq_true rfl) rfl (fun x ok => s_X12_findLessons_0 ok _ S ⟨inI hc (by decide), ?_⟩)
  simp (disch := omega) only [cl, nI_clamp, h9]
  have L2 : ∀ S2 : Mem, (∀ a, a ≠ 0 → a ≠ 19 → S2 a = S a) → (∀ j, j ≠ 14 → j ≠ 15 → S2 0 j = S 0 j) → (∀ j, j < 13 * c ∨ 13 * c + 13 ≤ j → S2 19 j = S 19 j) → (∀ n, n ≤ 12 → S2 19 (13 * c + n) = nI 0) → PW l x g shM m_X12_findLessons (Qv x g shM K) 44 [(0, .ref (g.ad 0)), (1, .int (nI c)), (2, .int (nI k)), (3, .int (nI (10 - pc k))), (4, .int (nI 0))] [] S2 := by
    intro S2 g1 g2 g3 g4
    refine lpU (fun t => ∀ S2 : Mem, (∀ a, a ≠ 0 → a ≠ 19 → S2 a = S a) → (∀ j, j ≠ 14 → j ≠ 15 → S2 0 j = S 0 j) → (∀ j, j < 13 * c ∨ 13 * c + 13 ≤ j → S2 19 j = S 19 j) → (∀ n, n ≤ 12 → S2 19 (13 * c + n) = nI (mxS (lsF b m k ws n) t)) → PW l x g shM m_X12_findLessons (Qv x g shM K) 44 [(0, .ref (g.ad 0)), (1, .int (nI c)), (2, .int (nI k)), (3, .int (nI (10 - pc k))), (4, .int (nI t))] [] S2) 1024 ?_ (fun t ht ih => ?_) 0 (Nat.zero_le _) S2 g1 g2 g3 g4
    · intro S2 g1 g2 g3 g4
      exact s_X12_findLessons_44 ok _ _ _ _ S2 ⟨fun _ => hk S2 g1 g2 g3 g4, fun c => absurd (nI_le (Nat.le_refl 1024) (by decide)) c⟩
    · intro S2 g1 g2 g3 g4
      have hM2 : MB S2 b := hM.of (g2 4 (by decide) (by decide)) (fun a _ _ => g1 a (by omega) (by omega))
      have hC2 : MC S2 b := hC.of (fun a _ _ => g1 a (by omega) (by omega))
      have e10 : S2 10 c = nI ws := by rw [g1 10 (by decide) (by decide)]; exact h10
      have e11 : S2 11 c = oI m := by rw [g1 11 (by decide) (by decide)]; exact hS
      have hal : t &&& k < 1024 := Nat.and_lt_two_pow (n := 10) _ hkn
      have hol : k ||| t < 1024 := Nat.or_lt_two_pow (n := 10) hkn ht
      refine s_X12_findLessons_44 ok _ _ _ _ S2 ⟨fun c => absurd c (nI_ge ht (by decide)), fun _ => ?_⟩
      simp (disch := omega) only [fa_and, fa_or, nI_eq0, cl, nI_clamp, e10, nI_add]
      refine ⟨fun y => ?_, fun y => ⟨inI hc (by decide), c_X12_shareOf hb hM2 hC2 hc hm e11 hol hws (fun S3 R => c_X12_ones (by omega) ?_)⟩⟩
      · refine ih S2 g1 g2 g3 (fun n hn => ?_)
        rw [g4 n hn, mxS_step_le]
        unfold lsF lsP
        rw [decide_eq_false y]; simp
      · have hpt := pc_le t
        have hpt10 : pc t ≤ 10 := pc10 ht
        have hsh := share_le hb m (k ||| t) ws
        -- the limit of the inner loop
        have L3 : ∀ q, pc t ≤ q → q ≤ (if pc t = 10 - pc k then 12 else pc t) + 1 → ∀ S3 : Mem, (∀ a, a ≠ 0 → a ≠ 19 → S3 a = S a) → (∀ j, j ≠ 14 → j ≠ 15 → S3 0 j = S 0 j) → (∀ j, j < 13 * c ∨ 13 * c + 13 ≤ j → S3 19 j = S 19 j) → (∀ n, n ≤ 12 → S3 19 (13 * c + n) = nI (if pc t ≤ n ∧ n < q then mxS (lsF b m k ws n) (t + 1) else mxS (lsF b m k ws n) t)) → PW l x g shM m_X12_findLessons (Qv x g shM K) 87 [(0, .ref (g.ad 0)), (1, .int (nI c)), (2, .int (nI k)), (3, .int (nI (10 - pc k))), (4, .int (nI t)), (5, .int (nI (bk_share b m (k ||| t) ws))), (6, .int (nI (pc t))), (7, .int (nI q))] [] S3 := by
          have hlim : pc t ≤ (if pc t = 10 - pc k then 12 else pc t) := by split <;> omega
          have hlim2 : (if pc t = 10 - pc k then 12 else pc t) ≤ 12 := by split <;> omega
          have hdone : ∀ S3 : Mem, (∀ a, a ≠ 0 → a ≠ 19 → S3 a = S a) → (∀ j, j ≠ 14 → j ≠ 15 → S3 0 j = S 0 j) → (∀ j, j < 13 * c ∨ 13 * c + 13 ≤ j → S3 19 j = S 19 j) → (∀ n, n ≤ 12 → S3 19 (13 * c + n) = nI (if pc t ≤ n ∧ n < (if pc t = 10 - pc k then 12 else pc t) + 1 then mxS (lsF b m k ws n) (t + 1) else mxS (lsF b m k ws n) t)) → PW l x g shM m_X12_findLessons (Qv x g shM K) 44 [(0, .ref (g.ad 0)), (1, .int (nI c)), (2, .int (nI k)), (3, .int (nI (10 - pc k))), (4, .int (nI (t + 1)))] [] S3 := by
            intro S3 k1 k2 k3 k4
            refine ih S3 k1 k2 k3 (fun n hn => ?_)
            rw [k4 n hn]
            by_cases h : pc t ≤ n ∧ n < (if pc t = 10 - pc k then 12 else pc t) + 1
            · rw [if_pos h]
            · rw [if_neg h, mxS_step_le]
              have : lsP k n t = false := by
                unfold lsP
                rw [Bool.and_eq_false_iff]
                right
                rw [Bool.or_eq_false_iff]
                refine ⟨decide_eq_false (fun e => h ⟨by omega, by split <;> omega⟩), ?_⟩
                rw [Bool.and_eq_false_iff]
                by_cases e : pc t = 10 - pc k
                · right
                  exact decide_eq_false (fun e2 => h ⟨e2, by rw [if_pos e]; omega⟩)
                · left; exact decide_eq_false e
              unfold lsF
              rw [this]; simp
          have hstep : ∀ q, q < (if pc t = 10 - pc k then 12 else pc t) + 1 → pc t ≤ q → (∀ S3 : Mem, (∀ a, a ≠ 0 → a ≠ 19 → S3 a = S a) → (∀ j, j ≠ 14 → j ≠ 15 → S3 0 j = S 0 j) → (∀ j, j < 13 * c ∨ 13 * c + 13 ≤ j → S3 19 j = S 19 j) → (∀ n, n ≤ 12 → S3 19 (13 * c + n) = nI (if pc t ≤ n ∧ n < q + 1 then mxS (lsF b m k ws n) (t + 1) else mxS (lsF b m k ws n) t)) → PW l x g shM m_X12_findLessons (Qv x g shM K) 87 [(0, .ref (g.ad 0)), (1, .int (nI c)), (2, .int (nI k)), (3, .int (nI (10 - pc k))), (4, .int (nI t)), (5, .int (nI (bk_share b m (k ||| t) ws))), (6, .int (nI (pc t))), (7, .int (nI (q + 1)))] [] S3) → ∀ S3 : Mem, (∀ a, a ≠ 0 → a ≠ 19 → S3 a = S a) → (∀ j, j ≠ 14 → j ≠ 15 → S3 0 j = S 0 j) → (∀ j, j < 13 * c ∨ 13 * c + 13 ≤ j → S3 19 j = S 19 j) → (∀ n, n ≤ 12 → S3 19 (13 * c + n) = nI (if pc t ≤ n ∧ n < q then mxS (lsF b m k ws n) (t + 1) else mxS (lsF b m k ws n) t)) →
              (vp_in (((nI 13) * nI c) + nI q) 52 ∧ ((nI (bk_share b m (k ||| t) ws) ≤ (S3 19 (cl (((nI 13) * nI c) + nI q))) → (vp_in (((nI 13) * nI c) + nI q) 52 ∧ (vp_in (((nI 13) * nI c) + nI q) 52 ∧ PW l x g shM m_X12_findLessons (Qv x g shM K) 87 [(0, .ref (g.ad 0)), (1, .int (nI c)), (2, .int (nI k)), (3, .int (nI (10 - pc k))), (4, .int (nI t)), (5, .int (nI (bk_share b m (k ||| t) ws))), (6, .int (nI (pc t))), (7, .int (nI q + (nI 1)))] [] (st2 S3 19 (cl (((nI 13) * nI c) + nI q)) (S3 19 (cl (((nI 13) * nI c) + nI q))))))) ∧ (¬ nI (bk_share b m (k ||| t) ws) ≤ (S3 19 (cl (((nI 13) * nI c) + nI q))) → (vp_in (((nI 13) * nI c) + nI q) 52 ∧ PW l x g shM m_X12_findLessons (Qv x g shM K) 87 [(0, .ref (g.ad 0)), (1, .int (nI c)), (2, .int (nI k)), (3, .int (nI (10 - pc k))), (4, .int (nI t)), (5, .int (nI (bk_share b m (k ||| t) ws))), (6, .int (nI (pc t))), (7, .int (nI q + (nI 1)))] [] (st2 S3 19 (cl (((nI 13) * nI c) + nI q)) (nI (bk_share b m (k ||| t) ws))))))) := by
            intro q hq hqt ih3 S3 k1 k2 k3 k4
            have hq12 : q ≤ 12 := by omega
            have e := k4 q hq12
            rw [if_neg (by omega)] at e
            have hmx : mxS (lsF b m k ws q) t ≤ 11988 := mxS_le (fun T _ => lsF_le hb m k ws q T)
            have hP : lsP k q t = true := by
              unfold lsP
              rw [decide_eq_true y, Bool.true_and, Bool.or_eq_true]
              by_cases e : pc t = 10 - pc k
              · right; rw [decide_eq_true e, decide_eq_true hqt]; rfl
              · left
                rw [if_neg e] at hq
                exact decide_eq_true (by omega)
            have hF : lsF b m k ws q t = bk_share b m (k ||| t) ws := by unfold lsF; rw [if_pos hP]
            simp (disch := omega) only [pk_mul, nI_add, cl, nI_clamp, e, nI_leI]
            refine ⟨inI (by omega) (by decide), fun z => ⟨inI (by omega) (by decide), inI (by omega) (by decide), ?_⟩, fun z => ⟨inI (by omega) (by decide), ?_⟩⟩
            · refine ih3 _ (fun a h0 h1 => by rw [st2_off h1]; exact k1 a h0 h1) (fun j h1 h2 => by rw [st2_off (by decide)]; exact k2 j h1 h2) (fun j hj => by rw [st2_get, if_neg (by omega)]; exact k3 j hj) (fun n hn => ?_)
              rw [st2_get]
              by_cases en : n = q
              · subst en
                rw [if_pos rfl, if_pos ⟨hqt, by omega⟩, mxS_step_le (by omega)]
              · rw [if_neg (by omega), k4 n hn]
                congr 1
                by_cases e2 : pc t ≤ n ∧ n < q
                · rw [if_pos e2, if_pos ⟨e2.1, by omega⟩]
                · rw [if_neg e2, if_neg (fun h => e2 ⟨h.1, by omega⟩)]
            · refine ih3 _ (fun a h0 h1 => by rw [st2_off h1]; exact k1 a h0 h1) (fun j h1 h2 => by rw [st2_off (by decide)]; exact k2 j h1 h2) (fun j hj => by rw [st2_get, if_neg (by omega)]; exact k3 j hj) (fun n hn => ?_)
              rw [st2_get]
              by_cases en : n = q
              · subst en
                rw [if_pos rfl, if_pos ⟨hqt, by omega⟩, mxS_step_gt (by omega), hF]
              · rw [if_neg (by omega), k4 n hn]
                congr 1
                by_cases e2 : pc t ≤ n ∧ n < q
                · rw [if_pos e2, if_pos ⟨e2.1, by omega⟩]
                · rw [if_neg e2, if_neg (fun h => e2 ⟨h.1, by omega⟩)]
          intro q hq1 hq2
          refine lpU (fun q => pc t ≤ q → ∀ S3 : Mem, (∀ a, a ≠ 0 → a ≠ 19 → S3 a = S a) → (∀ j, j ≠ 14 → j ≠ 15 → S3 0 j = S 0 j) → (∀ j, j < 13 * c ∨ 13 * c + 13 ≤ j → S3 19 j = S 19 j) → (∀ n, n ≤ 12 → S3 19 (13 * c + n) = nI (if pc t ≤ n ∧ n < q then mxS (lsF b m k ws n) (t + 1) else mxS (lsF b m k ws n) t)) → PW l x g shM m_X12_findLessons (Qv x g shM K) 87 [(0, .ref (g.ad 0)), (1, .int (nI c)), (2, .int (nI k)), (3, .int (nI (10 - pc k))), (4, .int (nI t)), (5, .int (nI (bk_share b m (k ||| t) ws))), (6, .int (nI (pc t))), (7, .int (nI q))] [] S3) ((if pc t = 10 - pc k then 12 else pc t) + 1) ?_ (fun q hq ih3 => ?_) q hq2 hq1
          · intro _ S3 k1 k2 k3 k4
            refine s_X12_findLessons_87 ok _ _ _ _ _ _ _ S3 ?_
            rw [nI_eq (by omega) (by omega), nI_add]
            refine ⟨fun z => ⟨fun _ => hdone S3 k1 k2 k3 k4, fun r => absurd ?_ r⟩, fun z => ⟨fun _ => hdone S3 k1 k2 k3 k4, fun r => absurd ?_ r⟩⟩
            · rw [if_neg z]; exact nI_lt (by omega) (by omega)
            · rw [if_pos z]; exact nI_lt (by omega) (by omega)
          · intro hqt S3 k1 k2 k3 k4
            refine s_X12_findLessons_87 ok _ _ _ _ _ _ _ S3 ?_
            rw [nI_eq (by omega) (by omega)]
            refine ⟨fun z => ⟨fun r => absurd r ?_, fun _ => hstep q hq hqt (ih3 (by omega)) S3 k1 k2 k3 k4⟩, fun z => ⟨fun r => absurd r ?_, fun _ => hstep q hq hqt (ih3 (by omega)) S3 k1 k2 k3 k4⟩⟩
            · rw [if_neg z] at hq; exact nI_nlt (by omega) (by omega)
            · rw [if_pos z] at hq; exact nI_nlt (by omega) (by omega)
        refine L3 (pc t) (Nat.le_refl _) (by split <;> omega) S3 (fun a h0 h1 => by rw [R.1 a h0]; exact g1 a h0 h1) (fun j h1 h2 => by rw [R.2 j h1 h2]; exact g2 j h1 h2) (fun j hj => by rw [R.1 19 (by decide)]; exact g3 j hj) (fun n hn => ?_)
        rw [R.1 19 (by decide), g4 n hn, if_neg (by omega)]
  refine lpU (fun n => ∀ S2 : Mem, (∀ a, a ≠ 19 → S2 a = S a) → (∀ j, j < 13 * c ∨ 13 * c + 13 ≤ j → S2 19 j = S 19 j) → (∀ j, j < n → S2 19 (13 * c + j) = nI 0) → PW l x g shM m_X12_findLessons (Qv x g shM K) 9 [(0, .ref (g.ad 0)), (1, .int (nI c)), (2, .int (nI k)), (3, .int (nI n))] [] S2) 13 ?_ (fun n hn ih => ?_) 0 (Nat.zero_le _) S (fun _ _ => rfl) (fun _ _ => rfl) (fun j hj => by omega)
  · intro S2 g1 g2 g3
    refine s_X12_findLessons_9 ok _ _ _ S2 ⟨fun _ => c_X12_ones (by omega) ?_, fun c => absurd (nI_lt (by decide) (by decide)) c⟩
    rw [pk_sub hpk]
    exact L2 S2 (fun a h0 h1 => g1 a h1) (fun j _ _ => by rw [g1 0 (by decide)]) g2 (fun n hn => g3 n (by omega))
  · intro S2 g1 g2 g3
    refine s_X12_findLessons_9 ok _ _ _ S2 ⟨fun c => absurd c (nI_nlt (by omega) (by decide)), fun _ => ?_⟩
    simp (disch := omega) only [pk_mul, nI_add, cl, nI_clamp]
    refine ⟨inI (by omega) (by decide), ih _ (fun a h1 => by rw [st2_off h1]; exact g1 a h1) (fun j hj => by rw [st2_get, if_neg (by omega)]; exact g2 j hj) (fun j hj => ?_)⟩
    rw [st2_get]
    split
    · rfl
    · exact g3 j (by omega)
end MOD6
