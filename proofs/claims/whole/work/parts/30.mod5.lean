/-! PART 30: the model: answers, tests, spelling -/
section MOD5
variable {l : Launch} {g : Geo} {S : Mem} {b : Bk} {K : Int32 → Mem → Prop} {an : An}
def MA (S : Mem) (an : An) : Prop := S 0 22 = nI an.n ∧ ∀ k, k < an.n → S 16 k = nI (an.w k) ∧ S 17 k = nI (an.r k).toNat
theorem c_X12_readsRight {w s : Nat} (hb : BOk b) (hM : MB S b) (hC : MC S b) (hw : w < b.n) (hs : s < 1024) (hk : K (nI (rrt b s w).toNat) S) : MWi l g shM m_X12_readsRight [.ref (g.ad 0), .int (nI w), .int (nI s)] S K := by
  have hbl := bits_lt hb hw
  refine MWi.intro _ rfl (Nat.le_of_ble_eq_true rfl) rfl (fun x ok => s_X12_readsRight_0 ok _ _ S (c_X12_isRegular hb hC hw ?_))
  unfold rrt at hk
  rw [bI0]
  refine ⟨fun y => ?_, fun y => c_X12_signsOf hb hM hw ?_⟩
  · rw [y] at hk; exact hk
  · rw [Bool.not_eq_false] at y
    rw [y, Bool.true_and] at hk
    have hl : bk_bits b w &&& s < 1024 := Nat.and_lt_two_pow (n := 10) _ hs
    rw [fa_and, nI_eq0 (by omega)]
    refine ⟨fun z => ?_, fun z => ?_⟩
    · rw [decide_eq_false z] at hk; exact hk
    · rw [decide_eq_true z] at hk; exact hk
theorem c_X12_mayLack {s : Nat} (hb : BOk b) (hM : MB S b) (hC : MC S b) (hA : AnOk b an) (hMA : MA S an) (hs : s < 1024) (hk : K (nI (mlk b an s).toNat) S) : MWi l g shM m_X12_mayLack [.ref (g.ad 0), .int (nI s)] S K := by
  have hn := hA.1
  refine MWi.intro _ rfl (Nat.le_of_ble_eq_true rfl) rfl (fun x ok => s_X12_mayLack_0 ok _ S ?_)
  refine lpU (fun k => PW l x g shM m_X12_mayLack (Qi x g shM K) 4 [(0, .ref (g.ad 0)), (1, .int (nI s)), (2, .int (nI (alB (fun k => rrt b s (an.w k) == an.r k) k).toNat)), (3, .int (nI k))] [] S) an.n ?_ (fun k hkn ih => ?_) 0 (Nat.zero_le _)
  · refine s_X12_mayLack_4 ok _ _ _ S ⟨fun _ => ⟨narB _, hk⟩, fun c => absurd ?_ c⟩
    simp (disch := omega) only [hMA.1, nI_leI, Nat.le_refl]
  · obtain ⟨e1, e2⟩ := hMA.2 k hkn
    have hw := hA.2 k hkn
    refine s_X12_mayLack_4 ok _ _ _ S ⟨fun c => absurd c ?_, fun _ => ?_⟩
    · simp (disch := omega) only [hMA.1, nI_leI]; omega
    simp (disch := omega) only [bI0, cl, nI_clamp, e1]
    refine ⟨fun y => ⟨narB _, ?_⟩, fun y => ⟨inI (by omega) (by decide), c_X12_readsRight hb hM hC hw hs ⟨inI (by omega) (by decide), ?_⟩⟩⟩
    · rw [y]
      have : mlk b an s = false := alB_mono (by omega) y
      rw [this] at hk; exact hk
    · rw [Bool.not_eq_false] at y
      rw [alB, y, Bool.true_and] at ih
      rw [e2, bI1, nI_add]
      cases h1 : rrt b s (an.w k) <;> cases h2 : an.r k <;> rw [h1, h2] at ih
      · exact ⟨fun _ => ⟨fun c => absurd rfl c, fun _ => ih⟩, fun c => absurd c (by decide)⟩
      · exact ⟨fun c => absurd rfl c, fun _ => ⟨fun _ => ih, fun c => absurd c (by decide)⟩⟩
      · exact ⟨fun _ => ⟨fun _ => ih, fun c => absurd c (by decide)⟩, fun c => absurd c (by decide)⟩
      · exact ⟨fun c => absurd rfl c, fun _ => ⟨fun c => absurd rfl c, fun _ => ih⟩⟩
theorem c_X12_mayWith {s : Nat} (hb : BOk b) (hM : MB S b) (hC : MC S b) (hA : AnOk b an) (hMA : MA S an) (hs : s < 1024) (hk : K (nI (mayN b an s)) S) : MWi l g shM m_X12_mayWith [.ref (g.ad 0), .int (nI s)] S K := by
  refine MWi.intro _ rfl (Nat.le_of_ble_eq_true rfl) rfl (fun x ok => s_X12_mayWith_0 ok _ S ?_)
  refine lpU (fun t => PW l x g shM m_X12_mayWith (Qi x g shM K) 4 [(0, .ref (g.ad 0)), (1, .int (nI s)), (2, .int (nI (fb_ct (fun set => decide (sub s set) && mlk b an set) t))), (3, .int (nI t))] [] S) 1024 ?_ (fun t ht ih => ?_) 0 (Nat.zero_le _)
  · exact s_X12_mayWith_4 ok _ _ _ S ⟨fun _ => hk, fun c => absurd (nI_le (Nat.le_refl 1024) (by decide)) c⟩
  · rw [fb_ct_succ] at ih
    refine s_X12_mayWith_4 ok _ _ _ S ⟨fun c => absurd c (nI_ge ht (by decide)), fun _ => ?_⟩
    simp (disch := omega) only [sub_n, nI_add]
    refine ⟨fun y => ?_, fun y => c_X12_mayLack hb hM hC hA hMA ht ?_⟩
    · rw [decide_eq_false y] at ih; exact ih
    · rw [decide_eq_true y, Bool.true_and] at ih
      rw [bI0]
      refine ⟨fun z => ?_, fun z => ?_⟩
      · rw [z] at ih; exact ih
      · rw [Bool.not_eq_false] at z
        rw [z] at ih; exact ih
/-- the value kept beside a choice -/
def valO (f : Nat → Nat) (o : Option Nat) : Nat := match o with
  | none => 0
  | some m => f m
theorem c_X12_tells (hb : BOk b) (hM : MB S b) (hA : AnOk b an) (hMA : MA S an) (hk : ∀ S2, (∀ a, a < 6 ∨ 8 < a → S2 a = S a) → K (oI (tllO b an b.n)) S2) : MWi l g shM m_X12_tells [.ref (g.ad 0)] S K := by
  have hn := hb.1
  refine MWi.intro _ rfl (Nat.le_of_ble_eq_true rfl) rfl (fun x ok => s_X12_tells_0 ok S (c_X12_findCommon hb hM (fun S1 o1 hC => ?_)))
  have hM1 : MB S1 b := hM.of (by rw [o1 0 (by omega)]) (fun a _ _ => o1 a (by omega))
  have hMA1 : MA S1 an := by unfold MA; rw [o1 0 (by omega), o1 16 (by omega), o1 17 (by omega)]; exact hMA
  refine c_X12_mayWith hb hM1 hC hA hMA1 (by decide) ?_
  have hk := hk S1 o1
  have hml := mayN_le b an 0
  have hvl : ∀ o, valO (lsr b an) o ≤ 1024 := fun o => by
    cases o with
    | none => exact Nat.zero_le _
    | some w =>
      have := rgt_le b an w
      show lsr b an w ≤ 1024
      unfold lsr
      split <;> omega
  refine lpU (fun w => PW l x g shM m_X12_tells (Qi x g shM K) 18 [(0, .ref (g.ad 0)), (1, .int (oI (tllO b an w))), (2, .int (nI (valO (lsr b an) (tllO b an w)))), (3, .int (nI (mayN b an 0))), (4, .int (nI w))] [] S1) b.n ?_ (fun w hw ih => ?_) 0 (Nat.zero_le _)
  · refine s_X12_tells_18 ok _ _ _ _ S1 ⟨fun _ => hk, fun c => absurd ?_ c⟩
    simp (disch := omega) only [hM1.1, nI_leI, Nat.le_refl]
  · refine s_X12_tells_18 ok _ _ _ _ S1 ⟨fun c => absurd c ?_, fun _ => ?_⟩
    · simp (disch := omega) only [hM1.1, nI_leI]; omega
    refine lpU (fun t => PW l x g shM m_X12_tells (Qi x g shM K) 33 [(0, .ref (g.ad 0)), (1, .int (oI (tllO b an w))), (2, .int (nI (valO (lsr b an) (tllO b an w)))), (3, .int (nI (mayN b an 0))), (4, .int (nI w)), (5, .int (nI (fb_ct (fun set => rrt b set w && mlk b an set) t))), (6, .int (nI t))] [] S1) 1024 ?_ (fun t ht ih2 => ?_) 0 (Nat.zero_le _)
    · refine s_X12_tells_33 ok _ _ _ _ _ _ S1 ⟨fun _ => ?_, fun c => absurd (nI_le (Nat.le_refl 1024) (by decide)) c⟩
      have hr := rgt_le b an w
      have hv := hvl (tllO b an w)
      have hlt : ∀ j, tllO b an w = some j → j < 2 ^ 31 := fun j h => by have := am_lt h; omega
      have fin : ∀ v, v = lsr b an w → ((oI (tllO b an w) < 0 → PW l x g shM m_X12_tells (Qi x g shM K) 18 [(0, .ref (g.ad 0)), (1, .int (nI w)), (2, .int (nI v)), (3, .int (nI (mayN b an 0))), (4, .int (nI w + nI 1))] [] S1) ∧ (¬ oI (tllO b an w) < 0 → ((nI v ≤ nI (valO (lsr b an) (tllO b an w)) → PW l x g shM m_X12_tells (Qi x g shM K) 18 [(0, .ref (g.ad 0)), (1, .int (oI (tllO b an w))), (2, .int (nI (valO (lsr b an) (tllO b an w)))), (3, .int (nI (mayN b an 0))), (4, .int (nI w + nI 1))] [] S1) ∧ (¬ nI v ≤ nI (valO (lsr b an) (tllO b an w)) → PW l x g shM m_X12_tells (Qi x g shM K) 18 [(0, .ref (g.ad 0)), (1, .int (nI w)), (2, .int (nI v)), (3, .int (nI (mayN b an 0))), (4, .int (nI w + nI 1))] [] S1)))) := by
        intro v ev
        have hvv := hvl (some w)
        have hvv : lsr b an w ≤ 1024 := hvv
        subst ev
        rw [oI_lt0 hlt, nI_leI (by omega) (by omega), nI_add]
        refine ⟨fun z => ?_, fun z => ?_⟩
        · have e : tllO b an (w + 1) = some w := am_one rfl z
          rw [e] at ih; exact ih
        · cases hm : tllO b an w with
          | none => exact absurd hm z
          | some j =>
            refine ⟨fun r => ?_, fun r => ?_⟩
            · have e : tllO b an (w + 1) = some j := am_less hm r
              rw [e] at ih; exact ih
            · have e : tllO b an (w + 1) = some w := am_more rfl hm (by have r : ¬ lsr b an w ≤ lsr b an j := r; omega)
              rw [e] at ih; exact ih
      simp only [show fb_ct (fun set => rrt b set w && mlk b an set) 1024 = rgt b an w from rfl, pk_sub hr]
      rw [nI_leI (by omega) (by omega)]
      refine ⟨fun z => fin (mayN b an 0 - rgt b an w) ?_, fun z => fin (rgt b an w) ?_⟩
      · unfold lsr; rw [if_neg (by omega)]
      · unfold lsr; rw [if_pos (by omega)]
    · rw [fb_ct_succ] at ih2
      refine s_X12_tells_33 ok _ _ _ _ _ _ S1 ⟨fun c => absurd c (nI_ge ht (by decide)), fun _ => c_X12_readsRight hb hM1 hC hw ht ?_⟩
      rw [bI0]
      simp (disch := omega) only [nI_add]
      refine ⟨fun y => ?_, fun y => c_X12_mayLack hb hM1 hC hA hMA1 ht ?_⟩
      · rw [y] at ih2; exact ih2
      · rw [Bool.not_eq_false] at y
        rw [y, Bool.true_and] at ih2
        rw [bI0]
        refine ⟨fun z => ?_, fun z => ?_⟩
        · rw [z] at ih2; exact ih2
        · rw [Bool.not_eq_false] at z
          rw [z] at ih2; exact ih2
theorem c_X12_tellsAll {t : Nat} (hb : BOk b) (hcol : ∀ s, s < 11 → S 18 s = nI (colm b s)) (ht : t < 4096) (hk : K (nI (tla b t).toNat) S) : MWi l g shM m_X12_tellsAll [.ref (g.ad 0), .int (nI t), .int (nI (regB b))] S K := by
  have hrl : regB b < 4096 := orb2_lt hb.1 _
  have hcl : ∀ s, colm b s < 4096 := fun s => orb2_lt hb.1 _
  refine MWi.intro _ rfl (Nat.le_of_ble_eq_true rfl) rfl (fun x ok => s_X12_tellsAll_0 ok _ _ S ?_)
  refine lpU (fun a => PW l x g shM m_X12_tellsAll (Qi x g shM K) 5 [(0, .ref (g.ad 0)), (1, .int (nI t)), (2, .int (nI (regB b))), (3, .int (nI (alB (fun x => alB (tpr b t x) x) a).toNat)), (4, .int (nI a))] [] S) 11 ?_ (fun a ha ih => ?_) 0 (Nat.zero_le _)
  · exact s_X12_tellsAll_5 ok _ _ _ _ S ⟨fun _ => ⟨narB _, hk⟩, fun c => absurd (nI_lt (by decide) (by decide)) c⟩
  · refine s_X12_tellsAll_5 ok _ _ _ _ S ⟨fun c => absurd c (nI_nlt (by omega) (by decide)), fun _ => ?_⟩
    rw [bI0]
    refine ⟨fun y => ⟨narB _, ?_⟩, fun y => ?_⟩
    · rw [y]
      have : tla b t = false := alB_mono (by omega) y
      rw [this] at hk; exact hk
    · rw [Bool.not_eq_false] at y
      rw [alB, y, Bool.true_and] at ih
      rw [y]
      refine lpU (fun c => PW l x g shM m_X12_tellsAll (Qi x g shM K) 19 [(0, .ref (g.ad 0)), (1, .int (nI t)), (2, .int (nI (regB b))), (3, .int (nI (alB (tpr b t a) c).toNat)), (4, .int (nI a)), (5, .int (nI c))] [] S) a ?_ (fun c hc ih2 => ?_) 0 (Nat.zero_le _)
      · refine s_X12_tellsAll_19 ok _ _ _ _ _ S ⟨fun _ => ?_, fun c => absurd (nI_le (Nat.le_refl a) (by omega)) c⟩
        rw [nI_add]; exact ih
      · have h1 := hcl a
        have h2 := hcl c
        have hx : colm b a ^^^ colm b c < 4096 := Nat.xor_lt_two_pow (n := 12) h1 h2
        have hy : (colm b a ^^^ colm b c) &&& regB b < 4096 := Nat.and_lt_two_pow (n := 12) _ hrl
        have hz : (colm b a ^^^ colm b c) &&& t < 4096 := Nat.and_lt_two_pow (n := 12) _ ht
        refine s_X12_tellsAll_19 ok _ _ _ _ _ S ⟨fun c => absurd c (nI_ge hc (by omega)), fun _ => ?_⟩
        rw [bI0]
        simp (disch := omega) only [cl, nI_clamp, hcol a (by omega), hcol c (by omega), fb_xorI, fa_and, nI_eq0, nI_add]
        refine ⟨fun z => ?_, fun z => ⟨inI (by omega) (by decide), inI (by omega) (by decide), ?_⟩⟩
        · have : alB (tpr b t a) a = false := alB_mono (by omega) z
          rw [z]; rw [this] at ih; exact ih
        · rw [Bool.not_eq_false] at z
          rw [alB, z, Bool.true_and] at ih2
          unfold tpr at ih2
          refine ⟨fun u => ?_, fun u => ⟨fun r => ?_, fun r => ?_⟩⟩
          · rw [decide_eq_true u, Bool.true_or] at ih2; exact ih2
          · rw [decide_eq_false u, decide_eq_true r] at ih2; exact ih2
          · rw [decide_eq_false u, decide_eq_false r] at ih2; exact ih2
theorem c_X12_signFor {u : Nat} (hb : BOk b) (hC : MC S b) (hu : u < 10) (hk : K (nI (amz (fun s => bk_has b (10 * s + u)) 10)) S) : MWi l g shM m_X12_signFor [.ref (g.ad 0), .int (nI u)] S K := by
  have hle := fun k => has_le hb k
  refine MWi.intro _ rfl (Nat.le_of_ble_eq_true rfl) rfl (fun x ok => s_X12_signFor_0 ok _ S ?_)
  have e1 : nI (amz (fun s => bk_has b (10 * s + u)) 1) = nI 0 := by simp [amz]
  rw [← e1]
  refine lpU (fun s => 1 ≤ s → PW l x g shM m_X12_signFor (Qi x g shM K) 4 [(0, .ref (g.ad 0)), (1, .int (nI u)), (2, .int (nI (amz (fun s => bk_has b (10 * s + u)) s))), (3, .int (nI s))] [] S) 10 ?_ (fun s hs ih => ?_) 1 (by decide) (by decide)
  · intro _
    exact s_X12_signFor_4 ok _ _ _ S ⟨fun _ => hk, fun c => absurd (nI_le (Nat.le_refl 10) (by decide)) c⟩
  · intro h1
    have hz : amz (fun s => bk_has b (10 * s + u)) s < s := by
      obtain ⟨m, rfl⟩ : ∃ m, s = m + 1 := ⟨s - 1, by omega⟩
      exact amz_ok.1
    have ih := ih (by omega)
    have q1 := hle (10 * s + u)
    have q2 := hle (10 * amz (fun s => bk_has b (10 * s + u)) s + u)
    rw [amz] at ih
    refine s_X12_signFor_4 ok _ _ _ S ⟨fun c => absurd c (nI_ge hs (by decide)), fun _ => ?_⟩
    simp (disch := omega) only [pk_mul, nI_add, cl, nI_clamp, hC.1 (10 * s + u) (by omega), hC.1 (10 * amz (fun s => bk_has b (10 * s + u)) s + u) (by omega), nI_leI]
    refine ⟨inI (by omega) (by decide), inI (by omega) (by decide), fun y => ?_, fun y => ?_⟩
    · rw [if_neg (by omega)] at ih; exact ih
    · rw [if_pos (by omega)] at ih; exact ih
theorem c_X12_respeltAt {w i : Nat} (hb : BOk b) (hM : MB S b) (hC : MC S b) (hw : w < b.n) (hi : i < b.len w) (hk : K (nI (rsp b w i)) S) : MWi l g shM m_X12_respeltAt [.ref (g.ad 0), .int (nI w), .int (nI i)] S K := by
  have hn := hb.1
  obtain ⟨h1, h2, h3, h4, h5⟩ := hb.2 w hw
  have e3 := ((hM.2 w hw).2.2 i hi).2
  refine MWi.intro _ rfl (Nat.le_of_ble_eq_true rfl) rfl (fun x ok => s_X12_respeltAt_0 ok _ _ S ?_)
  simp (disch := omega) only [pk_mul, nI_add, cl, nI_clamp, e3]
  exact ⟨inI (by omega) (by decide), c_X12_signFor hb hC (h5 i hi).2 hk⟩
theorem c_X12_clash {w v : Nat} (hb : BOk b) (hM : MB S b) (hC : MC S b) (hw : w < b.n) (hv : v < b.n) (hk : K (nI (csh b w v).toNat) S) : MWi l g shM m_X12_clash [.ref (g.ad 0), .int (nI w), .int (nI v)] S K := by
  have hn := hb.1
  obtain ⟨h1, h2, h3, h4, h5⟩ := hb.2 w hw
  obtain ⟨e1, e2, e3⟩ := hM.2 w hw
  obtain ⟨f1, f2, f3, f4, f5⟩ := hb.2 v hv
  obtain ⟨d1, d2, d3⟩ := hM.2 v hv
  refine MWi.intro _ rfl (Nat.le_of_ble_eq_true rfl) rfl (fun x ok => s_X12_clash_0 ok _ _ S ⟨inI (by omega) (by decide), inI (by omega) (by decide), ?_⟩)
  simp (disch := omega) only [cl, nI_clamp, e1, d1, nI_eq]
  have L : PW l x g shM m_X12_clash (Qi x g shM K) 24 [(0, .ref (g.ad 0)), (1, .int (nI w)), (2, .int (nI v)), (3, .int (nI (decide (b.len w = b.len v) && alB (fun i => decide (rsp b w i = rsp b v i)) 0).toNat)), (4, .int (nI 0))] [] S := by
    refine lpU (fun i => PW l x g shM m_X12_clash (Qi x g shM K) 24 [(0, .ref (g.ad 0)), (1, .int (nI w)), (2, .int (nI v)), (3, .int (nI (decide (b.len w = b.len v) && alB (fun i => decide (rsp b w i = rsp b v i)) i).toNat)), (4, .int (nI i))] [] S) (b.len w) ?_ (fun i hi ih => ?_) 0 (Nat.zero_le _)
    · refine s_X12_clash_24 ok _ _ _ _ S ⟨inI (by omega) (by decide), fun _ => ⟨narB _, hk⟩, fun c => absurd ?_ c⟩
      simp (disch := omega) only [cl, nI_clamp, e1, nI_leI, Nat.le_refl]
    · refine s_X12_clash_24 ok _ _ _ _ S ⟨inI (by omega) (by decide), fun c => absurd c ?_, fun _ => ⟨fun z => ⟨narB _, ?_⟩, fun z => ?_⟩⟩
      · simp (disch := omega) only [cl, nI_clamp, e1, nI_leI]; omega
      · rw [bI0] at z
        rw [z]
        have hz : csh b w v = false := by
          unfold csh
          rw [Bool.and_eq_false_iff] at z ⊢
          rcases z with z | z
          · exact Or.inl z
          · exact Or.inr (alB_mono (by omega) z)
        rw [hz] at hk; exact hk
      · rw [bI0, Bool.not_eq_false, Bool.and_eq_true, decide_eq_true_eq] at z
        have r1 := rsp_lt b w i
        have r2 := rsp_lt b v i
        refine c_X12_respeltAt hb hM hC hw hi (c_X12_respeltAt hb hM hC hv (by omega) ?_)
        rw [nI_eq (by omega) (by omega), nI_add]
        refine ⟨fun y => ?_, fun y => ?_⟩
        · rw [alB, decide_eq_false y] at ih
          simpa using ih
        · rw [alB, z.2, y, z.1] at ih
          simpa using ih
  refine ⟨fun q => ?_, fun q => ?_⟩
  · rw [decide_eq_false q] at L; exact L
  · rw [decide_eq_true q] at L; exact L
end MOD5
