/-! PART 26: the model: orders, most -/
section MOD3
variable {l : Launch} {g : Geo} {S : Mem} {b : Bk} {K : Int32 → Mem → Prop}
theorem c_X12_ones {v : Nat} (hv : v < 4096) (hk : K (nI (pc v)) S) : MWi l g shM m_X12_ones [.int (nI v)] S K := by
  refine MWi.intro _ rfl (Nat.le_of_ble_eq_true rfl) rfl (fun x ok => s_X12_ones_0 ok _ S ?_)
  have L : ∀ v, v < 4096 → ∀ acc, (K (nI (acc + pc v)) S) → PW l x g shM m_X12_ones (Qi x g shM K) 4 [(1, .int (nI acc)), (2, .int (nI v))] [] S := by
    intro v
    induction v using Nat.strongRecOn with
    | _ v ih =>
      intro hv acc hk
      refine s_X12_ones_4 ok _ _ S ⟨fun c => ?_, fun c => ?_⟩
      · rw [nI_eq0 (by omega)] at c
        subst c
        exact hk
      · rw [nI_eq0 (by omega)] at c
        rcases pc_step v hv with q | ⟨q1, q2⟩
        · exact absurd q c
        · simp (disch := omega) only [pk_sub, fa_and, nI_add]
          exact ih _ q2 (by omega) (acc + 1) (by rw [show acc + 1 + pc (v &&& (v - 1)) = acc + pc v by omega]; exact hk)
  exact L v hv 0 (by rw [Nat.zero_add]; exact hk)
theorem c_X12_wholesFor {s w : Nat} (hb : BOk b) (hM : MB S b) (hC : MC S b) (hs : s < 1024) (hw : w ≤ b.n) (hk : K (nI (wfor b s w)) S) : MWi l g shM m_X12_wholesFor [.ref (g.ad 0), .int (nI s), .int (nI w)] S K := by
  have hn := hb.1
  refine MWi.intro _ rfl (Nat.le_of_ble_eq_true rfl) rfl (fun x ok => s_X12_wholesFor_0 ok _ _ S ?_)
  refine lpU (fun k => PW l x g shM m_X12_wholesFor (Qi x g shM K) 5 [(0, .ref (g.ad 0)), (1, .int (nI s)), (2, .int (nI w)), (3, .int (nI (wfor b s k))), (4, .int (nI k))] [] S) w ?_ (fun k hkw ih => ?_) 0 (Nat.zero_le _)
  · exact s_X12_wholesFor_5 ok _ _ _ _ S ⟨fun _ => hk, fun c => absurd (nI_le (Nat.le_refl w) (by omega)) c⟩
  · have hl := wfor_lt hb s k
    refine s_X12_wholesFor_5 ok _ _ _ _ S ⟨fun c => absurd c (nI_ge hkw (by omega)), fun _ => ?_⟩
    refine lpU (fun v => PW l x g shM m_X12_wholesFor (Qi x g shM K) 18 [(0, .ref (g.ad 0)), (1, .int (nI s)), (2, .int (nI w)), (3, .int (nI (wfor b s k))), (4, .int (nI k)), (5, .int (oI (am (fun w => !(wfor b s k).testBit w && !bk_given b s w) b.of v))), (6, .int (nI v))] [] S) b.n ?_ (fun v hv ih2 => ?_) 0 (Nat.zero_le _)
    · refine s_X12_wholesFor_18 ok _ _ _ _ _ _ S ⟨fun _ => ?_, fun c => absurd ?_ c⟩
      · rw [wfor] at ih
        cases hm : am (fun w => !(wfor b s k).testBit w && !bk_given b s w) b.of b.n with
        | none =>
          rw [hm] at ih
          refine ⟨fun c => absurd c (by decide), fun _ => ?_⟩
          simp (disch := omega) only [fa_or, Nat.or_zero, nI_add]
          exact ih
        | some j =>
          have := am_lt hm
          rw [hm] at ih
          refine ⟨fun _ => ?_, fun c => absurd (nI_pos' (by omega)) c⟩
          simp (disch := omega) only [oI_some, jshl_1, fa_or, nI_add]
          exact ih
      · simp (disch := omega) only [hM.1, nI_leI, Nat.le_refl]
    · refine s_X12_wholesFor_18 ok _ _ _ _ _ _ S ⟨fun c => absurd c ?_, fun _ => ?_⟩
      · simp (disch := omega) only [hM.1, nI_leI]; omega
      simp (disch := omega) only [bit_n, bI0]
      refine ⟨fun y => s_X12_wholesFor_50 ok _ _ _ _ _ _ S ?_, fun y => c_X12_isGiven hb hM hC hv hs ?_⟩
      · rw [Bool.not_eq_false] at y
        rw [nI_add]
        rw [am_no (by simp [y])] at ih2; exact ih2
      · rw [bI0]
        refine ⟨fun z => s_X12_wholesFor_50 ok _ _ _ _ _ _ S ?_, fun z => ?_⟩
        · rw [Bool.not_eq_false] at z
          rw [nI_add]
          rw [am_no (by simp [z])] at ih2; exact ih2
        · have hp : (fun w => !(wfor b s k).testBit w && !bk_given b s w) v = true := by simp [y, z]
          have hlt : ∀ j, am (fun w => !(wfor b s k).testBit w && !bk_given b s w) b.of v = some j → j < 2 ^ 31 := fun j h => by have := am_lt h; omega
          have e2 := (hM.2 v hv).2.1
          have o2 := (hb.2 v hv).2.2.2.1
          rw [oI_lt0 hlt, nI_add]
          refine ⟨fun u => ?_, fun u => ?_⟩
          · rw [am_one hp u] at ih2; exact ih2
          · cases hm : am (fun w => !(wfor b s k).testBit w && !bk_given b s w) b.of v with
            | none => exact absurd hm u
            | some j =>
              have hj := am_lt hm
              have fj := (hM.2 j (by omega)).2.1
              have oj := (hb.2 j (by omega)).2.2.2.1
              simp (disch := omega) only [oI_some, cl, nI_clamp, e2, fj, nI_leI]
              refine ⟨inI (by omega) (by decide), inI (by omega) (by decide), fun y2 => ?_, fun y2 => ?_⟩
              · rw [am_less hm y2] at ih2; exact ih2
              · rw [am_more hp hm (by omega)] at ih2; exact ih2
/-- what most tells: the best set so far -/
def mostO (b : Bk) (k w n : Nat) : Option Nat := am (fun set => decide (pc set = k)) (fun set => bk_gives b set (wfor b set w)) n
theorem most_some {b : Bk} {k : Nat} (w : Nat) (hk : k ≤ 10) : ∃ t, mostO b k w 1024 = some t := by
  cases h : mostO b k w 1024 with
  | some t => exact ⟨t, rfl⟩
  | none =>
    obtain ⟨q1, q2⟩ := pc_some k (by omega)
    have := am_none.mp h _ q2
    simp [q1] at this
theorem c_X12_mostL {k w v : Nat} {x : Cx} (ok : Ok x g shM m_X12_most) (hb : BOk b) (hM : MB S b) (hC : MC S b) (hk10 : k ≤ 10) (hw : w ≤ b.n) (hv : v < 3) {t : Nat} (ht : mostO b k w 1024 = some t)
    (hk : K (if v = 0 then nI (bk_gives b t (wfor b t w)) else if v = 1 then nI t else nI (wfor b t w)) S) :
    PW l x g shM m_X12_most (Qi x g shM K) 58 [(0, .ref (g.ad 0)), (1, .int (nI k)), (2, .int (nI w)), (3, .int (nI v)), (4, .int (-6)), (5, .int (nI 0)), (6, .int (nI 0)), (7, .int (nI 0))] [] S := by
  have hn := hb.1
  refine lpU (fun i => PW l x g shM m_X12_most (Qi x g shM K) 58 [(0, .ref (g.ad 0)), (1, .int (nI k)), (2, .int (nI w)), (3, .int (nI v)), (4, .int (match mostO b k w i with | none => -6 | some t => nI (bk_gives b t (wfor b t w)))), (5, .int (match mostO b k w i with | none => nI 0 | some t => nI t)), (6, .int (match mostO b k w i with | none => nI 0 | some t => nI (wfor b t w))), (7, .int (nI i))] [] S) 1024 ?_ (fun i hi ih => ?_) 0 (Nat.zero_le _)
  · rw [ht]
    dsimp only
    refine s_X12_most_58 ok _ _ _ _ _ _ _ S ⟨fun _ => ?_, fun c => absurd (nI_le (Nat.le_refl 1024) (by decide)) c⟩
    simp (disch := omega) only [nI_eq, nI_eq0]
    refine ⟨fun y => ⟨fun z => ?_, fun z => ?_⟩, fun y => ?_⟩
    · rw [if_neg y, if_neg z] at hk; exact hk
    · rw [if_neg y, if_pos z] at hk; exact hk
    · rw [if_pos y] at hk; exact hk
  · refine s_X12_most_58 ok _ _ _ _ _ _ _ S ⟨fun c => absurd c (nI_ge hi (by decide)), fun _ => c_X12_ones (by omega) ?_⟩
    have hpl := pc_le i
    simp (disch := omega) only [nI_eq, nI_add]
    refine ⟨fun y => ?_, fun y => c_X12_wholesFor hb hM hC hi hw (c_X12_givesOf hb hM hC hi (wfor_lt hb i w) ?_)⟩
    · have e : mostO b k w (i + 1) = mostO b k w i := am_no (by simpa using y)
      rw [e] at ih; exact ih
    · have hp : (fun set => decide (pc set = k)) i = true := by simpa using y
      have hg := gives_le hb i (wfor b i w)
      cases hm : mostO b k w i with
      | none =>
        have e : mostO b k w (i + 1) = some i := am_one hp hm
        rw [e] at ih
        refine ⟨fun c => absurd c ?_, fun _ => ih⟩
        rw [fa_le, nI_toInt (by omega)]
        have : (-6 : Int32).toInt = -6 := by decide
        dsimp only
        omega
      | some j =>
        have hgj := gives_le hb j (wfor b j w)
        dsimp only
        simp (disch := omega) only [nI_leI]
        refine ⟨fun c => ?_, fun c => ?_⟩
        · have e : mostO b k w (i + 1) = some j := am_less hm c
          rw [e] at ih; exact ih
        · have e : mostO b k w (i + 1) = some i := am_more hp hm (by omega)
          rw [e] at ih; exact ih
set_option maxHeartbeats 1000000 in
theorem c_X12_findOrder {K : Mem → Prop} (hb : BOk b) (hM : MB S b) (hk : ∀ S2, (∀ a, a < 6 ∨ 8 < a → a ≠ 12 → a ≠ 13 → S2 a = S a) → (∀ t, t < 1024 → S2 12 t = nI (bk_gives b t 0) ∧ S2 13 t = nI (ah (fun t => bk_gives b t 0) t)) → K S2) : MWv l g shM m_X12_findOrder [.ref (g.ad 0)] S K := by
  have hn := hb.1
  have hgl : ∀ t, bk_gives b t 0 ≤ 11988 := fun t => gives_le hb t 0
  have hal : ∀ t, ah (fun t => bk_gives b t 0) t ≤ 1024 * 11988 := fun t => ah_le hgl t
  refine MWv.intro _ rfl (Nat.le_of_ble_eq_true rfl) rfl (fun x ok => s_X12_findOrder_0 ok S (c_X12_findCommon hb hM (fun S1 o1 hC => ?_)))
  have hM1 : MB S1 b := hM.of (by rw [o1 0 (by omega)]) (fun a _ _ => o1 a (by omega))
  have L : ∀ k, k ≤ 1024 → ∀ S2 : Mem, (∀ a, a ≠ 12 → a ≠ 13 → S2 a = S1 a) → (∀ t, k ≤ t → t < 1024 → S2 12 t = nI (bk_gives b t 0) ∧ S2 13 t = nI (ah (fun t => bk_gives b t 0) t)) → PW l x g shM m_X12_findOrder (Qv x g shM K) 8 [(0, .ref (g.ad 0)), (1, .int (lvI k))] [] S2 := by
    intro k
    induction k with
    | zero =>
      intro _ S2 g1 g2
      exact s_X12_findOrder_8 ok _ S2 ⟨fun _ => hk S2 (fun a h1 h2 h3 => by rw [g1 a h2 h3]; exact o1 a h1) (fun t ht => g2 t (by omega) ht), fun c => absurd (by decide) c⟩
    | succ set ih =>
      intro hset S2 g1 g2
      have hM2 : MB S2 b := hM1.of (by rw [g1 0 (by decide) (by decide)]) (fun a _ _ => g1 a (by omega) (by omega))
      have hC2 : MC S2 b := hC.of (fun a _ _ => g1 a (by omega) (by omega))
      refine s_X12_findOrder_8 ok _ S2 ⟨fun c => absurd c (nI_pos (by omega)), fun _ => ?_⟩
      show MWi l g shM m_X12_givesOf [.ref (g.ad 0), .int (nI set), .int (nI 0)] S2 _
      refine c_X12_givesOf hb hM2 hC2 (by omega) (by decide) ⟨inI (by omega) (by decide), inI (by omega) (by decide), ?_⟩
      show PW l x g shM m_X12_findOrder (Qv x g shM K) 33 [(0, .ref (g.ad 0)), (1, .int (nI set)), (2, .int (nI 0))] [] (st2 (st2 S2 12 (cl (nI set)) (nI (bk_gives b set 0))) 13 (cl (nI set)) (nI 0))
      refine lpU (fun s => ∀ S3 : Mem, (∀ a, a ≠ 12 → a ≠ 13 → S3 a = S1 a) → (∀ t, set + 1 ≤ t → t < 1024 → S3 12 t = nI (bk_gives b t 0) ∧ S3 13 t = nI (ah (fun t => bk_gives b t 0) t)) → S3 12 set = nI (bk_gives b set 0) → S3 13 set = nI (mxS (ahs (fun t => bk_gives b t 0) set) s) → PW l x g shM m_X12_findOrder (Qv x g shM K) 33 [(0, .ref (g.ad 0)), (1, .int (nI set)), (2, .int (nI s))] [] S3) 10 ?_ (fun s hs ih2 => ?_) 0 (Nat.zero_le _) _ (fun a h1 h2 => by rw [st2_off h2, st2_off h1]; exact g1 a h1 h2) (fun t h1 h2 => ?_) ?_ ?_
      · intro S3 k1 k2 k3 k4
        refine s_X12_findOrder_33 ok _ _ S3 ⟨fun _ => ?_, fun c => absurd (nI_le (Nat.le_refl 10) (by decide)) c⟩
        rw [lvI_pred]
        refine ih (by omega) S3 k1 (fun t h1 h2 => ?_)
        rcases Nat.lt_or_ge set t with q | q
        · exact k2 t q h2
        · have : t = set := by omega
          subst this
          exact ⟨k3, by rw [k4, ah_eq (by omega)]⟩
      · intro S3 k1 k2 k3 k4
        have hor := or_lt (v := set) (k := 10) (by omega) hs
        have hmx : mxS (ahs (fun t => bk_gives b t 0) set) s ≤ 12288000 := mxS_le (fun i _ => by
          unfold ahs; dsimp only
          have h1 := hgl (set ||| 2 ^ i)
          have h2 := hal (set ||| 2 ^ i)
          split <;> omega)
        refine s_X12_findOrder_33 ok _ _ S3 ⟨fun c => absurd c (nI_ge hs (by decide)), fun _ => ?_⟩
        simp (disch := omega) only [jshl_1, fa_or, cl, nI_clamp, nI_eq, nI_add, k4]
        refine ⟨inI (by omega) (by decide), inI (by omega) (by decide), fun y => ⟨inI (by omega) (by decide), inI (by omega) (by decide), ?_⟩, fun y => ⟨inI (by omega) (by decide), ?_⟩⟩
        · rw [or_same] at y
          refine ih2 _ (fun a h1 h2 => by rw [st2_off h2]; exact k1 a h1 h2) (fun t h1 h2 => by rw [st2_off (by decide), st2_get, if_neg (by omega)]; exact k2 t h1 h2) (by rw [st2_off (by decide)]; exact k3) ?_
          rw [st2_get, if_pos rfl, mxS]
          unfold ahs; dsimp only
          rw [y]
          simp
        · rw [or_same, Bool.not_eq_true] at y
          have hgt := or_gt y
          obtain ⟨d1, d2⟩ := k2 (set ||| 2 ^ s) (by omega) hor
          have h1 := hgl (set ||| 2 ^ s)
          have h2 := hal (set ||| 2 ^ s)
          have ev : ahs (fun t => bk_gives b t 0) set s = bk_gives b (set ||| 2 ^ s) 0 + ah (fun t => bk_gives b t 0) (set ||| 2 ^ s) := by
            unfold ahs; rw [y]; simp
          simp (disch := omega) only [d1, d2, nI_add, nI_leI]
          refine ⟨fun z => ⟨inI (by omega) (by decide), inI (by omega) (by decide), ?_⟩, fun z => ⟨inI (by omega) (by decide), ?_⟩⟩
          · refine ih2 _ (fun a h1 h2 => by rw [st2_off h2]; exact k1 a h1 h2) (fun t h1 h2 => by rw [st2_off (by decide), st2_get, if_neg (by omega)]; exact k2 t h1 h2) (by rw [st2_off (by decide)]; exact k3) ?_
            rw [st2_get, if_pos rfl, mxS, ev, if_neg (by omega)]
          · refine ih2 _ (fun a h1 h2 => by rw [st2_off h2]; exact k1 a h1 h2) (fun t h1 h2 => by rw [st2_off (by decide), st2_get, if_neg (by omega)]; exact k2 t h1 h2) (by rw [st2_off (by decide)]; exact k3) ?_
            rw [st2_get, if_pos rfl, mxS, ev, if_pos (by omega)]
      · rw [cl, nI_clamp (by omega), st2_off (by decide), st2_get, if_neg (by omega), st2_get, if_neg (by omega), st2_off (by decide)]
        exact g2 t h1 h2
      · rw [cl, nI_clamp (by omega), st2_off (by decide), st2_get, if_pos rfl]
      · rw [cl, nI_clamp (by omega), st2_get, if_pos rfl]; rfl
  exact L 1024 (Nat.le_refl _) S1 (fun _ _ _ => rfl) (fun t h1 h2 => by omega)
end MOD3
