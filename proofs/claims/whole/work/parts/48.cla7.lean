/-! PART 48: the class: the tale -/
theorem andnot_n {a w : Nat} (hw : w < 31) (h : a.testBit w = true) : nI a &&& (nI (2 ^ w) ^^^ (-1)) = nI (a ^^^ 2 ^ w) := by
  apply Int32.toBitVec_inj.1
  have e3 : (-1 : Int32).toBitVec = BitVec.allOnes 32 := by decide
  rw [Int32.toBitVec_and, Int32.toBitVec_xor, e3]
  show BitVec.ofNat 32 a &&& (BitVec.ofNat 32 (2 ^ w) ^^^ BitVec.allOnes 32) = BitVec.ofNat 32 (a ^^^ 2 ^ w)
  apply BitVec.eq_of_getLsbD_eq
  intro i hi
  simp only [BitVec.getLsbD_and, BitVec.getLsbD_xor, BitVec.getLsbD_ofNat, BitVec.getLsbD_allOnes, hi, decide_true, Bool.true_and]
  rw [xor_off h, Nat.testBit_two_pow]
  cases a.testBit i <;> by_cases e : w = i <;> simp [e]
theorem lng_eq {b : Bk} {rb : Nat → Bool} {R m : Nat} (hn : b.n ≤ 12) (hR4 : R < 4096) (hR : ∀ v, R.testBit v = true ↔ v < b.n ∧ rb v = true) (h1 : ∀ T, sub T R → 0 < T → st b T ≠ 0 → pc T ≤ m) (h2 : m = 0 ∨ ∃ T, sub T R ∧ 0 < T ∧ st b T ≠ 0 ∧ pc T = m) : lng b rb = m := by
  have a1 : lng b rb ≤ m := mxS_le (fun w hw => by
    unfold cvl
    split
    · rename_i hc
      unfold cnd at hc
      simp only [Bool.and_eq_true, Bool.not_eq_true'] at hc
      obtain ⟨T, t1, t2, t3, t4⟩ := st_some (rb := rb) hn 4096 0 w (by omega) (by decide) hw hc.2.1 (Nat.zero_testBit w)
      rw [← t4]
      refine h1 T (sub_iff.mpr (fun i hi => (hR i).mpr ⟨(t2 i hi).1, (t2 i hi).2.1⟩)) ?_ (fun q => ?_)
      · rcases Nat.eq_zero_or_pos T with q | q
        · rw [q, pc_0] at t4; omega
        · exact q
      · rw [q, Nat.zero_testBit] at t3; cases t3
    · omega)
  have a2 : m ≤ lng b rb := by
    rcases h2 with h2 | ⟨T, t1, t2, t3, t4⟩
    · omega
    · have hT4 : T < 4096 := by have := sub_le t1; omega
      obtain ⟨w, hw⟩ := Nat.exists_testBit_of_ne_zero t3
      have hv : ∀ v, T.testBit v = true → v < b.n ∧ rb v = true ∧ (0 : Nat).testBit v = false := fun v hv => by
        obtain ⟨q1, q2⟩ := (hR v).mp (sub_iff.mp t1 v hv)
        exact ⟨q1, q2, Nat.zero_testBit v⟩
      have h3 := st_most (rb := rb) hn T 0 w hT4 (by decide) hv hw
      obtain ⟨hwn, hp⟩ := (st_bit hT4).mp hw
      unfold stP at hp
      rw [Bool.and_eq_true] at hp
      obtain ⟨q1, q2, q3⟩ := hv w hp.1
      have h4 := mxS_ge (f := cvl b rb 0 none) hwn
      have h5 : cvl b rb 0 none w = 1 + mc b rb (0 ||| 2 ^ w) w := by
        unfold cvl cnd
        rw [if_pos (by simp [q2])]
      unfold lng
      omega
  omega
section CLA7
variable {l : Launch} {g : Geo} {S : Mem} {b : Bk} {K : Int32 → Mem → Prop}
theorem c_X10_nextWithin {set R : Nat} (hR : R < 4096) (hs : sub set R) (hk : K (nI (nxw set R)) S) : MWi l g shX m_X10_nextWithin [.int (nI set), .int (nI R)] S K :=
  MWi.intro _ rfl (Nat.le_of_ble_eq_true rfl) rfl (fun x ok => s_X10_nextWithin_0 ok _ _ S (by rw [nxw_I hR hs]; exact hk))
theorem c_X10_findBehind {K : Mem → Prop} (hb : BOk b) (hX : XB S 4 b) (hk : ∀ S2, (∀ a, a ≠ 33 → S2 a = S a) → (∀ w, w < b.n → S2 33 w = nI (beh b w)) → K S2) : MWv l g shX m_X10_findBehind [.ref (g.ad 31)] S K := by
  have hn := hb.1
  refine MWv.intro _ rfl (Nat.le_of_ble_eq_true rfl) rfl (fun x ok => s_X10_findBehind_0 ok S ?_)
  refine lpU (fun w => ∀ S2 : Mem, (∀ a, a ≠ 33 → S2 a = S a) → (∀ u, u < w → S2 33 u = nI (beh b u)) → PW l x g shX m_X10_findBehind (Qv x g shX K) 2 [(0, .ref (g.ad 31)), (1, .int (nI w))] [] S2) b.n ?_ (fun w hw ih => ?_) 0 (Nat.zero_le _) S (fun _ _ => rfl) (fun j hj => by omega)
  · intro S2 g1 g2
    have hX2 : XB S2 4 b := hX.of (fun a h1 h2 => g1 a (by omega))
    refine s_X10_findBehind_2 ok _ S2 ⟨fun _ => hk S2 g1 g2, fun c => absurd ?_ c⟩
    simp (disch := omega) only [hX2.1, nI_leI, Nat.le_refl]
  · intro S2 g1 g2
    have hX2 : XB S2 4 b := hX.of (fun a h1 h2 => g1 a (by omega))
    refine s_X10_findBehind_2 ok _ S2 ⟨fun c => absurd c ?_, fun _ => ⟨inI (by omega) (by decide), ?_⟩⟩
    · simp (disch := omega) only [hX2.1, nI_leI]; omega
    rw [cl, nI_clamp (by omega)]
    refine lpU (fun v => ∀ S3 : Mem, (∀ a, a ≠ 33 → S3 a = S a) → (∀ u, u < w → S3 33 u = nI (beh b u)) → S3 33 w = nI (orB (fun v => if fol b w v = true then 2 ^ v else 0) v) → PW l x g shX m_X10_findBehind (Qv x g shX K) 22 [(0, .ref (g.ad 31)), (1, .int (nI w)), (2, .int (nI v))] [] S3) b.n ?_ (fun v hv ih2 => ?_) 0 (Nat.zero_le _) _ (fun a ha => by rw [st2_off ha]; exact g1 a ha) (fun u hu => by rw [st2_get, if_neg (by omega)]; exact g2 u hu) (by rw [st2_get, if_pos rfl]; rfl)
    · intro S3 r1 r2 r3
      have hX3 : XB S3 4 b := hX.of (fun a h1 h2 => r1 a (by omega))
      refine s_X10_findBehind_22 ok _ _ S3 ⟨fun _ => ?_, fun c => absurd ?_ c⟩
      · rw [nI_add]
        refine ih S3 r1 (fun u hu => ?_)
        rcases Nat.lt_or_ge u w with q | q
        · exact r2 u q
        · have : u = w := by omega
          subst this; exact r3
      · simp (disch := omega) only [hX3.1, nI_leI, Nat.le_refl]
    · intro S3 r1 r2 r3
      have hX3 : XB S3 4 b := hX.of (fun a h1 h2 => r1 a (by omega))
      have q1 := ((hb.2 v hv).2.2.2.2 0 (hb.2 v hv).1).1
      have q0 := (hb.2 w hw).1
      have q2 : lastS b w < 10 := ((hb.2 w hw).2.2.2.2 (b.len w - 1) (by omega)).1
      refine s_X10_findBehind_22 ok _ _ S3 ⟨fun c => absurd c ?_, fun _ => c_X1_firstSign hb hX3 hv (c_X1_lastSign hb hX3 hw ?_)⟩
      · simp (disch := omega) only [hX3.1, nI_leI]; omega
      simp (disch := omega) only [nI_eq, nI_add, cl, nI_clamp, jshl_1, r3, fa_or]
      rw [orB] at ih2
      have ef : fol b w v = decide (lastS b w = b.sg v 0) := rfl
      refine ⟨fun y => ih2 S3 r1 r2 ?_, fun y => ⟨inI (by omega) (by decide), inI (by omega) (by decide), ih2 _ (fun a ha => by rw [st2_off ha]; exact r1 a ha) (fun u hu => by rw [st2_get, if_neg (by omega)]; exact r2 u hu) ?_⟩⟩
      · rw [r3, ef, decide_eq_false (fun q => y q.symm)]; simp
      · rw [st2_get, if_pos rfl, ef, decide_eq_true y.symm]; simp
theorem c_X10_startsOf {T : Nat} (hb : BOk b) (hX : XB S 4 b) (hT : T < 4096) (h33 : ∀ w, w < b.n → S 33 w = nI (beh b w)) (h32 : ∀ w, w < b.n → T.testBit w = true → ¬ T ^^^ 2 ^ w = 0 → S 32 (T ^^^ 2 ^ w) = nI (st b (T ^^^ 2 ^ w))) (hk : K (nI (st b T)) S) : MWi l g shX m_X10_startsOf [.ref (g.ad 31), .int (nI T)] S K := by
  have hn := hb.1
  refine MWi.intro _ rfl (Nat.le_of_ble_eq_true rfl) rfl (fun x ok => s_X10_startsOf_0 ok _ S ?_)
  rw [st_eq hT] at hk
  refine lpU (fun w => PW l x g shX m_X10_startsOf (Qi x g shX K) 4 [(0, .ref (g.ad 31)), (1, .int (nI T)), (2, .int (nI (orB (fun w => if stP b (st b) T w = true then 2 ^ w else 0) w))), (3, .int (nI w))] [] S) b.n ?_ (fun w hw ih => ?_) 0 (Nat.zero_le _)
  · refine s_X10_startsOf_4 ok _ _ _ S ⟨fun _ => hk, fun c => absurd ?_ c⟩
    simp (disch := omega) only [hX.1, nI_leI, Nat.le_refl]
  · have hp : 2 ^ w < 2 ^ 12 := Nat.pow_lt_pow_right (by decide) (by omega)
    have hx : T ^^^ 2 ^ w < 4096 := Nat.xor_lt_two_pow (n := 12) hT hp
    have ha : T &&& 2 ^ w < 4096 := Nat.and_lt_two_pow _ hp
    have hbe : beh b w < 4096 := Nat.lt_of_lt_of_le (orB_lt (k := b.n) (fun i hi => by
      split
      · exact Nat.pow_lt_pow_right (by decide) hi
      · exact Nat.two_pow_pos _)) (Nat.pow_le_pow_right (n := 2) (by decide) hn)
    have hst := st_lt hn (T ^^^ 2 ^ w)
    have hal : st b (T ^^^ 2 ^ w) &&& beh b w < 4096 := Nat.and_lt_two_pow (n := 12) _ hbe
    refine s_X10_startsOf_4 ok _ _ _ S ⟨fun c => absurd c ?_, fun _ => ?_⟩
    · simp (disch := omega) only [hX.1, nI_leI]; omega
    simp (disch := omega) only [jshl_1, fa_and, fa_xor, fa_or, nI_eq0, nI_add, cl, nI_clamp, and_pow0, h33 w hw]
    rw [orB] at ih
    have eP : stP b (st b) T w = (T.testBit w && (decide (T ^^^ 2 ^ w = 0) || decide (¬ st b (T ^^^ 2 ^ w) &&& beh b w = 0))) := rfl
    refine ⟨fun y => ?_, fun y => ?_⟩
    · rw [eP, y] at ih
      simpa using ih
    · rw [Bool.not_eq_false] at y
      rw [eP, y, Bool.true_and] at ih
      refine ⟨fun z => ?_, fun z => ⟨inI hx (by decide), inI (by omega) (by decide), ?_⟩⟩
      · rw [decide_eq_true z, Bool.true_or, if_pos rfl] at ih
        exact ih
      · rw [decide_eq_false z, Bool.false_or] at ih
        rw [h32 w hw y z, fa_and, nI_eq0 (by omega)]
        refine ⟨fun u => ?_, fun u => ?_⟩
        · rw [decide_eq_false (fun q => q u)] at ih
          simpa using ih
        · rw [decide_eq_true u, if_pos rfl] at ih
          exact ih
def lsQ (b : Bk) (fr k ft set v : Nat) : Prop := ∃ T, sub T fr ∧ 0 < T ∧ T ≤ set ∧ pc T = k ∧ (st b T).testBit v = true ∧ ft.testBit v = true
theorem c_X10_leastStart {fr k ft t : Nat} (hn : b.n ≤ 12) (hfr : fr < 4096) (hk12 : k ≤ 12) (hft : ft < 4096) (h32 : ∀ T, sub T fr → 0 < T → S 32 T = nI (st b T)) (ht : t < 12) (ht1 : lsQ b fr k ft fr t) (ht2 : ∀ j, j < t → ¬ lsQ b fr k ft fr j) (hk : K (nI t) S) : MWi l g shX m_X10_leastStart [.ref (g.ad 31), .int (nI fr), .int (nI k), .int (nI ft)] S K := by
  refine MWi.intro _ rfl (Nat.le_of_ble_eq_true rfl) rfl (fun x ok => s_X10_leastStart_0 ok _ _ _ S ?_)
  have fin : ∀ F, F < 4096 → (∀ v, F.testBit v = true ↔ lsQ b fr k ft fr v) → PW l x g shX m_X10_leastStart (Qi x g shX K) 63 [(4, .int (nI F)), (6, .int (nI 0))] [] S := by
    intro F hF hv
    refine lpU (fun j => PW l x g shX m_X10_leastStart (Qi x g shX K) 63 [(4, .int (nI F)), (6, .int (nI j))] [] S) t ?_ (fun j hj ih => ?_) 0 (Nat.zero_le _)
    · refine s_X10_leastStart_63 ok _ _ S ⟨fun c => absurd c (nI_ge ht (by decide)), fun _ => c_X11_hasBit (by omega) (by omega) ?_⟩
      rw [bI0, (hv t).mpr ht1]
      exact ⟨fun c => (by cases c), fun _ => hk⟩
    · refine s_X10_leastStart_63 ok _ _ S ⟨fun c => absurd c (nI_ge (by omega : j < 12) (by decide)), fun _ => c_X11_hasBit (by omega) (by omega) ?_⟩
      have : F.testBit j = false := by
        cases q : F.testBit j with
        | false => rfl
        | true => exact absurd ((hv j).mp q) (ht2 j hj)
      rw [bI0, this, nI_add]
      exact ⟨fun _ => ih, fun c => absurd rfl c⟩
  have main : ∀ d set i F, fr ≤ set + d → sub set fr → i ≤ set + 1 → F < 4096 → (∀ v, F.testBit v = true ↔ lsQ b fr k ft set v) → PW l x g shX m_X10_leastStart (Qi x g shX K) 9 [(0, .ref (g.ad 31)), (1, .int (nI fr)), (2, .int (nI k)), (3, .int (nI ft)), (4, .int (nI F)), (5, .int (nI set)), (6, .int (nI i))] [] S := by
    intro d
    induction d with
    | zero =>
      intro set i F h1 h2 h3 h4 h5
      have hle := sub_le h2
      have e : set = fr := by omega
      subst e
      refine s_X10_leastStart_9 ok _ _ _ _ _ _ S ⟨fun _ => fin F h4 h5, fun _ => ⟨fun _ => fin F h4 h5, fun c => absurd rfl c⟩⟩
    | succ d ih =>
      intro set i F h1 h2 h3 h4 h5
      have hle := sub_le h2
      by_cases e : set = fr
      · subst e
        exact s_X10_leastStart_9 ok _ _ _ _ _ _ S ⟨fun _ => fin F h4 h5, fun _ => ⟨fun _ => fin F h4 h5, fun c => absurd rfl c⟩⟩
      · obtain ⟨n1, n2, n3⟩ := nxw_ok hfr h2 e
        have hx := sub_le n1
        have hpl := pc_le (nxw set fr)
        refine s_X10_leastStart_9 ok _ _ _ _ _ _ S ⟨fun c => absurd c (nI_ge (by omega) (by decide)), fun _ => ⟨fun c => absurd ((nI_eq (by omega) (by omega)).mp c) e, fun _ => c_X10_nextWithin hfr h2 (c_bitCount (by omega) ?_)⟩⟩
        simp (disch := omega) only [nI_eq, nI_add, cl, nI_clamp]
        refine ⟨fun y => ih _ _ F (by omega) n1 (by omega) h4 (fun v => ?_), fun y => ⟨inI (by omega) (by decide), ?_⟩⟩
        · rw [h5 v]
          constructor
          · rintro ⟨T, t1, t2, t3, t4⟩
            exact ⟨T, t1, t2, by omega, t4⟩
          · rintro ⟨T, t1, t2, t3, t4, t5⟩
            refine ⟨T, t1, t2, ?_, t4, t5⟩
            rcases Nat.lt_or_ge set T with q | q
            · have := n3 T t1 q
              have : T = nxw set fr := by omega
              subst this
              exact absurd t4 y
            · exact q
        · rw [h32 _ n1 (by omega), fa_and, fa_or]
          refine ih _ _ _ (by omega) n1 (by omega) (Nat.or_lt_two_pow (n := 12) h4 (Nat.and_lt_two_pow (n := 12) _ hft)) (fun v => ?_)
          rw [Nat.testBit_or, Nat.testBit_and, Bool.or_eq_true, Bool.and_eq_true, h5 v]
          constructor
          · rintro (⟨T, t1, t2, t3, t4⟩ | ⟨t1, t2⟩)
            · exact ⟨T, t1, t2, by omega, t4⟩
            · exact ⟨_, n1, by omega, Nat.le_refl _, y, t1, t2⟩
          · rintro ⟨T, t1, t2, t3, t4, t5, t6⟩
            rcases Nat.lt_or_ge set T with q | q
            · have := n3 T t1 q
              have : T = nxw set fr := by omega
              subst this
              exact Or.inr ⟨t5, t6⟩
            · exact Or.inl ⟨T, t1, t2, q, t4, t5, t6⟩
  refine main fr 0 1 0 (by omega) (by unfold sub; exact Nat.zero_and _) (by omega) (by decide) (fun v => ?_)
  rw [Nat.zero_testBit]
  exact ⟨fun h => (by cases h), fun ⟨T, _, t2, t3, _⟩ => by omega⟩
end CLA7
