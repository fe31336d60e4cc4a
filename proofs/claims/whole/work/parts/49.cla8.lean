/-! PART 49: the class: the tale, its row -/
section CLA8
variable {l : Launch} {g : Geo} {S : Mem} {b : Bk} {K : Int32 → Mem → Prop}
theorem beh_lt {b : Bk} (hn : b.n ≤ 12) (w : Nat) : beh b w < 4096 := Nat.lt_of_lt_of_le (orB_lt (k := b.n) (fun i hi => by
  split
  · exact Nat.pow_lt_pow_right (by decide) hi
  · exact Nat.two_pow_pos _)) (Nat.pow_le_pow_right (n := 2) (by decide) hn)
/-- does the last word let v follow -/
def fitO (b : Bk) (last : Option Nat) (v : Nat) : Bool := match last with
  | none => true
  | some a => fol b a v
theorem cnd_eq {b : Bk} {rb : Nat → Bool} {set : Nat} {last : Option Nat} {v : Nat} : cnd b rb set last v = (!set.testBit v && (rb v && fitO b last v)) := by
  unfold cnd fitO
  cases last <;> rfl
theorem c_X10_pickRow {K : Mem → Prop} {R : Nat} {rb : Nat → Bool} (hb : BOk b) (hR4 : R < 4096) (hR : ∀ v, R.testBit v = true ↔ v < b.n ∧ rb v = true) (h4 : S 31 4 = nI (lng b rb)) (hl12 : lng b rb ≤ 12) (h32 : ∀ T, sub T R → 0 < T → S 32 T = nI (st b T)) (h33 : ∀ w, w < b.n → S 33 w = nI (beh b w)) (hk : ∀ S2, (∀ a, a ≠ 34 → S2 a = S a) → (∀ i, i < lng b rb → S2 34 i = oI (tst b rb (i + 1)).2) → K S2) : MWv l g shX m_X10_pickRow [.ref (g.ad 31), .int (nI R)] S K := by
  have hn := hb.1
  refine MWv.intro _ rfl (Nat.le_of_ble_eq_true rfl) rfl (fun x ok => s_X10_pickRow_0 ok _ S ?_)
  refine lpU (fun i => ∀ (S2 : Mem) (fr ft : Nat), (∀ a, a ≠ 34 → S2 a = S a) → (∀ j, j < i → S2 34 j = oI (tst b rb (j + 1)).2) → fr < 4096 → (∀ v, fr.testBit v = true ↔ R.testBit v = true ∧ (tst b rb i).1.testBit v = false) → ft < 4096 → (∀ v, v < b.n → rb v = true → ft.testBit v = fitO b (tst b rb i).2 v) → PW l x g shX m_X10_pickRow (Qv x g shX K) 7 [(0, .ref (g.ad 31)), (2, .int (nI fr)), (3, .int (nI ft)), (4, .int (nI i))] [] S2) (lng b rb) ?_ (fun i hi ih => ?_) 0 (Nat.zero_le _) S R R (fun _ _ => rfl) (fun j hj => by omega) hR4 (fun v => ?_) hR4 (fun v h1 h2 => ?_)
  · intro S2 fr ft g1 g2 _ _ _ _
    refine s_X10_pickRow_7 ok _ _ _ S2 ⟨fun _ => hk S2 g1 g2, fun c => absurd ?_ c⟩
    rw [g1 31 (by decide), h4]
    exact nI_le (Nat.le_refl _) (by omega)
  · intro S2 fr ft g1 g2 g3 g4 g5 g6
    have e4 : S2 31 4 = nI (lng b rb) := by rw [g1 31 (by decide)]; exact h4
    obtain ⟨u1, u2⟩ := tst_ok (rb := rb) hn (k := i) (by omega)
    obtain ⟨n1, n2, n3, n4⟩ := tnx_ok (by omega) u2
    have et : tst b rb (i + 1) = ((tst b rb i).1 ||| 2 ^ tnx b rb (tst b rb i).1 (tst b rb i).2 (lng b rb - i), some (tnx b rb (tst b rb i).1 (tst b rb i).2 (lng b rb - i))) := rfl
    rw [et] at ih
    obtain ⟨t, ht⟩ : ∃ t, tnx b rb (tst b rb i).1 (tst b rb i).2 (lng b rb - i) = t := ⟨_, rfl⟩
    rw [ht] at n1 n2 n3 n4 et ih
    obtain ⟨U, hU⟩ : ∃ U, (tst b rb i).1 = U := ⟨_, rfl⟩
    obtain ⟨la, hla⟩ : ∃ la, (tst b rb i).2 = la := ⟨_, rfl⟩
    rw [hU] at n3
    rw [hU, hla] at n2 n4 u2
    rw [hU] at u1 g4 et ih
    rw [hla] at g6
    rw [cnd_eq] at n2
    simp only [Bool.and_eq_true, Bool.not_eq_true'] at n2
    obtain ⟨c1, c2, c3⟩ := n2
    have hfrt : fr.testBit t = true := (g4 t).mpr ⟨(hR t).mpr ⟨n1, c2⟩, c1⟩
    have hq : lsQ b fr (lng b rb - i) ft fr t := by
      obtain ⟨T, t1, t2, t3, t4⟩ := st_some (rb := rb) hn 4096 U t (by omega) u1 n1 c2 c1
      have hs : sub T fr := sub_iff.mpr (fun v hv => by
        obtain ⟨q1, q2, q3⟩ := t2 v hv
        exact (g4 v).mpr ⟨(hR v).mpr ⟨q1, q2⟩, q3⟩)
      refine ⟨T, hs, ?_, sub_le hs, by omega, t3, by rw [g6 t n1 c2]; exact c3⟩
      rcases Nat.eq_zero_or_pos T with q | q
      · rw [q, pc_0] at t4; omega
      · exact q
    have hq2 : ∀ j, j < t → ¬ lsQ b fr (lng b rb - i) ft fr j := by
      rintro j hj ⟨T, t1, t2, t3, t4, t5, t6⟩
      have hT4 : T < 4096 := by omega
      have hv : ∀ v, T.testBit v = true → v < b.n ∧ rb v = true ∧ U.testBit v = false := fun v hv => by
        obtain ⟨q1, q2⟩ := (g4 v).mp (sub_iff.mp t1 v hv)
        obtain ⟨q3, q4⟩ := (hR v).mp q1
        exact ⟨q3, q4, q2⟩
      have h3 := st_most (rb := rb) hn T U j hT4 u1 hv t5
      obtain ⟨hjn, hp⟩ := (st_bit hT4).mp t5
      unfold stP at hp
      rw [Bool.and_eq_true] at hp
      obtain ⟨q1, q2, q3⟩ := hv j hp.1
      have hc : cnd b rb U la j = true := by
        rw [cnd_eq, q2, q3, ← g6 j q1 q2, t6]; rfl
      have h5 := mxS_ge (f := cvl b rb U la) hjn
      have h6 : cvl b rb U la j = 1 + mc b rb (U ||| 2 ^ j) j := by
        unfold cvl
        rw [if_pos hc]
      have h7 := n4 j hj
      rw [hc, Bool.true_and, decide_eq_false_iff_not] at h7
      omega
    refine s_X10_pickRow_7 ok _ _ _ S2 ⟨fun c => absurd c ?_, fun _ => ?_⟩
    · rw [e4]; exact nI_ge hi (by omega)
    rw [e4, pk_sub (by omega)]
    refine c_X10_leastStart hn g3 (by omega) g5 (fun T hT h0 => ?_) (by omega : t < 12) hq hq2 ⟨inI (by omega) (by decide), inI (by omega) (by decide), ?_⟩
    · rw [g1 32 (by decide)]
      refine h32 T (sub_iff.mpr (fun v hv => ((g4 v).mp (sub_iff.mp hT v hv)).1)) h0
    rw [st2_off (by decide), g1 33 (by decide), cl, nI_clamp (by omega), h33 t n1, cl, nI_clamp (by omega), jshl_1 (by omega), andnot_n (by omega) hfrt, nI_add]
    refine ih _ _ _ (fun a ha => by rw [st2_off ha]; exact g1 a ha) (fun j hj => ?_) (Nat.xor_lt_two_pow (n := 12) g3 (Nat.pow_lt_pow_right (by decide) (by omega))) (fun v => ?_) (beh_lt hn t) (fun v h1 h2 => ?_)
    · rw [st2_get]
      by_cases e : j = i
      · rw [if_pos e, e, et]; rfl
      · rw [if_neg e]; exact g2 j (by omega)
    · rw [xor_off hfrt, Bool.and_eq_true, g4 v, fb_bit_set, Bool.or_eq_false_iff]
      constructor
      · rintro ⟨⟨q1, q2⟩, q3⟩
        refine ⟨q1, q2, ?_⟩
        simp at q3
        simp
        exact fun q => q3 q.symm
      · rintro ⟨q1, q2, q3⟩
        refine ⟨⟨q1, q2⟩, ?_⟩
        simp at q3
        simp
        exact fun q => q3 q.symm
    · show (beh b t).testBit v = fol b t v
      have := beh_bit (b := b) (w := t) (v := v)
      cases hf : fol b t v with
      | true => exact this.mpr ⟨h1, hf⟩
      | false =>
        cases hq3 : (beh b t).testBit v with
        | false => rfl
        | true => rw [(this.mp hq3).2] at hf; cases hf
  · have : (tst b rb 0).1 = 0 := rfl
    rw [this, Nat.zero_testBit]
    exact ⟨fun h => ⟨h, rfl⟩, fun h => h.1⟩
  · exact (hR v).mpr ⟨h1, h2⟩
theorem c_X10_find {K : Mem → Prop} {R : Nat} {rb : Nat → Bool} (hb : BOk b) (hX : XB S 4 b) (hR4 : R < 4096) (hR : ∀ v, R.testBit v = true ↔ v < b.n ∧ rb v = true) (hk : ∀ S2, (∀ a, a < 31 ∨ 34 < a → S2 a = S a) → S2 31 4 = nI (lng b rb) → (∀ i, i < lng b rb → S2 34 i = oI (tst b rb (i + 1)).2) → K S2) : MWv l g shX m_X10_find [.ref (g.ad 31), .int (nI R)] S K := by
  have hn := hb.1
  refine MWv.intro _ rfl (Nat.le_of_ble_eq_true rfl) rfl (fun x ok => s_X10_find_0 ok _ S (c_X10_findBehind hb hX (fun S1 r1 r2 => ?_)))
  have fin : ∀ (S2 : Mem) (m : Nat), m ≤ 12 → (∀ a, a < 31 ∨ 34 < a → S2 a = S a) → (∀ w, w < b.n → S2 33 w = nI (beh b w)) → S2 31 4 = nI m → (∀ T, sub T R → 0 < T → T ≤ R → S2 32 T = nI (st b T)) → (∀ T, sub T R → 0 < T → T ≤ R → st b T ≠ 0 → pc T ≤ m) → (m = 0 ∨ ∃ T, sub T R ∧ 0 < T ∧ T ≤ R ∧ st b T ≠ 0 ∧ pc T = m) → MWv l g shX m_X10_pickRow [.ref (g.ad 31), .int (nI R)] S2 (fun S1 => K S1) := by
    intro S2 m hm g1 g2 g3 g4 g5 g6
    have e : lng b rb = m := lng_eq hn hR4 hR (fun T t1 t2 t3 => g5 T t1 t2 (sub_le t1) t3) (by
      rcases g6 with g6 | ⟨T, t1, t2, t3, t4, t5⟩
      · exact Or.inl g6
      · exact Or.inr ⟨T, t1, t2, t4, t5⟩)
    rw [← e] at g3 hm
    refine c_X10_pickRow hb hR4 hR g3 hm (fun T t1 t2 => g4 T t1 t2 (sub_le t1)) g2 (fun S3 q1 q2 => hk S3 (fun a ha => ?_) ?_ q2)
    · rw [q1 a (by omega)]; exact g1 a ha
    · rw [q1 31 (by decide)]; exact g3
  have main : ∀ d set i (S2 : Mem) (m : Nat), R ≤ set + d → sub set R → i ≤ set + 1 → m ≤ 12 → (∀ a, a < 31 ∨ 34 < a → S2 a = S a) → (∀ w, w < b.n → S2 33 w = nI (beh b w)) → S2 31 4 = nI m → (∀ T, sub T R → 0 < T → T ≤ set → S2 32 T = nI (st b T)) → (∀ T, sub T R → 0 < T → T ≤ set → st b T ≠ 0 → pc T ≤ m) → (m = 0 ∨ ∃ T, sub T R ∧ 0 < T ∧ T ≤ set ∧ st b T ≠ 0 ∧ pc T = m) → PW l x g shX m_X10_find (Qv x g shX K) 13 [(0, .ref (g.ad 31)), (1, .int (nI R)), (2, .int (nI set)), (3, .int (nI i))] [] S2 := by
    intro d
    induction d with
    | zero =>
      intro set i S2 m h1 h2 h3 hm g1 g2 g3 g4 g5 g6
      have hle := sub_le h2
      have e : set = R := by omega
      subst e
      exact s_X10_find_13 ok _ _ _ S2 ⟨fun _ => fin S2 m hm g1 g2 g3 g4 g5 g6, fun _ => ⟨fun _ => fin S2 m hm g1 g2 g3 g4 g5 g6, fun c => absurd rfl c⟩⟩
    | succ d ih =>
      intro set i S2 m h1 h2 h3 hm g1 g2 g3 g4 g5 g6
      have hle := sub_le h2
      by_cases e : set = R
      · subst e
        exact s_X10_find_13 ok _ _ _ S2 ⟨fun _ => fin S2 m hm g1 g2 g3 g4 g5 g6, fun _ => ⟨fun _ => fin S2 m hm g1 g2 g3 g4 g5 g6, fun c => absurd rfl c⟩⟩
      · obtain ⟨n1, n2, n3⟩ := nxw_ok hR4 h2 e
        have hx := sub_le n1
        have hX2 : XB S2 4 b := hX.of (fun a q1 q2 => g1 a (by omega))
        refine s_X10_find_13 ok _ _ _ S2 ⟨fun c => absurd c (nI_ge (by omega) (by decide)), fun _ => ⟨fun c => absurd ((nI_eq (by omega) (by omega)).mp c) e, fun _ => c_X10_nextWithin hR4 h2 (c_X10_startsOf hb hX2 (by omega) g2 (fun w hw hbit hne => ?_) ⟨inI (by omega) (by decide), inI (by omega) (by decide), ?_⟩)⟩⟩
        · have hl := xor_less hbit
          have hs : sub (nxw set R ^^^ 2 ^ w) R := sub_iff.mpr (fun v hv => by
            rw [xor_off hbit, Bool.and_eq_true] at hv
            exact sub_iff.mp n1 v hv.1)
          refine g4 _ hs (by omega) ?_
          rcases Nat.lt_or_ge set (nxw set R ^^^ 2 ^ w) with q | q
          · have := n3 _ hs q; omega
          · exact q
        obtain ⟨nx, hnx⟩ : ∃ nx, nxw set R = nx := ⟨_, rfl⟩
        rw [hnx] at n1 n2 n3 hx ⊢
        have hst := st_lt hn nx
        have hpl := pc_le nx
        rw [cl, nI_clamp (by omega), st2_get, if_pos rfl, nI_eq0 (by omega), nI_add]
        have k32 : ∀ (S3 : Mem), S3 32 = (st2 S2 32 nx (nI (st b nx))) 32 → ∀ T, sub T R → 0 < T → T ≤ nx → S3 32 T = nI (st b T) := by
          intro S3 hS3 T t1 t2 t3
          rw [hS3, st2_get]
          by_cases q : T = nx
          · rw [if_pos q, q]
          · rw [if_neg q]
            refine g4 T t1 t2 ?_
            rcases Nat.lt_or_ge set T with r | r
            · have := n3 T t1 r; omega
            · exact r
        have old : ∀ T, sub T R → T ≤ nx → T ≠ nx → T ≤ set := fun T t1 t2 t3 => by
          rcases Nat.lt_or_ge set T with r | r
          · have := n3 T t1 r; omega
          · exact r
        refine ⟨fun y => ih nx (i + 1) _ m (by omega) n1 (by omega) hm (fun a ha => by rw [st2_off (by omega)]; exact g1 a ha) (fun w hw => by rw [st2_off (by decide)]; exact g2 w hw) (by rw [st2_off (by decide)]; exact g3) (k32 _ rfl) (fun T t1 t2 t3 t4 => ?_) ?_, fun y => c_bitCount (by omega) ?_⟩
        · by_cases q : T = nx
          · rw [q] at t4; exact absurd y t4
          · exact g5 T t1 t2 (old T t1 t3 q) t4
        · rcases g6 with g6 | ⟨T, t1, t2, t3, t4, t5⟩
          · exact Or.inl g6
          · exact Or.inr ⟨T, t1, t2, by omega, t4, t5⟩
        · rw [st2_off (by decide), g3, jmax_n (by omega) (by omega)]
          refine ih nx (i + 1) _ (if m < pc nx then pc nx else m) (by omega) n1 (by omega) (by split <;> omega) (fun a ha => by rw [st2_off (by omega), st2_off (by omega)]; exact g1 a ha) (fun w hw => by rw [st2_off (by decide), st2_off (by decide)]; exact g2 w hw) (by rw [st2_get, if_pos rfl]) (k32 _ (by rw [st2_off (by decide)])) (fun T t1 t2 t3 t4 => ?_) ?_
          · by_cases q : T = nx
            · rw [q]; split <;> omega
            · have := g5 T t1 t2 (old T t1 t3 q) t4
              split <;> omega
          · by_cases q : m < pc nx
            · rw [if_pos q]
              exact Or.inr ⟨nx, n1, by omega, Nat.le_refl _, y, rfl⟩
            · rw [if_neg q]
              rcases g6 with g6 | ⟨T, t1, t2, t3, t4, t5⟩
              · exact Or.inl g6
              · exact Or.inr ⟨T, t1, t2, by omega, t4, t5⟩
  refine main R 0 1 _ 0 (by omega) (by unfold sub; exact Nat.zero_and _) (by omega) (by omega) (fun a ha => by rw [st2_off (by omega)]; exact r1 a (by omega)) (fun w hw => by rw [st2_off (by decide)]; exact r2 w hw) (by rw [st2_get, if_pos rfl]) (fun T t1 t2 t3 => by omega) (fun T t1 t2 t3 => by omega) (Or.inl rfl)
end CLA8
