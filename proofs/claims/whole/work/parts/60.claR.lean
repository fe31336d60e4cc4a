/-! PART 60: the class's calls: what is only asked -/
theorem lng_le {b : Bk} {rb : Nat → Bool} (hn : b.n ≤ 12) : lng b rb ≤ 12 := mxS_le (fun w hw => by
  unfold cvl
  split
  · rename_i hc
    unfold cnd at hc
    simp only [Bool.and_eq_true, Bool.not_eq_true'] at hc
    obtain ⟨T, t1, t2, t3, t4⟩ := st_some (rb := rb) hn 4096 0 w (by omega) (by decide) hw hc.2.1 (Nat.zero_testBit w)
    rw [← t4]; exact pc_le T
  · omega)
theorem m1_toInt : (-1 : Int32).toInt = -1 := by decide
section CLAR
variable {l : Launch} {g : Geo} {S : Mem} {s : Sg} {K : Int32 → Mem → Prop} {v v1 v2 v3 : Int32}
theorem ws12 (hs : SgOk s) {c : Nat} (hc : c < 4) : s.h.ws c < 4096 := by
  obtain ⟨hb, hh, ha⟩ : BOk s.b ∧ ChOk s.b s.h ∧ AnOk s.b s.a := hs.1
  have := (hh c hc).2.1
  have := pw12 hb
  omega
theorem XRep.xs {S S2 : Mem} (h : XRep S s) (e : Xs S S2) : XRep S2 s := h.scratch (fun a h1 _ => e a h1)
theorem px_read (hs : SgOk s) (hR : XRep S s) (hk : ∀ S2, XRep S2 s → K (sp_read s v1 v2 v3) S2) : MWi l g shX m_X11_read [.ref (g.ad 0), .int v1, .int v2, .int v3] S K := by
  obtain ⟨hb, hh, ha⟩ : BOk s.b ∧ ChOk s.b s.h ∧ AnOk s.b s.a := hs.1
  have hn := hb.1
  have hX : XB S 4 s.b := hR.1.1.1
  have hH : XH S 10 s.h := hR.1.1.2.1
  have hU : XU S s.b := hR.2.1
  unfold sp_read at hk
  refine MWi.intro _ rfl (Nat.le_of_ble_eq_true rfl) rfl (fun x ok => s_X11_read_0 ok _ _ _ S (c_X11_isChild (fun c hc e => y1 (c_X1_holds hb hX (fun w hw e2 => z1 ?_) (fun h => z0 ?_))) (fun h => y0 ?_)))
  · subst e; subst e2
    obtain ⟨q1, q2, q3⟩ := hh c hc
    rw [ix_nI hc (by omega), ix_nI hw (by omega)] at hk
    refine ⟨fun y => ⟨fun q => absurd y q, fun _ => ?_⟩, fun y => ⟨fun z => ⟨fun _ => ?_, fun q => absurd q y⟩, fun z => ?_⟩⟩
    · have y : v3 = nI 0 := y
      subst y
      rw [ix_nI (by decide) (by decide)] at hk
      exact c_X6_wayOf hb hX hH hc hw q1 (ws12 hs hc) (hk S hR)
    · subst z
      rw [ix_nI (by decide) (by decide)] at hk
      exact c_X6_readAs hb hX hU hH hc hw q3 q1 (ws12 hs hc) (fun S2 R => hk S2 (hR.xs R))
    · rw [ix_no (n := 2) (fun j hj e => by
        have : j = 0 ∨ j = 1 := by omega
        rcases this with q | q
        · subst q; exact y e
        · subst q; exact z e)] at hk
      exact hk S hR
  · subst e
    rw [ix_nI hc (by omega), ix_no h] at hk
    exact hk S hR
  · rw [ix_no h] at hk
    exact hk S hR
theorem px_share (hs : SgOk s) (hR : XRep S s) (hk : ∀ S2, XRep S2 s → K (sp_share s v) S2) : MWi l g shX m_X11_share [.ref (g.ad 0), .int v] S K := by
  obtain ⟨hb, hh, ha⟩ : BOk s.b ∧ ChOk s.b s.h ∧ AnOk s.b s.a := hs.1
  have hX : XB S 4 s.b := hR.1.1.1
  have hH : XH S 10 s.h := hR.1.1.2.1
  have hU : XU S s.b := hR.2.1
  have hpw := pw12 hb
  unfold sp_share at hk
  refine MWi.intro _ rfl (Nat.le_of_ble_eq_true rfl) rfl (fun x ok => s_X11_share_0 ok _ S (c_X11_isChild (fun c hc e => y1 ?_) (fun h => y0 ?_)))
  · subst e
    obtain ⟨q1, q2, q3⟩ := hh c hc
    rw [ix_nI hc (by omega)] at hk
    refine c_X6_readable hb hX hU hH hc q3 q1 (ws12 hs hc) (fun S2 R => ?_)
    have hr := rdB_lt hb (s.h.m c) (s.h.k c) (s.h.ws c)
    have hk := hk S2 (hR.xs R)
    dsimp only at hk
    rw [share_tm] at hk
    exact c_X1_timesOf hb (R.XB (o := 4) (by decide) hX) (by omega) hk
  · rw [ix_no h] at hk
    exact hk S hR
theorem px_gives (hs : SgOk s) (hR : XRep S s) (hk : ∀ S2, XRep S2 s → K (sp_gives s v1 v2) S2) : MWi l g shX m_X11_gives [.ref (g.ad 0), .int v1, .int v2] S K := by
  obtain ⟨hb, hh, ha⟩ : BOk s.b ∧ ChOk s.b s.h ∧ AnOk s.b s.a := hs.1
  have hX : XB S 4 s.b := hR.1.1.1
  have hU : XU S s.b := hR.2.1
  have hpw := pw12 hb
  unfold sp_gives at hk
  refine MWi.intro _ rfl (Nat.le_of_ble_eq_true rfl) rfl (fun x ok => s_X11_gives_0 ok _ _ S (c_X11_isSignSet (fun t ht e => y1 (c_X1_isWordSet hb hX (fun w hw e2 => z1 ?_) (fun h => z0 ?_))) (fun h => y0 ?_)))
  · subst e; subst e2
    rw [ix_nI ht (by omega), ix_nI hw (by omega)] at hk
    refine c_X8_givenBy hb hX hU ht ?_
    have hg := gvB_lt (b := s.b) t
    rw [fa_or]
    have hk := hk S hR
    dsimp only at hk
    rw [← gvB_tm] at hk
    exact c_X1_timesOf hb hX (Nat.lt_of_lt_of_le (Nat.or_lt_two_pow hg hw) hpw) hk
  · subst e
    rw [ix_nI ht (by omega), ix_no h] at hk
    exact hk S hR
  · rw [ix_no h] at hk
    exact hk S hR
theorem px_order (hs : SgOk s) (hR : XRep S s) (hk : ∀ S2, XRep S2 s → K (sp_order s v) S2) : MWi l g shX m_X11_order [.ref (g.ad 0), .int v] S K := by
  obtain ⟨hb, hh, ha⟩ : BOk s.b ∧ ChOk s.b s.h ∧ AnOk s.b s.a := hs.1
  have hX : XB S 4 s.b := hR.1.1.1
  have hU : XU S s.b := hR.2.1
  have hO : XO S s.b := hR.2.2.2.1
  unfold sp_order at hk
  refine MWi.intro _ rfl (Nat.le_of_ble_eq_true rfl) rfl (fun x ok => s_X11_order_0 ok _ S ⟨fun y => ?_, fun y => ⟨fun z => c_X9_findOrder hb hX hU hO (fun S2 r1 r2 => ?_), fun z => ?_⟩⟩)
  · rw [fa_lt, m1_toInt] at y
    rw [if_neg (fun e => by rw [e, m1_toInt] at y; omega), ix_no (fun j hj e => by rw [e, nI_toInt (by omega)] at y; omega)] at hk
    exact hk S hR
  · have hR2 : XRep S2 s := hR.of (fun a ha => r1 a (by omega)) (Or.inr r2) (hR.2.2.2.2.1.of (r1 31 (by omega)) (r1 34 (by omega))) (hR.2.2.2.2.2.1.of (r1 41 (by omega)) (r1 42 (by omega)))
    have hk := hk S2 hR2
    refine ⟨fun u => ?_, fun u => ?_⟩
    · rw [if_neg u] at hk
      have h0 : ¬ v < 0 := fun q => by
        rw [fa_lt] at q y
        rw [m1_toInt] at y
        have h00 : (0 : Int32).toInt = 0 := by decide
        rw [h00] at q
        apply u
        rw [fa_eq, m1_toInt]
        omega
      obtain ⟨i, hi, rfl⟩ := nI_of h0
      rw [nI_ltI hi (by decide)] at z
      rw [ix_nI z hi] at hk
      rw [cl, nI_clamp (by omega), r2.2.2 i z]
      exact ⟨inI z (by decide), hk⟩
    · rw [if_pos u] at hk
      rw [r2.2.1]; exact hk
  · rw [if_neg (fun e => by rw [e] at z; exact z (by decide)), ix_no (fun j hj e => by subst e; exact z (nI_lt hj (by decide)))] at hk
    exact hk S hR
theorem px_most (hs : SgOk s) (hR : XRep S s) (hk : ∀ S2, XRep S2 s → K (sp_most s v1 v2 v3) S2) : MWi l g shX m_X11_most [.ref (g.ad 0), .int v1, .int v2, .int v3] S K := by
  obtain ⟨hb, hh, ha⟩ : BOk s.b ∧ ChOk s.b s.h ∧ AnOk s.b s.a := hs.1
  have hn := hb.1
  have hX : XB S 4 s.b := hR.1.1.1
  have hU : XU S s.b := hR.2.1
  have hpw := pw12 hb
  have e45 : S 4 5 = nI s.b.n := hX.1
  have hk := hk S hR
  unfold sp_most at hk
  have no : ∀ {v : Int32} {n : Nat}, v < 0 → n < 2 ^ 31 → ix v n = none := fun h hn => ix_no (fun j hj e => by subst e; exact nI_pos (by omega) h)
  refine MWi.intro _ rfl (Nat.le_of_ble_eq_true rfl) rfl (fun x ok => s_X11_most_0 ok _ _ _ S ⟨fun y => ?_, fun y => ⟨fun z => ?_, fun z => ⟨fun u => ?_, fun u => ⟨fun w => ?_, fun w => ⟨fun q => ?_, fun q => ⟨fun r => ?_, fun r => ?_⟩⟩⟩⟩⟩⟩)
  · rw [no y (by decide)] at hk; exact hk
  · rw [ix_no (fun j hj e => by subst e; exact nI_nlt (by omega) (by omega) z)] at hk; exact hk
  all_goals
    obtain ⟨k, hk31, rfl⟩ := nI_of y
    rw [nI_ltI (by decide) hk31] at z
    rw [ix_nI (by omega : k < 11) hk31] at hk
    dsimp only at hk
  · rw [no u (by omega)] at hk; exact hk
  · rw [e45] at w
    rw [ix_no (fun j hj e => by subst e; exact nI_nlt (by omega) (by omega) w)] at hk; exact hk
  all_goals
    obtain ⟨wn, hw31, rfl⟩ := nI_of u
    rw [e45, nI_ltI (by omega) hw31] at w
    rw [ix_nI (by omega : wn < s.b.n + 1) hw31] at hk
    dsimp only at hk
  · rw [no q (by decide)] at hk; exact hk
  · obtain ⟨j, hj31, rfl⟩ := nI_of q
    rw [nI_leI hj31 (by decide)] at r
    rw [ix_nI (by omega : j < 3) hj31] at hk
    dsimp only at hk
    obtain ⟨t, ht⟩ := most_some (b := s.b) wn (by omega : k ≤ 10)
    rw [ht] at hk
    dsimp only at hk
    have ht10 : t < 1024 := am_lt ht
    refine c_X9_bestSigns hb hX hU (by omega) (by omega) ht ?_
    rw [nI_eq (by omega) (by decide)]
    refine ⟨fun j1 => c_X9_bestWholes hb hX hU ht10 (by omega) ?_, fun j1 => ?_⟩
    · rw [nI_eq (by omega) (by decide)]
      refine ⟨fun j2 => c_X8_givenBy hb hX hU ht10 ?_, fun j2 => ?_⟩
      · have hg := gvB_lt (b := s.b) t
        rw [if_pos (by omega), ← gvB_tm] at hk
        rw [fa_or]
        refine c_X1_timesOf hb hX (Nat.or_lt_two_pow (n := 12) (by show gvB s.b t < 4096; omega) (wfor_lt hb t wn)) hk
      · rw [if_neg (by omega), if_neg (by omega)] at hk; exact hk
    · rw [if_neg (by omega), if_pos j1] at hk; exact hk
  · rw [ix_no (fun j hj e => by subst e; exact r (nI_le (by omega) (by decide)))] at hk; exact hk
theorem px_tale (hs : SgOk s) (hR : XRep S s) (hk : ∀ S2, XRep S2 s → K (sp_tale s v1 v2) S2) : MWi l g shX m_X11_tale [.ref (g.ad 0), .int v1, .int v2] S K := by
  obtain ⟨hb, hh, ha⟩ : BOk s.b ∧ ChOk s.b s.h ∧ AnOk s.b s.a := hs.1
  have hn := hb.1
  have hX : XB S 4 s.b := hR.1.1.1
  have hH : XH S 10 s.h := hR.1.1.2.1
  have hU : XU S s.b := hR.2.1
  have hpw := pw12 hb
  unfold sp_tale at hk
  refine MWi.intro _ rfl (Nat.le_of_ble_eq_true rfl) rfl (fun x ok => s_X11_tale_0 ok _ _ S (c_X11_isChild (fun c hc e => z1 ?_) (fun h => z0 ?_)))
  · subst e
    obtain ⟨q1, q2, q3⟩ := hh c hc
    rw [ix_nI hc (by omega)] at hk
    dsimp only at hk
    have hll : lng s.b (rbC s c) ≤ 12 := lng_le hn
    have fin : ∀ M : Mem, XRep M s → M 31 4 = nI (lng s.b (rbC s c)) → (∀ i, i < lng s.b (rbC s c) → M 34 i = oI (tst s.b (rbC s c) (i + 1)).2) → ((¬ v2 = (-1) → ((v2 < 0 → K (-6) M) ∧ (¬ v2 < 0 → (((M 31 4) ≤ v2 → K (-6) M) ∧ (¬ (M 31 4) ≤ v2 → (vp_in v2 12 ∧ K (M 34 (cl v2)) M)))))) ∧ (v2 = (-1) → K (M 31 4) M)) := by
      intro M hM m1 m2
      have hk := hk M hM
      rw [m1]
      refine ⟨fun y => ⟨fun z => ?_, fun z => ?_⟩, fun y => ?_⟩
      · rw [if_neg y, ix_no (fun j hj e => by subst e; exact nI_pos (by omega) z)] at hk
        exact hk
      · obtain ⟨i, hi, rfl⟩ := nI_of z
        rw [if_neg y] at hk
        rw [nI_leI (by omega) hi]
        refine ⟨fun u => ?_, fun u => ?_⟩
        · rw [ix_no (fun j hj e => by rw [nI_eq hi (by omega)] at e; omega)] at hk
          exact hk
        · rw [ix_nI (by omega) hi] at hk
          rw [cl, nI_clamp (by omega), m2 i (by omega)]
          exact ⟨inI (by omega) (by decide), hk⟩
      · rw [if_pos y] at hk
        exact hk
    refine ⟨fun y => ?_, fun y => c_X6_readable hb hX hU hH hc q3 q1 (ws12 hs hc) (fun S2 R => ?_)⟩
    · rcases hR.2.2.2.2.1 with h | ⟨d, d1, d2, d3, d4⟩
      · rw [h] at y; exact absurd y (neg6_ne (by omega))
      · rw [y, nI_eq (by omega) (by omega)] at d2
        subst d2
        exact fin S hR d3 d4
    · have hr := rdB_lt hb (s.h.m c) (s.h.k c) (s.h.ws c)
      refine c_X10_find (rb := rbC s c) hb (R.XB (o := 4) (by decide) hX) (by omega) (fun u => rdB_bit) (fun S3 r1 r2 r3 => ?_)
      have e3 : ∀ a, a ≠ 26 → a < 31 ∨ 34 < a → st2 S3 31 5 (nI c) a = S a := fun a h1 h2 => by rw [st2_off (by omega), r1 a h2]; exact R a h1
      refine fin _ (hR.of (fun a ha => e3 a (by omega) (by omega)) (hR.2.2.2.1.of (e3 27 (by omega) (by omega)) (e3 30 (by omega) (by omega))) (Or.inr ⟨c, hc, ?_, ?_, fun i hi => ?_⟩) (hR.2.2.2.2.2.1.of (e3 41 (by omega) (by omega)) (e3 42 (by omega) (by omega)))) ?_ (fun i hi => ?_)
      · rw [st2_get, if_pos rfl]
      · rw [st2_get, if_neg (by decide)]; exact r2
      · rw [st2_off (by decide)]; exact r3 i hi
      · rw [st2_get, if_neg (by decide)]; exact r2
      · rw [st2_off (by decide)]; exact r3 i hi
  · rw [ix_no h] at hk
    exact hk S hR
theorem px_may (hs : SgOk s) (hR : XRep S s) (hk : ∀ S2, XRep S2 s → K (nI (mayN s.b s.a 0)) S2) : MWi l g shX m_X11_may [.ref (g.ad 0)] S K := by
  obtain ⟨hb, hh, ha⟩ : BOk s.b ∧ ChOk s.b s.h ∧ AnOk s.b s.a := hs.1
  refine MWi.intro _ rfl (Nat.le_of_ble_eq_true rfl) rfl (fun x ok => s_X11_may_0 ok S (c_X3_hear hb ha hR.1.1.1 hR.2.1 hR.1.1.2.2 (fun S2 r1 r2 => c_X3_countSets ha.1 r2 (by decide) (hk S2 (hR.scratch (fun a h1 h2 => r1 a (by omega) (by omega)))))))
theorem px_lacks {K : Int64 → Mem → Prop} (hs : SgOk s) (hR : XRep S s) (hk : ∀ S2, XRep S2 s → K (sp_lacks s v1 v2) S2) : MWl l g shX m_X11_lacks [.ref (g.ad 0), .int v1, .int v2] S K := by
  obtain ⟨hb, hh, ha⟩ : BOk s.b ∧ ChOk s.b s.h ∧ AnOk s.b s.a := hs.1
  unfold sp_lacks at hk
  refine MWl.intro _ rfl (Nat.le_of_ble_eq_true rfl) rfl (fun x ok => s_X11_lacks_0 ok _ _ S (c_X11_isSign (fun t ht e => z1 (c_X11_isPart (fun p hp e2 => z1 ?_) (fun h => z0 ?_))) (fun h => z0 ?_)))
  · subst e; subst e2
    rw [ix_nI ht (by omega), ix_nI hp (by omega)] at hk
    dsimp only at hk
    refine c_X3_hear hb ha hR.1.1.1 hR.2.1 hR.1.1.2.2 (fun S2 r1 r2 => c_X3_countSets ha.1 r2 (by decide) ?_)
    have hk := hk S2 (hR.scratch (fun a h1 h2 => r1 a (by omega) (by omega)))
    have h1 := mayN_le s.b s.a 0
    have h2 := mayN_le s.b s.a (2 ^ t)
    have hp2 : 2 ^ t < 1024 := Nat.pow_lt_pow_right (n := 10) (a := 2) (by decide) ht
    rw [nI_eq0 (by omega), jshl_1 (by omega)]
    refine ⟨fun y => c_X3_countSets ha.1 r2 hp2 (c_X11_fraction (by omega) (by omega) hp ?_), fun y => ?_⟩
    · rw [if_neg y] at hk; exact hk
    · rw [if_pos y] at hk; exact hk
  · subst e
    rw [ix_nI ht (by omega), ix_no h] at hk
    exact hk S hR
  · rw [ix_no h] at hk
    exact hk S hR
theorem px_tells (hs : SgOk s) (hR : XRep S s) (hk : ∀ S2, XRep S2 s → K (oI (tllO s.b s.a s.b.n)) S2) : MWi l g shX m_X11_tells [.ref (g.ad 0)] S K := by
  obtain ⟨hb, hh, ha⟩ : BOk s.b ∧ ChOk s.b s.h ∧ AnOk s.b s.a := hs.1
  have hX : XB S 4 s.b := hR.1.1.1
  have hU : XU S s.b := hR.2.1
  refine MWi.intro _ rfl (Nat.le_of_ble_eq_true rfl) rfl (fun x ok => s_X11_tells_0 ok S (c_X3_hear hb ha hX hU hR.1.1.2.2 (fun S2 r1 r2 => c_X3_bestQuestion hb ha.1 (hX.of (fun a h1 h2 => r1 a (by omega) (by omega))) (hU.of (fun a h1 h2 => r1 a (by omega) (by omega))) r2 (fun S3 r3 => hk S3 (hR.scratch (fun a h1 h2 => ?_))))))
  rw [r3 a (by omega)]; exact r1 a (by omega) (by omega)
theorem px_test (hs : SgOk s) (hR : XRep S s) (hk : ∀ S2, XRep S2 s → K (oI (tstO s.b (regB s.b + 1))) S2) : MWi l g shX m_X11_test [.ref (g.ad 0)] S K := by
  obtain ⟨hb, hh, ha⟩ : BOk s.b ∧ ChOk s.b s.h ∧ AnOk s.b s.a := hs.1
  exact MWi.intro _ rfl (Nat.le_of_ble_eq_true rfl) rfl (fun x ok => s_X11_test_0 ok S (c_X3_leastTest hb hR.1.1.1 hR.2.1 (fun S2 r1 => hk S2 (hR.scratch (fun a h1 h2 => r1 a (by omega))))))
end CLAR
