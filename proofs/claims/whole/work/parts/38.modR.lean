/-! PART 38: the model's calls, children and orders -/
section MODR
variable {l : Launch} {g : Geo} {S : Mem} {s : Sg} {K : Int32 → Mem → Prop} {v v1 v2 v3 : Int32}
/-- a change of one number of a child's -/
theorem ch_of {S : Mem} {s s2 : Sg} {a c : Nat} {x : Int32} (hs : SgOk s) (hR : MRep S s) (ha : a = 9 ∨ a = 10 ∨ a = 11) (e1 : s2.1.1 = s.1.1) (e2 : s2.1.2.2 = s.1.2.2) (e3 : s2.2 = s.2) (h : MH (st2 S a c x) s2.1.2.1) : MRep (st2 S a c x) s2 := by
  obtain ⟨⟨hM, hH, hA⟩, p2, p3, p4⟩ := hR
  unfold MRep MSt
  rw [e1, e2]
  refine ⟨⟨hM.of (by rw [st2_off (by omega)]) (fun b _ _ => st2_off (by omega)), h, ?_⟩, ?_, ?_, ?_⟩
  · unfold MA
    rw [st2_off (by omega), st2_off (by omega), st2_off (by omega)]; exact hA
  · rw [st2_off (by omega)]; show S 0 6 = nI s2.2.1.1; rw [e3]; exact p2
  · rw [st2_off (by omega)]; show ∀ i, i < s2.2.1.1 → S 5 i = nI (s2.2.1.2 i); rw [e3]; exact p3
  · have := im_of (S2 := st2 S a c x) (s := s) hs p4 (st2_off (by omega)) (st2_off (by omega))
    show ∀ n, n < 2 → match s2.2.2 n with
      | none => st2 S a c x 22 n = 0
      | some c => _
    rw [e3]
    exact this
theorem MH9 {S : Mem} {h : Ch} {c t : Nat} (hH : MH S h) : MH (st2 S 9 c (nI t)) (upN h.1 c t, h.2.1, h.2.2) := fun d hd => by
  rw [st2_get, st2_off (by decide), st2_off (by decide)]
  refine ⟨?_, (hH d hd).2.1, (hH d hd).2.2⟩
  show _ = nI (upN h.1 c t d)
  unfold upN
  split
  · rfl
  · exact (hH d hd).1
theorem MH10 {S : Mem} {h : Ch} {c t : Nat} (hH : MH S h) : MH (st2 S 10 c (nI t)) (h.1, upN h.2.1 c t, h.2.2) := fun d hd => by
  rw [st2_off (by decide), st2_get, st2_off (by decide)]
  refine ⟨(hH d hd).1, ?_, (hH d hd).2.2⟩
  show _ = nI (upN h.2.1 c t d)
  unfold upN
  split
  · rfl
  · exact (hH d hd).2.1
theorem MH11 {S : Mem} {h : Ch} {c : Nat} {t : Option Nat} (hH : MH S h) : MH (st2 S 11 c (oI t)) (h.1, h.2.1, upN h.2.2 c t) := fun d hd => by
  rw [st2_off (by decide), st2_off (by decide), st2_get]
  refine ⟨(hH d hd).1, (hH d hd).2.1, ?_⟩
  show _ = oI (upN h.2.2 c t d)
  unfold upN
  split
  · rfl
  · exact (hH d hd).2.2
theorem pm_knows (hs : SgOk s) (hR : MRep S s) (hk : ∀ S2, MRep S2 (st_knows s v1 v2 v3) → K (sp_knows s v1 v2 v3) S2) : MWi l g shM m_X12_knows [.ref (g.ad 0), .int v1, .int v2, .int v3] S K := by
  obtain ⟨hb, hh, ha⟩ : BOk s.b ∧ ChOk s.b s.h ∧ AnOk s.b s.a := hs.1
  have hn := hb.1
  have hpw := pw12 hb
  have hpp := Nat.two_pow_pos s.b.n
  have hM : MB S s.b := hR.1.1
  have hH : MH S s.h := hR.1.2.1
  unfold sp_knows st_knows at hk
  refine MWi.intro _ rfl (Nat.le_of_ble_eq_true rfl) rfl (fun x ok => s_X12_knows_0 ok _ _ _ S (c_X12_isChild (fun c hc e => z1 (c_X12_isEnd (fun q hq e2 => y1 ?_) (fun h => y0 ?_))) (fun h => z0 ?_)))
  · subst e; subst e2
    rw [ix_nI hc (by omega), ix_nI hq (by omega)] at hk
    dsimp only at hk
    obtain ⟨d1, d2, d3⟩ := hH c hc
    have hq0 : q = 0 ∨ q = 1 := by omega
    rcases hq0 with rfl | rfl
    · refine ⟨fun y => absurd (by decide) y, fun _ => c_X12_inN (by decide) (fun t _ ht e => z1 ?_) (fun h => z0 ?_)⟩
      · subst e
        rw [ix_nI (n := 1024) (by omega) (by omega)] at hk
        simp only [if_true] at hk
        refine ⟨fun y => absurd (by decide) y, fun _ => ⟨inI hc (by decide), fun y => absurd (by decide) y, fun _ => ⟨inI hc (by decide), ?_⟩⟩⟩
        simp (disch := omega) only [cl, nI_clamp, d1]
        exact hk _ (ch_of hs hR (by omega) rfl rfl rfl (MH9 hH))
      · rw [ix_no (n := 1024) (fun j hj => h j (by omega) (by omega))] at hk
        exact hk S hR
    · refine ⟨fun _ => ?_, fun y => absurd y (by decide)⟩
      rw [hM.1, jshl_1 (by omega)]
      refine c_X12_inB (by omega) (fun t ht e => z1 ?_) (fun h => z0 ?_)
      · subst e
        rw [ix_nI ht (by omega)] at hk
        simp only [Nat.one_ne_zero, if_false] at hk
        refine ⟨fun _ => ⟨inI hc (by decide), fun _ => ⟨inI hc (by decide), ?_⟩, fun y => absurd y (by decide)⟩, fun y => absurd y (by decide)⟩
        simp (disch := omega) only [cl, nI_clamp, d2]
        exact hk _ (ch_of hs hR (by omega) rfl rfl rfl (MH10 hH))
      · rw [ix_no h] at hk
        exact hk S hR
  · subst e
    rw [ix_nI hc (by omega), ix_no h] at hk
    exact hk S hR
  · rw [ix_no h] at hk
    exact hk S hR
theorem m1_ne {k : Nat} (h : k < 2 ^ 31) : ¬ nI k = (-1 : Int32) := by
  intro e
  have h2 : (nI k).toInt = -1 := by rw [e]; decide
  rw [nI_toInt h] at h2
  omega
theorem pm_mix (hs : SgOk s) (hR : MRep S s) (hk : ∀ S2, MRep S2 (st_mix s v1 v2 v3) → K (sp_mix s v1 v2 v3) S2) : MWi l g shM m_X12_mix [.ref (g.ad 0), .int v1, .int v2, .int v3] S K := by
  have hH : MH S s.h := hR.1.2.1
  unfold sp_mix st_mix at hk
  refine MWi.intro _ rfl (Nat.le_of_ble_eq_true rfl) rfl (fun x ok => s_X12_mix_0 ok _ _ _ S ?_)
  have W : ¬ (v2 = -1 ∧ v3 = -1) → PW l x g shM m_X12_mix (Qi x g shM K) 14 [(0, .ref (g.ad 0)), (1, .int v1), (2, .int v2), (3, .int v3)] [] S := by
    intro hno
    refine s_X12_mix_14 ok _ _ _ S (c_X12_isChild (fun c hc e => y1 (c_X12_isSign (fun a ha e2 => y1 (c_X12_isSign (fun d hd e3 => y1 ?_) (fun h => y0 ?_))) (fun h => y0 ?_))) (fun h => y0 ?_))
    · subst e
      rw [ix_nI hc (by omega)] at hk
      dsimp only at hk
      rw [if_neg hno, if_neg hno] at hk
      subst e2; subst e3
      rw [ix_nI ha (by omega), ix_nI hd (by omega)] at hk
      dsimp only at hk
      rw [nI_eq (by omega) (by omega)]
      obtain ⟨d1, d2, d3⟩ := hH c hc
      refine ⟨fun y => s_X12_mix_50 ok _ _ _ _ S ⟨inI hc (by decide), ?_⟩, fun y => ?_⟩
      · rw [if_neg y, if_neg y] at hk
        refine ⟨fun _ => ?_, fun z => absurd (by decide) z⟩
        simp (disch := omega) only [cl, nI_clamp, d3, nI_leI, pk_mul, nI_add]
        refine ⟨fun r => ⟨inI hc (by decide), ?_⟩, fun r => ⟨inI hc (by decide), ?_⟩⟩
        · rw [if_neg (by omega)] at hk
          exact hk _ (ch_of hs hR (by omega) rfl rfl rfl (MH11 (t := some (10 * d + a)) hH))
        · rw [if_pos (by omega)] at hk
          exact hk _ (ch_of hs hR (by omega) rfl rfl rfl (MH11 (t := some (10 * a + d)) hH))
      · rw [if_pos y, if_pos y] at hk
        exact hk S hR
    · subst e
      rw [ix_nI hc (by omega)] at hk
      dsimp only at hk
      rw [if_neg hno, if_neg hno] at hk
      subst e2
      rw [ix_nI ha (by omega), ix_no h] at hk
      exact hk S hR
    · subst e
      rw [ix_nI hc (by omega)] at hk
      dsimp only at hk
      rw [if_neg hno, if_neg hno, ix_no h] at hk
      exact hk S hR
    · rw [ix_no h] at hk
      exact hk S hR
  refine ⟨fun y => W (fun q => y q.1), fun y => ⟨fun z => W (fun q => z q.2), fun z => c_X12_isChild (fun c hc e => y1 ?_) (fun h => y0 ?_)⟩⟩
  · subst e
    rw [ix_nI hc (by omega)] at hk
    dsimp only at hk
    rw [if_pos ⟨y, z⟩, if_pos ⟨y, z⟩] at hk
    obtain ⟨d1, d2, d3⟩ := hH c hc
    refine s_X12_mix_50 ok _ _ _ _ S ⟨inI hc (by decide), fun r => absurd r (by decide), fun _ => ⟨inI hc (by decide), ?_⟩⟩
    simp (disch := omega) only [cl, nI_clamp, d3]
    exact hk _ (ch_of hs hR (by omega) rfl rfl rfl (MH11 (t := none) hH))
  · rw [ix_no h] at hk
    exact hk S hR
/-- a child's numbers behind the search for the common sounds -/
theorem chS {S S2 : Mem} {s : Sg} (hs : SgOk s) (hR : MRep S s) (o : ∀ a, a < 6 ∨ 8 < a → S2 a = S a) {c : Nat} (hc : c < 4) : S2 9 c = nI (s.h.k c) ∧ S2 10 c = nI (s.h.ws c) ∧ S2 11 c = oI (s.h.m c) ∧ s.h.k c < 1024 ∧ s.h.ws c < 4096 ∧ mxOk (s.h.m c) ∧ MB S2 s.b := by
  obtain ⟨h1, h2, h3⟩ := hs.1.2.1 c hc
  obtain ⟨d1, d2, d3⟩ := hR.1.2.1 c hc
  have hpw : 2 ^ s.b.n ≤ 4096 := pw12 hs.1.1
  rw [o 9 (by omega), o 10 (by omega), o 11 (by omega)]
  exact ⟨d1, d2, d3, h1, by have h2 : s.h.ws c < 2 ^ s.b.n := h2; omega, h3.ok, hR.1.1.of (by rw [o 0 (by omega)]) (fun a _ _ => o a (by omega))⟩
theorem pm_read (hs : SgOk s) (hR : MRep S s) (hk : ∀ S2, MRep S2 s → K (sp_read s v1 v2 v3) S2) : MWi l g shM m_X12_read [.ref (g.ad 0), .int v1, .int v2, .int v3] S K := by
  obtain ⟨hb, hh, ha⟩ : BOk s.b ∧ ChOk s.b s.h ∧ AnOk s.b s.a := hs.1
  have hn := hb.1
  have hM : MB S s.b := hR.1.1
  unfold sp_read at hk
  refine MWi.intro _ rfl (Nat.le_of_ble_eq_true rfl) rfl (fun x ok => s_X12_read_0 ok _ _ _ S (c_X12_isChild (fun c hc e => y1 (c_X12_isWord hb hM (fun w hw e2 => z1 (c_X12_isEnd (fun q hq e3 => z1 ?_) (fun h => z0 ?_))) (fun h => z0 ?_))) (fun h => y0 ?_)))
  · subst e; subst e2; subst e3
    rw [ix_nI hc (by omega), ix_nI hw (by omega), ix_nI hq (by omega)] at hk
    dsimp only at hk
    refine c_X12_findCommon hb hM (fun S2 o hC => ?_)
    obtain ⟨d1, d2, d3, d4, d5, d6, d7⟩ := chS hs hR o hc
    simp (disch := omega) only [cl, nI_clamp, d1, d2]
    refine ⟨inI hc (by decide), inI hc (by decide), c_X12_findReading hb d7 hC hc hw d6 d3 d4 d5 (fun S3 R e1 e2 => ?_)⟩
    have hk := hk S3 (fCr hs hR o R)
    rw [nI_eq0 (by omega), e1, e2]
    refine ⟨fun y => ?_, fun y => ?_⟩
    · rw [if_neg y] at hk; exact hk
    · rw [if_pos y] at hk; exact hk
  · subst e; subst e2
    rw [ix_nI hc (by omega), ix_nI hw (by omega), ix_no h] at hk
    exact hk S hR
  · subst e
    rw [ix_nI hc (by omega), ix_no h] at hk
    exact hk S hR
  · rw [ix_no h] at hk
    exact hk S hR
theorem pm_share (hs : SgOk s) (hR : MRep S s) (hk : ∀ S2, MRep S2 s → K (sp_share s v) S2) : MWi l g shM m_X12_share [.ref (g.ad 0), .int v] S K := by
  obtain ⟨hb, hh, ha⟩ : BOk s.b ∧ ChOk s.b s.h ∧ AnOk s.b s.a := hs.1
  have hM : MB S s.b := hR.1.1
  unfold sp_share at hk
  refine MWi.intro _ rfl (Nat.le_of_ble_eq_true rfl) rfl (fun x ok => s_X12_share_0 ok _ S (c_X12_isChild (fun c hc e => z1 ?_) (fun h => z0 ?_)))
  · subst e
    rw [ix_nI hc (by omega)] at hk
    refine c_X12_findCommon hb hM (fun S2 o hC => ?_)
    obtain ⟨d1, d2, d3, d4, d5, d6, d7⟩ := chS hs hR o hc
    simp (disch := omega) only [cl, nI_clamp, d1, d2]
    exact ⟨inI hc (by decide), inI hc (by decide), c_X12_shareOf hb d7 hC hc d6 d3 d4 d5 (fun S3 R => hk S3 (fCr hs hR o R))⟩
  · rw [ix_no h] at hk
    exact hk S hR
theorem pm_gives (hs : SgOk s) (hR : MRep S s) (hk : ∀ S2, MRep S2 s → K (sp_gives s v1 v2) S2) : MWi l g shM m_X12_gives [.ref (g.ad 0), .int v1, .int v2] S K := by
  obtain ⟨hb, hh, ha⟩ : BOk s.b ∧ ChOk s.b s.h ∧ AnOk s.b s.a := hs.1
  have hn := hb.1
  have hpw := pw12 hb
  have hM : MB S s.b := hR.1.1
  unfold sp_gives at hk
  refine MWi.intro _ rfl (Nat.le_of_ble_eq_true rfl) rfl (fun x ok => s_X12_gives_0 ok _ _ S (c_X12_inN (by decide) (fun t _ ht e => y1 ?_) (fun h => y0 ?_)))
  · subst e
    rw [ix_nI (n := 1024) (by omega) (by omega)] at hk
    dsimp only at hk
    rw [hM.1, jshl_1 (by omega)]
    refine c_X12_inB (by omega) (fun w hw e => z1 ?_) (fun h => z0 ?_)
    · subst e
      rw [ix_nI hw (by omega)] at hk
      refine c_X12_findCommon hb hM (fun S2 o hC => c_X12_givesOf hb (hM.of (by rw [o 0 (by omega)]) (fun a _ _ => o a (by omega))) hC (by omega) (by omega) (hk S2 (fC hs hR o)))
    · rw [ix_no h] at hk
      exact hk S hR
  · rw [ix_no (n := 1024) (fun j hj => h j (by omega) (by omega))] at hk
    exact hk S hR
theorem pm_order (hs : SgOk s) (hR : MRep S s) (hk : ∀ S2, MRep S2 s → K (sp_order s v) S2) : MWi l g shM m_X12_order [.ref (g.ad 0), .int v] S K := by
  obtain ⟨hb, hh, ha⟩ : BOk s.b ∧ ChOk s.b s.h ∧ AnOk s.b s.a := hs.1
  have hM : MB S s.b := hR.1.1
  have hgl : ∀ t, gv0 s.b t ≤ 11988 := fun t => gives_le hb t 0
  have hal : ∀ t, ah (gv0 s.b) t ≤ 1024 * 11988 := fun t => ah_le hgl t
  unfold sp_order at hk
  have fin : ∀ {S2 : Mem}, (∀ a, a < 6 ∨ 8 < a → a ≠ 12 → a ≠ 13 → S2 a = S a) → MRep S2 s := fun o => hR.of hs (fun a j h => by rw [o a (by have := pub_ne h; omega) (by have := pub_ne h; omega) (by have := pub_ne h; omega)])
  refine MWi.intro _ rfl (Nat.le_of_ble_eq_true rfl) rfl (fun x ok => s_X12_order_0 ok _ S (c_X12_in (fun q1 q2 => z1 ?_) (fun h => z0 ?_)))
  · refine c_X12_findOrder hb hM (fun S2 o hT => ?_)
    have hT : ∀ t, t < 1024 → S2 12 t = nI (gv0 s.b t) ∧ S2 13 t = nI (ah (gv0 s.b) t) := hT
    have hk := hk S2 (fin o)
    refine ⟨fun y => ?_, fun y => ⟨inI (by decide) (by decide), ?_⟩⟩
    · rw [if_neg y] at hk
      have h0 : ¬ v < 0 := by
        rw [fa_le64, Int32.toInt_toInt64] at q1
        have e1 : (-1 : Int64).toInt = -1 := by decide
        rw [e1] at q1
        intro c
        rw [fa_lt] at c
        have c : v.toInt < 0 := c
        have : v.toInt = -1 := by omega
        exact y (Int32.toInt_inj.mp (by rw [this]; decide))
      obtain ⟨i, hi, rfl⟩ := nI_of h0
      rw [fa_le64, Int32.toInt_toInt64, nI_toInt hi, lN_toInt (by decide)] at q2
      have hi10 : i < 10 := by omega
      rw [ix_nI hi10 hi] at hk
      dsimp only at hk
      have L : ∀ k, k ≤ i + 1 → PW l x g shM m_X12_order (Qi x g shM K) 40 [(0, .ref (g.ad 0)), (1, .int (nI i)), (2, .int (nI (ost (gv0 s.b) k))), (3, .int (if k = 0 then nI 0 else nI (nxt (gv0 s.b) (ost (gv0 s.b) (k - 1))))), (4, .int (nI k))] [] S2 := by
        refine lpU (fun k => PW l x g shM m_X12_order (Qi x g shM K) 40 [(0, .ref (g.ad 0)), (1, .int (nI i)), (2, .int (nI (ost (gv0 s.b) k))), (3, .int (if k = 0 then nI 0 else nI (nxt (gv0 s.b) (ost (gv0 s.b) (k - 1))))), (4, .int (nI k))] [] S2) (i + 1) ?_ (fun k hk2 ih => ?_)
        · refine s_X12_order_40 ok _ _ _ _ S2 ⟨fun _ => ?_, fun c => absurd (nI_lt (by omega) (by omega)) c⟩
          rw [if_neg (by omega)]
          exact hk
        · refine s_X12_order_40 ok _ _ _ _ S2 ⟨fun c => absurd c (nI_nlt (by omega) (by omega)), fun _ => ?_⟩
          obtain ⟨o1, o2, o3⟩ := ost_ok (gv := gv0 s.b) (k := k) (by omega)
          obtain ⟨n1, n2, n3⟩ := nxt_ok (gv := gv0 s.b) o1 (o3 (by omega))
          have step : ∀ t, t < 10 → ((nxP (gv0 s.b) (ost (gv0 s.b) k) t = true → PW l x g shM m_X12_order (Qi x g shM K) 40 [(0, .ref (g.ad 0)), (1, .int (nI i)), (2, .int (nI (ost (gv0 s.b) k ||| 2 ^ t))), (3, .int (nI t)), (4, .int (nI (k + 1)))] [] S2) ∧ (nxP (gv0 s.b) (ost (gv0 s.b) k) t = false → PW l x g shM m_X12_order (Qi x g shM K) 48 [(0, .ref (g.ad 0)), (1, .int (nI i)), (2, .int (nI (ost (gv0 s.b) k))), (3, .int (nI (t + 1))), (4, .int (nI k))] [] S2)) → PW l x g shM m_X12_order (Qi x g shM K) 48 [(0, .ref (g.ad 0)), (1, .int (nI i)), (2, .int (nI (ost (gv0 s.b) k))), (3, .int (nI t)), (4, .int (nI k))] [] S2 := by
            intro t ht hst
            have hor := or_lt (v := ost (gv0 s.b) k) (k := 10) o1 ht
            have g1 := hgl (ost (gv0 s.b) k ||| 2 ^ t)
            have g2 := hal (ost (gv0 s.b) k ||| 2 ^ t)
            have g3 := hal (ost (gv0 s.b) k)
            obtain ⟨a1, a2⟩ := hT (ost (gv0 s.b) k ||| 2 ^ t) hor
            obtain ⟨b1, b2⟩ := hT (ost (gv0 s.b) k) o1
            refine s_X12_order_48 ok _ _ _ _ S2 ?_
            simp (disch := omega) only [bit_n, bI1, jshl_1, fa_or, cl, nI_clamp, a1, a2, b2, nI_add]
            refine ⟨fun z => hst.2 ?_, fun z => ⟨inI hor (by decide), inI hor (by decide), inI o1 (by decide), ?_⟩⟩
            · unfold nxP; rw [z]; rfl
            · rw [Bool.not_eq_true] at z
              rw [nI_eq (by omega) (by omega)]
              refine ⟨fun r => hst.1 ?_, fun r => hst.2 ?_⟩
              · unfold nxP; rw [z, decide_eq_true r]; rfl
              · unfold nxP; rw [z, decide_eq_false r]; rfl
          refine lpU (fun t => PW l x g shM m_X12_order (Qi x g shM K) 48 [(0, .ref (g.ad 0)), (1, .int (nI i)), (2, .int (nI (ost (gv0 s.b) k))), (3, .int (nI t)), (4, .int (nI k))] [] S2) (nxt (gv0 s.b) (ost (gv0 s.b) k)) ?_ (fun t ht ih2 => ?_) 0 (Nat.zero_le _)
          · refine step _ n1 ⟨fun _ => ?_, fun c => by rw [n2] at c; cases c⟩
            rw [if_neg (by omega), show k + 1 - 1 = k by omega] at ih
            exact ih
          · exact step t (by omega) ⟨fun c => (by rw [n3 t ht] at c; cases c), fun _ => ih2⟩
      exact L 0 (Nat.zero_le _)
    · rw [if_pos y] at hk
      rw [cl, nI_clamp (by decide), (hT 0 (by decide)).2]
      exact hk
  · have h1 : ¬ v = -1 := fun e => h (by subst e; exact ⟨by decide, by decide⟩)
    rw [if_neg h1] at hk
    rw [ix_no (fun j hj e => h (by
      subst e
      rw [fa_le64, fa_le64, Int32.toInt_toInt64, nI_toInt (by omega), lN_toInt (by decide)]
      have e1 : (-1 : Int64).toInt = -1 := by decide
      rw [e1]
      omega))] at hk
    exact hk S hR
theorem pm_most (hs : SgOk s) (hR : MRep S s) (hk : ∀ S2, MRep S2 s → K (sp_most s v1 v2 v3) S2) : MWi l g shM m_X12_most [.ref (g.ad 0), .int v1, .int v2, .int v3] S K := by
  obtain ⟨hb, hh, ha⟩ : BOk s.b ∧ ChOk s.b s.h ∧ AnOk s.b s.a := hs.1
  have hn := hb.1
  have hM : MB S s.b := hR.1.1
  unfold sp_most at hk
  refine MWi.intro _ rfl (Nat.le_of_ble_eq_true rfl) rfl (fun x ok => s_X12_most_0 ok _ _ _ S (c_X12_inN (by decide) (fun k _ hkk e => y1 ?_) (fun h => y0 ?_)))
  · subst e
    rw [ix_nI (n := 11) (by omega) (by omega)] at hk
    dsimp only at hk
    rw [hM.1, nI_l (by omega)]
    refine c_X12_inN ⟨by omega, by omega⟩ (fun w _ hw e => y1 (c_X12_inN (by decide) (fun q _ hq e2 => z1 ?_) (fun h => z0 ?_))) (fun h => y0 ?_)
    · subst e; subst e2
      rw [ix_nI (n := s.b.n + 1) (by omega) (by omega), ix_nI (n := 3) (by omega) (by omega)] at hk
      dsimp only at hk
      obtain ⟨t, ht⟩ := most_some (b := s.b) w hkk
      rw [ht] at hk
      refine c_X12_findCommon hb hM (fun S2 o hC => c_X12_mostL ok hb (hM.of (by rw [o 0 (by omega)]) (fun a _ _ => o a (by omega))) hC hkk hw (by omega) ht (hk S2 (fC hs hR o)))
    · subst e
      rw [ix_nI (n := s.b.n + 1) (by omega) (by omega), ix_no (n := 3) (fun j hj => h j (by omega) (by omega))] at hk
      exact hk S hR
    · rw [ix_no (n := s.b.n + 1) (fun j hj => h j (by omega) (by omega))] at hk
      exact hk S hR
  · rw [ix_no (n := 11) (fun j hj => h j (by omega) (by omega))] at hk
    exact hk S hR
theorem tst_lt {b : Bk} {rb : Nat → Bool} (hn : b.n ≤ 12) : ∀ {k : Nat}, k ≤ lng b rb → (tst b rb k).1 < 2 ^ b.n ∧ ∀ a, (tst b rb k).2 = some a → a < b.n
  | 0, _ => ⟨Nat.two_pow_pos _, fun a h => by cases h⟩
  | k + 1, h => by
    obtain ⟨h1, h2⟩ := tst_lt (rb := rb) hn (k := k) (by omega)
    obtain ⟨t1, t2⟩ := tst_ok (rb := rb) hn (k := k) (by omega)
    obtain ⟨n1, n2, n3, n4⟩ := tnx_ok (by omega) t2
    rw [tst]
    exact ⟨or_lt h1 n1, fun a ha => by cases ha; exact n1⟩
theorem pm_tale (hs : SgOk s) (hR : MRep S s) (hk : ∀ S2, MRep S2 s → K (sp_tale s v1 v2) S2) : MWi l g shM m_X12_tale [.ref (g.ad 0), .int v1, .int v2] S K := by
  obtain ⟨hb, hh, ha⟩ : BOk s.b ∧ ChOk s.b s.h ∧ AnOk s.b s.a := hs.1
  have hn := hb.1
  have hM : MB S s.b := hR.1.1
  unfold sp_tale at hk
  refine MWi.intro _ rfl (Nat.le_of_ble_eq_true rfl) rfl (fun x ok => s_X12_tale_0 ok _ _ S (c_X12_isChild (fun c hc e => z1 ?_) (fun h => z0 ?_)))
  · subst e
    rw [ix_nI hc (by omega)] at hk
    dsimp only at hk
    obtain ⟨d1, d2, d3, d4, d5, d6, d7⟩ := chS hs hR (fun _ _ => rfl) hc
    refine c_X12_findTales hb hM hc d6 d3 d4 d5 d1 d2 (fun S2 o1 o2 o3 o4 => ?_)
    have hR2 : MRep S2 s := hR.of hs (fun a j h => by
      have := pub_ne h
      by_cases ha : a = 0
      · subst ha
        exact o2 j (by omega) (by omega)
      · rw [o1 a ha (by omega) (by omega) (by omega) (by omega) (by omega)])
    have hk := hk S2 hR2
    have hM2 : MB S2 s.b := hR2.1.1
    have hrb : ∀ w, w < s.b.n → S2 15 w = nI (rbC s c w).toNat := o3
    have hml := fun t w => mc_le (b := s.b) (rb := rbC s c) t w
    have ht14 : ∀ t w, t < 4096 → t < 2 ^ s.b.n → w < s.b.n → t.testBit w = true → S2 14 (12 * t + w) = nI (mc s.b (rbC s c) t w) := fun t w h1 h2 h3 h4 => by
      refine o4 t w ?_ h2 h3 h4
      rcases Nat.eq_zero_or_pos t with q | q
      · subst q; simp at h4
      · exact q
    have hlg : lng s.b (rbC s c) ≤ 4097 := mxS_le (fun i _ => by
      unfold cvl
      have := hml (0 ||| 2 ^ i) i
      split <;> omega)
    have hpw := pw12 hb
    refine lpU (fun w => PW l x g shM m_X12_tale (Qi x g shM K) 19 [(0, .ref (g.ad 0)), (2, .int v2), (3, .int (nI (mxS (cvl s.b (rbC s c) 0 none) w))), (4, .int (nI w))] [] S2) s.b.n ?_ (fun w hw ih => ?_) 0 (Nat.zero_le _)
    · refine s_X12_tale_19 ok _ _ _ S2 ⟨fun _ => ?_, fun c => absurd ?_ c⟩
      · show (¬ v2 = -1 → MWi l g shM m_X12_in [.long v2.toInt64, .long (lN 0), .long (nI (lng s.b (rbC s c)) - nI 1).toInt64] S2 _) ∧ (v2 = -1 → K (nI (lng s.b (rbC s c))) S2)
        refine ⟨fun y => ?_, fun y => ?_⟩
        · rw [if_neg y] at hk
          refine c_X12_inB (by omega) (fun i hi e => z1 ?_) (fun h => z0 ?_)
          · subst e
            rw [ix_nI hi (by omega)] at hk
            dsimp only at hk
            have L : ∀ k, k ≤ i + 1 → PW l x g shM m_X12_tale (Qi x g shM K) 113 [(0, .ref (g.ad 0)), (2, .int (nI i)), (3, .int (nI (lng s.b (rbC s c)))), (4, .int (nI (tst s.b (rbC s c) k).1)), (5, .int (oI (tst s.b (rbC s c) k).2)), (6, .int (nI k))] [] S2 := by
              refine lpU (fun k => PW l x g shM m_X12_tale (Qi x g shM K) 113 [(0, .ref (g.ad 0)), (2, .int (nI i)), (3, .int (nI (lng s.b (rbC s c)))), (4, .int (nI (tst s.b (rbC s c) k).1)), (5, .int (oI (tst s.b (rbC s c) k).2)), (6, .int (nI k))] [] S2) (i + 1) ?_ (fun k hk2 ih => ?_)
              · exact s_X12_tale_113 ok _ _ _ _ _ S2 ⟨fun _ => hk, fun c => absurd (nI_lt (by omega) (by omega)) c⟩
              · refine s_X12_tale_113 ok _ _ _ _ _ S2 ⟨fun c => absurd c (nI_nlt (by omega) (by omega)), fun _ => ?_⟩
                obtain ⟨t1, t2⟩ := tst_ok (b := s.b) (rb := rbC s c) hn (k := k) (by omega)
                obtain ⟨n1, n2, n3, n4⟩ := tnx_ok (by omega) t2
                obtain ⟨tlt, hlast⟩ := tst_lt (b := s.b) (rb := rbC s c) hn (k := k) (by omega)
                refine lpU (fun w => PW l x g shM m_X12_tale (Qi x g shM K) 122 [(0, .ref (g.ad 0)), (2, .int (nI i)), (3, .int (nI (lng s.b (rbC s c)))), (4, .int (nI (tst s.b (rbC s c) k).1)), (5, .int (oI (tst s.b (rbC s c) k).2)), (6, .int (nI k)), (7, .int (nI w))] [] S2) (tnx s.b (rbC s c) (tst s.b (rbC s c) k).1 (tst s.b (rbC s c) k).2 (lng s.b (rbC s c) - k)) ?_ (fun w hw ih2 => ?_) 0 (Nat.zero_le _)
                · refine s_X12_tale_122 ok _ _ _ _ _ _ S2 ?_
                  rw [pk_sub (by omega)]
                  refine c_X12_comes hb hM2 t1 n1 (by omega) hlast (hrb _ n1) (fun _ => ht14 _ _ (or_lt (k := 12) t1 (by omega)) (or_lt tlt n1) n1 (by rw [fb_bit_set]; simp)) ?_
                  rw [n2, decide_eq_true n3]
                  refine ⟨fun _ => ?_, fun c => absurd c (by decide)⟩
                  rw [tst] at ih
                  simp (disch := omega) only [jshl_1, fa_or, nI_add]
                  exact ih
                · refine s_X12_tale_122 ok _ _ _ _ _ _ S2 ?_
                  rw [pk_sub (by omega)]
                  have hwn : w < s.b.n := by omega
                  refine c_X12_comes hb hM2 t1 hwn (by omega) hlast (hrb _ hwn) (fun _ => ht14 _ _ (or_lt (k := 12) t1 (by omega)) (or_lt tlt hwn) hwn (by rw [fb_bit_set]; simp)) ?_
                  rw [n4 w hw]
                  refine ⟨fun c => absurd (by decide) c, fun _ => ?_⟩
                  rw [nI_add]; exact ih2
            exact L 0 (Nat.zero_le _)
          · rw [ix_no h] at hk
            exact hk
        · rw [if_pos y] at hk
          exact hk
      · simp (disch := omega) only [hM2.1, nI_leI, Nat.le_refl]
    · have hor := or_lt (v := 0) (k := s.b.n) (Nat.two_pow_pos _) hw
      rw [Nat.zero_or] at hor
      have h2w : 2 ^ w < 4096 := by omega
      have hmw := hml (2 ^ w) w
      have hmx : mxS (cvl s.b (rbC s c) 0 none) w ≤ 4097 := mxS_le (fun i _ => by
        unfold cvl
        have := hml (0 ||| 2 ^ i) i
        split <;> omega)
      have ev : cvl s.b (rbC s c) 0 none w = if rbC s c w = true then 1 + mc s.b (rbC s c) (2 ^ w) w else 0 := by
        unfold cvl cnd
        rw [Nat.zero_or]
        simp
      refine s_X12_tale_19 ok _ _ _ S2 ⟨fun c => absurd c ?_, fun _ => ⟨inI (by omega) (by decide), ?_⟩⟩
      · simp (disch := omega) only [hM2.1, nI_leI]; omega
      simp (disch := omega) only [cl, nI_clamp, hrb w hw, bI0, nI_leI, jshl_1, pk_mul, nI_add, ht14 (2 ^ w) w h2w hor hw (by rw [Nat.testBit_two_pow]; simp)]
      refine ⟨fun y => ?_, fun y => ⟨inI (by omega) (by decide), ?_⟩⟩
      · rw [y] at ev
        simp only [Bool.false_eq_true, if_false] at ev
        rw [mxS_step_le (by omega)] at ih
        exact ⟨fun _ => ih, fun c => absurd (Nat.zero_le _) c⟩
      · rw [Bool.not_eq_false] at y
        rw [y] at ev
        simp only [if_true] at ev
        refine ⟨fun r => ?_, fun r => ?_⟩
        · rw [mxS_step_le (by omega)] at ih; exact ih
        · rw [mxS_step_gt (by omega), ev] at ih; exact ih
  · rw [ix_no h] at hk
    exact hk S hR
end MODR
