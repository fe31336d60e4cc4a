/-! PART 62: the class's calls: what changes the children, the answers, the images -/
theorem ch_rep {S S1 S2 : Mem} {s : Sg} {h2 : Ch} {c : Nat} (hR : XRep S s) (e1 : ∀ a, a < 11 ∨ 14 < a → S1 a = S a) (hH : XH S1 10 h2) (hd : ∀ d, d ≠ c → h2.k d = s.h.k d ∧ h2.ws d = s.h.ws d ∧ h2.m d = s.h.m d) (q1 : ∀ a, a ≠ 31 → a ≠ 42 → S2 a = S1 a) (q2 : ∀ j, j ≠ 5 → S2 31 j = S1 31 j) (q3 : S2 42 c = nI 0) (q4 : ∀ d, d ≠ c → S2 42 d = S1 42 d) (q5 : S1 31 5 = nI c → S2 31 5 = -6) (q6 : ¬ S1 31 5 = nI c → S2 31 5 = S1 31 5) (hc : c < 4) : XRep S2 ((s.b, h2, s.a), s.2) := by
  obtain ⟨⟨p1, p2⟩, p3, p4, p5, p6, p7, p8, p9⟩ := hR
  have e : ∀ a, a < 11 ∨ 14 < a → a ≠ 31 → a ≠ 42 → S2 a = S a := fun a h1 h2 h3 => by rw [q1 a h2 h3]; exact e1 a h1
  refine ⟨⟨⟨p1.1.of (fun a h1 h2 => e a (by omega) (by omega) (by omega)), hH.of (fun a h1 h2 => q1 a (by omega) (by omega)), p1.2.2.of (fun a h1 h2 => e a (by omega) (by omega) (by omega))⟩, p2.of (e _ (by omega) (by omega) (by omega))⟩, p3.of (fun a h1 h2 => e a (by omega) (by omega) (by omega)), p4.of (s := s) (e _ (by omega) (by omega) (by omega)) (e _ (by omega) (by omega) (by omega)), p5.of (e _ (by omega) (by omega) (by omega)) (e _ (by omega) (by omega) (by omega)), ?_, fun d hd4 => ?_, p8.of (fun a h1 h2 => e a (by omega) (by omega) (by omega)) (e _ (by omega) (by omega) (by omega)), p9.of (fun a h1 h2 => e a (by omega) (by omega) (by omega)) (e _ (by omega) (by omega) (by omega))⟩
  · rcases p6 with h | ⟨d, d4, h5, h4, hr⟩
    · refine Or.inl ?_
      have h31 : S1 31 5 = -6 := by rw [e1 31 (by omega)]; exact h
      rw [q6 (by rw [h31]; exact fun q => ne_neg6 (by omega) q.symm)]
      exact h31
    · have h31 : S1 31 5 = nI d := by rw [e1 31 (by omega)]; exact h5
      by_cases k : d = c
      · subst k
        exact Or.inl (q5 h31)
      · obtain ⟨k1, k2, k3⟩ := hd d k
        have er : rbC ((s.b, h2, s.a), s.2) d = rbC s d := by
          unfold rbC
          show bk_can s.b (h2.m d) (h2.k d) (h2.ws d) = _
          rw [k1, k2, k3]
        refine Or.inr ⟨d, d4, ?_, ?_, fun i hi => ?_⟩
        · rw [q6 (by rw [h31, nI_eq (by omega) (by omega)]; exact k)]; exact h31
        · rw [q2 4 (by decide), e1 31 (by omega), er]; exact h4
        · rw [er] at hi ⊢
          rw [e 34 (by omega) (by omega) (by omega)]; exact hr i hi
  · by_cases k : d = c
    · subst k
      exact Or.inl q3
    · obtain ⟨k1, k2, k3⟩ := hd d k
      rw [q4 d k, e1 42 (by omega), e 41 (by omega) (by omega) (by omega)]
      have er : ∀ n, lesC s.b h2 d n = lesC s.b s.h d n := fun n => by
        unfold lesC
        rw [k1, k2, k3]
      rcases p7 d hd4 with h | ⟨h, hr⟩
      · exact Or.inl h
      · exact Or.inr ⟨h, fun n hn => by show S 41 (13 * d + n) = nI (lesC s.b h2 d n); rw [er]; exact hr n hn⟩
theorem XH11 {S : Mem} {h : Ch} {c t : Nat} (hH : XH S 10 h) : XH (st2 S 11 c (nI t)) 10 (upN h.1 c t, h.2.1, h.2.2) := fun d hd => by
  obtain ⟨a1, a2, a3, a4⟩ := hH d hd
  refine ⟨?_, ?_, ?_, ?_⟩
  · show st2 S 11 c (nI t) 11 d = nI (upN h.1 c t d)
    rw [st2_get]
    unfold upN
    split
    · rfl
    · exact a1
  · show st2 S 11 c (nI t) 12 d = _
    rw [st2_off (by decide)]; exact a2
  · show st2 S 11 c (nI t) 13 d = _
    rw [st2_off (by decide)]; exact a3
  · show st2 S 11 c (nI t) 14 d = _
    rw [st2_off (by decide)]; exact a4
theorem XH12 {S : Mem} {h : Ch} {c t : Nat} (hH : XH S 10 h) : XH (st2 S 12 c (nI t)) 10 (h.1, upN h.2.1 c t, h.2.2) := fun d hd => by
  obtain ⟨a1, a2, a3, a4⟩ := hH d hd
  refine ⟨?_, ?_, ?_, ?_⟩
  · show st2 S 12 c (nI t) 11 d = _
    rw [st2_off (by decide)]; exact a1
  · show st2 S 12 c (nI t) 12 d = nI (upN h.2.1 c t d)
    rw [st2_get]
    unfold upN
    split
    · rfl
    · exact a2
  · show st2 S 12 c (nI t) 13 d = _
    rw [st2_off (by decide)]; exact a3
  · show st2 S 12 c (nI t) 14 d = _
    rw [st2_off (by decide)]; exact a4
theorem XH13 {S : Mem} {h : Ch} {c : Nat} {m : Option Nat} (hH : XH S 10 h) : XH (st2 (st2 S 13 c (mlI m)) 14 c (mmI m)) 10 (h.1, h.2.1, upN h.2.2 c m) := fun d hd => by
  obtain ⟨a1, a2, a3, a4⟩ := hH d hd
  refine ⟨?_, ?_, ?_, ?_⟩
  · show st2 (st2 S 13 c (mlI m)) 14 c (mmI m) 11 d = _
    rw [st2_off (by decide), st2_off (by decide)]; exact a1
  · show st2 (st2 S 13 c (mlI m)) 14 c (mmI m) 12 d = _
    rw [st2_off (by decide), st2_off (by decide)]; exact a2
  · show st2 (st2 S 13 c (mlI m)) 14 c (mmI m) 13 d = mlI (upN h.2.2 c m d)
    rw [st2_off (by decide), st2_get]
    unfold upN
    split
    · rfl
    · exact a3
  · show st2 (st2 S 13 c (mlI m)) 14 c (mmI m) 14 d = mmI (upN h.2.2 c m d)
    rw [st2_get, st2_off (by decide)]
    unfold upN
    split
    · rfl
    · exact a4
theorem XI.of1 {S S2 : Mem} {m : Option Co} {n o : Nat} (h : XI S m n o) (e : ∀ a, o ≤ a → a ≤ o + 13 → S2 a = S a) (e2 : S2 45 n = S 45 n) : XI S2 m n o := by
  refine ⟨?_, h.2.of (e _ (by omega) (by omega))⟩
  rw [e2]
  rcases h.1 with q | ⟨c, q1, q2, q3⟩
  · exact Or.inl q
  · exact Or.inr ⟨c, q1, q2, q3.of e⟩
section CLAT
variable {l : Launch} {g : Geo} {S : Mem} {s : Sg} {K : Int32 → Mem → Prop} {v v1 v2 v3 : Int32}
theorem px_knows (hs : SgOk s) (hR : XRep S s) (hk : ∀ S2, XRep S2 (st_knows s v1 v2 v3) → K (sp_knows s v1 v2 v3) S2) : MWi l g shX m_X11_knows [.ref (g.ad 0), .int v1, .int v2, .int v3] S K := by
  obtain ⟨hb, hh, ha⟩ : BOk s.b ∧ ChOk s.b s.h ∧ AnOk s.b s.a := hs.1
  have hpw := pw12 hb
  have hX : XB S 4 s.b := hR.1.1.1
  have hH : XH S 10 s.h := hR.1.1.2.1
  unfold sp_knows st_knows at hk
  refine MWi.intro _ rfl (Nat.le_of_ble_eq_true rfl) rfl (fun x ok => s_X11_knows_0 ok _ _ _ S (c_X11_isChild (fun c hc e => z1 ⟨fun y => ?_, fun y => ⟨fun z => ?_, fun z => ?_⟩⟩) (fun h => z0 ?_)))
  · subst e
    have i2 : ix v2 2 = some 0 := by rw [y]; exact ix_nI (by decide) (by decide)
    rw [ix_nI hc (by omega), i2] at hk
    dsimp only at hk
    refine ⟨fun q => absurd y q, fun _ => c_X11_isSignSet (fun t ht e3 => z1 ⟨fun q => absurd y q, fun _ => ⟨inI hc (by decide), inI hc (by decide), ?_⟩⟩) (fun h => z0 ?_)⟩
    · subst e3
      rw [ix_nI (n := 1024) ht (by omega)] at hk
      simp only [if_true] at hk
      have e11 : S 11 c = nI (s.h.k c) := (hH c hc).1
      rw [cl, nI_clamp (by omega), e11]
      exact c_X11_childChanged hc (fun S2 r1 r2 r3 r4 r5 r6 => hk S2 (ch_rep hR (fun a ha => st2_off (by omega)) (XH11 hH) (fun d hd => ⟨by show upN s.h.1 c t d = s.h.1 d; unfold upN; rw [if_neg hd], rfl, rfl⟩) r1 r2 r3 r4 r5 r6 hc))
    · rw [ix_no (n := 1024) h] at hk
      exact hk S hR
  · subst e
    have i2 : ix v2 2 = some 1 := by rw [z]; exact ix_nI (by decide) (by decide)
    rw [ix_nI hc (by omega), i2] at hk
    dsimp only at hk
    refine ⟨fun _ => c_X1_isWordSet hb hX (fun t ht e3 => z1 ⟨fun _ => ⟨inI hc (by decide), inI hc (by decide), ?_⟩, fun q => absurd q y⟩) (fun h => z0 ?_), fun q => absurd q y⟩
    · subst e3
      rw [ix_nI (n := 2 ^ s.b.n) ht (by omega)] at hk
      simp only [Nat.one_ne_zero, if_false] at hk
      have e12 : S 12 c = nI (s.h.ws c) := (hH c hc).2.1
      rw [cl, nI_clamp (by omega), e12]
      exact c_X11_childChanged hc (fun S2 r1 r2 r3 r4 r5 r6 => hk S2 (ch_rep hR (fun a ha => st2_off (by omega)) (XH12 hH) (fun d hd => ⟨rfl, by show upN s.h.2.1 c t d = s.h.2.1 d; unfold upN; rw [if_neg hd], rfl⟩) r1 r2 r3 r4 r5 r6 hc))
    · rw [ix_no (n := 2 ^ s.b.n) h] at hk
      exact hk S hR
  · subst e
    rw [ix_nI hc (by omega), ix_no (v := v2) (n := 2) (fun j hj e => by
      have hj2 : j = 0 ∨ j = 1 := by omega
      rcases hj2 with rfl | rfl
      · exact y e
      · exact z e)] at hk
    exact hk S hR
  · rw [ix_no h] at hk
    exact hk S hR
theorem px_mix (hs : SgOk s) (hR : XRep S s) (hk : ∀ S2, XRep S2 (st_mix s v1 v2 v3) → K (sp_mix s v1 v2 v3) S2) : MWi l g shX m_X11_mix [.ref (g.ad 0), .int v1, .int v2, .int v3] S K := by
  obtain ⟨hb, hh, ha⟩ : BOk s.b ∧ ChOk s.b s.h ∧ AnOk s.b s.a := hs.1
  have hH : XH S 10 s.h := hR.1.1.2.1
  unfold sp_mix st_mix at hk
  refine MWi.intro _ rfl (Nat.le_of_ble_eq_true rfl) rfl (fun x ok => s_X11_mix_0 ok _ _ _ S (c_X11_isChild (fun c hc e => z1 ?_) (fun h => z0 ?_)))
  · subst e
    rw [ix_nI hc (by omega)] at hk
    dsimp only at hk
    have L52 : ∀ m2 : Option Nat, jmin v2 v3 = mlI m2 → jmax v2 v3 = mmI m2 → (∀ S2, XRep S2 ((s.b, (s.h.1, s.h.2.1, upN s.h.2.2 c m2), s.a), s.2) → K (oI (s.h.m c)) S2) → PW l x g shX m_X11_mix (Qi x g shX K) 52 [(0, .ref (g.ad 0)), (1, .int (nI c)), (2, .int v2), (3, .int v3)] [] S := by
      intro m2 j1 j2 hk
      refine s_X11_mix_52 ok _ _ _ S (c_X2_mixedUp hc hH (hh c hc).2.2 ⟨inI hc (by decide), inI hc (by decide), ?_⟩)
      rw [cl, nI_clamp (by omega), j1, j2]
      exact c_X11_childChanged hc (fun S2 r1 r2 r3 r4 r5 r6 => hk S2 (ch_rep hR (fun a ha => by rw [st2_off (by omega), st2_off (by omega)]) (XH13 hH) (fun d hd => ⟨rfl, rfl, by show upN s.h.2.2 c m2 d = s.h.2.2 d; unfold upN; rw [if_neg hd]⟩) r1 r2 r3 r4 r5 r6 hc))
    have L23 : ¬ (v2 = -1 ∧ v3 = -1) → PW l x g shX m_X11_mix (Qi x g shX K) 23 [(0, .ref (g.ad 0)), (1, .int (nI c)), (2, .int v2), (3, .int v3)] [] S := by
      intro hno
      rw [if_neg hno, if_neg hno] at hk
      refine s_X11_mix_23 ok _ _ _ S (c_X11_isSign (fun a ha e2 => y1 (c_X11_isSign (fun d hd e3 => y1 ⟨fun y => ?_, fun y => ?_⟩) (fun h => y0 ?_))) (fun h => y0 ?_))
      · subst e2; subst e3
        rw [nI_eq (by omega) (by omega)] at y
        rw [ix_nI ha (by omega), ix_nI hd (by omega)] at hk
        dsimp only at hk
        rw [if_neg y, if_neg y] at hk
        refine L52 (some (if a < d then 10 * a + d else 10 * d + a)) ?_ ?_ hk
        · rw [jmin_n (by omega) (by omega)]
          show nI (if d < a then d else a) = nI ((if a < d then 10 * a + d else 10 * d + a) / 10)
          congr 1
          split <;> split <;> omega
        · rw [jmax_n (by omega) (by omega)]
          show nI (if a < d then d else a) = nI ((if a < d then 10 * a + d else 10 * d + a) % 10)
          congr 1
          split <;> omega
      · subst e2; subst e3
        rw [nI_eq (by omega) (by omega)] at y
        rw [ix_nI ha (by omega), ix_nI hd (by omega)] at hk
        dsimp only at hk
        rw [if_pos y, if_pos y] at hk
        exact hk S hR
      · subst e2
        rw [ix_nI ha (by omega), ix_no h] at hk
        exact hk S hR
      · rw [ix_no h] at hk
        exact hk S hR
    refine ⟨fun y => L23 (fun q => y q.1), fun y => ⟨fun z => L23 (fun q => z q.2), fun z => ?_⟩⟩
    rw [if_pos ⟨y, z⟩, if_pos ⟨y, z⟩] at hk
    refine L52 none ?_ ?_ hk
    · rw [y, z]; decide
    · rw [y, z]; decide
  · rw [ix_no h] at hk
    exact hk S hR
theorem px_answer {r : Bool} (hs : SgOk s) (hR : XRep S s) (hk : ∀ S2, XRep S2 (st_answer s v1 r) → K (sp_answer s v1) S2) : MWi l g shX m_X11_answer [.ref (g.ad 0), .int v1, .int (nI r.toNat)] S K := by
  obtain ⟨hb, hh, ha⟩ : BOk s.b ∧ ChOk s.b s.h ∧ AnOk s.b s.a := hs.1
  have hn := hb.1
  have hna : s.a.n ≤ 20 := ha.1
  obtain ⟨⟨p1, p2⟩, p3, p4, p5, p6, p7, p8, p9⟩ := id hR
  have hX : XB S 4 s.b := p1.1
  have hA : XA S 15 s.a := p1.2.2
  have e15 : S 15 2 = nI s.a.n := hA.1
  have hnr : vp_nar .boolean (nI r.toNat) = nI r.toNat := by cases r <;> decide
  unfold sp_answer st_answer at hk
  refine MWi.intro _ rfl (Nat.le_of_ble_eq_true rfl) rfl (fun x ok => s_X11_answer_0 ok _ _ S (c_X1_holds hb hX (fun w hw e => z1 ⟨fun y => ?_, fun y => ?_⟩) (fun h => z0 ?_)))
  · subst e
    rw [e15, nI_ltI (by omega) (by decide)] at y
    rw [ix_nI hw (by omega)] at hk
    dsimp only at hk
    rw [if_neg (by omega), if_neg (by omega)] at hk
    refine MWv.intro _ rfl (Nat.le_of_ble_eq_true rfl) rfl (fun x ok => s_X0_add_0 ok _ _ S ⟨fun q => ?_, fun _ => ?_⟩)
    · rw [e15, nI_leI (by decide) (by omega)] at q
      omega
    · simp (disch := omega) only [e15, cl, nI_clamp, st2_off, st2_get, if_true, nI_add]
      refine ⟨inI (by omega) (by decide), inI (by omega) (by decide), hnr, ?_⟩
      have e : ∀ a, a < 15 ∨ 17 < a → st2 (st2 (st2 S 16 s.a.n (nI w)) 17 s.a.n (nI r.toNat)) 15 2 (nI (s.a.n + 1)) a = S a := fun a h => by rw [st2_off (by omega), st2_off (by omega), st2_off (by omega)]
      refine hk _ ⟨⟨⟨p1.1.of (fun a h1 h2 => e a (by omega)), p1.2.1.of (fun a h1 h2 => e a (by omega)), ?_, fun k hk => ⟨?_, ?_⟩⟩, fun k hk => ?_⟩, p3.of (fun a h1 h2 => e a (by omega)), p4.of (s := s) (e _ (by omega)) (e _ (by omega)), p5.of (e _ (by omega)) (e _ (by omega)), p6.of (s := s) (e _ (by omega)) (e _ (by omega)), p7.of (e _ (by omega)) (e _ (by omega)), p8.of (fun a h1 h2 => e a (by omega)) (e _ (by omega)), p9.of (fun a h1 h2 => e a (by omega)) (e _ (by omega))⟩
      · show st2 _ 15 2 _ 15 2 = nI (s.a.n + 1)
        rw [st2_get, if_pos rfl]
      · have hk : k < s.a.n + 1 := hk
        show st2 _ 15 2 _ 16 k = nI (upN s.a.2.1 s.a.n w k)
        rw [st2_off (by decide), st2_off (by decide), st2_get]
        unfold upN
        split
        · rfl
        · exact (hA.2 k (by omega)).1
      · have hk : k < s.a.n + 1 := hk
        show st2 _ 15 2 _ 17 k = nI (upN s.a.2.2 s.a.n r k).toNat
        rw [st2_off (by decide), st2_get, st2_off (by decide)]
        unfold upN
        split
        · rfl
        · exact (hA.2 k (by omega)).2
      · rw [st2_off (by decide), st2_get, st2_off (by decide)]
        split
        · exact hnr
        · exact p2 k hk
  · subst e
    rw [e15, nI_ltI (by omega) (by decide)] at y
    rw [ix_nI hw (by omega)] at hk
    dsimp only at hk
    rw [if_pos (by omega), if_pos (by omega)] at hk
    exact hk S hR
  · rw [ix_no h] at hk
    exact hk S hR
theorem px_clear (hs : SgOk s) (hR : XRep S s) (hk : ∀ S2, XRep S2 (st_clear s) → K (nI s.a.n) S2) : MWi l g shX m_X11_clear [.ref (g.ad 0)] S K := by
  obtain ⟨⟨p1, p2⟩, p3, p4, p5, p6, p7, p8, p9⟩ := id hR
  have e15 : S 15 2 = nI s.a.n := p1.2.2.1
  refine MWi.intro _ rfl (Nat.le_of_ble_eq_true rfl) rfl (fun x ok => s_X11_clear_0 ok S ?_)
  rw [e15]
  have e : ∀ a, a ≠ 15 → st2 S 15 2 (nI 0) a = S a := fun a h => st2_off h
  refine hk _ ⟨⟨⟨p1.1.of (fun a h1 h2 => e a (by omega)), p1.2.1.of (fun a h1 h2 => e a (by omega)), ?_, fun k hk => ?_⟩, p2.of (e _ (by omega))⟩, p3.of (fun a h1 h2 => e a (by omega)), p4.of (s := s) (e _ (by omega)) (e _ (by omega)), p5.of (e _ (by omega)) (e _ (by omega)), p6.of (s := s) (e _ (by omega)) (e _ (by omega)), p7.of (e _ (by omega)) (e _ (by omega)), p8.of (fun a h1 h2 => e a (by omega)) (e _ (by omega)), p9.of (fun a h1 h2 => e a (by omega)) (e _ (by omega))⟩
  · show st2 S 15 2 (nI 0) 15 2 = nI 0
    rw [st2_get, if_pos rfl]
  · have hk : k < 0 := hk
    omega
theorem px_image (hs : SgOk s) (hR : XRep S s) (hk : ∀ S2, XRep S2 (st_image s v) → K (sp_image v) S2) : MWi l g shX m_X11_image [.ref (g.ad 0), .int v] S K := by
  obtain ⟨⟨p1, p2⟩, p3, p4, p5, p6, p7, p8, p9⟩ := id hR
  unfold sp_image st_image at hk
  refine MWi.intro _ rfl (Nat.le_of_ble_eq_true rfl) rfl (fun x ok => s_X11_image_0 ok _ S ⟨fun y => ?_, fun y => ⟨fun z => ?_, fun z => ?_⟩⟩)
  · rw [ix_neg y (by decide)] at hk
    exact hk S hR
  · obtain ⟨n, hn, rfl⟩ := nI_of y
    rw [nI_ltI hn (by decide)] at z
    rw [ix_nI z hn] at hk
    dsimp only at hk
    have hz : n = 0 ∨ n = 1 := by omega
    rcases hz with rfl | rfl
    · refine ⟨Or.inl rfl, fun _ => c_copy_47_4 hs.1 p1 p2 (fun S2 q1 q2 q3 => ⟨inI (by decide) (by decide), ?_⟩), fun q => absurd q (by decide)⟩
      rw [cl, nI_clamp (by decide)]
      have e : ∀ a, a < 47 ∨ 60 < a → a ≠ 45 → st2 S2 45 0 (nI 1) a = S a := fun a h1 h2 => by rw [st2_off h2]; exact q1 a h1
      refine hk _ ⟨⟨p1.of (fun a h1 h2 => e a (by omega) (by omega)), p2.of (e _ (by omega) (by omega))⟩, p3.of (fun a h1 h2 => e a (by omega) (by omega)), p4.of (s := s) (e _ (by omega) (by omega)) (e _ (by omega) (by omega)), p5.of (e _ (by omega) (by omega)) (e _ (by omega) (by omega)), p6.of (s := s) (e _ (by omega) (by omega)) (e _ (by omega) (by omega)), p7.of (e _ (by omega) (by omega)) (e _ (by omega) (by omega)), ⟨Or.inr ⟨s.1, rfl, by rw [st2_get, if_pos rfl], q2.of (fun a h1 h2 => st2_off (by omega))⟩, q3.of (st2_off (by decide))⟩, p9.of1 (fun a h1 h2 => e a (by omega) (by omega)) ?_⟩
      rw [st2_get, if_neg (by decide), q1 45 (by omega)]
    · refine ⟨Or.inr rfl, fun q => absurd q (by decide), fun _ => c_copy_62_4 hs.1 p1 p2 (fun S2 q1 q2 q3 => ⟨inI (by decide) (by decide), ?_⟩)⟩
      rw [cl, nI_clamp (by decide)]
      have e : ∀ a, a < 62 ∨ 75 < a → a ≠ 45 → st2 S2 45 1 (nI 1) a = S a := fun a h1 h2 => by rw [st2_off h2]; exact q1 a h1
      refine hk _ ⟨⟨p1.of (fun a h1 h2 => e a (by omega) (by omega)), p2.of (e _ (by omega) (by omega))⟩, p3.of (fun a h1 h2 => e a (by omega) (by omega)), p4.of (s := s) (e _ (by omega) (by omega)) (e _ (by omega) (by omega)), p5.of (e _ (by omega) (by omega)) (e _ (by omega) (by omega)), p6.of (s := s) (e _ (by omega) (by omega)) (e _ (by omega) (by omega)), p7.of (e _ (by omega) (by omega)) (e _ (by omega) (by omega)), p8.of1 (fun a h1 h2 => e a (by omega) (by omega)) ?_, ⟨Or.inr ⟨s.1, rfl, by rw [st2_get, if_pos rfl], q2.of (fun a h1 h2 => st2_off (by omega))⟩, q3.of (st2_off (by decide))⟩⟩
      rw [st2_get, if_neg (by decide), q1 45 (by omega)]
  · rw [ix_no (fun j hj e => by subst e; exact z (nI_lt hj (by decide)))] at hk
    exact hk S hR
theorem px_restore (hs : SgOk s) (hR : XRep S s) (hk : ∀ S2, XRep S2 (st_restore s v) → K (sp_restore s v) S2) : MWi l g shX m_X11_restore [.ref (g.ad 0), .int v] S K := by
  obtain ⟨⟨p1, p2⟩, p3, p4, p5, p6, p7, p8, p9⟩ := id hR
  unfold sp_restore st_restore at hk
  have fin : ∀ (c : Co) (S1 : Mem), CoOk c → (∀ a, a < 4 ∨ 17 < a → S1 a = S a) → XC S1 4 c → XN S1 17 → (∀ S2, XRep S2 (c, s.2) → K (nI 1) S2) → MWv l g shX m_X11_bookChanged [.ref (g.ad 0)] S1 (fun S2 => K (nI 1) S2) := by
    intro c S1 hc q1 q2 q3 hk
    refine c_X11_bookChanged hc.1 q2.1 (by rw [q1 31 (by omega)]; exact p6.at) (fun S2 r1 r2 r3 r4 r5 => ?_)
    have e : ∀ a, a < 4 ∨ 24 < a → a ≠ 27 → a ≠ 31 → a ≠ 42 → S2 a = S a := fun a h1 h2 h3 h4 => by rw [r1 a (by omega) h2 h3 h4]; exact q1 a (by omega)
    exact hk S2 ⟨⟨q2.of (fun a h1 h2 => r1 a (by omega) (by omega) (by omega) (by omega)), q3.of (r1 17 (by omega) (by omega) (by omega) (by omega))⟩, r2, p4.of (s := s) (e _ (by omega) (by omega) (by omega) (by omega)) (e _ (by omega) (by omega) (by omega) (by omega)), Or.inl r3, Or.inl r4, fun d hd => Or.inl (r5 d hd), p8.of (fun a h1 h2 => e a (by omega) (by omega) (by omega) (by omega)) (e _ (by omega) (by omega) (by omega) (by omega)), p9.of (fun a h1 h2 => e a (by omega) (by omega) (by omega) (by omega)) (e _ (by omega) (by omega) (by omega) (by omega))⟩
  refine MWi.intro _ rfl (Nat.le_of_ble_eq_true rfl) rfl (fun x ok => s_X11_restore_0 ok _ S ⟨fun y => ?_, fun y => ⟨fun z => ?_, fun z => ?_⟩⟩)
  · rw [ix_neg y (by decide)] at hk
    exact hk S hR
  · obtain ⟨n, hn, rfl⟩ := nI_of y
    rw [nI_ltI hn (by decide)] at z
    rw [ix_nI z hn] at hk
    dsimp only at hk
    rw [cl, nI_clamp hn]
    refine ⟨inI z (by decide), ?_⟩
    have hz : n = 0 ∨ n = 1 := by omega
    rcases hz with rfl | rfl
    · rcases p8.1 with ⟨m, q⟩ | ⟨c, m, q, r⟩
      · rw [m] at hk
        refine ⟨fun u => absurd q u, fun _ => hk S hR⟩
      · rw [m] at hk
        dsimp only at hk
        have hc : CoOk c := hs.2.2.2 0 (by decide) c m
        refine ⟨fun _ => ⟨Or.inl rfl, fun _ => c_copy_4_47 hc r p8.2 (fun S1 q1 q2 q3 => fin c S1 hc q1 q2 q3 hk), fun q => absurd q (by decide)⟩, fun u => absurd u (by rw [q]; decide)⟩
    · rcases p9.1 with ⟨m, q⟩ | ⟨c, m, q, r⟩
      · rw [m] at hk
        refine ⟨fun u => absurd q u, fun _ => hk S hR⟩
      · rw [m] at hk
        dsimp only at hk
        have hc : CoOk c := hs.2.2.2 1 (by decide) c m
        refine ⟨fun _ => ⟨Or.inr rfl, fun q => absurd q (by decide), fun _ => c_copy_4_62 hc r p9.2 (fun S1 q1 q2 q3 => fin c S1 hc q1 q2 q3 hk)⟩, fun u => absurd u (by rw [q]; decide)⟩
  · rw [ix_no (fun j hj e => by subst e; exact z (nI_lt hj (by decide)))] at hk
    exact hk S hR
end CLAT
