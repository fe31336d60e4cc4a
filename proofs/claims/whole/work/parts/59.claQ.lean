/-! PART 59: the class's calls: word, about, often -/
theorem flt_le {pn i : Nat} {pd : Nat → Nat} (h : flt pn pd = some i) : i ≤ pn := by
  unfold flt at h
  cases hf : fm (fun i => (sc pd (i + 1)).isNone) pn with
  | some j =>
    rw [hf] at h
    dsimp only at h
    cases h
    have := (fm_some.mp hf).1
    omega
  | none =>
    rw [hf] at h
    dsimp only at h
    cases hs : sc pd pn with
    | none => rw [hs] at h; dsimp only at h; cases h; omega
    | some q =>
      obtain ⟨a, d, bh⟩ := q
      rw [hs] at h
      dsimp only at h
      split at h
      · cases h
      · cases h; omega
theorem newB_ok {b : Bk} {li f : Nat} {pd : Nat → Nat} (hb : BOk b) (hn : b.n < 12) (h1 : 1 ≤ li) (h5 : li ≤ 5) (f1 : 1 ≤ f) (f2 : f ≤ 999) (h3 : ∀ j, j < li → 97 ≤ pd j ∧ pd j ≤ 106) (h4 : ∀ j, j < li → 48 ≤ pd (li + 1 + j) ∧ pd (li + 1 + j) ≤ 57) : BOk (newB b li pd f) := by
  refine ⟨by show b.n + 1 ≤ 12; omega, fun w hw => ?_⟩
  have hw : w < b.n + 1 := hw
  have eL : (newB b li pd f).len w = if w = b.n then li else b.len w := rfl
  have eO : (newB b li pd f).of w = if w = b.n then f else b.of w := rfl
  have eS : ∀ i, (newB b li pd f).sg w i = if 5 * b.n ≤ 5 * w + i ∧ 5 * w + i < 5 * b.n + li then pd (5 * w + i - 5 * b.n) - 97 else b.sg w i := fun i => rfl
  have eD : ∀ i, (newB b li pd f).sd w i = if 5 * b.n ≤ 5 * w + i ∧ 5 * w + i < 5 * b.n + li then pd (li + 1 + (5 * w + i - 5 * b.n)) - 48 else b.sd w i := fun i => rfl
  by_cases e : w = b.n
  · subst e
    rw [if_pos rfl] at eL eO
    rw [eL, eO]
    refine ⟨h1, h5, f1, f2, fun i hi => ?_⟩
    rw [eS, eD, if_pos (by omega), if_pos (by omega), show 5 * b.n + i - 5 * b.n = i by omega]
    have := h3 i hi
    have := h4 i hi
    omega
  · rw [if_neg e] at eL eO
    obtain ⟨q1, q2, q3, q4, q5⟩ := hb.2 w (by omega)
    rw [eL, eO]
    refine ⟨q1, q2, q3, q4, fun i hi => ?_⟩
    rw [eS, eD, if_neg (by omega), if_neg (by omega)]
    exact q5 i hi
theorem XTl.at {S : Mem} {s : Sg} (h : XTl S s) : S 31 5 = -6 ∨ ∃ c, c < 4 ∧ S 31 5 = nI c := by
  rcases h with h | ⟨c, h1, h2, _⟩
  · exact Or.inl h
  · exact Or.inr ⟨c, h1, h2⟩
section CLAQ
variable {l : Launch} {g : Geo} {S : Mem} {s : Sg} {K : Int32 → Mem → Prop} {v v1 v2 v3 : Int32}
theorem px_word (hs : SgOk s) (hR : XRep S s) (hk : ∀ S2, XRep S2 (st_word s v) → K (sp_word s v) S2) : MWi l g shX m_X11_word [.ref (g.ad 0), .int v] S K := by
  obtain ⟨hb, hh, ha⟩ : BOk s.b ∧ ChOk s.b s.h ∧ AnOk s.b s.a := hs.1
  have hn := hb.1
  obtain ⟨⟨p1, p2⟩, p3, p4, p5, p6, p7, p8, p9⟩ := id hR
  have hX : XB S 4 s.b := p1.1
  have hp : s.pn ≤ 14 := hs.2.1
  unfold sp_word st_word at hk
  refine MWi.intro _ rfl (Nat.le_of_ble_eq_true rfl) rfl (fun x ok => s_X11_word_0 ok _ S ⟨fun y => ?_, fun y => ⟨fun z => ?_, fun z => ?_⟩⟩)
  · rw [rg_no (rg_lo (by decide) (by decide) y)] at hk
    exact hk S hR
  · obtain ⟨f, f1, f2, rfl⟩ := rg_in (by decide) (by decide) y z
    rw [rg_nI f1 f2 (by omega)] at hk
    dsimp only at hk
    refine c_X5_findFault p4.1 hp (fun i hi => ⟨p4.2 i hi, (hs.2.2.1 i hi).2⟩) ?_
    cases hf : flt s.pn s.pd with
    | some i =>
      have := flt_le hf
      rw [hf] at hk
      refine ⟨fun _ => hk S hR, fun q => absurd q (ne_neg6 (by omega))⟩
    | none =>
      rw [hf] at hk
      simp only [if_true] at hk
      obtain ⟨li, _, l1, l5, l2, l3, l4⟩ := flt_none hf
      have hl : s.pn / 2 = li := by omega
      rw [hl] at hk
      refine ⟨fun q => absurd rfl q, fun _ => c_X1_hasLettersOf hb hX p4.1 hp hl (fun i hi => ⟨p4.2 i (by omega), l3 i hi⟩) ?_⟩
      rw [bI0, hX.1, nI_ltI (by omega) (by decide)]
      refine ⟨fun u => ⟨fun w => ?_, fun w => ?_⟩, fun u => ?_⟩
      · rw [u] at hk
        rw [if_neg (by decide), if_neg (by omega), if_neg (by decide), if_neg (by omega)] at hk
        have hb2 := newB_ok (f := f) hb w l1 l5 f1 f2 l3 l4
        refine c_X1_add hb hX w p4.1 l2 l5 p4.2 l3 l4 (fun S3 q1 q2 => ?_)
        have e : ∀ a, a < 4 ∨ 9 < a → a ≠ 1 → st2 S3 1 1 (nI 0) a = S a := fun a h1 h2 => by rw [st2_off h2]; exact q1 a h1
        have hX3 : XB (st2 S3 1 1 (nI 0)) 4 (newB s.b li s.pd f) := q2.of (fun a h1 h2 => st2_off (by omega))
        refine c_X11_bookChanged hb2 hX3 (by rw [e 31 (by omega) (by omega)]; exact p6.at) (fun S4 r1 r2 r3 r4 r5 => ?_)
        have e4 : ∀ a, a < 4 ∨ 9 < a → a < 18 ∨ 24 < a → a ≠ 1 → a ≠ 27 → a ≠ 31 → a ≠ 42 → S4 a = S a := fun a h1 h2 h3 h4 h5 h6 => by rw [r1 a h2 h4 h5 h6]; exact e a h1 h3
        have hX4 : XB S4 4 (newB s.b li s.pd f) := hX3.of (fun a h1 h2 => r1 a (by omega) (by omega) (by omega) (by omega))
        have e45 : S4 4 5 = nI (s.b.n + 1) := hX4.1
        rw [e45, pk_sub (by omega), Nat.add_sub_cancel]
        refine hk S4 ⟨⟨⟨hX4, ?_, ?_⟩, p2.of (e4 17 (by omega) (by omega) (by omega) (by omega) (by omega) (by omega))⟩, r2, ⟨?_, fun i hi => ?_⟩, Or.inl r3, Or.inl r4, fun c hc => Or.inl (r5 c hc), p8.of (fun a h1 h2 => e4 a (by omega) (by omega) (by omega) (by omega) (by omega) (by omega)) (e4 45 (by omega) (by omega) (by omega) (by omega) (by omega) (by omega)), p9.of (fun a h1 h2 => e4 a (by omega) (by omega) (by omega) (by omega) (by omega) (by omega)) (e4 45 (by omega) (by omega) (by omega) (by omega) (by omega) (by omega))⟩
        · exact p1.2.1.of (fun a h1 h2 => e4 a (by omega) (by omega) (by omega) (by omega) (by omega) (by omega))
        · exact p1.2.2.of (fun a h1 h2 => e4 a (by omega) (by omega) (by omega) (by omega) (by omega) (by omega))
        · rw [r1 1 (by omega) (by omega) (by omega) (by omega), st2_get, if_pos rfl]
        · have hi : i < 0 := hi
          omega
      · rw [u] at hk
        rw [if_neg (by decide), if_pos (by omega), if_neg (by decide), if_pos (by omega)] at hk
        exact hk S hR
      · rw [Bool.not_eq_false] at u
        rw [u] at hk
        rw [if_pos rfl, if_pos rfl] at hk
        exact hk S hR
  · rw [rg_no (rg_hi (by decide) z)] at hk
    exact hk S hR
theorem px_often (hs : SgOk s) (hR : XRep S s) (hk : ∀ S2, XRep S2 (st_often s v1 v2) → K (sp_often s v1 v2) S2) : MWi l g shX m_X11_often [.ref (g.ad 0), .int v1, .int v2] S K := by
  obtain ⟨hb, hh, ha⟩ : BOk s.b ∧ ChOk s.b s.h ∧ AnOk s.b s.a := hs.1
  have hn := hb.1
  obtain ⟨⟨p1, p2⟩, p3, p4, p5, p6, p7, p8, p9⟩ := id hR
  have hX : XB S 4 s.b := p1.1
  unfold sp_often st_often at hk
  refine MWi.intro _ rfl (Nat.le_of_ble_eq_true rfl) rfl (fun x ok => s_X11_often_0 ok _ _ S (c_X1_holds hb hX (fun w hw e => z1 ⟨fun y => ?_, fun y => ⟨fun z => ?_, fun z => ?_⟩⟩) (fun h => z0 ?_)))
  · subst e
    rw [ix_nI hw (by omega), rg_no (rg_lo (by decide) (by decide) y)] at hk
    exact hk S hR
  · subst e
    obtain ⟨f, f1, f2, rfl⟩ := rg_in (by decide) (by decide) y z
    rw [ix_nI hw (by omega), rg_nI f1 f2 (by omega)] at hk
    dsimp only at hk
    have e6 : S 6 w = nI (s.b.of w) := (hX.2 w hw).2.1
    rw [cl, nI_clamp (by omega), e6]
    refine ⟨inI (by omega) (by decide), inI (by omega) (by decide), ?_⟩
    obtain ⟨b2, hb2⟩ : ∃ b2 : Bk, b2 = (s.b.n, s.b.2.1, upN s.b.2.2.1 w f, s.b.2.2.2.1, s.b.2.2.2.2) := ⟨_, rfl⟩
    rw [← hb2] at hk
    have n2 : b2.n = s.b.n := by rw [hb2]
    have l2 : ∀ u, b2.len u = s.b.len u := fun u => by rw [hb2]
    have o2 : ∀ u, b2.of u = if u = w then f else s.b.of u := fun u => by rw [hb2]; rfl
    have s2 : ∀ u i, b2.sg u i = s.b.sg u i := fun u i => by rw [hb2]
    have d2 : ∀ u i, b2.sd u i = s.b.sd u i := fun u i => by rw [hb2]
    have bo : BOk b2 := by
      refine ⟨by rw [n2]; exact hn, fun u hu => ?_⟩
      rw [n2] at hu
      obtain ⟨q1, q2, q3, q4, q5⟩ := hb.2 u hu
      rw [l2, o2]
      refine ⟨q1, q2, by split <;> omega, by split <;> omega, fun i hi => ?_⟩
      rw [s2, d2]; exact q5 i hi
    have bt : ∀ u, bk_bits b2 u = bk_bits s.b u := fun u => by
      unfold bk_bits
      rw [l2]
      exact orB_cong (fun i _ => by rw [s2])
    have hX2 : XB (st2 S 6 w (nI f)) 4 b2 := by
      refine ⟨by rw [st2_off (by decide), n2]; exact hX.1, fun u hu => ?_⟩
      rw [n2] at hu
      obtain ⟨q1, q2, q3, q4⟩ := hX.2 u hu
      rw [l2, o2, bt, st2_off (show (4 + 1 : Nat) ≠ 6 by decide), st2_off (show (4 + 3 : Nat) ≠ 6 by decide), st2_off (show (4 + 4 : Nat) ≠ 6 by decide), st2_off (show (4 + 5 : Nat) ≠ 6 by decide)]
      refine ⟨q1, ?_, q3, fun i hi => ?_⟩
      · show st2 S 6 w (nI f) 6 u = _
        rw [st2_get]
        split
        · rfl
        · exact q2
      · rw [s2, d2]; exact q4 i hi
    have e : ∀ a, a ≠ 6 → st2 S 6 w (nI f) a = S a := fun a h => st2_off h
    refine c_X11_bookChanged bo hX2 (by rw [e 31 (by decide)]; exact p6.at) (fun S4 r1 r2 r3 r4 r5 => ?_)
    have e4 : ∀ a, a ≠ 6 → a < 18 ∨ 24 < a → a ≠ 27 → a ≠ 31 → a ≠ 42 → S4 a = S a := fun a h1 h2 h4 h5 h6 => by rw [r1 a h2 h4 h5 h6]; exact e a h1
    refine hk S4 ⟨⟨⟨hX2.of (fun a h1 h2 => r1 a (by omega) (by omega) (by omega) (by omega)), ?_, ?_⟩, p2.of (e4 17 (by omega) (by omega) (by omega) (by omega) (by omega))⟩, r2, p4.of (s := s) (e4 1 (by omega) (by omega) (by omega) (by omega) (by omega)) (e4 2 (by omega) (by omega) (by omega) (by omega) (by omega)), Or.inl r3, Or.inl r4, fun c hc => Or.inl (r5 c hc), p8.of (fun a h1 h2 => e4 a (by omega) (by omega) (by omega) (by omega) (by omega)) (e4 45 (by omega) (by omega) (by omega) (by omega) (by omega)), p9.of (fun a h1 h2 => e4 a (by omega) (by omega) (by omega) (by omega) (by omega)) (e4 45 (by omega) (by omega) (by omega) (by omega) (by omega))⟩
    · exact p1.2.1.of (fun a h1 h2 => e4 a (by omega) (by omega) (by omega) (by omega) (by omega))
    · exact p1.2.2.of (fun a h1 h2 => e4 a (by omega) (by omega) (by omega) (by omega) (by omega))
  · subst e
    rw [ix_nI hw (by omega), rg_no (rg_hi (by decide) z)] at hk
    exact hk S hR
  · rw [ix_no h] at hk
    exact hk S hR
theorem px_about (hs : SgOk s) (hR : XRep S s) (hk : ∀ S2, XRep S2 s → K (sp_about s v1 v2) S2) : MWi l g shX m_X11_about [.ref (g.ad 0), .int v1, .int v2] S K := by
  obtain ⟨hb, hh, ha⟩ : BOk s.b ∧ ChOk s.b s.h ∧ AnOk s.b s.a := hs.1
  have hn := hb.1
  have hX : XB S 4 s.b := hR.1.1.1
  have hU : XU S s.b := hR.2.1
  have hk := hk S hR
  unfold sp_about at hk
  refine MWi.intro _ rfl (Nat.le_of_ble_eq_true rfl) rfl (fun x ok => s_X11_about_0 ok _ _ S (c_X1_holds hb hX (fun w hw e => z1 ?_) (fun h => z0 ?_)))
  · subst e
    rw [ix_nI hw (by omega)] at hk
    dsimp only at hk
    obtain ⟨e1, e2, e3, _⟩ := hX.2 w hw
    have e1 : S 5 w = nI (s.b.len w) := e1
    have e2 : S 6 w = nI (s.b.of w) := e2
    have e3 : S 7 w = nI (bk_bits s.b w) := e3
    have L72 : (∀ j, 10 ≤ j → j ≤ 14 → ¬ v2 = nI j) → (∀ j, 20 ≤ j → j ≤ 24 → ¬ v2 = nI j) → PW l x g shX m_X11_about (Qi x g shX K) 72 [(0, .ref (g.ad 0)), (1, .int (nI w)), (2, .int v2)] [] S := by
      intro h h2
      rw [rg_no h, rg_no h2] at hk
      dsimp only at hk
      refine s_X11_about_72 ok _ _ S ?_
      simp (disch := omega) only [cl, nI_clamp, e1, e2, e3]
      refine ⟨fun e => ?_, fun e => ?_, fun e => ?_, fun e => ?_, fun e => ?_⟩
      · subst e; rw [ix_nI (by decide) (by decide)] at hk
        exact ⟨inI (by omega) (by decide), hk⟩
      · subst e; rw [ix_nI (by decide) (by decide)] at hk
        exact ⟨inI (by omega) (by decide), hk⟩
      · subst e; rw [ix_nI (by decide) (by decide)] at hk
        exact ⟨inI (by omega) (by decide), hk⟩
      · subst e; rw [ix_nI (by decide) (by decide)] at hk
        dsimp only at hk
        rw [if_neg (by decide), if_neg (by decide), if_neg (by decide)] at hk
        refine c_X8_isRegular hb hU hw ?_
        rw [bI0]
        refine ⟨fun y => ?_, fun y => ?_⟩
        · rw [y] at hk; exact hk
        · rw [Bool.not_eq_false] at y
          rw [y] at hk; exact hk
      · rw [ix_no (fun j hj e2 => by subst e2; rw [nI_toInt (by omega)] at e; omega)] at hk
        exact hk
    have L44 : (∀ j, 10 ≤ j → j ≤ 14 → ¬ v2 = nI j) → PW l x g shX m_X11_about (Qi x g shX K) 44 [(0, .ref (g.ad 0)), (1, .int (nI w)), (2, .int v2)] [] S := by
      intro h
      refine s_X11_about_44 ok _ _ S ⟨fun y => L72 h (rg_lo (by decide) (by decide) y), fun y => ⟨fun z => L72 h (fun j h1 h2 e => ?_), fun z => ?_⟩⟩
      · subst e
        exact nI_ge (by omega : j < 25) (by decide) z
      · obtain ⟨j, q1, q2, rfl⟩ := rg_in (v := v2) (lo := 20) (hi := 24) (by decide) (by decide) y (by
          have h0 : ¬ v2 < 0 := fun q => y (by
            rw [fa_lt] at q ⊢
            rw [nI_toInt (by decide)]
            have : (0 : Int32).toInt = 0 := by decide
            omega)
          obtain ⟨j, hj, rfl⟩ := nI_of h0
          rw [nI_leI (by decide) hj] at z
          rw [nI_leI hj (by decide)]; omega)
        rw [rg_no h, rg_nI q1 q2 (by omega)] at hk
        rw [pk_sub (by omega)]
        exact c_X1_soundOrNone hb hX hw (by omega) hk
    refine ⟨fun y => L44 (rg_lo (by decide) (by decide) y), fun y => ⟨fun z => L44 (fun j h1 h2 e => ?_), fun z => ?_⟩⟩
    · subst e
      exact nI_ge (by omega : j < 15) (by decide) z
    · obtain ⟨j, q1, q2, rfl⟩ := rg_in (v := v2) (lo := 10) (hi := 14) (by decide) (by decide) y (by
        have h0 : ¬ v2 < 0 := fun q => y (by
          rw [fa_lt] at q ⊢
          rw [nI_toInt (by decide)]
          have : (0 : Int32).toInt = 0 := by decide
          omega)
        obtain ⟨j, hj, rfl⟩ := nI_of h0
        rw [nI_leI (by decide) hj] at z
        rw [nI_leI hj (by decide)]; omega)
      rw [rg_nI q1 q2 (by omega)] at hk
      rw [pk_sub (by omega)]
      exact c_X1_signOrNone hb hX hw (by omega) hk
  · rw [ix_no h] at hk
    exact hk
end CLAQ
