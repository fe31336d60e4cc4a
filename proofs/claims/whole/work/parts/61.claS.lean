/-! PART 61: the class's calls: the rest of what is only asked -/
theorem its_sub {b : Bk} {line : Nat} : ∀ (f W : Nat), sub W (its b line f W)
  | 0, W => by rw [its]; unfold sub; exact Nat.and_self W
  | f + 1, W => by
    rw [its]
    split
    · unfold sub; exact Nat.and_self W
    · cases hm : am (fun w => !W.testBit w) b.of b.n with
      | none => unfold sub; exact Nat.and_self W
      | some w =>
        have := its_sub (b := b) (line := line) f (W ||| 2 ^ w)
        refine sub_iff.mpr (fun i hi => sub_iff.mp this i ?_)
        rw [Nat.testBit_or, hi]; rfl
section CLAS
variable {l : Launch} {g : Geo} {S : Mem} {s : Sg} {K : Int32 → Mem → Prop} {v v1 v2 v3 : Int32}
theorem ix_neg {v : Int32} {n : Nat} (h : v < 0) (hn : n < 2 ^ 31) : ix v n = none := ix_no (fun j hj e => by subst e; exact nI_pos (by omega) h)
theorem px_respelt (hs : SgOk s) (hR : XRep S s) (hk : ∀ S2, XRep S2 s → K (sp_respelt s v1 v2) S2) : MWi l g shX m_X11_respelt [.ref (g.ad 0), .int v1, .int v2] S K := by
  obtain ⟨hb, hh, ha⟩ : BOk s.b ∧ ChOk s.b s.h ∧ AnOk s.b s.a := hs.1
  have hn := hb.1
  have hX : XB S 4 s.b := hR.1.1.1
  have hU : XU S s.b := hR.2.1
  have hk := hk S hR
  unfold sp_respelt at hk
  refine MWi.intro _ rfl (Nat.le_of_ble_eq_true rfl) rfl (fun x ok => s_X11_respelt_0 ok _ _ S (c_X1_holds hb hX (fun w hw e => z1 ⟨fun y => ?_, fun y => ⟨fun z => ?_, fun z => ?_⟩⟩) (fun h => z0 ?_)))
  · subst e
    rw [ix_nI hw (by omega), ix_neg y (by decide)] at hk; exact hk
  · subst e
    obtain ⟨i, hi, rfl⟩ := nI_of y
    rw [nI_ltI hi (by decide)] at z
    rw [ix_nI hw (by omega), ix_nI z hi] at hk
    dsimp only at hk
    have hl := (hb.2 w hw).2.1
    have e5 : S 5 w = nI (s.b.len w) := (hX.2 w hw).1
    rw [cl, nI_clamp (by omega), e5, nI_leI (by omega) hi]
    refine ⟨inI (by omega) (by decide), fun u => ?_, fun u => ?_⟩
    · rw [if_neg (by omega)] at hk; exact hk
    · rw [if_pos (by omega)] at hk
      exact c_X8_newSign hb hX hU hw (by omega) hk
  · subst e
    rw [ix_nI hw (by omega), ix_no (fun j hj e => by subst e; exact z (nI_lt hj (by decide)))] at hk; exact hk
  · rw [ix_no h] at hk; exact hk
theorem px_price (hs : SgOk s) (hR : XRep S s) (hk : ∀ S2, XRep S2 s → K (sp_price s v) S2) : MWi l g shX m_X11_price [.ref (g.ad 0), .int v] S K := by
  obtain ⟨hb, hh, ha⟩ : BOk s.b ∧ ChOk s.b s.h ∧ AnOk s.b s.a := hs.1
  have hX : XB S 4 s.b := hR.1.1.1
  have hU : XU S s.b := hR.2.1
  have hk := hk S hR
  unfold sp_price at hk
  refine MWi.intro _ rfl (Nat.le_of_ble_eq_true rfl) rfl (fun x ok => s_X11_price_0 ok _ S ⟨fun e => ?_, fun e => ?_, fun e => ?_⟩)
  · subst e
    rw [ix_nI (by decide) (by decide)] at hk
    exact c_X8_changedPlaces hb hX hU hk
  · subst e
    rw [ix_nI (by decide) (by decide)] at hk
    exact c_X8_firstClash hb hX hU hk
  · rw [ix_no (fun j hj e2 => by subst e2; rw [nI_toInt (by omega)] at e; omega)] at hk
    exact hk
theorem px_lessons (hs : SgOk s) (hR : XRep S s) (hk : ∀ S2, XRep S2 s → K (sp_lessons s v1 v2) S2) : MWi l g shX m_X11_lessons [.ref (g.ad 0), .int v1, .int v2] S K := by
  obtain ⟨hb, hh, ha⟩ : BOk s.b ∧ ChOk s.b s.h ∧ AnOk s.b s.a := hs.1
  have hX : XB S 4 s.b := hR.1.1.1
  have hH : XH S 10 s.h := hR.1.1.2.1
  have hU : XU S s.b := hR.2.1
  have hL : XL S s.b s.h := hR.2.2.2.2.2.1
  unfold sp_lessons at hk
  refine MWi.intro _ rfl (Nat.le_of_ble_eq_true rfl) rfl (fun x ok => s_X11_lessons_0 ok _ _ S (c_X11_isChild (fun c hc e => z1 ⟨fun y => ?_, fun y => ⟨fun z => ?_, fun z => ?_⟩⟩) (fun h => z0 ?_)))
  · subst e
    rw [ix_nI hc (by omega), ix_neg y (by decide)] at hk; exact hk S hR
  · subst e
    obtain ⟨n, hn, rfl⟩ := nI_of y
    rw [nI_leI hn (by decide)] at z
    rw [ix_nI hc (by omega), ix_nI (by omega : n < 13) hn] at hk
    refine c_X4_findBest hb hh hX hU hH hL hc (fun S2 r1 r2 r3 r4 => ?_)
    have hR2 : XRep S2 s := hR.of (fun a ha => r1 a (by omega) (by omega) (by omega) (by omega)) (hR.2.2.2.1.of (r1 27 (by omega) (by omega) (by omega) (by omega)) (r1 30 (by omega) (by omega) (by omega) (by omega))) (hR.2.2.2.2.1.of (r1 31 (by omega) (by omega) (by omega) (by omega)) (r1 34 (by omega) (by omega) (by omega) (by omega))) r2
    have h41 : S2 41 (13 * c + n) = nI (lesC s.b s.h c n) := by
      rcases r2 c hc with q | ⟨_, q⟩
      · rw [r3] at q; exact absurd q (by decide)
      · exact q n z
    exact c_X4_bestShare hc z h41 (hk S2 hR2)
  · subst e
    rw [ix_nI hc (by omega), ix_no (fun j hj e => by subst e; exact z (nI_le (by omega) (by decide)))] at hk; exact hk S hR
  · rw [ix_no h] at hk; exact hk S hR
theorem px_shared (hs : SgOk s) (hR : XRep S s) (hk : ∀ S2, XRep S2 s → K (sp_shared s v1 v2) S2) : MWi l g shX m_X11_shared [.ref (g.ad 0), .int v1, .int v2] S K := by
  obtain ⟨hb, hh, ha⟩ : BOk s.b ∧ ChOk s.b s.h ∧ AnOk s.b s.a := hs.1
  have hX : XB S 4 s.b := hR.1.1.1
  have hH : XH S 10 s.h := hR.1.1.2.1
  have hU : XU S s.b := hR.2.1
  have hL : XL S s.b s.h := hR.2.2.2.2.2.1
  unfold sp_shared at hk
  have rep : ∀ S2 : Mem, (∀ a, a ≠ 26 → a ≠ 39 → a ≠ 40 → a ≠ 41 → a ≠ 42 → a ≠ 43 → S2 a = S a) → XL S2 s.b s.h → XRep S2 s := fun S2 r1 r2 => hR.of (fun a ha => r1 a (by omega) (by omega) (by omega) (by omega) (by omega) (by omega)) (hR.2.2.2.1.of (r1 27 (by omega) (by omega) (by omega) (by omega) (by omega) (by omega)) (r1 30 (by omega) (by omega) (by omega) (by omega) (by omega) (by omega))) (hR.2.2.2.2.1.of (r1 31 (by omega) (by omega) (by omega) (by omega) (by omega) (by omega)) (r1 34 (by omega) (by omega) (by omega) (by omega) (by omega) (by omega))) r2
  refine MWi.intro _ rfl (Nat.le_of_ble_eq_true rfl) rfl (fun x ok => s_X11_shared_0 ok _ _ S ⟨fun y => ?_, fun y => c_X11_isChild (fun c hc e => z1 ?_) (fun h => z0 ?_)⟩)
  · rw [if_pos y] at hk
    refine ⟨fun u => ?_, fun u => ⟨fun w => ?_, fun w => ?_⟩⟩
    · rw [ix_neg u (by decide)] at hk; exact hk S hR
    · obtain ⟨n, hn, rfl⟩ := nI_of u
      rw [nI_leI hn (by decide)] at w
      rw [ix_nI (by omega : n < 13) hn] at hk
      dsimp only at hk
      obtain ⟨t, ht⟩ := spO_some (f := lesC s.b s.h) (n := n)
      rw [ht] at hk
      refine c_X4_split hb hh hX hU hH hL w ht (fun S2 r1 r2 r3 => ⟨fun q => absurd y q, fun _ => ?_⟩)
      rw [r3.1]
      exact hk S2 (rep S2 r1 r2)
    · rw [ix_no (fun j hj e => by subst e; exact w (nI_le (by omega) (by decide)))] at hk; exact hk S hR
  · rw [if_neg y] at hk
    subst e
    rw [ix_nI hc (by omega)] at hk
    dsimp only at hk
    refine ⟨fun u => ?_, fun u => ⟨fun w => ?_, fun w => ?_⟩⟩
    · rw [ix_neg u (by decide)] at hk; exact hk S hR
    · obtain ⟨n, hn, rfl⟩ := nI_of u
      rw [nI_leI hn (by decide)] at w
      rw [ix_nI (by omega : n < 13) hn] at hk
      dsimp only at hk
      obtain ⟨t, ht⟩ := spO_some (f := lesC s.b s.h) (n := n)
      rw [ht] at hk
      refine c_X4_split hb hh hX hU hH hL w ht (fun S2 r1 r2 r3 => ⟨fun _ => ⟨inI hc (by decide), ?_⟩, fun q => absurd q y⟩)
      have hk := hk S2 (rep S2 r1 r2)
      obtain ⟨k0, k1, k2, k3, k4⟩ := r3
      unfold spD at hk
      dsimp only at hk
      rw [cl, nI_clamp (by omega)]
      have h4 : c = 0 ∨ c = 1 ∨ c = 2 ∨ c = 3 := by omega
      rcases h4 with h4 | h4 | h4 | h4 <;> subst h4
      · rw [k1]; exact hk
      · rw [k2]; exact hk
      · rw [k3]; exact hk
      · rw [k4]; exact hk
    · rw [ix_no (fun j hj e => by subst e; exact w (nI_le (by omega) (by decide)))] at hk; exact hk S hR
  · rw [if_neg y, ix_no h] at hk; exact hk S hR
theorem px_itself (hs : SgOk s) (hR : XRep S s) (hk : ∀ S2, XRep S2 s → K (sp_itself s v1 v2 v3) S2) : MWi l g shX m_X11_itself [.ref (g.ad 0), .int v1, .int v2, .int v3] S K := by
  obtain ⟨hb, hh, ha⟩ : BOk s.b ∧ ChOk s.b s.h ∧ AnOk s.b s.a := hs.1
  have hX : XB S 4 s.b := hR.1.1.1
  have hH : XH S 10 s.h := hR.1.1.2.1
  have hU : XU S s.b := hR.2.1
  have hpw := pw12 hb
  unfold sp_itself at hk
  refine MWi.intro _ rfl (Nat.le_of_ble_eq_true rfl) rfl (fun x ok => s_X11_itself_0 ok _ _ _ S (c_X11_isChild (fun c hc e => z1 ⟨fun y => ?_, fun y => ⟨fun z => ?_, fun z => ⟨fun u => ?_, fun u => ⟨fun w => ?_, fun w => ?_⟩⟩⟩⟩) (fun h => z0 ?_)))
  · subst e
    rw [ix_nI hc (by omega), ix_neg y (by decide)] at hk; exact hk S hR
  · subst e
    rw [ix_nI hc (by omega), ix_no (fun j hj e => by subst e; exact nI_nlt (by omega) (by omega) z)] at hk; exact hk S hR
  · subst e
    obtain ⟨li, hli, rfl⟩ := nI_of y
    rw [nI_ltI (by decide) hli] at z
    rw [ix_nI hc (by omega), ix_nI (by omega : li < 1001) hli, ix_neg u (by decide)] at hk; exact hk S hR
  · subst e
    obtain ⟨li, hli, rfl⟩ := nI_of y
    rw [nI_ltI (by decide) hli] at z
    obtain ⟨q, hq, rfl⟩ := nI_of u
    rw [nI_leI hq (by decide)] at w
    rw [ix_nI hc (by omega), ix_nI (by omega : li < 1001) hli, ix_nI (by omega : q < 2) hq] at hk
    dsimp only at hk
    obtain ⟨q1, q2, q3⟩ := hh c hc
    refine c_X6_readable hb hX hU hH hc q3 q1 (ws12 hs hc) (fun S2 R => ?_)
    have hX2 : XB S2 4 s.b := R.XB (o := 4) (by decide) hX
    have hr : rdC s c < 2 ^ s.b.n := rdB_lt hb (s.h.m c) (s.h.k c) (s.h.ws c)
    refine c_X6_atLast hb hX2 (R.XU hU) hr (by omega) ?_
    have hk := hk S2 (hR.xs R)
    obtain ⟨W, hW⟩ : ∃ W, its s.b li 12 (rdC s c) = W := ⟨_, rfl⟩
    have hsb := its_sub (b := s.b) (line := li) 12 (rdC s c)
    have hWl := its_lt hb (line := li) 12 (rdC s c) hr
    rw [hW] at hsb hWl hk
    show (¬ nI q = 0 → MWi l g shX m_X1_timesOf [.ref (g.ad 4), .int (nI (its s.b li 12 (rdC s c)))] S2 K) ∧ (nI q = 0 → MWi l g shX m_J6_bitCount_0f7a4 [.int (nI (its s.b li 12 (rdC s c)) ^^^ nI (rdC s c))] S2 K)
    rw [hW, nI_eq0 (by omega), fa_xor]
    refine ⟨fun k => ?_, fun k => ?_⟩
    · rw [if_neg k] at hk
      exact c_X1_timesOf hb hX2 (by omega) hk
    · rw [if_pos k] at hk
      obtain ⟨t1, t2⟩ := sub_split hsb
      have t3 := pc_disj t1
      rw [t2] at t3
      refine c_bitCount (Nat.xor_lt_two_pow (n := 12) (by show W < 4096; omega) (by show rdC s c < 4096; omega)) ?_
      rw [show pc (W ^^^ rdC s c) = pc W - pc (rdC s c) by omega]
      exact hk
  · subst e
    obtain ⟨li, hli, rfl⟩ := nI_of y
    rw [nI_ltI (by decide) hli] at z
    rw [ix_nI hc (by omega), ix_nI (by omega : li < 1001) hli, ix_no (fun j hj e => by subst e; exact w (nI_le (by omega) (by decide)))] at hk; exact hk S hR
  · rw [ix_no h] at hk; exact hk S hR
theorem px_line (hs : SgOk s) (hR : XRep S s) (hk : ∀ S2, XRep S2 s → K (sp_line s v) S2) : MWi l g shX m_X11_line [.ref (g.ad 0), .int v] S K := by
  obtain ⟨hb, hh, ha⟩ : BOk s.b ∧ ChOk s.b s.h ∧ AnOk s.b s.a := hs.1
  have hX : XB S 4 s.b := hR.1.1.1
  have hH : XH S 10 s.h := hR.1.1.2.1
  have hU : XU S s.b := hR.2.1
  unfold sp_line at hk
  refine MWi.intro _ rfl (Nat.le_of_ble_eq_true rfl) rfl (fun x ok => s_X11_line_0 ok _ S (c_X11_isChild (fun c hc e => y1 ?_) (fun h => y0 ?_)))
  · subst e
    obtain ⟨q1, q2, q3⟩ := hh c hc
    rw [ix_nI hc (by omega)] at hk
    refine c_X6_readable hb hX hU hH hc q3 q1 (ws12 hs hc) (fun S2 R => ?_)
    exact c_X6_highestLine hb (R.XB (o := 4) (by decide) hX) (rdB_lt hb _ _ _) (hk S2 (hR.xs R))
  · rw [ix_no h] at hk; exact hk S hR
theorem px_told (hs : SgOk s) (hR : XRep S s) (hk : ∀ S2, XRep S2 s → K (sp_told s v) S2) : MWi l g shX m_X11_told [.ref (g.ad 0), .int v] S K := by
  obtain ⟨hb, hh, ha⟩ : BOk s.b ∧ ChOk s.b s.h ∧ AnOk s.b s.a := hs.1
  have hn := hb.1
  have hX : XB S 4 s.b := hR.1.1.1
  have hH : XH S 10 s.h := hR.1.1.2.1
  have hA : XA S 15 s.a := hR.1.1.2.2
  have hpw := pw12 hb
  have hpos : 0 < 2 ^ s.b.n := Nat.two_pow_pos _
  have hk := hk S hR
  unfold sp_told at hk
  have back : ∀ (v : Int32) (k j : Nat), v - nI k = nI j → v = nI (j + k) := fun v k j e => by
    rw [← nI_add, ← e, Int32.sub_add_cancel]
  have none : ∀ (v : Int32) (k : Nat), k < 100 → (∀ j, j < 4 → ¬ v - nI k = nI j) → ∀ j, k ≤ j → j ≤ k + 3 → ¬ v = nI j := fun v k hk h j h1 h2 e => by
    subst e
    exact h (j - k) (by omega) (pk_sub (by omega))
  refine MWi.intro _ rfl (Nat.le_of_ble_eq_true rfl) rfl (fun x ok => s_X11_told_0 ok _ S (c_X11_isChild (fun c hc e => y1 ?_) (fun h => y0 (c_X11_isChild (fun c hc e => y1 ?_) (fun h2 => y0 (c_X11_isChild (fun c hc e => y1 ?_) (fun h3 => y0 ?_)))))))
  · have e2 := back _ _ _ e
    rw [e2, rg_nI (by omega) (by omega) (by omega)] at hk
    dsimp only at hk
    rw [show c + 10 - 10 = c by omega] at hk
    rw [e, cl, nI_clamp (by omega)]
    have e11 : S 11 c = nI (s.h.k c) := (hH c hc).1
    rw [e11]
    exact ⟨inI hc (by decide), hk⟩
  · rw [rg_no (none _ 10 (by decide) h)] at hk
    have e2 := back _ _ _ e
    rw [e2, rg_nI (by omega) (by omega) (by omega)] at hk
    dsimp only at hk
    rw [show c + 20 - 20 = c by omega] at hk
    rw [e, cl, nI_clamp (by omega)]
    have e12 : S 12 c = nI (s.h.ws c) := (hH c hc).2.1
    rw [e12]
    exact ⟨inI hc (by decide), hk⟩
  · rw [rg_no (none _ 10 (by decide) h), rg_no (none _ 20 (by decide) h2)] at hk
    have e2 := back _ _ _ e
    rw [e2, rg_nI (by omega) (by omega) (by omega)] at hk
    dsimp only at hk
    rw [show c + 30 - 30 = c by omega] at hk
    rw [e]
    exact c_X2_mixedUp hc hH (hh c hc).2.2 hk
  · rw [rg_no (none _ 10 (by decide) h), rg_no (none _ 20 (by decide) h2), rg_no (none _ 30 (by decide) h3)] at hk
    dsimp only at hk
    refine ⟨fun e => ?_, fun e => ?_, fun e => ?_, fun e => ?_, fun e => ?_⟩
    · subst e; rw [ix_nI (by decide) (by decide)] at hk
      rw [hR.2.2.1.1]; exact hk
    · subst e; rw [ix_nI (by decide) (by decide)] at hk
      have e45 : S 4 5 = nI s.b.n := hX.1
      rw [e45]; exact hk
    · subst e; rw [ix_nI (by decide) (by decide)] at hk
      have e15 : S 15 2 = nI s.a.n := hA.1
      rw [e15]; exact hk
    · subst e; rw [ix_nI (by decide) (by decide)] at hk
      refine c_X1_allWords hb hX (c_X1_timesOf hb hX (by omega) ?_)
      rw [tmS_full]; exact hk
    · rw [ix_no (fun j hj e2 => by subst e2; rw [nI_toInt (by omega)] at e; omega)] at hk
      exact hk
end CLAS
