/-! PART 58: the class's calls: words -/
theorem rg_lo {v : Int32} {lo hi : Nat} (hh : hi < 2 ^ 31) (hl : lo < 2 ^ 31) (h : v < nI lo) : ∀ j, lo ≤ j → j ≤ hi → ¬ v = nI j := by
  intro j h1 h2 e
  subst e
  rw [nI_ltI (by omega) hl] at h
  omega
theorem rg_hi {v : Int32} {lo hi : Nat} (hh : hi < 2 ^ 31) (h : ¬ v ≤ nI hi) : ∀ j, lo ≤ j → j ≤ hi → ¬ v = nI j := by
  intro j h1 h2 e
  subst e
  rw [nI_leI (by omega) hh] at h
  omega
theorem rg_in {v : Int32} {lo hi : Nat} (hh : hi < 2 ^ 31) (hl : lo < 2 ^ 31) (h1 : ¬ v < nI lo) (h2 : v ≤ nI hi) : ∃ j, lo ≤ j ∧ j ≤ hi ∧ v = nI j := by
  have h0 : ¬ v < 0 := by
    intro q
    apply h1
    rw [fa_lt] at q ⊢
    rw [nI_toInt hl]
    have : (0 : Int32).toInt = 0 := by decide
    omega
  obtain ⟨j, hj, rfl⟩ := nI_of h0
  rw [nI_ltI hj hl] at h1
  rw [nI_leI hj hh] at h2
  exact ⟨j, by omega, by omega, rfl⟩
def XTl (S : Mem) (s : Sg) : Prop := S 31 5 = -6 ∨ ∃ c, c < 4 ∧ S 31 5 = nI c ∧ S 31 4 = nI (lng s.b (rbC s c)) ∧ ∀ i, i < lng s.b (rbC s c) → S 34 i = oI (tst s.b (rbC s c) (i + 1)).2
def XI (S : Mem) (m : Option Co) (n o : Nat) : Prop := ((m = none ∧ S 45 n = nI 0) ∨ ∃ c, m = some c ∧ S 45 n = nI 1 ∧ XC S o c) ∧ XN S (o + 13)
def XPd (S : Mem) (s : Sg) : Prop := S 1 1 = nI s.pn ∧ ∀ i, i < s.pn → S 2 i = nI (s.pd i)
def XRep (S : Mem) (s : Sg) : Prop := (XC S 4 s.1 ∧ XN S 17) ∧ XU S s.b ∧ XPd S s ∧ XO S s.b ∧ XTl S s ∧ XL S s.b s.h ∧ XI S (s.im 0) 0 47 ∧ XI S (s.im 1) 1 62
theorem XC.of {S S2 : Mem} {o : Nat} {c : Co} (h : XC S o c) (e : ∀ a, o ≤ a → a ≤ o + 13 → S2 a = S a) : XC S2 o c := by
  obtain ⟨h1, h2, h3⟩ := h
  exact ⟨h1.of (fun a q1 q2 => e a (by omega) (by omega)), h2.of (fun a q1 q2 => e a (by omega) (by omega)), h3.of (fun a q1 q2 => e a (by omega) (by omega))⟩
theorem XN.of {S S2 : Mem} {o : Nat} (h : XN S o) (e : S2 o = S o) : XN S2 o := by
  unfold XN
  rw [e]; exact h
theorem XI.of {S S2 : Mem} {m : Option Co} {n o : Nat} (h : XI S m n o) (e : ∀ a, o ≤ a → a ≤ o + 13 → S2 a = S a) (e2 : S2 45 = S 45) : XI S2 m n o := by
  refine ⟨?_, h.2.of (e _ (by omega) (by omega))⟩
  rw [e2]
  rcases h.1 with q | ⟨c, q1, q2, q3⟩
  · exact Or.inl q
  · exact Or.inr ⟨c, q1, q2, q3.of e⟩
theorem XO.of {S S2 : Mem} {b : Bk} (h : XO S b) (e1 : S2 27 = S 27) (e2 : S2 30 = S 30) : XO S2 b := by
  unfold XO XO1
  rw [e1, e2]; exact h
theorem XTl.of {S S2 : Mem} {s : Sg} (h : XTl S s) (e1 : S2 31 = S 31) (e2 : S2 34 = S 34) : XTl S2 s := by
  unfold XTl
  rw [e1, e2]; exact h
theorem XL.of {S S2 : Mem} {b : Bk} {ch : Ch} (h : XL S b ch) (e1 : S2 41 = S 41) (e2 : S2 42 = S 42) : XL S2 b ch := by
  unfold XL
  rw [e1, e2]; exact h
theorem XPd.of {S S2 : Mem} {s : Sg} (h : XPd S s) (e1 : S2 1 = S 1) (e2 : S2 2 = S 2) : XPd S2 s := by
  unfold XPd
  rw [e1, e2]; exact h
/-- what a call that asks may change -/
theorem XRep.of {S S2 : Mem} {s : Sg} (h : XRep S s) (e : ∀ a, a < 25 ∨ 43 < a → S2 a = S a) (h1 : XO S2 s.b) (h2 : XTl S2 s) (h3 : XL S2 s.b s.h) : XRep S2 s := by
  obtain ⟨⟨p1, p2⟩, p3, p4, p5, p6, p7, p8, p9⟩ := h
  exact ⟨⟨p1.of (fun a q1 q2 => e a (by omega)), p2.of (e 17 (by omega))⟩, p3.of (fun a q1 q2 => e a (by omega)), p4.of (e 1 (by omega)) (e 2 (by omega)), h1, h2, h3, p8.of (fun a q1 q2 => e a (by omega)) (e 45 (by omega)), p9.of (fun a q1 q2 => e a (by omega)) (e 45 (by omega))⟩
theorem XRep.scratch {S S2 : Mem} {s : Sg} (h : XRep S s) (e : ∀ a, a ≠ 26 → ¬ (35 ≤ a ∧ a ≤ 38) → S2 a = S a) : XRep S2 s := h.of (fun a ha => e a (by omega) (by omega)) (h.2.2.2.1.of (e 27 (by omega) (by omega)) (e 30 (by omega) (by omega))) (h.2.2.2.2.1.of (e 31 (by omega) (by omega)) (e 34 (by omega) (by omega))) (h.2.2.2.2.2.1.of (e 41 (by omega) (by omega)) (e 42 (by omega) (by omega)))
section CLAP
variable {l : Launch} {g : Geo} {S : Mem} {s : Sg} {K : Int32 → Mem → Prop} {v v1 v2 v3 : Int32}
theorem px_say (hs : SgOk s) (hR : XRep S s) (hk : ∀ S2, XRep S2 (st_say s v) → K (sp_say s v) S2) : MWi l g shX m_X11_say [.ref (g.ad 0), .int v] S K := by
  obtain ⟨⟨p1, p2⟩, p3, p4, p5, p6, p7, p8, p9⟩ := id hR
  obtain ⟨a1, a2⟩ := p4
  have hp : s.pn ≤ 14 := hs.2.1
  unfold sp_say st_say at hk
  refine MWi.intro _ rfl (Nat.le_of_ble_eq_true rfl) rfl (fun x ok => s_X11_say_0 ok _ S ⟨fun y => ?_, fun y => ⟨fun z => ?_, fun z => ?_⟩⟩)
  · rw [rg_no (rg_lo (by decide) (by decide) y)] at hk
    exact hk S hR
  · obtain ⟨j, q1, q2, rfl⟩ := rg_in (by decide) (by decide) y z
    rw [rg_nI q1 q2 (by omega)] at hk
    dsimp only at hk
    simp (disch := omega) only [a1, nI_ltI, cl, nI_clamp, st2_off, st2_get, if_true, nI_add]
    refine ⟨fun u => ⟨inI (by omega) (by decide), ?_⟩, fun u => ?_⟩
    · rw [if_neg (by omega), if_neg (by omega)] at hk
      refine hk _ ⟨⟨p1.of (fun a q1 q2 => ?_), p2.of ?_⟩, p3.of (fun a q1 q2 => ?_), ⟨?_, fun i hi => ?_⟩, p5.of ?_ ?_, p6.of (s := s) ?_ ?_, p7.of ?_ ?_, p8.of (fun a q1 q2 => ?_) ?_, p9.of (fun a q1 q2 => ?_) ?_⟩
      · rw [st2_off (by omega), st2_off (by omega)]
      · rw [st2_off (by omega), st2_off (by omega)]
      · rw [st2_off (by omega), st2_off (by omega)]
      · rw [st2_get, if_pos rfl]
      · rw [st2_off (by decide), st2_get]
        show (if i = s.pn then nI j else S 2 i) = nI (upN s.pd s.pn j i)
        unfold upN
        split
        · rfl
        · exact a2 i (by have hi : i < s.pn + 1 := hi; omega)
      · rw [st2_off (by omega), st2_off (by omega)]
      · rw [st2_off (by omega), st2_off (by omega)]
      · rw [st2_off (by omega), st2_off (by omega)]
      · rw [st2_off (by omega), st2_off (by omega)]
      · rw [st2_off (by omega), st2_off (by omega)]
      · rw [st2_off (by omega), st2_off (by omega)]
      · rw [st2_off (by omega), st2_off (by omega)]
      · rw [st2_off (by omega), st2_off (by omega)]
      · rw [st2_off (by omega), st2_off (by omega)]
      · rw [st2_off (by omega), st2_off (by omega)]
    · rw [if_pos (by omega), if_pos (by omega)] at hk
      exact hk S hR
  · rw [rg_no (rg_hi (by decide) z)] at hk
    exact hk S hR
theorem px_wipe (hs : SgOk s) (hR : XRep S s) (hk : ∀ S2, XRep S2 (st_wipe s) → K (nI s.pn) S2) : MWi l g shX m_X11_wipe [.ref (g.ad 0)] S K := by
  obtain ⟨⟨p1, p2⟩, p3, p4, p5, p6, p7, p8, p9⟩ := id hR
  refine MWi.intro _ rfl (Nat.le_of_ble_eq_true rfl) rfl (fun x ok => s_X11_wipe_0 ok S ?_)
  rw [p4.1]
  have e : ∀ a, a ≠ 1 → st2 S 1 1 (nI 0) a = S a := fun a ha => st2_off ha
  refine hk _ ⟨⟨p1.of (fun a q1 q2 => e a (by omega)), p2.of (e _ (by omega))⟩, p3.of (fun a q1 q2 => e a (by omega)), ⟨?_, fun i hi => ?_⟩, p5.of (e _ (by omega)) (e _ (by omega)), p6.of (s := s) (e _ (by omega)) (e _ (by omega)), p7.of (e _ (by omega)) (e _ (by omega)), p8.of (fun a q1 q2 => e a (by omega)) (e _ (by omega)), p9.of (fun a q1 q2 => e a (by omega)) (e _ (by omega))⟩
  · rw [st2_get, if_pos rfl]; rfl
  · have hi : i < 0 := hi
    omega
theorem px_fault (hs : SgOk s) (hR : XRep S s) (hk : ∀ S2, XRep S2 s → K (oI (flt s.pn s.pd)) S2) : MWi l g shX m_X11_fault [.ref (g.ad 0)] S K :=
  MWi.intro _ rfl (Nat.le_of_ble_eq_true rfl) rfl (fun x ok => s_X11_fault_0 ok S (c_X5_findFault hR.2.2.1.1 hs.2.1 (fun i hi => ⟨hR.2.2.1.2 i hi, (hs.2.2.1 i hi).2⟩) (hk S hR)))
theorem px_common (hs : SgOk s) (hR : XRep S s) (hk : ∀ S2, XRep S2 s → K (sp_common s v) S2) : MWi l g shX m_X11_common [.ref (g.ad 0), .int v] S K := by
  have hU : XU S s.b := hR.2.1
  unfold sp_common at hk
  refine MWi.intro _ rfl (Nat.le_of_ble_eq_true rfl) rfl (fun x ok => s_X11_common_0 ok _ S (c_X11_isSign (fun t ht e => y1 ⟨?_, ?_⟩) (fun h => y0 ?_)))
  · subst e; exact inI ht (by decide)
  · subst e
    rw [ix_nI ht (by omega)] at hk
    rw [cl, nI_clamp (by omega), hU.2.2.1 t ht]
    exact hk S hR
  · rw [ix_no h] at hk
    exact hk S hR
theorem px_ruled {K : Int64 → Mem → Prop} (hs : SgOk s) (hR : XRep S s) (hk : ∀ S2, XRep S2 s → K (sp_ruled s v) S2) : MWl l g shX m_X11_ruled [.ref (g.ad 0), .int v] S K := by
  obtain ⟨hb, hh, ha⟩ : BOk s.b ∧ ChOk s.b s.h ∧ AnOk s.b s.a := hs.1
  have hU : XU S s.b := hR.2.1
  unfold sp_ruled at hk
  refine MWl.intro _ rfl (Nat.le_of_ble_eq_true rfl) rfl (fun x ok => s_X11_ruled_0 ok _ S (c_X11_isPart (fun p hp e => z1 ?_) (fun h => z0 ?_)))
  · subst e
    rw [ix_nI hp (by omega)] at hk
    have h1 := rul_le hb (n := 10) (by decide)
    have h2 := als_le hb (n := 10) (by decide)
    exact c_X8_placesByRule hb hU (c_X8_placesInAll hb hU (c_X11_fraction (by omega) (by omega) hp (hk S hR)))
  · rw [ix_no h] at hk
    exact hk S hR
theorem px_has {K : Int64 → Mem → Prop} (hs : SgOk s) (hR : XRep S s) (hk : ∀ S2, XRep S2 s → K (sp_has s v1 v2 v3) S2) : MWl l g shX m_X11_has [.ref (g.ad 0), .int v1, .int v2, .int v3] S K := by
  obtain ⟨hb, hh, ha⟩ : BOk s.b ∧ ChOk s.b s.h ∧ AnOk s.b s.a := hs.1
  have hU : XU S s.b := hR.2.1
  unfold sp_has at hk
  refine MWl.intro _ rfl (Nat.le_of_ble_eq_true rfl) rfl (fun x ok => s_X11_has_0 ok _ _ _ S (c_X11_isSign (fun t ht e => z1 ⟨fun y => ?_, fun y => ⟨fun z => ?_, fun z => ?_⟩⟩) (fun h => z0 ?_)))
  · subst e
    rw [ix_nI ht (by omega), ix_no (fun j hj e => by subst e; exact nI_pos (by omega) y)] at hk
    exact hk S hR
  · subst e
    rw [ix_nI ht (by omega), ix_no (fun j hj e => by subst e; exact nI_ge hj (by decide) z)] at hk
    exact hk S hR
  · obtain ⟨u, hu, rfl⟩ := nI_of y
    rw [nI_leI (by decide) hu] at z
    subst e
    rw [ix_nI ht (by omega), ix_nI (by omega : u < 10) hu] at hk
    dsimp only at hk
    have h1 := has_le hb (10 * t + u)
    have h2 := all_le hb t
    refine c_X11_isPart (fun p hp e => z1 ?_) (fun h => z0 ?_)
    · subst e
      rw [ix_nI hp (by omega)] at hk
      have em : nI t * nI 10 + nI u = nI (10 * t + u) := by rw [pk_mul, nI_add, Nat.mul_comm]
      rw [em, cl, nI_clamp (by omega), cl, nI_clamp (by omega), hU.1 (10 * t + u) (by omega), hU.2.1 t ht]
      exact ⟨inI (by omega) (by decide), inI ht (by decide), c_X11_fraction (by omega) (by omega) hp (hk S hR)⟩
    · rw [ix_no h] at hk
      exact hk S hR
  · rw [ix_no h] at hk
    exact hk S hR
end CLAP
