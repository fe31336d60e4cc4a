/-! PART 63: what every call keeps of the plain state; the plain state at the start -/
section KEEP
variable {s : Sg} {v v1 v2 v3 : Int32}
theorem ok_say (hs : SgOk s) : SgOk (st_say s v) := by
  obtain ⟨h1, h2, h3, h4⟩ := id hs
  unfold st_say
  cases hv : rgI v 33 126 with
  | none => exact hs
  | some c =>
    dsimp only
    obtain ⟨q1, q2, _⟩ := rg_of hv
    split
    · exact hs
    · have h2 : s.pn ≤ 14 := h2
      refine ⟨h1, by show s.pn + 1 ≤ 14; omega, fun i hi => ?_, h4⟩
      have hi : i < s.pn + 1 := hi
      show 33 ≤ upN s.pd s.pn c i ∧ upN s.pd s.pn c i ≤ 126
      unfold upN
      split
      · exact ⟨q1, q2⟩
      · exact h3 i (by show i < s.pn; omega)
theorem ok_wipe (hs : SgOk s) : SgOk (st_wipe s) := by
  obtain ⟨h1, h2, h3, h4⟩ := id hs
  exact ⟨h1, Nat.zero_le _, fun i hi => absurd hi (Nat.not_lt_zero i), h4⟩
theorem ok_word (hs : SgOk s) : SgOk (st_word s v) := by
  obtain ⟨⟨hb, hh, ha⟩, h2, h3, h4⟩ := id hs
  unfold st_word
  cases hv : rgI v 1 999 with
  | none => exact hs
  | some f =>
    dsimp only
    obtain ⟨f1, f2, _⟩ := rg_of hv
    split
    · rename_i hf
      split
      · exact hs
      · split
        · exact hs
        · rename_i hn
          obtain ⟨li, _, l1, l5, l2, l3, l4⟩ := flt_none hf
          have hl : s.pn / 2 = li := by omega
          have hb1 : s.b.n ≤ 12 := hb.1
          rw [hl]
          refine ⟨⟨newB_ok hb (by omega) l1 l5 f1 f2 l3 l4, fun c hc => ?_, ha.1, fun k hk => ?_⟩, Nat.zero_le _, fun i hi => absurd hi (Nat.not_lt_zero i), h4⟩
          · obtain ⟨q1, q2, q3⟩ := hh c hc
            refine ⟨q1, ?_, q3⟩
            show s.h.ws c < 2 ^ (s.b.n + 1)
            have q2 : s.h.ws c < 2 ^ s.b.n := q2
            have := Nat.pow_lt_pow_right (a := 2) (by decide) (Nat.lt_succ_self s.b.n)
            omega
          · have q : s.a.w k < s.b.n := ha.2 k hk
            show s.a.w k < s.b.n + 1
            omega
    · exact hs
theorem ok_often (hs : SgOk s) : SgOk (st_often s v1 v2) := by
  obtain ⟨⟨hb, hh, ha⟩, h2, h3, h4⟩ := id hs
  unfold st_often
  cases hw : ix v1 s.b.n with
  | none => exact hs
  | some w =>
    dsimp only
    cases hv : rgI v2 1 999 with
    | none => exact hs
    | some f =>
      dsimp only
      obtain ⟨f1, f2, _⟩ := rg_of hv
      refine ⟨⟨⟨hb.1, fun u hu => ?_⟩, hh, ha⟩, h2, h3, h4⟩
      obtain ⟨q1, q2, q3, q4, q5⟩ := hb.2 u hu
      refine ⟨q1, q2, ?_, ?_, q5⟩
      · show 1 ≤ upN s.b.2.2.1 w f u
        unfold upN
        split
        · exact f1
        · exact q3
      · show upN s.b.2.2.1 w f u ≤ 999
        unfold upN
        split
        · exact f2
        · exact q4
theorem ok_knows (hs : SgOk s) : SgOk (st_knows s v1 v2 v3) := by
  obtain ⟨⟨hb, hh, ha⟩, h2, h3, h4⟩ := id hs
  unfold st_knows
  cases hc : ix v1 4 with
  | none => exact hs
  | some c =>
    dsimp only
    cases hq : ix v2 2 with
    | none => exact hs
    | some q =>
      dsimp only
      split
      · cases ht : ix v3 1024 with
        | none => exact hs
        | some t =>
          dsimp only
          refine ⟨⟨hb, fun d hd => ?_, ha⟩, h2, h3, h4⟩
          obtain ⟨q1, q2, q3⟩ := hh d hd
          refine ⟨?_, q2, q3⟩
          show upN s.h.1 c t d < 1024
          unfold upN
          split
          · exact (ix_of ht).1
          · exact q1
      · cases ht : ix v3 (2 ^ s.b.n) with
        | none => exact hs
        | some t =>
          dsimp only
          refine ⟨⟨hb, fun d hd => ?_, ha⟩, h2, h3, h4⟩
          obtain ⟨q1, q2, q3⟩ := hh d hd
          refine ⟨q1, ?_, q3⟩
          show upN s.h.2.1 c t d < 2 ^ s.b.n
          unfold upN
          split
          · exact (ix_of ht).1
          · exact q2
theorem ok_mixm {c : Nat} {m : Option Nat} (hs : SgOk s) (hm : mx2 m) : SgOk ((s.b, (s.h.1, s.h.2.1, upN s.h.2.2 c m), s.a), s.2) := by
  obtain ⟨⟨hb, hh, ha⟩, h2, h3, h4⟩ := id hs
  refine ⟨⟨hb, fun d hd => ?_, ha⟩, h2, h3, h4⟩
  obtain ⟨q1, q2, q3⟩ := hh d hd
  refine ⟨q1, q2, ?_⟩
  show mx2 (upN s.h.2.2 c m d)
  unfold upN
  split
  · exact hm
  · exact q3
theorem ok_mix (hs : SgOk s) : SgOk (st_mix s v1 v2 v3) := by
  unfold st_mix
  cases hc : ix v1 4 with
  | none => exact hs
  | some c =>
    dsimp only
    split
    · exact ok_mixm hs (fun k hk => by cases hk)
    · cases ha : ix v2 10 with
      | none => exact hs
      | some a =>
        dsimp only
        cases hd : ix v3 10 with
        | none => exact hs
        | some d =>
          dsimp only
          split
          · exact hs
          · rename_i hne
            have a1 := (ix_of ha).1
            have d1 := (ix_of hd).1
            refine ok_mixm hs (fun k hk => ?_)
            have hk := Option.some.inj hk
            by_cases h : a < d
            · rw [if_pos h] at hk
              exact ⟨a, d, h, d1, hk.symm⟩
            · rw [if_neg h] at hk
              exact ⟨d, a, by omega, a1, hk.symm⟩
theorem ok_answer {r : Bool} (hs : SgOk s) : SgOk (st_answer s v1 r) := by
  obtain ⟨⟨hb, hh, ha⟩, h2, h3, h4⟩ := id hs
  unfold st_answer
  cases hw : ix v1 s.b.n with
  | none => exact hs
  | some w =>
    dsimp only
    split
    · exact hs
    · have hn : s.a.n ≤ 20 := ha.1
      refine ⟨⟨hb, hh, by show s.a.n + 1 ≤ 20; omega, fun k hk => ?_⟩, h2, h3, h4⟩
      have hk : k < s.a.n + 1 := hk
      show upN s.a.2.1 s.a.n w k < s.b.n
      unfold upN
      split
      · exact (ix_of hw).1
      · exact ha.2 k (by show k < s.a.n; omega)
theorem ok_clear (hs : SgOk s) : SgOk (st_clear s) := by
  obtain ⟨⟨hb, hh, ha⟩, h2, h3, h4⟩ := id hs
  exact ⟨⟨hb, hh, Nat.zero_le _, fun k hk => absurd hk (Nat.not_lt_zero k)⟩, h2, h3, h4⟩
theorem ok_image (hs : SgOk s) : SgOk (st_image s v) := by
  obtain ⟨h1, h2, h3, h4⟩ := id hs
  unfold st_image
  cases hv : ix v 2 with
  | none => exact hs
  | some n =>
    dsimp only
    refine ⟨h1, h2, h3, fun k hk c hc => ?_⟩
    have hc : upN s.im n (some s.1) k = some c := hc
    unfold upN at hc
    split at hc
    · cases hc; exact h1
    · exact h4 k hk c hc
theorem ok_restore (hs : SgOk s) : SgOk (st_restore s v) := by
  obtain ⟨h1, h2, h3, h4⟩ := id hs
  unfold st_restore
  cases hv : ix v 2 with
  | none => exact hs
  | some n =>
    dsimp only
    cases hm : s.im n with
    | none => exact hs
    | some c => exact ⟨h4 n (ix_of hv).1 c hm, h2, h3, h4⟩
end KEEP
/-- the plain state of a new object -/
def sg0 : Sg := (((0, fun _ => 0, fun _ => 0, fun _ => 0, fun _ => 0), (fun _ => 0, fun _ => 0, fun _ => none), (0, fun _ => 0, fun _ => false)), (0, fun _ => 0), fun _ => none)
theorem ok_sg0 : SgOk sg0 := by
  refine ⟨⟨⟨Nat.zero_le _, fun w hw => absurd hw (Nat.not_lt_zero w)⟩, fun c hc => ⟨(by show 0 < 1024; decide), (by show 0 < 2 ^ 0; decide), fun k hk => by cases hk⟩, Nat.zero_le _, fun k hk => absurd hk (Nat.not_lt_zero k)⟩, Nat.zero_le _, fun i hi => absurd hi (Nat.not_lt_zero i), fun n hn c hc => by cases hc⟩
