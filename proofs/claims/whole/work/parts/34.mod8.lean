/-! PART 34: the model: images, fractions, the pad -/
def sem (a j : Nat) : Prop := (a = 0 ∧ (j = 4 ∨ j = 22)) ∨ ((a = 1 ∨ a = 2) ∧ j < 60) ∨ ((a = 3 ∨ a = 4) ∧ j < 12) ∨ ((a = 9 ∨ a = 10 ∨ a = 11) ∧ j < 4) ∨ ((a = 16 ∨ a = 17) ∧ j < 20)
def pos (a j : Nat) : Nat := if a = 0 then (if j = 4 then 0 else 1) else if a = 1 then 2 + 2 * j else if a = 2 then 3 + 2 * j else if a = 3 then 122 + 2 * j else if a = 4 then 123 + 2 * j else if a = 9 then 146 + 3 * j else if a = 10 then 147 + 3 * j else if a = 11 then 148 + 3 * j else if a = 16 then 158 + 2 * j else 159 + 2 * j
def dcd (q : Nat) : Nat × Nat := if q = 0 then (0, 4) else if q = 1 then (0, 22) else if q < 122 then (1 + (q - 2) % 2, (q - 2) / 2) else if q < 146 then (3 + (q - 122) % 2, (q - 122) / 2) else if q < 158 then (9 + (q - 146) % 3, (q - 146) / 3) else (16 + (q - 158) % 2, (q - 158) / 2)
theorem dcd_pos {a j : Nat} (h : sem a j) : dcd (pos a j) = (a, j) ∧ pos a j < 198 := by
  unfold sem at h
  rcases h with ⟨rfl, rfl | rfl⟩ | ⟨rfl | rfl, h⟩ | ⟨rfl | rfl, h⟩ | ⟨rfl | rfl | rfl, h⟩ | ⟨rfl | rfl, h⟩
  · exact ⟨rfl, by decide⟩
  · exact ⟨rfl, by decide⟩
  all_goals
    refine ⟨?_, by simp [pos]; omega⟩
    simp [pos]
    unfold dcd
    repeat' split
    all_goals first
      | omega
      | (apply Prod.ext <;> dsimp only <;> omega)
theorem pos_inj {a j a2 j2 : Nat} (h : sem a j) (h2 : sem a2 j2) (e : pos a j = pos a2 j2) : a = a2 ∧ j = j2 := by
  have h1 := (dcd_pos h).1
  rw [e, (dcd_pos h2).1] at h1
  simp only [Prod.mk.injEq] at h1
  exact ⟨h1.1.symm, h1.2.symm⟩
theorem sem_ne {a j : Nat} (h : sem a j) : a ≠ 21 ∧ ¬ (a = 0 ∧ j = 29) ∧ ¬ (a = 0 ∧ j = 30) := by
  unfold sem at h
  omega
/-- what an image keeps, as a memory -/
def kv (S : Mem) (n : Nat) : Mem := fun a j => S 21 (220 * n + pos a j)
def Pinv (S : Mem) (n : Nat) (wr : Bool) (at_ : Nat) (S2 : Mem) : Prop :=
  S2 0 29 = nI (220 * n + at_) ∧ S2 0 30 = nI wr.toNat ∧ (∀ a j, sem a j → pos a j < at_ → S2 a j = (if wr = true then S a j else kv S n a j) ∧ S2 21 (220 * n + pos a j) = (if wr = true then S a j else kv S n a j)) ∧ (∀ a j, sem a j → at_ ≤ pos a j → S2 a j = S a j) ∧ (∀ q, q < 220 * n ∨ 220 * n + at_ ≤ q → S2 21 q = S 21 q) ∧ (∀ a j, ¬ sem a j → a ≠ 21 → ¬ (a = 0 ∧ (j = 29 ∨ j = 30)) → S2 a j = S a j)
theorem Pinv.step {S S2 : Mem} {n a j : Nat} {wr : Bool} (h : Pinv S n wr (pos a j) S2) (hs : sem a j) {r : Int32} (hr : r = if wr = true then S2 a j else S2 21 (220 * n + pos a j)) : Pinv S n wr (pos a j + 1) (st2 (st2 (st2 S2 21 (220 * n + pos a j) r) 0 29 (nI (220 * n + pos a j + 1))) a j r) := by
  obtain ⟨h1, h2, h3, h4, h5, h6⟩ := h
  obtain ⟨n1, n2, n3⟩ := sem_ne hs
  have hr2 : r = if wr = true then S a j else kv S n a j := by
    rw [hr, h4 a j hs (Nat.le_refl _), h5 _ (Or.inr (Nat.le_refl _))]
    rfl
  refine ⟨?_, ?_, fun a2 j2 hs2 hp => ?_, fun a2 j2 hs2 hp => ?_, fun q hq => ?_, fun a2 j2 hs2 hn1 hn2 => ?_⟩
  · rw [st2_eq, if_neg (by omega), st2_eq, if_pos ⟨rfl, rfl⟩]
    rfl
  · rw [st2_eq, if_neg (by omega), st2_eq, if_neg (by omega), st2_eq, if_neg (by omega)]
    exact h2
  · obtain ⟨m1, m2, m3⟩ := sem_ne hs2
    by_cases e : a2 = a ∧ j2 = j
    · obtain ⟨rfl, rfl⟩ := e
      refine ⟨?_, ?_⟩
      · rw [st2_eq, if_pos ⟨rfl, rfl⟩]; exact hr2
      · rw [st2_eq, if_neg (by omega), st2_eq, if_neg (by omega), st2_eq, if_pos ⟨rfl, rfl⟩]; exact hr2
    · have hne : pos a2 j2 ≠ pos a j := fun q => e (pos_inj hs2 hs q)
      obtain ⟨d1, d2⟩ := h3 a2 j2 hs2 (by omega)
      refine ⟨?_, ?_⟩
      · rw [st2_eq, if_neg e, st2_eq, if_neg m2, st2_eq, if_neg (by omega)]; exact d1
      · rw [st2_eq, if_neg (by omega), st2_eq, if_neg (by omega), st2_eq, if_neg (by omega)]; exact d2
  · obtain ⟨m1, m2, m3⟩ := sem_ne hs2
    have e : ¬ (a2 = a ∧ j2 = j) := fun e => by obtain ⟨rfl, rfl⟩ := e; omega
    rw [st2_eq, if_neg e, st2_eq, if_neg m2, st2_eq, if_neg (by omega)]
    exact h4 a2 j2 hs2 (by omega)
  · rw [st2_eq, if_neg (by omega), st2_eq, if_neg (by omega), st2_eq, if_neg (by omega)]
    exact h5 q (by omega)
  · have e : ¬ (a2 = a ∧ j2 = j) := fun e => by obtain ⟨rfl, rfl⟩ := e; exact hs2 hs
    rw [st2_eq, if_neg e, st2_eq, if_neg (by omega), st2_eq, if_neg (by omega)]
    exact h6 a2 j2 hs2 hn1 hn2
section MOD8
variable {l : Launch} {g : Geo} {S S2 : Mem} {K : Int32 → Mem → Prop}
theorem c_X12_pass {q : Nat} {wr : Bool} {v : Int32} (h1 : S 0 29 = nI q) (h2 : S 0 30 = nI wr.toNat) (hq : q < 440) (hk : ∀ r, r = (if wr = true then v else S 21 q) → K r (st2 (st2 S 21 q r) 0 29 (nI (q + 1)))) : MWi l g shM m_X12_pass [.ref (g.ad 0), .int v] S K := by
  refine MWi.intro _ rfl (Nat.le_of_ble_eq_true rfl) rfl (fun x ok => s_X12_pass_0 ok _ S ?_)
  simp (disch := omega) only [h1, h2, bI0, cl, nI_clamp, st2_off, nI_add]
  refine ⟨fun y => ⟨inI hq (by decide), inI hq (by decide), ?_⟩, fun y => ⟨inI hq (by decide), ?_⟩⟩
  · subst y
    exact hk _ rfl
  · rw [Bool.not_eq_false] at y
    subst y
    exact hk _ rfl
set_option maxHeartbeats 1000000 in
theorem c_X12_passAll {n : Nat} {wr : Bool} {K : Mem → Prop} (hn : n < 2) (h1 : S2 0 29 = nI (220 * n)) (h2 : S2 0 30 = nI wr.toNat) (h3 : ∀ a j, ¬ (a = 0 ∧ (j = 29 ∨ j = 30)) → S2 a j = S a j) (hk : ∀ S3, Pinv S n wr 198 S3 → K S3) : MWv l g shM m_X12_passAll [.ref (g.ad 0)] S2 K := by
  have I0 : Pinv S n wr 0 S2 := ⟨h1, h2, fun a j _ h => by omega, fun a j hs _ => h3 a j (by have := sem_ne hs; omega), fun q _ => h3 21 q (by omega), fun a j _ _ h => h3 a j h⟩
  have pas : ∀ {S3 : Mem} {a j : Nat} {v : Int32} {K : Int32 → Mem → Prop}, sem a j → Pinv S n wr (pos a j) S3 → v = S3 a j → (∀ r Sp, Pinv S n wr (pos a j + 1) (st2 Sp a j r) → (∀ b i, ¬ (b = 21) → ¬ (b = 0 ∧ i = 29) → Sp b i = S3 b i) → K r Sp) → MWi l g shM m_X12_pass [.ref (g.ad 0), .int v] S3 K := by
    intro S3 a j v K hs I hv hk
    have hp := (dcd_pos hs).2
    refine c_X12_pass I.1 I.2.1 (by omega) (fun r hr => hk r _ (I.step hs (by rw [hr, hv])) (fun b i n1 n2 => by rw [st2_eq, if_neg n2, st2_eq, if_neg (by omega)]))
  refine MWv.intro _ rfl (Nat.le_of_ble_eq_true rfl) rfl (fun x ok => s_X12_passAll_0 ok S2 ?_)
  have I0 : Pinv S n wr (pos 0 4) S2 := I0
  refine pas (Or.inl ⟨rfl, Or.inl rfl⟩) I0 rfl (fun r1 Sp1 I1 f1 => ?_)
  have I1 : Pinv S n wr (pos 0 22) (st2 Sp1 0 4 r1) := I1
  refine pas (Or.inl ⟨rfl, Or.inr rfl⟩) I1 rfl (fun r2 Sp2 I2 f2 => ?_)
  -- answers
  have L4 : ∀ S3, Pinv S n wr 158 S3 → PW l x g shM m_X12_passAll (Qv x g shM K) 179 [(0, .ref (g.ad 0)), (1, .int (nI 0))] [] S3 := by
    intro S3 I3
    refine lpU (fun k => ∀ S3, Pinv S n wr (158 + 2 * k) S3 → PW l x g shM m_X12_passAll (Qv x g shM K) 179 [(0, .ref (g.ad 0)), (1, .int (nI k))] [] S3) 20 ?_ (fun k hkk ih => ?_) 0 (Nat.zero_le _) S3 I3
    · intro S3 I3
      exact s_X12_passAll_179 ok _ S3 ⟨fun _ => hk S3 I3, fun c => absurd (nI_le (Nat.le_refl 20) (by decide)) c⟩
    · intro S3 I3
      refine s_X12_passAll_179 ok _ S3 ⟨fun c => absurd c (nI_ge hkk (by decide)), fun _ => ⟨inI hkk (by decide), ?_⟩⟩
      simp (disch := omega) only [cl, nI_clamp, nI_add]
      have I3 : Pinv S n wr (pos 16 k) S3 := I3
      refine pas (Or.inr (Or.inr (Or.inr (Or.inr ⟨Or.inl rfl, hkk⟩)))) I3 rfl (fun r Sp I4 f => ⟨inI hkk (by decide), inI hkk (by decide), ?_⟩)
      have I4 : Pinv S n wr (pos 17 k) (st2 Sp 16 k r) := by
        have e : pos 16 k + 1 = pos 17 k := by simp [pos]; omega
        rw [← e]; exact I4
      refine pas (Or.inr (Or.inr (Or.inr (Or.inr ⟨Or.inr rfl, hkk⟩)))) I4 rfl (fun r Sp I5 f => ⟨inI hkk (by decide), ih _ ?_⟩)
      have e : pos 17 k + 1 = 158 + 2 * (k + 1) := by simp [pos]; omega
      rw [← e]; exact I5
  have L3 : ∀ S3, Pinv S n wr 146 S3 → PW l x g shM m_X12_passAll (Qv x g shM K) 118 [(0, .ref (g.ad 0)), (1, .int (nI 0))] [] S3 := by
    intro S3 I3
    refine lpU (fun k => ∀ S3, Pinv S n wr (146 + 3 * k) S3 → PW l x g shM m_X12_passAll (Qv x g shM K) 118 [(0, .ref (g.ad 0)), (1, .int (nI k))] [] S3) 4 ?_ (fun k hkk ih => ?_) 0 (Nat.zero_le _) S3 I3
    · intro S3 I3
      exact s_X12_passAll_118 ok _ S3 ⟨fun _ => L4 S3 I3, fun c => absurd (nI_le (Nat.le_refl 4) (by decide)) c⟩
    · intro S3 I3
      refine s_X12_passAll_118 ok _ S3 ⟨fun c => absurd c (nI_ge hkk (by decide)), fun _ => ⟨inI hkk (by decide), ?_⟩⟩
      simp (disch := omega) only [cl, nI_clamp, nI_add]
      have I3 : Pinv S n wr (pos 9 k) S3 := I3
      refine pas (Or.inr (Or.inr (Or.inr (Or.inl ⟨Or.inl rfl, hkk⟩)))) I3 rfl (fun r Sp I4 f => ⟨inI hkk (by decide), inI hkk (by decide), ?_⟩)
      have I4 : Pinv S n wr (pos 10 k) (st2 Sp 9 k r) := by
        have e : pos 9 k + 1 = pos 10 k := by simp [pos]; omega
        rw [← e]; exact I4
      refine pas (Or.inr (Or.inr (Or.inr (Or.inl ⟨Or.inr (Or.inl rfl), hkk⟩)))) I4 rfl (fun r Sp I5 f => ⟨inI hkk (by decide), inI hkk (by decide), ?_⟩)
      have I5 : Pinv S n wr (pos 11 k) (st2 Sp 10 k r) := by
        have e : pos 10 k + 1 = pos 11 k := by simp [pos]; omega
        rw [← e]; exact I5
      refine pas (Or.inr (Or.inr (Or.inr (Or.inl ⟨Or.inr (Or.inr rfl), hkk⟩)))) I5 rfl (fun r Sp I6 f => ⟨inI hkk (by decide), ih _ ?_⟩)
      have e : pos 11 k + 1 = 146 + 3 * (k + 1) := by simp [pos]; omega
      rw [← e]; exact I6
  have L2 : ∀ S3, Pinv S n wr 122 S3 → PW l x g shM m_X12_passAll (Qv x g shM K) 72 [(0, .ref (g.ad 0)), (1, .int (nI 0))] [] S3 := by
    intro S3 I3
    refine lpU (fun k => ∀ S3, Pinv S n wr (122 + 2 * k) S3 → PW l x g shM m_X12_passAll (Qv x g shM K) 72 [(0, .ref (g.ad 0)), (1, .int (nI k))] [] S3) 12 ?_ (fun k hkk ih => ?_) 0 (Nat.zero_le _) S3 I3
    · intro S3 I3
      exact s_X12_passAll_72 ok _ S3 ⟨fun _ => L3 S3 I3, fun c => absurd (nI_le (Nat.le_refl 12) (by decide)) c⟩
    · intro S3 I3
      refine s_X12_passAll_72 ok _ S3 ⟨fun c => absurd c (nI_ge hkk (by decide)), fun _ => ⟨inI hkk (by decide), ?_⟩⟩
      simp (disch := omega) only [cl, nI_clamp, nI_add]
      have I3 : Pinv S n wr (pos 3 k) S3 := I3
      refine pas (Or.inr (Or.inr (Or.inl ⟨Or.inl rfl, hkk⟩))) I3 rfl (fun r Sp I4 f => ⟨inI hkk (by decide), inI hkk (by decide), ?_⟩)
      have I4 : Pinv S n wr (pos 4 k) (st2 Sp 3 k r) := by
        have e : pos 3 k + 1 = pos 4 k := by simp [pos]; omega
        rw [← e]; exact I4
      refine pas (Or.inr (Or.inr (Or.inl ⟨Or.inr rfl, hkk⟩))) I4 rfl (fun r Sp I5 f => ⟨inI hkk (by decide), ih _ ?_⟩)
      have e : pos 4 k + 1 = 122 + 2 * (k + 1) := by simp [pos]; omega
      rw [← e]; exact I5
  refine lpU (fun k => ∀ S3, Pinv S n wr (2 + 2 * k) S3 → PW l x g shM m_X12_passAll (Qv x g shM K) 26 [(0, .ref (g.ad 0)), (1, .int (nI k))] [] S3) 60 ?_ (fun k hkk ih => ?_) 0 (Nat.zero_le _) _ I2
  · intro S3 I3
    exact s_X12_passAll_26 ok _ S3 ⟨fun _ => L2 S3 I3, fun c => absurd (nI_le (Nat.le_refl 60) (by decide)) c⟩
  · intro S3 I3
    refine s_X12_passAll_26 ok _ S3 ⟨fun c => absurd c (nI_ge hkk (by decide)), fun _ => ⟨inI hkk (by decide), ?_⟩⟩
    simp (disch := omega) only [cl, nI_clamp, nI_add]
    have I3 : Pinv S n wr (pos 1 k) S3 := I3
    refine pas (Or.inr (Or.inl ⟨Or.inl rfl, hkk⟩)) I3 rfl (fun r Sp I4 f => ⟨inI hkk (by decide), inI hkk (by decide), ?_⟩)
    have I4 : Pinv S n wr (pos 2 k) (st2 Sp 1 k r) := by
      have e : pos 1 k + 1 = pos 2 k := by simp [pos]; omega
      rw [← e]; exact I4
    refine pas (Or.inr (Or.inl ⟨Or.inr rfl, hkk⟩)) I4 rfl (fun r Sp I5 f => ⟨inI hkk (by decide), ih _ ?_⟩)
    have e : pos 2 k + 1 = 2 + 2 * (k + 1) := by simp [pos]; omega
    rw [← e]; exact I5
/-- a fraction's part in lowest terms -/
def frN (up lo p : Nat) : Nat := if lo = 0 then p else if p = 0 then up / Nat.gcd up lo else lo / Nat.gcd up lo
theorem lN_eq0 {n : Nat} (h : n < 2 ^ 63) : lN n = 0 ↔ n = 0 := by
  have := pk_lEQ (a := n) (b := 0) h (by decide)
  exact this
theorem c_X12_lowest {up lo p : Nat} {K : Int64 → Mem → Prop} (hu : up < 2 ^ 31) (hl : lo < 2 ^ 31) (hp : p < 2) (hk : K (lN (frN up lo p)) S) : MWl l g shM m_X12_lowest [.long (lN up), .long (lN lo), .int (nI p)] S K := by
  refine MWl.intro _ rfl (Nat.le_of_ble_eq_true rfl) rfl (fun x ok => s_X12_lowest_0 ok _ _ _ S ?_)
  rw [lg_cmp_eq, pk_lEQ (by omega) (by decide)]
  unfold frN at hk
  refine ⟨fun y => ?_, fun y => ?_⟩
  · rw [if_neg y] at hk
    have L : ∀ v u, u < 2 ^ 31 → v < 2 ^ 31 → (0 < u ∨ 0 < v) → Nat.gcd u v = Nat.gcd up lo → PW l x g shM m_X12_lowest (Ql x g shM K) 16 [(0, .long (lN up)), (2, .long (lN lo)), (4, .int (nI p)), (5, .long (lN u)), (7, .long (lN v))] [] S := by
      intro v
      induction v using Nat.strongRecOn with
      | _ v ih =>
        intro u h1 h2 h3 h4
        refine s_X12_lowest_16 ok _ _ _ _ _ S ?_
        rw [lg_cmp_eq, pk_lEQ (by omega) (by decide)]
        refine ⟨fun z => ?_, fun z => ⟨?_, ?_⟩⟩
        · subst z
          rw [Nat.gcd_zero_right] at h4
          rw [nI_eq0 (by omega)]
          refine ⟨fun r => ⟨?_, ?_⟩, fun r => ⟨?_, ?_⟩⟩
          · rw [lN_eq0 (by omega)]; omega
          · rw [if_neg r] at hk
            rw [pk_lDiv (by omega) (by omega) (by omega), h4]; exact hk
          · rw [lN_eq0 (by omega)]; omega
          · rw [if_pos r] at hk
            rw [pk_lDiv (by omega) (by omega) (by omega), h4]; exact hk
        · rw [lN_eq0 (by omega)]; exact z
        · rw [jremL_n (by omega) (by omega) (by omega)]
          have hm := Nat.mod_lt u (by omega : 0 < v)
          refine ih (u % v) hm v h2 (by omega) (by omega) ?_
          rw [← h4, Nat.gcd_comm u v, Nat.gcd_rec v u, Nat.gcd_comm]
    exact L lo up hu hl (by omega) rfl
  · rw [if_pos y] at hk
    rw [nI_l (by omega)]; exact hk
end MOD8
