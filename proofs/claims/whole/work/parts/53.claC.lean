/-! PART 53: the class: lessons -/
theorem ct_or {p q : Nat → Bool} : ∀ {n : Nat}, (∀ i, i < n → p i = true → q i = true → False) → fb_ct (fun i => p i || q i) n = fb_ct p n + fb_ct q n
  | 0, _ => rfl
  | n + 1, h => by
    have ih := ct_or (p := p) (q := q) (n := n) (fun i hi => h i (by omega))
    have hn := h n (by omega)
    rw [fb_ct_succ, fb_ct_succ, fb_ct_succ, ih]
    cases hp : p n <;> cases hq : q n
    · rfl
    · simp; omega
    · simp; omega
    · exact absurd hq (fun _ => hn hp hq)
theorem pc_disj {k T : Nat} (h : T &&& k = 0) : pc (k ||| T) = pc k + pc T := by
  unfold pc
  rw [← ct_or (p := k.testBit) (q := T.testBit) (fun i _ h1 h2 => by
    have : (T &&& k).testBit i = true := by rw [Nat.testBit_and, h1, h2]; rfl
    rw [h, Nat.zero_testBit] at this
    cases this)]
  apply fb_ct_cong
  intro i _
  exact Nat.testBit_or k T i
theorem pc_full : ∀ v, v < 1024 → pc v = 10 → v = 1023 := by decide +kernel
theorem pc_1023 : pc 1023 = 10 := by decide +kernel
/-- Java's table: the best share of n more signs, out of the sets below i -/
def bst (b : Bk) (m : Option Nat) (k ws n i : Nat) : Nat := mxS (fun set => if sub k set ∧ pc set = pc k + n then bk_share b m set ws else 0) i
theorem sub_or_self (k T : Nat) : sub k (k ||| T) := sub_iff.mpr (fun i hi => by rw [Nat.testBit_or, hi]; rfl)
theorem sub_split {k set : Nat} (h : sub k set) : (set ^^^ k) &&& k = 0 ∧ k ||| (set ^^^ k) = set := by
  constructor
  · apply Nat.eq_of_testBit_eq
    intro i
    rw [Nat.testBit_and, Nat.testBit_xor, Nat.zero_testBit]
    cases hk : k.testBit i with
    | false => rw [Bool.and_false]
    | true => rw [sub_iff.mp h i hk]; rfl
  · apply Nat.eq_of_testBit_eq
    intro i
    rw [Nat.testBit_or, Nat.testBit_xor]
    cases hk : k.testBit i with
    | false => cases set.testBit i <;> rfl
    | true => rw [sub_iff.mp h i hk]; rfl
theorem bst_les {b : Bk} {m : Option Nat} {k ws n : Nat} (hk : k < 1024) (hn : n ≤ 10 - pc k) : bst b m k ws n 1024 = les b m k ws n := by
  have a1 : bst b m k ws n 1024 ≤ les b m k ws n := mxS_le (fun set hs => by
    split
    · rename_i h
      obtain ⟨h1, h2⟩ := sub_split h.1
      have h3 := pc_disj h1
      rw [h2] at h3
      have hx : set ^^^ k < 1024 := Nat.xor_lt_two_pow (n := 10) hs hk
      have h4 := mxS_ge (f := lsF b m k ws n) hx
      have h5 : lsF b m k ws n (set ^^^ k) = bk_share b m set ws := by
        unfold lsF lsP
        rw [decide_eq_true h1, decide_eq_true (show pc (set ^^^ k) = n by omega), h2]
        simp
      unfold les
      omega
    · omega)
  have a2 : les b m k ws n ≤ bst b m k ws n 1024 := mxS_le (fun T hT => by
    unfold lsF
    split
    · rename_i h
      unfold lsP at h
      simp only [Bool.and_eq_true, Bool.or_eq_true, decide_eq_true_eq] at h
      have h3 := pc_disj h.1
      have hx : k ||| T < 1024 := Nat.or_lt_two_pow (n := 10) hk hT
      have h4 := mxS_ge (f := fun set => if sub k set ∧ pc set = pc k + n then bk_share b m set ws else 0) hx
      rw [if_pos ⟨sub_or_self k T, by omega⟩] at h4
      exact h4
    · omega)
  omega
theorem les_full {b : Bk} {m : Option Nat} {k ws n : Nat} (hk : k < 1024) (hn : 10 - pc k < n) : bk_share b m 1023 ws = les b m k ws n := by
  have hsub : sub k 1023 := sub_iff.mpr (fun i hi => by
    rcases Nat.lt_or_ge i 10 with q | q
    · have : ∀ i, i < 10 → (1023 : Nat).testBit i = true := by decide
      exact this i q
    · rw [Nat.testBit_lt_two_pow (Nat.lt_of_lt_of_le hk (Nat.pow_le_pow_right (n := 2) (by decide) q : 2 ^ 10 ≤ 2 ^ i))] at hi; cases hi)
  obtain ⟨h1, h2⟩ := sub_split hsub
  have h3 := pc_disj h1
  rw [h2, pc_1023] at h3
  have hx : 1023 ^^^ k < 1024 := Nat.xor_lt_two_pow (n := 10) (by decide) hk
  have a1 : bk_share b m 1023 ws ≤ les b m k ws n := by
    have h4 := mxS_ge (f := lsF b m k ws n) hx
    have h5 : lsF b m k ws n (1023 ^^^ k) = bk_share b m 1023 ws := by
      unfold lsF lsP
      rw [decide_eq_true h1, decide_eq_true (show pc (1023 ^^^ k) = 10 - pc k by omega), decide_eq_true (show pc (1023 ^^^ k) ≤ n by omega), h2]
      simp
    unfold les
    omega
  have a2 : les b m k ws n ≤ bk_share b m 1023 ws := mxS_le (fun T hT => by
    unfold lsF
    split
    · rename_i h
      unfold lsP at h
      simp only [Bool.and_eq_true, Bool.or_eq_true, decide_eq_true_eq] at h
      have h4 := pc_disj h.1
      have hx : k ||| T < 1024 := Nat.or_lt_two_pow (n := 10) hk hT
      have h5 := pc10 hx
      have := pc_full _ hx (by omega)
      rw [this]; exact Nat.le_refl _
    · omega)
  omega
/-- the lessons that were found -/
def XL (S : Mem) (b : Bk) (ch : Ch) : Prop := ∀ c, c < 4 → S 42 c = nI 0 ∨ (S 42 c = nI 1 ∧ ∀ n, n ≤ 12 → S 41 (13 * c + n) = nI (lesC b ch c n))
section CLAC
variable {l : Launch} {g : Geo} {S : Mem} {b : Bk} {ch : Ch} {K : Int32 → Mem → Prop}
theorem c_X4_findBest {K : Mem → Prop} {c : Nat} (hb : BOk b) (hch : ChOk b ch) (hX : XB S 4 b) (hU : XU S b) (hH : XH S 10 ch) (hL : XL S b ch) (hc : c < 4) (hk : ∀ S2, (∀ a, a ≠ 26 → a ≠ 40 → a ≠ 41 → a ≠ 42 → S2 a = S a) → XL S2 b ch → S2 42 c = nI 1 → (∀ d, d < 4 → S 42 d = nI 1 → S2 42 d = nI 1) → K S2) : MWv l g shX m_X4_findBest [.ref (g.ad 39), .int (nI c)] S K := by
  have hn := hb.1
  obtain ⟨hkn, hws, hm⟩ := hch c hc
  have hws : ch.ws c < 4096 := Nat.lt_of_lt_of_le hws (Nat.pow_le_pow_right (n := 2) (by decide) hn)
  refine MWv.intro _ rfl (Nat.le_of_ble_eq_true rfl) rfl (fun x ok => s_X4_findBest_0 ok _ S ⟨inI hc (by decide), ?_⟩)
  rw [cl, nI_clamp (by omega)]
  rcases hL c hc with h0 | h0
  · refine ⟨fun _ => c_X4_findShares hb hX hU hH hc hm hws (fun S1 r1 r2 => ⟨inI hc (by decide), ?_⟩), fun q => absurd h0 q⟩
    have e11 : S1 11 c = nI (ch.k c) := by rw [r1 11 (by decide) (by decide)]; exact (hH c hc).1
    rw [e11]
    refine c_bitCount (by omega) ?_
    have hpk := pc10 hkn
    have hsl : ∀ k, bk_share b (ch.m c) k (ch.ws c) ≤ 11988 := fun k => share_le hb _ _ _
    have hbl : ∀ n i, bst b (ch.m c) (ch.k c) (ch.ws c) n i ≤ 11988 := fun n i => mxS_le (fun j _ => by
      have := hsl j
      split <;> omega)
    rw [pk_mul, Nat.mul_comm c 13]
    -- to nought
    refine lpU (fun n => ∀ S2 : Mem, (∀ a, a ≠ 41 → S2 a = S1 a) → (∀ j, j < 13 * c ∨ 13 * c + 12 < j → S2 41 j = S1 41 j) → (∀ j, j < n → S2 41 (13 * c + j) = nI 0) → PW l x g shX m_X4_findBest (Qv x g shX K) 39 [(0, .ref (g.ad 39)), (1, .int (nI c)), (2, .int (nI (ch.k c))), (3, .int (nI (pc (ch.k c)))), (4, .int (nI (13 * c))), (5, .int (nI n))] [] S2) 13 ?_ (fun n hn13 ih => ?_) 0 (Nat.zero_le _) S1 (fun _ _ => rfl) (fun _ _ => rfl) (fun j hj => by omega)
    · intro S2 g1 g2 g3
      refine s_X4_findBest_39 ok _ _ _ _ _ S2 ⟨fun _ => ?_, fun q => absurd (nI_lt (by decide) (by decide)) q⟩
      -- the greatest of each count
      refine lpU (fun i => ∀ S3 : Mem, (∀ a, a ≠ 41 → S3 a = S1 a) → (∀ j, j < 13 * c ∨ 13 * c + 12 < j → S3 41 j = S1 41 j) → (∀ j, j < 13 → S3 41 (13 * c + j) = nI (bst b (ch.m c) (ch.k c) (ch.ws c) j i)) → PW l x g shX m_X4_findBest (Qv x g shX K) 66 [(0, .ref (g.ad 39)), (1, .int (nI c)), (2, .int (nI (ch.k c))), (3, .int (nI (pc (ch.k c)))), (4, .int (nI (13 * c))), (5, .int (nI i))] [] S3) 1024 ?_ (fun i hi ih => ?_) 0 (Nat.zero_le _) S2 g1 g2 (fun j hj => by rw [g3 j hj]; rfl)
      · intro S3 q1 q2 q3
        refine s_X4_findBest_66 ok _ _ _ _ _ S3 ⟨fun _ => ?_, fun q => absurd (nI_le (Nat.le_refl 1024) (by decide)) q⟩
        rw [pk_sub (by omega), nI_add]
        -- all signs
        refine lpU (fun n => 10 - pc (ch.k c) + 1 ≤ n → ∀ S4 : Mem, (∀ a, a ≠ 41 → S4 a = S1 a) → (∀ j, j < 13 * c ∨ 13 * c + 12 < j → S4 41 j = S1 41 j) → (∀ j, j < n → S4 41 (13 * c + j) = nI (lesC b ch c j)) → PW l x g shX m_X4_findBest (Qv x g shX K) 133 [(0, .ref (g.ad 39)), (1, .int (nI c)), (4, .int (nI (13 * c))), (5, .int (nI n))] [] S4) 13 ?_ (fun n hn13 ih => ?_) (10 - pc (ch.k c) + 1) (by omega) (Nat.le_refl _) S3 q1 q2 (fun j hj => by rw [q3 j (by omega), bst_les hkn (by omega)]; rfl)
        · intro _ S4 u1 u2 u3
          refine s_X4_findBest_133 ok _ _ _ S4 ⟨fun _ => ⟨inI hc (by decide), ?_⟩, fun q => absurd (nI_lt (by decide) (by decide)) q⟩
          rw [cl, nI_clamp (by omega)]
          refine hk _ (fun a h1 h2 h3 h4 => ?_) (fun d hd => ?_) ?_ (fun d hd h1 => ?_)
          · rw [st2_off h4, u1 a h3]; exact r1 a h1 h2
          · rw [st2_get, st2_off (show (41 : Nat) ≠ 42 by decide)]
            by_cases e : d = c
            · subst e
              rw [if_pos rfl]
              exact Or.inr ⟨rfl, fun n hn => u3 n (by omega)⟩
            · rw [if_neg e, u1 42 (by decide), r1 42 (by decide) (by decide)]
              rcases hL d hd with q | ⟨q, w⟩
              · exact Or.inl q
              · refine Or.inr ⟨q, fun n hn => ?_⟩
                rw [u2 (13 * d + n) (by omega), r1 41 (by decide) (by decide)]
                exact w n hn
          · rw [st2_get, if_pos rfl]
          · rw [st2_get]
            by_cases e : d = c
            · rw [if_pos e]
            · rw [if_neg e, u1 42 (by decide), r1 42 (by decide) (by decide)]; exact h1
        · intro hge S4 u1 u2 u3
          refine s_X4_findBest_133 ok _ _ _ S4 ⟨fun q => absurd q (nI_nlt (by omega) (by omega)), fun _ => ⟨inI (by decide) (by decide), ?_⟩⟩
          have e40 : S4 40 1023 = nI (bk_share b (ch.m c) 1023 (ch.ws c)) := by rw [u1 40 (by decide)]; exact r2 1023 (by decide)
          have ec : cl (nI 1023) = 1023 := by rw [cl, nI_clamp (by decide)]
          rw [nI_add, nI_add, cl, nI_clamp (by omega), ec, e40]
          refine ⟨inI (by omega) (by decide), ih (by omega) _ (fun a ha => by rw [st2_off ha]; exact u1 a ha) (fun j hj => ?_) (fun j hj => ?_)⟩
          · rw [st2_get, if_neg (by omega)]; exact u2 j hj
          · rw [st2_get]
            by_cases e : j = n
            · subst e
              rw [if_pos rfl]
              exact congrArg nI (les_full (b := b) (m := ch.m c) (k := ch.k c) (ws := ch.ws c) (n := j) hkn (by omega))
            · rw [if_neg (by omega)]; exact u3 j (by omega)
      · intro S3 q1 q2 q3
        refine s_X4_findBest_66 ok _ _ _ _ _ S3 ⟨fun q => absurd q (nI_ge hi (by decide)), fun _ => ?_⟩
        have hpi := pc10 hi
        have hb1 : ∀ j, bst b (ch.m c) (ch.k c) (ch.ws c) j (i + 1) = if bst b (ch.m c) (ch.k c) (ch.ws c) j i < (if sub (ch.k c) i ∧ pc i = pc (ch.k c) + j then bk_share b (ch.m c) i (ch.ws c) else 0) then (if sub (ch.k c) i ∧ pc i = pc (ch.k c) + j then bk_share b (ch.m c) i (ch.ws c) else 0) else bst b (ch.m c) (ch.k c) (ch.ws c) j i := fun j => rfl
        have same : ∀ j, ¬ (sub (ch.k c) i ∧ pc i = pc (ch.k c) + j) → bst b (ch.m c) (ch.k c) (ch.ws c) j (i + 1) = bst b (ch.m c) (ch.k c) (ch.ws c) j i := fun j h => by
          rw [hb1, if_neg h, if_neg (by omega)]
        rw [sub_n (by omega) (by omega), nI_add]
        refine ⟨fun y => ih S3 q1 q2 (fun j hj => ?_), fun y => c_bitCount (by omega) ?_⟩
        · rw [same j (fun q => y q.1)]; exact q3 j hj
        · have hle : pc (ch.k c) ≤ pc i := fb_ct_sub (fun j _ hj => sub_iff.mp y j hj)
          have e40 : S3 40 i = nI (bk_share b (ch.m c) i (ch.ws c)) := by rw [q1 40 (by decide)]; exact r2 i hi
          have ei : cl (nI i) = i := by rw [cl, nI_clamp (by omega)]
          rw [nI_add, pk_sub (by omega), cl, nI_clamp (by omega), ei, e40]
          obtain ⟨d, hd⟩ : ∃ d, pc i = pc (ch.k c) + d := ⟨pc i - pc (ch.k c), by omega⟩
          have ea : 13 * c + pc i - pc (ch.k c) = 13 * c + d := by omega
          have h1 := hbl d i
          have h2 := hsl i
          rw [ea, q3 d (by omega), jmax_n (by omega) (by omega)]
          refine ⟨inI (by omega) (by decide), inI hi (by decide), inI (by omega) (by decide), ih _ (fun a ha => by rw [st2_off ha]; exact q1 a ha) (fun j hj => by rw [st2_get, if_neg (by omega)]; exact q2 j hj) (fun j hj => ?_)⟩
          rw [st2_get]
          by_cases e : j = d
          · subst e
            have hc2 : sub (ch.k c) i ∧ pc i = pc (ch.k c) + j := ⟨y, hd⟩
            rw [if_pos rfl, hb1]
            simp only [if_pos hc2]
          · rw [if_neg (by omega), same j (fun q => by omega)]; exact q3 j hj
    · intro S2 g1 g2 g3
      refine s_X4_findBest_39 ok _ _ _ _ _ S2 ⟨fun q => absurd q (nI_nlt (by omega) (by omega)), fun _ => ?_⟩
      rw [nI_add, nI_add, cl, nI_clamp (by omega)]
      refine ⟨inI (by omega) (by decide), ih _ (fun a ha => by rw [st2_off ha]; exact g1 a ha) (fun j hj => by rw [st2_get, if_neg (by omega)]; exact g2 j hj) (fun j hj => ?_)⟩
      rw [st2_get]
      by_cases e : j = n
      · rw [if_pos (by omega)]
      · rw [if_neg (by omega)]; exact g3 j (by omega)
  · refine ⟨fun q => absurd q (by rw [h0.1]; decide), fun _ => hk S (fun _ _ _ _ _ => rfl) hL h0.1 (fun _ _ h => h)⟩
theorem c_X4_bestShare {c n : Nat} (hc : c < 4) (hn : n ≤ 12) (h : S 41 (13 * c + n) = nI (lesC b ch c n)) (hk : K (nI (lesC b ch c n)) S) : MWi l g shX m_X4_bestShare [.ref (g.ad 39), .int (nI c), .int (nI n)] S K := by
  refine MWi.intro _ rfl (Nat.le_of_ble_eq_true rfl) rfl (fun x ok => s_X4_bestShare_0 ok _ _ S ?_)
  rw [pk_mul, nI_add, cl, nI_clamp (by omega), Nat.mul_comm c 13, h]
  exact ⟨inI (by omega) (by decide), hk⟩
end CLAC
