/-! PART 40: the class: small methods -/
def bcf (v0 : Int32) : Int32 := ((((((((v0 - ((jushr v0 (nI 1)) &&& (nI 1431655765))) &&& (nI 858993459)) + ((jushr (v0 - ((jushr v0 (nI 1)) &&& (nI 1431655765))) (nI 2)) &&& (nI 858993459))) + (jushr (((v0 - ((jushr v0 (nI 1)) &&& (nI 1431655765))) &&& (nI 858993459)) + ((jushr (v0 - ((jushr v0 (nI 1)) &&& (nI 1431655765))) (nI 2)) &&& (nI 858993459))) (nI 4))) &&& (nI 252645135)) + (jushr (((((v0 - ((jushr v0 (nI 1)) &&& (nI 1431655765))) &&& (nI 858993459)) + ((jushr (v0 - ((jushr v0 (nI 1)) &&& (nI 1431655765))) (nI 2)) &&& (nI 858993459))) + (jushr (((v0 - ((jushr v0 (nI 1)) &&& (nI 1431655765))) &&& (nI 858993459)) + ((jushr (v0 - ((jushr v0 (nI 1)) &&& (nI 1431655765))) (nI 2)) &&& (nI 858993459))) (nI 4))) &&& (nI 252645135)) (nI 8))) + (jushr ((((((v0 - ((jushr v0 (nI 1)) &&& (nI 1431655765))) &&& (nI 858993459)) + ((jushr (v0 - ((jushr v0 (nI 1)) &&& (nI 1431655765))) (nI 2)) &&& (nI 858993459))) + (jushr (((v0 - ((jushr v0 (nI 1)) &&& (nI 1431655765))) &&& (nI 858993459)) + ((jushr (v0 - ((jushr v0 (nI 1)) &&& (nI 1431655765))) (nI 2)) &&& (nI 858993459))) (nI 4))) &&& (nI 252645135)) + (jushr (((((v0 - ((jushr v0 (nI 1)) &&& (nI 1431655765))) &&& (nI 858993459)) + ((jushr (v0 - ((jushr v0 (nI 1)) &&& (nI 1431655765))) (nI 2)) &&& (nI 858993459))) + (jushr (((v0 - ((jushr v0 (nI 1)) &&& (nI 1431655765))) &&& (nI 858993459)) + ((jushr (v0 - ((jushr v0 (nI 1)) &&& (nI 1431655765))) (nI 2)) &&& (nI 858993459))) (nI 4))) &&& (nI 252645135)) (nI 8))) (nI 16))) &&& (nI 63))
theorem bcf_0 : ∀ a, a < 64 → ∀ c, c < 64 → bcf (nI (64 * a + c)) = nI (pc (64 * a + c)) := by decide +kernel
theorem bcf_pc {v : Nat} (h : v < 4096) : bcf (nI v) = nI (pc v) := by
  have := bcf_0 (v / 64) (by omega) (v % 64) (by omega)
  rw [Nat.div_add_mod] at this
  exact this
def XB (S : Mem) (o : Nat) (b : Bk) : Prop := S o 5 = nI b.n ∧ ∀ w, w < b.n → S (o + 1) w = nI (b.len w) ∧ S (o + 2) w = nI (b.of w) ∧ S (o + 3) w = nI (bk_bits b w) ∧ ∀ i, i < b.len w → S (o + 4) (5 * w + i) = nI (b.sg w i) ∧ S (o + 5) (5 * w + i) = nI (b.sd w i)
def mlI (m : Option Nat) : Int32 := match m with
  | none => -1
  | some k => nI (k / 10)
def mmI (m : Option Nat) : Int32 := match m with
  | none => -1
  | some k => nI (k % 10)
def XH (S : Mem) (o : Nat) (h : Ch) : Prop := ∀ c, c < 4 → S (o + 1) c = nI (h.k c) ∧ S (o + 2) c = nI (h.ws c) ∧ S (o + 3) c = mlI (h.m c) ∧ S (o + 4) c = mmI (h.m c)
def XA (S : Mem) (o : Nat) (a : An) : Prop := S o 2 = nI a.n ∧ ∀ k, k < a.n → S (o + 1) k = nI (a.w k) ∧ S (o + 2) k = nI (a.r k).toNat
def XC (S : Mem) (o : Nat) (c : Co) : Prop := XB S o c.1 ∧ XH S (o + 6) c.2.1 ∧ XA S (o + 11) c.2.2
section CLA0
variable {l : Launch} {g : Geo} {S : Mem} {b : Bk} {K : Int32 → Mem → Prop}
theorem c_bitCount {v : Nat} (hv : v < 4096) (hk : K (nI (pc v)) S) : MWi l g shX m_J6_bitCount_0f7a4 [.int (nI v)] S K :=
  MWi.intro _ rfl (Nat.le_of_ble_eq_true rfl) rfl (fun x ok => s_J6_bitCount_0f7a4_0 ok _ S (by
    show K (bcf (nI v)) S
    rw [bcf_pc hv]; exact hk))
theorem jmax_n {a c : Nat} (ha : a < 2 ^ 31) (hc : c < 2 ^ 31) : jmax (nI a) (nI c) = nI (if a < c then c else a) := by
  unfold jmax
  by_cases h : a < c
  · rw [if_pos ((nI_ltI ha hc).mpr h), if_pos h]
  · rw [if_neg (fun q => h ((nI_ltI ha hc).mp q)), if_neg h]
theorem jmin_n {a c : Nat} (ha : a < 2 ^ 31) (hc : c < 2 ^ 31) : jmin (nI a) (nI c) = nI (if c < a then c else a) := by
  unfold jmin
  by_cases h : c < a
  · rw [if_pos ((nI_ltI hc ha).mpr h), if_pos h]
  · rw [if_neg (fun q => h ((nI_ltI hc ha).mp q)), if_neg h]
theorem c_fill {k n : Nat} {v : Int32} {K : Mem → Prop} (hs : shX[k]? = some (.inl (0, n))) (hn : n < 2 ^ 31) (hk : ∀ f, (∀ j, j < n → f j = v) → K (stf S k f)) : MWv l g shX m_J7_fill_53178 [.ref (g.ad k), .int v] S K := by
  refine MWv.intro _ rfl (Nat.le_of_ble_eq_true rfl) rfl (fun x ok => s_J7_fill_53178_0 ok k n hs _ S ?_)
  refine lpU (fun i => ∀ S2 : Mem, (∀ a, a ≠ k → S2 a = S a) → (∀ j, j < i → S2 k j = v) → PW l x g shX m_J7_fill_53178 (Qv x g shX K) 5 [(0, .ref (g.ad k)), (1, .int v), (2, .int (nI i)), (3, .int (nI n))] [] S2) n ?_ (fun i hi ih => ?_) 0 (Nat.zero_le _) S (fun _ _ => rfl) (fun j hj => by omega)
  · intro S2 g1 g2
    refine s_J7_fill_53178_5 ok k n hs _ _ _ S2 ⟨fun _ => ?_, fun c => absurd (nI_le (Nat.le_refl n) hn) c⟩
    have := hk (S2 k) g2
    have e : stf S k (S2 k) = S2 := by
      funext a
      by_cases ha : a = k
      · subst ha; rw [stf_same]
      · rw [stf_off ha, g1 a ha]
    rw [e] at this; exact this
  · intro S2 g1 g2
    refine s_J7_fill_53178_5 ok k n hs _ _ _ S2 ⟨fun c => absurd c (nI_ge hi hn), fun _ => ⟨inI hi hn, ?_⟩⟩
    rw [cl, nI_clamp (by omega), nI_add]
    refine ih _ (fun a ha => by rw [st2_off ha]; exact g1 a ha) (fun j hj => ?_)
    rw [st2_get]
    split
    · rfl
    · exact g2 j (by omega)
theorem c_X11_isSign {v : Int32} (h1 : ∀ j, j < 10 → v = nI j → K (nI 1) S) (h0 : (∀ j, j < 10 → ¬ v = nI j) → K (nI 0) S) : MWi l g shX m_X11_isSign [.int v] S K := by
  refine MWi.intro _ rfl (Nat.le_of_ble_eq_true rfl) rfl (fun x ok => s_X11_isSign_0 ok _ S ⟨fun y => h0 (fun j hj e => ?_), fun y => ?_⟩)
  · subst e; exact nI_pos (by omega) y
  · obtain ⟨j, hj, rfl⟩ := nI_of y
    rw [nI_leI (by decide) hj]
    exact ⟨fun z => h0 (fun i hi e => by rw [nI_eq hj (by omega)] at e; omega), fun z => h1 j (by omega) rfl⟩
theorem c_X11_isChild {v : Int32} (h1 : ∀ j, j < 4 → v = nI j → K (nI 1) S) (h0 : (∀ j, j < 4 → ¬ v = nI j) → K (nI 0) S) : MWi l g shX m_X11_isChild [.int v] S K := by
  refine MWi.intro _ rfl (Nat.le_of_ble_eq_true rfl) rfl (fun x ok => s_X11_isChild_0 ok _ S ⟨fun y => h0 (fun j hj e => ?_), fun y => ?_⟩)
  · subst e; exact nI_pos (by omega) y
  · obtain ⟨j, hj, rfl⟩ := nI_of y
    rw [nI_leI (by decide) hj]
    exact ⟨fun z => h0 (fun i hi e => by rw [nI_eq hj (by omega)] at e; omega), fun z => h1 j (by omega) rfl⟩
theorem c_X11_isSignSet {v : Int32} (h1 : ∀ j, j < 1024 → v = nI j → K (nI 1) S) (h0 : (∀ j, j < 1024 → ¬ v = nI j) → K (nI 0) S) : MWi l g shX m_X11_isSignSet [.int v] S K := by
  refine MWi.intro _ rfl (Nat.le_of_ble_eq_true rfl) rfl (fun x ok => s_X11_isSignSet_0 ok _ S ⟨fun y => h0 (fun j hj e => ?_), fun y => ?_⟩)
  · subst e; exact nI_pos (by omega) y
  · obtain ⟨j, hj, rfl⟩ := nI_of y
    rw [nI_leI (by decide) hj]
    exact ⟨fun z => h0 (fun i hi e => by rw [nI_eq hj (by omega)] at e; omega), fun z => h1 j (by omega) rfl⟩
theorem c_X11_isPart {v : Int32} (h1 : ∀ j, j < 2 → v = nI j → K (nI 1) S) (h0 : (∀ j, j < 2 → ¬ v = nI j) → K (nI 0) S) : MWi l g shX m_X11_isPart [.int v] S K := by
  refine MWi.intro _ rfl (Nat.le_of_ble_eq_true rfl) rfl (fun x ok => s_X11_isPart_0 ok _ S ⟨fun y => h1 0 (by decide) y, fun y => ⟨fun z => h0 (fun j hj e => ?_), fun z => h1 1 (by decide) z⟩⟩)
  have : j = 0 ∨ j = 1 := by omega
  rcases this with rfl | rfl
  · exact y e
  · exact z e
theorem c_X11_hasBit {a k : Nat} (ha : a < 2 ^ 31) (hkk : k < 32) (hk : K (nI (a.testBit k).toNat) S) : MWi l g shX m_X11_hasBit [.int (nI a), .int (nI k)] S K := by
  refine MWi.intro _ rfl (Nat.le_of_ble_eq_true rfl) rfl (fun x ok => s_X11_hasBit_0 ok _ _ S ?_)
  rw [bit_n ha hkk, bI0]
  refine ⟨fun y => ?_, fun y => ?_⟩
  · rw [y] at hk; exact hk
  · rw [Bool.not_eq_false] at y
    rw [y] at hk; exact hk
theorem c_X11_gcd {a c : Nat} (ha : a < 2 ^ 31) (hc : c < 2 ^ 31) (hk : K (nI (Nat.gcd a c)) S) : MWi l g shX m_X11_greatestDivisor [.int (nI a), .int (nI c)] S K := by
  refine MWi.intro _ rfl (Nat.le_of_ble_eq_true rfl) rfl (fun x ok => s_X11_greatestDivisor_0 ok _ _ S ?_)
  have one : ∀ a c st, a < 2 ^ 31 → c < 2 ^ 31 → st < 64 → (c = 0 → K (nI a) S) → (c ≠ 0 → PW l x g shX m_X11_greatestDivisor (Qi x g shX K) 7 [(2, .int (nI c)), (3, .int (nI (a % c))), (4, .int (nI (st + 1)))] [] S) → PW l x g shX m_X11_greatestDivisor (Qi x g shX K) 7 [(2, .int (nI a)), (3, .int (nI c)), (4, .int (nI st))] [] S := by
    intro a c st ha hc hst h0 h1
    refine s_X11_greatestDivisor_7 ok _ _ _ S ⟨fun y => absurd y (nI_ge hst (by decide)), fun _ => ?_⟩
    rw [nI_eq0 hc]
    refine ⟨fun y => h0 y, fun y => ⟨y, ?_⟩⟩
    rw [jrem_n ha (by omega) hc, nI_add]
    exact h1 y
  have L : ∀ k, k ≤ 31 → ∀ a c st, a < 2 ^ 31 → c < 2 ^ k → st + 2 * k ≤ 63 → K (nI (Nat.gcd a c)) S → PW l x g shX m_X11_greatestDivisor (Qi x g shX K) 7 [(2, .int (nI a)), (3, .int (nI c)), (4, .int (nI st))] [] S := by
    intro k
    induction k with
    | zero =>
      intro _ a c st ha hc hst hk
      have hc : c = 0 := by simpa using hc
      subst hc
      rw [Nat.gcd_zero_right] at hk
      exact one a 0 st ha (by decide) (by omega) (fun _ => hk) (fun h => absurd rfl h)
    | succ k ih =>
      intro hk31 a c st ha hc hst hk
      have hpk : 2 ^ (k + 1) ≤ 2 ^ 31 := Nat.pow_le_pow_right (by decide) hk31
      have hp2 : 2 ^ (k + 1) = 2 * 2 ^ k := by rw [Nat.pow_succ]; omega
      refine one a c st ha (by omega) (by omega) (fun h => ?_) (fun h => ?_)
      · subst h; rw [Nat.gcd_zero_right] at hk; exact hk
      · have hr := Nat.mod_lt a (by omega : 0 < c)
        have eg : Nat.gcd a c = Nat.gcd c (a % c) := by rw [Nat.gcd_comm a c, Nat.gcd_rec c a, Nat.gcd_comm]
        rw [eg] at hk
        rcases Nat.lt_or_ge (a % c) (2 ^ k) with q | q
        · exact ih (by omega) c (a % c) (st + 1) (by omega) q (by omega) hk
        · refine one c (a % c) (st + 1) (by omega) (by omega) (by omega) (fun h => ?_) (fun h => ?_)
          · have := Nat.two_pow_pos k; omega
          · have e2 : c % (a % c) < 2 ^ k := by
              rw [Nat.mod_eq_sub_mod (by omega)]
              have h3 : (c - a % c) % (a % c) ≤ c - a % c := Nat.mod_le _ _
              omega
            have eg2 : Nat.gcd c (a % c) = Nat.gcd (a % c) (c % (a % c)) := by rw [Nat.gcd_comm c (a % c), Nat.gcd_rec (a % c) c, Nat.gcd_comm]
            rw [eg2] at hk
            exact ih (by omega) (a % c) (c % (a % c)) (st + 1 + 1) (by omega) e2 (by omega) hk
  exact L 31 (by decide) a c 0 ha hc (by decide) hk
theorem c_X11_fraction {up lo p : Nat} {K : Int64 → Mem → Prop} (hu : up < 2 ^ 31) (hl : lo < 2 ^ 31) (hp : p < 2) (hk : K (lN (frN up lo p)) S) : MWl l g shX m_X11_fractionPart [.int (nI up), .int (nI lo), .int (nI p)] S K := by
  have hp2 : p = 0 ∨ p = 1 := by omega
  refine MWl.intro _ rfl (Nat.le_of_ble_eq_true rfl) rfl (fun x ok => s_X11_fractionPart_0 ok _ _ _ S ?_)
  rw [nI_le0 hu, nI_0lt hl, nI_eq0 (by omega)]
  unfold frN at hk
  refine ⟨fun y => ?_, fun y => ⟨fun z => c_X11_gcd hu hl ?_, fun z => ?_⟩⟩
  · subst y
    rcases Nat.eq_zero_or_pos lo with q | q
    · rw [if_pos q] at hk
      rcases hp2 with rfl | rfl
      · exact ⟨fun c => absurd rfl c, fun _ => hk⟩
      · exact ⟨fun _ => hk, fun c => absurd c (by decide)⟩
    · rw [if_neg (by omega), Nat.gcd_zero_left, Nat.zero_div, Nat.div_self q] at hk
      rcases hp2 with rfl | rfl
      · exact ⟨fun c => absurd rfl c, fun _ => hk⟩
      · exact ⟨fun _ => hk, fun c => absurd c (by decide)⟩
  · rw [if_neg (by omega)] at hk
    have hg0 : 0 < Nat.gcd up lo := Nat.gcd_pos_of_pos_right _ z
    have hg1 : Nat.gcd up lo ≤ lo := Nat.gcd_le_right _ z
    rw [nI_leI (by omega) (by decide), nI_eq0 (by omega)]
    have d1 := Nat.div_le_self up (Nat.gcd up lo)
    have d2 := Nat.div_le_self lo (Nat.gcd up lo)
    rcases hp2 with rfl | rfl
    · rw [if_pos rfl] at hk
      refine ⟨fun c => absurd rfl c, fun _ => ⟨fun q => ?_, fun q => ⟨by omega, ?_⟩⟩⟩
      · rw [show Nat.gcd up lo = 1 by omega, Nat.div_one] at hk
        rw [nI_l hu]; exact hk
      · rw [pk_div hu (by omega) (by omega), nI_l (by omega)]; exact hk
    · rw [if_neg (by decide)] at hk
      refine ⟨fun _ => ⟨fun q => ?_, fun q => ⟨by omega, ?_⟩⟩, fun c => absurd c (by decide)⟩
      · rw [show Nat.gcd up lo = 1 by omega, Nat.div_one] at hk
        rw [nI_l hl]; exact hk
      · rw [pk_div hl (by omega) (by omega), nI_l (by omega)]; exact hk
  · rw [if_pos (by omega)] at hk
    rcases hp2 with rfl | rfl
    · exact ⟨fun c => absurd rfl c, fun _ => hk⟩
    · exact ⟨fun _ => hk, fun c => absurd c (by decide)⟩
theorem c_X1_holds {v : Int32} (hb : BOk b) (hX : XB S 4 b) (h1 : ∀ w, w < b.n → v = nI w → K (nI 1) S) (h0 : (∀ w, w < b.n → ¬ v = nI w) → K (nI 0) S) : MWi l g shX m_X1_holds [.ref (g.ad 4), .int v] S K := by
  have hn := hb.1
  refine MWi.intro _ rfl (Nat.le_of_ble_eq_true rfl) rfl (fun x ok => s_X1_holds_0 ok _ S ⟨fun y => h0 (fun j hj e => ?_), fun y => ?_⟩)
  · subst e; exact nI_pos (by omega) y
  · obtain ⟨j, hj, rfl⟩ := nI_of y
    rw [hX.1, nI_leI (by omega) hj]
    exact ⟨fun z => h0 (fun i hi e => by rw [nI_eq hj (by omega)] at e; omega), fun z => h1 j (by omega) rfl⟩
theorem c_X1_allWords (hb : BOk b) (hX : XB S 4 b) (hk : K (nI (2 ^ b.n - 1)) S) : MWi l g shX m_X1_allWords [.ref (g.ad 4)] S K := by
  have hn := hb.1
  refine MWi.intro _ rfl (Nat.le_of_ble_eq_true rfl) rfl (fun x ok => s_X1_allWords_0 ok S ?_)
  rw [hX.1, jshl_1 (by omega), pk_sub (Nat.two_pow_pos _)]
  exact hk
theorem c_X1_isWordSet {v : Int32} (hb : BOk b) (hX : XB S 4 b) (h1 : ∀ w, w < 2 ^ b.n → v = nI w → K (nI 1) S) (h0 : (∀ w, w < 2 ^ b.n → ¬ v = nI w) → K (nI 0) S) : MWi l g shX m_X1_isWordSet [.ref (g.ad 4), .int v] S K := by
  have hpw := pw12 hb
  have hpp := Nat.two_pow_pos b.n
  refine MWi.intro _ rfl (Nat.le_of_ble_eq_true rfl) rfl (fun x ok => s_X1_isWordSet_0 ok _ S ⟨fun y => h0 (fun j hj e => ?_), fun y => c_X1_allWords hb hX ?_⟩)
  · subst e; exact nI_pos (by omega) y
  · obtain ⟨j, hj, rfl⟩ := nI_of y
    rw [nI_ltI (by omega) hj]
    exact ⟨fun z => h0 (fun i hi e => by rw [nI_eq hj (by omega)] at e; omega), fun z => h1 j (by omega) rfl⟩
theorem c_X1_signAt {w i : Nat} (hb : BOk b) (hX : XB S 4 b) (hw : w < b.n) (hi : i < b.len w) (hk : K (nI (b.sg w i)) S) : MWi l g shX m_X1_signAt [.ref (g.ad 4), .int (nI w), .int (nI i)] S K := by
  have hn := hb.1
  obtain ⟨q1, q2, q3, q4, q5⟩ := hb.2 w hw
  have e := ((hX.2 w hw).2.2.2 i hi).1
  refine MWi.intro _ rfl (Nat.le_of_ble_eq_true rfl) rfl (fun x ok => s_X1_signAt_0 ok _ _ S ?_)
  simp (disch := omega) only [pk_mul, nI_add, cl, nI_clamp]
  rw [show w * 5 + i = 5 * w + i by omega, e]
  exact ⟨inI (by omega) (by decide), hk⟩
theorem c_X1_soundAt {w i : Nat} (hb : BOk b) (hX : XB S 4 b) (hw : w < b.n) (hi : i < b.len w) (hk : K (nI (b.sd w i)) S) : MWi l g shX m_X1_soundAt [.ref (g.ad 4), .int (nI w), .int (nI i)] S K := by
  have hn := hb.1
  obtain ⟨q1, q2, q3, q4, q5⟩ := hb.2 w hw
  have e := ((hX.2 w hw).2.2.2 i hi).2
  refine MWi.intro _ rfl (Nat.le_of_ble_eq_true rfl) rfl (fun x ok => s_X1_soundAt_0 ok _ _ S ?_)
  simp (disch := omega) only [pk_mul, nI_add, cl, nI_clamp]
  rw [show w * 5 + i = 5 * w + i by omega, e]
  exact ⟨inI (by omega) (by decide), hk⟩
theorem c_X1_signOrNone {w i : Nat} (hb : BOk b) (hX : XB S 4 b) (hw : w < b.n) (hi : i < 2 ^ 31) (hk : K (if i < b.len w then nI (b.sg w i) else -6) S) : MWi l g shX m_X1_signOrNone [.ref (g.ad 4), .int (nI w), .int (nI i)] S K := by
  have hn := hb.1
  obtain ⟨q1, q2, q3, q4, q5⟩ := hb.2 w hw
  refine MWi.intro _ rfl (Nat.le_of_ble_eq_true rfl) rfl (fun x ok => s_X1_signOrNone_0 ok _ _ S ⟨inI (by omega) (by decide), ?_⟩)
  have e : S 5 w = nI (b.len w) := (hX.2 w hw).1
  simp (disch := omega) only [cl, nI_clamp, e, nI_leI]
  refine ⟨fun y => ?_, fun y => c_X1_signAt hb hX hw (by omega) ?_⟩
  · rw [if_neg (by omega)] at hk; exact hk
  · rw [if_pos (by omega)] at hk; exact hk
theorem c_X1_soundOrNone {w i : Nat} (hb : BOk b) (hX : XB S 4 b) (hw : w < b.n) (hi : i < 2 ^ 31) (hk : K (if i < b.len w then nI (b.sd w i) else -6) S) : MWi l g shX m_X1_soundOrNone [.ref (g.ad 4), .int (nI w), .int (nI i)] S K := by
  have hn := hb.1
  obtain ⟨q1, q2, q3, q4, q5⟩ := hb.2 w hw
  refine MWi.intro _ rfl (Nat.le_of_ble_eq_true rfl) rfl (fun x ok => s_X1_soundOrNone_0 ok _ _ S ⟨inI (by omega) (by decide), ?_⟩)
  have e : S 5 w = nI (b.len w) := (hX.2 w hw).1
  simp (disch := omega) only [cl, nI_clamp, e, nI_leI]
  refine ⟨fun y => ?_, fun y => c_X1_soundAt hb hX hw (by omega) ?_⟩
  · rw [if_neg (by omega)] at hk; exact hk
  · rw [if_pos (by omega)] at hk; exact hk
theorem c_X1_firstSign {w : Nat} (hb : BOk b) (hX : XB S 4 b) (hw : w < b.n) (hk : K (nI (b.sg w 0)) S) : MWi l g shX m_X1_firstSign [.ref (g.ad 4), .int (nI w)] S K :=
  MWi.intro _ rfl (Nat.le_of_ble_eq_true rfl) rfl (fun x ok => s_X1_firstSign_0 ok _ S (c_X1_signAt hb hX hw (hb.2 w hw).1 hk))
theorem c_X1_lastSign {w : Nat} (hb : BOk b) (hX : XB S 4 b) (hw : w < b.n) (hk : K (nI (lastS b w)) S) : MWi l g shX m_X1_lastSign [.ref (g.ad 4), .int (nI w)] S K := by
  have hn := hb.1
  obtain ⟨q1, q2, q3, q4, q5⟩ := hb.2 w hw
  have e : S 5 w = nI (b.len w) := (hX.2 w hw).1
  refine MWi.intro _ rfl (Nat.le_of_ble_eq_true rfl) rfl (fun x ok => s_X1_lastSign_0 ok _ S ⟨inI (by omega) (by decide), ?_⟩)
  simp (disch := omega) only [cl, nI_clamp, e, nI_le0, pk_sub]
  exact ⟨fun y => by omega, fun y => c_X1_signAt hb hX hw (by omega) hk⟩
theorem c_X1_timesOf {W : Nat} (hb : BOk b) (hX : XB S 4 b) (hW : W < 4096) (hk : K (nI (tmS b W)) S) : MWi l g shX m_X1_timesOf [.ref (g.ad 4), .int (nI W)] S K := by
  have hn := hb.1
  refine MWi.intro _ rfl (Nat.le_of_ble_eq_true rfl) rfl (fun x ok => s_X1_timesOf_0 ok _ S ?_)
  refine lpU (fun w => PW l x g shX m_X1_timesOf (Qi x g shX K) 4 [(0, .ref (g.ad 4)), (1, .int (nI W)), (2, .int (nI (fb_sm (fun w => if W.testBit w = true then b.of w else 0) w))), (3, .int (nI w))] [] S) b.n ?_ (fun w hw ih => ?_) 0 (Nat.zero_le _)
  · refine s_X1_timesOf_4 ok _ _ _ S ⟨fun _ => hk, fun c => absurd ?_ c⟩
    simp (disch := omega) only [hX.1, nI_leI, Nat.le_refl]
  · have e2 : S 6 w = nI (b.of w) := (hX.2 w hw).2.1
    rw [fb_sm_succ] at ih
    refine s_X1_timesOf_4 ok _ _ _ S ⟨fun c => absurd c ?_, fun _ => c_X11_hasBit (by omega) (by omega) ?_⟩
    · simp (disch := omega) only [hX.1, nI_leI]; omega
    simp (disch := omega) only [bI0, cl, nI_clamp, e2, nI_add]
    refine ⟨fun y => ?_, fun y => ⟨inI (by omega) (by decide), ?_⟩⟩
    · rw [y] at ih; exact ih
    · rw [Bool.not_eq_false] at y
      rw [y, if_pos rfl] at ih; exact ih
theorem c_X5_letterCount {pn : Nat} (h : S 1 1 = nI pn) (hp : pn ≤ 14) (hk : K (nI (pn / 2)) S) : MWi l g shX m_X5_letterCount [.ref (g.ad 1)] S K := by
  refine MWi.intro _ rfl (Nat.le_of_ble_eq_true rfl) rfl (fun x ok => s_X5_letterCount_0 ok S ⟨by decide, ?_⟩)
  rw [h, pk_div (by omega) (by decide) (by decide)]; exact hk
theorem c_X5_letterAt {pd : Nat → Nat} {i : Nat} (hi : i < 14) (h : S 2 i = nI (pd i)) (hc : 97 ≤ pd i) (hk : K (nI (pd i - 97)) S) : MWi l g shX m_X5_letterAt [.ref (g.ad 1), .int (nI i)] S K := by
  refine MWi.intro _ rfl (Nat.le_of_ble_eq_true rfl) rfl (fun x ok => s_X5_letterAt_0 ok _ S ⟨inI hi (by decide), ?_⟩)
  rw [cl, nI_clamp (by omega), h, pk_sub hc]; exact hk
theorem c_X5_digitAt {pd : Nat → Nat} {pn i li : Nat} (h1 : S 1 1 = nI pn) (hp : pn ≤ 14) (hl : pn / 2 = li) (hi : li + 1 + i < 14) (h : S 2 (li + 1 + i) = nI (pd (li + 1 + i))) (hc : 48 ≤ pd (li + 1 + i)) (hk : K (nI (pd (li + 1 + i) - 48)) S) : MWi l g shX m_X5_digitAt [.ref (g.ad 1), .int (nI i)] S K := by
  refine MWi.intro _ rfl (Nat.le_of_ble_eq_true rfl) rfl (fun x ok => s_X5_digitAt_0 ok _ S (c_X5_letterCount h1 hp ?_))
  rw [hl]
  simp (disch := omega) only [nI_add, cl, nI_clamp, h, pk_sub]
  exact ⟨inI hi (by decide), hk⟩
theorem c_X2_mixedUp {h : Ch} {c : Nat} (hc : c < 4) (hH : XH S 10 h) (hm : mx2 (h.m c)) (hk : K (oI (h.m c)) S) : MWi l g shX m_X2_mixedUp [.ref (g.ad 10), .int (nI c)] S K := by
  obtain ⟨d1, d2, d3, d4⟩ := hH c hc
  have d3 : S 13 c = mlI (h.m c) := d3
  have d4 : S 14 c = mmI (h.m c) := d4
  refine MWi.intro _ rfl (Nat.le_of_ble_eq_true rfl) rfl (fun x ok => s_X2_mixedUp_0 ok _ S ⟨inI hc (by decide), ?_⟩)
  simp (disch := omega) only [cl, nI_clamp, d3, d4]
  cases e : h.m c with
  | none =>
    rw [e] at hk
    exact ⟨fun q => absurd q (by decide), fun _ => hk⟩
  | some k =>
    rw [e] at hk
    have := hm.ok k e
    refine ⟨fun _ => ⟨inI hc (by decide), inI hc (by decide), ?_⟩, fun q => absurd (nI_pos' (by omega)) q⟩
    show K (nI 10 * nI (k / 10) + nI (k % 10)) S
    rw [pk_mul, nI_add, Nat.div_add_mod]
    exact hk
theorem m1_eq {k : Nat} (h : k < 2 ^ 31) : ¬ nI k = (-1 : Int32) := m1_ne h
theorem c_X2_takenFor {h : Ch} {c t : Nat} (hc : c < 4) (ht : t < 10) (hH : XH S 10 h) (hm : mx2 (h.m c)) (hk : K (nI (taken (h.m c) t)) S) : MWi l g shX m_X2_takenFor [.ref (g.ad 10), .int (nI c), .int (nI t)] S K := by
  obtain ⟨d1, d2, d3, d4⟩ := hH c hc
  have d3 : S 13 c = mlI (h.m c) := d3
  have d4 : S 14 c = mmI (h.m c) := d4
  refine MWi.intro _ rfl (Nat.le_of_ble_eq_true rfl) rfl (fun x ok => s_X2_takenFor_0 ok _ _ S ⟨inI hc (by decide), ?_⟩)
  simp (disch := omega) only [cl, nI_clamp, d3, d4]
  cases e : h.m c with
  | none =>
    rw [e] at hk
    exact ⟨fun _ => ⟨inI hc (by decide), fun _ => hk, fun q => absurd q (m1_eq (by omega))⟩, fun q => absurd q (m1_eq (by omega))⟩
  | some k =>
    rw [e] at hk
    have := hm.ok k e
    have hk : K (nI (if k / 10 = t then k % 10 else if k % 10 = t then k / 10 else t)) S := hk
    show (¬ nI t = nI (k / 10) → vp_in (nI c) 4 ∧ ((¬ nI t = nI (k % 10) → K (nI t) S) ∧ (nI t = nI (k % 10) → vp_in (nI c) 4 ∧ K (nI (k / 10)) S))) ∧ (nI t = nI (k / 10) → vp_in (nI c) 4 ∧ K (nI (k % 10)) S)
    rw [nI_eq (by omega) (by omega), nI_eq (by omega) (by omega)]
    refine ⟨fun y => ⟨inI hc (by decide), fun z => ?_, fun z => ⟨inI hc (by decide), ?_⟩⟩, fun y => ⟨inI hc (by decide), ?_⟩⟩
    · rw [if_neg (by omega), if_neg (by omega)] at hk; exact hk
    · rw [if_neg (by omega), if_pos (by omega)] at hk; exact hk
    · rw [if_pos (by omega)] at hk; exact hk
end CLA0
