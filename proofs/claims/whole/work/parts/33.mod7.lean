/-! PART 33: the model: sharing, reading itself -/
abbrev Ch : Type := (Nat → Nat) × (Nat → Nat) × (Nat → Option Nat)
abbrev Ch.k (h : Ch) (c : Nat) : Nat := h.1 c
abbrev Ch.ws (h : Ch) (c : Nat) : Nat := h.2.1 c
abbrev Ch.m (h : Ch) (c : Nat) : Option Nat := h.2.2 c
def mx2 (m : Option Nat) : Prop := ∀ k, m = some k → ∃ a b, a < b ∧ b < 10 ∧ k = 10 * a + b
theorem mx2.ok {m : Option Nat} (h : mx2 m) : mxOk m := fun k e => by
  obtain ⟨a, b, h1, h2, h3⟩ := h k e
  omega
def ChOk (b : Bk) (h : Ch) : Prop := ∀ c, c < 4 → h.k c < 1024 ∧ h.ws c < 2 ^ b.n ∧ mx2 (h.m c)
def MH (S : Mem) (h : Ch) : Prop := ∀ c, c < 4 → S 9 c = nI (h.k c) ∧ S 10 c = nI (h.ws c) ∧ S 11 c = oI (h.m c)
def lesC (b : Bk) (h : Ch) (c n : Nat) : Nat := les b (h.m c) (h.k c) (h.ws c) n
theorem pw12 {b : Bk} (hb : BOk b) : 2 ^ b.n ≤ 4096 := Nat.pow_le_pow_right (n := 2) (by decide) hb.1
theorem am_cong {p q : Nat → Bool} {f : Nat → Nat} : ∀ {n : Nat}, (∀ i, i < n → p i = q i) → am p f n = am q f n
  | 0, _ => rfl
  | n + 1, h => by
    rw [am, am, am_cong (fun i hi => h i (by omega)), h n (by omega)]
section MOD7
variable {l : Launch} {g : Geo} {S : Mem} {b : Bk} {K : Int32 → Mem → Prop} {ch : Ch}
def spG (n : Nat) (o : Option Nat) (S : Mem) : Prop := match o with
  | none => True
  | some u => S 20 0 = nI (u / 13 / 13) ∧ S 20 1 = nI (u / 13 % 13) ∧ S 20 2 = nI (u % 13) ∧ S 20 3 = nI (n - u / 13 / 13 - u / 13 % 13 - u % 13)
def spV (f : Nat → Nat → Nat) (n : Nat) (o : Option Nat) : Int32 := match o with
  | none => -6
  | some u => nI (spF f n u)
theorem spF_le {f : Nat → Nat → Nat} (hf : ∀ c n, f c n ≤ 11988) (n t : Nat) : spF f n t ≤ 47952 := by
  unfold spF
  have h1 := hf 0 (t / 13 / 13)
  have h2 := hf 1 (t / 13 % 13)
  have h3 := hf 2 (t % 13)
  have h4 := hf 3 (n - t / 13 / 13 - t / 13 % 13 - t % 13)
  omega
theorem neg6_lt {k : Nat} (h : k < 2 ^ 31) : ¬ nI k ≤ (-6 : Int32) := by
  rw [fa_le, nI_toInt h]
  have : (-6 : Int32).toInt = -6 := by decide
  omega
set_option maxHeartbeats 1000000 in
theorem c_X12_findShared {n : Nat} (hb : BOk b) (hM : MB S b) (hch : ChOk b ch) (hH : MH S ch) (hn : n ≤ 12) {u : Nat} (hu : spO (lesC b ch) n 2197 = some u)
    (hk : ∀ S2, (∀ a, a ≠ 0 → a ≠ 6 → a ≠ 7 → a ≠ 8 → a ≠ 19 → a ≠ 20 → S2 a = S a) → (∀ j, j ≠ 14 → j ≠ 15 → S2 0 j = S 0 j) → spG n (some u) S2 → K (nI (spF (lesC b ch) n u)) S2) : MWi l g shM m_X12_findShared [.ref (g.ad 0), .int (nI n)] S K := by
  have hpw := pw12 hb
  have hf : ∀ c n, lesC b ch c n ≤ 11988 := fun c n => les_le hb _ _ _ _
  refine MWi.intro _ rfl (Nat.le_of_ble_eq_true rfl) rfl (fun x ok => s_X12_findShared_0 ok _ S (c_X12_findCommon hb hM (fun S1 o1 hC => ?_)))
  have hM1 : MB S1 b := hM.of (by rw [o1 0 (by omega)]) (fun a _ _ => o1 a (by omega))
  -- the splits
  obtain ⟨O, hO⟩ : ∃ O, O = spO (lesC b ch) n := ⟨_, rfl⟩
  have O0 : O 0 = none := by rw [hO]; rfl
  have Oskip : ∀ lo hi, lo ≤ hi → (∀ i, lo ≤ i → i < hi → spP n i = false) → O hi = O lo := by
    intro lo hi h1 h2
    rw [hO]
    have := am_skip (p := spP n) (f := spF (lesC b ch) n) (lo := lo) (d := hi - lo) (fun i h3 h4 => h2 i h3 (by omega))
    rw [show lo + (hi - lo) = hi by omega] at this
    exact this
  have Oless : ∀ t j, O t = some j → spF (lesC b ch) n t ≤ spF (lesC b ch) n j → O (t + 1) = some j := by
    intro t j h1 h2
    rw [hO] at h1 ⊢
    exact am_less h1 h2
  have Oone : ∀ t, spP n t = true → O t = none → O (t + 1) = some t := by
    intro t h1 h2
    rw [hO] at h2 ⊢
    exact am_one h1 h2
  have Omore : ∀ t j, spP n t = true → O t = some j → spF (lesC b ch) n j < spF (lesC b ch) n t → O (t + 1) = some t := by
    intro t j h1 h2 h3
    rw [hO] at h2 ⊢
    exact am_more h1 h2 h3
  rw [← hO] at hu
  have L2 : ∀ S2 : Mem, (∀ a, a ≠ 0 → a ≠ 19 → S2 a = S1 a) → (∀ j, j ≠ 14 → j ≠ 15 → S2 0 j = S1 0 j) → (∀ c n, c < 4 → n ≤ 12 → S2 19 (13 * c + n) = nI (lesC b ch c n)) → PW l x g shM m_X12_findShared (Qi x g shM K) 27 [(0, .ref (g.ad 0)), (1, .int (nI n)), (2, .int (-6)), (3, .int (nI 0))] [] S2 := by
    intro S2 g1 g2 g3
    have fin : ∀ S3 : Mem, (∀ a, a ≠ 20 → S3 a = S2 a) → spG n (O 2197) S3 → K (spV (lesC b ch) n (O 2197)) S3 := by
      intro S3 k1 k2
      rw [hu] at k2 ⊢
      exact hk S3 (fun a h0 h6 h7 h8 h19 h20 => by rw [k1 a h20, g1 a h0 h19, o1 a (by omega)]) (fun j h1 h2 => by rw [k1 0 (by decide), g2 j h1 h2, o1 0 (by omega)]) k2
    have e6 : (-6 : Int32) = spV (lesC b ch) n (O (169 * 0)) := by rw [show 169 * 0 = 0 from rfl, O0]; rfl
    rw [e6]
    refine lpU (fun a => ∀ S3 : Mem, (∀ a, a ≠ 20 → S3 a = S2 a) → spG n (O (169 * a)) S3 → PW l x g shM m_X12_findShared (Qi x g shM K) 27 [(0, .ref (g.ad 0)), (1, .int (nI n)), (2, .int (spV (lesC b ch) n (O (169 * a)))), (3, .int (nI a))] [] S3) (n + 1) ?_ (fun a ha ih => ?_) 0 (Nat.zero_le _) S2 (fun _ _ => rfl) (by rw [show 169 * 0 = 0 from rfl, O0]; trivial)
    · intro S3 k1 k2
      have e : O 2197 = O (169 * (n + 1)) := Oskip _ _ (by omega) (fun i h1 h2 => decide_eq_false (by omega))
      rw [← e] at k2 ⊢
      exact s_X12_findShared_27 ok _ _ _ S3 ⟨fun _ => fin S3 k1 k2, fun c => absurd (nI_lt (by omega) (by omega)) c⟩
    · intro S3 k1 k2
      refine s_X12_findShared_27 ok _ _ _ S3 ⟨fun c => absurd c (nI_nlt (by omega) (by omega)), fun _ => ?_⟩
      refine lpU (fun d => ∀ S3 : Mem, (∀ a, a ≠ 20 → S3 a = S2 a) → spG n (O (169 * a + 13 * d)) S3 → PW l x g shM m_X12_findShared (Qi x g shM K) 35 [(0, .ref (g.ad 0)), (1, .int (nI n)), (2, .int (spV (lesC b ch) n (O (169 * a + 13 * d)))), (3, .int (nI a)), (4, .int (nI d))] [] S3) (n - a + 1) ?_ (fun d hd ih2 => ?_) 0 (Nat.zero_le _) S3 k1 k2
      · intro S3 k1 k2
        have e : O (169 * (a + 1)) = O (169 * a + 13 * (n - a + 1)) := Oskip _ _ (by omega) (fun i h1 h2 => decide_eq_false (by omega))
        rw [← e] at k2 ⊢
        refine s_X12_findShared_35 ok _ _ _ _ S3 ⟨fun _ => ?_, fun c => absurd ?_ c⟩
        · rw [nI_add]; exact ih S3 k1 k2
        · rw [nI_add]; exact nI_lt (by omega) (by omega)
      · intro S3 k1 k2
        refine s_X12_findShared_35 ok _ _ _ _ S3 ⟨fun c => absurd c ?_, fun _ => ?_⟩
        · rw [nI_add]; exact nI_nlt (by omega) (by omega)
        refine lpU (fun e => ∀ S3 : Mem, (∀ a, a ≠ 20 → S3 a = S2 a) → spG n (O (169 * a + 13 * d + e)) S3 → PW l x g shM m_X12_findShared (Qi x g shM K) 46 [(0, .ref (g.ad 0)), (1, .int (nI n)), (2, .int (spV (lesC b ch) n (O (169 * a + 13 * d + e)))), (3, .int (nI a)), (4, .int (nI d)), (5, .int (nI e))] [] S3) (n - a - d + 1) ?_ (fun e he ih3 => ?_) 0 (Nat.zero_le _) S3 k1 k2
        · intro S3 k1 k2
          have e : O (169 * a + 13 * (d + 1)) = O (169 * a + 13 * d + (n - a - d + 1)) := Oskip _ _ (by omega) (fun i h1 h2 => decide_eq_false (by omega))
          rw [← e] at k2 ⊢
          refine s_X12_findShared_46 ok _ _ _ _ _ S3 ⟨fun _ => ?_, fun c => absurd ?_ c⟩
          · rw [nI_add]; exact ih2 S3 k1 k2
          · rw [nI_add, nI_add]; exact nI_lt (by omega) (by omega)
        · intro S3 k1 k2
          refine s_X12_findShared_46 ok _ _ _ _ _ S3 ⟨fun c => absurd c ?_, fun _ => ?_⟩
          · rw [nI_add, nI_add]; exact nI_nlt (by omega) (by omega)
          have f0 : S3 19 a = nI (lesC b ch 0 a) := by have := g3 0 a (by omega) (by omega); rw [show 13 * 0 + a = a by omega] at this; rw [k1 19 (by decide)]; exact this
          have f1 : S3 19 (13 + d) = nI (lesC b ch 1 d) := by rw [k1 19 (by decide)]; exact g3 1 d (by omega) (by omega)
          have f2 : S3 19 (26 + e) = nI (lesC b ch 2 e) := by rw [k1 19 (by decide)]; exact g3 2 e (by omega) (by omega)
          have f3 : S3 19 (39 + (n - a - d - e)) = nI (lesC b ch 3 (n - a - d - e)) := by rw [k1 19 (by decide)]; exact g3 3 (n - a - d - e) (by omega) (by omega)
          have eF : spF (lesC b ch) n (169 * a + 13 * d + e) = lesC b ch 0 a + lesC b ch 1 d + lesC b ch 2 e + lesC b ch 3 (n - a - d - e) := by
            unfold spF
            rw [show (169 * a + 13 * d + e) / 13 / 13 = a by omega, show (169 * a + 13 * d + e) / 13 % 13 = d by omega, show (169 * a + 13 * d + e) % 13 = e by omega]
          have hsp := spF_le hf n (169 * a + 13 * d + e)
          have hp : spP n (169 * a + 13 * d + e) = true := decide_eq_true (by omega)
          simp (disch := omega) only [pk_sub, nI_add, cl, nI_clamp, f0, f1, f2, f3]
          rw [← eF]
          refine ⟨inI (by omega) (by decide), inI (by omega) (by decide), inI (by omega) (by decide), inI (by omega) (by decide), fun z => ?_, fun z => ⟨inI (by omega) (by decide), inI (by omega) (by decide), inI (by omega) (by decide), inI (by omega) (by decide), ?_⟩⟩
          · cases hm : O (169 * a + 13 * d + e) with
            | none => rw [hm] at z; exact absurd z (neg6_lt (by omega))
            | some j =>
              rw [hm] at z k2
              have hj := spF_le hf n j
              have z : nI (spF (lesC b ch) n (169 * a + 13 * d + e)) ≤ nI (spF (lesC b ch) n j) := z
              rw [nI_leI (by omega) (by omega)] at z
              have e1 : O (169 * a + 13 * d + (e + 1)) = some j := Oless _ j hm z
              have h := ih3 S3 k1 (by rw [e1]; exact k2)
              rw [e1] at h; exact h
          · have e1 : O (169 * a + 13 * d + (e + 1)) = some (169 * a + 13 * d + e) := by
              cases hm : O (169 * a + 13 * d + e) with
              | none => exact Oone _ hp hm
              | some j =>
                rw [hm] at z
                have hj := spF_le hf n j
                have z : ¬ nI (spF (lesC b ch) n (169 * a + 13 * d + e)) ≤ nI (spF (lesC b ch) n j) := z
                rw [nI_leI (by omega) (by omega)] at z
                exact Omore (169 * a + 13 * d + e) j hp hm (by omega)
            have h := ih3 (st2 (st2 (st2 (st2 S3 20 0 (nI a)) 20 1 (nI d)) 20 2 (nI e)) 20 3 (nI (n - a - d - e))) (fun a h => by rw [st2_off h, st2_off h, st2_off h, st2_off h]; exact k1 a h) (by
              rw [e1]
              show _ ∧ _
              rw [show (169 * a + 13 * d + e) / 13 / 13 = a by omega, show (169 * a + 13 * d + e) / 13 % 13 = d by omega, show (169 * a + 13 * d + e) % 13 = e by omega]
              simp [st2_get])
            rw [e1] at h; exact h
  -- each child's lessons
  refine lpU (fun c => ∀ S2 : Mem, (∀ a, a ≠ 0 → a ≠ 19 → S2 a = S1 a) → (∀ j, j ≠ 14 → j ≠ 15 → S2 0 j = S1 0 j) → (∀ d n, d < c → n ≤ 12 → S2 19 (13 * d + n) = nI (lesC b ch d n)) → PW l x g shM m_X12_findShared (Qi x g shM K) 6 [(0, .ref (g.ad 0)), (1, .int (nI n)), (2, .int (nI c))] [] S2) 4 ?_ (fun c hc ih => ?_) 0 (Nat.zero_le _) S1 (fun _ _ _ => rfl) (fun _ _ _ => rfl) (fun d n hd => by omega)
  · intro S2 g1 g2 g3
    exact s_X12_findShared_6 ok _ _ S2 ⟨fun _ => L2 S2 g1 g2 g3, fun c => absurd (nI_le (Nat.le_refl 4) (by decide)) c⟩
  · intro S2 g1 g2 g3
    have hM2 : MB S2 b := hM1.of (g2 4 (by decide) (by decide)) (fun a _ _ => g1 a (by omega) (by omega))
    have hC2 : MC S2 b := hC.of (fun a _ _ => g1 a (by omega) (by omega))
    obtain ⟨c1, c2, c3⟩ := hch c hc
    obtain ⟨d1, d2, d3⟩ := hH c hc
    have e9 : S2 9 c = nI (ch.k c) := by rw [g1 9 (by decide) (by decide), o1 9 (by omega)]; exact d1
    have e10 : S2 10 c = nI (ch.ws c) := by rw [g1 10 (by decide) (by decide), o1 10 (by omega)]; exact d2
    have e11 : S2 11 c = oI (ch.m c) := by rw [g1 11 (by decide) (by decide), o1 11 (by omega)]; exact d3
    refine s_X12_findShared_6 ok _ _ S2 ⟨fun c => absurd c (nI_ge hc (by decide)), fun _ => c_X12_findLessons hb hM2 hC2 hc c3.ok e11 c1 (by omega) e9 e10 (fun S3 k1 k2 k3 k4 => ?_)⟩
    rw [nI_add]
    refine ih S3 (fun a h0 h19 => by rw [k1 a h0 h19]; exact g1 a h0 h19) (fun j h1 h2 => by rw [k2 j h1 h2]; exact g2 j h1 h2) (fun d n hd hn => ?_)
    rcases Nat.lt_or_ge d c with q | q
    · rw [k3 _ (by omega)]; exact g3 d n q hn
    · have : d = c := by omega
      subst this
      exact k4 n hn
/-- memories alike but for howRead, readAs and rounds -/
def Mi (S S2 : Mem) : Prop := (∀ a, a ≠ 0 → S2 a = S a) ∧ ∀ j, j ≠ 14 → j ≠ 15 → j ≠ 26 → S2 0 j = S 0 j
theorem Mi.rf {S : Mem} : Mi S S := ⟨fun _ _ => rfl, fun _ _ _ _ => rfl⟩
theorem Mi.tr {S S2 S3 : Mem} (h : Mi S S2) (h2 : Mi S2 S3) : Mi S S3 := ⟨fun a ha => (h2.1 a ha).trans (h.1 a ha), fun j p q r => (h2.2 j p q r).trans (h.2 j p q r)⟩
theorem Mi.of {S S2 : Mem} (h : Mr S S2) : Mi S S2 := ⟨h.1, fun j p q _ => h.2 j p q⟩
theorem Mi.st {S : Mem} {v : Int32} : Mi S (st2 S 0 26 v) := ⟨fun a ha => st2_off ha, fun i p q r => by rw [st2_get, if_neg r]⟩
theorem Mi.MB {S S2 : Mem} (h : Mi S S2) (hM : MB S b) : MB S2 b := hM.of (h.2 4 (by decide) (by decide) (by decide)) (fun a _ _ => h.1 a (by omega))
theorem Mi.MC {S S2 : Mem} (h : Mi S S2) (hM : MC S b) : MC S2 b := hM.of (fun a _ _ => h.1 a (by omega))
set_option maxHeartbeats 1000000 in
theorem c_X12_byItself {c k ws line : Nat} {m : Option Nat} (hb : BOk b) (hM : MB S b) (hC : MC S b) (hc : c < 4) (hm : mxOk m) (hS : S 11 c = oI m) (hkn : k < 1024) (hws : ws < 4096) (h9 : S 9 c = nI k) (h10 : S 10 c = nI ws) (hli : line ≤ 1000)
    (hk : ∀ S2, Mi S S2 → S2 0 26 = nI (pc (its b line 12 (rdB b m k ws)) - pc (rdB b m k ws)) → K (nI (tmS b (its b line 12 (rdB b m k ws)))) S2) : MWi l g shM m_X12_byItself [.ref (g.ad 0), .int (nI c), .int (nI line)] S K := by
  have hn := hb.1
  have hal : ofA b ≤ 11988 := ofA_le hb (Nat.le_refl _)
  refine MWi.intro _ rfl (Nat.le_of_ble_eq_true rfl) rfl (fun x ok => s_X12_byItself_0 ok _ _ S ⟨inI hc (by decide), inI hc (by decide), ?_⟩)
  simp (disch := omega) only [cl, nI_clamp, h9, h10]
  refine c_X12_allOften hb hM ?_
  have R0 : Mi S (st2 S 0 26 (nI 0)) := Mi.st
  refine c_X12_shareOf hb (R0.MB hM) (R0.MC hC) hc hm (by rw [R0.1 11 (by decide)]; exact hS) hkn hws (fun S2 R => ?_)
  rw [share_tm]
  have L : ∀ f v, v < 4096 → 12 ≤ f + pc (rdB b m k v) → ∀ r S2, Mi S S2 → S2 0 26 = nI r → (∀ S3, Mi S S3 → S3 0 26 = nI (r + (pc (its b line f (rdB b m k v)) - pc (rdB b m k v))) → K (nI (tmS b (its b line f (rdB b m k v)))) S3) → PW l x g shM m_X12_byItself (Qi x g shM K) 36 [(0, .ref (g.ad 0)), (1, .int (nI c)), (2, .int (nI line)), (3, .int (nI v)), (4, .int (nI k)), (5, .int (nI (ofA b))), (6, .int (nI (tmS b (rdB b m k v))))] [] S2 := by
    intro f
    induction f with
    | zero =>
      intro v hv hf r S2 RS e26 hk
      have hnone : am (fun w => !(rdB b m k v).testBit w) b.of b.n = none := by
        cases hm2 : am (fun w => !(rdB b m k v).testBit w) b.of b.n with
        | none => rfl
        | some w =>
          have h1 := pc_lt hn hm2
          have h2 := pc_le (rdB b m k v ||| 2 ^ w)
          omega
      have ht := tmS_all hb hnone
      refine s_X12_byItself_36 ok _ _ _ _ _ _ S2 ⟨fun _ => hk S2 RS (by rw [e26, its]; congr 1; omega), fun c => absurd ?_ c⟩
      rw [ht]; exact nI_le (Nat.le_refl _) (by omega)
    | succ f ih =>
      intro v hv hf r S2 RS e26 hk
      have ht := tmS_le hb (rdB b m k v)
      have hla : line * ofA b ≤ 1000 * 11988 := Nat.mul_le_mul hli hal
      refine s_X12_byItself_36 ok _ _ _ _ _ _ S2 ?_
      simp (disch := omega) only [pk_mul, nI_leI, nI_ltI]
      refine ⟨fun y => ?_, fun y => ⟨fun z => ?_, fun z => ?_⟩⟩
      · have e : its b line (f + 1) (rdB b m k v) = rdB b m k v := by
          rw [its]
          split
          · rfl
          · cases hm2 : am (fun w => !(rdB b m k v).testBit w) b.of b.n with
            | none => rfl
            | some w => have := tmS_less hb hm2; omega
        rw [e] at hk
        exact hk S2 RS (by rw [e26]; congr 1; omega)
      · have e : its b line (f + 1) (rdB b m k v) = rdB b m k v := by rw [its, if_pos z]
        rw [e] at hk
        exact hk S2 RS (by rw [e26]; congr 1; omega)
      · -- the next word
        refine lpU (fun w => ∀ S3, Mi S S3 → S3 0 26 = nI r → PW l x g shM m_X12_byItself (Qi x g shM K) 63 [(0, .ref (g.ad 0)), (1, .int (nI c)), (2, .int (nI line)), (3, .int (nI v)), (4, .int (nI k)), (5, .int (nI (ofA b))), (7, .int (oI (am (fun w => !bk_can b m k v w) b.of w))), (8, .int (nI w))] [] S3) b.n ?_ (fun w hw ih2 => ?_) 0 (Nat.zero_le _) S2 RS e26
        · intro S3 RS e26
          have hM3 := RS.MB hM
          refine s_X12_byItself_63 ok _ _ _ _ _ _ _ S3 ⟨fun _ => ?_, fun c => absurd ?_ c⟩
          · have ec : am (fun w => !bk_can b m k v w) b.of b.n = am (fun w => !(rdB b m k v).testBit w) b.of b.n := am_cong (fun i hi => by
              have := rdB_bit (b := b) (m := m) (k := k) (ws := v) (j := i)
              cases h1 : bk_can b m k v i with
              | true => rw [this.mpr ⟨hi, h1⟩]
              | false =>
                cases h2 : (rdB b m k v).testBit i with
                | false => rfl
                | true => rw [(this.mp h2).2] at h1; cases h1)
            rw [ec]
            cases hm2 : am (fun w => !(rdB b m k v).testBit w) b.of b.n with
            | none => have := tmS_all hb hm2; omega
            | some w =>
              have hw := am_lt hm2
              have hor := or_lt (v := v) (k := 12) hv (by omega : w < 12)
              have h1 := pc_lt hn hm2
              have erd := rdB_or (b := b) (m := m) (k := k) (ws := v) hw
              simp (disch := omega) only [oI_some, jshl_1, fa_or, e26, nI_add]
              have RS4 : Mi S (st2 S3 0 26 (nI (r + 1))) := RS.tr Mi.st
              refine c_X12_shareOf hb (RS4.MB hM) (RS4.MC hC) hc hm (by rw [RS4.1 11 (by decide)]; exact hS) hkn hor (fun S5 R5 => ?_)
              rw [share_tm]
              refine ih (v ||| 2 ^ w) hor (by rw [erd]; omega) (r + 1) S5 (RS4.tr (Mi.of R5)) (by rw [R5.2 26 (by decide) (by decide), st2_get, if_pos rfl]) (fun S6 R6 e6 => ?_)
              have e : its b line (f + 1) (rdB b m k v) = its b line f (rdB b m k v ||| 2 ^ w) := by rw [its, if_neg z, hm2]
              rw [e] at hk
              rw [erd] at e6 ⊢
              refine hk S6 R6 ?_
              rw [e6]
              congr 1
              -- the count only grows
              have hmono : ∀ f W, pc W ≤ pc (its b line f W) := by
                intro f
                induction f with
                | zero => intro W; exact Nat.le_refl _
                | succ f ihf =>
                  intro W
                  rw [its]
                  split
                  · exact Nat.le_refl _
                  · cases hq : am (fun w => !W.testBit w) b.of b.n with
                    | none => exact Nat.le_refl _
                    | some q =>
                      have a1 := pc_lt hn hq
                      have a2 := ihf (W ||| 2 ^ q)
                      dsimp only
                      omega
              have := hmono f (rdB b m k v ||| 2 ^ w)
              omega
          · simp (disch := omega) only [hM3.1, nI_leI, Nat.le_refl]
        · intro S3 RS e26
          have hM3 := RS.MB hM
          refine s_X12_byItself_63 ok _ _ _ _ _ _ _ S3 ⟨fun c => absurd c ?_, fun _ => c_X12_canRead hb hM3 (RS.MC hC) hc hw hm (by rw [RS.1 11 (by decide)]; exact hS) hkn hv (fun S4 R4 => ?_)⟩
          · simp (disch := omega) only [hM3.1, nI_leI]; omega
          have RS4 := RS.tr (Mi.of R4)
          have hM4 := RS4.MB hM
          have e4 : S4 0 26 = nI r := by rw [R4.2 26 (by decide) (by decide)]; exact e26
          have ih2 := ih2 S4 RS4 e4
          have e2 := (hM4.2 w hw).2.1
          have o2 := (hb.2 w hw).2.2.2.1
          have hlt : ∀ j, am (fun w => !bk_can b m k v w) b.of w = some j → j < 2 ^ 31 := fun j h => by have := am_lt h; omega
          rw [bI0, nI_add]
          refine ⟨fun u => ?_, fun u => ?_⟩
          · rw [Bool.not_eq_false] at u
            rw [am_no (by simp [u])] at ih2; exact ih2
          · have hp : (fun w => !bk_can b m k v w) w = true := by simp [u]
            rw [oI_lt0 hlt]
            refine ⟨fun q => ?_, fun q => ?_⟩
            · rw [am_one hp q] at ih2; exact ih2
            · cases hm2 : am (fun w => !bk_can b m k v w) b.of w with
              | none => exact absurd hm2 q
              | some j =>
                have hj := am_lt hm2
                have fj := (hM4.2 j (by omega)).2.1
                have oj := (hb.2 j (by omega)).2.2.2.1
                simp (disch := omega) only [oI_some, cl, nI_clamp, e2, fj, nI_leI]
                refine ⟨inI (by omega) (by decide), inI (by omega) (by decide), fun y2 => ?_, fun y2 => ?_⟩
                · rw [am_less hm2 y2] at ih2; exact ih2
                · rw [am_more hp hm2 (by omega)] at ih2; exact ih2
  exact L 12 ws hws (by omega) 0 S2 (R0.tr (Mi.of R)) (by rw [R.2 26 (by decide) (by decide), st2_get, if_pos rfl]) (fun S3 R3 e3 => hk S3 R3 (by rw [e3]; congr 1; omega))
theorem c_X12_lineL {c k ws : Nat} {m : Option Nat} {x : Cx} (ok : Ok x g shM m_X12_line) (hb : BOk b) (hM : MB S b) (hC : MC S b) (hc : c < 4) (hm : mxOk m) (hS : S 11 c = oI m) (hkn : k < 1024) (hws : ws < 4096) (h9 : S 9 c = nI k) (h10 : S 10 c = nI ws)
    (hk : ∀ S2, Mi S S2 → K (nI (hln b (rdB b m k ws))) S2) : PW l x g shM m_X12_line (Qi x g shM K) 17 [(0, .ref (g.ad 0)), (1, .int (nI c)), (2, .int (nI 1000))] [] S := by
  have hal : ofA b ≤ 11988 := ofA_le hb (Nat.le_refl _)
  have hle : tmS b (rdB b m k ws) ≤ ofA b := fb_sm_le (fun w hw => by split <;> omega)
  have hh : hln b (rdB b m k ws) ≤ 1000 := by
    unfold hln
    split
    · exact Nat.le_refl _
    · rcases Nat.eq_zero_or_pos (ofA b) with q | q
      · omega
      · have : 1000 * tmS b (rdB b m k ws) / ofA b < 1001 := Nat.div_lt_of_lt_mul (by
          have : ofA b * 1001 = 1000 * ofA b + ofA b := by omega
          omega)
        omega
  have L : ∀ d, hln b (rdB b m k ws) + d ≤ 1000 → ∀ S2, Mi S S2 → PW l x g shM m_X12_line (Qi x g shM K) 17 [(0, .ref (g.ad 0)), (1, .int (nI c)), (2, .int (nI (hln b (rdB b m k ws) + d)))] [] S2 := by
    intro d
    induction d with
    | zero =>
      intro _ S2 R
      refine s_X12_line_17 ok _ _ S2 (c_X12_byItself hb (R.MB hM) (R.MC hC) hc hm (by rw [R.1 11 (by decide)]; exact hS) hkn hws (by rw [R.1 9 (by decide)]; exact h9) (by rw [R.1 10 (by decide)]; exact h10) (by omega) (fun S3 R3 e3 => c_X12_allOften hb ((R.tr R3).MB hM) ?_))
      have e : tmS b (its b (hln b (rdB b m k ws) + 0) 12 (rdB b m k ws)) = ofA b := by
        refine its_all hb 12 _ (by omega) ?_
        rw [Nat.add_zero]
        unfold hln
        split
        · rename_i q; rw [q]; exact Nat.le_refl _
        · exact Nat.div_mul_le_self _ _
      rw [e]
      exact ⟨fun _ => hk S3 (R.tr R3), fun c => absurd (nI_le (Nat.le_refl _) (by omega)) c⟩
    | succ d ih =>
      intro hd S2 R
      refine s_X12_line_17 ok _ _ S2 (c_X12_byItself hb (R.MB hM) (R.MC hC) hc hm (by rw [R.1 11 (by decide)]; exact hS) hkn hws (by rw [R.1 9 (by decide)]; exact h9) (by rw [R.1 10 (by decide)]; exact h10) (by omega) (fun S3 R3 e3 => c_X12_allOften hb ((R.tr R3).MB hM) ?_))
      have hne : ¬ tmS b (rdB b m k ws) = ofA b := by
        intro q
        unfold hln at hd
        rw [if_pos q] at hd
        omega
      have hgt : 1000 * tmS b (rdB b m k ws) < (hln b (rdB b m k ws) + (d + 1)) * ofA b := by
        have h1 : hln b (rdB b m k ws) = 1000 * tmS b (rdB b m k ws) / ofA b := by unfold hln; rw [if_neg hne]
        have hp : 0 < ofA b := by omega
        rw [h1]
        have h2 := Nat.lt_mul_div_succ (1000 * tmS b (rdB b m k ws)) hp
        have h3 : ofA b * (1000 * tmS b (rdB b m k ws) / ofA b + 1) ≤ (1000 * tmS b (rdB b m k ws) / ofA b + (d + 1)) * ofA b := by
          rw [Nat.mul_comm]
          exact Nat.mul_le_mul_right _ (by omega)
        omega
      have e : its b (hln b (rdB b m k ws) + (d + 1)) 12 (rdB b m k ws) = rdB b m k ws := by rw [its, if_pos hgt]
      rw [e]
      refine ⟨fun c => absurd c (nI_ge (by omega) (by omega)), fun _ => ?_⟩
      have := ih (by omega) S3 (R.tr R3)
      rw [← Nat.add_assoc, pk_m1]
      exact this
  have := L (1000 - hln b (rdB b m k ws)) (by omega) S Mi.rf
  rw [show hln b (rdB b m k ws) + (1000 - hln b (rdB b m k ws)) = 1000 by omega] at this
  exact this
end MOD7
