/-! PART 54: the class: lessons shared -/
def spQ (f : Nat → Nat → Nat) (n : Nat) (o : Option Nat) (S : Mem) : Prop := match o with
  | none => S 39 7 = -1
  | some u => S 39 7 = nI (spF f n u) ∧ S 43 0 = nI (u / 13 / 13) ∧ S 43 1 = nI (u / 13 % 13) ∧ S 43 2 = nI (u % 13) ∧ S 43 3 = nI (n - u / 13 / 13 - u / 13 % 13 - u % 13)
theorem neg1_lt {k : Nat} (h : k < 2 ^ 31) : ¬ nI k ≤ (-1 : Int32) := by
  rw [fa_le, nI_toInt h]
  have : (-1 : Int32).toInt = -1 := by decide
  omega
section CLAD
variable {l : Launch} {g : Geo} {S : Mem} {b : Bk} {ch : Ch} {K : Int32 → Mem → Prop}
theorem c_X4_trySplit {K : Mem → Prop} {a d e f : Nat} (hb : BOk b) (ha : a ≤ 12) (hd : d ≤ 12) (he : e ≤ 12) (hf : f ≤ 12) (h41 : ∀ c n, c < 4 → n ≤ 12 → S 41 (13 * c + n) = nI (lesC b ch c n)) (h1 : nI (lesC b ch 0 a + lesC b ch 1 d + lesC b ch 2 e + lesC b ch 3 f) ≤ S 39 7 → K S) (h2 : ¬ nI (lesC b ch 0 a + lesC b ch 1 d + lesC b ch 2 e + lesC b ch 3 f) ≤ S 39 7 → K (st2 (st2 (st2 (st2 (st2 S 39 7 (nI (lesC b ch 0 a + lesC b ch 1 d + lesC b ch 2 e + lesC b ch 3 f))) 43 0 (nI a)) 43 1 (nI d)) 43 2 (nI e)) 43 3 (nI f))) : MWv l g shX m_X4_trySplit [.ref (g.ad 39), .int (nI a), .int (nI d), .int (nI e), .int (nI f)] S K := by
  refine MWv.intro _ rfl (Nat.le_of_ble_eq_true rfl) rfl (fun x ok => s_X4_trySplit_0 ok _ _ _ _ S (c_X4_bestShare (by decide) ha (h41 0 a (by decide) ha) (c_X4_bestShare (by decide) hd (h41 1 d (by decide) hd) (c_X4_bestShare (by decide) he (h41 2 e (by decide) he) (c_X4_bestShare (by decide) hf (h41 3 f (by decide) hf) ?_)))))
  rw [nI_add, nI_add, nI_add]
  have e0 : cl (nI 0) = 0 := by rw [cl, nI_clamp (by decide)]
  have e1 : cl (nI 1) = 1 := by rw [cl, nI_clamp (by decide)]
  have e2 : cl (nI 2) = 2 := by rw [cl, nI_clamp (by decide)]
  have e3 : cl (nI 3) = 3 := by rw [cl, nI_clamp (by decide)]
  rw [e0, e1, e2, e3]
  exact ⟨h1, fun q => ⟨inI (by decide) (by decide), inI (by decide) (by decide), inI (by decide) (by decide), inI (by decide) (by decide), h2 q⟩⟩
set_option maxHeartbeats 1000000 in
theorem c_X4_split {K : Mem → Prop} {n u : Nat} (hb : BOk b) (hch : ChOk b ch) (hX : XB S 4 b) (hU : XU S b) (hH : XH S 10 ch) (hL : XL S b ch) (hn : n ≤ 12) (hu : spO (lesC b ch) n 2197 = some u) (hk : ∀ S2, (∀ a, a ≠ 26 → a ≠ 39 → a ≠ 40 → a ≠ 41 → a ≠ 42 → a ≠ 43 → S2 a = S a) → XL S2 b ch → spQ (lesC b ch) n (some u) S2 → K S2) : MWv l g shX m_X4_split [.ref (g.ad 39), .int (nI n)] S K := by
  have hf : ∀ c n, lesC b ch c n ≤ 11988 := fun c n => les_le hb _ _ _ _
  refine MWv.intro _ rfl (Nat.le_of_ble_eq_true rfl) rfl (fun x ok => s_X4_split_0 ok _ S ?_)
  obtain ⟨O, hO⟩ : ∃ O, O = spO (lesC b ch) n := ⟨_, rfl⟩
  have O0 : O 0 = none := by rw [hO]; rfl
  have Oskip : ∀ lo hi, lo ≤ hi → (∀ i, lo ≤ i → i < hi → spP n i = false) → O hi = O lo := by
    intro lo hi h1 h2
    rw [hO]
    have := am_skip (p := spP n) (f := spF (lesC b ch) n) (lo := lo) (d := hi - lo) (fun i h3 h4 => h2 i h3 (by omega))
    rw [show lo + (hi - lo) = hi by omega] at this
    exact this
  have Oless : ∀ t j, O t = some j → spF (lesC b ch) n t ≤ spF (lesC b ch) n j → O (t + 1) = some j := by
    intro t j h1 h2
    rw [hO] at h1 ⊢
    exact am_less h1 h2
  have Oone : ∀ t, spP n t = true → O t = none → O (t + 1) = some t := by
    intro t h1 h2
    rw [hO] at h2 ⊢
    exact am_one h1 h2
  have Omore : ∀ t j, spP n t = true → O t = some j → spF (lesC b ch) n j < spF (lesC b ch) n t → O (t + 1) = some t := by
    intro t j h1 h2 h3
    rw [hO] at h2 ⊢
    exact am_more h1 h2 h3
  rw [← hO] at hu
  have L2 : ∀ S2 : Mem, (∀ a, a ≠ 26 → a ≠ 40 → a ≠ 41 → a ≠ 42 → S2 a = S a) → XL S2 b ch → (∀ c n, c < 4 → n ≤ 12 → S2 41 (13 * c + n) = nI (lesC b ch c n)) → PW l x g shX m_X4_split (Qv x g shX K) 25 [(0, .ref (g.ad 39)), (1, .int (nI n)), (2, .int (nI 0))] [] (st2 S2 39 7 (-1)) := by
    intro S2 g1 g2 g3
    have fin : ∀ S3 : Mem, (∀ a, a ≠ 39 → a ≠ 43 → S3 a = S2 a) → spQ (lesC b ch) n (O 2197) S3 → K S3 := by
      intro S3 k1 k2
      rw [hu] at k2
      refine hk S3 (fun a h1 h2 h3 h4 h5 h6 => by rw [k1 a h2 h6]; exact g1 a h1 h3 h4 h5) ?_ k2
      unfold XL
      rw [k1 42 (by decide) (by decide), k1 41 (by decide) (by decide)]
      exact g2
    refine lpU (fun a => ∀ S3 : Mem, (∀ a, a ≠ 39 → a ≠ 43 → S3 a = S2 a) → spQ (lesC b ch) n (O (169 * a)) S3 → PW l x g shX m_X4_split (Qv x g shX K) 25 [(0, .ref (g.ad 39)), (1, .int (nI n)), (2, .int (nI a))] [] S3) (n + 1) ?_ (fun a ha ih => ?_) 0 (Nat.zero_le _) _ (fun a h1 h2 => by rw [st2_off h1]) (by rw [show 169 * 0 = 0 from rfl, O0]; show st2 S2 39 7 (-1) 39 7 = -1; rw [st2_get, if_pos rfl])
    · intro S3 k1 k2
      have e : O 2197 = O (169 * (n + 1)) := Oskip _ _ (by omega) (fun i h1 h2 => decide_eq_false (by omega))
      rw [← e] at k2
      exact s_X4_split_25 ok _ _ S3 ⟨fun _ => fin S3 k1 k2, fun c => absurd (nI_lt (by omega) (by omega)) c⟩
    · intro S3 k1 k2
      refine s_X4_split_25 ok _ _ S3 ⟨fun c => absurd c (nI_nlt (by omega) (by omega)), fun _ => ?_⟩
      refine lpU (fun d => ∀ S3 : Mem, (∀ a, a ≠ 39 → a ≠ 43 → S3 a = S2 a) → spQ (lesC b ch) n (O (169 * a + 13 * d)) S3 → PW l x g shX m_X4_split (Qv x g shX K) 32 [(0, .ref (g.ad 39)), (1, .int (nI n)), (2, .int (nI a)), (3, .int (nI d))] [] S3) (n - a + 1) ?_ (fun d hd ih2 => ?_) 0 (Nat.zero_le _) S3 k1 k2
      · intro S3 k1 k2
        have e : O (169 * (a + 1)) = O (169 * a + 13 * (n - a + 1)) := Oskip _ _ (by omega) (fun i h1 h2 => decide_eq_false (by omega))
        rw [← e] at k2
        refine s_X4_split_32 ok _ _ _ S3 ⟨fun _ => ?_, fun c => absurd ?_ c⟩
        · rw [nI_add]; exact ih S3 k1 k2
        · rw [nI_add]; exact nI_lt (by omega) (by omega)
      · intro S3 k1 k2
        refine s_X4_split_32 ok _ _ _ S3 ⟨fun c => absurd c ?_, fun _ => ?_⟩
        · rw [nI_add]; exact nI_nlt (by omega) (by omega)
        refine lpU (fun e => ∀ S3 : Mem, (∀ a, a ≠ 39 → a ≠ 43 → S3 a = S2 a) → spQ (lesC b ch) n (O (169 * a + 13 * d + e)) S3 → PW l x g shX m_X4_split (Qv x g shX K) 42 [(0, .ref (g.ad 39)), (1, .int (nI n)), (2, .int (nI a)), (3, .int (nI d)), (4, .int (nI e))] [] S3) (n - a - d + 1) ?_ (fun e he ih3 => ?_) 0 (Nat.zero_le _) S3 k1 k2
        · intro S3 k1 k2
          have e : O (169 * a + 13 * (d + 1)) = O (169 * a + 13 * d + (n - a - d + 1)) := Oskip _ _ (by omega) (fun i h1 h2 => decide_eq_false (by omega))
          rw [← e] at k2
          refine s_X4_split_42 ok _ _ _ _ S3 ⟨fun _ => ?_, fun c => absurd ?_ c⟩
          · rw [nI_add]; exact ih2 S3 k1 k2
          · rw [nI_add, nI_add]; exact nI_lt (by omega) (by omega)
        · intro S3 k1 k2
          have eF : spF (lesC b ch) n (169 * a + 13 * d + e) = lesC b ch 0 a + lesC b ch 1 d + lesC b ch 2 e + lesC b ch 3 (n - a - d - e) := by
            unfold spF
            rw [show (169 * a + 13 * d + e) / 13 / 13 = a by omega, show (169 * a + 13 * d + e) / 13 % 13 = d by omega, show (169 * a + 13 * d + e) % 13 = e by omega]
          have hsp := spF_le hf n (169 * a + 13 * d + e)
          have hp : spP n (169 * a + 13 * d + e) = true := decide_eq_true (by omega)
          refine s_X4_split_42 ok _ _ _ _ S3 ⟨fun c => absurd c ?_, fun _ => ?_⟩
          · rw [nI_add, nI_add]; exact nI_nlt (by omega) (by omega)
          rw [pk_sub (by omega), pk_sub (by omega), pk_sub (by omega), nI_add]
          refine c_X4_trySplit hb (by omega) (by omega) (by omega) (by omega) (fun c n hc hn => by rw [k1 41 (by decide) (by decide)]; exact g3 c n hc hn) (fun z => ?_) (fun z => ?_)
          · rw [← eF] at z
            cases hm : O (169 * a + 13 * d + e) with
            | none =>
              rw [hm] at k2
              have k2 : S3 39 7 = -1 := k2
              rw [k2] at z
              exact absurd z (neg1_lt (by omega))
            | some j =>
              rw [hm] at k2
              have hj := spF_le hf n j
              rw [k2.1, nI_leI (by omega) (by omega)] at z
              have e1 : O (169 * a + 13 * d + (e + 1)) = some j := Oless _ j hm z
              exact ih3 S3 k1 (by rw [e1]; exact k2)
          · rw [← eF] at z ⊢
            have e1 : O (169 * a + 13 * d + (e + 1)) = some (169 * a + 13 * d + e) := by
              cases hm : O (169 * a + 13 * d + e) with
              | none => exact Oone _ hp hm
              | some j =>
                rw [hm] at k2
                have hj := spF_le hf n j
                rw [k2.1, nI_leI (by omega) (by omega)] at z
                exact Omore (169 * a + 13 * d + e) j hp hm (by omega)
            refine ih3 _ (fun a h1 h2 => by rw [st2_off h2, st2_off h2, st2_off h2, st2_off h2, st2_off h1]; exact k1 a h1 h2) ?_
            rw [e1]
            show _ ∧ _
            rw [show (169 * a + 13 * d + e) / 13 / 13 = a by omega, show (169 * a + 13 * d + e) / 13 % 13 = d by omega, show (169 * a + 13 * d + e) % 13 = e by omega]
            refine ⟨?_, ?_, ?_, ?_, ?_⟩
            · rw [st2_off (by decide), st2_off (by decide), st2_off (by decide), st2_off (by decide), st2_get, if_pos rfl]
            · simp [st2_get]
            · simp [st2_get]
            · simp [st2_get]
            · simp [st2_get]
  refine lpU (fun c => ∀ S2 : Mem, (∀ a, a ≠ 26 → a ≠ 40 → a ≠ 41 → a ≠ 42 → S2 a = S a) → XL S2 b ch → (∀ d, d < c → S2 42 d = nI 1) → PW l x g shX m_X4_split (Qv x g shX K) 2 [(0, .ref (g.ad 39)), (1, .int (nI n)), (2, .int (nI c))] [] S2) 4 ?_ (fun c hc ih => ?_) 0 (Nat.zero_le _) S (fun _ _ _ _ _ => rfl) hL (fun d hd => by omega)
  · intro S2 g1 g2 g3
    refine s_X4_split_2 ok _ _ S2 ⟨fun _ => L2 S2 g1 g2 (fun c n hc hn => ?_), fun c => absurd (nI_le (Nat.le_refl 4) (by decide)) c⟩
    rcases g2 c hc with q | ⟨_, q⟩
    · rw [g3 c hc] at q
      exact absurd q (by decide)
    · exact q n hn
  · intro S2 g1 g2 g3
    have hX2 : XB S2 4 b := hX.of (fun a h1 h2 => g1 a (by omega) (by omega) (by omega) (by omega))
    have hU2 : XU S2 b := hU.of (fun a h1 h2 => g1 a (by omega) (by omega) (by omega) (by omega))
    have hH2 : XH S2 10 ch := hH.of (fun a h1 h2 => g1 a (by omega) (by omega) (by omega) (by omega))
    refine s_X4_split_2 ok _ _ S2 ⟨fun q => absurd q (nI_ge hc (by decide)), fun _ => c_X4_findBest hb hch hX2 hU2 hH2 g2 hc (fun S3 q1 q2 q3 q4 => ?_)⟩
    rw [nI_add]
    refine ih S3 (fun a h1 h2 h3 h4 => by rw [q1 a h1 h2 h3 h4]; exact g1 a h1 h2 h3 h4) q2 (fun d hd => ?_)
    by_cases e : d = c
    · rw [e]; exact q3
    · exact q4 d (by omega) (g3 d (by omega))
theorem c_X4_forget {K : Mem → Prop} {c : Nat} (hc : c < 4) (hk : K (st2 S 42 c (nI 0))) : MWv l g shX m_X4_forget [.ref (g.ad 39), .int (nI c)] S K := by
  refine MWv.intro _ rfl (Nat.le_of_ble_eq_true rfl) rfl (fun x ok => s_X4_forget_0 ok _ S ⟨inI hc (by decide), ?_⟩)
  rw [cl, nI_clamp (by omega)]
  exact hk
end CLAD
