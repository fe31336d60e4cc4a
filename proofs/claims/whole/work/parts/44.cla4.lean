/-! PART 44: sums over the subsets -/
theorem fa_xor (a b : Nat) : nI a ^^^ nI b = nI (a ^^^ b) := by
  apply Int32.toBitVec_inj.1
  show BitVec.ofNat 32 a ^^^ BitVec.ofNat 32 b = BitVec.ofNat 32 (a ^^^ b)
  apply BitVec.eq_of_getLsbD_eq
  intro i hi
  simp [hi]
abbrev iI (z : Int) : Int32 := Int32.ofInt z
theorem iI_nat (n : Nat) : iI (n : Int) = nI n := by
  unfold iI nI
  exact Int32.ofInt_eq_ofNat
theorem iI_add (a b : Int) : iI (a + b) = iI a + iI b := Int32.ofInt_add a b
def zI (c : Nat → Int) : Nat → Nat → Int
  | 0, s => c s
  | k + 1, s => if s.testBit k = true then zI c k s + zI c k (s ^^^ 2 ^ k) else zI c k s
theorem zI_add (c d : Nat → Int) : ∀ k s, zI (fun i => c i + d i) k s = zI c k s + zI d k s
  | 0, s => rfl
  | k + 1, s => by
    rw [zI, zI, zI, zI_add c d k s, zI_add c d k (s ^^^ 2 ^ k)]
    split <;> omega
theorem zI_zero : ∀ k s, zI (fun _ => 0) k s = 0
  | 0, s => rfl
  | k + 1, s => by
    rw [zI, zI_zero k s, zI_zero k (s ^^^ 2 ^ k)]
    simp
def zC (m k s : Nat) : Prop := ∀ i, (i < k → m.testBit i = true → s.testBit i = true) ∧ (k ≤ i → m.testBit i = s.testBit i)
theorem and_pow0 {s k : Nat} : s &&& 2 ^ k = 0 ↔ s.testBit k = false := by
  constructor
  · intro h
    have h2 : (s &&& 2 ^ k).testBit k = false := by rw [h]; exact Nat.zero_testBit k
    rw [Nat.testBit_and, Nat.testBit_two_pow] at h2
    simpa using h2
  · intro h
    apply Nat.eq_of_testBit_eq
    intro i
    rw [Nat.testBit_and, Nat.testBit_two_pow, Nat.zero_testBit]
    by_cases e : k = i
    · subst e; rw [h]; rfl
    · rw [decide_eq_false e, Bool.and_false]
theorem xor_bit (s k i : Nat) : (s ^^^ 2 ^ k).testBit i = (s.testBit i != decide (k = i)) := by
  rw [Nat.testBit_xor, Nat.testBit_two_pow]
theorem zI_pt (m : Nat) (v : Int) [d : ∀ k s, Decidable (zC m k s)] : ∀ k s, zI (fun i => if m = i then v else 0) k s = if zC m k s then v else 0
  | 0, s => by
    rw [zI]
    have : m = s ↔ zC m 0 s := by
      constructor
      · rintro rfl; exact fun i => ⟨fun h => absurd h (by omega), fun _ => rfl⟩
      · intro h
        apply Nat.eq_of_testBit_eq
        exact fun i => (h i).2 (Nat.zero_le _)
    by_cases h : m = s
    · rw [if_pos h, if_pos (this.mp h)]
    · rw [if_neg h, if_neg (fun q => h (this.mpr q))]
  | k + 1, s => by
    rw [zI, zI_pt m v k s, zI_pt m v k (s ^^^ 2 ^ k)]
    by_cases hk : s.testBit k = true
    · rw [if_pos hk]
      cases hm : m.testBit k with
      | true =>
        have h2 : ¬ zC m k (s ^^^ 2 ^ k) := fun q => by
          have := (q k).2 (Nat.le_refl _)
          rw [xor_bit, hm, hk] at this
          simp at this
        have h3 : zC m k s ↔ zC m (k + 1) s := by
          constructor
          · intro q i
            refine ⟨fun hi hmi => ?_, fun hi => (q i).2 (by omega)⟩
            rcases Nat.lt_or_ge i k with r | r
            · exact (q i).1 r hmi
            · have : i = k := by omega
              subst this; exact hk
          · intro q i
            refine ⟨fun hi => (q i).1 (by omega), fun hi => ?_⟩
            rcases Nat.lt_or_ge k i with r | r
            · exact (q i).2 (by omega)
            · have : i = k := by omega
              subst this; rw [hm, hk]
        rw [if_neg h2]
        by_cases h4 : zC m k s
        · rw [if_pos h4, if_pos (h3.mp h4)]; omega
        · rw [if_neg h4, if_neg (fun q => h4 (h3.mpr q))]; rfl
      | false =>
        have h2 : ¬ zC m k s := fun q => by
          have := (q k).2 (Nat.le_refl _)
          rw [hm, hk] at this
          cases this
        have h3 : zC m k (s ^^^ 2 ^ k) ↔ zC m (k + 1) s := by
          constructor
          · intro q i
            have q1 := (q i).1
            have q2 := (q i).2
            rw [xor_bit] at q1 q2
            refine ⟨fun hi hmi => ?_, fun hi => ?_⟩
            · rcases Nat.lt_or_ge i k with r | r
              · have := q1 r hmi
                rw [decide_eq_false (by omega)] at this
                simpa using this
              · have : i = k := by omega
                subst this; exact hk
            · have := q2 (by omega)
              rw [decide_eq_false (by omega)] at this
              simpa using this
          · intro q i
            rw [xor_bit]
            refine ⟨fun hi hmi => ?_, fun hi => ?_⟩
            · rw [decide_eq_false (by omega)]
              simpa using (q i).1 (by omega) hmi
            · rcases Nat.lt_or_ge k i with r | r
              · rw [decide_eq_false (by omega)]
                simpa using (q i).2 (by omega)
              · have : i = k := by omega
                subst this; rw [hm, hk]; simp
        rw [if_neg h2]
        by_cases h4 : zC m k (s ^^^ 2 ^ k)
        · rw [if_pos h4, if_pos (h3.mp h4)]; omega
        · rw [if_neg h4, if_neg (fun q => h4 (h3.mpr q))]; rfl
    · rw [if_neg hk]
      have h3 : zC m k s ↔ zC m (k + 1) s := by
        constructor
        · intro q i
          refine ⟨fun hi hmi => ?_, fun hi => (q i).2 (by omega)⟩
          rcases Nat.lt_or_ge i k with r | r
          · exact (q i).1 r hmi
          · have : i = k := by omega
            subst this
            rw [← (q i).2 (Nat.le_refl _)]; exact hmi
        · intro q i
          refine ⟨fun hi => (q i).1 (by omega), fun hi => ?_⟩
          rcases Nat.lt_or_ge k i with r | r
          · exact (q i).2 (by omega)
          · have : i = k := by omega
            subst this
            have := (q i).1 (by omega)
            cases hm : m.testBit i with
            | false => cases hs : s.testBit i with
              | false => rfl
              | true => exact absurd hs hk
            | true => exact absurd (this hm) hk
      by_cases h4 : zC m k s
      · rw [if_pos h4, if_pos (h3.mp h4)]
      · rw [if_neg h4, if_neg (fun q => h4 (h3.mpr q))]
/-- numbers put at places mask w, summed up -/
def ptS (m : Nat → Nat) (v : Nat → Int) : Nat → Nat → Int
  | 0, _ => 0
  | n + 1, i => ptS m v n i + if m n = i then v n else 0
def smI (f : Nat → Int) : Nat → Int
  | 0 => 0
  | n + 1 => smI f n + f n
theorem zI_ten {m : Nat} {v : Int} {s : Nat} (hm : m < 1024) (hs : s < 1024) : zI (fun i => if m = i then v else 0) 10 s = if sub m s then v else 0 := by
  haveI : ∀ k s, Decidable (zC m k s) := fun _ _ => Classical.propDecidable _
  rw [zI_pt]
  have h : zC m 10 s ↔ sub m s := by
    rw [sub_iff]
    constructor
    · intro q i hi
      rcases Nat.lt_or_ge i 10 with r | r
      · exact (q i).1 r hi
      · rw [← (q i).2 r]; exact hi
    · intro q i
      refine ⟨fun _ => q i, fun r => ?_⟩
      have e : ∀ m, m < 1024 → m.testBit i = false := fun m hm => Nat.testBit_lt_two_pow (Nat.lt_of_lt_of_le hm (Nat.pow_le_pow_right (n := 2) (by decide) r))
      rw [e m hm, e s hs]
  by_cases h4 : sub m s
  · rw [if_pos (h.mpr h4), if_pos h4]
  · rw [if_neg (fun q => h4 (h.mp q)), if_neg h4]
theorem zI_ptS {m : Nat → Nat} {v : Nat → Int} {s : Nat} (hs : s < 1024) : ∀ n, (∀ w, w < n → m w < 1024) → zI (ptS m v n) 10 s = smI (fun w => if sub (m w) s then v w else 0) n
  | 0, _ => zI_zero 10 s
  | n + 1, h => by
    have e : ptS m v (n + 1) = fun i => ptS m v n i + (fun i => if m n = i then v n else 0) i := by
      funext i; rfl
    rw [e, zI_add, zI_ptS hs n (fun w hw => h w (by omega)), zI_ten (h n (by omega)) hs, smI]
theorem smI_nat {f : Nat → Int} {h : Nat → Nat} : ∀ {n : Nat}, (∀ w, w < n → f w = (h w : Int)) → smI f n = (fb_sm h n : Int)
  | 0, _ => rfl
  | n + 1, e => by
    rw [smI, smI_nat (fun w hw => e w (by omega)), e n (by omega), fb_sm_succ]; omega
theorem smI_add {f h : Nat → Int} : ∀ {n : Nat}, smI f n + smI h n = smI (fun w => f w + h w) n
  | 0 => rfl
  | n + 1 => by
    rw [smI, smI, smI, ← smI_add]; omega
section CLA4
variable {l : Launch} {g : Geo} {S : Mem} {b : Bk} {K : Int32 → Mem → Prop}
theorem c_addUp {ka : Nat} {c : Nat → Int} {K : Mem → Prop} (hka : shX[ka]? = some (.inl (0, 1024))) (hS : ∀ i, i < 1024 → S ka i = iI (c i)) (hk : ∀ f, (∀ i, i < 1024 → f i = iI (zI c 10 i)) → K (stf S ka f)) : MWv l g shX m_X11_addUpSubsets [.ref (g.ad ka)] S K := by
  refine MWv.intro _ rfl (Nat.le_of_ble_eq_true rfl) rfl (fun x ok => s_X11_addUpSubsets_0 ok ka 1024 hka S ?_)
  refine lpU (fun k => ∀ S2 : Mem, (∀ a, a ≠ ka → S2 a = S a) → (∀ i, i < 1024 → S2 ka i = iI (zI c k i)) → PW l x g shX m_X11_addUpSubsets (Qv x g shX K) 2 [(0, .ref (g.ad ka)), (1, .int (nI k))] [] S2) 10 ?_ (fun k hkk ih => ?_) 0 (Nat.zero_le _) S (fun _ _ => rfl) hS
  · intro S2 g1 g2
    refine s_X11_addUpSubsets_2 ok ka 1024 hka _ S2 ⟨fun _ => ?_, fun c => absurd (nI_le (Nat.le_refl 10) (by decide)) c⟩
    have := hk (S2 ka) g2
    have e : stf S ka (S2 ka) = S2 := by
      funext a
      by_cases ha : a = ka
      · subst ha; rw [stf_same]
      · rw [stf_off ha, g1 a ha]
    rw [e] at this; exact this
  · intro S2 g1 g2
    refine s_X11_addUpSubsets_2 ok ka 1024 hka _ S2 ⟨fun c => absurd c (nI_ge hkk (by decide)), fun _ => ?_⟩
    rw [jshl_1 (by omega)]
    have hp : 2 ^ k < 2 ^ 10 := Nat.pow_lt_pow_right (by decide) hkk
    have hp2 : 0 < 2 ^ k := Nat.two_pow_pos _
    refine lpU (fun s => ∀ S3 : Mem, (∀ a, a ≠ ka → S3 a = S a) → (∀ i, i < 1024 → S3 ka i = iI (zI c (if i < s then k + 1 else k) i)) → PW l x g shX m_X11_addUpSubsets (Qv x g shX K) 14 [(0, .ref (g.ad ka)), (1, .int (nI k)), (2, .int (nI (2 ^ k))), (3, .int (nI s))] [] S3) 1024 ?_ (fun s hs ih2 => ?_) 0 (Nat.zero_le _) S2 g1 (fun i hi => by rw [if_neg (by omega)]; exact g2 i hi)
    · intro S3 r1 r2
      refine s_X11_addUpSubsets_14 ok ka 1024 hka _ _ _ S3 ⟨fun _ => ?_, fun c => absurd (nI_le (Nat.le_refl 1024) (by decide)) c⟩
      rw [nI_add]
      exact ih S3 r1 (fun i hi => by have := r2 i hi; rw [if_pos hi] at this; exact this)
    · intro S3 r1 r2
      refine s_X11_addUpSubsets_14 ok ka 1024 hka _ _ _ S3 ⟨fun c => absurd c (nI_ge hs (by decide)), fun _ => ⟨fun c => absurd c (nI_ge hs (by decide)), fun _ => ?_⟩⟩
      have hx : s ^^^ 2 ^ k < 1024 := Nat.xor_lt_two_pow (n := 10) hs hp
      have hand : s &&& 2 ^ k = 0 ↔ s.testBit k = false := and_pow0
      have hsm : s &&& 2 ^ k < 2 ^ 10 := Nat.and_lt_two_pow _ hp
      simp (disch := omega) only [fa_and, fa_xor, nI_eq0, nI_add, cl, nI_clamp, hand]
      refine ⟨fun y => ih2 S3 r1 (fun i hi => ?_), fun y => ⟨inI hs (by decide), inI hx (by decide), inI hs (by decide), ih2 _ (fun a ha => by rw [st2_off ha]; exact r1 a ha) (fun i hi => ?_)⟩⟩
      · have := r2 i hi
        rcases Nat.lt_or_ge i s with q | q
        · rw [if_pos q] at this; rw [if_pos (by omega)]; exact this
        · rw [if_neg (by omega)] at this
          by_cases e : i = s
          · subst e
            rw [if_pos (by omega), zI, if_neg (by rw [y]; decide)]; exact this
          · rw [if_neg (by omega)]; exact this
      · rw [Bool.not_eq_false] at y
        rw [st2_get]
        by_cases e : i = s
        · subst e
          have h1 := r2 i hi
          have h2 := r2 (i ^^^ 2 ^ k) hx
          rw [if_neg (by omega)] at h1
          have h3 : zI c (if i ^^^ 2 ^ k < i then k + 1 else k) (i ^^^ 2 ^ k) = zI c k (i ^^^ 2 ^ k) := by
            split
            · rw [zI, if_neg (by rw [xor_bit, y]; simp)]
            · rfl
          rw [h3] at h2
          rw [if_pos rfl, if_pos (by omega), zI, if_pos y, iI_add, h1, h2]
        · rw [if_neg e]
          have := r2 i hi
          rcases Nat.lt_or_ge i s with q | q
          · rw [if_pos q] at this; rw [if_pos (by omega)]; exact this
          · rw [if_neg (by omega)] at this; rw [if_neg (by omega)]; exact this
end CLA4
