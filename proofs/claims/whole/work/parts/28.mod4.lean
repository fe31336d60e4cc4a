/-! PART 28: the model: tales -/
section MOD4
variable {l : Launch} {g : Geo} {S : Mem} {b : Bk} {K : Int32 → Mem → Prop}
theorem c_X12_follows {a v : Nat} {rb : Nat → Bool} (hb : BOk b) (hM : MB S b) (ha : a < b.n) (hv : v < b.n) (hR : S 15 v = nI (rb v).toNat) (hk : K (nI (rb v && fol b a v).toNat) S) : MWi l g shM m_X12_follows [.ref (g.ad 0), .int (nI a), .int (nI v)] S K := by
  have hn := hb.1
  obtain ⟨h1, h2, h3, h4, h5⟩ := hb.2 a ha
  obtain ⟨e1, e2, e3⟩ := hM.2 a ha
  obtain ⟨f1, f2, f3, f4, f5⟩ := hb.2 v hv
  have d3 := ((hM.2 v hv).2.2 0 (by omega)).1
  rw [Nat.add_zero] at d3
  have e30 := (e3 (b.len a - 1) (by omega)).1
  have q1 := (h5 (b.len a - 1) (by omega)).1
  have q2 := (f5 0 (by omega)).1
  refine MWi.intro _ rfl (Nat.le_of_ble_eq_true rfl) rfl (fun x ok => s_X12_follows_0 ok _ _ S ⟨inI (by omega) (by decide), ?_⟩)
  simp (disch := omega) only [cl, nI_clamp, hR, bI0, e1, pk_mul, nI_add, pk_sub, d3]
  refine ⟨fun y => ?_, fun y => ⟨inI (by omega) (by decide), inI (by omega) (by decide), inI (by omega) (by decide), ?_⟩⟩
  · rw [y] at hk; exact hk
  · rw [Bool.not_eq_false] at y
    rw [y, Bool.true_and] at hk
    rw [show 5 * a + b.len a - 1 = 5 * a + (b.len a - 1) by omega, e30, nI_eq (by omega) (by omega)]
    unfold fol lastS at hk
    refine ⟨fun z => ?_, fun z => ?_⟩
    · rw [decide_eq_false z] at hk; exact hk
    · rw [decide_eq_true z] at hk; exact hk
theorem c_X12_comes {set w left : Nat} {last : Option Nat} {rb : Nat → Bool} (hb : BOk b) (hM : MB S b) (hset : set < 4096) (hw : w < b.n) (hl : left < 2 ^ 31) (hla : ∀ a, last = some a → a < b.n) (hR : S 15 w = nI (rb w).toNat) (hT : set.testBit w = false → S 14 (12 * (set ||| 2 ^ w) + w) = nI (mc b rb (set ||| 2 ^ w) w)) (hk : K (nI (cnd b rb set last w && decide (1 + mc b rb (set ||| 2 ^ w) w = left)).toNat) S) : MWi l g shM m_X12_comes [.ref (g.ad 0), .int (nI set), .int (oI last), .int (nI w), .int (nI left)] S K := by
  have hn := hb.1
  have hor := or_lt (v := set) (k := 12) hset (by omega : w < 12)
  have hml := mc_le (b := b) (rb := rb) (set ||| 2 ^ w) w
  refine MWi.intro _ rfl (Nat.le_of_ble_eq_true rfl) rfl (fun x ok => s_X12_comes_0 ok _ _ _ _ S ?_)
  have no : cnd b rb set last w = false → PW l x g shM m_X12_comes (Qi x g shM K) 37 [(0, .ref (g.ad 0)), (1, .int (nI set)), (3, .int (nI w)), (4, .int (nI left))] [] S := fun h => s_X12_comes_37 ok _ _ _ S (by rw [h] at hk; exact hk)
  have yes : cnd b rb set last w = true → set.testBit w = false → PW l x g shM m_X12_comes (Qi x g shM K) 33 [(0, .ref (g.ad 0)), (1, .int (nI set)), (3, .int (nI w)), (4, .int (nI left))] [] S := fun h hz => by
    refine s_X12_comes_33 ok _ _ _ S ?_
    rw [h, Bool.true_and] at hk
    simp (disch := omega) only [jshl_1, fa_or, pk_mul, nI_add, cl, nI_clamp, hT hz, nI_eq]
    refine ⟨inI (by omega) (by decide), fun y => ?_, fun y => ?_⟩
    · rw [decide_eq_false y] at hk; exact hk
    · rw [decide_eq_true y] at hk; exact hk
  simp (disch := omega) only [bit_n, bI0]
  refine ⟨fun y => no ?_, fun y => ?_⟩
  · rw [Bool.not_eq_false] at y
    unfold cnd; rw [y]; rfl
  · cases last with
    | none =>
      refine ⟨fun c => absurd c (by decide), fun _ => ⟨inI (by omega) (by decide), ?_⟩⟩
      simp (disch := omega) only [cl, nI_clamp, hR, bI0]
      refine ⟨fun z => no ?_, fun z => yes ?_ y⟩
      · unfold cnd; rw [z]; simp
      · rw [Bool.not_eq_false] at z
        unfold cnd; rw [z, y]; rfl
    | some a =>
      have ha := hla a rfl
      refine ⟨fun _ => c_X12_follows hb hM ha hw hR ?_, fun c => absurd (nI_pos' (by omega)) c⟩
      rw [bI0]
      refine ⟨fun z => no ?_, fun z => yes ?_ y⟩
      · unfold cnd; rw [z]; simp
      · rw [Bool.not_eq_false] at z
        unfold cnd; rw [z, y]; rfl
set_option maxHeartbeats 1000000 in
theorem c_X12_findTales {c k ws : Nat} {m : Option Nat} {K : Mem → Prop} (hb : BOk b) (hM : MB S b) (hc : c < 4) (hm : mxOk m) (hS : S 11 c = oI m) (hkn : k < 1024) (hws : ws < 4096) (h9 : S 9 c = nI k) (h10 : S 10 c = nI ws)
    (hk : ∀ S2, (∀ a, a ≠ 0 → a ≠ 6 → a ≠ 7 → a ≠ 8 → a ≠ 14 → a ≠ 15 → S2 a = S a) → (∀ j, j ≠ 14 → j ≠ 15 → S2 0 j = S 0 j) → (∀ w, w < b.n → S2 15 w = nI (bk_can b m k ws w).toNat) → (∀ t w, 1 ≤ t → t < 2 ^ b.n → w < b.n → t.testBit w = true → S2 14 (12 * t + w) = nI (mc b (bk_can b m k ws) t w)) → K S2) : MWv l g shM m_X12_findTales [.ref (g.ad 0), .int (nI c)] S K := by
  have hn := hb.1
  have hpn : 2 ^ b.n ≤ 4096 := Nat.pow_le_pow_right (by decide) (n := 2) hn
  refine MWv.intro _ rfl (Nat.le_of_ble_eq_true rfl) rfl (fun x ok => s_X12_findTales_0 ok _ S (c_X12_findCommon hb hM (fun S1 o1 hC => ?_)))
  have hM1 : MB S1 b := hM.of (by rw [o1 0 (by omega)]) (fun a _ _ => o1 a (by omega))
  -- the sets, from the greatest down
  have L2 : ∀ t, t < 2 ^ b.n → ∀ S2 : Mem, (∀ a, a ≠ 0 → a ≠ 14 → a ≠ 15 → S2 a = S1 a) → (∀ j, j ≠ 14 → j ≠ 15 → S2 0 j = S1 0 j) → (∀ w, w < b.n → S2 15 w = nI (bk_can b m k ws w).toNat) → (∀ u w, t + 1 ≤ u → u < 2 ^ b.n → w < b.n → u.testBit w = true → S2 14 (12 * u + w) = nI (mc b (bk_can b m k ws) u w)) → PW l x g shM m_X12_findTales (Qv x g shM K) 53 [(0, .ref (g.ad 0)), (2, .int (nI t))] [] S2 := by
    intro t
    induction t with
    | zero =>
      intro _ S2 g1 g2 g3 g4
      exact s_X12_findTales_53 ok _ S2 ⟨fun _ => hk S2 (fun a h0 h6 h7 h8 h14 h15 => by rw [g1 a h0 h14 h15]; exact o1 a (by omega)) (fun j h1 h2 => by rw [g2 j h1 h2, o1 0 (by omega)]) g3 (fun u w hu => g4 u w hu), fun c => absurd (by decide) c⟩
    | succ t ih =>
      intro ht S2 g1 g2 g3 g4
      refine s_X12_findTales_53 ok _ S2 ⟨fun c => absurd c (by rw [nI_le0 (by omega)]; omega), fun _ => ?_⟩
      refine lpU (fun w => ∀ S2 : Mem, (∀ a, a ≠ 0 → a ≠ 14 → a ≠ 15 → S2 a = S1 a) → (∀ j, j ≠ 14 → j ≠ 15 → S2 0 j = S1 0 j) → (∀ w, w < b.n → S2 15 w = nI (bk_can b m k ws w).toNat) → (∀ u w, t + 1 + 1 ≤ u → u < 2 ^ b.n → w < b.n → u.testBit w = true → S2 14 (12 * u + w) = nI (mc b (bk_can b m k ws) u w)) → (∀ v, v < w → (t + 1).testBit v = true → S2 14 (12 * (t + 1) + v) = nI (mc b (bk_can b m k ws) (t + 1) v)) → PW l x g shM m_X12_findTales (Qv x g shM K) 59 [(0, .ref (g.ad 0)), (2, .int (nI (t + 1))), (3, .int (nI w))] [] S2) b.n ?_ (fun w hw ih2 => ?_) 0 (Nat.zero_le _) S2 g1 g2 g3 g4 (fun v hv => by omega)
      · intro S3 k1 k2 k3 k4 k5
        have hM3 : MB S3 b := hM1.of (k2 4 (by decide) (by decide)) (fun a _ _ => k1 a (by omega) (by omega) (by omega))
        refine s_X12_findTales_59 ok _ _ S3 ⟨fun _ => ?_, fun c => absurd ?_ c⟩
        · rw [pk_m1]
          refine ih (by omega) S3 k1 k2 k3 (fun u w h1 h2 h3 h4 => ?_)
          rcases Nat.lt_or_ge (t + 1) u with q | q
          · exact k4 u w q h2 h3 h4
          · have : u = t + 1 := by omega
            subst this
            exact k5 w h3 h4
        · simp (disch := omega) only [hM3.1, nI_leI, Nat.le_refl]
      · intro S3 k1 k2 k3 k4 k5
        have hM3 : MB S3 b := hM1.of (k2 4 (by decide) (by decide)) (fun a _ _ => k1 a (by omega) (by omega) (by omega))
        refine s_X12_findTales_59 ok _ _ S3 ⟨fun c => absurd c ?_, fun _ => ?_⟩
        · simp (disch := omega) only [hM3.1, nI_leI]; omega
        simp (disch := omega) only [bit_n, bI1, nI_add]
        refine ⟨fun y => ih2 S3 k1 k2 k3 k4 (fun v hv hv2 => ?_), fun y => ?_⟩
        · rcases Nat.lt_or_ge v w with q | q
          · exact k5 v q hv2
          · have : v = w := by omega
            subst this
            exact absurd hv2 y
        · refine lpU (fun v => PW l x g shM m_X12_findTales (Qv x g shM K) 82 [(0, .ref (g.ad 0)), (2, .int (nI (t + 1))), (3, .int (nI w)), (4, .int (nI (mxS (mcs b (bk_can b m k ws) (t + 1) w) v))), (5, .int (nI v))] [] S3) b.n ?_ (fun v hv ih3 => ?_) 0 (Nat.zero_le _)
          · refine s_X12_findTales_82 ok _ _ _ _ S3 ⟨fun _ => ?_, fun c => absurd ?_ c⟩
            · simp (disch := omega) only [pk_mul, nI_add, cl, nI_clamp]
              refine ⟨inI (by omega) (by decide), ?_⟩
              refine ih2 _ (fun a h0 h1 h2 => by rw [st2_off h1]; exact k1 a h0 h1 h2) (fun j h1 h2 => by rw [st2_off (by decide)]; exact k2 j h1 h2) (fun w hw => by rw [st2_off (by decide)]; exact k3 w hw) (fun u w h1 h2 h3 h4 => by rw [st2_get, if_neg (by omega)]; exact k4 u w h1 h2 h3 h4) (fun v hv hv2 => ?_)
              rw [st2_get]
              split
              · rename_i q
                have : v = w := by omega
                subst this
                rw [mc_eq hn (by omega)]
              · exact k5 v (by omega) hv2
            · simp (disch := omega) only [hM3.1, nI_leI, Nat.le_refl]
          · have hor := or_lt (v := t + 1) (k := b.n) ht hv
            have hml := mc_le (b := b) (rb := bk_can b m k ws) ((t + 1) ||| 2 ^ v) v
            have hmx : mxS (mcs b (bk_can b m k ws) (t + 1) w) v ≤ 4097 := mxS_le (fun i _ => by
              unfold mcs
              have := mc_le (b := b) (rb := bk_can b m k ws) ((t + 1) ||| 2 ^ i) i
              split <;> omega)
            refine s_X12_findTales_82 ok _ _ _ _ S3 ⟨fun c => absurd c ?_, fun _ => ?_⟩
            · simp (disch := omega) only [hM3.1, nI_leI]; omega
            simp (disch := omega) only [bit_n, bI0, nI_add]
            refine ⟨fun z => ?_, fun z => c_X12_follows hb hM3 hw hv (k3 v hv) ?_⟩
            · rw [Bool.not_eq_false] at z
              rw [mxS_step_le (by unfold mcs; rw [z]; simp)] at ih3
              exact ih3
            · have hgt := or_gt z
              have ht14 := k4 ((t + 1) ||| 2 ^ v) v (by omega) hor hv (by rw [fb_bit_set]; simp)
              rw [bI0]
              refine ⟨fun u => ?_, fun u => ?_⟩
              · rw [mxS_step_le (by unfold mcs; rw [u]; simp)] at ih3
                exact ih3
              · rw [Bool.not_eq_false] at u
                have ev : mcs b (bk_can b m k ws) (t + 1) w v = 1 + mc b (bk_can b m k ws) ((t + 1) ||| 2 ^ v) v := by
                  unfold mcs; rw [u, z]; rfl
                simp (disch := omega) only [jshl_1, fa_or, pk_mul, nI_add, cl, nI_clamp, ht14, nI_leI]
                refine ⟨inI (by omega) (by decide), fun r => ?_, fun r => ⟨inI (by omega) (by decide), ?_⟩⟩
                · rw [mxS_step_le (by omega)] at ih3; exact ih3
                · rw [mxS_step_gt (by omega), ev] at ih3; exact ih3
  -- who can be read
  refine lpU (fun w => ∀ S2 : Mem, (∀ a, a ≠ 0 → a ≠ 15 → S2 a = S1 a) → (∀ j, j ≠ 14 → j ≠ 15 → S2 0 j = S1 0 j) → (∀ v, v < w → S2 15 v = nI (bk_can b m k ws v).toNat) → PW l x g shM m_X12_findTales (Qv x g shM K) 6 [(0, .ref (g.ad 0)), (1, .int (nI c)), (2, .int (nI w))] [] S2) b.n ?_ (fun w hw ih => ?_) 0 (Nat.zero_le _) S1 (fun _ _ _ => rfl) (fun _ _ _ => rfl) (fun v hv => by omega)
  · intro S2 g1 g2 g3
    have hM2 : MB S2 b := hM1.of (g2 4 (by decide) (by decide)) (fun a _ _ => g1 a (by omega) (by omega))
    refine s_X12_findTales_6 ok _ _ S2 ⟨fun _ => ?_, fun c => absurd ?_ c⟩
    · have hp := Nat.two_pow_pos b.n
      simp (disch := omega) only [hM2.1, jshl_1, pk_sub]
      exact L2 (2 ^ b.n - 1) (by omega) S2 (fun a h0 h1 h2 => g1 a h0 h2) g2 g3 (fun u w h1 h2 => by omega)
    · simp (disch := omega) only [hM2.1, nI_leI, Nat.le_refl]
  · intro S2 g1 g2 g3
    have hM2 : MB S2 b := hM1.of (g2 4 (by decide) (by decide)) (fun a _ _ => g1 a (by omega) (by omega))
    have hC2 : MC S2 b := hC.of (fun a _ _ => g1 a (by omega) (by omega))
    have e9 : S2 9 c = nI k := by rw [g1 9 (by decide) (by decide), o1 9 (by omega)]; exact h9
    have e10 : S2 10 c = nI ws := by rw [g1 10 (by decide) (by decide), o1 10 (by omega)]; exact h10
    have e11 : S2 11 c = oI m := by rw [g1 11 (by decide) (by decide), o1 11 (by omega)]; exact hS
    refine s_X12_findTales_6 ok _ _ S2 ⟨fun c => absurd c ?_, fun _ => ?_⟩
    · simp (disch := omega) only [hM2.1, nI_leI]; omega
    simp (disch := omega) only [cl, nI_clamp, e9, e10]
    refine ⟨inI hc (by decide), inI hc (by decide), c_X12_canRead hb hM2 hC2 hc hw hm e11 hkn hws (fun S3 R => ⟨inI (by omega) (by decide), vnrB _, ?_⟩)⟩
    rw [nI_add]
    refine ih _ (fun a h0 h1 => by rw [st2_off h1, R.1 a h0]; exact g1 a h0 h1) (fun j h1 h2 => by rw [st2_off (by decide), R.2 j h1 h2]; exact g2 j h1 h2) (fun v hv => ?_)
    rw [st2_get]
    split
    · rename_i q; subst q; rfl
    · rw [R.1 15 (by decide)]; exact g3 v (by omega)
end MOD4
