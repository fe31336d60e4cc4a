/-! PART 23: the model: common sounds, reading -/
theorem MB.of {S S2 : Mem} {b : Bk} (h : MB S b) (h0 : S2 0 4 = S 0 4) (h1 : ∀ a, 1 ≤ a → a ≤ 4 → S2 a = S a) : MB S2 b := by
  refine ⟨h0.trans h.1, fun w hw => ?_⟩
  rw [h1 3 (by decide) (by decide), h1 4 (by decide) (by decide), h1 1 (by decide) (by decide), h1 2 (by decide) (by decide)]
  exact h.2 w hw
theorem MC.of {S S2 : Mem} {b : Bk} (h : MC S b) (h1 : ∀ a, 6 ≤ a → a ≤ 8 → S2 a = S a) : MC S2 b := by
  unfold MC
  rw [h1 6 (by decide) (by decide), h1 7 (by decide) (by decide), h1 8 (by decide) (by decide)]
  exact h
theorem sm_le {f : Nat → Nat} {c : Nat} : ∀ {n : Nat}, (∀ k, k < n → f k ≤ c) → fb_sm f n ≤ n * c := fun h => fb_sm_bound h
theorem hw_le {b : Bk} (hb : BOk b) (k : Nat) {w : Nat} (hw : w < b.n) : bk_hw b k w ≤ 4995 := by
  obtain ⟨h1, h2, h3, h4, h5⟩ := hb.2 w hw
  have h := sm_le (f := fun i => if 10 * b.sg w i + b.sd w i = k then b.of w else 0) (c := 999) (n := b.len w) (fun i hi => by split <;> omega)
  unfold bk_hw
  have : b.len w * 999 ≤ 5 * 999 := Nat.mul_le_mul_right _ h2
  omega
theorem hs_le {b : Bk} (hb : BOk b) (k : Nat) {n : Nat} (hn : n ≤ b.n) : fb_sm (bk_hw b k) n ≤ 59940 := by
  have h := sm_le (f := bk_hw b k) (c := 4995) (n := n) (fun w hw => hw_le hb k (by omega))
  have := hb.1
  have : n * 4995 ≤ 12 * 4995 := Nat.mul_le_mul_right _ (by omega)
  omega
theorem has_le {b : Bk} (hb : BOk b) (k : Nat) : bk_has b k ≤ 59940 := hs_le hb k (Nat.le_refl _)
theorem comm_lt {b : Bk} {s u : Nat} (h : bk_comm b s = some u) : u < 10 := am_lt h
/-- the greatest so far, 0 if none -/
def gmv (f : Nat → Nat) (o : Option Nat) : Nat := match o with
  | none => 0
  | some m => f m
theorem gm_no {f : Nat → Nat} {u : Nat} (h : f u ≤ gmv f (am (fun u => decide (0 < f u)) f u)) : am (fun u => decide (0 < f u)) f (u + 1) = am (fun u => decide (0 < f u)) f u := by
  rw [am]
  cases hm : am (fun u => decide (0 < f u)) f u with
  | none =>
    rw [hm] at h
    have h : f u ≤ 0 := h
    dsimp only
    rw [if_neg (by simp; omega)]
  | some m =>
    rw [hm] at h
    have h : f u ≤ f m := h
    dsimp only
    rw [if_neg (by simp; omega)]
theorem gm_yes {f : Nat → Nat} {u : Nat} (h : gmv f (am (fun u => decide (0 < f u)) f u) < f u) : am (fun u => decide (0 < f u)) f (u + 1) = some u := by
  rw [am]
  cases hm : am (fun u => decide (0 < f u)) f u with
  | none =>
    rw [hm] at h
    have h : 0 < f u := h
    dsimp only
    rw [if_pos (by simp; omega)]
  | some m =>
    rw [hm] at h
    have h : f m < f u := h
    dsimp only
    rw [if_pos (by simp; omega)]
section MOD1
variable {l : Launch} {g : Geo} {S : Mem} {b : Bk}
set_option maxHeartbeats 4000000 in
theorem c_X12_findCommon {K : Mem → Prop} (hb : BOk b) (hM : MB S b) (hk : ∀ S2, (∀ a, a < 6 ∨ 8 < a → S2 a = S a) → MC S2 b → K S2) : MWv l g shM m_X12_findCommon [.ref (g.ad 0)] S K := by
  have hn := hb.1
  have hle := fun k => has_le hb k
  refine MWv.intro _ rfl (Nat.le_of_ble_eq_true rfl) rfl (fun x ok => s_X12_findCommon_0 ok S ?_)
  -- the last loop
  have L4 : ∀ S2 : Mem, (∀ a, a < 6 ∨ 8 < a → S2 a = S a) → (∀ k, k < 100 → S2 6 k = nI (bk_has b k)) → (∀ s, s < 10 → S2 7 s = oI (bk_comm b s)) → PW l x g shM m_X12_findCommon (Qv x g shM K) 167 [(0, .ref (g.ad 0)), (1, .int (nI 0))] [] S2 := by
    intro S2 g1 g2 g3
    refine lpU (fun w => ∀ S2 : Mem, (∀ a, a < 6 ∨ 8 < a → S2 a = S a) → (∀ k, k < 100 → S2 6 k = nI (bk_has b k)) → (∀ s, s < 10 → S2 7 s = oI (bk_comm b s)) → (∀ v, v < w → S2 8 v = nI (bk_reg b v).toNat) → PW l x g shM m_X12_findCommon (Qv x g shM K) 167 [(0, .ref (g.ad 0)), (1, .int (nI w))] [] S2) b.n ?_ (fun w hw ih => ?_) 0 (Nat.zero_le _) S2 g1 g2 g3 (fun v hv => by omega)
    · intro S2 g1 g2 g3 g4
      have e := hM.1
      rw [← g1 0 (by omega)] at e
      refine s_X12_findCommon_167 ok _ S2 ⟨fun _ => hk S2 g1 ⟨g2, g3, g4⟩, fun c => absurd ?_ c⟩
      simp (disch := omega) only [e, nI_leI, Nat.le_refl]
    · intro S2 g1 g2 g3 g4
      obtain ⟨h1, h2, h3, h4, h5⟩ := hb.2 w hw
      have hM2 : MB S2 b := hM.of (by rw [g1 0 (by omega)]) (fun a _ _ => g1 a (by omega))
      have e := hM2.1
      refine s_X12_findCommon_167 ok _ S2 ⟨fun c => absurd c ?_, fun _ => ⟨inI (by omega) (by decide), ?_⟩⟩
      · simp (disch := omega) only [e, nI_leI]; omega
      refine lpU (fun i => ∀ S2 : Mem, (∀ a, a < 6 ∨ 8 < a → S2 a = S a) → (∀ k, k < 100 → S2 6 k = nI (bk_has b k)) → (∀ s, s < 10 → S2 7 s = oI (bk_comm b s)) → (∀ v, v < w → S2 8 v = nI (bk_reg b v).toNat) → S2 8 w = nI (alB (fun i => decide (bk_comm b (b.sg w i) = some (b.sd w i))) i).toNat → PW l x g shM m_X12_findCommon (Qv x g shM K) 184 [(0, .ref (g.ad 0)), (1, .int (nI w)), (2, .int (nI i))] [] S2) (b.len w) ?_ (fun i hi ih2 => ?_) 0 (Nat.zero_le _) _ (fun a ha => by rw [st2_off (by omega)]; exact g1 a ha) (fun k hk => by rw [st2_off (by omega)]; exact g2 k hk) (fun s hs => by rw [st2_off (by omega)]; exact g3 s hs) (fun v hv => by rw [st2_get, cl, nI_clamp (by omega), if_neg (by omega)]; exact g4 v hv) (by rw [st2_get, cl, nI_clamp (by omega), if_pos rfl]; rfl)
      · intro S3 k1 k2 k3 k4 k5
        have hM3 : MB S3 b := hM.of (by rw [k1 0 (by omega)]) (fun a _ _ => k1 a (by omega))
        obtain ⟨e1, e2, e3⟩ := hM3.2 w hw
        refine s_X12_findCommon_184 ok _ _ S3 ⟨inI (by omega) (by decide), fun _ => ?_, fun c => absurd ?_ c⟩
        · rw [nI_add]
          refine ih S3 k1 k2 k3 (fun v hv => ?_)
          rcases Nat.lt_or_ge v w with q | q
          · exact k4 v q
          · have : v = w := by omega
            subst this; exact k5
        · simp (disch := omega) only [cl, nI_clamp, e1, nI_leI, Nat.le_refl]
      · intro S3 k1 k2 k3 k4 k5
        have hM3 : MB S3 b := hM.of (by rw [k1 0 (by omega)]) (fun a _ _ => k1 a (by omega))
        obtain ⟨e1, e2, e3⟩ := hM3.2 w hw
        obtain ⟨q1, q2⟩ := h5 i hi
        have hc := k3 _ q1
        have hcl : ∀ k, bk_comm b (b.sg w i) = some k → k < 2 ^ 31 := fun k h => by have := comm_lt h; omega
        refine s_X12_findCommon_184 ok _ _ S3 ⟨inI (by omega) (by decide), fun c => absurd c ?_, fun c => ?_⟩
        · simp (disch := omega) only [cl, nI_clamp, e1, nI_leI]; omega
        simp (disch := omega) only [pk_mul, nI_add, cl, nI_clamp, (e3 i hi).1, (e3 i hi).2, hc]
        refine ⟨inI (by omega) (by decide), inI (by omega) (by decide), inI (by omega) (by decide), fun c => ⟨inI (by omega) (by decide), ?_⟩, fun c => ⟨inI (by omega) (by decide), inI (by omega) (by decide), ?_⟩⟩
        · refine ih2 _ (fun a ha => by rw [st2_off (by omega)]; exact k1 a ha) (fun k hk => by rw [st2_off (by omega)]; exact k2 k hk) (fun s hs => by rw [st2_off (by omega)]; exact k3 s hs) (fun v hv => by rw [st2_get, if_neg (by omega)]; exact k4 v hv) ?_
          rw [st2_get, if_pos rfl, alB]
          rw [oI_nI hcl (by omega)] at c
          simp [c]
        · refine ih2 _ (fun a ha => by rw [st2_off (by omega)]; exact k1 a ha) (fun k hk => by rw [st2_off (by omega)]; exact k2 k hk) (fun s hs => by rw [st2_off (by omega)]; exact k3 s hs) (fun v hv => by rw [st2_get, if_neg (by omega)]; exact k4 v hv) ?_
          rw [st2_get, if_pos rfl, alB, k5]
          rw [oI_nI hcl (by omega)] at c
          simp [c]
  -- the loop over signs
  have L3 : ∀ S2 : Mem, (∀ a, a < 6 ∨ 7 < a → S2 a = S a) → (∀ k, k < 100 → S2 6 k = nI (bk_has b k)) → PW l x g shM m_X12_findCommon (Qv x g shM K) 95 [(0, .ref (g.ad 0)), (1, .int (nI 0))] [] S2 := by
    intro S2 g1 g2
    refine lpU (fun s => ∀ S2 : Mem, (∀ a, a < 6 ∨ 7 < a → S2 a = S a) → (∀ k, k < 100 → S2 6 k = nI (bk_has b k)) → (∀ t, t < s → S2 7 t = oI (bk_comm b t)) → PW l x g shM m_X12_findCommon (Qv x g shM K) 95 [(0, .ref (g.ad 0)), (1, .int (nI s))] [] S2) 10 ?_ (fun s hs ih => ?_) 0 (Nat.zero_le _) S2 g1 g2 (fun v hv => by omega)
    · intro S2 g1 g2 g3
      exact s_X12_findCommon_95 ok _ S2 ⟨fun _ => L4 S2 (fun a ha => g1 a (by omega)) g2 g3, fun c => absurd (nI_le (Nat.le_refl 10) (by decide)) c⟩
    · intro S2 g1 g2 g3
      refine s_X12_findCommon_95 ok _ S2 ⟨fun c => absurd c (nI_ge hs (by decide)), fun _ => ⟨inI hs (by decide), ?_⟩⟩
      refine lpU (fun u => ∀ S2 : Mem, (∀ a, a < 6 ∨ 7 < a → S2 a = S a) → (∀ k, k < 100 → S2 6 k = nI (bk_has b k)) → (∀ t, t < s → S2 7 t = oI (bk_comm b t)) → S2 7 s = oI (am (fun u => decide (0 < bk_has b (10 * s + u))) (fun u => bk_has b (10 * s + u)) u) → PW l x g shM m_X12_findCommon (Qv x g shM K) 113 [(0, .ref (g.ad 0)), (1, .int (nI s)), (2, .int (nI (gmv (fun u => bk_has b (10 * s + u)) (am (fun u => decide (0 < bk_has b (10 * s + u))) (fun u => bk_has b (10 * s + u)) u)))), (3, .int (nI u))] [] S2) 10 ?_ (fun u hu ih2 => ?_) 0 (Nat.zero_le _) _ (fun a ha => by rw [st2_off (by omega)]; exact g1 a ha) (fun k hk => by rw [st2_off (by omega)]; exact g2 k hk) (fun t ht => by rw [st2_get, cl, nI_clamp (by omega), if_neg (by omega)]; exact g3 t ht) (by rw [st2_get, cl, nI_clamp (by omega), if_pos rfl]; rfl)
      · intro S3 k1 k2 k3 k4
        refine s_X12_findCommon_113 ok _ _ _ S3 ⟨fun _ => ?_, fun c => absurd (nI_le (Nat.le_refl 10) (by decide)) c⟩
        rw [nI_add]
        refine ih S3 k1 k2 (fun t ht => ?_)
        rcases Nat.lt_or_ge t s with q | q
        · exact k3 t q
        · have : t = s := by omega
          subst this; exact k4
      · intro S3 k1 k2 k3 k4
        have hg : gmv (fun u => bk_has b (10 * s + u)) (am (fun u => decide (0 < bk_has b (10 * s + u))) (fun u => bk_has b (10 * s + u)) u) ≤ 59940 := by
          cases am (fun u => decide (0 < bk_has b (10 * s + u))) (fun u => bk_has b (10 * s + u)) u with
          | none => exact Nat.zero_le _
          | some m => exact hle _
        have hz := hle (10 * s + u)
        refine s_X12_findCommon_113 ok _ _ _ S3 ⟨fun c => absurd c (nI_ge hu (by decide)), fun _ => ?_⟩
        simp (disch := omega) only [pk_mul, nI_add, cl, nI_clamp, k2 (10 * s + u) (by omega), st2_off, nI_leI]
        refine ⟨inI (by omega) (by decide), fun c => ?_, fun c => ⟨inI (by omega) (by decide), inI (by omega) (by decide), ?_⟩⟩
        · have e := gm_no (f := fun u => bk_has b (10 * s + u)) c
          rw [← e]
          exact ih2 S3 k1 k2 k3 (by rw [e]; exact k4)
        · have e := gm_yes (f := fun u => bk_has b (10 * s + u)) (u := u) (by omega)
          have h2 := ih2 (st2 S3 7 s (nI u)) (fun a ha => by rw [st2_off (by omega)]; exact k1 a ha) (fun k hk => by rw [st2_off (by omega)]; exact k2 k hk) (fun t ht => by rw [st2_get, if_neg (by omega)]; exact k3 t ht) (by rw [st2_get, if_pos rfl, e]; rfl)
          rw [e] at h2
          exact h2
  -- the loop over words
  have L2 : ∀ S2 : Mem, (∀ a, a ≠ 6 → S2 a = S a) → (∀ k, k < 100 → S2 6 k = nI 0) → PW l x g shM m_X12_findCommon (Qv x g shM K) 23 [(0, .ref (g.ad 0)), (1, .int (nI 0))] [] S2 := by
    intro S2 g1 g2
    refine lpU (fun w => ∀ S2 : Mem, (∀ a, a ≠ 6 → S2 a = S a) → (∀ k, k < 100 → S2 6 k = nI (fb_sm (bk_hw b k) w)) → PW l x g shM m_X12_findCommon (Qv x g shM K) 23 [(0, .ref (g.ad 0)), (1, .int (nI w))] [] S2) b.n ?_ (fun w hw ih => ?_) 0 (Nat.zero_le _) S2 g1 g2
    · intro S2 g1 g2
      have e := hM.1
      rw [← g1 0 (by omega)] at e
      refine s_X12_findCommon_23 ok _ S2 ⟨fun _ => L3 S2 (fun a ha => g1 a (by omega)) g2, fun c => absurd ?_ c⟩
      simp (disch := omega) only [e, nI_leI, Nat.le_refl]
    · intro S2 g1 g2
      obtain ⟨h1, h2, h3, h4, h5⟩ := hb.2 w hw
      have hM2 : MB S2 b := hM.of (by rw [g1 0 (by omega)]) (fun a _ _ => g1 a (by omega))
      have e := hM2.1
      refine s_X12_findCommon_23 ok _ S2 ⟨fun c => absurd c ?_, fun _ => ?_⟩
      · simp (disch := omega) only [e, nI_leI]; omega
      refine lpU (fun i => ∀ S2 : Mem, (∀ a, a ≠ 6 → S2 a = S a) → (∀ k, k < 100 → S2 6 k = nI (fb_sm (bk_hw b k) w + fb_sm (fun i => if 10 * b.sg w i + b.sd w i = k then b.of w else 0) i)) → PW l x g shM m_X12_findCommon (Qv x g shM K) 33 [(0, .ref (g.ad 0)), (1, .int (nI w)), (2, .int (nI i))] [] S2) (b.len w) ?_ (fun i hi ih2 => ?_) 0 (Nat.zero_le _) S2 g1 g2
      · intro S3 k1 k2
        have hM3 : MB S3 b := hM.of (by rw [k1 0 (by omega)]) (fun a _ _ => k1 a (by omega))
        obtain ⟨e1, e2, e3⟩ := hM3.2 w hw
        refine s_X12_findCommon_33 ok _ _ S3 ⟨inI (by omega) (by decide), fun _ => ?_, fun c => absurd ?_ c⟩
        · rw [nI_add]
          exact ih S3 k1 k2
        · simp (disch := omega) only [cl, nI_clamp, e1, nI_leI, Nat.le_refl]
      · intro S3 k1 k2
        have hM3 : MB S3 b := hM.of (by rw [k1 0 (by omega)]) (fun a _ _ => k1 a (by omega))
        obtain ⟨e1, e2, e3⟩ := hM3.2 w hw
        obtain ⟨q1, q2⟩ := h5 i hi
        refine s_X12_findCommon_33 ok _ _ S3 ⟨inI (by omega) (by decide), fun c => absurd c ?_, fun c => ?_⟩
        · simp (disch := omega) only [cl, nI_clamp, e1, nI_leI]; omega
        simp (disch := omega) only [pk_mul, nI_add, cl, nI_clamp, (e3 i hi).1, (e3 i hi).2, e2, k2 (10 * b.sg w i + b.sd w i) (by omega)]
        refine ⟨inI (by omega) (by decide), inI (by omega) (by decide), inI (by omega) (by decide), inI (by omega) (by decide), inI (by omega) (by decide), ?_⟩
        refine ih2 _ (fun a ha => by rw [st2_off ha]; exact k1 a ha) (fun k hk => ?_)
        rw [st2_get]
        split
        · rename_i q
          subst q
          rw [fb_sm_succ, if_pos rfl]
          congr 1; omega
        · rename_i q
          rw [k2 k hk, fb_sm_succ, if_neg (fun h => q h.symm)]
          congr 1
  -- the table is cleared
  refine lpU (fun k => ∀ S2 : Mem, (∀ a, a ≠ 6 → S2 a = S a) → (∀ j, j < k → S2 6 j = nI 0) → PW l x g shM m_X12_findCommon (Qv x g shM K) 2 [(0, .ref (g.ad 0)), (1, .int (nI k))] [] S2) 100 ?_ (fun k hk ih => ?_) 0 (Nat.zero_le _) S (fun _ _ => rfl) (fun j hj => by omega)
  · intro S2 g1 g2
    exact s_X12_findCommon_2 ok _ S2 ⟨fun _ => L2 S2 g1 g2, fun c => absurd (nI_le (Nat.le_refl 100) (by decide)) c⟩
  · intro S2 g1 g2
    refine s_X12_findCommon_2 ok _ S2 ⟨fun c => absurd c (nI_ge hk (by decide)), fun _ => ⟨inI hk (by decide), ?_⟩⟩
    rw [nI_add]
    refine ih _ (fun a ha => by rw [st2_off ha]; exact g1 a ha) (fun j hj => ?_)
    rw [st2_get, cl, nI_clamp (by omega)]
    split
    · rfl
    · exact g2 j (by omega)
end MOD1
