/-! PART 24: the model: reading and giving -/
/-- what a sign is taken for; m: ten times the lesser one and the other -/
def taken (m : Option Nat) (s : Nat) : Nat := match m with
  | none => s
  | some k => if k / 10 = s then k % 10 else if k % 10 = s then k / 10 else s
def mxOk (m : Option Nat) : Prop := ∀ k, m = some k → k < 100
theorem taken_lt {m : Option Nat} (hm : mxOk m) {s : Nat} (hs : s < 10) : taken m s < 10 := by
  unfold taken
  cases m with
  | none => exact hs
  | some k =>
    have := hm k rfl
    dsimp only
    split
    · omega
    · split <;> omega
def sdAs (b : Bk) (m : Option Nat) (w v : Nat) : Bool := decide (b.len v = b.len w) && alB (fun i => decide (bk_comm b (taken m (b.sg w i)) = some (b.sd v i))) (b.len w)
def bk_sounded (b : Bk) (m : Option Nat) (w : Nat) : Option Nat := if sdAs b m w w = true then some w else fm (sdAs b m w) b.n
def bk_guess (b : Bk) (s : Nat) : Option Nat := am (fun w => decide (b.sg w 0 = s)) b.of b.n
def bk_way (b : Bk) (k ws w : Nat) : Nat := if ws.testBit w = true then 0 else if sub (bk_bits b w) k then 1 else if k.testBit (b.sg w 0) = true then 2 else 3
def bk_rd (b : Bk) (m : Option Nat) (k ws w : Nat) : Option Nat := if ws.testBit w = true then some w else if sub (bk_bits b w) k then bk_sounded b m w else if k.testBit (b.sg w 0) = true then bk_guess b (b.sg w 0) else none
def bk_can (b : Bk) (m : Option Nat) (k ws w : Nat) : Bool := decide (bk_rd b m k ws w = some w)
def bk_share (b : Bk) (m : Option Nat) (k ws : Nat) : Nat := fb_sm (fun w => if bk_can b m k ws w = true then b.of w else 0) b.n
def bk_given (b : Bk) (s w : Nat) : Bool := bk_reg b w && decide (sub (bk_bits b w) s)
def bk_gives (b : Bk) (s ws : Nat) : Nat := fb_sm (fun w => if (ws.testBit w || bk_given b s w) = true then b.of w else 0) b.n
theorem alB_mono {p : Nat → Bool} {i n : Nat} (h : i ≤ n) (hf : alB p i = false) : alB p n = false := by
  cases hq : alB p n with
  | false => rfl
  | true =>
    have := alB_iff.mpr (fun j (hj : j < i) => alB_iff.mp hq j (by omega))
    rw [hf] at this; cases this
theorem bits_lt {b : Bk} (hb : BOk b) {w : Nat} (hw : w < b.n) : bk_bits b w < 1024 := by
  obtain ⟨h1, h2, h3, h4, h5⟩ := hb.2 w hw
  exact orB_lt (k := 10) (fun i hi => Nat.pow_lt_pow_right (by decide) (h5 i hi).1)
theorem bits_bit {b : Bk} {w j : Nat} : (bk_bits b w).testBit j = true ↔ ∃ i, i < b.len w ∧ b.sg w i = j := by
  unfold bk_bits
  rw [orB_bit]
  simp [Nat.testBit_two_pow]
theorem smO_le {b : Bk} (hb : BOk b) (p : Nat → Bool) {n : Nat} (hn : n ≤ b.n) : fb_sm (fun w => if p w = true then b.of w else 0) n ≤ 11988 := by
  have h := sm_le (f := fun w => if p w = true then b.of w else 0) (c := 999) (n := n) (fun w hw => by have := (hb.2 w (by omega)).2.2.2.1; split <;> omega)
  have := hb.1
  have : n * 999 ≤ 12 * 999 := Nat.mul_le_mul_right _ (by omega)
  omega
theorem rd_lt {b : Bk} {m : Option Nat} {k ws w r : Nat} (hw : w < b.n) (h : bk_rd b m k ws w = some r) : r < b.n := by
  unfold bk_rd at h
  split at h
  · cases h; exact hw
  · split at h
    · unfold bk_sounded at h
      split at h
      · cases h; exact hw
      · exact (fm_some.mp h).1
    · split at h
      · exact am_lt h
      · cases h
section MOD2
variable {l : Launch} {g : Geo} {S : Mem} {b : Bk} {K : Int32 → Mem → Prop}
theorem c_X12_takenFor {c s : Nat} {m : Option Nat} (hc : c < 4) (hs : s < 10) (hm : mxOk m) (hS : S 11 c = oI m) (hk : K (nI (taken m s)) S) : MWi l g shM m_X12_takenFor [.ref (g.ad 0), .int (nI c), .int (nI s)] S K := by
  refine MWi.intro _ rfl (Nat.le_of_ble_eq_true rfl) rfl (fun x ok => s_X12_takenFor_0 ok _ _ S ⟨inI hc (by decide), ?_⟩)
  simp (disch := omega) only [cl, nI_clamp, hS]
  cases m with
  | none => exact ⟨fun q => absurd q (by decide), fun _ => hk⟩
  | some k =>
    have h1 := hm k rfl
    have hk : K (nI (if k / 10 = s then k % 10 else if k % 10 = s then k / 10 else s)) S := hk
    simp (disch := omega) only [oI_some, pk_div, jrem_n, nI_eq]
    refine ⟨fun _ => ⟨by decide, fun q => ⟨by decide, fun r => ?_, fun r => ⟨by decide, ?_⟩⟩, fun q => ⟨by decide, ?_⟩⟩, fun q => absurd (nI_pos' (by omega)) q⟩
    · rw [if_neg q, if_neg r] at hk; exact hk
    · rw [if_neg q, if_pos r] at hk; exact hk
    · rw [if_pos q] at hk; exact hk
theorem c_X12_soundsAs {c w v : Nat} {m : Option Nat} (hb : BOk b) (hM : MB S b) (hC : MC S b) (hc : c < 4) (hw : w < b.n) (hv : v < b.n) (hm : mxOk m) (hS : S 11 c = oI m) (hk : K (nI (sdAs b m w v).toNat) S) : MWi l g shM m_X12_soundsAs [.ref (g.ad 0), .int (nI c), .int (nI w), .int (nI v)] S K := by
  have hn := hb.1
  obtain ⟨h1, h2, h3, h4, h5⟩ := hb.2 w hw
  obtain ⟨e1, e2, e3⟩ := hM.2 w hw
  obtain ⟨f1, f2, f3, f4, f5⟩ := hb.2 v hv
  obtain ⟨d1, d2, d3⟩ := hM.2 v hv
  refine MWi.intro _ rfl (Nat.le_of_ble_eq_true rfl) rfl (fun x ok => s_X12_soundsAs_0 ok _ _ _ S ⟨inI (by omega) (by decide), inI (by omega) (by decide), ?_⟩)
  simp (disch := omega) only [cl, nI_clamp, e1, d1, nI_eq]
  have L : PW l x g shM m_X12_soundsAs (Qi x g shM K) 25 [(0, .ref (g.ad 0)), (1, .int (nI c)), (2, .int (nI w)), (3, .int (nI v)), (4, .int (nI (decide (b.len v = b.len w) && alB (fun i => decide (bk_comm b (taken m (b.sg w i)) = some (b.sd v i))) 0).toNat)), (5, .int (nI 0))] [] S := by
    refine lpU (fun i => PW l x g shM m_X12_soundsAs (Qi x g shM K) 25 [(0, .ref (g.ad 0)), (1, .int (nI c)), (2, .int (nI w)), (3, .int (nI v)), (4, .int (nI (decide (b.len v = b.len w) && alB (fun i => decide (bk_comm b (taken m (b.sg w i)) = some (b.sd v i))) i).toNat)), (5, .int (nI i))] [] S) (b.len w) ?_ (fun i hi ih => ?_) 0 (Nat.zero_le _)
    · refine s_X12_soundsAs_25 ok _ _ _ _ _ S ⟨inI (by omega) (by decide), fun _ => ⟨narB _, hk⟩, fun c => absurd ?_ c⟩
      simp (disch := omega) only [cl, nI_clamp, e1, nI_leI, Nat.le_refl]
    · obtain ⟨q1, q2⟩ := h5 i hi
      refine s_X12_soundsAs_25 ok _ _ _ _ _ S ⟨inI (by omega) (by decide), fun c => absurd c ?_, fun _ => ⟨fun z => ⟨narB _, ?_⟩, fun z => ?_⟩⟩
      · simp (disch := omega) only [cl, nI_clamp, e1, nI_leI]; omega
      · rw [bI0] at z
        rw [z]
        have hz : sdAs b m w v = false := by
          unfold sdAs
          rw [Bool.and_eq_false_iff] at z ⊢
          rcases z with z | z
          · exact Or.inl z
          · exact Or.inr (alB_mono (by omega) z)
        rw [hz] at hk; exact hk
      · rw [bI0, Bool.not_eq_false, Bool.and_eq_true, decide_eq_true_eq] at z
        have ht := taken_lt hm q1
        have hcm := hC.2.1 _ ht
        have hcl : ∀ k, bk_comm b (taken m (b.sg w i)) = some k → k < 2 ^ 31 := fun k h => by have := comm_lt h; omega
        obtain ⟨r1, r2⟩ := f5 i (by omega)
        simp (disch := omega) only [pk_mul, nI_add, cl, nI_clamp, (e3 i hi).1, (d3 i (by omega)).2]
        refine ⟨inI (by omega) (by decide), c_X12_takenFor hc q1 hm hS ?_⟩
        simp (disch := omega) only [nI_clamp, hcm, (d3 i (by omega)).2]
        refine ⟨inI ht (by decide), fun y => ?_, fun y => ⟨inI (by omega) (by decide), fun y2 => ?_, fun y2 => ?_⟩⟩
        · rw [oI_lt0 hcl] at y
          rw [alB, y] at ih
          simpa using ih
        · rw [oI_nI hcl (by omega)] at y2
          rw [alB, decide_eq_false y2] at ih
          simpa using ih
        · rw [oI_nI hcl (by omega)] at y2
          rw [alB, z.2, y2, z.1] at ih
          simpa using ih
  refine ⟨fun q => ?_, fun q => ?_⟩
  · rw [decide_eq_false q] at L; exact L
  · rw [decide_eq_true q] at L; exact L
theorem c_X12_sounded {c w : Nat} {m : Option Nat} (hb : BOk b) (hM : MB S b) (hC : MC S b) (hc : c < 4) (hw : w < b.n) (hm : mxOk m) (hS : S 11 c = oI m) (hk : K (oI (bk_sounded b m w)) S) : MWi l g shM m_X12_sounded [.ref (g.ad 0), .int (nI c), .int (nI w)] S K := by
  have hn := hb.1
  refine MWi.intro _ rfl (Nat.le_of_ble_eq_true rfl) rfl (fun x ok => s_X12_sounded_0 ok _ _ S (c_X12_soundsAs hb hM hC hc hw hw hm hS ⟨fun z => ?_, fun z => ?_⟩))
  · rw [bI0] at z
    unfold bk_sounded at hk
    rw [if_neg (by rw [z]; decide)] at hk
    refine lpU (fun v => (∀ j, j < v → sdAs b m w j = false) → PW l x g shM m_X12_sounded (Qi x g shM K) 14 [(0, .ref (g.ad 0)), (1, .int (nI c)), (2, .int (nI w)), (3, .int (nI v))] [] S) b.n ?_ (fun v hv ih => ?_) 0 (Nat.zero_le _) (fun j hj => by omega)
    · intro hno
      rw [fm_none.mpr hno] at hk
      refine s_X12_sounded_14 ok _ _ _ S ⟨fun _ => hk, fun c => absurd ?_ c⟩
      simp (disch := omega) only [hM.1, nI_leI, Nat.le_refl]
    · intro hno
      refine s_X12_sounded_14 ok _ _ _ S ⟨fun c => absurd c ?_, fun _ => c_X12_soundsAs hb hM hC hc hw hv hm hS ⟨fun y => ?_, fun y => ?_⟩⟩
      · simp (disch := omega) only [hM.1, nI_leI]; omega
      · rw [bI0] at y
        rw [nI_add]
        refine ih (fun j hj => ?_)
        rcases Nat.lt_or_ge j v with q | q
        · exact hno j q
        · have : j = v := by omega
          subst this; exact y
      · rw [bI0, Bool.not_eq_false] at y
        rw [fm_some.mpr ⟨hv, y, hno⟩] at hk
        exact hk
  · rw [bI0, Bool.not_eq_false] at z
    unfold bk_sounded at hk
    rw [if_pos z] at hk
    exact hk
theorem am_no {p : Nat → Bool} {f : Nat → Nat} {n : Nat} (h : p n = false) : am p f (n + 1) = am p f n := by
  rw [am]
  cases am p f n <;> simp [h]
theorem am_one {p : Nat → Bool} {f : Nat → Nat} {n : Nat} (h : p n = true) (h0 : am p f n = none) : am p f (n + 1) = some n := by
  rw [am, h0]; simp [h]
theorem am_less {p : Nat → Bool} {f : Nat → Nat} {n m : Nat} (h0 : am p f n = some m) (h : f n ≤ f m) : am p f (n + 1) = some m := by
  rw [am, h0]; dsimp only; rw [if_neg (by simp; omega)]
theorem am_more {p : Nat → Bool} {f : Nat → Nat} {n m : Nat} (hp : p n = true) (h0 : am p f n = some m) (h : f m < f n) : am p f (n + 1) = some n := by
  rw [am, h0]; dsimp only; rw [if_pos (by simp [hp]; omega)]
theorem c_X12_guessed {s : Nat} (hb : BOk b) (hM : MB S b) (hs : s < 10) (hk : K (oI (bk_guess b s)) S) : MWi l g shM m_X12_guessed [.ref (g.ad 0), .int (nI s)] S K := by
  have hn := hb.1
  refine MWi.intro _ rfl (Nat.le_of_ble_eq_true rfl) rfl (fun x ok => s_X12_guessed_0 ok _ S ?_)
  refine lpU (fun w => PW l x g shM m_X12_guessed (Qi x g shM K) 5 [(0, .ref (g.ad 0)), (1, .int (nI s)), (2, .int (oI (am (fun w => decide (b.sg w 0 = s)) b.of w))), (3, .int (nI w))] [] S) b.n ?_ (fun w hw ih => ?_) 0 (Nat.zero_le _)
  · refine s_X12_guessed_5 ok _ _ _ S ⟨fun _ => hk, fun c => absurd ?_ c⟩
    simp (disch := omega) only [hM.1, nI_leI, Nat.le_refl]
  · obtain ⟨h1, h2, h3, h4, h5⟩ := hb.2 w hw
    obtain ⟨e1, e2, e3⟩ := hM.2 w hw
    have e30 := (e3 0 (by omega)).1
    have q1 := (h5 0 (by omega)).1
    rw [Nat.add_zero] at e30
    refine s_X12_guessed_5 ok _ _ _ S ⟨fun c => absurd c ?_, fun _ => ?_⟩
    · simp (disch := omega) only [hM.1, nI_leI]; omega
    simp (disch := omega) only [pk_mul, nI_add, cl, nI_clamp, e30, nI_eq]
    refine ⟨inI (by omega) (by decide), fun y => ?_, fun y => ⟨fun z => ?_, fun z => ?_⟩⟩
    · rw [am_no (by simpa using y)] at ih; exact ih
    · have hlt : ∀ k, am (fun w => decide (b.sg w 0 = s)) b.of w = some k → k < 2 ^ 31 := fun k h => by have := am_lt h; omega
      rw [oI_lt0 hlt] at z
      rw [am_one (by simpa using y) z] at ih; exact ih
    · have hlt : ∀ k, am (fun w => decide (b.sg w 0 = s)) b.of w = some k → k < 2 ^ 31 := fun k h => by have := am_lt h; omega
      rw [oI_lt0 hlt] at z
      cases hm : am (fun w => decide (b.sg w 0 = s)) b.of w with
      | none => exact absurd hm z
      | some j =>
        have hj := am_lt hm
        have fj := (hM.2 j (by omega)).2.1
        have oj := (hb.2 j (by omega)).2.2.2.1
        simp (disch := omega) only [oI_some, nI_clamp, e2, fj, nI_leI]
        refine ⟨inI (by omega) (by decide), inI (by omega) (by decide), fun y2 => ?_, fun y2 => ?_⟩
        · rw [am_less hm y2] at ih; exact ih
        · rw [am_more (by simpa using y) hm (by omega)] at ih; exact ih
/-- memories alike but for howRead and readAs -/
def Mr (S S2 : Mem) : Prop := (∀ a, a ≠ 0 → S2 a = S a) ∧ ∀ j, j ≠ 14 → j ≠ 15 → S2 0 j = S 0 j
theorem Mr.rf {S : Mem} : Mr S S := ⟨fun _ _ => rfl, fun _ _ _ => rfl⟩
theorem Mr.tr {S S2 S3 : Mem} (h : Mr S S2) (h2 : Mr S2 S3) : Mr S S3 := ⟨fun a ha => (h2.1 a ha).trans (h.1 a ha), fun j p q => (h2.2 j p q).trans (h.2 j p q)⟩
theorem Mr.MB {S S2 : Mem} (h : Mr S S2) (hM : MB S b) : MB S2 b := hM.of (h.2 4 (by decide) (by decide)) (fun a _ _ => h.1 a (by omega))
theorem Mr.MC {S S2 : Mem} (h : Mr S S2) (hM : MC S b) : MC S2 b := hM.of (fun a _ _ => h.1 a (by omega))
theorem Mr.st {S : Mem} {j : Nat} {v : Int32} (h : j = 14 ∨ j = 15) : Mr S (st2 S 0 j v) := ⟨fun a ha => st2_off ha, fun i p q => by rw [st2_get, if_neg (by omega)]⟩
theorem c_X12_findReading {c k ws w : Nat} {m : Option Nat} {K : Mem → Prop} (hb : BOk b) (hM : MB S b) (hC : MC S b) (hc : c < 4) (hw : w < b.n) (hm : mxOk m) (hS : S 11 c = oI m) (hkn : k < 1024) (hws : ws < 4096) (hk : ∀ S2, Mr S S2 → S2 0 14 = nI (bk_way b k ws w) → S2 0 15 = oI (bk_rd b m k ws w) → K S2) : MWv l g shM m_X12_findReading [.ref (g.ad 0), .int (nI c), .int (nI k), .int (nI ws), .int (nI w)] S K := by
  have hn := hb.1
  obtain ⟨h1, h2, h3, h4, h5⟩ := hb.2 w hw
  have q1 := (h5 0 (by omega)).1
  have hbl := bits_lt hb hw
  refine MWv.intro _ rfl (Nat.le_of_ble_eq_true rfl) rfl (fun x ok => s_X12_findReading_0 ok _ _ _ _ S ?_)
  simp (disch := omega) only [bit_n, bI1]
  have R0 : Mr S (st2 (st2 S 0 14 (nI 3)) 0 15 (-6)) := (Mr.st (Or.inl rfl)).tr (Mr.st (Or.inr rfl))
  refine ⟨fun y => ?_, fun y => ?_⟩
  · refine c_X12_signsOf hb (R0.MB hM) hw ?_
    simp (disch := omega) only [sub_n]
    refine ⟨fun z => ?_, fun z => ?_⟩
    · have e30 := (((R0.MB hM).2 w hw).2.2 0 (by omega)).1
      rw [Nat.add_zero] at e30
      simp (disch := omega) only [pk_mul, cl, nI_clamp, e30, bit_n, bI1, st2_off]
      refine ⟨inI (by omega) (by decide), fun u => ?_, fun u => ⟨inI (by omega) (by decide), ?_⟩⟩
      · refine hk _ R0 ?_ ?_
        · rw [st2_get, if_neg (by decide), st2_get, if_pos rfl]
          unfold bk_way; rw [if_neg y, if_neg z, if_neg u]
        · rw [st2_get, if_pos rfl]
          unfold bk_rd; rw [if_neg y, if_neg z, if_neg u]; rfl
      · have R1 := R0.tr (Mr.st (v := nI 2) (Or.inl rfl))
        have e31 := (((R1.MB hM).2 w hw).2.2 0 (by omega)).1
        rw [Nat.add_zero] at e31
        have e32 := ((hM.2 w hw).2.2 0 (by omega)).1
        rw [Nat.add_zero] at e32
        refine c_X12_guessed hb (R1.MB hM) q1 (hk _ (R1.tr (Mr.st (Or.inr rfl))) ?_ ?_)
        · rw [st2_get, if_neg (by decide), st2_get, if_pos rfl]
          unfold bk_way; rw [if_neg y, if_neg z, if_pos u]
        · rw [st2_get, if_pos rfl]
          unfold bk_rd; rw [if_neg y, if_neg z, if_pos u]
    · have R1 := R0.tr (Mr.st (v := nI 1) (Or.inl rfl))
      refine c_X12_sounded hb (R1.MB hM) (R1.MC hC) hc hw hm (by rw [R1.1 11 (by decide)]; exact hS) (hk _ (R1.tr (Mr.st (Or.inr rfl))) ?_ ?_)
      · rw [st2_get, if_neg (by decide), st2_get, if_pos rfl]
        unfold bk_way; rw [if_neg y, if_pos z]
      · rw [st2_get, if_pos rfl]
        unfold bk_rd; rw [if_neg y, if_pos z]
  · refine hk _ ((R0.tr (Mr.st (Or.inl rfl))).tr (Mr.st (Or.inr rfl))) ?_ ?_
    · rw [st2_get, if_neg (by decide), st2_get, if_pos rfl]
      unfold bk_way; rw [if_pos y]
    · rw [st2_get, if_pos rfl]
      unfold bk_rd; rw [if_pos y]; rfl
theorem c_X12_canRead {c k ws w : Nat} {m : Option Nat} (hb : BOk b) (hM : MB S b) (hC : MC S b) (hc : c < 4) (hw : w < b.n) (hm : mxOk m) (hS : S 11 c = oI m) (hkn : k < 1024) (hws : ws < 4096) (hk : ∀ S2, Mr S S2 → K (nI (bk_can b m k ws w).toNat) S2) : MWi l g shM m_X12_canRead [.ref (g.ad 0), .int (nI c), .int (nI k), .int (nI ws), .int (nI w)] S K := by
  have hn := hb.1
  refine MWi.intro _ rfl (Nat.le_of_ble_eq_true rfl) rfl (fun x ok => s_X12_canRead_0 ok _ _ _ _ S (c_X12_findReading hb hM hC hc hw hm hS hkn hws (fun S2 R e1 e2 => ?_)))
  have hlt : ∀ r, bk_rd b m k ws w = some r → r < 2 ^ 31 := fun r h => by have := rd_lt hw h; omega
  have h := hk S2 R
  unfold bk_can at h
  rw [e2, oI_nI hlt (by omega)]
  refine ⟨fun y => ?_, fun y => ?_⟩
  · rw [decide_eq_false y] at h; exact h
  · rw [decide_eq_true y] at h; exact h
theorem c_X12_shareOf {c k ws : Nat} {m : Option Nat} (hb : BOk b) (hM : MB S b) (hC : MC S b) (hc : c < 4) (hm : mxOk m) (hS : S 11 c = oI m) (hkn : k < 1024) (hws : ws < 4096) (hk : ∀ S2, Mr S S2 → K (nI (bk_share b m k ws)) S2) : MWi l g shM m_X12_shareOf [.ref (g.ad 0), .int (nI c), .int (nI k), .int (nI ws)] S K := by
  have hn := hb.1
  refine MWi.intro _ rfl (Nat.le_of_ble_eq_true rfl) rfl (fun x ok => s_X12_shareOf_0 ok _ _ _ S ?_)
  refine lpU (fun w => ∀ S2, Mr S S2 → PW l x g shM m_X12_shareOf (Qi x g shM K) 6 [(0, .ref (g.ad 0)), (1, .int (nI c)), (2, .int (nI k)), (3, .int (nI ws)), (4, .int (nI (fb_sm (fun w => if bk_can b m k ws w = true then b.of w else 0) w))), (5, .int (nI w))] [] S2) b.n ?_ (fun w hw ih => ?_) 0 (Nat.zero_le _) S Mr.rf
  · intro S2 R
    refine s_X12_shareOf_6 ok _ _ _ _ _ S2 ⟨fun _ => hk S2 R, fun c => absurd ?_ c⟩
    simp (disch := omega) only [(R.MB hM).1, nI_leI, Nat.le_refl]
  · intro S2 R
    refine s_X12_shareOf_6 ok _ _ _ _ _ S2 ⟨fun c => absurd c ?_, fun _ => c_X12_canRead hb (R.MB hM) (R.MC hC) hc hw hm (by rw [R.1 11 (by decide)]; exact hS) hkn hws (fun S3 R2 => ?_)⟩
    · simp (disch := omega) only [(R.MB hM).1, nI_leI]; omega
    have h := ih S3 (R.tr R2)
    rw [fb_sm_succ] at h
    have e2 := (((R.tr R2).MB hM).2 w hw).2.1
    rw [bI0]
    refine ⟨fun y => ?_, fun y => ⟨inI (by omega) (by decide), ?_⟩⟩
    · rw [y] at h
      rw [nI_add, nI_add]; exact h
    · rw [Bool.not_eq_false] at y
      rw [y, if_pos rfl] at h
      simp (disch := omega) only [cl, nI_clamp, e2, nI_add]
      exact h
theorem c_X12_isGiven {w s : Nat} (hb : BOk b) (hM : MB S b) (hC : MC S b) (hw : w < b.n) (hs : s < 1024) (hk : K (nI (bk_given b s w).toNat) S) : MWi l g shM m_X12_isGiven [.ref (g.ad 0), .int (nI w), .int (nI s)] S K := by
  have hbl := bits_lt hb hw
  refine MWi.intro _ rfl (Nat.le_of_ble_eq_true rfl) rfl (fun x ok => s_X12_isGiven_0 ok _ _ S (c_X12_isRegular hb hC hw ?_))
  unfold bk_given at hk
  rw [bI0]
  refine ⟨fun y => ?_, fun y => c_X12_signsOf hb hM hw ?_⟩
  · rw [y] at hk; exact hk
  · rw [Bool.not_eq_false] at y
    rw [y, Bool.true_and] at hk
    rw [sub_n (by omega) (by omega)]
    refine ⟨fun z => ?_, fun z => ?_⟩
    · rw [decide_eq_false z] at hk; exact hk
    · rw [decide_eq_true z] at hk; exact hk
theorem c_X12_givesOf {s ws : Nat} (hb : BOk b) (hM : MB S b) (hC : MC S b) (hs : s < 1024) (hws : ws < 4096) (hk : K (nI (bk_gives b s ws)) S) : MWi l g shM m_X12_givesOf [.ref (g.ad 0), .int (nI s), .int (nI ws)] S K := by
  have hn := hb.1
  refine MWi.intro _ rfl (Nat.le_of_ble_eq_true rfl) rfl (fun x ok => s_X12_givesOf_0 ok _ _ S ?_)
  refine lpU (fun w => PW l x g shM m_X12_givesOf (Qi x g shM K) 5 [(0, .ref (g.ad 0)), (1, .int (nI s)), (2, .int (nI ws)), (3, .int (nI (fb_sm (fun w => if (ws.testBit w || bk_given b s w) = true then b.of w else 0) w))), (4, .int (nI w))] [] S) b.n ?_ (fun w hw ih => ?_) 0 (Nat.zero_le _)
  · refine s_X12_givesOf_5 ok _ _ _ _ S ⟨fun _ => hk, fun c => absurd ?_ c⟩
    simp (disch := omega) only [hM.1, nI_leI, Nat.le_refl]
  · have e2 := (hM.2 w hw).2.1
    rw [fb_sm_succ] at ih
    refine s_X12_givesOf_5 ok _ _ _ _ S ⟨fun c => absurd c ?_, fun _ => ?_⟩
    · simp (disch := omega) only [hM.1, nI_leI]; omega
    simp (disch := omega) only [bit_n, bI1, cl, nI_clamp, e2, nI_add]
    refine ⟨fun y => ⟨inI (by omega) (by decide), ?_⟩, fun y => c_X12_isGiven hb hM hC hw hs ?_⟩
    · rw [y, Bool.true_or, if_pos rfl] at ih; exact ih
    · rw [Bool.not_eq_true] at y
      rw [y, Bool.false_or] at ih
      rw [bI0]
      refine ⟨fun z => ?_, fun z => ⟨inI (by omega) (by decide), ?_⟩⟩
      · rw [z] at ih; exact ih
      · rw [Bool.not_eq_false] at z
        rw [z, if_pos rfl] at ih
        rw [e2, nI_add]; exact ih
end MOD2
