/-! PART 35: what every call answers and does, in plain words -/
def ix (v : Int32) (n : Nat) : Option Nat := if 0 ≤ v.toInt ∧ v.toInt < n then some v.toInt.toNat else none
def rgI (v : Int32) (lo hi : Nat) : Option Nat := if (lo : Int) ≤ v.toInt ∧ v.toInt ≤ hi then some v.toInt.toNat else none
theorem ix_nI {n j : Nat} (h : j < n) (hn : j < 2 ^ 31) : ix (nI j) n = some j := by
  unfold ix
  rw [nI_toInt hn, if_pos (by omega)]
  congr 1
theorem ix_no {v : Int32} {n : Nat} (h : ∀ j, j < n → ¬ v = nI j) : ix v n = none := by
  unfold ix
  rw [if_neg]
  rintro ⟨h1, h2⟩
  have h0 : ¬ v < 0 := by rw [fa_lt]; show ¬ v.toInt < 0; omega
  obtain ⟨j, hj, rfl⟩ := nI_of h0
  rw [nI_toInt hj] at h2
  exact h j (by omega) rfl
theorem ix_of {v : Int32} {n j : Nat} (h : ix v n = some j) : j < n ∧ v = nI j := by
  unfold ix at h
  split at h
  · rename_i q
    have h0 : ¬ v < 0 := by rw [fa_lt]; show ¬ v.toInt < 0; omega
    obtain ⟨i, hi, rfl⟩ := nI_of h0
    rw [nI_toInt hi] at q h
    cases h
    exact ⟨by omega, rfl⟩
  · cases h
theorem ix_non {v : Int32} {n : Nat} (h : ix v n = none) (hn : n ≤ 2 ^ 31) : ∀ j, j < n → ¬ v = nI j := by
  intro j hj e
  subst e
  rw [ix_nI hj (by omega)] at h
  cases h
theorem rg_nI {lo hi j : Nat} (h1 : lo ≤ j) (h2 : j ≤ hi) (hn : j < 2 ^ 31) : rgI (nI j) lo hi = some j := by
  unfold rgI
  rw [nI_toInt hn, if_pos (by omega)]
  congr 1
theorem rg_no {v : Int32} {lo hi : Nat} (h : ∀ j, lo ≤ j → j ≤ hi → ¬ v = nI j) : rgI v lo hi = none := by
  unfold rgI
  rw [if_neg]
  rintro ⟨h1, h2⟩
  have h0 : ¬ v < 0 := by rw [fa_lt]; show ¬ v.toInt < 0; omega
  obtain ⟨j, hj, rfl⟩ := nI_of h0
  rw [nI_toInt hj] at h1 h2
  exact h j (by omega) (by omega) rfl
theorem rg_of {v : Int32} {lo hi j : Nat} (h : rgI v lo hi = some j) : lo ≤ j ∧ j ≤ hi ∧ v = nI j := by
  unfold rgI at h
  split at h
  · rename_i q
    have h0 : ¬ v < 0 := by rw [fa_lt]; show ¬ v.toInt < 0; omega
    obtain ⟨i, hi, rfl⟩ := nI_of h0
    rw [nI_toInt hi] at q h
    cases h
    exact ⟨by omega, by omega, rfl⟩
  · cases h
theorem rg_non {v : Int32} {lo hi : Nat} (h : rgI v lo hi = none) (hn : hi < 2 ^ 31) : ∀ j, lo ≤ j → j ≤ hi → ¬ v = nI j := by
  intro j h1 h2 e
  subst e
  rw [rg_nI h1 h2 (by omega)] at h
  cases h
abbrev Co : Type := Bk × Ch × An
abbrev Sg : Type := Co × (Nat × (Nat → Nat)) × (Nat → Option Co)
abbrev Sg.b (s : Sg) : Bk := s.1.1
abbrev Sg.h (s : Sg) : Ch := s.1.2.1
abbrev Sg.a (s : Sg) : An := s.1.2.2
abbrev Sg.pn (s : Sg) : Nat := s.2.1.1
abbrev Sg.pd (s : Sg) : Nat → Nat := s.2.1.2
abbrev Sg.im (s : Sg) : Nat → Option Co := s.2.2
def CoOk (c : Co) : Prop := BOk c.1 ∧ ChOk c.1 c.2.1 ∧ AnOk c.1 c.2.2
def SgOk (s : Sg) : Prop := CoOk s.1 ∧ s.pn ≤ 14 ∧ (∀ i, i < s.pn → 33 ≤ s.pd i ∧ s.pd i ≤ 126) ∧ ∀ n, n < 2 → ∀ c, s.im n = some c → CoOk c
def upN {α : Type} (f : Nat → α) (k : Nat) (v : α) : Nat → α := fun j => if j = k then v else f j
/-! the pad -/
def scS (c l d : Nat) (bh : Bool) : Option (Nat × Nat × Bool) := if (!bh && (decide (97 ≤ c ∧ c ≤ 106) && decide (l < 5))) = true then some (l + 1, d, bh) else if (!bh && (decide (c = 61) && decide (0 < l))) = true then some (l, d, true) else if (bh && (decide (48 ≤ c ∧ c ≤ 57) && decide (d < l))) = true then some (l, d + 1, bh) else none
def sc (pd : Nat → Nat) : Nat → Option (Nat × Nat × Bool)
  | 0 => some (0, 0, false)
  | i + 1 => match sc pd i with
    | none => none
    | some (l, d, bh) => scS (pd i) l d bh
def flt (pn : Nat) (pd : Nat → Nat) : Option Nat := match fm (fun i => (sc pd (i + 1)).isNone) pn with
  | some i => some i
  | none => match sc pd pn with
    | none => some pn
    | some (l, d, bh) => if (bh && decide (d = l)) = true then none else some pn
def lets (b : Bk) (l : Nat) (pd : Nat → Nat) (w : Nat) : Bool := decide (b.len w = l) && alB (fun i => decide (b.sg w i = pd i - 97)) l
def thr (b : Bk) (l : Nat) (pd : Nat → Nat) : Bool := (fm (lets b l pd) b.n).isSome
def newB (b : Bk) (l : Nat) (pd : Nat → Nat) (f : Nat) : Bk := (b.n + 1, upN b.2.1 b.n l, upN b.2.2.1 b.n f, fun q => if 5 * b.n ≤ q ∧ q < 5 * b.n + l then pd (q - 5 * b.n) - 97 else b.2.2.2.1 q, fun q => if 5 * b.n ≤ q ∧ q < 5 * b.n + l then pd (l + 1 + (q - 5 * b.n)) - 48 else b.2.2.2.2 q)
theorem sc_ok {pd : Nat → Nat} : ∀ {i l d : Nat} {bh : Bool}, sc pd i = some (l, d, bh) → l ≤ 5 ∧ d ≤ l ∧ (∀ j, j < l → 97 ≤ pd j ∧ pd j ≤ 106) ∧ (bh = false → i = l ∧ d = 0) ∧ (bh = true → i = l + 1 + d ∧ 1 ≤ l ∧ ∀ j, j < d → 48 ≤ pd (l + 1 + j) ∧ pd (l + 1 + j) ≤ 57)
  | 0, l, d, bh, h => by
    simp only [sc, Option.some.injEq, Prod.mk.injEq] at h
    obtain ⟨rfl, rfl, rfl⟩ := h
    exact ⟨by omega, by omega, fun j h => by omega, fun _ => ⟨rfl, rfl⟩, fun h => by cases h⟩
  | i + 1, l, d, bh, h => by
    rw [sc] at h
    cases hs : sc pd i with
    | none => rw [hs] at h; cases h
    | some q =>
      obtain ⟨l0, d0, b0⟩ := q
      rw [hs] at h
      obtain ⟨h1, h2, h3, h4, h5⟩ := sc_ok hs
      have h : scS (pd i) l0 d0 b0 = some (l, d, bh) := h
      unfold scS at h
      split at h
      · rename_i q
        simp only [Bool.and_eq_true, Bool.not_eq_true', decide_eq_true_eq] at q
        simp only [Option.some.injEq, Prod.mk.injEq] at h
        obtain ⟨rfl, rfl, rfl⟩ := h
        obtain ⟨a1, a2⟩ := h4 q.1
        refine ⟨by omega, by omega, fun j hj => ?_, fun _ => ⟨by omega, a2⟩, fun e => by rw [q.1] at e; cases e⟩
        rcases Nat.lt_or_ge j l0 with r | r
        · exact h3 j r
        · have : j = i := by omega
          subst this
          exact q.2.1
      · split at h
        · rename_i q
          simp only [Bool.and_eq_true, Bool.not_eq_true', decide_eq_true_eq] at q
          simp only [Option.some.injEq, Prod.mk.injEq] at h
          obtain ⟨rfl, rfl, rfl⟩ := h
          obtain ⟨a1, a2⟩ := h4 q.1
          exact ⟨h1, h2, h3, fun e => (by cases e), fun _ => ⟨by omega, by omega, fun j hj => by omega⟩⟩
        · split at h
          · rename_i q
            simp only [Bool.and_eq_true, decide_eq_true_eq] at q
            simp only [Option.some.injEq, Prod.mk.injEq] at h
            obtain ⟨rfl, rfl, rfl⟩ := h
            obtain ⟨a1, a2, a3⟩ := h5 q.1
            refine ⟨h1, by omega, h3, fun e => (by rw [q.1] at e; cases e), fun _ => ⟨by omega, a2, fun j hj => ?_⟩⟩
            rcases Nat.lt_or_ge j d0 with r | r
            · exact a3 j r
            · have : j = d0 := by omega
              subst this
              rw [← a1]
              exact q.2.1
          · cases h
/-- a pad without a fault -/
theorem flt_none {pn : Nat} {pd : Nat → Nat} (h : flt pn pd = none) : ∃ l, sc pd pn = some (l, l, true) ∧ 1 ≤ l ∧ l ≤ 5 ∧ pn = 2 * l + 1 ∧ (∀ j, j < l → 97 ≤ pd j ∧ pd j ≤ 106) ∧ ∀ j, j < l → 48 ≤ pd (l + 1 + j) ∧ pd (l + 1 + j) ≤ 57 := by
  unfold flt at h
  cases hf : fm (fun i => (sc pd (i + 1)).isNone) pn with
  | some i => rw [hf] at h; cases h
  | none =>
    rw [hf] at h
    dsimp only at h
    cases hs : sc pd pn with
    | none => rw [hs] at h; cases h
    | some q =>
      obtain ⟨l, d, bh⟩ := q
      rw [hs] at h
      dsimp only at h
      split at h
      · rename_i q
        simp only [Bool.and_eq_true, decide_eq_true_eq] at q
        obtain ⟨rfl, rfl⟩ := q
        obtain ⟨h1, h2, h3, h4, h5⟩ := sc_ok hs
        obtain ⟨a1, a2, a3⟩ := h5 rfl
        exact ⟨d, rfl, a2, h1, by omega, h3, a3⟩
      · cases h
/-! answers -/
def sp_say (s : Sg) (v : Int32) : Int32 := match rgI v 33 126 with
  | none => -2
  | some _ => if s.pn = 14 then -4 else nI (s.pn + 1)
def st_say (s : Sg) (v : Int32) : Sg := match rgI v 33 126 with
  | none => s
  | some c => if s.pn = 14 then s else (s.1, (s.pn + 1, upN s.pd s.pn c), s.im)
def st_wipe (s : Sg) : Sg := (s.1, (0, s.pd), s.im)
def sp_word (s : Sg) (v : Int32) : Int32 := match rgI v 1 999 with
  | none => -2
  | some _ => if flt s.pn s.pd = none then (if thr s.b (s.pn / 2) s.pd = true then -5 else if s.b.n = 12 then -4 else nI s.b.n) else -5
def st_word (s : Sg) (v : Int32) : Sg := match rgI v 1 999 with
  | none => s
  | some f => if flt s.pn s.pd = none then (if thr s.b (s.pn / 2) s.pd = true then s else if s.b.n = 12 then s else ((newB s.b (s.pn / 2) s.pd f, s.h, s.a), (0, s.pd), s.im)) else s
def sp_about (s : Sg) (v1 v2 : Int32) : Int32 := match ix v1 s.b.n with
  | none => -1
  | some w => match rgI v2 10 14 with
    | some q => if q - 10 < s.b.len w then nI (s.b.sg w (q - 10)) else -6
    | none => match rgI v2 20 24 with
      | some q => if q - 20 < s.b.len w then nI (s.b.sd w (q - 20)) else -6
      | none => match ix v2 4 with
        | none => -2
        | some q => if q = 0 then nI (s.b.len w) else if q = 1 then nI (s.b.of w) else if q = 2 then nI (bk_bits s.b w) else nI (bk_reg s.b w).toNat
def sp_often (s : Sg) (v1 v2 : Int32) : Int32 := match ix v1 s.b.n with
  | none => -1
  | some w => match rgI v2 1 999 with
    | none => -2
    | some _ => nI (s.b.of w)
def st_often (s : Sg) (v1 v2 : Int32) : Sg := match ix v1 s.b.n with
  | none => s
  | some w => match rgI v2 1 999 with
    | none => s
    | some f => (((s.b.n, s.b.2.1, upN s.b.2.2.1 w f, s.b.2.2.2.1, s.b.2.2.2.2), s.h, s.a), s.2)
def sp_has (s : Sg) (v1 v2 v3 : Int32) : Int64 := match ix v1 10 with
  | none => -1000000000000000001
  | some t => match ix v2 10 with
    | none => -1000000000000000002
    | some u => match ix v3 2 with
      | none => -1000000000000000002
      | some p => lN (frN (bk_has s.b (10 * t + u)) (bk_all s.b t) p)
def sp_common (s : Sg) (v : Int32) : Int32 := match ix v 10 with
  | none => -1
  | some t => oI (bk_comm s.b t)
def rulN (b : Bk) (n : Nat) : Nat := fb_sm (fun s => match bk_comm b s with
  | none => 0
  | some u => bk_has b (10 * s + u)) n
def alsN (b : Bk) (n : Nat) : Nat := fb_sm (bk_all b) n
def sp_ruled (s : Sg) (v : Int32) : Int64 := match ix v 2 with
  | none => -1000000000000000002
  | some p => lN (frN (rulN s.b 10) (alsN s.b 10) p)
def sp_knows (s : Sg) (v1 v2 v3 : Int32) : Int32 := match ix v1 4 with
  | none => -1
  | some c => match ix v2 2 with
    | none => -2
    | some q => if q = 0 then (match ix v3 1024 with
      | none => -2
      | some _ => nI (s.h.k c)) else (match ix v3 (2 ^ s.b.n) with
      | none => -2
      | some _ => nI (s.h.ws c))
def st_knows (s : Sg) (v1 v2 v3 : Int32) : Sg := match ix v1 4 with
  | none => s
  | some c => match ix v2 2 with
    | none => s
    | some q => if q = 0 then (match ix v3 1024 with
      | none => s
      | some t => ((s.b, (upN s.h.1 c t, s.h.2.1, s.h.2.2), s.a), s.2)) else (match ix v3 (2 ^ s.b.n) with
      | none => s
      | some t => ((s.b, (s.h.1, upN s.h.2.1 c t, s.h.2.2), s.a), s.2))
def sp_mix (s : Sg) (v1 v2 v3 : Int32) : Int32 := match ix v1 4 with
  | none => -1
  | some c => if v2 = -1 ∧ v3 = -1 then oI (s.h.m c) else match ix v2 10 with
    | none => -1
    | some x => match ix v3 10 with
      | none => -1
      | some y => if x = y then -1 else oI (s.h.m c)
def st_mix (s : Sg) (v1 v2 v3 : Int32) : Sg := match ix v1 4 with
  | none => s
  | some c => if v2 = -1 ∧ v3 = -1 then ((s.b, (s.h.1, s.h.2.1, upN s.h.2.2 c none), s.a), s.2) else match ix v2 10 with
    | none => s
    | some x => match ix v3 10 with
      | none => s
      | some y => if x = y then s else ((s.b, (s.h.1, s.h.2.1, upN s.h.2.2 c (some (if x < y then 10 * x + y else 10 * y + x))), s.a), s.2)
def sp_read (s : Sg) (v1 v2 v3 : Int32) : Int32 := match ix v1 4 with
  | none => -1
  | some c => match ix v2 s.b.n with
    | none => -1
    | some w => match ix v3 2 with
      | none => -2
      | some q => if q = 0 then nI (bk_way s.b (s.h.k c) (s.h.ws c) w) else oI (bk_rd s.b (s.h.m c) (s.h.k c) (s.h.ws c) w)
def sp_share (s : Sg) (v : Int32) : Int32 := match ix v 4 with
  | none => -1
  | some c => nI (bk_share s.b (s.h.m c) (s.h.k c) (s.h.ws c))
def sp_gives (s : Sg) (v1 v2 : Int32) : Int32 := match ix v1 1024 with
  | none => -2
  | some t => match ix v2 (2 ^ s.b.n) with
    | none => -2
    | some ws => nI (bk_gives s.b t ws)
abbrev gv0 (b : Bk) : Nat → Nat := fun t => bk_gives b t 0
def sp_order (s : Sg) (v : Int32) : Int32 := if v = -1 then nI (ah (gv0 s.b) 0) else match ix v 10 with
  | none => -6
  | some i => nI (nxt (gv0 s.b) (ost (gv0 s.b) i))
def sp_most (s : Sg) (v1 v2 v3 : Int32) : Int32 := match ix v1 11 with
  | none => -2
  | some k => match ix v2 (s.b.n + 1) with
    | none => -2
    | some w => match ix v3 3 with
      | none => -2
      | some q => match mostO s.b k w 1024 with
        | none => 0
        | some t => if q = 0 then nI (bk_gives s.b t (wfor s.b t w)) else if q = 1 then nI t else nI (wfor s.b t w)
def rbC (s : Sg) (c : Nat) : Nat → Bool := bk_can s.b (s.h.m c) (s.h.k c) (s.h.ws c)
def sp_tale (s : Sg) (v1 v2 : Int32) : Int32 := match ix v1 4 with
  | none => -1
  | some c => if v2 = -1 then nI (lng s.b (rbC s c)) else match ix v2 (lng s.b (rbC s c)) with
    | none => -6
    | some i => oI (tst s.b (rbC s c) (i + 1)).2
def sp_answer (s : Sg) (v1 : Int32) : Int32 := match ix v1 s.b.n with
  | none => -1
  | some _ => if s.a.n = 20 then -4 else nI (s.a.n + 1)
def st_answer (s : Sg) (v1 : Int32) (r : Bool) : Sg := match ix v1 s.b.n with
  | none => s
  | some w => if s.a.n = 20 then s else ((s.b, s.h, (s.a.n + 1, upN s.a.2.1 s.a.n w, upN s.a.2.2 s.a.n r)), s.2)
def st_clear (s : Sg) : Sg := ((s.b, s.h, (0, s.a.2)), s.2)
def sp_lacks (s : Sg) (v1 v2 : Int32) : Int64 := match ix v1 10 with
  | none => -1000000000000000001
  | some t => match ix v2 2 with
    | none => -1000000000000000002
    | some p => if mayN s.b s.a 0 = 0 then -1000000000000000005 else lN (frN (mayN s.b s.a (2 ^ t)) (mayN s.b s.a 0) p)
def sp_respelt (s : Sg) (v1 v2 : Int32) : Int32 := match ix v1 s.b.n with
  | none => -1
  | some w => match ix v2 5 with
    | none => -2
    | some i => if i < s.b.len w then nI (rsp s.b w i) else -6
def sp_price (s : Sg) (v : Int32) : Int32 := match ix v 2 with
  | none => -2
  | some q => if q = 0 then nI (prcN s.b) else oI (cshO s.b)
def sp_lessons (s : Sg) (v1 v2 : Int32) : Int32 := match ix v1 4 with
  | none => -1
  | some c => match ix v2 13 with
    | none => -2
    | some n => nI (lesC s.b s.h c n)
def spD (n u c : Nat) : Nat := if c = 0 then u / 13 / 13 else if c = 1 then u / 13 % 13 else if c = 2 then u % 13 else n - u / 13 / 13 - u / 13 % 13 - u % 13
def sp_shared (s : Sg) (v1 v2 : Int32) : Int32 := if v2 = -1 then (match ix v1 13 with
  | none => -2
  | some n => match spO (lesC s.b s.h) n 2197 with
    | none => 0
    | some u => nI (spF (lesC s.b s.h) n u)) else match ix v2 4 with
  | none => -1
  | some c => match ix v1 13 with
    | none => -2
    | some n => match spO (lesC s.b s.h) n 2197 with
      | none => 0
      | some u => nI (spD n u c)
abbrev rdC (s : Sg) (c : Nat) : Nat := rdB s.b (s.h.m c) (s.h.k c) (s.h.ws c)
def sp_itself (s : Sg) (v1 v2 v3 : Int32) : Int32 := match ix v1 4 with
  | none => -1
  | some c => match ix v2 1001 with
    | none => -2
    | some li => match ix v3 2 with
      | none => -2
      | some q => if q = 0 then nI (pc (its s.b li 12 (rdC s c)) - pc (rdC s c)) else nI (tmS s.b (its s.b li 12 (rdC s c)))
def sp_line (s : Sg) (v : Int32) : Int32 := match ix v 4 with
  | none => -1
  | some c => nI (hln s.b (rdC s c))
def sp_image (v : Int32) : Int32 := match ix v 2 with
  | none => -2
  | some _ => nI 1
def st_image (s : Sg) (v : Int32) : Sg := match ix v 2 with
  | none => s
  | some n => (s.1, s.2.1, upN s.im n (some s.1))
def sp_restore (s : Sg) (v : Int32) : Int32 := match ix v 2 with
  | none => -2
  | some n => match s.im n with
    | none => -3
    | some _ => nI 1
def st_restore (s : Sg) (v : Int32) : Sg := match ix v 2 with
  | none => s
  | some n => match s.im n with
    | none => s
    | some c => (c, s.2)
def sp_told (s : Sg) (v : Int32) : Int32 := match rgI v 10 13 with
  | some q => nI (s.h.k (q - 10))
  | none => match rgI v 20 23 with
    | some q => nI (s.h.ws (q - 20))
    | none => match rgI v 30 33 with
      | some q => oI (s.h.m (q - 30))
      | none => match ix v 4 with
        | none => -2
        | some q => if q = 0 then nI s.pn else if q = 1 then nI s.b.n else if q = 2 then nI s.a.n else nI (ofA s.b)
