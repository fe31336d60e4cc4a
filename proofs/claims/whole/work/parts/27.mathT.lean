/-! PART 27: tales -/
def lastS (b : Bk) (a : Nat) : Nat := b.sg a (b.len a - 1)
def fol (b : Bk) (a v : Nat) : Bool := decide (lastS b a = b.sg v 0)
/-- how many words can still come behind w, when those of the set are used -/
def mcF (b : Bk) (rb : Nat → Bool) : Nat → Nat → Nat → Nat
  | 0, _, _ => 0
  | f + 1, set, w => mxS (fun v => if (!set.testBit v && (rb v && fol b w v)) = true then 1 + mcF b rb f (set ||| 2 ^ v) v else 0) b.n
theorem mcF_fuel {b : Bk} {rb : Nat → Bool} (hn : b.n ≤ 12) : ∀ (f f2 set w : Nat), set < 4096 → 4096 ≤ f + set → 4096 ≤ f2 + set → mcF b rb f set w = mcF b rb f2 set w
  | 0, f2, set, w, h, h1, h2 => by omega
  | f + 1, 0, set, w, h, h1, h2 => by omega
  | f + 1, f2 + 1, set, w, h, h1, h2 => by
    rw [mcF, mcF]
    apply mxS_cong
    intro v hv
    cases hb : set.testBit v with
    | true => simp
    | false =>
      have g1 := or_gt hb
      have g2 := or_lt (k := 12) h (by omega : v < 12)
      rw [mcF_fuel hn f f2 (set ||| 2 ^ v) v g2 (by omega) (by omega)]
def mc (b : Bk) (rb : Nat → Bool) (set w : Nat) : Nat := mcF b rb 4096 set w
def mcs (b : Bk) (rb : Nat → Bool) (set w v : Nat) : Nat := if (!set.testBit v && (rb v && fol b w v)) = true then 1 + mc b rb (set ||| 2 ^ v) v else 0
theorem mc_eq {b : Bk} {rb : Nat → Bool} (hn : b.n ≤ 12) {set : Nat} (h : set < 4096) (w : Nat) : mc b rb set w = mxS (mcs b rb set w) b.n := by
  unfold mc
  rw [mcF]
  apply mxS_cong
  intro v hv
  unfold mcs mc
  cases hb : set.testBit v with
  | true => simp
  | false =>
    have g1 := or_gt hb
    have g2 := or_lt (k := 12) h (by omega : v < 12)
    rw [mcF_fuel hn 4095 4096 _ _ g2 (by omega) (by omega)]
theorem mcF_le {b : Bk} {rb : Nat → Bool} : ∀ (f set w : Nat), mcF b rb f set w ≤ f
  | 0, set, w => by simp [mcF]
  | f + 1, set, w => by
    rw [mcF]
    apply mxS_le
    intro v hv
    have := mcF_le (b := b) (rb := rb) f (set ||| 2 ^ v) v
    split <;> omega
theorem mc_le {b : Bk} {rb : Nat → Bool} (set w : Nat) : mc b rb set w ≤ 4096 := mcF_le _ _ _
/-- may v come next, behind 'last', when those of the set are used -/
def cnd (b : Bk) (rb : Nat → Bool) (set : Nat) (last : Option Nat) (v : Nat) : Bool := !set.testBit v && (rb v && match last with
  | none => true
  | some a => fol b a v)
def cvl (b : Bk) (rb : Nat → Bool) (set : Nat) (last : Option Nat) (v : Nat) : Nat := if cnd b rb set last v = true then 1 + mc b rb (set ||| 2 ^ v) v else 0
def lng (b : Bk) (rb : Nat → Bool) : Nat := mxS (cvl b rb 0 none) b.n
theorem cvl_some {b : Bk} {rb : Nat → Bool} (hn : b.n ≤ 12) {set : Nat} (h : set < 4096) (a : Nat) : mxS (cvl b rb set (some a)) b.n = mc b rb set a := by
  rw [mc_eq hn h]
  rfl
/-- the tale's next word: the least by which so many are left -/
def tnx (b : Bk) (rb : Nat → Bool) (set : Nat) (last : Option Nat) (left : Nat) : Nat := (fm (fun v => cnd b rb set last v && decide (1 + mc b rb (set ||| 2 ^ v) v = left)) b.n).getD 0
/-- the tale: used words and the last one behind k of them -/
def tst (b : Bk) (rb : Nat → Bool) : Nat → Nat × Option Nat
  | 0 => (0, none)
  | k + 1 => ((tst b rb k).1 ||| 2 ^ tnx b rb (tst b rb k).1 (tst b rb k).2 (lng b rb - k), some (tnx b rb (tst b rb k).1 (tst b rb k).2 (lng b rb - k)))
theorem tnx_ok {b : Bk} {rb : Nat → Bool} {set : Nat} {last : Option Nat} {left : Nat} (hl : 0 < left) (hm : mxS (cvl b rb set last) b.n = left) : tnx b rb set last left < b.n ∧ cnd b rb set last (tnx b rb set last left) = true ∧ 1 + mc b rb (set ||| 2 ^ tnx b rb set last left) (tnx b rb set last left) = left ∧ ∀ j, j < tnx b rb set last left → (cnd b rb set last j && decide (1 + mc b rb (set ||| 2 ^ j) j = left)) = false := by
  unfold tnx
  cases hf : fm (fun v => cnd b rb set last v && decide (1 + mc b rb (set ||| 2 ^ v) v = left)) b.n with
  | none =>
    exfalso
    rcases mxS_at (f := cvl b rb set last) (n := b.n) with q | ⟨i, h1, h2⟩
    · omega
    · have h3 := fm_none.mp hf i h1
      have h4 : cvl b rb set last i = left := by rw [h2, hm]
      unfold cvl at h4
      split at h4
      · rename_i hc
        rw [hc, h4] at h3
        simp at h3
      · omega
  | some k =>
    obtain ⟨h1, h2, h3⟩ := fm_some.mp hf
    rw [Bool.and_eq_true, decide_eq_true_eq] at h2
    exact ⟨h1, h2.1, h2.2, h3⟩
theorem tst_ok {b : Bk} {rb : Nat → Bool} (hn : b.n ≤ 12) : ∀ {k : Nat}, k ≤ lng b rb → (tst b rb k).1 < 4096 ∧ mxS (cvl b rb (tst b rb k).1 (tst b rb k).2) b.n = lng b rb - k
  | 0, _ => ⟨by simp [tst], rfl⟩
  | k + 1, h => by
    obtain ⟨h1, h2⟩ := tst_ok (rb := rb) hn (k := k) (by omega)
    obtain ⟨n1, n2, n3, n4⟩ := tnx_ok (by omega) h2
    have g2 := or_lt (k := 12) h1 (by omega : tnx b rb (tst b rb k).1 (tst b rb k).2 (lng b rb - k) < 12)
    rw [tst]
    refine ⟨g2, ?_⟩
    dsimp only
    rw [cvl_some hn g2]
    omega
theorem mxS_step_le {f : Nat → Nat} {n : Nat} (h : f n ≤ mxS f n) : mxS f (n + 1) = mxS f n := by rw [mxS, if_neg (by omega)]
theorem mxS_step_gt {f : Nat → Nat} {n : Nat} (h : mxS f n < f n) : mxS f (n + 1) = f n := by rw [mxS, if_pos h]
