/-! PART 52: the class: lessons: the shares -/
theorem iI_sub (a b : Int) : iI (a - b) = iI a - iI b := Int32.ofInt_sub a b
theorem guess_lt {b : Bk} {s r : Nat} (h : bk_guess b s = some r) : r < b.n := am_lt h
theorem sounded_lt {b : Bk} {m : Option Nat} {w r : Nat} (hw : w < b.n) (h : bk_sounded b m w = some r) : r < b.n := by
  unfold bk_sounded at h
  split at h
  · cases h; exact hw
  · exact (fm_some.mp h).1
theorem sub_zero (k : Nat) : sub 0 k := by unfold sub; exact Nat.zero_and _
theorem sub_pow {s k : Nat} : sub (2 ^ s) k ↔ k.testBit s = true := by
  rw [sub_iff]
  constructor
  · intro h; exact h s (by rw [Nat.testBit_two_pow]; simp)
  · intro h i hi
    rw [Nat.testBit_two_pow, decide_eq_true_eq] at hi
    subst hi; exact h
theorem bits_first {b : Bk} (hb : BOk b) {w : Nat} (hw : w < b.n) : (bk_bits b w).testBit (b.sg w 0) = true := orB_bit.mpr ⟨0, (hb.2 w hw).1, by rw [Nat.testBit_two_pow]; simp⟩
def shGs (b : Bk) (w : Nat) : Nat := if bk_guess b (b.sg w 0) = some w then b.of w else 0
def shSn (b : Bk) (m : Option Nat) (w : Nat) : Nat := if bk_sounded b m w = some w then b.of w else 0
def shMA (b : Bk) (ws w : Nat) : Nat := if ws.testBit w = true then 0 else 2 ^ b.sg w 0
def shVA (b : Bk) (ws w : Nat) : Int := if ws.testBit w = true then (b.of w : Int) else (shGs b w : Int)
def shVB (b : Bk) (m : Option Nat) (ws w : Nat) : Int := if ws.testBit w = true then 0 else (shSn b m w : Int) - (shGs b w : Int)
theorem sh_sum {b : Bk} (hb : BOk b) {m : Option Nat} {ws k w : Nat} (hw : w < b.n) : (if sub (shMA b ws w) k then shVA b ws w else 0) + (if sub (bk_bits b w) k then shVB b m ws w else 0) = ((if bk_can b m k ws w = true then b.of w else 0 : Nat) : Int) := by
  unfold shMA shVA shVB bk_can bk_rd shGs shSn
  by_cases h1 : ws.testBit w = true
  · simp only [h1, if_true, if_pos (sub_zero k)]
    simp
  · simp only [h1, if_false, Bool.false_eq_true]
    by_cases h2 : sub (bk_bits b w) k
    · have h3 : k.testBit (b.sg w 0) = true := sub_iff.mp h2 _ (bits_first hb hw)
      rw [if_pos (sub_pow.mpr h3), if_pos h2, if_pos h2]
      by_cases h4 : bk_sounded b m w = some w
      · simp only [h4, if_true, decide_true]
        omega
      · simp only [h4, if_false, decide_false, Bool.false_eq_true]
        omega
    · rw [if_neg h2, if_neg h2]
      by_cases h3 : k.testBit (b.sg w 0) = true
      · rw [if_pos (sub_pow.mpr h3), if_pos h3]
        by_cases h4 : bk_guess b (b.sg w 0) = some w
        · simp only [h4, if_true, decide_true]
          omega
        · simp only [h4, if_false, decide_false, Bool.false_eq_true]
          omega
      · rw [if_neg (fun q => h3 (sub_pow.mp q)), if_neg h3]
        simp
section CLAB
variable {l : Launch} {g : Geo} {S : Mem} {b : Bk} {ch : Ch} {K : Int32 → Mem → Prop}
theorem put_two {T : Mem} {c : Nat → Int} {p q i : Nat} {x y : Int} {X Y : Int32} (hT : ∀ i, i < 1024 → T 40 i = iI (c i)) (hp : p < 1024) (hq : q < 1024) (hi : i < 1024) (hX : X = iI x) (hY : Y = iI y) : st2 (st2 T 40 p (T 40 p + X)) 40 q ((st2 T 40 p (T 40 p + X)) 40 q + Y) 40 i = iI (c i + (if p = i then x else 0) + (if q = i then y else 0)) := by
  subst hX; subst hY
  have z : iI 0 = 0 := rfl
  rw [st2_get, st2_get, st2_get, hT p hp, hT q hq, hT i hi, iI_add, iI_add]
  by_cases h1 : i = q
  · subst h1
    rw [if_pos rfl, if_pos rfl]
    by_cases h2 : i = p
    · subst h2
      rw [if_pos rfl, if_pos rfl]
    · rw [if_neg h2, if_neg (show ¬ p = i from fun e => h2 e.symm), z, Int32.add_zero]
  · rw [if_neg h1, if_neg (show ¬ q = i from fun e => h1 e.symm), z, Int32.add_zero]
    by_cases h2 : i = p
    · subst h2
      rw [if_pos rfl, if_pos rfl]
    · rw [if_neg h2, if_neg (show ¬ p = i from fun e => h2 e.symm), z, Int32.add_zero]
theorem c_X4_findShares {K : Mem → Prop} {c : Nat} (hb : BOk b) (hX : XB S 4 b) (hU : XU S b) (hH : XH S 10 ch) (hc : c < 4) (hm : mx2 (ch.m c)) (hws : ch.ws c < 4096) (hk : ∀ S2, (∀ a, a ≠ 26 → a ≠ 40 → S2 a = S a) → (∀ k, k < 1024 → S2 40 k = nI (bk_share b (ch.m c) k (ch.ws c))) → K S2) : MWv l g shX m_X4_findShares [.ref (g.ad 39), .int (nI c)] S K := by
  have hn := hb.1
  refine MWv.intro _ rfl (Nat.le_of_ble_eq_true rfl) rfl (fun x ok => s_X4_findShares_0 ok _ S (c_fill rfl (by decide) (fun f hf => ?_)))
  obtain ⟨A, hA⟩ : ∃ A, A = ptS (shMA b (ch.ws c)) (shVA b (ch.ws c)) := ⟨_, rfl⟩
  obtain ⟨B, hB⟩ : ∃ B, B = ptS (bk_bits b) (shVB b (ch.m c) (ch.ws c)) := ⟨_, rfl⟩
  have A0 : ∀ i, A 0 i = 0 := fun i => by rw [hA]; rfl
  have B0 : ∀ i, B 0 i = 0 := fun i => by rw [hB]; rfl
  have A1 : ∀ w i, A (w + 1) i = A w i + if shMA b (ch.ws c) w = i then shVA b (ch.ws c) w else 0 := fun w i => by rw [hA]; rfl
  have B1 : ∀ w i, B (w + 1) i = B w i + if bk_bits b w = i then shVB b (ch.m c) (ch.ws c) w else 0 := fun w i => by rw [hB]; rfl
  have hMA : ∀ w, w < b.n → shMA b (ch.ws c) w < 1024 := fun w hw => by
    have := ((hb.2 w hw).2.2.2.2 0 (hb.2 w hw).1).1
    unfold shMA
    split
    · decide
    · exact Nat.pow_lt_pow_right (n := 10) (a := 2) (by decide) this
  refine lpU (fun w => ∀ S2 : Mem, (∀ a, a ≠ 26 → a ≠ 40 → S2 a = S a) → (∀ i, i < 1024 → S2 40 i = iI (A w i + B w i)) → PW l x g shX m_X4_findShares (Qv x g shX K) 10 [(0, .ref (g.ad 39)), (1, .int (nI c)), (2, .int (nI w))] [] S2) b.n ?_ (fun w hw ih => ?_) 0 (Nat.zero_le _) _ (fun a h1 h2 => by rw [stf_off h2]) (fun i hi => by rw [stf_same, hf i hi, A0, B0]; rfl)
  · intro S2 g1 g2
    have hX2 : XB S2 4 b := hX.of (fun a h1 h2 => g1 a (by omega) (by omega))
    refine s_X4_findShares_10 ok _ _ S2 ⟨fun _ => c_addUp rfl g2 (fun f hf => ?_), fun c => absurd ?_ c⟩
    · refine hk _ (fun a h1 h2 => by rw [stf_off h2]; exact g1 a h1 h2) (fun k hk => ?_)
      rw [stf_same, hf k hk, zI_add, hA, hB, zI_ptS hk b.n hMA, zI_ptS hk b.n (fun w hw => bits_lt hb hw), smI_add, smI_nat (h := fun w => if bk_can b (ch.m c) k (ch.ws c) w = true then b.of w else 0) (fun w hw => sh_sum hb hw), iI_nat]
      rfl
    · simp (disch := omega) only [hX2.1, nI_leI, Nat.le_refl]
  · intro S2 g1 g2
    have hX2 : XB S2 4 b := hX.of (fun a h1 h2 => g1 a (by omega) (by omega))
    have hU2 : XU S2 b := hU.of (fun a h1 h2 => g1 a (by omega) (by omega))
    have hH2 : XH S2 10 ch := hH.of (fun a h1 h2 => g1 a (by omega) (by omega))
    have e6 : S2 6 (cl (nI w)) = nI (b.of w) := by rw [cl, nI_clamp (by omega)]; exact (hX2.2 w hw).2.1
    have e12 : S2 12 (cl (nI c)) = nI (ch.ws c) := by rw [cl, nI_clamp (by omega)]; exact (hH2 c hc).2.1
    have hbl : bk_bits b w < 1024 := bits_lt hb hw
    have hs0 := ((hb.2 w hw).2.2.2.2 0 (hb.2 w hw).1).1
    have hp0 : 2 ^ b.sg w 0 < 1024 := Nat.pow_lt_pow_right (n := 10) (a := 2) (by decide) hs0
    have hlg : ∀ r, bk_guess b (b.sg w 0) = some r → r < 2 ^ 31 := fun r h => by have := guess_lt h; omega
    have hls : ∀ r, bk_sounded b (ch.m c) w = some r → r < 2 ^ 31 := fun r h => by have := sounded_lt hw h; omega
    refine s_X4_findShares_10 ok _ _ S2 ⟨fun c => absurd c ?_, fun _ => ⟨inI (by omega) (by decide), inI hc (by decide), ?_⟩⟩
    · simp (disch := omega) only [hX2.1, nI_leI]; omega
    simp only [e6, e12]
    refine c_X11_hasBit (by omega) (by omega) ?_
    rw [bI0]
    refine ⟨fun y => c_X6_guessedAs hb hX2 hU2 hw ?_, fun y => ⟨inI (by decide) (by decide), inI (by decide) (by decide), ?_⟩⟩
    · have fin : ∀ (T : Mem), Xs S2 T → ∀ xx ss : Nat, xx = shGs b w → ss = shSn b (ch.m c) w → (vp_in (jshl (nI 1) (nI (b.sg w 0))) 1024 ∧ (vp_in (jshl (nI 1) (nI (b.sg w 0))) 1024 ∧ (vp_in (nI w) 12 ∧ (vp_in ((st2 T 40 (cl (jshl (nI 1) (nI (b.sg w 0)))) ((T 40 (cl (jshl (nI 1) (nI (b.sg w 0))))) + (nI xx))) 7 (cl (nI w))) 1024 ∧ (vp_in ((st2 T 40 (cl (jshl (nI 1) (nI (b.sg w 0)))) ((T 40 (cl (jshl (nI 1) (nI (b.sg w 0))))) + (nI xx))) 7 (cl (nI w))) 1024 ∧ PW l x g shX m_X4_findShares (Qv x g shX K) 10 [(0, .ref (g.ad 39)), (1, .int (nI c)), (2, .int ((nI w) + (nI 1)))] [] (st2 (st2 T 40 (cl (jshl (nI 1) (nI (b.sg w 0)))) ((T 40 (cl (jshl (nI 1) (nI (b.sg w 0))))) + (nI xx))) 40 (cl ((st2 T 40 (cl (jshl (nI 1) (nI (b.sg w 0)))) ((T 40 (cl (jshl (nI 1) (nI (b.sg w 0))))) + (nI xx))) 7 (cl (nI w)))) (((st2 T 40 (cl (jshl (nI 1) (nI (b.sg w 0)))) ((T 40 (cl (jshl (nI 1) (nI (b.sg w 0))))) + (nI xx))) 40 (cl ((st2 T 40 (cl (jshl (nI 1) (nI (b.sg w 0)))) ((T 40 (cl (jshl (nI 1) (nI (b.sg w 0))))) + (nI xx))) 7 (cl (nI w))))) + ((nI ss) - (nI xx))))))))) := by
        intro T R xx ss hxx hss
        have e7 : T 7 w = nI (bk_bits b w) := by rw [R 7 (by decide)]; exact (hX2.2 w hw).2.2.1
        have ej : jshl (nI 1) (nI (b.sg w 0)) = nI (2 ^ b.sg w 0) := jshl_1 (by omega)
        rw [ej]
        have ec : cl (nI (2 ^ b.sg w 0)) = 2 ^ b.sg w 0 := by rw [cl, nI_clamp (by omega)]
        have ecw : cl (nI w) = w := by rw [cl, nI_clamp (by omega)]
        have ecb : cl (nI (bk_bits b w)) = bk_bits b w := by rw [cl, nI_clamp (by omega)]
        rw [ec, ecw, st2_off (show (7 : Nat) ≠ 40 by decide), e7, ecb, nI_add]
        refine ⟨inI hp0 (by decide), inI hp0 (by decide), inI (by omega) (by decide), inI hbl (by decide), inI hbl (by decide), ih _ (fun a h1 h2 => ?_) (fun i hi => ?_)⟩
        · rw [st2_off h2, st2_off h2, R a h1]; exact g1 a h1 h2
        · rw [put_two (c := fun i => A w i + B w i) (x := (shGs b w : Int)) (y := (shSn b (ch.m c) w : Int) - (shGs b w : Int)) (fun i hi => by rw [R 40 (by decide)]; exact g2 i hi) hp0 hbl hi (by rw [hxx, iI_nat]) (by rw [hxx, hss, iI_sub, iI_nat, iI_nat])]
          rw [A1, B1]
          have eA : shMA b (ch.ws c) w = 2 ^ b.sg w 0 := by unfold shMA; rw [if_neg (by rw [y]; decide)]
          have eV : shVA b (ch.ws c) w = (shGs b w : Int) := by unfold shVA; rw [if_neg (by rw [y]; decide)]
          have eW : shVB b (ch.m c) (ch.ws c) w = (shSn b (ch.m c) w : Int) - (shGs b w : Int) := by unfold shVB; rw [if_neg (by rw [y]; decide)]
          rw [eA, eV, eW]
          congr 1
          omega
      rw [oI_nI hlg (by omega)]
      refine ⟨fun z => c_X6_soundedAs hb hX2 hU2 hH2 hc hw hm (fun T R => ?_), fun z => c_X6_soundedAs hb hX2 hU2 hH2 hc hw hm (fun T R => ?_)⟩
      · rw [oI_nI hls (by omega)]
        have hXT : XB T 4 b := R.XB (o := 4) (by decide) hX2
        have eg : shGs b w = 0 := by unfold shGs; rw [if_neg z]
        refine ⟨fun u => c_X1_firstSign hb hXT hw ?_, fun u => c_X1_firstSign hb hXT hw ?_⟩
        · exact fin T R 0 0 eg.symm (by unfold shSn; rw [if_neg u])
        · exact fin T R 0 (b.of w) eg.symm (by unfold shSn; rw [if_pos u])
      · rw [oI_nI hls (by omega)]
        have hXT : XB T 4 b := R.XB (o := 4) (by decide) hX2
        have eg : shGs b w = b.of w := by unfold shGs; rw [if_pos z]
        refine ⟨fun u => c_X1_firstSign hb hXT hw ?_, fun u => c_X1_firstSign hb hXT hw ?_⟩
        · exact fin T R (b.of w) 0 eg.symm (by unfold shSn; rw [if_neg u])
        · exact fin T R (b.of w) (b.of w) eg.symm (by unfold shSn; rw [if_pos u])
    · rw [Bool.not_eq_false] at y
      have ec : cl (nI 0) = 0 := by rw [cl, nI_clamp (by decide)]
      rw [ec, nI_add]
      refine ih _ (fun a h1 h2 => by rw [st2_off h2]; exact g1 a h1 h2) (fun i hi => ?_)
      rw [A1, B1]
      have eA : shMA b (ch.ws c) w = 0 := by unfold shMA; rw [if_pos y]
      have eV : shVA b (ch.ws c) w = (b.of w : Int) := by unfold shVA; rw [if_pos y]
      have eW : shVB b (ch.m c) (ch.ws c) w = 0 := by unfold shVB; rw [if_pos y]
      have e0 : (if bk_bits b w = i then (0 : Int) else 0) = 0 := by split <;> rfl
      rw [eA, eV, eW, e0, st2_get]
      by_cases e : i = 0
      · subst e
        rw [if_pos rfl, if_pos rfl, g2 0 hi, ← iI_nat, ← iI_add]
        congr 1
        omega
      · rw [if_neg e, if_neg (fun q => e q.symm), g2 i hi]
        congr 1
        omega
end CLAB
