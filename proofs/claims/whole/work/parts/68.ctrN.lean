/-! PART 68: the reference's constructor: its plain state -/
def S0m : Mem := fun k => if k = 11 then (upd (upd (upd (upd (fun _ => 0) 0 (-6)) 1 (-6)) 2 (-6)) 3 (-6)) else fun _ => 0
theorem MRep0 : MRep S0m sg0 := by
  refine ⟨⟨⟨rfl, fun w hw => absurd hw (Nat.not_lt_zero w)⟩, fun c hc => ⟨rfl, rfl, ?_⟩, ⟨rfl, fun k hk => absurd hk (Nat.not_lt_zero k)⟩⟩, rfl, fun i hi => absurd hi (Nat.not_lt_zero i), fun n hn => ?_⟩
  · revert hc
    revert c
    refine allB_all (n := 4) ?_
    exact ⟨⟨⟨⟨trivial, rfl⟩, rfl⟩, rfl⟩, rfl⟩
  · show S0m 22 n = 0
    rfl
set_option maxRecDepth 100000 in
set_option maxHeartbeats 4000000 in
theorem ci_M {l : Launch} {g : Geo} {K : va_W → Prop} {h0 : Nat} (hk : ∀ (ad : Nat → Nat) (S2 : Mem), ad 0 = h0 → MRep S2 sg0 → K (wld (g.1, ad, g.2.2) shM S2)) : MCt l g m_X12_init 22 52053 [.ref h0] [(h0, .inr (12, [.null, .null, .null, .null, .int 0, .null, .int 0, .int 0, .null, .null, .null, .null, .null, .null, .int 0, .int 0, .null, .null, .null, .null, .null, .null, .int 0, .null, .null, .null, .int 0, .null, .null, .int 0, .int 0]))] K := by
  refine ci_X12 (fun q1 q2 q3 q4 q5 q6 q7 q8 q9 q10 q11 q12 q13 q14 q15 q16 q17 q18 q19 q20 q21 q22 => ?_)
  obtain ⟨ad, had⟩ : ∃ ad : Nat → Nat, ad = (fun k => ([h0, q1, q2, q3, q4, q5, q6, q7, q8, q9, q10, q11, q12, q13, q14, q15, q16, q17, q18, q19, q20, q21, q22] : List Nat).getD k 0) := ⟨_, rfl⟩
  have ef : ([.ref q1, .ref q2, .ref q3, .ref q4, .int 0, .ref q5, .int 0, .int 0, .ref q6, .ref q7, .ref q8, .ref q9, .ref q10, .ref q11, .int 0, .int 0, .ref q12, .ref q13, .ref q14, .ref q15, .ref q16, .ref q17, .int 0, .ref q18, .ref q19, .ref q20, .int 0, .ref q21, .ref q22, .int 0, .int 0] : List Value) = ([some 1, some 2, some 3, some 4, none, some 5, none, none, some 6, some 7, some 8, some 9, some 10, some 11, none, none, some 12, some 13, some 14, some 15, some 16, some 17, none, some 18, some 19, some 20, none, some 21, some 22, none, none] : List (Option Nat)).mapIdx (cF (g.1, ad, g.2.2) S0m 0) := by
    subst had
    apply List.ext_getElem?
    intro k
    rw [List.getElem?_mapIdx]
    by_cases hk : k < 31
    · revert hk
      revert k
      refine allB_all (n := 31) ?_
      exact ⟨⟨⟨⟨⟨⟨⟨⟨⟨⟨⟨⟨⟨⟨⟨⟨⟨⟨⟨⟨⟨⟨⟨⟨⟨⟨⟨⟨⟨⟨⟨trivial, rfl⟩, rfl⟩, rfl⟩, rfl⟩, rfl⟩, rfl⟩, rfl⟩, rfl⟩, rfl⟩, rfl⟩, rfl⟩, rfl⟩, rfl⟩, rfl⟩, rfl⟩, rfl⟩, rfl⟩, rfl⟩, rfl⟩, rfl⟩, rfl⟩, rfl⟩, rfl⟩, rfl⟩, rfl⟩, rfl⟩, rfl⟩, rfl⟩, rfl⟩, rfl⟩, rfl⟩
    · rw [List.getElem?_eq_none (by show 31 ≤ k; omega), List.getElem?_eq_none (by show 31 ≤ k; omega)]; rfl
  have e : [(h0, .inr (12, [.ref q1, .ref q2, .ref q3, .ref q4, .int 0, .ref q5, .int 0, .int 0, .ref q6, .ref q7, .ref q8, .ref q9, .ref q10, .ref q11, .int 0, .int 0, .ref q12, .ref q13, .ref q14, .ref q15, .ref q16, .ref q17, .int 0, .ref q18, .ref q19, .ref q20, .int 0, .ref q21, .ref q22, .int 0, .int 0])), (q1, .inl (g.2.2 0, 60, .inl (fun _ => 0))), (q2, .inl (g.2.2 0, 60, .inl (fun _ => 0))), (q3, .inl (g.2.2 0, 12, .inl (fun _ => 0))), (q4, .inl (g.2.2 0, 12, .inl (fun _ => 0))), (q5, .inl (g.2.2 0, 14, .inl (fun _ => 0))), (q6, .inl (g.2.2 0, 100, .inl (fun _ => 0))), (q7, .inl (g.2.2 0, 10, .inl (fun _ => 0))), (q8, .inl (g.2.2 0, 12, .inl (fun _ => 0))), (q9, .inl (g.2.2 0, 4, .inl (fun _ => 0))), (q10, .inl (g.2.2 0, 4, .inl (fun _ => 0))), (q11, .inl (g.2.2 0, 4, .inl (upd (upd (upd (upd (fun _ => 0) 0 (-6)) 1 (-6)) 2 (-6)) 3 (-6)))), (q12, .inl (g.2.2 0, 1024, .inl (fun _ => 0))), (q13, .inl (g.2.2 0, 1024, .inl (fun _ => 0))), (q14, .inl (g.2.2 0, 49152, .inl (fun _ => 0))), (q15, .inl (g.2.2 1, 12, .inl (fun _ => 0))), (q16, .inl (g.2.2 0, 20, .inl (fun _ => 0))), (q17, .inl (g.2.2 0, 20, .inl (fun _ => 0))), (q18, .inl (g.2.2 0, 11, .inl (fun _ => 0))), (q19, .inl (g.2.2 0, 52, .inl (fun _ => 0))), (q20, .inl (g.2.2 0, 4, .inl (fun _ => 0))), (q21, .inl (g.2.2 0, 440, .inl (fun _ => 0))), (q22, .inl (g.2.2 1, 2, .inl (fun _ => 0)))] = wld (g.1, ad, g.2.2) shM S0m := by
    rw [ef]
    subst had
    apply List.ext_getElem?
    intro k
    unfold wld
    rw [List.getElem?_mapIdx]
    by_cases hk : k < 23
    · revert hk
      revert k
      refine allB_all (n := 23) ?_
      exact ⟨⟨⟨⟨⟨⟨⟨⟨⟨⟨⟨⟨⟨⟨⟨⟨⟨⟨⟨⟨⟨⟨⟨trivial, rfl⟩, rfl⟩, rfl⟩, rfl⟩, rfl⟩, rfl⟩, rfl⟩, rfl⟩, rfl⟩, rfl⟩, rfl⟩, rfl⟩, rfl⟩, rfl⟩, rfl⟩, rfl⟩, rfl⟩, rfl⟩, rfl⟩, rfl⟩, rfl⟩, rfl⟩, rfl⟩
    · rw [List.getElem?_eq_none (by show 23 ≤ k; omega), List.getElem?_eq_none (by show 23 ≤ k; omega)]; rfl
  rw [e]
  exact hk ad S0m (by subst had; rfl) MRep0
