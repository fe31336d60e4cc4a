/-! PART 09: Math.max and Math.min -/
def jmax (a b : Int32) : Int32 := if a < b then b else a
def jmin (a b : Int32) : Int32 := if b < a then b else a
section MAXMIN
variable {l : Launch} {x : Cx} {g : Geo} {sh : List Shp} {d : Md} {Q : State → Prop} {pc : Nat} {L : List (Nat × Value)} {rest : List Value} {S : Mem}
theorem r_max (ok : Ok x g sh d) {i : Nat} {a b : Int32} (hc : CalS d m_J9_max_7cf53 i 2) (hrm : (rest.map fun v => v.category).sum ≤ 8) (hd : decode d.2.1 pc = .ok (.invokestatic i, 3)) (kk : PW l x g sh d Q (pc + 3) L (.int (jmax a b) :: rest) S) : PW l x g sh d Q pc L (.int b :: .int a :: rest) S := fun H locs ls hP hS hl =>
  va_mmax ok.1 ok.2.1 (ok.2.2.1.trans hl.1.symm) ok.2.2.2.1 (ok.2.2.2.2.1 _ (hc.1 _ (List.mem_cons_self))) (ok.2.2.2.2.1 _ (hc.1 _ (List.mem_cons_of_mem _ List.mem_cons_self))) (ok.2.2.2.2.1 _ (hc.1 _ (List.mem_cons_of_mem _ (List.mem_cons_of_mem _ List.mem_cons_self)))) (ok.2.2.2.2.1 _ (hc.1 _ (List.mem_cons_of_mem _ (List.mem_cons_of_mem _ (List.mem_cons_of_mem _ List.mem_cons_self))))) (Nat.le_trans (Nat.le_add_left 1 _) hc.2.2.1) (by
    have h1 : 8 + (2 + 11) + 0 ≤ d.2.2.2.2.2 := hc.2.2.2
    show _ ≤ d.2.2.2.2.2
    omega) (Nat.le_refl _) (Nat.le_refl _) hd (kk H locs ls hP hS hl)
theorem r_min (ok : Ok x g sh d) {i : Nat} {a b : Int32} (hc : CalS d m_J9_min_7cf53 i 2) (hrm : (rest.map fun v => v.category).sum ≤ 8) (hd : decode d.2.1 pc = .ok (.invokestatic i, 3)) (kk : PW l x g sh d Q (pc + 3) L (.int (jmin a b) :: rest) S) : PW l x g sh d Q pc L (.int b :: .int a :: rest) S := fun H locs ls hP hS hl =>
  va_mmin ok.1 ok.2.1 (ok.2.2.1.trans hl.1.symm) ok.2.2.2.1 (ok.2.2.2.2.1 _ (hc.1 _ (List.mem_cons_self))) (ok.2.2.2.2.1 _ (hc.1 _ (List.mem_cons_of_mem _ List.mem_cons_self))) (ok.2.2.2.2.1 _ (hc.1 _ (List.mem_cons_of_mem _ (List.mem_cons_of_mem _ List.mem_cons_self)))) (ok.2.2.2.2.1 _ (hc.1 _ (List.mem_cons_of_mem _ (List.mem_cons_of_mem _ (List.mem_cons_of_mem _ List.mem_cons_self))))) (Nat.le_trans (Nat.le_add_left 1 _) hc.2.2.1) (by
    have h1 : 8 + (2 + 11) + 0 ≤ d.2.2.2.2.2 := hc.2.2.2
    show _ ≤ d.2.2.2.2.2
    omega) (Nat.le_refl _) (Nat.le_refl _) hd (kk H locs ls hP hS hl)
end MAXMIN
