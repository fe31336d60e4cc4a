/-! PART 72: the law from its entry -/
theorem cr_astore {l : Launch} {x : Cx} {g : Geo} {A : Nat → Prop} {d : Md} {R : Room} {Q : State → Prop} {pc : Nat} {L : List (Nat × Value)} {rest : List Value} {ws : va_W} {k m : Nat} (ok : OkC x g A d) {j : Fin 4} {a : Nat} (L2 : List (Nat × Value)) (hd : decode d.2.1 pc = .ok (.astore_n j, 1)) (hn : (j : Nat) < d.2.2.1) (hl2 : ((j : Nat), Value.ref a) :: L.filter (fun q => !(q.1 == (j : Nat)) && !(q.1 + 1 == (j : Nat) && q.2.category == 2)) = L2) (kk : CW l x g A R d.2.2.1 Q (pc + 1) L2 rest ws k m) : CW l x g A R d.2.2.1 Q pc L (.ref a :: rest) ws k m := fun H locs ls hP hD hS hl => lv_astore_n ok.1 ok.2.1 hd rfl hl hn hl2 (fun ls2 hl2 => kk H locs ls2 hP hD hS hl2)
theorem app_at {α : Type} {w1 w2 : List α} {k : Nat} {q : α} (h : w1[k]? = some q) : (w1 ++ w2)[k]? = some q := by rw [List.getElem?_append_left (List.getElem?_eq_some_iff.mp h).1]; exact h
theorem app_at2 {α : Type} {w1 w2 : List α} {k : Nat} {q : α} (h : w2[k]? = some q) : (w1 ++ w2)[w1.length + k]? = some q := by rw [List.getElem?_append_right (by omega), Nat.add_sub_cancel_left]; exact h
theorem two_parts {D : va_G} {cs : List vw_C} {A : Nat → Prop} {wX wM : va_W} {H : Heap} (hP : va_P D cs (([] ++ wX) ++ wM) H) (hD : va_D A (([] ++ wX) ++ wM)) : va_P D cs wX H ∧ va_P D cs wM H ∧ va_D A wX ∧ va_D A wM ∧ ∀ (i j : Nat) (u v : Nat × va_E), wX[i]? = some u → wM[j]? = some v → u.1 ≠ v.1 := by
  rw [List.nil_append] at hP hD
  refine ⟨fun k q hk => hP k q (app_at hk), fun k q hk => hP _ q (app_at2 hk), ⟨fun i j u v hi hj => hD.1 i j u v (app_at hi) (app_at hj), fun k q hk => hD.2 k q (app_at hk)⟩, ⟨fun i j u v hi hj h => ?_, fun k q hk => hD.2 _ q (app_at2 hk)⟩, fun i j u v hi hj h => ?_⟩
  · have := hD.1 _ _ u v (app_at2 (w1 := wX) hi) (app_at2 hj) h
    omega
  · have h1 := hD.1 _ _ u v (app_at hi) (app_at2 hj) h
    have h2 := (List.getElem?_eq_some_iff.mp hi).1
    omega
theorem nk_L_7 : NewOk RL 7 11 RX11 TX11 10 tyX11 := ⟨rfl, inGX11, tyX11_ok, (gt_in (List.mem_of_getElem? (i := 77) (by decide +kernel)) rfl), (gt_in (List.mem_of_getElem? (i := 78) (by decide +kernel)) rfl), (gt_in (List.mem_of_getElem? (i := 60) (by decide +kernel)) rfl)⟩
theorem ki_L_9 : CalI m_L m_X11_init 9 0 := ⟨al4 (gt_in (List.mem_of_getElem? (i := 79) (by decide +kernel)) rfl) (gt_in (List.mem_of_getElem? (i := 80) (by decide +kernel)) rfl) (gt_in (List.mem_of_getElem? (i := 60) (by decide +kernel)) rfl) (gt_in (List.mem_of_getElem? (i := 81) (by decide +kernel)) rfl), ⟨by decide, by decide, by decide +kernel⟩, rfl, rfl⟩
theorem nk_L_10 : NewOk RL 10 12 RX12 TX12 31 tyX12 := ⟨rfl, inGX12, tyX12_ok, (gt_in (List.mem_of_getElem? (i := 955) (by decide +kernel)) rfl), (gt_in (List.mem_of_getElem? (i := 956) (by decide +kernel)) rfl), (gt_in (List.mem_of_getElem? (i := 73) (by decide +kernel)) rfl)⟩
theorem ki_L_12 : CalI m_L m_X12_init 12 0 := ⟨al4 (gt_in (List.mem_of_getElem? (i := 957) (by decide +kernel)) rfl) (gt_in (List.mem_of_getElem? (i := 958) (by decide +kernel)) rfl) (gt_in (List.mem_of_getElem? (i := 73) (by decide +kernel)) rfl) (gt_in (List.mem_of_getElem? (i := 959) (by decide +kernel)) rfl), ⟨by decide, by decide, by decide +kernel⟩, rfl, rfl⟩
/-- what the tables say at the law's entry: classes, arrays, links of nest mates -/
theorem geo_of {s : State} {args : Array Value} (hts : ∀ w ∈ lw_tbl, w.before args s = true) : ∃ g : Geo, Kc g s := by
  obtain ⟨c0, i0, k0⟩ := u_known (C := RX0) (T := TX0) (N := 3) (n := 3) hts inX0 (hts (.instantiable RX0 3) (List.mem_of_getElem? (i := 184) (by decide +kernel)))
  obtain ⟨c1, i1, k1⟩ := u_known (C := RX1) (T := TX1) (N := 6) (n := 6) hts inX1 (hts (.instantiable RX1 6) (List.mem_of_getElem? (i := 108) (by decide +kernel)))
  obtain ⟨c2, i2, k2⟩ := u_known (C := RX2) (T := TX2) (N := 4) (n := 4) hts inX2 (hts (.instantiable RX2 4) (List.mem_of_getElem? (i := 154) (by decide +kernel)))
  obtain ⟨c3, i3, k3⟩ := u_known (C := RX3) (T := TX3) (N := 9) (n := 9) hts inX3 (hts (.instantiable RX3 9) (List.mem_of_getElem? (i := 335) (by decide +kernel)))
  obtain ⟨c4, i4, k4⟩ := u_known (C := RX4) (T := TX4) (N := 8) (n := 8) hts inX4 (hts (.instantiable RX4 8) (List.mem_of_getElem? (i := 369) (by decide +kernel)))
  obtain ⟨c5, i5, k5⟩ := u_known (C := RX5) (T := TX5) (N := 2) (n := 2) hts inX5 (hts (.instantiable RX5 2) (List.mem_of_getElem? (i := 86) (by decide +kernel)))
  obtain ⟨c6, i6, k6⟩ := u_known (C := RX6) (T := TX6) (N := 4) (n := 4) hts inX6 (hts (.instantiable RX6 4) (List.mem_of_getElem? (i := 257) (by decide +kernel)))
  obtain ⟨c7, i7, k7⟩ := u_known (C := RX7) (T := TX7) (N := 3) (n := 3) hts inX7 (hts (.instantiable RX7 3) (List.mem_of_getElem? (i := 102) (by decide +kernel)))
  obtain ⟨c8, i8, k8⟩ := u_known (C := RX8) (T := TX8) (N := 8) (n := 8) hts inX8 (hts (.instantiable RX8 8) (List.mem_of_getElem? (i := 218) (by decide +kernel)))
  obtain ⟨c9, i9, k9⟩ := u_known (C := RX9) (T := TX9) (N := 7) (n := 7) hts inX9 (hts (.instantiable RX9 7) (List.mem_of_getElem? (i := 276) (by decide +kernel)))
  obtain ⟨c10, i10, k10⟩ := u_known (C := RX10) (T := TX10) (N := 6) (n := 6) hts inX10 (hts (.instantiable RX10 6) (List.mem_of_getElem? (i := 307) (by decide +kernel)))
  obtain ⟨c11, i11, k11⟩ := u_known (C := RX11) (T := TX11) (N := 10) (n := 10) hts inX11 (hts (.instantiable RX11 10) (List.mem_of_getElem? (i := 78) (by decide +kernel)))
  obtain ⟨c12, i12, k12⟩ := u_known (C := RX12) (T := TX12) (N := 31) (n := 31) hts inX12 (hts (.instantiable RX12 31) (List.mem_of_getElem? (i := 956) (by decide +kernel)))
  obtain ⟨cI, kI, pI, f1, f2, f3⟩ := Cond.arrayClass_spec (hts (.arrayClass .int) (List.mem_of_getElem? (i := 100) (by decide +kernel)))
  obtain ⟨cB, kB, pB, b1, b2, b3⟩ := Cond.arrayClass_spec (hts (.arrayClass .boolean) (List.mem_of_getElem? (i := 203) (by decide +kernel)))
  have hAO : va_AO "WordsFirst$Room" s := va_AO.of (hts (.arrayOver (.object "WordsFirst$Room")) (List.mem_of_getElem? (i := 401) (by decide +kernel)))
  obtain ⟨pR, cR, kR, r1, r2, r3, r4, r5⟩ := Cond.arrayOver_spec hAO
  refine ⟨((fun k => if k = 0 then c0 else if k = 1 then c1 else if k = 2 then c2 else if k = 3 then c3 else if k = 4 then c4 else if k = 5 then c5 else if k = 6 then c6 else if k = 7 then c7 else if k = 8 then c8 else if k = 9 then c9 else if k = 10 then c10 else if k = 11 then c11 else c12, fun k => if k = 0 then i0 else if k = 1 then i1 else if k = 2 then i2 else if k = 3 then i3 else if k = 4 then i4 else if k = 5 then i5 else if k = 6 then i6 else if k = 7 then i7 else if k = 8 then i8 else if k = 9 then i9 else if k = 10 then i10 else if k = 11 then i11 else i12), fun _ => 0, fun t => if t = 0 then cI else if t = 1 then cB else cR), ⟨⟨fun k q hq => ?_, fun k q hq => ?_⟩, fun q hq => ?_⟩, hAO⟩
  · match k, hq with
    | 0, hq => cases hq; exact k0
    | 1, hq => cases hq; exact k1
    | 2, hq => cases hq; exact k2
    | 3, hq => cases hq; exact k3
    | 4, hq => cases hq; exact k4
    | 5, hq => cases hq; exact k5
    | 6, hq => cases hq; exact k6
    | 7, hq => cases hq; exact k7
    | 8, hq => cases hq; exact k8
    | 9, hq => cases hq; exact k9
    | 10, hq => cases hq; exact k10
    | 11, hq => cases hq; exact k11
    | 12, hq => cases hq; exact k12
    | k + 13, hq => simp at hq
  · match k, hq with
    | 0, hq => cases hq; exact ⟨fun n z => ⟨fun k h => (by cases h), kI, f2, pI, f3⟩, f1⟩
    | 1, hq => cases hq; exact ⟨fun n z => ⟨fun k h => (by cases h), kB, b2, pB, b3⟩, b1⟩
    | 2, hq => cases hq; exact ⟨fun n z => ⟨fun k h => (by cases h), kR, r3, pR, r4⟩, kR, pR, r3, r4, r1, r5⟩
    | k + 3, hq => simp at hq
  · obtain ⟨w, hw, e⟩ := List.mem_filterMap.mp hq
    cases w <;> first | (simp only [Option.some.injEq] at e; subst e; exact va_Nw.of rfl (hts _ hw)) | exact absurd e (by simp)
set_option maxRecDepth 100000 in
set_option maxHeartbeats 4000000 in
/-- THE LAW, from its entry -/
theorem whole_start {p : Program} {e : Env} {s : State} {m : MethodId} {below : List Frame} {meth : Method} {c : Code} (l : Launch) {b L : Nat} {xs : Nat → Int32} (hL : L ≤ 2048) (C0 : lw_At p s m meth c b L xs) : W p l e room_1 s m #[Value.ref b] below meth c s.heap [] 0 0 (lw_Z below #[Value.ref b] s) (entryFrame m ([Value.ref b] : List Value).toArray 4) := by
  obtain ⟨hx, hb, hr, hml, hown, hts, hX, hbl, hlocks, hgv⟩ := id C0
  obtain ⟨g, hK⟩ := geo_of hts
  obtain ⟨x, ex⟩ : ∃ x : Cx, x = (p, e, s, m, #[Value.ref b], below, meth, c) := ⟨_, rfl⟩
  have hg : ∀ w ∈ gtbl, w.before x.a x.s = true := fun w hw => by rw [ex]; exact hts w (List.mem_filter.mp hw).1
  have okC : OkC x g (fun q => s.heap.size ≤ q) m_L := by
    refine ⟨?_, ?_, ?_, ?_, hg, ?_, ?_, ?_, ?_, fun h => absurd h (by decide)⟩ <;> subst ex
    · exact hx
    · exact hb
    · exact hml
    · exact hown
    · exact hK
    · exact fun _ h => h
    · exact hr
    · exact hlocks
  have main : CW l x g (fun q => s.heap.size ≤ q) room_1 m_L.2.2.1 (lw_Z below #[Value.ref b] s) 0 [(0, .ref b)] [] [] 0 0 := by
    refine cr_new okC [.null, .null, .null, .null, .null, .null, .null, .null, .null, .null] dL_law_0 nk_L_7 (fun j hj => by rcases (show j = 0 ∨ j = 1 ∨ j = 2 ∨ j = 3 ∨ j = 4 ∨ j = 5 ∨ j = 6 ∨ j = 7 ∨ j = 8 ∨ j = 9 by omega) with rfl | rfl | rfl | rfl | rfl | rfl | rfl | rfl | rfl | rfl <;> rfl) (Nat.le_of_ble_eq_true rfl) (Nat.le_of_ble_eq_true rfl) (fun qX => ?_)
    refine cr_dup okC dL_law_3 rfl ?_
    refine cr_init okC (As := []) 75 8207 _ dL_law_4 ki_L_9 rfl rfl (Nat.le_of_ble_eq_true rfl) ⟨(Nat.le_of_ble_eq_true rfl), (Nat.le_of_ble_eq_true rfl)⟩ ⟨(Nat.le_of_ble_eq_true rfl), (Nat.le_of_ble_eq_true rfl)⟩ (ci_X11 (fun aX SX eX hXR => ?_))
    refine cr_astore okC [(1, .ref qX), (0, .ref b)] dL_law_7 (by decide) rfl ?_
    refine cr_new okC [.null, .null, .null, .null, .int 0, .null, .int 0, .int 0, .null, .null, .null, .null, .null, .null, .int 0, .int 0, .null, .null, .null, .null, .null, .null, .int 0, .null, .null, .null, .int 0, .null, .null, .int 0, .int 0] dL_law_8 nk_L_10 (fun j hj => by rcases (show j = 0 ∨ j = 1 ∨ j = 2 ∨ j = 3 ∨ j = 4 ∨ j = 5 ∨ j = 6 ∨ j = 7 ∨ j = 8 ∨ j = 9 ∨ j = 10 ∨ j = 11 ∨ j = 12 ∨ j = 13 ∨ j = 14 ∨ j = 15 ∨ j = 16 ∨ j = 17 ∨ j = 18 ∨ j = 19 ∨ j = 20 ∨ j = 21 ∨ j = 22 ∨ j = 23 ∨ j = 24 ∨ j = 25 ∨ j = 26 ∨ j = 27 ∨ j = 28 ∨ j = 29 ∨ j = 30 by omega) with rfl | rfl | rfl | rfl | rfl | rfl | rfl | rfl | rfl | rfl | rfl | rfl | rfl | rfl | rfl | rfl | rfl | rfl | rfl | rfl | rfl | rfl | rfl | rfl | rfl | rfl | rfl | rfl | rfl | rfl | rfl <;> rfl) (Nat.le_of_ble_eq_true rfl) (Nat.le_of_ble_eq_true rfl) (fun qM => ?_)
    refine cr_dup okC dL_law_11 rfl ?_
    refine cr_init okC (As := []) 22 52053 _ dL_law_12 ki_L_12 rfl rfl (Nat.le_of_ble_eq_true rfl) ⟨(Nat.le_of_ble_eq_true rfl), (Nat.le_of_ble_eq_true rfl)⟩ ⟨(Nat.le_of_ble_eq_true rfl), (Nat.le_of_ble_eq_true rfl)⟩ (ci_M (fun aM SM eM hMR => ?_))
    refine cr_astore okC [(2, .ref qM), (1, .ref qX), (0, .ref b)] dL_law_15 (by decide) rfl ?_
    refine cr_iconst okC (nI 0) dL_law_16 (by decide) ?_
    refine cr_istore okC [(3, .int (nI 0)), (2, .ref qM), (1, .ref qX), (0, .ref b)] dL_law_17 (by decide) rfl ?_
    intro H locs ls hP hD hS hl
    obtain ⟨hPX, hPM, hDX, hDM, hXM⟩ := two_parts hP hD
    have atX : ∀ i, i < 76 → ∃ u, (wld (g.1, aX, g.2.2) shX SX)[i]? = some u ∧ u.1 = aX i := fun i hi => ⟨_, wld_at (List.getElem?_eq_getElem (by rw [shX_len]; exact hi)), rfl⟩
    have atM : ∀ i, i < 23 → ∃ u, (wld (g.1, aM, g.2.2) shM SM)[i]? = some u ∧ u.1 = aM i := fun i hi => ⟨_, wld_at (List.getElem?_eq_getElem (by rw [shM_len]; exact hi)), rfl⟩
    have okL : OkL x (g.1, aX, g.2.2) (g.1, aM, g.2.2) b L xs := by
      refine ⟨okC.1, okC.2.1, okC.2.2.1, okC.2.2.2.1, hg, okC.2.2.2.2.2.1, okC.2.2.2.2.2.1, ⟨Apart.of hDX, Apart.of hDM, fun i j hi hj => ?_, fun i hi => ?_, fun i hi => ?_⟩, ?_, ?_, hL⟩
      · obtain ⟨u, u1, u2⟩ := atX i hi
        obtain ⟨v, v1, v2⟩ := atM j hj
        have := hXM i j u v u1 v1
        rw [u2, v2] at this
        exact this
      · obtain ⟨u, u1, u2⟩ := atX i hi
        have := hDX.2 i u u1
        rw [u2] at this
        subst ex
        exact this
      · obtain ⟨u, u1, u2⟩ := atM i hi
        have := hDM.2 i u u1
        rw [u2] at this
        subst ex
        exact this
      · subst ex; exact hX
      · subst ex; exact hbl
    have fin : ∀ i SX2 SM2, LW l x (g.1, aX, g.2.2) (g.1, aM, g.2.2) (lw_Z below #[Value.ref b] s) 1087 (Lc b (g.1, aX, g.2.2) (g.1, aM, g.2.2) i) [] SX2 SM2 := by
      intro i SX2 SM2 H2 locs2 ls2 _ _ hS2 _
      subst ex
      exact lv_iconst (v := 1) hx hb dL_law_1087 (by decide) (va_forget (fun q hq => hS2.2.2 q hq) (W.widen (k := 600000) (n := 7302250) (by decide) (by decide) (lw_ret hx hb hr hlocks dL_law_1088)))
    have loop := law_loop okL fin L 0 sg0 SX SM (by omega) (Nat.zero_le _) ok_sg0 hXR hMR
    refine loop H locs ls hPX hPM (by subst ex; exact hS) ?_
    have hl2 := lv_sub hl [3, 2, 1, 0] rfl
    subst eX
    subst eM
    exact hl2
  have hl := lv_entry ([.ref b]) (n := 4) (Nat.le_of_ble_eq_true rfl)
  rw [lg_entry_eq]
  subst ex
  exact main s.heap [] _ (fun k q h => by simp at h) ⟨fun i j p q h => by simp at h, fun k q h => by simp at h⟩ va_S.rf hl
