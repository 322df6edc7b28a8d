/-! ===== the law: what holds at its start ===== -/
theorem tb_300 : Cond.stringRef "SlateHills$Reader" 103 "island" ∈ lw_tbl := List.mem_append_right _ (List.mem_of_getElem? (i := 300) (by decide +kernel))
theorem tb_353 : Cond.stringRef "SlateHills$Reader" 109 "vines" ∈ lw_tbl := List.mem_append_right _ (List.mem_of_getElem? (i := 353) (by decide +kernel))
theorem tb_354 : Cond.stringRef "SlateHills$Reader" 111 "hill" ∈ lw_tbl := List.mem_append_right _ (List.mem_of_getElem? (i := 354) (by decide +kernel))
theorem tb_355 : Cond.stringRef "SlateHills$Reader" 113 "day" ∈ lw_tbl := List.mem_append_right _ (List.mem_of_getElem? (i := 355) (by decide +kernel))
theorem tb_314 : Cond.laysStatic "java/lang/String" "COMPACT_STRINGS" "Z" ∈ lw_tbl := List.mem_append_right _ (List.mem_of_getElem? (i := 314) (by decide +kernel))
theorem tb_330 : Cond.laysStatic "jdk/internal/util/Preconditions" "SIOOBE_FORMATTER" "Ljava/util/function/BiFunction;" ∈ lw_tbl := List.mem_append_right _ (List.mem_of_getElem? (i := 330) (by decide +kernel))
theorem tb_123 : Cond.arrayOver (.object "SlateHills$Land") ∈ lw_tbl := List.mem_append_right _ (List.mem_of_getElem? (i := 123) (by decide +kernel))
theorem tb_398 : Cond.methodLinkNest RX0 56 yX4_within "SlateHills" ∈ lw_tbl := List.mem_append_right _ (List.mem_of_getElem? (i := 398) (by decide +kernel))
theorem tb_449 : Cond.methodLinkNest RX0 101 yX4_holds "SlateHills" ∈ lw_tbl := List.mem_append_right _ (List.mem_of_getElem? (i := 449) (by decide +kernel))
theorem tb_403 : Cond.methodLinkNest RX0 64 yX4_fall "SlateHills" ∈ lw_tbl := List.mem_append_right _ (List.mem_of_getElem? (i := 403) (by decide +kernel))
theorem tb_418 : Cond.methodLinkNest RX0 74 yX4_growth "SlateHills" ∈ lw_tbl := List.mem_append_right _ (List.mem_of_getElem? (i := 418) (by decide +kernel))
theorem tb_597 : Cond.methodLinkNest RX3 81 yX4_growth "SlateHills" ∈ lw_tbl := List.mem_append_right _ (List.mem_of_getElem? (i := 597) (by decide +kernel))
theorem tb_638 : Cond.methodLinkNest RX3 89 yX4_fall "SlateHills" ∈ lw_tbl := List.mem_append_right _ (List.mem_of_getElem? (i := 638) (by decide +kernel))
def kxs : List Nat := [103, 109, 111, 113]
abbrev tmS (i : Nat) : Term := .string "SlateHills$Reader" (kxs.getD i 0)
abbrev nar1 : Cond := Cond.and given_1 narrow_1
theorem nr_ex : ∀ i, i < 4 → Cond.exactly (tmS i) "java/lang/String" ∈ flatC nar1 := by decide +kernel
theorem nr_co : ∀ i, i < 4 → Cond.eq (.field (tmS i) "java/lang/String" "coder" "B") (.int 0) ∈ flatC nar1 := by decide +kernel
theorem nr_ar : ∀ i, i < 4 → Cond.arrayOf (.field (tmS i) "java/lang/String" "value" "[B") .byte ∈ flatC nar1 := by decide +kernel
theorem nr_le : ∀ i, i < 4 → Cond.eq (.length (.field (tmS i) "java/lang/String" "value" "[B")) (.int (Int32.ofNat (([6, 5, 4, 3] : List Nat).getD i 0))) ∈ flatC nar1 := by decide +kernel
theorem nr_el : ∀ i, i < 4 → ∀ j, j < ([6, 5, 4, 3] : List Nat).getD i 0 → Cond.eq (.elem (.field (tmS i) "java/lang/String" "value" "[B") (.int (Int32.ofNat j))) (.int ((sbyt.getD i []).getD j 0)) ∈ flatC nar1 := by decide +kernel
theorem nr_ne : ∀ i, i < 4 → ∀ j, j < 4 → i < j → Cond.not (Cond.eq (tmS i) (tmS j)) ∈ flatC nar1 := by decide +kernel
theorem nr_cs : Cond.eq (.static "java/lang/String" "COMPACT_STRINGS" "Z") (.int 1) ∈ flatC nar1 := by decide +kernel
theorem nr_sf : Cond.isRef (.static "jdk/internal/util/Preconditions" "SIOOBE_FORMATTER" "Ljava/util/function/BiFunction;") ∈ flatC nar1 := by decide +kernel
theorem start_str {args : Array Value} {s : State} {A : Nat → Prop} (hts : ∀ w ∈ lw_tbl, w.before args s = true) (hgv : nar1.before args s = true) (hA : ∀ a : Nat, a < s.heap.size → ¬ A a) : ∃ (kK kV : Nat → Nat) (t0 : Nat), ∀ wd : Wd, (∀ i, i < 4 → wd.1 (100 + i) = kK i) → (∀ i, i < 4 → wd.1 (110 + i) = kV i) → wd.1 120 = t0 → sStr wd A s s.heap := by
  have hs := flat_of_before _ hgv
  obtain ⟨kK, kV, hS, hR⟩ := vk_Sof (N := 4) (tm := tmS) (len := [6, 5, 4, 3]) (byt := sbyt) (A := A) (args := args) (s := s) (by decide) (fun i hi => hs _ (nr_ex i hi)) (fun i hi => hs _ (nr_co i hi)) (fun i hi => hs _ (nr_ar i hi)) (fun i hi => hs _ (nr_le i hi)) (fun i hi j hj => hs _ (nr_el i hi j hj)) (fun i j hi hj hne => by
    rcases Nat.lt_or_ge i j with h | h
    · exact Or.inl (hs _ (nr_ne i hi j hj h))
    · exact Or.inr (hs _ (nr_ne j hj i hi (by omega)))) hA
  have hcs : va_Z "java/lang/String" "COMPACT_STRINGS" "Z" (.int 1) A s s.heap := va_Zof (hts _ tb_314) (hts _ (wsL_law_in _ wd_272)) (va_eqi (hs _ nr_cs)) hA
  have hsf := va_Zqof (hts _ tb_330) (hts _ (wsL_law_in _ wd_299)) (hs _ nr_sf) hA
  obtain ⟨t0, hsf⟩ : ∃ t0 : Nat, va_Z "jdk/internal/util/Preconditions" "SIOOBE_FORMATTER" "Ljava/util/function/BiFunction;" .null A s s.heap ∨ va_Z "jdk/internal/util/Preconditions" "SIOOBE_FORMATTER" "Ljava/util/function/BiFunction;" (.ref t0) A s s.heap := by
    rcases hsf with h | ⟨t, h⟩
    · exact ⟨0, Or.inl h⟩
    · exact ⟨t, Or.inr h⟩
  refine ⟨kK, kV, t0, fun wd h1 h2 h3 => ⟨⟨fun i hi => ?_, fun i j hi hj e => ?_⟩, ?_, ?_, ?_, ?_, hcs, by rw [h3]; exact hsf⟩⟩
  · show va_O "java/lang/String" (wd.1 (100 + i)) A s s.heap ∧ va_OF "java/lang/String" "coder" "B" (.int 0) (wd.1 (100 + i)) A s s.heap ∧ va_OF "java/lang/String" "value" "[B" (.ref (wd.1 (110 + i))) (wd.1 (100 + i)) A s s.heap ∧ va_T .byte (wd.1 (110 + i)) (([6, 5, 4, 3] : List Nat).getD i 0) (fun j => .int ((sbyt.getD i []).getD j 0)) A s s.heap
    rw [h1 i hi, h2 i hi]
    exact hS.1 i hi
  · have e' : kK i = kK j := by rw [← h1 i hi, ← h1 j hj]; exact e
    exact hS.2 i j hi hj e'
  · rw [h1 0 (by decide)]; exact vk_R.of (hts _ tb_300) (hR 0 (by decide))
  · rw [h1 1 (by decide)]; exact vk_R.of (hts _ tb_353) (hR 1 (by decide))
  · rw [h1 2 (by decide)]; exact vk_R.of (hts _ tb_354) (hR 2 (by decide))
  · rw [h1 3 (by decide)]; exact vk_R.of (hts _ tb_355) (hR 3 (by decide))
theorem start_nest {args : Array Value} {s : State} (hts : ∀ w ∈ lw_tbl, w.before args s = true) : sNest s := by
  intro w hw
  unfold NWL at hw
  simp only [List.mem_cons, List.not_mem_nil, or_false] at hw
  rcases hw with rfl | rfl | rfl | rfl | rfl | rfl
  · exact va_Nw.of rfl (hts _ tb_398)
  · exact va_Nw.of rfl (hts _ tb_449)
  · exact va_Nw.of rfl (hts _ tb_403)
  · exact va_Nw.of rfl (hts _ tb_418)
  · exact va_Nw.of rfl (hts _ tb_597)
  · exact va_Nw.of rfl (hts _ tb_638)
theorem start_K {args : Array Value} {s : State} (hts : ∀ w ∈ lw_tbl, w.before args s = true) : ∃ (D : va_G) (cI cZ cL : ClassId), ∀ ad : Nat → Nat, va_K D vwCl (tysL (ad, D, cI, cZ, cL)) s := by
  obtain ⟨c0, i0, k0⟩ := u_known (C := RX0) (T := TX0) (N := 9) (n := 9) hts inX0 (hts _ (wsL_law_in _ wd_39))
  obtain ⟨c1, i1, k1⟩ := u_known (C := RX1) (T := TX1) (N := 6) (n := 6) hts inX1 (hts _ (wsL_law_in _ wd_19))
  obtain ⟨c2, i2, k2⟩ := u_known (C := RX2) (T := TX2) (N := 8) (n := 8) hts inX2 (hts _ (wsL_law_in _ wd_23))
  obtain ⟨c3, i3, k3⟩ := u_known (C := RX3) (T := TX3) (N := 9) (n := 9) hts inX3 (hts _ (wsL_law_in _ wd_13))
  obtain ⟨c4, i4, k4⟩ := u_known (C := RX4) (T := TX4) (N := 12) (n := 12) hts inX4 (hts _ (wsL_law_in _ wd_1))
  obtain ⟨c5, i5, k5⟩ := u_known (C := RX5) (T := TX5) (N := 18) (n := 18) hts inX5 (hts _ (wsL_law_in _ wd_4))
  obtain ⟨cI, kI, pI, a1, a2, a3⟩ := Cond.arrayClass_spec (hts _ (wsL_law_in _ wd_26))
  obtain ⟨cZ, kZ, pZ, b1, b2, b3⟩ := Cond.arrayClass_spec (hts _ (wsL_law_in _ wd_99))
  obtain ⟨pL, cL, kL, d1, -, d2, d3, d4⟩ := Cond.arrayOver_spec (hts _ tb_123)
  refine ⟨(fun k => if k = 0 then c0 else if k = 1 then c1 else if k = 2 then c2 else if k = 3 then c3 else if k = 4 then c4 else c5, fun k => if k = 0 then i0 else if k = 1 then i1 else if k = 2 then i2 else if k = 3 then i3 else if k = 4 then i4 else i5), cI, cZ, cL, fun ad => ⟨?_, ?_⟩⟩
  · intro k q hq
    match k, hq with
    | 0, hq => cases hq; exact k0
    | 1, hq => cases hq; exact k1
    | 2, hq => cases hq; exact k2
    | 3, hq => cases hq; exact k3
    | 4, hq => cases hq; exact k4
    | 5, hq => cases hq; exact k5
    | k + 6, hq => simp [vwCl] at hq
  · intro k q hq
    match k, hq with
    | 0, hq => cases hq; exact ⟨fun n z => ⟨fun k h => (by cases h), kI, a2, pI, a3⟩, a1⟩
    | 1, hq => cases hq; exact ⟨fun n z => ⟨fun k h => (by cases h), kZ, b2, pZ, b3⟩, b1⟩
    | 2, hq => cases hq; exact ⟨fun n z => ⟨fun k h => (by cases h), kL, d2, pL, d3⟩, kL, pL, d2, d3, d1, d4⟩
    | k + 3, hq => simp [tysL] at hq
