/-! ===== words: String's own methods, and spells ===== -/
theorem pnJ0 : plainName RJ0 = true := by decide +kernel
theorem pnJ1 : plainName RJ1 = true := by decide +kernel
theorem pnJ3 : plainName RJ3 = true := by decide +kernel
abbrev mJ3_checkIndex : Mi := (yJ3_checkIndex_8e157, cJ3_checkIndex_8e157, 3, some .int, 0)
theorem cwJ3_checkIndex : CW mJ3_checkIndex 3 := ⟨wd_300, wd_299, (by decide +kernel : yJ3_checkIndex_8e157.cls ≠ "java/lang/invoke/MethodHandle"), (by decide +kernel : yJ3_checkIndex_8e157.cls ≠ "java/lang/invoke/VarHandle"), (by decide +kernel : (parseMethodDescriptor yJ3_checkIndex_8e157.desc).map (fun d => d.parameters.length) = some 3), (by decide : 3 ≤ 21)⟩
abbrev mJ0_checkIndex : Mi := (yJ0_checkIndex_df160, cJ0_checkIndex_df160, 2, none, 1)
theorem cwJ0_checkIndex : CW mJ0_checkIndex 2 := ⟨wd_295, wd_272, (by decide +kernel : yJ0_checkIndex_df160.cls ≠ "java/lang/invoke/MethodHandle"), (by decide +kernel : yJ0_checkIndex_df160.cls ≠ "java/lang/invoke/VarHandle"), (by decide +kernel : (parseMethodDescriptor yJ0_checkIndex_df160.desc).map (fun d => d.parameters.length) = some 2), (by decide : 2 ≤ 21)⟩
abbrev mJ1_charAt : Mi := (yJ1_charAt_3b067, cJ1_charAt_3b067, 2, some .char, 2)
theorem cwJ1_charAt : CW mJ1_charAt 2 := ⟨wd_292, wd_291, (by decide +kernel : yJ1_charAt_3b067.cls ≠ "java/lang/invoke/MethodHandle"), (by decide +kernel : yJ1_charAt_3b067.cls ≠ "java/lang/invoke/VarHandle"), (by decide +kernel : (parseMethodDescriptor yJ1_charAt_3b067.desc).map (fun d => d.parameters.length) = some 2), (by decide : 2 ≤ 21)⟩
abbrev mJ0_isLatin1 : Mi := (yJ0_isLatin1_aae02, cJ0_isLatin1_aae02, 1, some .boolean, 0)
theorem cwJ0_isLatin1 : CW mJ0_isLatin1 0 := ⟨wd_288, wd_272, (by decide +kernel : yJ0_isLatin1_aae02.cls ≠ "java/lang/invoke/MethodHandle"), (by decide +kernel : yJ0_isLatin1_aae02.cls ≠ "java/lang/invoke/VarHandle"), (by decide +kernel : (parseMethodDescriptor yJ0_isLatin1_aae02.desc).map (fun d => d.parameters.length) = some 0), (by decide : 1 ≤ 21)⟩
abbrev mJ0_coder : Mi := (yJ0_coder_7d493, cJ0_coder_7d493, 1, some .byte, 0)
theorem cwJ0_coder : CW mJ0_coder 0 := ⟨wd_278, wd_272, (by decide +kernel : yJ0_coder_7d493.cls ≠ "java/lang/invoke/MethodHandle"), (by decide +kernel : yJ0_coder_7d493.cls ≠ "java/lang/invoke/VarHandle"), (by decide +kernel : (parseMethodDescriptor yJ0_coder_7d493.desc).map (fun d => d.parameters.length) = some 0), (by decide : 1 ≤ 21)⟩
abbrev mJ0_charAt : Mi := (yJ0_charAt_5068e, cJ0_charAt_5068e, 2, some .char, 3)
theorem cwJ0_charAt : CW mJ0_charAt 1 := ⟨wd_284, wd_272, (by decide +kernel : yJ0_charAt_5068e.cls ≠ "java/lang/invoke/MethodHandle"), (by decide +kernel : yJ0_charAt_5068e.cls ≠ "java/lang/invoke/VarHandle"), (by decide +kernel : (parseMethodDescriptor yJ0_charAt_5068e.desc).map (fun d => d.parameters.length) = some 1), (by decide : 2 ≤ 21)⟩
abbrev mJ0_length : Mi := (yJ0_length_8abf5, cJ0_length_8abf5, 1, some .int, 1)
theorem cwJ0_length : CW mJ0_length 0 := ⟨wd_273, wd_272, (by decide +kernel : yJ0_length_8abf5.cls ≠ "java/lang/invoke/MethodHandle"), (by decide +kernel : yJ0_length_8abf5.cls ≠ "java/lang/invoke/VarHandle"), (by decide +kernel : (parseMethodDescriptor yJ0_length_8abf5.desc).map (fun d => d.parameters.length) = some 0), (by decide : 1 ≤ 21)⟩
section VST
variable {κ : Kx} {M M' : Mi} {Qf : State → Prop} {Q : Option Value → Mm → Prop} {n q pc na idx : Nat} {lv : List (Nat × Value)} {st st0 as : List Value} {μ : Mm}
theorem v_ret {x : Int32} {ty : FieldType} (hr : M.2.2.2.1 = some ty) (hz : narrow ty (.int x) = .int x) (hd : decode M.2.1 pc = .ok (.ireturn, 1)) (kk : Q (some (.int x)) μ) : V κ M (fin κ Q) 0 0 pc lv ([.int x]) μ := by
  obtain ⟨p, l, e, R, s, m, args, below, meth, c, wd, A⟩ := κ
  intro hF ls H locs hl hP hD hS
  exact W.zret hF.1 hF.2.1 (hF.2.2.2.2.2.1.trans hr) hz (fun t ht _ => ⟨⟨some (.int x), μ, rfl, kk, by rw [ht]; exact hP, hD⟩, hS.F ht⟩) hS.2.2 hd (hlocks := hF.2.2.2.2.2.2.1)
set_option maxHeartbeats 1000000 in
theorem v_callVs {i : Nat} (hi4 : i < 4) (hC : Con M' (.ref (100 + i) :: as) μ Q) (hM : CW M' na) (hcl : M'.1.cls = "java/lang/String") (hi : Cond.instanceMethod M'.1 ∈ TBL) (hse : Cond.selects M'.1.cls M'.1 M'.1 ∈ TBL) (hw : Cond.methodLink M.1.cls idx M'.1 ∈ TBL) (hlen : as.length = na) (hdp : M'.2.2.2.2 + 1 ≤ M.2.2.2.2) (hcat : (st.map fun v => v.category).sum ≤ 8) (hd : decode M.2.1 pc = .ok (.invokevirtual idx, 3)) (hst : st0 = as.reverse ++ .ref (100 + i) :: st) (kk : ∀ r μ', Q r μ' → V κ M Qf n q (pc + 3) lv (r.toList ++ st) μ') : V κ M Qf n q pc lv st0 μ := by
  obtain ⟨p, l, e, R, s, m, args, below, meth, c, wd, A⟩ := κ
  intro hF ls H locs hl hP hD hS
  have hF0 := hF
  obtain ⟨hx, hb, hml, hown, hts, -, -, hK, hA, hStr, hN, hr1, hr2, hr3, hr4⟩ := hF
  have hsub := v_sub hD hS hA
  refine v_calling hF0 hl hS hsub (va_runV (C := M'.1.cls) (b := wd.1 (100 + i)) (As := as.map (cnc wd.1)) (rest := st.map (cnc wd.1)) (Ts := TBL) (own := M.1.cls) (n := na) ⟨hx, hb, hml, hown, hts⟩ (hC l wd H.size) ⟨callB_of na hts hM.good rfl rfl rfl (hts _ hM.2.1) (hts _ hw) ⟨hM.2.2.1, hM.2.2.2.1, hM.2.2.2.2.1⟩ ⟨?_, ?_⟩, hts _ hi, hts _ hse⟩ ⟨PcM.blind, by rw [hcl]; exact vk_recv (i := i) (adK := fun i => wd.1 (100 + i)) hStr.1 hi4 hS, v_pre hP hD hS hA hK hStr hN⟩ rfl ?_ hl.1 ?_ (lv_room ?_) hd ⟨hr3, hr4⟩) kk
  · show M'.2.2.2.2 + 1 ≤ R.frames
    omega
  · have := hM.2.2.2.2.2
    show 8 + (M'.2.2.1 + 11) + 40 * M'.2.2.2.2 ≤ R.locals
    omega
  · rw [List.length_map]
    exact hlen
  · show st0.map (cnc wd.1) = _
    rw [hst, List.map_append, List.map_reverse]
    rfl
  · rw [cat_sum]
    exact hcat
end VST
theorem bl (a b : Nat) (h : Nat.ble a b = true) : a ≤ b := Nat.le_of_ble_eq_true h
theorem kJ3_checkIndex {a b : Nat} {v : Value} (hv : v = .null ∨ v = .ref 120) (ha : a < b) (hb : b < 2 ^ 31) (μ : Mm) : Con mJ3_checkIndex [.int (nI a), .int (nI b), v] μ (Rv (.int (nI a)) μ) := by
  have go : ∀ κ, Vq κ (Rv (.int (nI a)) μ) mJ3_checkIndex 0 [(0, .int (nI a)), (1, .int (nI b)), (2, v)] [] μ := by
    intro κ
    have h0 : ¬ nI a < 0 := by rw [← nI_0, nIlt (by omega) (by decide)]; omega
    exact v_iload_n 0 dJ3_checkIndex_8e157_0 rfl rfl (v_if_lt (tgt := 9) dJ3_checkIndex_8e157_1 rfl (fun h => absurd h h0) (fun _ => v_iload_n 0 dJ3_checkIndex_8e157_4 rfl rfl (v_iload_n 1 dJ3_checkIndex_8e157_5 rfl rfl (v_icmp_lt (tgt := 16) dJ3_checkIndex_8e157_6 rfl (fun _ => v_iload_n 0 dJ3_checkIndex_8e157_16 rfl rfl (v_iret rfl dJ3_checkIndex_8e157_17 (rv rfl))) (fun h => absurd ((nIlt (by omega) hb).mpr ha) h)))))
  rcases hv with rfl | rfl
  · exact Con.of pnJ3 (Nat.le_of_ble_eq_true rfl) go
  · exact Con.of pnJ3 (Nat.le_of_ble_eq_true rfl) go
theorem kJ0_checkIndex {a b : Nat} (ha : a < b) (hb : b < 2 ^ 31) (μ : Mm) : Con mJ0_checkIndex [.int (nI a), .int (nI b)] μ (fun r μ' => r = none ∧ μ' = μ) :=
  Con.of pnJ0 (Nat.le_of_ble_eq_true rfl) (fun κ => v_iload_n 0 dJ0_checkIndex_df160_0 rfl rfl (v_iload_n 1 dJ0_checkIndex_df160_1 rfl rfl (v_gsr wd_296 dJ0_checkIndex_df160_2
    (v_callS (M' := mJ3_checkIndex) (kJ3_checkIndex (Or.inl rfl) ha hb μ) cwJ3_checkIndex wd_298 wd_297 rfl (Nat.le_of_ble_eq_true rfl) (Nat.le_of_ble_eq_true rfl) dJ0_checkIndex_df160_5 rfl (fun r0 μ0 hq0 => by rw [hq0.1, hq0.2]; exact v_pop dJ0_checkIndex_df160_8 rfl (v_vret rfl dJ0_checkIndex_df160_9 ⟨rfl, rfl⟩)))
    (v_callS (M' := mJ3_checkIndex) (kJ3_checkIndex (Or.inr rfl) ha hb μ) cwJ3_checkIndex wd_298 wd_297 rfl (Nat.le_of_ble_eq_true rfl) (Nat.le_of_ble_eq_true rfl) dJ0_checkIndex_df160_5 rfl (fun r0 μ0 hq0 => by rw [hq0.1, hq0.2]; exact v_pop dJ0_checkIndex_df160_8 rfl (v_vret rfl dJ0_checkIndex_df160_9 ⟨rfl, rfl⟩))))))
theorem kJ0_coder {i : Nat} (hi : i < 4) (μ : Mm) : Con mJ0_coder [.ref (100 + i)] μ (Rv (.int 0) μ) :=
  Con.of pnJ0 (Nat.le_of_ble_eq_true rfl) (fun κ => v_scs wd_279 dJ0_coder_7d493_0 (v_if_eq (tgt := 13) dJ0_coder_7d493_3 rfl (fun h => absurd h (by decide)) (fun _ => v_aload_n 0 dJ0_coder_7d493_6 rfl rfl (v_scod hi wd_280 dJ0_coder_7d493_7 (v_goto (tgt := 14) dJ0_coder_7d493_10 rfl (v_ret (ty := .byte) rfl rfl dJ0_coder_7d493_14 (rv rfl)))))))
theorem kJ0_isLatin1 {i : Nat} (hi : i < 4) (μ : Mm) : Con mJ0_isLatin1 [.ref (100 + i)] μ (Rv (.int 1) μ) :=
  Con.of pnJ0 (Nat.le_of_ble_eq_true rfl) (fun κ => v_scs wd_279 dJ0_isLatin1_aae02_0 (v_if_eq (tgt := 17) dJ0_isLatin1_aae02_3 rfl (fun h => absurd h (by decide)) (fun _ => v_aload_n 0 dJ0_isLatin1_aae02_6 rfl rfl (v_scod hi wd_280 dJ0_isLatin1_aae02_7 (v_if_ne (tgt := 17) dJ0_isLatin1_aae02_10 rfl (fun h => absurd rfl h) (fun _ => v_iconst dJ0_isLatin1_aae02_13 ic_1 (v_goto (tgt := 18) dJ0_isLatin1_aae02_14 rfl (v_ret (ty := .boolean) rfl rfl dJ0_isLatin1_aae02_18 (rv rfl)))))))))
theorem slW {i : Nat} (hi : i < 4) : [6, 5, 4, 3].getD i 0 = lnW i := by
  rcases (show i = 0 ∨ i = 1 ∨ i = 2 ∨ i = 3 by omega) with rfl | rfl | rfl | rfl <;> rfl
theorem lnW_le {i : Nat} : lnW i ≤ 6 := by unfold lnW; omega
theorem shr0 (x : Int32) : x >>> ((0 : Int32) &&& 31) = x := by
  have : ((0 : Int32) &&& 31) = 0 := by decide
  rw [this]
  exact Int32.shiftRight_zero
theorem kJ0_length {i : Nat} (hi : i < 4) (μ : Mm) : Con mJ0_length [.ref (100 + i)] μ (Rv (.int (nI (lnW i))) μ) :=
  Con.of pnJ0 (Nat.le_of_ble_eq_true rfl) (fun κ => v_aload_n 0 dJ0_length_8abf5_0 rfl rfl (v_sval hi wd_274 dJ0_length_8abf5_1 (v_slen hi dJ0_length_8abf5_4 (v_aload_n 0 dJ0_length_8abf5_5 rfl rfl (v_callVs (M' := mJ0_coder) hi (kJ0_coder hi μ) cwJ0_coder rfl wd_276 wd_277 wd_275 rfl (Nat.le_of_ble_eq_true rfl) (Nat.le_of_ble_eq_true rfl) dJ0_length_8abf5_6 rfl (fun r0 μ0 hq0 => by rw [hq0.1, hq0.2]; exact v_ishr dJ0_length_8abf5_9 (v_iret rfl dJ0_length_8abf5_10 (rvi (by rw [shr0, slW hi])))))))))
theorem chW : ∀ i, i < 4 → ∀ k, k < 6 → k < lnW i → (((sbyt.getD i []).getD k 0 &&& 255).toUInt32 % 65536).toInt32 = nI (lW i k) ∧ lW i k < 128 := by decide +kernel
theorem narC : ∀ k, k < 128 → narrow .char (.int (nI k)) = .int (nI k) := by decide +kernel
theorem kJ1_charAt {i k : Nat} (hi : i < 4) (hk : k < lnW i) (μ : Mm) : Con mJ1_charAt [.ref (110 + i), .int (nI k)] μ (Rv (.int (nI (lW i k))) μ) := by
  have h6 := lnW_le (i := i)
  have hc := chW i hi k (by omega) hk
  refine Con.of pnJ1 (Nat.le_of_ble_eq_true rfl) (fun κ => ?_)
  refine v_iload_n 1 dJ1_charAt_3b067_0 rfl rfl (v_aload_n 0 dJ1_charAt_3b067_1 rfl rfl (v_slen hi dJ1_charAt_3b067_2 ?_))
  rw [slW hi]
  refine v_callS (M' := mJ0_checkIndex) (as := [.int (nI k), .int (nI (lnW i))]) (kJ0_checkIndex hk (by omega) μ) cwJ0_checkIndex wd_294 wd_293 rfl (Nat.le_of_ble_eq_true rfl) (Nat.le_of_ble_eq_true rfl) dJ1_charAt_3b067_3 rfl (fun r0 μ0 hq0 => ?_)
  rw [hq0.1, hq0.2]
  refine v_aload_n 0 dJ1_charAt_3b067_6 rfl rfl (v_iload_n 1 dJ1_charAt_3b067_7 rfl rfl (v_sbal hi (by rw [slW hi]; exact vin hk (by omega)) rfl dJ1_charAt_3b067_8 (v_sipush (v := 255) dJ1_charAt_3b067_9 (by decide) (v_iand dJ1_charAt_3b067_12 (v_i2c dJ1_charAt_3b067_13 ?_)))))
  rw [cl (n := k) (by omega), hc.1]
  exact v_ret (ty := .char) rfl (narC _ hc.2) dJ1_charAt_3b067_14 (rv rfl)
theorem kJ0_charAt {i k : Nat} (hi : i < 4) (hk : k < lnW i) (μ : Mm) : Con mJ0_charAt [.ref (100 + i), .int (nI k)] μ (Rv (.int (nI (lW i k))) μ) := by
  have h6 := lnW_le (i := i)
  have hc := chW i hi k (by omega) hk
  refine Con.of pnJ0 (Nat.le_of_ble_eq_true rfl) (fun κ => ?_)
  exact v_aload_n 0 dJ0_charAt_5068e_0 rfl rfl (v_callVs (M' := mJ0_isLatin1) hi (kJ0_isLatin1 hi μ) cwJ0_isLatin1 rfl wd_286 wd_287 wd_285 rfl (Nat.le_of_ble_eq_true rfl) (Nat.le_of_ble_eq_true rfl) dJ0_charAt_5068e_1 rfl (fun r0 μ0 hq0 => by
    rw [hq0.1, hq0.2]
    exact v_if_eq (tgt := 16) dJ0_charAt_5068e_4 rfl (fun h => absurd h (by decide)) (fun _ => v_aload_n 0 dJ0_charAt_5068e_7 rfl rfl (v_sval hi wd_274 dJ0_charAt_5068e_8 (v_iload_n 1 dJ0_charAt_5068e_11 rfl rfl (v_callS (M' := mJ1_charAt) (kJ1_charAt hi hk μ) cwJ1_charAt wd_290 wd_289 rfl (Nat.le_of_ble_eq_true rfl) (Nat.le_of_ble_eq_true rfl) dJ0_charAt_5068e_12 rfl (fun r1 μ1 hq1 => by rw [hq1.1, hq1.2]; exact v_ret (ty := .char) rfl (narC _ hc.2) dJ0_charAt_5068e_15 (rv rfl))))))))
theorem nI_subE {a b : Nat} (h : b ≤ a) : nI a - nI b = nI (a - b) := by
  have e : nI a = nI (a - b) + nI b := by rw [nI_add]; congr 1; omega
  rw [e, Int32.add_sub_cancel]
theorem spc : SPC := by
  intro x μ p i hi hx hp h2 h5
  obtain ⟨hx1, hx2, hx3⟩ := id hx
  have hge := tE_ge (x := x) (p := p)
  have hle := tE_le hp
  have h6 := lnW_le (i := i)
  refine Con.of pnX2 (Nat.le_of_ble_eq_true rfl) (fun κ => ?_)
  refine v_aload_n 0 dX2_spells_0 rfl rfl (gf_X2_19 rfl sh_59 dX2_spells_1 (v_aload_n 0 dX2_spells_4 rfl rfl (gf_X2_28 rfl sh_59 dX2_spells_5 (v_isub dX2_spells_8 (v_aload_n 1 dX2_spells_9 rfl rfl (v_callVs (M' := mJ0_length) hi (kJ0_length hi μ) cwJ0_length rfl wd_270 wd_271 wd_269 rfl (Nat.le_of_ble_eq_true rfl) (Nat.le_of_ble_eq_true rfl) dX2_spells_10 rfl (fun r0 μ0 hq0 => ?_)))))))
  rw [hq0.1, hq0.2]
  refine v_icmp_eq (tgt := 18) dX2_spells_13 rfl (fun hc => ?_) (fun hc => ?_)
  · rw [h2, h5, nI_subE hge, nIe (by omega) (by omega)] at hc
    have key : Vq κ (fun r μ' => r = some (.int (bI (spl x p (lnW i) (lW i)))) ∧ μ' = μ) mX2_spells 20 [(2, .int (nI 0)), (0, .ref 59), (1, .ref (100 + i))] [] μ := by
      refine cnt_loop (σ := Unit) (lnW i) (fun t _ => Vq κ (fun r μ' => r = some (.int (bI (spl x p (lnW i) (lW i)))) ∧ μ' = μ) mX2_spells 20 [(2, .int (nI t)), (0, .ref 59), (1, .ref (100 + i))] [] μ) (fun t _ => ftA (fun k => decide (x.1 (tS x p + k) = lW i k)) t = true) ?_ ?_ 0 () (Nat.zero_le _) rfl
      · intro _ hI
        have ht : spl x p (lnW i) (lW i) = true := by unfold spl; rw [hI, decide_eq_true hc]; rfl
        refine v_iload_n 2 dX2_spells_20 rfl rfl (v_aload_n 1 dX2_spells_21 rfl rfl (v_callVs (M' := mJ0_length) hi (kJ0_length hi μ) cwJ0_length rfl wd_270 wd_271 wd_269 rfl (Nat.le_of_ble_eq_true rfl) (Nat.le_of_ble_eq_true rfl) dX2_spells_22 rfl (fun r1 μ1 hq1 => ?_)))
        rw [hq1.1, hq1.2]
        exact v_icmp_ge (tgt := 55) dX2_spells_25 rfl (fun _ => v_iconst dX2_spells_55 ic_1 (v_zret rfl rfl dX2_spells_56 ⟨by rw [ht]; rfl, rfl⟩)) (fun h => absurd (nge (by omega) (Nat.le_refl _)) h)
      · intro t _ ht hI ih
        have hb := hx3 (tS x p + t) (by omega)
        have hcw := chW i hi t (by omega) ht
        refine v_iload_n 2 dX2_spells_20 rfl rfl (v_aload_n 1 dX2_spells_21 rfl rfl (v_callVs (M' := mJ0_length) hi (kJ0_length hi μ) cwJ0_length rfl wd_270 wd_271 wd_269 rfl (Nat.le_of_ble_eq_true rfl) (Nat.le_of_ble_eq_true rfl) dX2_spells_22 rfl (fun r1 μ1 hq1 => ?_)))
        rw [hq1.1, hq1.2]
        refine v_icmp_ge (tgt := 55) dX2_spells_25 rfl (fun h => absurd h (nnge (by omega) ht)) (fun _ => v_aload_n 0 dX2_spells_28 rfl rfl (gf_X2_9 rfl sh_59 dX2_spells_29 (v_aload_n 0 dX2_spells_32 rfl rfl (gf_X2_28 rfl sh_59 dX2_spells_33 (v_iload_n 2 dX2_spells_36 rfl rfl (v_iadd dX2_spells_37 ?_))))))
        rw [h5, nI_add (tS x p) t]
        refine v_iald sh_60 (vin (by omega) (by decide)) dX2_spells_38 (v_aload_n 1 dX2_spells_39 rfl rfl (v_iload_n 2 dX2_spells_40 rfl rfl (v_callVs (M' := mJ0_charAt) hi (kJ0_charAt hi ht μ) cwJ0_charAt rfl wd_282 wd_283 wd_281 rfl (Nat.le_of_ble_eq_true rfl) (Nat.le_of_ble_eq_true rfl) dX2_spells_41 rfl (fun r2 μ2 hq2 => ?_))))
        rw [hq2.1, hq2.2, cl (n := tS x p + t) (by omega), hb.1]
        refine v_icmp_eq (tgt := 49) dX2_spells_44 rfl (fun he => ?_) (fun he => ?_)
        · rw [nIe (by omega) (by omega)] at he
          refine v_iincc (y := nI 1) dX2_spells_49 rfl (by decide) (by decide) ?_
          rw [nI_add t 1]
          exact v_goto (tgt := 20) dX2_spells_52 rfl (ih () (ftA_s hI (decide_eq_true he)))
        · rw [nIe (by omega) (by omega)] at he
          have hf : spl x p (lnW i) (lW i) = false := by unfold spl; rw [ftA_f (r := t) (decide_eq_false he) ht, Bool.and_false]
          exact v_iconst dX2_spells_47 ic_0 (v_zret rfl rfl dX2_spells_48 ⟨by rw [hf]; rfl, rfl⟩)
    exact v_iconst dX2_spells_18 ic_0 (v_istore_n 2 dX2_spells_19 rfl (by decide) key)
  · rw [h2, h5, nI_subE hge, nIe (by omega) (by omega)] at hc
    have hf : spl x p (lnW i) (lW i) = false := by unfold spl; rw [decide_eq_false hc, Bool.false_and]
    exact v_iconst dX2_spells_16 ic_0 (v_zret rfl rfl dX2_spells_17 ⟨by rw [hf]; rfl, rfl⟩)
theorem TWC_ok : TWC := twc spc
