/-! ===== the law: its loop ===== -/
set_option maxHeartbeats 1000000 in
theorem law_loop {κ : Kx} {Qf : State → Prop} {n q L : Nat} {xs : Nat → Int32} {μ : Mm} {s : Ln} (hX : ScX κ L xs) (hL : L ≤ 2560) (hx : RX μ s) (hm : RM μ s) (ho : OKs 0 s) (he : ∀ lv μ', V κ mL Qf n q 1111 lv [] μ') : V κ mL Qf n q 18 (lvL 0) [] μ := by
  refine cnt_loop (σ := Mm) (L / 5) (fun t μ => V κ mL Qf n q 18 (lvL t) [] μ) (fun t μ => ∃ s, RX μ s ∧ RM μ s ∧ OKs t s) ?_ ?_ 0 μ (Nat.zero_le _) ⟨s, hx, hm, ho⟩
  · rintro μ1 -
    refine v_iload_n 3 dL_law_18 rfl rfl (v_aload_n 0 dL_law_19 rfl rfl (v_sln hX dL_law_20 (v_iconst dL_law_21 ic_5 (v_isub dL_law_22 (v_icmp_gt (tgt := 1111) dL_law_23 rfl (fun _ => he _ _) (fun h => absurd ?_ h))))))
    rw [Int32.lt_iff_toInt_lt, pk_sub_toInt (by omega) (by omega), nI_toInt (by omega)]
    omega
  · rintro t μ1 ht ⟨s1, hx1, hm1, ho1⟩ ih
    have ht5 : 5 * t + 5 ≤ L := by omega
    have nx : ∀ μ' s', RX μ' s' → RM μ' s' → OKs (t + 1) s' → V κ mL Qf n q 1105 (lvL t) [] μ' := by
      intro μ' s' a1 a2 a3
      refine v_iincc (y := nI 5) dL_law_1105 rfl (by decide) (by decide) ?_
      rw [nI_add (5 * t) 5]
      exact v_goto (tgt := 18) dL_law_1108 rfl (ih μ' ⟨s', a1, a2, a3⟩)
    refine v_iload_n 3 dL_law_18 rfl rfl (v_aload_n 0 dL_law_19 rfl rfl (v_sln hX dL_law_20 (v_iconst dL_law_21 ic_5 (v_isub dL_law_22 (v_icmp_gt (tgt := 1111) dL_law_23 rfl (fun h => absurd h ?_) (fun _ => v_aload_n 0 dL_law_26 rfl rfl (v_iload_n 3 dL_law_27 rfl rfl (v_sld hX (by omega) hL dL_law_28 (v_bipush (v := nI 63) dL_law_29 (by decide) (v_iand dL_law_31 ?_))))))))))
    · rw [Int32.lt_iff_toInt_lt, pk_sub_toInt (by omega) (by omega), nI_toInt (by omega)]
      omega
    · by_cases hv : ∃ v : Nat, v < 35 ∧ xs (5 * t) &&& nI 63 = nI v
      · obtain ⟨v, hv, ev⟩ := hv
        rcases (show v = 0 ∨ v = 1 ∨ v = 2 ∨ v = 3 ∨ v = 4 ∨ v = 5 ∨ v = 6 ∨ v = 7 ∨ v = 8 ∨ v = 9 ∨ v = 10 ∨ v = 11 ∨ v = 12 ∨ v = 13 ∨ v = 14 ∨ v = 15 ∨ v = 16 ∨ v = 17 ∨ v = 18 ∨ v = 19 ∨ v = 20 ∨ v = 21 ∨ v = 22 ∨ v = 23 ∨ v = 24 ∨ v = 25 ∨ v = 26 ∨ v = 27 ∨ v = 28 ∨ v = 29 ∨ v = 30 ∨ v = 31 ∨ v = 32 ∨ v = 33 ∨ v = 34 by omega) with rfl | rfl | rfl | rfl | rfl | rfl | rfl | rfl | rfl | rfl | rfl | rfl | rfl | rfl | rfl | rfl | rfl | rfl | rfl | rfl | rfl | rfl | rfl | rfl | rfl | rfl | rfl | rfl | rfl | rfl | rfl | rfl | rfl | rfl | rfl
        · exact v_tsw_hit (tgt := 188) 0 ev (by decide) dL_law_32 (by decide) (by decide) rfl rfl (lc_island hX ht5 hL hx1 hm1 ho1 nx)
        · exact v_tsw_hit (tgt := 211) 1 ev (by decide) dL_law_32 (by decide) (by decide) rfl rfl (lc_clerk hX ht5 hL hx1 hm1 ho1 nx)
        · exact v_tsw_hit (tgt := 234) 2 ev (by decide) dL_law_32 (by decide) (by decide) rfl rfl (lc_vines hX ht5 hL hx1 hm1 ho1 nx)
        · exact v_tsw_hit (tgt := 267) 3 ev (by decide) dL_law_32 (by decide) (by decide) rfl rfl (lc_hill hX ht5 hL hx1 hm1 ho1 nx)
        · exact v_tsw_hit (tgt := 310) 4 ev (by decide) dL_law_32 (by decide) (by decide) rfl rfl (lc_type hX ht5 hL hx1 hm1 ho1 nx)
        · exact v_tsw_hit (tgt := 333) 5 ev (by decide) dL_law_32 (by decide) (by decide) rfl rfl (lc_clear hX ht5 hL hx1 hm1 ho1 nx)
        · exact v_tsw_hit (tgt := 346) 6 ev (by decide) dL_law_32 (by decide) (by decide) rfl rfl (lc_read hX ht5 hL hx1 hm1 ho1 nx)
        · exact v_tsw_hit (tgt := 359) 7 ev (by decide) dL_law_32 (by decide) (by decide) rfl rfl (lc_day hX ht5 hL hx1 hm1 ho1 nx)
        · exact v_tsw_hit (tgt := 382) 8 ev (by decide) dL_law_32 (by decide) (by decide) rfl rfl (lc_putBack hX ht5 hL hx1 hm1 ho1 nx)
        · exact v_tsw_hit (tgt := 415) 9 ev (by decide) dL_law_32 (by decide) (by decide) rfl rfl (lc_undo hX ht5 hL hx1 hm1 ho1 nx)
        · exact v_tsw_hit (tgt := 428) 10 ev (by decide) dL_law_32 (by decide) (by decide) rfl rfl (lc_of hX ht5 hL hx1 hm1 ho1 nx)
        · exact v_tsw_hit (tgt := 461) 11 ev (by decide) dL_law_32 (by decide) (by decide) rfl rfl (lc_has hX ht5 hL hx1 hm1 ho1 nx)
        · exact v_tsw_hit (tgt := 484) 12 ev (by decide) dL_law_32 (by decide) (by decide) rfl rfl (lc_high hX ht5 hL hx1 hm1 ho1 nx)
        · exact v_tsw_hit (tgt := 517) 13 ev (by decide) dL_law_32 (by decide) (by decide) rfl rfl (lc_goes hX ht5 hL hx1 hm1 ho1 nx)
        · exact v_tsw_hit (tgt := 540) 14 ev (by decide) dL_law_32 (by decide) (by decide) rfl rfl (lc_lost hX ht5 hL hx1 hm1 ho1 nx)
        · exact v_tsw_hit (tgt := 563) 15 ev (by decide) dL_law_32 (by decide) (by decide) rfl rfl (lc_chain hX ht5 hL hx1 hm1 ho1 nx)
        · exact v_tsw_hit (tgt := 586) 16 ev (by decide) dL_law_32 (by decide) (by decide) rfl rfl (lc_plan hX ht5 hL hx1 hm1 ho1 nx)
        · exact v_tsw_hit (tgt := 619) 17 ev (by decide) dL_law_32 (by decide) (by decide) rfl rfl (lc_askFirst hX ht5 hL hx1 hm1 ho1 nx)
        · exact v_tsw_hit (tgt := 652) 18 ev (by decide) dL_law_32 (by decide) (by decide) rfl rfl (lc_calm hX ht5 hL hx1 hm1 ho1 nx)
        · exact v_tsw_hit (tgt := 685) 19 ev (by decide) dL_law_32 (by decide) (by decide) rfl rfl (lc_seen hX ht5 hL hx1 hm1 ho1 nx)
        · exact v_tsw_hit (tgt := 738) 20 ev (by decide) dL_law_32 (by decide) (by decide) rfl rfl (lc_which hX ht5 hL hx1 hm1 ho1 nx)
        · exact v_tsw_hit (tgt := 761) 21 ev (by decide) dL_law_32 (by decide) (by decide) rfl rfl (lc_next hX ht5 hL hx1 hm1 ho1 nx)
        · exact v_tsw_hit (tgt := 784) 22 ev (by decide) dL_law_32 (by decide) (by decide) rfl rfl (lc_mark hX ht5 hL hx1 hm1 ho1 nx)
        · exact v_tsw_hit (tgt := 827) 23 ev (by decide) dL_law_32 (by decide) (by decide) rfl rfl (lc_forget hX ht5 hL hx1 hm1 ho1 nx)
        · exact v_tsw_hit (tgt := 850) 24 ev (by decide) dL_law_32 (by decide) (by decide) rfl rfl (lc_kinds hX ht5 hL hx1 hm1 ho1 nx)
        · exact v_tsw_hit (tgt := 863) 25 ev (by decide) dL_law_32 (by decide) (by decide) rfl rfl (lc_look hX ht5 hL hx1 hm1 ho1 nx)
        · exact v_tsw_hit (tgt := 876) 26 ev (by decide) dL_law_32 (by decide) (by decide) rfl rfl (lc_waiting hX ht5 hL hx1 hm1 ho1 nx)
        · exact v_tsw_hit (tgt := 899) 27 ev (by decide) dL_law_32 (by decide) (by decide) rfl rfl (lc_chance hX ht5 hL hx1 hm1 ho1 nx)
        · exact v_tsw_hit (tgt := 942) 28 ev (by decide) dL_law_32 (by decide) (by decide) rfl rfl (lc_years hX ht5 hL hx1 hm1 ho1 nx)
        · exact v_tsw_hit (tgt := 975) 29 ev (by decide) dL_law_32 (by decide) (by decide) rfl rfl (lc_part hX ht5 hL hx1 hm1 ho1 nx)
        · exact v_tsw_hit (tgt := 999) 30 ev (by decide) dL_law_32 (by decide) (by decide) rfl rfl (lc_image hX ht5 hL hx1 hm1 ho1 nx)
        · exact v_tsw_hit (tgt := 1022) 31 ev (by decide) dL_law_32 (by decide) (by decide) rfl rfl (lc_from hX ht5 hL hx1 hm1 ho1 nx)
        · exact v_tsw_hit (tgt := 1045) 32 ev (by decide) dL_law_32 (by decide) (by decide) rfl rfl (lc_status hX ht5 hL hx1 hm1 ho1 nx)
        · exact v_tsw_hit (tgt := 1068) 33 ev (by decide) dL_law_32 (by decide) (by decide) rfl rfl (lc_count hX ht5 hL hx1 hm1 ho1 nx)
        · exact v_tsw_hit (tgt := 1091) 34 ev (by decide) dL_law_32 (by decide) (by decide) rfl rfl (lc_digest hX ht5 hL hx1 hm1 ho1 nx)
      · exact v_tsw_miss (tgt := 1105) dL_law_32 (by decide) (by decide) (fun v _ h2 e => hv ⟨v, by omega, e⟩) rfl (nx μ1 s1 hx1 hm1 (ho1.up (Nat.le_succ t)))
