set_option maxRecDepth 20000 in
set_option maxHeartbeats 1000000 in
theorem kX5_init {wd : Wd} {a : Nat} : ConY wd jX5_init [.ref a] [(a, .inr (5, fs5))] (fun w => ∃ g : Nat → Nat, g 0 = a ∧ w = moV wd.2.2.1 wd.2.2.2.1 g) := by
  refine ConY.of pnX5 (Nat.le_of_ble_eq_true rfl) ?_
  rintro κ rfl
  show Y κ jX5_init _ 0 0 0 [(0, .ref a)] [] ((a, .inr (5, [.null, .null, .null, .null, .long 0, .long 0, .int 0, .null, .null, .null, .null, .int 0, .int 0, .int 0, .int 0, .int 0, .null, .null])) :: ([] : va_W))
  refine y_aload_n 0 dX5_init_0 rfl rfl ?_
  refine y_obj wd_96 (by decide) (by decide) dX5_init_1 ?_
  refine y_aload_n 0 dX5_init_4 rfl rfl ?_
  refine y_sipush (v := nI 318) dX5_init_5 (by decide) ?_
  refine y_newi (N := 318) rfl (by decide) (Nat.le_of_ble_eq_true rfl) (Nat.le_of_ble_eq_true rfl) dX5_init_8 (fun b0 => ?_)
  refine y_putF (ws' := (a, .inr (5, [.ref b0, .null, .null, .null, .long 0, .long 0, .int 0, .null, .null, .null, .null, .int 0, .int 0, .int 0, .int 0, .int 0, .null, .null])) :: [(b0, .inl ((wdK κ).2.2.1, 318, .inl (fun _ => 0)))]) 0 0 rfl rfl inlX5 tyX5_ok nmX5 (by decide) wd_97 rfl rfl rfl rfl rfl (Nat.le_of_ble_eq_true rfl) rfl dX5_init_10 ?_
  refine y_aload_n 0 dX5_init_13 rfl rfl ?_
  refine y_sipush (v := nI 636) dX5_init_14 (by decide) ?_
  refine y_newi (N := 636) rfl (by decide) (Nat.le_of_ble_eq_true rfl) (Nat.le_of_ble_eq_true rfl) dX5_init_17 (fun b1 => ?_)
  refine y_putF (ws' := (a, .inr (5, [.ref b0, .ref b1, .null, .null, .long 0, .long 0, .int 0, .null, .null, .null, .null, .int 0, .int 0, .int 0, .int 0, .int 0, .null, .null])) :: [(b0, .inl ((wdK κ).2.2.1, 318, .inl (fun _ => 0))), (b1, .inl ((wdK κ).2.2.1, 636, .inl (fun _ => 0)))]) 0 1 rfl rfl inlX5 tyX5_ok nmX5 (by decide) wd_98 rfl rfl rfl rfl rfl (Nat.le_of_ble_eq_true rfl) rfl dX5_init_19 ?_
  refine y_aload_n 0 dX5_init_22 rfl rfl ?_
  refine y_iconst (v := nI 2) dX5_init_23 (by decide) ?_
  refine y_newz (N := 2) rfl (by decide) (Nat.le_of_ble_eq_true rfl) (Nat.le_of_ble_eq_true rfl) dX5_init_24 (fun b2 => ?_)
  refine y_putF (ws' := (a, .inr (5, [.ref b0, .ref b1, .ref b2, .null, .long 0, .long 0, .int 0, .null, .null, .null, .null, .int 0, .int 0, .int 0, .int 0, .int 0, .null, .null])) :: [(b0, .inl ((wdK κ).2.2.1, 318, .inl (fun _ => 0))), (b1, .inl ((wdK κ).2.2.1, 636, .inl (fun _ => 0))), (b2, .inl ((wdK κ).2.2.2.1, 2, .inl (fun _ => 0)))]) 0 2 rfl rfl inlX5 tyX5_ok nmX5 (by decide) wd_100 rfl rfl rfl rfl rfl (Nat.le_of_ble_eq_true rfl) rfl dX5_init_26 ?_
  refine y_aload_n 0 dX5_init_29 rfl rfl ?_
  refine y_iconst (v := nI 3) dX5_init_30 (by decide) ?_
  refine y_newi (N := 3) rfl (by decide) (Nat.le_of_ble_eq_true rfl) (Nat.le_of_ble_eq_true rfl) dX5_init_31 (fun b3 => ?_)
  refine y_putF (ws' := (a, .inr (5, [.ref b0, .ref b1, .ref b2, .ref b3, .long 0, .long 0, .int 0, .null, .null, .null, .null, .int 0, .int 0, .int 0, .int 0, .int 0, .null, .null])) :: [(b0, .inl ((wdK κ).2.2.1, 318, .inl (fun _ => 0))), (b1, .inl ((wdK κ).2.2.1, 636, .inl (fun _ => 0))), (b2, .inl ((wdK κ).2.2.2.1, 2, .inl (fun _ => 0))), (b3, .inl ((wdK κ).2.2.1, 3, .inl (fun _ => 0)))]) 0 3 rfl rfl inlX5 tyX5_ok nmX5 (by decide) wd_101 rfl rfl rfl rfl rfl (Nat.le_of_ble_eq_true rfl) rfl dX5_init_33 ?_
  refine y_aload_n 0 dX5_init_36 rfl rfl ?_
  refine y_lconst (v := 1) dX5_init_37 (by decide) ?_
  refine y_put (ws' := (a, .inr (5, [.ref b0, .ref b1, .ref b2, .ref b3, .long 0, .long 1, .int 0, .null, .null, .null, .null, .int 0, .int 0, .int 0, .int 0, .int 0, .null, .null])) :: [(b0, .inl ((wdK κ).2.2.1, 318, .inl (fun _ => 0))), (b1, .inl ((wdK κ).2.2.1, 636, .inl (fun _ => 0))), (b2, .inl ((wdK κ).2.2.2.1, 2, .inl (fun _ => 0))), (b3, .inl ((wdK κ).2.2.1, 3, .inl (fun _ => 0)))]) 0 5 rfl rfl inlX5 tyX5_ok nmX5 (by decide) wd_102 rfl rfl rfl (Nat.le_of_ble_eq_true rfl) rfl dX5_init_38 ?_
  refine y_aload_n 0 dX5_init_41 rfl rfl ?_
  refine y_bipush (v := nI 48) dX5_init_42 (by decide) ?_
  refine y_newi (N := 48) rfl (by decide) (Nat.le_of_ble_eq_true rfl) (Nat.le_of_ble_eq_true rfl) dX5_init_44 (fun b4 => ?_)
  refine y_putF (ws' := (a, .inr (5, [.ref b0, .ref b1, .ref b2, .ref b3, .long 0, .long 1, .int 0, .ref b4, .null, .null, .null, .int 0, .int 0, .int 0, .int 0, .int 0, .null, .null])) :: [(b0, .inl ((wdK κ).2.2.1, 318, .inl (fun _ => 0))), (b1, .inl ((wdK κ).2.2.1, 636, .inl (fun _ => 0))), (b2, .inl ((wdK κ).2.2.2.1, 2, .inl (fun _ => 0))), (b3, .inl ((wdK κ).2.2.1, 3, .inl (fun _ => 0))), (b4, .inl ((wdK κ).2.2.1, 48, .inl (fun _ => 0)))]) 0 7 rfl rfl inlX5 tyX5_ok nmX5 (by decide) wd_103 rfl rfl rfl rfl rfl (Nat.le_of_ble_eq_true rfl) rfl dX5_init_46 ?_
  refine y_aload_n 0 dX5_init_49 rfl rfl ?_
  refine y_bipush (v := nI 6) dX5_init_50 (by decide) ?_
  refine y_newi (N := 6) rfl (by decide) (Nat.le_of_ble_eq_true rfl) (Nat.le_of_ble_eq_true rfl) dX5_init_52 (fun b5 => ?_)
  refine y_putF (ws' := (a, .inr (5, [.ref b0, .ref b1, .ref b2, .ref b3, .long 0, .long 1, .int 0, .ref b4, .ref b5, .null, .null, .int 0, .int 0, .int 0, .int 0, .int 0, .null, .null])) :: [(b0, .inl ((wdK κ).2.2.1, 318, .inl (fun _ => 0))), (b1, .inl ((wdK κ).2.2.1, 636, .inl (fun _ => 0))), (b2, .inl ((wdK κ).2.2.2.1, 2, .inl (fun _ => 0))), (b3, .inl ((wdK κ).2.2.1, 3, .inl (fun _ => 0))), (b4, .inl ((wdK κ).2.2.1, 48, .inl (fun _ => 0))), (b5, .inl ((wdK κ).2.2.1, 6, .inl (fun _ => 0)))]) 0 8 rfl rfl inlX5 tyX5_ok nmX5 (by decide) wd_104 rfl rfl rfl rfl rfl (Nat.le_of_ble_eq_true rfl) rfl dX5_init_54 ?_
  refine y_aload_n 0 dX5_init_57 rfl rfl ?_
  refine y_bipush (v := nI 64) dX5_init_58 (by decide) ?_
  refine y_newi (N := 64) rfl (by decide) (Nat.le_of_ble_eq_true rfl) (Nat.le_of_ble_eq_true rfl) dX5_init_60 (fun b6 => ?_)
  refine y_putF (ws' := (a, .inr (5, [.ref b0, .ref b1, .ref b2, .ref b3, .long 0, .long 1, .int 0, .ref b4, .ref b5, .ref b6, .null, .int 0, .int 0, .int 0, .int 0, .int 0, .null, .null])) :: [(b0, .inl ((wdK κ).2.2.1, 318, .inl (fun _ => 0))), (b1, .inl ((wdK κ).2.2.1, 636, .inl (fun _ => 0))), (b2, .inl ((wdK κ).2.2.2.1, 2, .inl (fun _ => 0))), (b3, .inl ((wdK κ).2.2.1, 3, .inl (fun _ => 0))), (b4, .inl ((wdK κ).2.2.1, 48, .inl (fun _ => 0))), (b5, .inl ((wdK κ).2.2.1, 6, .inl (fun _ => 0))), (b6, .inl ((wdK κ).2.2.1, 64, .inl (fun _ => 0)))]) 0 9 rfl rfl inlX5 tyX5_ok nmX5 (by decide) wd_105 rfl rfl rfl rfl rfl (Nat.le_of_ble_eq_true rfl) rfl dX5_init_62 ?_
  refine y_aload_n 0 dX5_init_65 rfl rfl ?_
  refine y_sipush (v := nI 150) dX5_init_66 (by decide) ?_
  refine y_newi (N := 150) rfl (by decide) (Nat.le_of_ble_eq_true rfl) (Nat.le_of_ble_eq_true rfl) dX5_init_69 (fun b7 => ?_)
  refine y_putF (ws' := (a, .inr (5, [.ref b0, .ref b1, .ref b2, .ref b3, .long 0, .long 1, .int 0, .ref b4, .ref b5, .ref b6, .ref b7, .int 0, .int 0, .int 0, .int 0, .int 0, .null, .null])) :: [(b0, .inl ((wdK κ).2.2.1, 318, .inl (fun _ => 0))), (b1, .inl ((wdK κ).2.2.1, 636, .inl (fun _ => 0))), (b2, .inl ((wdK κ).2.2.2.1, 2, .inl (fun _ => 0))), (b3, .inl ((wdK κ).2.2.1, 3, .inl (fun _ => 0))), (b4, .inl ((wdK κ).2.2.1, 48, .inl (fun _ => 0))), (b5, .inl ((wdK κ).2.2.1, 6, .inl (fun _ => 0))), (b6, .inl ((wdK κ).2.2.1, 64, .inl (fun _ => 0))), (b7, .inl ((wdK κ).2.2.1, 150, .inl (fun _ => 0)))]) 0 10 rfl rfl inlX5 tyX5_ok nmX5 (by decide) wd_106 rfl rfl rfl rfl rfl (Nat.le_of_ble_eq_true rfl) rfl dX5_init_71 ?_
  refine y_aload_n 0 dX5_init_74 rfl rfl ?_
  refine y_bipush (v := nI 86) dX5_init_75 (by decide) ?_
  refine y_newi (N := 86) rfl (by decide) (Nat.le_of_ble_eq_true rfl) (Nat.le_of_ble_eq_true rfl) dX5_init_77 (fun b8 => ?_)
  refine y_putF (ws' := (a, .inr (5, [.ref b0, .ref b1, .ref b2, .ref b3, .long 0, .long 1, .int 0, .ref b4, .ref b5, .ref b6, .ref b7, .int 0, .int 0, .int 0, .int 0, .int 0, .ref b8, .null])) :: [(b0, .inl ((wdK κ).2.2.1, 318, .inl (fun _ => 0))), (b1, .inl ((wdK κ).2.2.1, 636, .inl (fun _ => 0))), (b2, .inl ((wdK κ).2.2.2.1, 2, .inl (fun _ => 0))), (b3, .inl ((wdK κ).2.2.1, 3, .inl (fun _ => 0))), (b4, .inl ((wdK κ).2.2.1, 48, .inl (fun _ => 0))), (b5, .inl ((wdK κ).2.2.1, 6, .inl (fun _ => 0))), (b6, .inl ((wdK κ).2.2.1, 64, .inl (fun _ => 0))), (b7, .inl ((wdK κ).2.2.1, 150, .inl (fun _ => 0))), (b8, .inl ((wdK κ).2.2.1, 86, .inl (fun _ => 0)))]) 0 16 rfl rfl inlX5 tyX5_ok nmX5 (by decide) wd_107 rfl rfl rfl rfl rfl (Nat.le_of_ble_eq_true rfl) rfl dX5_init_79 ?_
  refine y_aload_n 0 dX5_init_82 rfl rfl ?_
  refine y_iconst (v := nI 3) dX5_init_83 (by decide) ?_
  refine y_newi (N := 3) rfl (by decide) (Nat.le_of_ble_eq_true rfl) (Nat.le_of_ble_eq_true rfl) dX5_init_84 (fun b9 => ?_)
  refine y_putF (ws' := (a, .inr (5, [.ref b0, .ref b1, .ref b2, .ref b3, .long 0, .long 1, .int 0, .ref b4, .ref b5, .ref b6, .ref b7, .int 0, .int 0, .int 0, .int 0, .int 0, .ref b8, .ref b9])) :: [(b0, .inl ((wdK κ).2.2.1, 318, .inl (fun _ => 0))), (b1, .inl ((wdK κ).2.2.1, 636, .inl (fun _ => 0))), (b2, .inl ((wdK κ).2.2.2.1, 2, .inl (fun _ => 0))), (b3, .inl ((wdK κ).2.2.1, 3, .inl (fun _ => 0))), (b4, .inl ((wdK κ).2.2.1, 48, .inl (fun _ => 0))), (b5, .inl ((wdK κ).2.2.1, 6, .inl (fun _ => 0))), (b6, .inl ((wdK κ).2.2.1, 64, .inl (fun _ => 0))), (b7, .inl ((wdK κ).2.2.1, 150, .inl (fun _ => 0))), (b8, .inl ((wdK κ).2.2.1, 86, .inl (fun _ => 0))), (b9, .inl ((wdK κ).2.2.1, 3, .inl (fun _ => 0)))]) 0 17 rfl rfl inlX5 tyX5_ok nmX5 (by decide) wd_108 rfl rfl rfl rfl rfl (Nat.le_of_ble_eq_true rfl) rfl dX5_init_86 ?_
  refine y_aload_n 0 dX5_init_89 rfl rfl ?_
  refine y_get 0 0 rfl rfl inlX5 (by decide) wd_97 rfl dX5_init_90 ?_
  refine y_iconst (v := 0) dX5_init_93 (by decide) ?_
  refine y_rot (x := (a, .inr (5, [.ref b0, .ref b1, .ref b2, .ref b3, .long 0, .long 1, .int 0, .ref b4, .ref b5, .ref b6, .ref b7, .int 0, .int 0, .int 0, .int 0, .int 0, .ref b8, .ref b9]))) (c := (b0, .inl ((wdK κ).2.2.1, 318, .inl (fun _ => 0)))) (R := [(b1, .inl ((wdK κ).2.2.1, 636, .inl (fun _ => 0))), (b2, .inl ((wdK κ).2.2.2.1, 2, .inl (fun _ => 0))), (b3, .inl ((wdK κ).2.2.1, 3, .inl (fun _ => 0))), (b4, .inl ((wdK κ).2.2.1, 48, .inl (fun _ => 0))), (b5, .inl ((wdK κ).2.2.1, 6, .inl (fun _ => 0))), (b6, .inl ((wdK κ).2.2.1, 64, .inl (fun _ => 0))), (b7, .inl ((wdK κ).2.2.1, 150, .inl (fun _ => 0))), (b8, .inl ((wdK κ).2.2.1, 86, .inl (fun _ => 0))), (b9, .inl ((wdK κ).2.2.1, 3, .inl (fun _ => 0)))]) ?_
  refine y_callS (M := jX5_init) (M' := jBegin) (as := [.ref b0, .int 0]) (st := []) (w0 := (a, .inr (5, [.ref b0, .ref b1, .ref b2, .ref b3, .long 0, .long 1, .int 0, .ref b4, .ref b5, .ref b6, .ref b7, .int 0, .int 0, .int 0, .int 0, .int 0, .ref b8, .ref b9])) :: [(b1, .inl ((wdK κ).2.2.1, 636, .inl (fun _ => 0))), (b2, .inl ((wdK κ).2.2.2.1, 2, .inl (fun _ => 0))), (b3, .inl ((wdK κ).2.2.1, 3, .inl (fun _ => 0))), (b4, .inl ((wdK κ).2.2.1, 48, .inl (fun _ => 0))), (b5, .inl ((wdK κ).2.2.1, 6, .inl (fun _ => 0))), (b6, .inl ((wdK κ).2.2.1, 64, .inl (fun _ => 0))), (b7, .inl ((wdK κ).2.2.1, 150, .inl (fun _ => 0))), (b8, .inl ((wdK κ).2.2.1, 86, .inl (fun _ => 0))), (b9, .inl ((wdK κ).2.2.1, 3, .inl (fun _ => 0)))]) (wc := [(b0, .inl ((wdK κ).2.2.1, 318, .inl (fun _ => 0)))]) kBegin cwX5_begin wd_110 wd_109 rfl (Nat.le_of_ble_eq_true rfl) (by decide) (Nat.le_of_ble_eq_true rfl) (Nat.le_of_ble_eq_true rfl) dX5_init_94 rfl ?_
  rintro _ rfl
  refine y_vret rfl dX5_init_97 ?_
  exact ⟨fun i => if i = 0 then a else if i = 1 then b0 else if i = 2 then b1 else if i = 3 then b2 else if i = 4 then b3 else if i = 5 then b4 else if i = 6 then b5 else if i = 7 then b6 else if i = 8 then b7 else if i = 9 then b8 else b9, rfl, rfl⟩
