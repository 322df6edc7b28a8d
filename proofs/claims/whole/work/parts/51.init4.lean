set_option maxRecDepth 20000 in
set_option maxHeartbeats 1000000 in
theorem kX4_init {wd : Wd} {a : Nat} : ConY wd jX4_init [.ref a] [(a, .inr (4, fs4))] (fun w => ∃ (s1 s2 s3 u r : Nat → Nat) (f : Nat → Option Nat) (a1 a2 : Nat), (∀ d, d < 5 → f d = some (u (4 + 5 * d))) ∧ w = slV wd.2.2.1 wd.2.2.2.2 f a s1 s2 s3 u r a1 a2) := by
  refine ConY.of pnX4 (Nat.le_of_ble_eq_true rfl) ?_
  rintro κ rfl
  show Y κ jX4_init _ 0 0 0 [(0, .ref a)] [] ((a, .inr (4, [.null, .null, .null, .null, .null, .null, .null, .long 0, .long 0, .int 0, .int 0, .int 0])) :: ([] : va_W))
  refine y_aload_n 0 dX4_init_0 rfl rfl ?_
  refine y_obj wd_9 (by decide) (by decide) dX4_init_1 ?_
  refine y_aload_n 0 dX4_init_4 rfl rfl ?_
  refine y_new (fs := fs3) (ty := tyX3) (ci := 3) rfl inlX3 tyX3_ok wd_12 wd_13 wd_14 df3 (Nat.le_of_ble_eq_true rfl) (Nat.le_of_ble_eq_true rfl) dX4_init_5 (fun b0 => ?_)
  refine y_dup dX4_init_8 rfl ?_
  refine y_init (n := 1) (q := 9) (M := jX4_init) (st := [.ref b0, .ref a]) (M' := jX3_init) (w0 := (a, .inr (4, [.null, .null, .null, .null, .null, .null, .null, .long 0, .long 0, .int 0, .int 0, .int 0])) :: ([] : va_W)) (wc := [(b0, .inr (3, fs3))]) (kX3_init (a := b0)) cwX3_init rfl rfl wd_35 wd_34 (Nat.le_of_ble_eq_true rfl) (Nat.le_of_ble_eq_true rfl) (Nat.le_of_ble_eq_true rfl) (Nat.le_of_ble_eq_true rfl) dX4_init_9 ?_
  rintro _ ⟨t1, t1h, rfl⟩
  subst t1h
  refine y_putF (ws' := (a, .inr (4, [.ref (t1 0), .null, .null, .null, .null, .null, .null, .long 0, .long 0, .int 0, .int 0, .int 0])) :: stV (wdK κ).2.2.1 t1) 0 0 rfl rfl inlX4 tyX4_ok nmX4 (by decide) wd_15 rfl rfl rfl rfl rfl (Nat.le_of_ble_eq_true rfl) rfl dX4_init_12 ?_
  refine y_aload_n 0 dX4_init_15 rfl rfl ?_
  refine y_new (fs := fs3) (ty := tyX3) (ci := 3) rfl inlX3 tyX3_ok wd_12 wd_13 wd_14 df3 (Nat.le_of_ble_eq_true rfl) (Nat.le_of_ble_eq_true rfl) dX4_init_16 (fun b2 => ?_)
  refine y_dup dX4_init_19 rfl ?_
  refine y_init (n := 10) (q := 338) (M := jX4_init) (st := [.ref b2, .ref a]) (M' := jX3_init) (w0 := (a, .inr (4, [.ref (t1 0), .null, .null, .null, .null, .null, .null, .long 0, .long 0, .int 0, .int 0, .int 0])) :: stV (wdK κ).2.2.1 t1) (wc := [(b2, .inr (3, fs3))]) (kX3_init (a := b2)) cwX3_init rfl rfl wd_35 wd_34 (Nat.le_of_ble_eq_true rfl) (Nat.le_of_ble_eq_true rfl) (Nat.le_of_ble_eq_true rfl) (Nat.le_of_ble_eq_true rfl) dX4_init_20 ?_
  rintro _ ⟨t3, t3h, rfl⟩
  subst t3h
  refine y_putF (ws' := (a, .inr (4, [.ref (t1 0), .ref (t3 0), .null, .null, .null, .null, .null, .long 0, .long 0, .int 0, .int 0, .int 0])) :: (stV (wdK κ).2.2.1 t1 ++ stV (wdK κ).2.2.1 t3)) 0 1 rfl rfl inlX4 tyX4_ok nmX4 (by decide) wd_16 rfl rfl rfl rfl rfl (Nat.le_of_ble_eq_true rfl) rfl dX4_init_23 ?_
  refine y_aload_n 0 dX4_init_26 rfl rfl ?_
  refine y_new (fs := fs3) (ty := tyX3) (ci := 3) rfl inlX3 tyX3_ok wd_12 wd_13 wd_14 df3 (Nat.le_of_ble_eq_true rfl) (Nat.le_of_ble_eq_true rfl) dX4_init_27 (fun b4 => ?_)
  refine y_dup dX4_init_30 rfl ?_
  refine y_init (n := 19) (q := 667) (M := jX4_init) (st := [.ref b4, .ref a]) (M' := jX3_init) (w0 := (a, .inr (4, [.ref (t1 0), .ref (t3 0), .null, .null, .null, .null, .null, .long 0, .long 0, .int 0, .int 0, .int 0])) :: (stV (wdK κ).2.2.1 t1 ++ stV (wdK κ).2.2.1 t3)) (wc := [(b4, .inr (3, fs3))]) (kX3_init (a := b4)) cwX3_init rfl rfl wd_35 wd_34 (Nat.le_of_ble_eq_true rfl) (Nat.le_of_ble_eq_true rfl) (Nat.le_of_ble_eq_true rfl) (Nat.le_of_ble_eq_true rfl) dX4_init_31 ?_
  rintro _ ⟨t5, t5h, rfl⟩
  subst t5h
  refine y_putF (ws' := (a, .inr (4, [.ref (t1 0), .ref (t3 0), .ref (t5 0), .null, .null, .null, .null, .long 0, .long 0, .int 0, .int 0, .int 0])) :: ((stV (wdK κ).2.2.1 t1 ++ stV (wdK κ).2.2.1 t3) ++ stV (wdK κ).2.2.1 t5)) 0 2 rfl rfl inlX4 tyX4_ok nmX4 (by decide) wd_17 rfl rfl rfl rfl rfl (Nat.le_of_ble_eq_true rfl) rfl dX4_init_34 ?_
  refine y_aload_n 0 dX4_init_37 rfl rfl ?_
  refine y_new (fs := fs1) (ty := tyX1) (ci := 1) rfl inlX1 tyX1_ok wd_18 wd_19 wd_20 df1 (Nat.le_of_ble_eq_true rfl) (Nat.le_of_ble_eq_true rfl) dX4_init_38 (fun b6 => ?_)
  refine y_dup dX4_init_41 rfl ?_
  refine y_init (n := 28) (q := 993) (M := jX4_init) (st := [.ref b6, .ref a]) (M' := jX1_init) (w0 := (a, .inr (4, [.ref (t1 0), .ref (t3 0), .ref (t5 0), .null, .null, .null, .null, .long 0, .long 0, .int 0, .int 0, .int 0])) :: ((stV (wdK κ).2.2.1 t1 ++ stV (wdK κ).2.2.1 t3) ++ stV (wdK κ).2.2.1 t5)) (wc := [(b6, .inr (1, fs1))]) (kX1_init (a := b6)) cwX1_init rfl rfl wd_68 wd_67 (Nat.le_of_ble_eq_true rfl) (Nat.le_of_ble_eq_true rfl) (Nat.le_of_ble_eq_true rfl) (Nat.le_of_ble_eq_true rfl) dX4_init_42 ?_
  rintro _ ⟨t7, t7f, t7h, t7g, rfl⟩
  subst t7h
  refine y_putF (ws' := (a, .inr (4, [.ref (t1 0), .ref (t3 0), .ref (t5 0), .ref (t7 0), .null, .null, .null, .long 0, .long 0, .int 0, .int 0, .int 0])) :: (((stV (wdK κ).2.2.1 t1 ++ stV (wdK κ).2.2.1 t3) ++ stV (wdK κ).2.2.1 t5) ++ outV (wdK κ).2.2.1 (wdK κ).2.2.2.2 t7f t7)) 0 3 rfl rfl inlX4 tyX4_ok nmX4 (by decide) wd_21 rfl rfl rfl rfl rfl (Nat.le_of_ble_eq_true rfl) rfl dX4_init_45 ?_
  refine y_aload_n 0 dX4_init_48 rfl rfl ?_
  refine y_new (fs := fs2) (ty := tyX2) (ci := 2) rfl inlX2 tyX2_ok wd_22 wd_23 wd_24 df2 (Nat.le_of_ble_eq_true rfl) (Nat.le_of_ble_eq_true rfl) dX4_init_49 (fun b8 => ?_)
  refine y_dup dX4_init_52 rfl ?_
  refine y_init (n := 57) (q := 1264) (M := jX4_init) (st := [.ref b8, .ref a]) (M' := jX2_init) (w0 := (a, .inr (4, [.ref (t1 0), .ref (t3 0), .ref (t5 0), .ref (t7 0), .null, .null, .null, .long 0, .long 0, .int 0, .int 0, .int 0])) :: (((stV (wdK κ).2.2.1 t1 ++ stV (wdK κ).2.2.1 t3) ++ stV (wdK κ).2.2.1 t5) ++ outV (wdK κ).2.2.1 (wdK κ).2.2.2.2 t7f t7)) (wc := [(b8, .inr (2, fs2))]) (kX2_init (a := b8)) cwX2_init rfl rfl wd_80 wd_79 (Nat.le_of_ble_eq_true rfl) (Nat.le_of_ble_eq_true rfl) (Nat.le_of_ble_eq_true rfl) (Nat.le_of_ble_eq_true rfl) dX4_init_53 ?_
  rintro _ ⟨t9, t9h, rfl⟩
  subst t9h
  refine y_putF (ws' := (a, .inr (4, [.ref (t1 0), .ref (t3 0), .ref (t5 0), .ref (t7 0), .ref (t9 0), .null, .null, .long 0, .long 0, .int 0, .int 0, .int 0])) :: ((((stV (wdK κ).2.2.1 t1 ++ stV (wdK κ).2.2.1 t3) ++ stV (wdK κ).2.2.1 t5) ++ outV (wdK κ).2.2.1 (wdK κ).2.2.2.2 t7f t7) ++ rdV (wdK κ).2.2.1 t9)) 0 4 rfl rfl inlX4 tyX4_ok nmX4 (by decide) wd_25 rfl rfl rfl rfl rfl (Nat.le_of_ble_eq_true rfl) rfl dX4_init_56 ?_
  refine y_aload_n 0 dX4_init_59 rfl rfl ?_
  refine y_bipush (v := nI 6) dX4_init_60 (by decide) ?_
  refine y_newi (N := 6) rfl (by decide) (Nat.le_of_ble_eq_true rfl) (Nat.le_of_ble_eq_true rfl) dX4_init_62 (fun b10 => ?_)
  refine y_putF (ws' := (a, .inr (4, [.ref (t1 0), .ref (t3 0), .ref (t5 0), .ref (t7 0), .ref (t9 0), .ref b10, .null, .long 0, .long 0, .int 0, .int 0, .int 0])) :: (((((stV (wdK κ).2.2.1 t1 ++ stV (wdK κ).2.2.1 t3) ++ stV (wdK κ).2.2.1 t5) ++ outV (wdK κ).2.2.1 (wdK κ).2.2.2.2 t7f t7) ++ rdV (wdK κ).2.2.1 t9) ++ [(b10, .inl ((wdK κ).2.2.1, 6, .inl (fun _ => 0)))])) 0 5 rfl rfl inlX4 tyX4_ok nmX4 (by decide) wd_27 rfl rfl rfl rfl rfl (Nat.le_of_ble_eq_true rfl) rfl dX4_init_64 ?_
  refine y_aload_n 0 dX4_init_67 rfl rfl ?_
  refine y_bipush (v := nI 64) dX4_init_68 (by decide) ?_
  refine y_newi (N := 64) rfl (by decide) (Nat.le_of_ble_eq_true rfl) (Nat.le_of_ble_eq_true rfl) dX4_init_70 (fun b11 => ?_)
  refine y_putF (ws' := (a, .inr (4, [.ref (t1 0), .ref (t3 0), .ref (t5 0), .ref (t7 0), .ref (t9 0), .ref b10, .ref b11, .long 0, .long 0, .int 0, .int 0, .int 0])) :: (((((stV (wdK κ).2.2.1 t1 ++ stV (wdK κ).2.2.1 t3) ++ stV (wdK κ).2.2.1 t5) ++ outV (wdK κ).2.2.1 (wdK κ).2.2.2.2 t7f t7) ++ rdV (wdK κ).2.2.1 t9) ++ [(b10, .inl ((wdK κ).2.2.1, 6, .inl (fun _ => 0))), (b11, .inl ((wdK κ).2.2.1, 64, .inl (fun _ => 0)))])) 0 6 rfl rfl inlX4 tyX4_ok nmX4 (by decide) wd_28 rfl rfl rfl rfl rfl (Nat.le_of_ble_eq_true rfl) rfl dX4_init_72 ?_
  refine y_aload_n 0 dX4_init_75 rfl rfl ?_
  refine y_lconst (v := 0) dX4_init_76 (by decide) ?_
  refine y_put (ws' := (a, .inr (4, [.ref (t1 0), .ref (t3 0), .ref (t5 0), .ref (t7 0), .ref (t9 0), .ref b10, .ref b11, .long 0, .long 0, .int 0, .int 0, .int 0])) :: (((((stV (wdK κ).2.2.1 t1 ++ stV (wdK κ).2.2.1 t3) ++ stV (wdK κ).2.2.1 t5) ++ outV (wdK κ).2.2.1 (wdK κ).2.2.2.2 t7f t7) ++ rdV (wdK κ).2.2.1 t9) ++ [(b10, .inl ((wdK κ).2.2.1, 6, .inl (fun _ => 0))), (b11, .inl ((wdK κ).2.2.1, 64, .inl (fun _ => 0)))])) 0 7 rfl rfl inlX4 tyX4_ok nmX4 (by decide) wd_29 rfl rfl rfl (Nat.le_of_ble_eq_true rfl) rfl dX4_init_77 ?_
  refine y_aload_n 0 dX4_init_80 rfl rfl ?_
  refine y_lconst (v := 1) dX4_init_81 (by decide) ?_
  refine y_put (ws' := (a, .inr (4, [.ref (t1 0), .ref (t3 0), .ref (t5 0), .ref (t7 0), .ref (t9 0), .ref b10, .ref b11, .long 0, .long 1, .int 0, .int 0, .int 0])) :: (((((stV (wdK κ).2.2.1 t1 ++ stV (wdK κ).2.2.1 t3) ++ stV (wdK κ).2.2.1 t5) ++ outV (wdK κ).2.2.1 (wdK κ).2.2.2.2 t7f t7) ++ rdV (wdK κ).2.2.1 t9) ++ [(b10, .inl ((wdK κ).2.2.1, 6, .inl (fun _ => 0))), (b11, .inl ((wdK κ).2.2.1, 64, .inl (fun _ => 0)))])) 0 8 rfl rfl inlX4 tyX4_ok nmX4 (by decide) wd_30 rfl rfl rfl (Nat.le_of_ble_eq_true rfl) rfl dX4_init_82 ?_
  refine y_aload_n 0 dX4_init_85 rfl rfl ?_
  refine y_iconst (v := 0) dX4_init_86 (by decide) ?_
  refine y_put (ws' := (a, .inr (4, [.ref (t1 0), .ref (t3 0), .ref (t5 0), .ref (t7 0), .ref (t9 0), .ref b10, .ref b11, .long 0, .long 1, .int 0, .int 0, .int 0])) :: (((((stV (wdK κ).2.2.1 t1 ++ stV (wdK κ).2.2.1 t3) ++ stV (wdK κ).2.2.1 t5) ++ outV (wdK κ).2.2.1 (wdK κ).2.2.2.2 t7f t7) ++ rdV (wdK κ).2.2.1 t9) ++ [(b10, .inl ((wdK κ).2.2.1, 6, .inl (fun _ => 0))), (b11, .inl ((wdK κ).2.2.1, 64, .inl (fun _ => 0)))])) 0 9 rfl rfl inlX4 tyX4_ok nmX4 (by decide) wd_31 rfl rfl rfl (Nat.le_of_ble_eq_true rfl) rfl dX4_init_87 ?_
  refine y_aload_n 0 dX4_init_90 rfl rfl ?_
  refine y_iconst (v := 0) dX4_init_91 (by decide) ?_
  refine y_put (ws' := (a, .inr (4, [.ref (t1 0), .ref (t3 0), .ref (t5 0), .ref (t7 0), .ref (t9 0), .ref b10, .ref b11, .long 0, .long 1, .int 0, .int 0, .int 0])) :: (((((stV (wdK κ).2.2.1 t1 ++ stV (wdK κ).2.2.1 t3) ++ stV (wdK κ).2.2.1 t5) ++ outV (wdK κ).2.2.1 (wdK κ).2.2.2.2 t7f t7) ++ rdV (wdK κ).2.2.1 t9) ++ [(b10, .inl ((wdK κ).2.2.1, 6, .inl (fun _ => 0))), (b11, .inl ((wdK κ).2.2.1, 64, .inl (fun _ => 0)))])) 0 10 rfl rfl inlX4 tyX4_ok nmX4 (by decide) wd_32 rfl rfl rfl (Nat.le_of_ble_eq_true rfl) rfl dX4_init_92 ?_
  refine y_aload_n 0 dX4_init_95 rfl rfl ?_
  refine y_iconst (v := 0) dX4_init_96 (by decide) ?_
  refine y_put (ws' := (a, .inr (4, [.ref (t1 0), .ref (t3 0), .ref (t5 0), .ref (t7 0), .ref (t9 0), .ref b10, .ref b11, .long 0, .long 1, .int 0, .int 0, .int 0])) :: (((((stV (wdK κ).2.2.1 t1 ++ stV (wdK κ).2.2.1 t3) ++ stV (wdK κ).2.2.1 t5) ++ outV (wdK κ).2.2.1 (wdK κ).2.2.2.2 t7f t7) ++ rdV (wdK κ).2.2.1 t9) ++ [(b10, .inl ((wdK κ).2.2.1, 6, .inl (fun _ => 0))), (b11, .inl ((wdK κ).2.2.1, 64, .inl (fun _ => 0)))])) 0 11 rfl rfl inlX4 tyX4_ok nmX4 (by decide) wd_33 rfl rfl rfl (Nat.le_of_ble_eq_true rfl) rfl dX4_init_97 ?_
  refine y_vret rfl dX4_init_100 ?_
  exact ⟨t1, t3, t5, t7, t9, t7f, b10, b11, t7g, rfl⟩
