set_option maxRecDepth 20000 in
set_option maxHeartbeats 1000000 in
theorem kX1_init {wd : Wd} {a : Nat} : ConY wd jX1_init [.ref a] [(a, .inr (1, fs1))] (fun w => ∃ (u : Nat → Nat) (f : Nat → Option Nat), u 0 = a ∧ (∀ d, d < 5 → f d = some (u (4 + 5 * d))) ∧ w = outV wd.2.2.1 wd.2.2.2.2 f u) := by
  refine ConY.of pnX1 (Nat.le_of_ble_eq_true rfl) ?_
  rintro κ rfl
  show Y κ jX1_init _ 0 0 0 [(0, .ref a)] [] ((a, .inr (1, [.null, .null, .null, .int 0, .int 0, .int 0])) :: ([] : va_W))
  refine y_aload_n 0 dX1_init_0 rfl rfl ?_
  refine y_obj wd_70 (by decide) (by decide) dX1_init_1 ?_
  refine y_aload_n 0 dX1_init_4 rfl rfl ?_
  refine y_iconst (v := nI 5) dX1_init_5 (by decide) ?_
  refine y_newl (N := 5) rfl (by decide) wd_71 (Nat.le_of_ble_eq_true rfl) (Nat.le_of_ble_eq_true rfl) dX1_init_6 (fun b0 => ?_)
  refine y_putF (ws' := (a, .inr (1, [.ref b0, .null, .null, .int 0, .int 0, .int 0])) :: [(b0, .inl ((wdK κ).2.2.2.2, 5, .inr (.inr (.inr (.inr (fun _ => none))))))]) 0 0 rfl rfl inlX1 tyX1_ok nmX1 (by decide) wd_72 rfl rfl rfl rfl rfl (Nat.le_of_ble_eq_true rfl) rfl dX1_init_9 ?_
  refine y_aload_n 0 dX1_init_12 rfl rfl ?_
  refine y_iconst (v := nI 4) dX1_init_13 (by decide) ?_
  refine y_newi (N := 4) rfl (by decide) (Nat.le_of_ble_eq_true rfl) (Nat.le_of_ble_eq_true rfl) dX1_init_14 (fun b1 => ?_)
  refine y_putF (ws' := (a, .inr (1, [.ref b0, .ref b1, .null, .int 0, .int 0, .int 0])) :: [(b0, .inl ((wdK κ).2.2.2.2, 5, .inr (.inr (.inr (.inr (fun _ => none)))))), (b1, .inl ((wdK κ).2.2.1, 4, .inl (fun _ => 0)))]) 0 1 rfl rfl inlX1 tyX1_ok nmX1 (by decide) wd_73 rfl rfl rfl rfl rfl (Nat.le_of_ble_eq_true rfl) rfl dX1_init_16 ?_
  refine y_aload_n 0 dX1_init_19 rfl rfl ?_
  refine y_iconst (v := nI 4) dX1_init_20 (by decide) ?_
  refine y_newi (N := 4) rfl (by decide) (Nat.le_of_ble_eq_true rfl) (Nat.le_of_ble_eq_true rfl) dX1_init_21 (fun b2 => ?_)
  refine y_putF (ws' := (a, .inr (1, [.ref b0, .ref b1, .ref b2, .int 0, .int 0, .int 0])) :: [(b0, .inl ((wdK κ).2.2.2.2, 5, .inr (.inr (.inr (.inr (fun _ => none)))))), (b1, .inl ((wdK κ).2.2.1, 4, .inl (fun _ => 0))), (b2, .inl ((wdK κ).2.2.1, 4, .inl (fun _ => 0)))]) 0 2 rfl rfl inlX1 tyX1_ok nmX1 (by decide) wd_74 rfl rfl rfl rfl rfl (Nat.le_of_ble_eq_true rfl) rfl dX1_init_23 ?_
  refine y_aload_n 0 dX1_init_26 rfl rfl ?_
  refine y_iconst (v := 0) dX1_init_27 (by decide) ?_
  refine y_put (ws' := (a, .inr (1, [.ref b0, .ref b1, .ref b2, .int 0, .int 0, .int 0])) :: [(b0, .inl ((wdK κ).2.2.2.2, 5, .inr (.inr (.inr (.inr (fun _ => none)))))), (b1, .inl ((wdK κ).2.2.1, 4, .inl (fun _ => 0))), (b2, .inl ((wdK κ).2.2.1, 4, .inl (fun _ => 0)))]) 0 3 rfl rfl inlX1 tyX1_ok nmX1 (by decide) wd_75 rfl rfl rfl (Nat.le_of_ble_eq_true rfl) rfl dX1_init_28 ?_
  refine y_aload_n 0 dX1_init_31 rfl rfl ?_
  refine y_iconst (v := 0) dX1_init_32 (by decide) ?_
  refine y_put (ws' := (a, .inr (1, [.ref b0, .ref b1, .ref b2, .int 0, .int 0, .int 0])) :: [(b0, .inl ((wdK κ).2.2.2.2, 5, .inr (.inr (.inr (.inr (fun _ => none)))))), (b1, .inl ((wdK κ).2.2.1, 4, .inl (fun _ => 0))), (b2, .inl ((wdK κ).2.2.1, 4, .inl (fun _ => 0)))]) 0 4 rfl rfl inlX1 tyX1_ok nmX1 (by decide) wd_76 rfl rfl rfl (Nat.le_of_ble_eq_true rfl) rfl dX1_init_33 ?_
  refine y_aload_n 0 dX1_init_36 rfl rfl ?_
  refine y_iconst (v := 0) dX1_init_37 (by decide) ?_
  refine y_put (ws' := (a, .inr (1, [.ref b0, .ref b1, .ref b2, .int 0, .int 0, .int 0])) :: [(b0, .inl ((wdK κ).2.2.2.2, 5, .inr (.inr (.inr (.inr (fun _ => none)))))), (b1, .inl ((wdK κ).2.2.1, 4, .inl (fun _ => 0))), (b2, .inl ((wdK κ).2.2.1, 4, .inl (fun _ => 0)))]) 0 5 rfl rfl inlX1 tyX1_ok nmX1 (by decide) wd_77 rfl rfl rfl (Nat.le_of_ble_eq_true rfl) rfl dX1_init_38 ?_
  refine y_iconst (v := nI 0) dX1_init_41 (by decide) ?_
  refine y_istore_n (lv' := [(1, .int (nI 0)), (0, .ref a)]) 1 dX1_init_42 rfl (by decide) rfl ?_
  refine y_iload_n 1 dX1_init_43 rfl rfl ?_
  refine y_iconst (v := nI 4) dX1_init_44 (by decide) ?_
  refine y_icmp_gt (tgt := 67) dX1_init_45 rfl (fun h => absurd h (by decide)) (fun _ => ?_)
  refine y_aload_n 0 dX1_init_48 rfl rfl ?_
  refine y_get 0 0 rfl rfl inlX1 (by decide) wd_72 rfl dX1_init_49 ?_
  refine y_iload_n 1 dX1_init_52 rfl rfl ?_
  refine y_new (fs := fs0) (ty := tyX0) (ci := 0) rfl inlX0 tyX0_ok wd_71 wd_39 wd_40 df0 (Nat.le_of_ble_eq_true rfl) (Nat.le_of_ble_eq_true rfl) dX1_init_53 (fun b3 => ?_)
  refine y_dup dX1_init_56 rfl ?_
  refine y_init (n := 4) (q := 22) (M := jX1_init) (st := [.ref b3, .int (nI 0), .ref b0]) (M' := jX0_init) (w0 := (a, .inr (1, [.ref b0, .ref b1, .ref b2, .int 0, .int 0, .int 0])) :: [(b0, .inl ((wdK κ).2.2.2.2, 5, .inr (.inr (.inr (.inr (fun _ => none)))))), (b1, .inl ((wdK κ).2.2.1, 4, .inl (fun _ => 0))), (b2, .inl ((wdK κ).2.2.1, 4, .inl (fun _ => 0)))]) (wc := [(b3, .inr (0, fs0))]) (kX0_init (a := b3)) cwX0_init rfl rfl wd_51 wd_78 (Nat.le_of_ble_eq_true rfl) (Nat.le_of_ble_eq_true rfl) (Nat.le_of_ble_eq_true rfl) (Nat.le_of_ble_eq_true rfl) dX1_init_57 ?_
  rintro _ ⟨t4, t4h, rfl⟩
  subst t4h
  refine y_aast (ws' := (a, .inr (1, [.ref b0, .ref b1, .ref b2, .int 0, .int 0, .int 0])) :: ([(b0, .inl ((wdK κ).2.2.2.2, 5, .inr (.inr (.inr (.inr (va_up (fun _ => none) 0 (some (t4 0)))))))), (b1, .inl ((wdK κ).2.2.1, 4, .inl (fun _ => 0))), (b2, .inl ((wdK κ).2.2.1, 4, .inl (fun _ => 0)))] ++ landV (wdK κ).2.2.1 t4)) 1 4 rfl rfl (vin (by decide) (by decide)) rfl dX1_init_60 ?_
  refine y_iinc (v := nI 1) (lv' := [(1, .int (nI 1)), (0, .ref a)]) 0 dX1_init_61 rfl (by decide) (by decide) rfl ?_
  refine y_goto (tgt := 43) dX1_init_64 rfl ?_
  refine y_iload_n 1 dX1_init_43 rfl rfl ?_
  refine y_iconst (v := nI 4) dX1_init_44 (by decide) ?_
  refine y_icmp_gt (tgt := 67) dX1_init_45 rfl (fun h => absurd h (by decide)) (fun _ => ?_)
  refine y_aload_n 0 dX1_init_48 rfl rfl ?_
  refine y_get 0 0 rfl rfl inlX1 (by decide) wd_72 rfl dX1_init_49 ?_
  refine y_iload_n 1 dX1_init_52 rfl rfl ?_
  refine y_new (fs := fs0) (ty := tyX0) (ci := 0) rfl inlX0 tyX0_ok wd_71 wd_39 wd_40 df0 (Nat.le_of_ble_eq_true rfl) (Nat.le_of_ble_eq_true rfl) dX1_init_53 (fun b5 => ?_)
  refine y_dup dX1_init_56 rfl ?_
  refine y_init (n := 9) (q := 72) (M := jX1_init) (st := [.ref b5, .int (nI 1), .ref b0]) (M' := jX0_init) (w0 := (a, .inr (1, [.ref b0, .ref b1, .ref b2, .int 0, .int 0, .int 0])) :: ([(b0, .inl ((wdK κ).2.2.2.2, 5, .inr (.inr (.inr (.inr (va_up (fun _ => none) 0 (some (t4 0)))))))), (b1, .inl ((wdK κ).2.2.1, 4, .inl (fun _ => 0))), (b2, .inl ((wdK κ).2.2.1, 4, .inl (fun _ => 0)))] ++ landV (wdK κ).2.2.1 t4)) (wc := [(b5, .inr (0, fs0))]) (kX0_init (a := b5)) cwX0_init rfl rfl wd_51 wd_78 (Nat.le_of_ble_eq_true rfl) (Nat.le_of_ble_eq_true rfl) (Nat.le_of_ble_eq_true rfl) (Nat.le_of_ble_eq_true rfl) dX1_init_57 ?_
  rintro _ ⟨t6, t6h, rfl⟩
  subst t6h
  refine y_aast (ws' := (a, .inr (1, [.ref b0, .ref b1, .ref b2, .int 0, .int 0, .int 0])) :: (([(b0, .inl ((wdK κ).2.2.2.2, 5, .inr (.inr (.inr (.inr (va_up (va_up (fun _ => none) 0 (some (t4 0))) 1 (some (t6 0)))))))), (b1, .inl ((wdK κ).2.2.1, 4, .inl (fun _ => 0))), (b2, .inl ((wdK κ).2.2.1, 4, .inl (fun _ => 0)))] ++ landV (wdK κ).2.2.1 t4) ++ landV (wdK κ).2.2.1 t6)) 1 9 rfl rfl (vin (by decide) (by decide)) rfl dX1_init_60 ?_
  refine y_iinc (v := nI 2) (lv' := [(1, .int (nI 2)), (0, .ref a)]) 0 dX1_init_61 rfl (by decide) (by decide) rfl ?_
  refine y_goto (tgt := 43) dX1_init_64 rfl ?_
  refine y_iload_n 1 dX1_init_43 rfl rfl ?_
  refine y_iconst (v := nI 4) dX1_init_44 (by decide) ?_
  refine y_icmp_gt (tgt := 67) dX1_init_45 rfl (fun h => absurd h (by decide)) (fun _ => ?_)
  refine y_aload_n 0 dX1_init_48 rfl rfl ?_
  refine y_get 0 0 rfl rfl inlX1 (by decide) wd_72 rfl dX1_init_49 ?_
  refine y_iload_n 1 dX1_init_52 rfl rfl ?_
  refine y_new (fs := fs0) (ty := tyX0) (ci := 0) rfl inlX0 tyX0_ok wd_71 wd_39 wd_40 df0 (Nat.le_of_ble_eq_true rfl) (Nat.le_of_ble_eq_true rfl) dX1_init_53 (fun b7 => ?_)
  refine y_dup dX1_init_56 rfl ?_
  refine y_init (n := 14) (q := 122) (M := jX1_init) (st := [.ref b7, .int (nI 2), .ref b0]) (M' := jX0_init) (w0 := (a, .inr (1, [.ref b0, .ref b1, .ref b2, .int 0, .int 0, .int 0])) :: (([(b0, .inl ((wdK κ).2.2.2.2, 5, .inr (.inr (.inr (.inr (va_up (va_up (fun _ => none) 0 (some (t4 0))) 1 (some (t6 0)))))))), (b1, .inl ((wdK κ).2.2.1, 4, .inl (fun _ => 0))), (b2, .inl ((wdK κ).2.2.1, 4, .inl (fun _ => 0)))] ++ landV (wdK κ).2.2.1 t4) ++ landV (wdK κ).2.2.1 t6)) (wc := [(b7, .inr (0, fs0))]) (kX0_init (a := b7)) cwX0_init rfl rfl wd_51 wd_78 (Nat.le_of_ble_eq_true rfl) (Nat.le_of_ble_eq_true rfl) (Nat.le_of_ble_eq_true rfl) (Nat.le_of_ble_eq_true rfl) dX1_init_57 ?_
  rintro _ ⟨t8, t8h, rfl⟩
  subst t8h
  refine y_aast (ws' := (a, .inr (1, [.ref b0, .ref b1, .ref b2, .int 0, .int 0, .int 0])) :: ((([(b0, .inl ((wdK κ).2.2.2.2, 5, .inr (.inr (.inr (.inr (va_up (va_up (va_up (fun _ => none) 0 (some (t4 0))) 1 (some (t6 0))) 2 (some (t8 0)))))))), (b1, .inl ((wdK κ).2.2.1, 4, .inl (fun _ => 0))), (b2, .inl ((wdK κ).2.2.1, 4, .inl (fun _ => 0)))] ++ landV (wdK κ).2.2.1 t4) ++ landV (wdK κ).2.2.1 t6) ++ landV (wdK κ).2.2.1 t8)) 1 14 rfl rfl (vin (by decide) (by decide)) rfl dX1_init_60 ?_
  refine y_iinc (v := nI 3) (lv' := [(1, .int (nI 3)), (0, .ref a)]) 0 dX1_init_61 rfl (by decide) (by decide) rfl ?_
  refine y_goto (tgt := 43) dX1_init_64 rfl ?_
  refine y_iload_n 1 dX1_init_43 rfl rfl ?_
  refine y_iconst (v := nI 4) dX1_init_44 (by decide) ?_
  refine y_icmp_gt (tgt := 67) dX1_init_45 rfl (fun h => absurd h (by decide)) (fun _ => ?_)
  refine y_aload_n 0 dX1_init_48 rfl rfl ?_
  refine y_get 0 0 rfl rfl inlX1 (by decide) wd_72 rfl dX1_init_49 ?_
  refine y_iload_n 1 dX1_init_52 rfl rfl ?_
  refine y_new (fs := fs0) (ty := tyX0) (ci := 0) rfl inlX0 tyX0_ok wd_71 wd_39 wd_40 df0 (Nat.le_of_ble_eq_true rfl) (Nat.le_of_ble_eq_true rfl) dX1_init_53 (fun b9 => ?_)
  refine y_dup dX1_init_56 rfl ?_
  refine y_init (n := 19) (q := 172) (M := jX1_init) (st := [.ref b9, .int (nI 3), .ref b0]) (M' := jX0_init) (w0 := (a, .inr (1, [.ref b0, .ref b1, .ref b2, .int 0, .int 0, .int 0])) :: ((([(b0, .inl ((wdK κ).2.2.2.2, 5, .inr (.inr (.inr (.inr (va_up (va_up (va_up (fun _ => none) 0 (some (t4 0))) 1 (some (t6 0))) 2 (some (t8 0)))))))), (b1, .inl ((wdK κ).2.2.1, 4, .inl (fun _ => 0))), (b2, .inl ((wdK κ).2.2.1, 4, .inl (fun _ => 0)))] ++ landV (wdK κ).2.2.1 t4) ++ landV (wdK κ).2.2.1 t6) ++ landV (wdK κ).2.2.1 t8)) (wc := [(b9, .inr (0, fs0))]) (kX0_init (a := b9)) cwX0_init rfl rfl wd_51 wd_78 (Nat.le_of_ble_eq_true rfl) (Nat.le_of_ble_eq_true rfl) (Nat.le_of_ble_eq_true rfl) (Nat.le_of_ble_eq_true rfl) dX1_init_57 ?_
  rintro _ ⟨t10, t10h, rfl⟩
  subst t10h
  refine y_aast (ws' := (a, .inr (1, [.ref b0, .ref b1, .ref b2, .int 0, .int 0, .int 0])) :: (((([(b0, .inl ((wdK κ).2.2.2.2, 5, .inr (.inr (.inr (.inr (va_up (va_up (va_up (va_up (fun _ => none) 0 (some (t4 0))) 1 (some (t6 0))) 2 (some (t8 0))) 3 (some (t10 0)))))))), (b1, .inl ((wdK κ).2.2.1, 4, .inl (fun _ => 0))), (b2, .inl ((wdK κ).2.2.1, 4, .inl (fun _ => 0)))] ++ landV (wdK κ).2.2.1 t4) ++ landV (wdK κ).2.2.1 t6) ++ landV (wdK κ).2.2.1 t8) ++ landV (wdK κ).2.2.1 t10)) 1 19 rfl rfl (vin (by decide) (by decide)) rfl dX1_init_60 ?_
  refine y_iinc (v := nI 4) (lv' := [(1, .int (nI 4)), (0, .ref a)]) 0 dX1_init_61 rfl (by decide) (by decide) rfl ?_
  refine y_goto (tgt := 43) dX1_init_64 rfl ?_
  refine y_iload_n 1 dX1_init_43 rfl rfl ?_
  refine y_iconst (v := nI 4) dX1_init_44 (by decide) ?_
  refine y_icmp_gt (tgt := 67) dX1_init_45 rfl (fun h => absurd h (by decide)) (fun _ => ?_)
  refine y_aload_n 0 dX1_init_48 rfl rfl ?_
  refine y_get 0 0 rfl rfl inlX1 (by decide) wd_72 rfl dX1_init_49 ?_
  refine y_iload_n 1 dX1_init_52 rfl rfl ?_
  refine y_new (fs := fs0) (ty := tyX0) (ci := 0) rfl inlX0 tyX0_ok wd_71 wd_39 wd_40 df0 (Nat.le_of_ble_eq_true rfl) (Nat.le_of_ble_eq_true rfl) dX1_init_53 (fun b11 => ?_)
  refine y_dup dX1_init_56 rfl ?_
  refine y_init (n := 24) (q := 222) (M := jX1_init) (st := [.ref b11, .int (nI 4), .ref b0]) (M' := jX0_init) (w0 := (a, .inr (1, [.ref b0, .ref b1, .ref b2, .int 0, .int 0, .int 0])) :: (((([(b0, .inl ((wdK κ).2.2.2.2, 5, .inr (.inr (.inr (.inr (va_up (va_up (va_up (va_up (fun _ => none) 0 (some (t4 0))) 1 (some (t6 0))) 2 (some (t8 0))) 3 (some (t10 0)))))))), (b1, .inl ((wdK κ).2.2.1, 4, .inl (fun _ => 0))), (b2, .inl ((wdK κ).2.2.1, 4, .inl (fun _ => 0)))] ++ landV (wdK κ).2.2.1 t4) ++ landV (wdK κ).2.2.1 t6) ++ landV (wdK κ).2.2.1 t8) ++ landV (wdK κ).2.2.1 t10)) (wc := [(b11, .inr (0, fs0))]) (kX0_init (a := b11)) cwX0_init rfl rfl wd_51 wd_78 (Nat.le_of_ble_eq_true rfl) (Nat.le_of_ble_eq_true rfl) (Nat.le_of_ble_eq_true rfl) (Nat.le_of_ble_eq_true rfl) dX1_init_57 ?_
  rintro _ ⟨t12, t12h, rfl⟩
  subst t12h
  refine y_aast (ws' := (a, .inr (1, [.ref b0, .ref b1, .ref b2, .int 0, .int 0, .int 0])) :: ((((([(b0, .inl ((wdK κ).2.2.2.2, 5, .inr (.inr (.inr (.inr (va_up (va_up (va_up (va_up (va_up (fun _ => none) 0 (some (t4 0))) 1 (some (t6 0))) 2 (some (t8 0))) 3 (some (t10 0))) 4 (some (t12 0)))))))), (b1, .inl ((wdK κ).2.2.1, 4, .inl (fun _ => 0))), (b2, .inl ((wdK κ).2.2.1, 4, .inl (fun _ => 0)))] ++ landV (wdK κ).2.2.1 t4) ++ landV (wdK κ).2.2.1 t6) ++ landV (wdK κ).2.2.1 t8) ++ landV (wdK κ).2.2.1 t10) ++ landV (wdK κ).2.2.1 t12)) 1 24 rfl rfl (vin (by decide) (by decide)) rfl dX1_init_60 ?_
  refine y_iinc (v := nI 5) (lv' := [(1, .int (nI 5)), (0, .ref a)]) 0 dX1_init_61 rfl (by decide) (by decide) rfl ?_
  refine y_goto (tgt := 43) dX1_init_64 rfl ?_
  refine y_iload_n 1 dX1_init_43 rfl rfl ?_
  refine y_iconst (v := nI 4) dX1_init_44 (by decide) ?_
  refine y_icmp_gt (tgt := 67) dX1_init_45 rfl (fun _ => ?_) (fun h => absurd (by decide) h)
  refine y_vret rfl dX1_init_67 ?_
  refine ⟨fun i => if i = 0 then a else if i = 1 then b0 else if i = 2 then b1 else if i = 3 then b2 else if i < 9 then t4 (i - 4) else if i < 14 then t6 (i - 9) else if i < 19 then t8 (i - 14) else if i < 24 then t10 (i - 19) else t12 (i - 24), _, rfl, ?_, rfl⟩
  intro d hd
  rcases (show d = 0 ∨ d = 1 ∨ d = 2 ∨ d = 3 ∨ d = 4 by omega) with rfl | rfl | rfl | rfl | rfl <;> rfl
