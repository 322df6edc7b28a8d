set_option maxRecDepth 20000 in
set_option maxHeartbeats 1000000 in
theorem kX3_init {wd : Wd} {a : Nat} : ConY wd jX3_init [.ref a] [(a, .inr (3, fs3))] (fun w => ∃ s : Nat → Nat, s 0 = a ∧ w = stV wd.2.2.1 s) := by
  refine ConY.of pnX3 (Nat.le_of_ble_eq_true rfl) ?_
  rintro κ rfl
  show Y κ jX3_init _ 0 0 0 [(0, .ref a)] [] ((a, .inr (3, [.null, .null, .int 0, .null, .int 0, .null, .int 0, .int 0, .int 0])) :: ([] : va_W))
  refine y_aload_n 0 dX3_init_0 rfl rfl ?_
  refine y_obj wd_37 (by decide) (by decide) dX3_init_1 ?_
  refine y_aload_n 0 dX3_init_4 rfl rfl ?_
  refine y_new (fs := fs0) (ty := tyX0) (ci := 0) rfl inlX0 tyX0_ok wd_38 wd_39 wd_40 df0 (Nat.le_of_ble_eq_true rfl) (Nat.le_of_ble_eq_true rfl) dX3_init_5 (fun b0 => ?_)
  refine y_dup dX3_init_8 rfl ?_
  refine y_init (n := 1) (q := 9) (M := jX3_init) (st := [.ref b0, .ref a]) (M' := jX0_init) (w0 := (a, .inr (3, [.null, .null, .int 0, .null, .int 0, .null, .int 0, .int 0, .int 0])) :: ([] : va_W)) (wc := [(b0, .inr (0, fs0))]) (kX0_init (a := b0)) cwX0_init rfl rfl wd_51 wd_50 (Nat.le_of_ble_eq_true rfl) (Nat.le_of_ble_eq_true rfl) (Nat.le_of_ble_eq_true rfl) (Nat.le_of_ble_eq_true rfl) dX3_init_9 ?_
  rintro _ ⟨t1, t1h, rfl⟩
  subst t1h
  refine y_putF (ws' := (a, .inr (3, [.ref (t1 0), .null, .int 0, .null, .int 0, .null, .int 0, .int 0, .int 0])) :: landV (wdK κ).2.2.1 t1) 0 0 rfl rfl inlX3 tyX3_ok nmX3 (by decide) wd_41 rfl rfl rfl rfl rfl (Nat.le_of_ble_eq_true rfl) rfl dX3_init_12 ?_
  refine y_aload_n 0 dX3_init_15 rfl rfl ?_
  refine y_bipush (v := nI 20) dX3_init_16 (by decide) ?_
  refine y_newi (N := 20) rfl (by decide) (Nat.le_of_ble_eq_true rfl) (Nat.le_of_ble_eq_true rfl) dX3_init_18 (fun b2 => ?_)
  refine y_putF (ws' := (a, .inr (3, [.ref (t1 0), .ref b2, .int 0, .null, .int 0, .null, .int 0, .int 0, .int 0])) :: (landV (wdK κ).2.2.1 t1 ++ [(b2, .inl ((wdK κ).2.2.1, 20, .inl (fun _ => 0)))])) 0 1 rfl rfl inlX3 tyX3_ok nmX3 (by decide) wd_42 rfl rfl rfl rfl rfl (Nat.le_of_ble_eq_true rfl) rfl dX3_init_20 ?_
  refine y_aload_n 0 dX3_init_23 rfl rfl ?_
  refine y_iconst (v := 0) dX3_init_24 (by decide) ?_
  refine y_put (ws' := (a, .inr (3, [.ref (t1 0), .ref b2, .int 0, .null, .int 0, .null, .int 0, .int 0, .int 0])) :: (landV (wdK κ).2.2.1 t1 ++ [(b2, .inl ((wdK κ).2.2.1, 20, .inl (fun _ => 0)))])) 0 2 rfl rfl inlX3 tyX3_ok nmX3 (by decide) wd_43 rfl rfl rfl (Nat.le_of_ble_eq_true rfl) rfl dX3_init_25 ?_
  refine y_aload_n 0 dX3_init_28 rfl rfl ?_
  refine y_bipush (v := nI 18) dX3_init_29 (by decide) ?_
  refine y_newi (N := 18) rfl (by decide) (Nat.le_of_ble_eq_true rfl) (Nat.le_of_ble_eq_true rfl) dX3_init_31 (fun b3 => ?_)
  refine y_putF (ws' := (a, .inr (3, [.ref (t1 0), .ref b2, .int 0, .ref b3, .int 0, .null, .int 0, .int 0, .int 0])) :: (landV (wdK κ).2.2.1 t1 ++ [(b2, .inl ((wdK κ).2.2.1, 20, .inl (fun _ => 0))), (b3, .inl ((wdK κ).2.2.1, 18, .inl (fun _ => 0)))])) 0 3 rfl rfl inlX3 tyX3_ok nmX3 (by decide) wd_44 rfl rfl rfl rfl rfl (Nat.le_of_ble_eq_true rfl) rfl dX3_init_33 ?_
  refine y_aload_n 0 dX3_init_36 rfl rfl ?_
  refine y_iconst (v := 0) dX3_init_37 (by decide) ?_
  refine y_put (ws' := (a, .inr (3, [.ref (t1 0), .ref b2, .int 0, .ref b3, .int 0, .null, .int 0, .int 0, .int 0])) :: (landV (wdK κ).2.2.1 t1 ++ [(b2, .inl ((wdK κ).2.2.1, 20, .inl (fun _ => 0))), (b3, .inl ((wdK κ).2.2.1, 18, .inl (fun _ => 0)))])) 0 4 rfl rfl inlX3 tyX3_ok nmX3 (by decide) wd_45 rfl rfl rfl (Nat.le_of_ble_eq_true rfl) rfl dX3_init_38 ?_
  refine y_aload_n 0 dX3_init_41 rfl rfl ?_
  refine y_sipush (v := nI 232) dX3_init_42 (by decide) ?_
  refine y_newi (N := 232) rfl (by decide) (Nat.le_of_ble_eq_true rfl) (Nat.le_of_ble_eq_true rfl) dX3_init_45 (fun b4 => ?_)
  refine y_putF (ws' := (a, .inr (3, [.ref (t1 0), .ref b2, .int 0, .ref b3, .int 0, .ref b4, .int 0, .int 0, .int 0])) :: (landV (wdK κ).2.2.1 t1 ++ [(b2, .inl ((wdK κ).2.2.1, 20, .inl (fun _ => 0))), (b3, .inl ((wdK κ).2.2.1, 18, .inl (fun _ => 0))), (b4, .inl ((wdK κ).2.2.1, 232, .inl (fun _ => 0)))])) 0 5 rfl rfl inlX3 tyX3_ok nmX3 (by decide) wd_46 rfl rfl rfl rfl rfl (Nat.le_of_ble_eq_true rfl) rfl dX3_init_47 ?_
  refine y_aload_n 0 dX3_init_50 rfl rfl ?_
  refine y_iconst (v := 0) dX3_init_51 (by decide) ?_
  refine y_put (ws' := (a, .inr (3, [.ref (t1 0), .ref b2, .int 0, .ref b3, .int 0, .ref b4, .int 0, .int 0, .int 0])) :: (landV (wdK κ).2.2.1 t1 ++ [(b2, .inl ((wdK κ).2.2.1, 20, .inl (fun _ => 0))), (b3, .inl ((wdK κ).2.2.1, 18, .inl (fun _ => 0))), (b4, .inl ((wdK κ).2.2.1, 232, .inl (fun _ => 0)))])) 0 6 rfl rfl inlX3 tyX3_ok nmX3 (by decide) wd_47 rfl rfl rfl (Nat.le_of_ble_eq_true rfl) rfl dX3_init_52 ?_
  refine y_aload_n 0 dX3_init_55 rfl rfl ?_
  refine y_iconst (v := 0) dX3_init_56 (by decide) ?_
  refine y_put (ws' := (a, .inr (3, [.ref (t1 0), .ref b2, .int 0, .ref b3, .int 0, .ref b4, .int 0, .int 0, .int 0])) :: (landV (wdK κ).2.2.1 t1 ++ [(b2, .inl ((wdK κ).2.2.1, 20, .inl (fun _ => 0))), (b3, .inl ((wdK κ).2.2.1, 18, .inl (fun _ => 0))), (b4, .inl ((wdK κ).2.2.1, 232, .inl (fun _ => 0)))])) 0 7 rfl rfl inlX3 tyX3_ok nmX3 (by decide) wd_48 rfl rfl rfl (Nat.le_of_ble_eq_true rfl) rfl dX3_init_57 ?_
  refine y_aload_n 0 dX3_init_60 rfl rfl ?_
  refine y_iconst (v := 0) dX3_init_61 (by decide) ?_
  refine y_put (ws' := (a, .inr (3, [.ref (t1 0), .ref b2, .int 0, .ref b3, .int 0, .ref b4, .int 0, .int 0, .int 0])) :: (landV (wdK κ).2.2.1 t1 ++ [(b2, .inl ((wdK κ).2.2.1, 20, .inl (fun _ => 0))), (b3, .inl ((wdK κ).2.2.1, 18, .inl (fun _ => 0))), (b4, .inl ((wdK κ).2.2.1, 232, .inl (fun _ => 0)))])) 0 8 rfl rfl inlX3 tyX3_ok nmX3 (by decide) wd_49 rfl rfl rfl (Nat.le_of_ble_eq_true rfl) rfl dX3_init_62 ?_
  refine y_vret rfl dX3_init_65 ?_
  exact ⟨fun i => if i = 0 then a else if i < 6 then t1 (i - 1) else if i = 6 then b2 else if i = 7 then b3 else b4, rfl, rfl⟩
