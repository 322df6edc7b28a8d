set_option maxRecDepth 20000 in
set_option maxHeartbeats 1000000 in
theorem kX2_init {wd : Wd} {a : Nat} : ConY wd jX2_init [.ref a] [(a, .inr (2, fs2))] (fun w => ∃ r : Nat → Nat, r 0 = a ∧ w = rdV wd.2.2.1 r) := by
  refine ConY.of pnX2 (Nat.le_of_ble_eq_true rfl) ?_
  rintro κ rfl
  show Y κ jX2_init _ 0 0 0 [(0, .ref a)] [] ((a, .inr (2, [.null, .int 0, .int 0, .int 0, .int 0, .int 0, .int 0, .null])) :: ([] : va_W))
  refine y_aload_n 0 dX2_init_0 rfl rfl ?_
  refine y_obj wd_82 (by decide) (by decide) dX2_init_1 ?_
  refine y_aload_n 0 dX2_init_4 rfl rfl ?_
  refine y_sipush (v := nI 150) dX2_init_5 (by decide) ?_
  refine y_newi (N := 150) rfl (by decide) (Nat.le_of_ble_eq_true rfl) (Nat.le_of_ble_eq_true rfl) dX2_init_8 (fun b0 => ?_)
  refine y_putF (ws' := (a, .inr (2, [.ref b0, .int 0, .int 0, .int 0, .int 0, .int 0, .int 0, .null])) :: [(b0, .inl ((wdK κ).2.2.1, 150, .inl (fun _ => 0)))]) 0 0 rfl rfl inlX2 tyX2_ok nmX2 (by decide) wd_83 rfl rfl rfl rfl rfl (Nat.le_of_ble_eq_true rfl) rfl dX2_init_10 ?_
  refine y_aload_n 0 dX2_init_13 rfl rfl ?_
  refine y_iconst (v := 0) dX2_init_14 (by decide) ?_
  refine y_put (ws' := (a, .inr (2, [.ref b0, .int 0, .int 0, .int 0, .int 0, .int 0, .int 0, .null])) :: [(b0, .inl ((wdK κ).2.2.1, 150, .inl (fun _ => 0)))]) 0 1 rfl rfl inlX2 tyX2_ok nmX2 (by decide) wd_84 rfl rfl rfl (Nat.le_of_ble_eq_true rfl) rfl dX2_init_15 ?_
  refine y_aload_n 0 dX2_init_18 rfl rfl ?_
  refine y_iconst (v := 0) dX2_init_19 (by decide) ?_
  refine y_put (ws' := (a, .inr (2, [.ref b0, .int 0, .int 0, .int 0, .int 0, .int 0, .int 0, .null])) :: [(b0, .inl ((wdK κ).2.2.1, 150, .inl (fun _ => 0)))]) 0 2 rfl rfl inlX2 tyX2_ok nmX2 (by decide) wd_85 rfl rfl rfl (Nat.le_of_ble_eq_true rfl) rfl dX2_init_20 ?_
  refine y_aload_n 0 dX2_init_23 rfl rfl ?_
  refine y_iconst (v := 0) dX2_init_24 (by decide) ?_
  refine y_put (ws' := (a, .inr (2, [.ref b0, .int 0, .int 0, .int 0, .int 0, .int 0, .int 0, .null])) :: [(b0, .inl ((wdK κ).2.2.1, 150, .inl (fun _ => 0)))]) 0 3 rfl rfl inlX2 tyX2_ok nmX2 (by decide) wd_86 rfl rfl rfl (Nat.le_of_ble_eq_true rfl) rfl dX2_init_25 ?_
  refine y_aload_n 0 dX2_init_28 rfl rfl ?_
  refine y_iconst (v := 0) dX2_init_29 (by decide) ?_
  refine y_put (ws' := (a, .inr (2, [.ref b0, .int 0, .int 0, .int 0, .int 0, .int 0, .int 0, .null])) :: [(b0, .inl ((wdK κ).2.2.1, 150, .inl (fun _ => 0)))]) 0 4 rfl rfl inlX2 tyX2_ok nmX2 (by decide) wd_87 rfl rfl rfl (Nat.le_of_ble_eq_true rfl) rfl dX2_init_30 ?_
  refine y_aload_n 0 dX2_init_33 rfl rfl ?_
  refine y_iconst (v := 0) dX2_init_34 (by decide) ?_
  refine y_put (ws' := (a, .inr (2, [.ref b0, .int 0, .int 0, .int 0, .int 0, .int 0, .int 0, .null])) :: [(b0, .inl ((wdK κ).2.2.1, 150, .inl (fun _ => 0)))]) 0 5 rfl rfl inlX2 tyX2_ok nmX2 (by decide) wd_88 rfl rfl rfl (Nat.le_of_ble_eq_true rfl) rfl dX2_init_35 ?_
  refine y_aload_n 0 dX2_init_38 rfl rfl ?_
  refine y_iconst (v := 0) dX2_init_39 (by decide) ?_
  refine y_put (ws' := (a, .inr (2, [.ref b0, .int 0, .int 0, .int 0, .int 0, .int 0, .int 0, .null])) :: [(b0, .inl ((wdK κ).2.2.1, 150, .inl (fun _ => 0)))]) 0 6 rfl rfl inlX2 tyX2_ok nmX2 (by decide) wd_89 rfl rfl rfl (Nat.le_of_ble_eq_true rfl) rfl dX2_init_40 ?_
  refine y_aload_n 0 dX2_init_43 rfl rfl ?_
  refine y_new (fs := fs0) (ty := tyX0) (ci := 0) rfl inlX0 tyX0_ok wd_90 wd_39 wd_40 df0 (Nat.le_of_ble_eq_true rfl) (Nat.le_of_ble_eq_true rfl) dX2_init_44 (fun b1 => ?_)
  refine y_dup dX2_init_47 rfl ?_
  refine y_init (n := 2) (q := 159) (M := jX2_init) (st := [.ref b1, .ref a]) (M' := jX0_init) (w0 := (a, .inr (2, [.ref b0, .int 0, .int 0, .int 0, .int 0, .int 0, .int 0, .null])) :: [(b0, .inl ((wdK κ).2.2.1, 150, .inl (fun _ => 0)))]) (wc := [(b1, .inr (0, fs0))]) (kX0_init (a := b1)) cwX0_init rfl rfl wd_51 wd_92 (Nat.le_of_ble_eq_true rfl) (Nat.le_of_ble_eq_true rfl) (Nat.le_of_ble_eq_true rfl) (Nat.le_of_ble_eq_true rfl) dX2_init_48 ?_
  rintro _ ⟨t2, t2h, rfl⟩
  subst t2h
  refine y_putF (ws' := (a, .inr (2, [.ref b0, .int 0, .int 0, .int 0, .int 0, .int 0, .int 0, .ref (t2 0)])) :: ([(b0, .inl ((wdK κ).2.2.1, 150, .inl (fun _ => 0)))] ++ landV (wdK κ).2.2.1 t2)) 0 7 rfl rfl inlX2 tyX2_ok nmX2 (by decide) wd_91 rfl rfl rfl rfl rfl (Nat.le_of_ble_eq_true rfl) rfl dX2_init_51 ?_
  refine y_vret rfl dX2_init_54 ?_
  exact ⟨fun i => if i = 0 then a else if i = 1 then b0 else t2 (i - 2), rfl, rfl⟩
