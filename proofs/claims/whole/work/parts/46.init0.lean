set_option maxRecDepth 20000 in
set_option maxHeartbeats 1000000 in
theorem kX0_init {wd : Wd} {a : Nat} : ConY wd jX0_init [.ref a] [(a, .inr (0, fs0))] (fun w => ∃ l : Nat → Nat, l 0 = a ∧ w = landV wd.2.2.1 l) := by
  refine ConY.of pnX0 (Nat.le_of_ble_eq_true rfl) ?_
  rintro κ rfl
  show Y κ jX0_init _ 0 0 0 [(0, .ref a)] [] ((a, .inr (0, [.int 0, .int 0, .null, .null, .null, .null, .int 0, .int 0, .int 0])) :: ([] : va_W))
  refine y_aload_n 0 dX0_init_0 rfl rfl ?_
  refine y_obj wd_53 (by decide) (by decide) dX0_init_1 ?_
  refine y_aload_n 0 dX0_init_4 rfl rfl ?_
  refine y_iconst (v := 0) dX0_init_5 (by decide) ?_
  refine y_put (ws' := (a, .inr (0, [.int 0, .int 0, .null, .null, .null, .null, .int 0, .int 0, .int 0])) :: ([] : va_W)) 0 0 rfl rfl inlX0 tyX0_ok nmX0 (by decide) wd_54 rfl rfl rfl (Nat.le_of_ble_eq_true rfl) rfl dX0_init_6 ?_
  refine y_aload_n 0 dX0_init_9 rfl rfl ?_
  refine y_iconst (v := 0) dX0_init_10 (by decide) ?_
  refine y_put (ws' := (a, .inr (0, [.int 0, .int 0, .null, .null, .null, .null, .int 0, .int 0, .int 0])) :: ([] : va_W)) 0 1 rfl rfl inlX0 tyX0_ok nmX0 (by decide) wd_55 rfl rfl rfl (Nat.le_of_ble_eq_true rfl) rfl dX0_init_11 ?_
  refine y_aload_n 0 dX0_init_14 rfl rfl ?_
  refine y_bipush (v := nI 7) dX0_init_15 (by decide) ?_
  refine y_newi (N := 7) rfl (by decide) (Nat.le_of_ble_eq_true rfl) (Nat.le_of_ble_eq_true rfl) dX0_init_17 (fun b0 => ?_)
  refine y_putF (ws' := (a, .inr (0, [.int 0, .int 0, .ref b0, .null, .null, .null, .int 0, .int 0, .int 0])) :: [(b0, .inl ((wdK κ).2.2.1, 7, .inl (fun _ => 0)))]) 0 2 rfl rfl inlX0 tyX0_ok nmX0 (by decide) wd_56 rfl rfl rfl rfl rfl (Nat.le_of_ble_eq_true rfl) rfl dX0_init_19 ?_
  refine y_aload_n 0 dX0_init_22 rfl rfl ?_
  refine y_bipush (v := nI 7) dX0_init_23 (by decide) ?_
  refine y_newi (N := 7) rfl (by decide) (Nat.le_of_ble_eq_true rfl) (Nat.le_of_ble_eq_true rfl) dX0_init_25 (fun b1 => ?_)
  refine y_putF (ws' := (a, .inr (0, [.int 0, .int 0, .ref b0, .ref b1, .null, .null, .int 0, .int 0, .int 0])) :: [(b0, .inl ((wdK κ).2.2.1, 7, .inl (fun _ => 0))), (b1, .inl ((wdK κ).2.2.1, 7, .inl (fun _ => 0)))]) 0 3 rfl rfl inlX0 tyX0_ok nmX0 (by decide) wd_57 rfl rfl rfl rfl rfl (Nat.le_of_ble_eq_true rfl) rfl dX0_init_27 ?_
  refine y_aload_n 0 dX0_init_30 rfl rfl ?_
  refine y_bipush (v := nI 7) dX0_init_31 (by decide) ?_
  refine y_newi (N := 7) rfl (by decide) (Nat.le_of_ble_eq_true rfl) (Nat.le_of_ble_eq_true rfl) dX0_init_33 (fun b2 => ?_)
  refine y_putF (ws' := (a, .inr (0, [.int 0, .int 0, .ref b0, .ref b1, .ref b2, .null, .int 0, .int 0, .int 0])) :: [(b0, .inl ((wdK κ).2.2.1, 7, .inl (fun _ => 0))), (b1, .inl ((wdK κ).2.2.1, 7, .inl (fun _ => 0))), (b2, .inl ((wdK κ).2.2.1, 7, .inl (fun _ => 0)))]) 0 4 rfl rfl inlX0 tyX0_ok nmX0 (by decide) wd_58 rfl rfl rfl rfl rfl (Nat.le_of_ble_eq_true rfl) rfl dX0_init_35 ?_
  refine y_aload_n 0 dX0_init_38 rfl rfl ?_
  refine y_bipush (v := nI 20) dX0_init_39 (by decide) ?_
  refine y_newi (N := 20) rfl (by decide) (Nat.le_of_ble_eq_true rfl) (Nat.le_of_ble_eq_true rfl) dX0_init_41 (fun b3 => ?_)
  refine y_putF (ws' := (a, .inr (0, [.int 0, .int 0, .ref b0, .ref b1, .ref b2, .ref b3, .int 0, .int 0, .int 0])) :: [(b0, .inl ((wdK κ).2.2.1, 7, .inl (fun _ => 0))), (b1, .inl ((wdK κ).2.2.1, 7, .inl (fun _ => 0))), (b2, .inl ((wdK κ).2.2.1, 7, .inl (fun _ => 0))), (b3, .inl ((wdK κ).2.2.1, 20, .inl (fun _ => 0)))]) 0 5 rfl rfl inlX0 tyX0_ok nmX0 (by decide) wd_59 rfl rfl rfl rfl rfl (Nat.le_of_ble_eq_true rfl) rfl dX0_init_43 ?_
  refine y_aload_n 0 dX0_init_46 rfl rfl ?_
  refine y_iconst (v := 0) dX0_init_47 (by decide) ?_
  refine y_put (ws' := (a, .inr (0, [.int 0, .int 0, .ref b0, .ref b1, .ref b2, .ref b3, .int 0, .int 0, .int 0])) :: [(b0, .inl ((wdK κ).2.2.1, 7, .inl (fun _ => 0))), (b1, .inl ((wdK κ).2.2.1, 7, .inl (fun _ => 0))), (b2, .inl ((wdK κ).2.2.1, 7, .inl (fun _ => 0))), (b3, .inl ((wdK κ).2.2.1, 20, .inl (fun _ => 0)))]) 0 6 rfl rfl inlX0 tyX0_ok nmX0 (by decide) wd_60 rfl rfl rfl (Nat.le_of_ble_eq_true rfl) rfl dX0_init_48 ?_
  refine y_aload_n 0 dX0_init_51 rfl rfl ?_
  refine y_iconst (v := 0) dX0_init_52 (by decide) ?_
  refine y_put (ws' := (a, .inr (0, [.int 0, .int 0, .ref b0, .ref b1, .ref b2, .ref b3, .int 0, .int 0, .int 0])) :: [(b0, .inl ((wdK κ).2.2.1, 7, .inl (fun _ => 0))), (b1, .inl ((wdK κ).2.2.1, 7, .inl (fun _ => 0))), (b2, .inl ((wdK κ).2.2.1, 7, .inl (fun _ => 0))), (b3, .inl ((wdK κ).2.2.1, 20, .inl (fun _ => 0)))]) 0 7 rfl rfl inlX0 tyX0_ok nmX0 (by decide) wd_61 rfl rfl rfl (Nat.le_of_ble_eq_true rfl) rfl dX0_init_53 ?_
  refine y_aload_n 0 dX0_init_56 rfl rfl ?_
  refine y_iconst (v := 0) dX0_init_57 (by decide) ?_
  refine y_put (ws' := (a, .inr (0, [.int 0, .int 0, .ref b0, .ref b1, .ref b2, .ref b3, .int 0, .int 0, .int 0])) :: [(b0, .inl ((wdK κ).2.2.1, 7, .inl (fun _ => 0))), (b1, .inl ((wdK κ).2.2.1, 7, .inl (fun _ => 0))), (b2, .inl ((wdK κ).2.2.1, 7, .inl (fun _ => 0))), (b3, .inl ((wdK κ).2.2.1, 20, .inl (fun _ => 0)))]) 0 8 rfl rfl inlX0 tyX0_ok nmX0 (by decide) wd_62 rfl rfl rfl (Nat.le_of_ble_eq_true rfl) rfl dX0_init_58 ?_
  refine y_aload_n 0 dX0_init_61 rfl rfl ?_
  refine y_get 0 5 rfl rfl inlX0 (by decide) wd_59 rfl dX0_init_62 ?_
  refine y_iconst (v := 1) dX0_init_65 (by decide) ?_
  refine y_callS (M := jX0_init) (M' := jFill) (as := [.ref b3, .int 1]) (st := []) (w0 := (a, .inr (0, [.int 0, .int 0, .ref b0, .ref b1, .ref b2, .ref b3, .int 0, .int 0, .int 0])) :: [(b0, .inl ((wdK κ).2.2.1, 7, .inl (fun _ => 0))), (b1, .inl ((wdK κ).2.2.1, 7, .inl (fun _ => 0))), (b2, .inl ((wdK κ).2.2.1, 7, .inl (fun _ => 0)))]) (wc := [(b3, .inl ((wdK κ).2.2.1, 20, .inl (fun _ => 0)))]) (kFill (by decide)) cwJ7_fill_53178 wd_64 wd_63 rfl (Nat.le_of_ble_eq_true rfl) (by decide) (Nat.le_of_ble_eq_true rfl) (Nat.le_of_ble_eq_true rfl) dX0_init_66 rfl ?_
  rintro _ rfl
  refine y_vret rfl dX0_init_69 ?_
  exact ⟨fun i => if i = 0 then a else if i = 1 then b0 else if i = 2 then b1 else if i = 3 then b2 else b3, rfl, rfl⟩
