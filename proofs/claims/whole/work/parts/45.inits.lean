/-! ===== the constructors ===== -/
def gAll : Nat → Int32 := fun j => if 14 ≤ j ∧ j < 34 then 1 else 0
def landV (cI : ClassId) (l : Nat → Nat) : va_W := [(l 0, .inr (0, [.int 0, .int 0, .ref (l 1), .ref (l 2), .ref (l 3), .ref (l 4), .int 0, .int 0, .int 0])), (l 1, .inl (cI, 7, .inl (fun _ => 0))), (l 2, .inl (cI, 7, .inl (fun _ => 0))), (l 3, .inl (cI, 7, .inl (fun _ => 0))), (l 4, .inl (cI, 20, .inl (fun _ => 1)))]
def stV (cI : ClassId) (s : Nat → Nat) : va_W := (s 0, .inr (3, [.ref (s 1), .ref (s 6), .int 0, .ref (s 7), .int 0, .ref (s 8), .int 0, .int 0, .int 0])) :: (landV cI (fun i => s (1 + i)) ++ [(s 6, .inl (cI, 20, .inl (fun _ => 0))), (s 7, .inl (cI, 18, .inl (fun _ => 0))), (s 8, .inl (cI, 232, .inl (fun _ => 0)))])
def rdV (cI : ClassId) (r : Nat → Nat) : va_W := (r 0, .inr (2, [.ref (r 1), .int 0, .int 0, .int 0, .int 0, .int 0, .int 0, .ref (r 2)])) :: (r 1, .inl (cI, 150, .inl (fun _ => 0))) :: landV cI (fun i => r (2 + i))
def outV (cI cL : ClassId) (f : Nat → Option Nat) (u : Nat → Nat) : va_W := (u 0, .inr (1, [.ref (u 1), .ref (u 2), .ref (u 3), .int 0, .int 0, .int 0])) :: (u 1, .inl (cL, 5, .inr (.inr (.inr (.inr f))))) :: (u 2, .inl (cI, 4, .inl (fun _ => 0))) :: (u 3, .inl (cI, 4, .inl (fun _ => 0))) :: (landV cI (fun i => u (4 + i)) ++ (landV cI (fun i => u (9 + i)) ++ (landV cI (fun i => u (14 + i)) ++ (landV cI (fun i => u (19 + i)) ++ landV cI (fun i => u (24 + i))))))
abbrev fs0 : List Value := [.int 0, .int 0, .null, .null, .null, .null, .int 0, .int 0, .int 0]
theorem df0 : ∀ j, j < 9 → defaultValue (tyX0 j) = vp_V fs0 j := fun j hj => match j, hj with
  | 0, _ => rfl
  | 1, _ => rfl
  | 2, _ => rfl
  | 3, _ => rfl
  | 4, _ => rfl
  | 5, _ => rfl
  | 6, _ => rfl
  | 7, _ => rfl
  | 8, _ => rfl
  | j + 9, h => absurd h (by omega)
abbrev fs1 : List Value := [.null, .null, .null, .int 0, .int 0, .int 0]
theorem df1 : ∀ j, j < 6 → defaultValue (tyX1 j) = vp_V fs1 j := fun j hj => match j, hj with
  | 0, _ => rfl
  | 1, _ => rfl
  | 2, _ => rfl
  | 3, _ => rfl
  | 4, _ => rfl
  | 5, _ => rfl
  | j + 6, h => absurd h (by omega)
abbrev fs2 : List Value := [.null, .int 0, .int 0, .int 0, .int 0, .int 0, .int 0, .null]
theorem df2 : ∀ j, j < 8 → defaultValue (tyX2 j) = vp_V fs2 j := fun j hj => match j, hj with
  | 0, _ => rfl
  | 1, _ => rfl
  | 2, _ => rfl
  | 3, _ => rfl
  | 4, _ => rfl
  | 5, _ => rfl
  | 6, _ => rfl
  | 7, _ => rfl
  | j + 8, h => absurd h (by omega)
abbrev fs3 : List Value := [.null, .null, .int 0, .null, .int 0, .null, .int 0, .int 0, .int 0]
theorem df3 : ∀ j, j < 9 → defaultValue (tyX3 j) = vp_V fs3 j := fun j hj => match j, hj with
  | 0, _ => rfl
  | 1, _ => rfl
  | 2, _ => rfl
  | 3, _ => rfl
  | 4, _ => rfl
  | 5, _ => rfl
  | 6, _ => rfl
  | 7, _ => rfl
  | 8, _ => rfl
  | j + 9, h => absurd h (by omega)
abbrev fs4 : List Value := [.null, .null, .null, .null, .null, .null, .null, .long 0, .long 0, .int 0, .int 0, .int 0]
theorem df4 : ∀ j, j < 12 → defaultValue (tyX4 j) = vp_V fs4 j := fun j hj => match j, hj with
  | 0, _ => rfl
  | 1, _ => rfl
  | 2, _ => rfl
  | 3, _ => rfl
  | 4, _ => rfl
  | 5, _ => rfl
  | 6, _ => rfl
  | 7, _ => rfl
  | 8, _ => rfl
  | 9, _ => rfl
  | 10, _ => rfl
  | 11, _ => rfl
  | j + 12, h => absurd h (by omega)
abbrev fs5 : List Value := [.null, .null, .null, .null, .long 0, .long 0, .int 0, .null, .null, .null, .null, .int 0, .int 0, .int 0, .int 0, .int 0, .null, .null]
theorem df5 : ∀ j, j < 18 → defaultValue (tyX5 j) = vp_V fs5 j := fun j hj => match j, hj with
  | 0, _ => rfl
  | 1, _ => rfl
  | 2, _ => rfl
  | 3, _ => rfl
  | 4, _ => rfl
  | 5, _ => rfl
  | 6, _ => rfl
  | 7, _ => rfl
  | 8, _ => rfl
  | 9, _ => rfl
  | 10, _ => rfl
  | 11, _ => rfl
  | 12, _ => rfl
  | 13, _ => rfl
  | 14, _ => rfl
  | 15, _ => rfl
  | 16, _ => rfl
  | 17, _ => rfl
  | j + 18, h => absurd h (by omega)
abbrev mX0_init : Mi := (yX0_init, cX0_init, 1, none, 1)
abbrev jX0_init : Mj := (mX0_init, 4, 41)
theorem cwX0_init : CW mX0_init 0 := ⟨wd_52, wd_40, (by decide +kernel : yX0_init.cls ≠ "java/lang/invoke/MethodHandle"), (by decide +kernel : yX0_init.cls ≠ "java/lang/invoke/VarHandle"), (by decide +kernel : (parseMethodDescriptor yX0_init.desc).map (fun d => d.parameters.length) = some 0), (by decide : 1 ≤ 21)⟩
abbrev mX1_init : Mi := (yX1_init, cX1_init, 2, none, 2)
abbrev jX1_init : Mj := (mX1_init, 28, 263)
theorem cwX1_init : CW mX1_init 0 := ⟨wd_69, wd_20, (by decide +kernel : yX1_init.cls ≠ "java/lang/invoke/MethodHandle"), (by decide +kernel : yX1_init.cls ≠ "java/lang/invoke/VarHandle"), (by decide +kernel : (parseMethodDescriptor yX1_init.desc).map (fun d => d.parameters.length) = some 0), (by decide : 2 ≤ 21)⟩
abbrev mX2_init : Mi := (yX2_init, cX2_init, 1, none, 2)
abbrev jX2_init : Mj := (mX2_init, 6, 200)
theorem cwX2_init : CW mX2_init 0 := ⟨wd_81, wd_24, (by decide +kernel : yX2_init.cls ≠ "java/lang/invoke/MethodHandle"), (by decide +kernel : yX2_init.cls ≠ "java/lang/invoke/VarHandle"), (by decide +kernel : (parseMethodDescriptor yX2_init.desc).map (fun d => d.parameters.length) = some 0), (by decide : 1 ≤ 21)⟩
abbrev mX3_init : Mi := (yX3_init, cX3_init, 1, none, 2)
abbrev jX3_init : Mj := (mX3_init, 8, 320)
theorem cwX3_init : CW mX3_init 0 := ⟨wd_36, wd_14, (by decide +kernel : yX3_init.cls ≠ "java/lang/invoke/MethodHandle"), (by decide +kernel : yX3_init.cls ≠ "java/lang/invoke/VarHandle"), (by decide +kernel : (parseMethodDescriptor yX3_init.desc).map (fun d => d.parameters.length) = some 0), (by decide : 1 ≤ 21)⟩
abbrev mX4_init : Mi := (yX4_init, cX4_init, 1, none, 3)
abbrev jX4_init : Mj := (mX4_init, 65, 1534)
theorem cwX4_init : CW mX4_init 0 := ⟨wd_8, wd_2, (by decide +kernel : yX4_init.cls ≠ "java/lang/invoke/MethodHandle"), (by decide +kernel : yX4_init.cls ≠ "java/lang/invoke/VarHandle"), (by decide +kernel : (parseMethodDescriptor yX4_init.desc).map (fun d => d.parameters.length) = some 0), (by decide : 1 ≤ 21)⟩
abbrev mX5_init : Mi := (yX5_init, cX5_init, 1, none, 1)
abbrev jX5_init : Mj := (mX5_init, 10, 1316)
theorem cwX5_init : CW mX5_init 0 := ⟨wd_95, wd_5, (by decide +kernel : yX5_init.cls ≠ "java/lang/invoke/MethodHandle"), (by decide +kernel : yX5_init.cls ≠ "java/lang/invoke/VarHandle"), (by decide +kernel : (parseMethodDescriptor yX5_init.desc).map (fun d => d.parameters.length) = some 0), (by decide : 1 ≤ 21)⟩
theorem y_rot {κ : Kx} {M : Mj} {Qf : State → Prop} {n q pc : Nat} {lv : List (Nat × Value)} {st : List Value} {x c : Nat × va_E} {R : va_W} (kk : Y κ M Qf n q pc lv st (x :: (R ++ [c]))) : Y κ M Qf n q pc lv st (x :: c :: R) := by
  obtain ⟨p, l, e, Rm, s, m, args, below, meth, cd, wd, A⟩ := κ
  intro hF ls H locs hl hP hD hS
  have hg : ∀ (k : Nat) (y : Nat × va_E), (x :: (R ++ [c]))[k]? = some y → (x :: c :: R)[if k = 0 then 0 else if k = R.length + 1 then 1 else k + 1]? = some y := by
    intro k y hy
    cases k with
    | zero => exact hy
    | succ k =>
      rw [if_neg (by omega)]
      rw [List.getElem?_cons_succ] at hy
      by_cases h : k < R.length
      · rw [if_neg (by omega), List.getElem?_cons_succ, List.getElem?_cons_succ]
        rw [List.getElem?_append_left h] at hy
        exact hy
      · rw [List.getElem?_append_right (by omega)] at hy
        have hz : k - R.length < 1 := (List.getElem?_eq_some_iff.mp hy).1
        rw [show k - R.length = 0 by omega] at hy
        rw [if_pos (by omega)]
        exact hy
  refine kk hF ls H locs hl (hP.by _ hg) (hD.by _ hg ?_) hS
  intro i j hi hj e
  simp only [List.length_cons, List.length_append, List.length_nil] at hi hj
  repeat' split at e
  all_goals omega
abbrev jFill : Mj := (mJ7_fill_53178, 0, 0)
abbrev jBegin : Mj := (mX5_begin, 0, 0)
theorem y_pick {κ : Kx} {M : Mj} {Qf : State → Prop} {n q pc : Nat} {lv lv' : List (Nat × Value)} {st : List Value} {ws : va_W} (ks : List Nat) (h : lv_pick lv ks = lv') (kk : Y κ M Qf n q pc lv' st ws) : Y κ M Qf n q pc lv st ws := by
  obtain ⟨p, l, e, R, s, m, args, below, meth, c, wd, A⟩ := κ
  intro hF ls H locs hl hP hD hS
  exact kk hF ls H locs (lv_sub hl ks h) hP hD hS
theorem kFill {wd : Wd} {a N : Nat} {f : Nat → Int32} {v : Int32} (hN : N < 2 ^ 31) : ConY wd jFill [.ref a, .int v] [(a, .inl (wd.2.2.1, N, .inl f))] (fun w => w = [(a, .inl (wd.2.2.1, N, .inl (fun _ => v)))]) := by
  refine ConY.of pnJ7 (Nat.le_of_ble_eq_true rfl) ?_
  rintro κ rfl
  refine y_iconst (v := nI 0) dJ7_fill_53178_0 ic_0 (y_istore_n (lv' := [(2, .int (nI 0)), (0, .ref a), (1, .int v)]) 2 dJ7_fill_53178_1 rfl (by decide) rfl (y_aload_n 0 dJ7_fill_53178_2 rfl rfl (y_alen 0 rfl dJ7_fill_53178_3 (y_istore_n (lv' := [(3, .int (nI N)), (2, .int (nI 0)), (0, .ref a), (1, .int v)]) 3 dJ7_fill_53178_4 rfl (by decide) rfl ?_))))
  refine y_pick (lv' := [(2, .int (nI 0)), (3, .int (nI N)), (0, .ref a), (1, .int v)]) [1, 0, 2, 3] rfl ?_
  refine cnt_loop (σ := Nat → Int32) N (fun t g => Y κ jFill (finY κ (fun w => w = [(a, .inl ((wdK κ).2.2.1, N, .inl (fun _ => v)))]) 0 0) 0 0 5 [(2, .int (nI t)), (3, .int (nI N)), (0, .ref a), (1, .int v)] [] [(a, .inl ((wdK κ).2.2.1, N, .inl g))]) (fun t g => ∀ j, j < t → g j = v) ?_ ?_ 0 f (Nat.zero_le _) (fun j hj => absurd hj (Nat.not_lt_zero j))
  · intro g hg
    exact y_iload_n 2 dJ7_fill_53178_5 rfl rfl (y_iload_n 3 dJ7_fill_53178_6 rfl rfl (y_icmp_ge (tgt := 20) dJ7_fill_53178_7 rfl (fun _ => y_row (ws' := [(a, .inl ((wdK κ).2.2.1, N, .inl (fun _ => v)))]) 0 rfl hg rfl (y_vret rfl dJ7_fill_53178_20 rfl)) (fun h => absurd (nge hN (Nat.le_refl _)) h)))
  · intro t g ht hg ih
    refine y_iload_n 2 dJ7_fill_53178_5 rfl rfl (y_iload_n 3 dJ7_fill_53178_6 rfl rfl (y_icmp_ge (tgt := 20) dJ7_fill_53178_7 rfl (fun h => absurd h (nnge hN ht)) (fun _ => y_aload_n 0 dJ7_fill_53178_10 rfl rfl (y_iload_n 2 dJ7_fill_53178_11 rfl rfl (y_iload_n 1 dJ7_fill_53178_12 rfl rfl (y_iast 0 rfl (vin ht hN) dJ7_fill_53178_13 (y_iinc (v := nI (t + 1)) (lv' := [(2, .int (nI (t + 1))), (3, .int (nI N)), (0, .ref a), (1, .int v)]) 0 dJ7_fill_53178_14 rfl (by rw [ic_1, nI_add t 1]) (by decide) rfl (y_goto (tgt := 5) dJ7_fill_53178_17 rfl (ih _ ?_)))))))))
    intro j hj
    rw [cl (n := t) (by omega)]
    unfold upd
    split
    · rfl
    · exact hg j (by omega)
theorem kBegin {wd : Wd} {a : Nat} : ConY wd jBegin [.ref a, .int 0] [(a, .inl (wd.2.2.1, 318, .inl (fun _ => 0)))] (fun w => w = [(a, .inl (wd.2.2.1, 318, .inl gAll))]) := by
  refine ConY.of pnX5 (Nat.le_of_ble_eq_true rfl) ?_
  rintro κ rfl
  have second : ∀ g : Nat → Int32, (∀ j, g j = 0) → Y κ jBegin (finY κ (fun w => w = [(a, .inl ((wdK κ).2.2.1, 318, .inl gAll))]) 0 0) 0 0 18 [(2, .int (nI 86)), (0, .ref a), (1, .int 0)] [] [(a, .inl ((wdK κ).2.2.1, 318, .inl g))] := by
    intro g0 hg0
    refine y_iconst (v := nI 0) dX5_begin_18 ic_0 (y_istore_n (lv' := [(2, .int (nI 0)), (0, .ref a), (1, .int 0)]) 2 dX5_begin_19 rfl (by decide) rfl ?_)
    refine cnt_loop (σ := Nat → Int32) 20 (fun t g => Y κ jBegin (finY κ (fun w => w = [(a, .inl ((wdK κ).2.2.1, 318, .inl gAll))]) 0 0) 0 0 20 [(2, .int (nI t)), (0, .ref a), (1, .int 0)] [] [(a, .inl ((wdK κ).2.2.1, 318, .inl g))]) (fun t g => ∀ j, g j = if 14 ≤ j ∧ j < 14 + t then 1 else 0) ?_ ?_ 0 g0 (Nat.zero_le _) (fun j => by rw [hg0, if_neg (by omega)])
    · intro g hg
      refine y_iload_n 2 dX5_begin_20 rfl rfl (y_bipush (v := nI 20) dX5_begin_21 (by decide) (y_icmp_ge (tgt := 39) dX5_begin_23 rfl (fun _ => y_aload_n 0 dX5_begin_39 rfl rfl (y_iconst (v := nI 4) dX5_begin_40 ic_4 (y_iload_n 1 dX5_begin_41 rfl rfl (y_iast 0 rfl (vin (by decide) (by decide)) dX5_begin_42 (y_row (g := gAll) (ws' := [(a, .inl ((wdK κ).2.2.1, 318, .inl gAll))]) 0 rfl ?_ rfl (y_vret rfl dX5_begin_43 rfl)))))) (fun h => absurd (nge (by decide) (Nat.le_refl _)) h)))
      intro j hj
      rw [cl (n := 4) (by decide)]
      unfold upd gAll
      split
      · next e => subst e; rfl
      · exact hg j
    · intro t g ht hg ih
      refine y_iload_n 2 dX5_begin_20 rfl rfl (y_bipush (v := nI 20) dX5_begin_21 (by decide) (y_icmp_ge (tgt := 39) dX5_begin_23 rfl (fun h => absurd h (nnge (by decide) ht)) (fun _ => y_aload_n 0 dX5_begin_26 rfl rfl (y_bipush (v := nI 14) dX5_begin_27 (by decide) (y_iload_n 2 dX5_begin_29 rfl rfl (y_iadd dX5_begin_30 (y_iconst (v := 1) dX5_begin_31 (by decide) ?_)))))))
      rw [nI_add 14 t]
      refine y_iast 0 rfl (vin (by omega) (by decide)) dX5_begin_32 (y_iinc (v := nI (t + 1)) (lv' := [(2, .int (nI (t + 1))), (0, .ref a), (1, .int 0)]) 0 dX5_begin_33 rfl (by rw [ic_1, nI_add t 1]) (by decide) rfl (y_goto (tgt := 20) dX5_begin_36 rfl (ih _ ?_)))
      intro j
      rw [cl (n := 14 + t) (by omega)]
      unfold upd
      split
      · next e => subst e; rw [if_pos (by omega)]
      · rw [hg j]
        by_cases c : 14 ≤ j ∧ j < 14 + t
        · rw [if_pos c, if_pos (by omega)]
        · rw [if_neg c, if_neg (by omega)]
  refine y_iconst (v := nI 0) dX5_begin_0 ic_0 (y_istore_n (lv' := [(2, .int (nI 0)), (0, .ref a), (1, .int 0)]) 2 dX5_begin_1 rfl (by decide) rfl ?_)
  refine cnt_loop (σ := Nat → Int32) 86 (fun t g => Y κ jBegin (finY κ (fun w => w = [(a, .inl ((wdK κ).2.2.1, 318, .inl gAll))]) 0 0) 0 0 2 [(2, .int (nI t)), (0, .ref a), (1, .int 0)] [] [(a, .inl ((wdK κ).2.2.1, 318, .inl g))]) (fun t g => ∀ j, g j = 0) ?_ ?_ 0 (fun _ => 0) (Nat.zero_le _) (fun j => rfl)
  · intro g hg
    exact y_iload_n 2 dX5_begin_2 rfl rfl (y_bipush (v := nI 86) dX5_begin_3 (by decide) (y_icmp_ge (tgt := 18) dX5_begin_5 rfl (fun _ => second g hg) (fun h => absurd (nge (by decide) (Nat.le_refl _)) h)))
  · intro t g ht hg ih
    refine y_iload_n 2 dX5_begin_2 rfl rfl (y_bipush (v := nI 86) dX5_begin_3 (by decide) (y_icmp_ge (tgt := 18) dX5_begin_5 rfl (fun h => absurd h (nnge (by decide) ht)) (fun _ => y_aload_n 0 dX5_begin_8 rfl rfl (y_iload_n 2 dX5_begin_9 rfl rfl (y_iconst (v := 0) dX5_begin_10 (by decide) (y_iast 0 rfl (vin (by omega) (by decide)) dX5_begin_11 (y_iinc (v := nI (t + 1)) (lv' := [(2, .int (nI (t + 1))), (0, .ref a), (1, .int 0)]) 0 dX5_begin_12 rfl (by rw [ic_1, nI_add t 1]) (by decide) rfl (y_goto (tgt := 2) dX5_begin_15 rfl (ih _ ?_)))))))))
    intro j
    unfold upd
    split
    · rfl
    · exact hg j
def moV (cI cZ : ClassId) (g : Nat → Nat) : va_W := [(g 0, .inr (5, [.ref (g 1), .ref (g 2), .ref (g 3), .ref (g 4), .long 0, .long 1, .int 0, .ref (g 5), .ref (g 6), .ref (g 7), .ref (g 8), .int 0, .int 0, .int 0, .int 0, .int 0, .ref (g 9), .ref (g 10)])), (g 2, .inl (cI, 636, .inl (fun _ => 0))), (g 3, .inl (cZ, 2, .inl (fun _ => 0))), (g 4, .inl (cI, 3, .inl (fun _ => 0))), (g 5, .inl (cI, 48, .inl (fun _ => 0))), (g 6, .inl (cI, 6, .inl (fun _ => 0))), (g 7, .inl (cI, 64, .inl (fun _ => 0))), (g 8, .inl (cI, 150, .inl (fun _ => 0))), (g 9, .inl (cI, 86, .inl (fun _ => 0))), (g 10, .inl (cI, 3, .inl (fun _ => 0))), (g 1, .inl (cI, 318, .inl gAll))]
def slV (cI cL : ClassId) (f : Nat → Option Nat) (a : Nat) (s1 s2 s3 u r : Nat → Nat) (a1 a2 : Nat) : va_W := (a, .inr (4, [.ref (s1 0), .ref (s2 0), .ref (s3 0), .ref (u 0), .ref (r 0), .ref a1, .ref a2, .long 0, .long 1, .int 0, .int 0, .int 0])) :: ((((((stV cI s1 ++ stV cI s2) ++ stV cI s3) ++ outV cI cL f u) ++ rdV cI r) ++ [(a1, .inl (cI, 6, .inl (fun _ => 0)))]) ++ [(a2, .inl (cI, 64, .inl (fun _ => 0)))])
