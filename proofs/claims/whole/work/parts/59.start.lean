/-! ===== THE LAW, from its entry ===== -/
set_option maxHeartbeats 4000000 in
set_option maxRecDepth 20000 in
theorem whole_start {p : Program} {e : Env} {s : State} {m : MethodId} {below : List Frame} {meth : Method} {c : Code} (l : Launch) {b L : Nat} {xs : Nat → Int32} (hL : L ≤ 2560) (C0 : lw_At p s m meth c b L xs) : W p l e room_1 s m #[Value.ref b] below meth c s.heap [] 0 0 (lw_Z below #[Value.ref b] s) (entryFrame m ([Value.ref b] : List Value).toArray 4) := by
  obtain ⟨hx, hb, hr, hml, hown, hts, hX, hbl, hlocks, hgv⟩ := id C0
  have hA : ∀ q : Nat, s.heap.size ≤ q → (fun q : Nat => s.heap.size ≤ q) q := fun _ h => h
  have hnA : ∀ a : Nat, a < s.heap.size → ¬ (fun q : Nat => s.heap.size ≤ q) a := fun a h => Nat.not_le.mpr h
  have htw : ∀ w ∈ TBL, w.before #[Value.ref b] s = true := fun w hw => hts w (wsL_law_in w hw)
  obtain ⟨D, cI, cZ, cL, hK⟩ := start_K hts
  obtain ⟨kK, kV, t0, hStr⟩ := start_str (A := fun q : Nat => s.heap.size ≤ q) hts hgv hnA
  have hN := start_nest hts
  have hAO : va_AO RX0 s := va_AO.of (hts _ tb_123)
  have hl := lv_entry ([.ref b]) (n := 4) (Nat.le_of_ble_eq_true rfl)
  rw [lg_entry_eq]
  have key : Y (p, l, e, room_1, s, m, #[Value.ref b], below, meth, c, ((fun _ => 0, D, cI, cZ, cL) : Wd), (fun q : Nat => s.heap.size ≤ q)) ((⟨RL, meth.name, ""⟩, code, 4, ret, 2000), 77, 2880) (lw_Z below #[Value.ref b] s) 0 0 0 [(0, .ref b)] [] [] := by
    refine y_new (fs := fs4) (ty := tyX4) (ci := 4) rfl inlX4 tyX4_ok wd_0 wd_1 wd_2 df4 (Nat.le_of_ble_eq_true rfl) (Nat.le_of_ble_eq_true rfl) dL_law_0 (fun a => ?_)
    refine y_dup dL_law_3 rfl ?_
    refine y_init (n := 1) (q := 12) (st := [.ref a]) (M' := jX4_init) (w0 := []) (wc := [(a, .inr (4, fs4))]) (kX4_init (a := a)) cwX4_init rfl rfl wd_7 wd_6 (Nat.le_of_ble_eq_true rfl) (Nat.le_of_ble_eq_true rfl) (Nat.le_of_ble_eq_true rfl) (Nat.le_of_ble_eq_true rfl) dL_law_4 ?_
    rintro _ ⟨s1, s2, s3, u, r, f, a1, a2, hf, rfl⟩
    refine y_astore_n (lv' := [(1, .ref a), (0, .ref b)]) 1 dL_law_7 rfl (Nat.le_of_ble_eq_true rfl) rfl ?_
    refine y_new (fs := fs5) (ty := tyX5) (ci := 5) rfl inlX5 tyX5_ok wd_3 wd_4 wd_5 df5 (Nat.le_of_ble_eq_true rfl) (Nat.le_of_ble_eq_true rfl) dL_law_8 (fun g0 => ?_)
    refine y_dup dL_law_11 rfl ?_
    refine y_init (n := 67) (q := 1564) (st := [.ref g0]) (M' := jX5_init) (w0 := [] ++ slV cI cL f a s1 s2 s3 u r a1 a2) (wc := [(g0, .inr (5, fs5))]) (kX5_init (a := g0)) cwX5_init rfl rfl wd_94 wd_93 (Nat.le_of_ble_eq_true rfl) (Nat.le_of_ble_eq_true rfl) (Nat.le_of_ble_eq_true rfl) (Nat.le_of_ble_eq_true rfl) dL_law_12 ?_
    rintro _ ⟨g, hg, rfl⟩
    subst hg
    refine y_astore_n (lv' := [(2, .ref (g 0)), (1, .ref a), (0, .ref b)]) 2 dL_law_15 rfl (Nat.le_of_ble_eq_true rfl) rfl ?_
    refine y_iconst (v := nI 0) dL_law_16 ic_0 ?_
    refine y_istore_n (lv' := [(3, .int (nI 0)), (2, .ref (g 0)), (1, .ref a), (0, .ref b)]) 3 dL_law_17 rfl (Nat.le_of_ble_eq_true rfl) rfl ?_
    intro hF ls H locs hl hP hD hS
    have hP2 := world_P (kK := kK) (kV := kV) (t0 := t0) (b := b) hf hP
    have hD2 := world_D (D := D) (kK := kK) (kV := kV) (t0 := t0) (b := b) hD
    have hSt : sStr (adW a a1 a2 s1 s2 s3 u r g kK kV t0 b, D, cI, cZ, cL) (fun q : Nat => s.heap.size ≤ q) s s.heap := by
      refine hStr _ (fun i hi => ?_) (fun i hi => ?_) rfl
      · rcases (show i = 0 ∨ i = 1 ∨ i = 2 ∨ i = 3 by omega) with rfl | rfl | rfl | rfl <;> rfl
      · rcases (show i = 0 ∨ i = 1 ∨ i = 2 ∨ i = 3 by omega) with rfl | rfl | rfl | rfl <;> rfl
    refine law_loop (κ := (p, l, e, room_1, s, m, #[Value.ref b], below, meth, c, ((adW a a1 a2 s1 s2 s3 u r g kK kV t0 b, D, cI, cZ, cL) : Wd), (fun q : Nat => s.heap.size ≤ q))) (xs := xs) (μ := mu0) (s := st0) ⟨hX, hbl, hnA b hbl⟩ hL rxF0 rmF0 okF0 ?_ ⟨hx, hb, hml, hown, htw, hr, hlocks, hK _, hA, hSt, hN, Nat.le_of_ble_eq_true rfl, Nat.le_of_ble_eq_true rfl, Nat.le_of_ble_eq_true rfl, Nat.le_of_ble_eq_true rfl⟩ ls H locs hl hP2 hD2 hS
    intro lv μ'
    refine v_iconst (v := 1) dL_law_1111 (by decide) ?_
    intro hF ls H locs hl hP hD hS
    refine va_forget (fun q hq => hS.2.2 q hq) ?_
    refine W.widen (k := 600000) (n := 7302249) (Nat.le_of_ble_eq_true rfl) (Nat.le_of_ble_eq_true rfl) ?_
    exact lw_ret hx hb hr hlocks dL_law_1112
  exact key ⟨hx, hb, hml, hown, htw, hr, hlocks, hK _, hA, hAO, Nat.le_of_ble_eq_true rfl, Nat.le_of_ble_eq_true rfl, Nat.le_of_ble_eq_true rfl, Nat.le_of_ble_eq_true rfl, rfl⟩ _ s.heap [] hl (fun k q h => by simp at h) ⟨fun i j p q h => by simp at h, fun k q h => by simp at h⟩ va_S.rf
