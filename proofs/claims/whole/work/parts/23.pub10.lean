/-! ===== the reference's clearest look; which, kinds, next, look ===== -/
def lw (x : Nat) : Nat := if x = 7 then 1000000 else x
theorem lw_6 {m : Nat} (h : m ≤ 6) : lw m = m := by unfold lw; rw [if_neg (by omega)]
theorem lw_le {x m : Nat} (h : m ≤ 6) (hx : x ≤ 7) : lw x ≤ m ↔ x ≤ m := by unfold lw; split <;> omega
theorem lw_m {x : Nat} (h : x ≤ 7) : lw x ≤ 1000000 := by unfold lw; split <;> omega
theorem kX5_best {μ : Mm} (b : Bool) (a4 : Int32) (hb : a4 = 0 ↔ b = true) (f : Nat → Bool) {P w D : Nat} (hP : (P + 1) * w = 60) (hP2 : P < 60) (hD : D < 20) : Con mX5_bestLook [.ref 66, .int (fbs f 6), .int (nI w), .int (nI (D + 1)), .int a4] μ (fun r μ' => r = some (.int (lkA b f w (D + 1) (P + 1))) ∧ Eqx [72] μ μ') := by
  refine Con.of pnX5 (Nat.le_of_ble_eq_true rfl) (fun κ => wX5_bestLook_0 _ _ _ _ μ ?_)
  by_cases e0 : fbs f 6 = 0
  · refine wX5_bestLook_10 _ _ _ _ _ _ _ μ ⟨fun z => absurd z (nnge (by decide) (by decide)), fun _ => ⟨fun _ => ⟨?_, Eqx.rf⟩, fun z => absurd (by rw [e0]; decide) z⟩⟩
    unfold lkA; rw [if_pos e0]
  have hm : ∀ x t, mAl b f x t ≤ 6 := fun x t => mx_6
  have h0w : 0 < w := by
    cases w with
    | zero => rw [Nat.mul_zero] at hP; omega
    | succ w => omega
  rw [show nI 0 = nI (0 * w) by rw [Nat.zero_mul]]
  refine cnt_loop (P + 1) (fun p μ1 => Vq κ (fun r μ' => r = some (.int (lkA b f w (D + 1) (P + 1))) ∧ Eqx [72] μ μ') mX5_bestLook 10 [(0, .ref 66), (1, .int (fbs f 6)), (2, .int (nI w)), (3, .int (nI (D + 1))), (4, .int a4), (5, .int (lkP (mAl b f) w (D + 1) p).1), (6, .int (nI (lw (lkP (mAl b f) w (D + 1) p).2))), (7, .int (nI (p * w)))] [] μ1) (fun _ μ1 => Eqx [72] μ μ1) ?_ ?_ 0 μ (Nat.zero_le _) Eqx.rf
  · intro μ1 hE
    refine wX5_bestLook_10 _ _ _ _ _ _ _ μ1 ⟨fun _ => ⟨?_, hE⟩, fun z => absurd (by rw [hP]; exact nge (by omega) (Nat.le_refl _)) z⟩
    unfold lkA; rw [if_neg e0]
  · intro p μ1 hp hE ih
    have h2 : (p + 1) * w = p * w + w := Nat.succ_mul p w
    have hpw : p * w < 60 := by
      have : (p + 1) * w ≤ (P + 1) * w := Nat.mul_le_mul_right w (by omega)
      omega
    refine wX5_bestLook_10 _ _ _ _ _ _ _ μ1 ⟨fun z => absurd z (nnge (by omega) hpw), fun _ => ⟨fun z => absurd (fbs_le z) e0, fun _ => ?_⟩⟩
    refine cnt_loop (D + 1) (fun t μ2 => Vq κ (fun r μ' => r = some (.int (lkA b f w (D + 1) (P + 1))) ∧ Eqx [72] μ μ') mX5_bestLook 24 [(0, .ref 66), (1, .int (fbs f 6)), (2, .int (nI w)), (3, .int (nI (D + 1))), (4, .int a4), (5, .int (lkD (mAl b f) (p * w) t (lkP (mAl b f) w (D + 1) p)).1), (6, .int (nI (lw (lkD (mAl b f) (p * w) t (lkP (mAl b f) w (D + 1) p)).2))), (7, .int (nI (p * w))), (8, .int (nI t))] [] μ2) (fun _ μ2 => Eqx [72] μ μ2) ?_ ?_ 0 μ1 (Nat.zero_le _) hE
    · intro μ2 hE2
      refine wX5_bestLook_24 _ _ _ _ _ _ _ _ μ2 ?_
      rw [nI_add (p * w) w, ← h2]
      exact ⟨fun _ => ih μ2 hE2, fun z => absurd (nge (by omega) (Nat.le_refl _)) z⟩
    · intro t μ2 ht hE2 ih2
      have h7 := lkD_7 hm (x := p * w) (t := t) (lkP_7 hm (w := w) (D := D + 1) (p := p))
      refine wX5_bestLook_24 _ _ _ _ _ _ _ _ μ2 ⟨fun z => absurd z (nnge (by omega) ht), fun _ => ?_⟩
      refine cnt_loop 6 (fun kd μ3 => Vq κ (fun r μ' => r = some (.int (lkA b f w (D + 1) (P + 1))) ∧ Eqx [72] μ μ') mX5_bestLook 33 [(0, .ref 66), (1, .int (fbs f 6)), (2, .int (nI w)), (3, .int (nI (D + 1))), (4, .int a4), (5, .int (lkD (mAl b f) (p * w) t (lkP (mAl b f) w (D + 1) p)).1), (6, .int (nI (lw (lkD (mAl b f) (p * w) t (lkP (mAl b f) w (D + 1) p)).2))), (7, .int (nI (p * w))), (8, .int (nI t)), (9, .int (nI kd))] [] μ3) (fun n μ3 => (∀ kd, kd < n → μ3.1 72 kd = nI (amt b (p * w) t kd)) ∧ Eqx [72] μ μ3) ?_ ?_ 0 μ2 (Nat.zero_le _) ⟨fun kd hk => absurd hk (by omega), hE2⟩
      · rintro μ3 ⟨hv, hE3⟩
        refine wX5_bestLook_33 _ _ _ _ _ _ _ _ _ μ3 ⟨fun _ => ?_, fun z => absurd (nge (by omega) (Nat.le_refl _)) z⟩
        refine (kX5_most (g := f) (v := fun kd => nI (amt b (p * w) t kd)) (fun c hc => fbs_fb f hc) hv).mono ?_
        rintro r μ4 ⟨rfl, rfl⟩
        have ih3 := ih2 μ4 hE3
        have hm1 := hm (p * w) t
        have hm2 := mx_6 (g := f) (v := fun kd => nI (amt b (p * w) t kd)) (n := 6)
        refine ⟨_, rfl, ?_⟩
        rw [pk_mul 100, nI_add (100 * (p * w)) t, nI_add t 1, nIle (by have := lw_m h7; omega) (by omega), lw_le hm2 h7]
        refine ⟨fun z => ⟨fun _ => ?_, fun y => absurd z y⟩, fun z => ⟨fun y => absurd y z, fun _ => ?_⟩⟩
        · rw [show lkD (mAl b f) (p * w) (t + 1) (lkP (mAl b f) w (D + 1) p) = lkD (mAl b f) (p * w) t (lkP (mAl b f) w (D + 1) p) from if_neg (by unfold mAl; unfold mAl at z; omega)] at ih3; exact ih3
        · rw [show lkD (mAl b f) (p * w) (t + 1) (lkP (mAl b f) w (D + 1) p) = (nI (100 * (p * w) + t), mAl b f (p * w) t) from if_pos (by unfold mAl; unfold mAl at z; omega), lw_6 hm1] at ih3
          exact ih3
      · rintro kd μ3 hk ⟨h1, hE3⟩ ih3
        refine wX5_bestLook_33 _ _ _ _ _ _ _ _ _ μ3 ⟨fun z => absurd z (nnge (by omega) hk), fun _ => ?_⟩
        rw [nI_add kd 1, cl (n := kd) (by omega), fgrowM_N (by omega) (by omega) (by omega), ffall_N (by omega) (by omega) (by omega)]
        have H : ∀ μ4 : Mm, μ4 = mset μ3 72 kd (nI (amt b (p * w) t kd)) → (∀ j, j < kd + 1 → μ4.1 72 j = nI (amt b (p * w) t j)) ∧ Eqx [72] μ μ4 := by
          rintro μ4 rfl
          refine ⟨fun j hj => ?_, hE3.tr ⟨rfl, fun a ha => ms_row (fun z => ha (by rw [z]; simp))⟩⟩
          by_cases e : j = kd
          · subst e; rw [ms_at]
          · rw [ms_col e]; exact h1 j (by omega)
        refine ⟨fun z => ⟨vin hk (by decide), fun μ4 e => ih3 μ4 (H μ4 ?_)⟩, fun z => ⟨vin hk (by decide), fun μ4 e => ih3 μ4 (H μ4 ?_)⟩⟩
        · rw [hb] at z; rw [e, z]; rfl
        · rw [hb, Bool.not_eq_true] at z; rw [e, z]; rfl
def sWhich (x : Int32) (s : Ln) : Int32 × Ln := if fwith x (nI 0) (nI (s 0) - nI 1) = true then (fbs (ftM s x.toNatClampNeg) 6, s) else (-2, rfs s 0)
def sNext (x : Int32) (s : Ln) : Int32 × Ln := if fwith x (nI 0) (nI (s 0) - nI 1) = true then (lkA false (ftM s x.toNatClampNeg) 10 14 6, s) else (-2, rfs s 0)
def sKinds (s : Ln) : Int32 × Ln := (fbs (ftC s) 6, s)
def sLook (s : Ln) : Int32 × Ln := (lkA true (ftC s) 1 6 60, s)
theorem oWhich (x : Int32) {s : Ln} {n : Nat} (h : OKs n s) : OKs (n + 1) (sWhich x s).2 := oIf h (oSame h)
theorem oNext (x : Int32) {s : Ln} {n : Nat} (h : OKs n s) : OKs (n + 1) (sNext x s).2 := oIf h (oSame h)
theorem oKinds {s : Ln} {n : Nat} (h : OKs n s) : OKs (n + 1) (sKinds s).2 := oSame h
theorem oLook {s : Ln} {n : Nat} (h : OKs n s) : OKs (n + 1) (sLook s).2 := oSame h
theorem RM.sc72 {μ μ' : Mm} {s : Ln} {n : Nat} (h : RM μ s) (hok : OKs n s) (hE : Eqx [72] μ μ') : RM μ' s ∧ EqG μ μ' := h.scr hok (fun x hx => hE.2 x (nm1 (by omega))) (by rw [hE.2 66 (nm1 (by decide))]) hE.1
theorem xWhich (x : Int32) {μ : Mm} {s : Ln} {n : Nat} (h : RX μ s) (hok : OKs n s) : Con mX4_which [.ref 0, .int x] μ (PX (sWhich x s) μ) := by
  have p0 := hok.1.1.1
  have a2' : μ.1 4 1 = nI (s 0) := h.1.1.1.2.1
  refine Con.of pnX4 (Nat.le_of_ble_eq_true rfl) (fun κ => wX4_which_0 x μ ?_)
  rw [a2']
  unfold sWhich
  refine ⟨fun hb => ?_, fun hb => ?_⟩
  · obtain ⟨i, hi, rfl⟩ := fh_of p0 hb
    rw [ifT hb, cl (n := i) (by omega)]
    exact (kX3_matterKindsOf h hok (by omega)).mono (by rintro r μ' ⟨rfl, rfl⟩; exact ⟨_, rfl, px rfl ⟨h, EqH.rf⟩⟩)
  · rw [ifF hb]; exact PX.on (kX4_bad h hok)
theorem mWhich (x : Int32) {μ : Mm} {s : Ln} {n : Nat} (h : RM μ s) (hok : OKs n s) : Con mX5_which [.ref 66, .int x] μ (PM (sWhich x s) μ) := by
  have p0 := hok.1.1.1
  refine Con.of pnX5 (Nat.le_of_ble_eq_true rfl) (fun κ => wX5_which_0 x μ ?_)
  rw [h.1 0 (by decide)]
  unfold sWhich
  refine ⟨fun hb => ?_, fun hb => ?_⟩
  · rw [ifF hb]; exact PM.on (kX5_badR (-2) h)
  · obtain ⟨i, hi, rfl⟩ := fh_of p0 hb
    rw [ifT hb, cl (n := i) (by omega)]
    exact (kX5_kindsOfHill h hok (by omega)).mono (by rintro r μ' ⟨rfl, rfl⟩; exact ⟨_, rfl, pm rfl ⟨h, EqG.rf⟩⟩)
theorem xKinds {μ : Mm} {s : Ln} {n : Nat} (h : RX μ s) (hok : OKs n s) : Con mX4_kinds [.ref 0] μ (PX (sKinds s) μ) := by
  refine Con.of pnX4 (Nat.le_of_ble_eq_true rfl) (fun κ => wX4_kinds_0 μ ?_)
  exact (kX3_clerkKinds h hok).mono (by rintro r μ' ⟨rfl, rfl⟩; exact ⟨_, rfl, px rfl ⟨h, EqH.rf⟩⟩)
theorem mKinds {μ : Mm} {s : Ln} {n : Nat} (h : RM μ s) (hok : OKs n s) : Con mX5_kinds [.ref 66] μ (PM (sKinds s) μ) := (kX5_kinds h hok).mono (by rintro r μ' ⟨rfl, rfl⟩; exact pm rfl ⟨h, EqG.rf⟩)
theorem xNext (x : Int32) {μ : Mm} {s : Ln} {n : Nat} (h : RX μ s) (hok : OKs n s) : Con mX4_next [.ref 0, .int x] μ (PX (sNext x s) μ) := by
  have p0 := hok.1.1.1
  have a2' : μ.1 4 1 = nI (s 0) := h.1.1.1.2.1
  refine Con.of pnX4 (Nat.le_of_ble_eq_true rfl) (fun κ => wX4_next_0 x μ ?_)
  rw [a2']
  unfold sNext
  refine ⟨fun hb => ?_, fun hb => ?_⟩
  · obtain ⟨i, hi, rfl⟩ := fh_of p0 hb
    rw [ifT hb, cl (n := i) (by omega)]
    refine (kX3_matterKindsOf h hok (by omega)).mono ?_
    rintro r μ' ⟨rfl, rfl⟩
    refine ⟨_, rfl, (kX4_clearest false (nI 0) (by decide) (ftM s i) (P := 5) (w := 10) (D := 13) (by decide) (by decide) (by decide)).mono ?_⟩
    rintro r μ1 ⟨rfl, hE⟩
    exact ⟨_, rfl, px rfl (h.scr hok hE (by decide))⟩
  · rw [ifF hb]; exact PX.on (kX4_bad h hok)
theorem mNext (x : Int32) {μ : Mm} {s : Ln} {n : Nat} (h : RM μ s) (hok : OKs n s) : Con mX5_next [.ref 66, .int x] μ (PM (sNext x s) μ) := by
  have p0 := hok.1.1.1
  refine Con.of pnX5 (Nat.le_of_ble_eq_true rfl) (fun κ => wX5_next_0 x μ ?_)
  rw [h.1 0 (by decide)]
  unfold sNext
  refine ⟨fun hb => ?_, fun hb => ?_⟩
  · rw [ifF hb]; exact PM.on (kX5_badR (-2) h)
  · obtain ⟨i, hi, rfl⟩ := fh_of p0 hb
    rw [ifT hb, cl (n := i) (by omega)]
    refine (kX5_kindsOfHill h hok (by omega)).mono ?_
    rintro r μ' ⟨rfl, rfl⟩
    refine ⟨_, rfl, (kX5_best false (nI 1) (by decide) (ftM s i) (P := 5) (w := 10) (D := 13) (by decide) (by decide) (by decide)).mono ?_⟩
    rintro r μ1 ⟨rfl, hE⟩
    exact ⟨_, rfl, pm rfl (h.sc72 hok hE)⟩
theorem xLook {μ : Mm} {s : Ln} {n : Nat} (h : RX μ s) (hok : OKs n s) : Con mX4_look [.ref 0] μ (PX (sLook s) μ) := by
  refine Con.of pnX4 (Nat.le_of_ble_eq_true rfl) (fun κ => wX4_look_0 μ ?_)
  refine (kX3_clerkKinds h hok).mono ?_
  rintro r μ' ⟨rfl, rfl⟩
  refine ⟨_, rfl, (kX4_clearest true (nI 1) (by decide) (ftC s) (P := 59) (w := 1) (D := 5) (by decide) (by decide) (by decide)).mono ?_⟩
  rintro r μ1 ⟨rfl, hE⟩
  exact ⟨_, rfl, px rfl (h.scr hok hE (by decide))⟩
theorem mLook {μ : Mm} {s : Ln} {n : Nat} (h : RM μ s) (hok : OKs n s) : Con mX5_look [.ref 66] μ (PM (sLook s) μ) := by
  refine Con.of pnX5 (Nat.le_of_ble_eq_true rfl) (fun κ => wX5_look_0 μ ?_)
  refine (kX5_kinds h hok).mono ?_
  rintro r μ' ⟨rfl, rfl⟩
  refine ⟨_, rfl, (kX5_best true (nI 0) (by decide) (ftC s) (P := 59) (w := 1) (D := 5) (by decide) (by decide) (by decide)).mono ?_⟩
  rintro r μ1 ⟨rfl, hE⟩
  exact ⟨_, rfl, pm rfl (h.sc72 hok hE)⟩
