/-! ===== read, the class's side: the whole ===== -/
theorem RX.rdx {μ μ' : Mm} {s : Ln} {n : Nat} (h : RX μ s) (hok : OKs n s) (hF : FX μ μ') : RX μ' s ∧ EqH μ μ' := by
  obtain ⟨⟨i0, i1, i2, i3, i4, i5, i6⟩, r, f, t⟩ := h
  obtain ⟨o1, o2, o3, -⟩ := id hok
  have R : ∀ c, c ≠ 59 → (c < 61 ∨ 65 < c) → μ'.1 c = μ.1 c := hF.2.1
  refine ⟨⟨⟨i0.cg o1.1.1 o1.1.2.1 o1.1.2.2.1 o1.1.2.2.2.1 (fun x h1 h2 => R x (by omega) (by omega)) (fun _ _ => rfl), fun z => (i1 z).cg o2.1.1 o2.1.2.1 o2.1.2.2.1 o2.1.2.2.2.1 (fun x h1 h2 => R x (by omega) (by omega)) (fun _ _ => rfl), fun z => (i2 z).cg o3.1.1 o3.1.2.1 o3.1.2.2.1 o3.1.2.2.2.1 (fun x h1 h2 => R x (by omega) (by omega)) (fun _ _ => rfl), by rw [R 12 (by decide) (by decide)]; exact i3, by rw [R 21 (by decide) (by decide)]; exact i4, by rw [R 12 (by decide) (by decide)]; exact i5, by rw [R 21 (by decide) (by decide)]; exact i6⟩, ⟨by rw [R 0 (by decide) (by decide)]; exact r.1, by rw [R 0 (by decide) (by decide)]; exact r.2.1, by rw [R 0 (by decide) (by decide)]; exact r.2.2⟩, ⟨by rw [hF.1]; exact f.1, by rw [hF.1]; exact f.2⟩, by rw [hF.2.2]; exact t.1, fun j hj => by rw [R 60 (by decide) (by decide)]; exact t.2 j hj⟩, fun a ha => ⟨R a (by omega) (by omega), by rw [hF.1]⟩⟩
theorem kX2_clerk (hW : TWC) {x : Tx} {μ0 μ : Mm} {s : Ln} (hx : XX x μ) (h2 : μ.1 59 2 = nI 0) (h6 : μ.1 59 6 = nI 0) (hF : FX μ0 μ) : Con mX2_readClerk [.ref 59] μ (fun r μ' => (tK x 0 = 1 ∧ spl x 0 6 lIsl = true ∧ numb x (tE x 0) 5 = true ∧ EP x μ0 (tE x (tE x 0)) (bgF s (tV x (tE x 0))) 0 r μ') ∨ (r = some (.int (bI false)) ∧ FX μ0 μ' ∧ ((¬ (tK x 0 = 1 ∧ spl x 0 6 lIsl = true) ∧ μ'.1 59 5 = nI (tS x 0)) ∨ ((tK x 0 = 1 ∧ spl x 0 6 lIsl = true) ∧ numb x (tE x 0) 5 = false ∧ μ'.1 59 5 = nI (tS x (tE x 0)))))) := by
  have hk := xK_4 (x := x) (p := 0)
  refine Con.of pnX2 (Nat.le_of_ble_eq_true rfl) (fun κ => wX2_readClerk_0 μ ?_)
  refine (kX2_step hW hx (Nat.zero_le _) h2).mono ?_
  rintro r μ1 ⟨rfl, g1, t1⟩
  have F1 := hF.tn t1
  refine ⟨rfl, ?_⟩
  rw [g1.2.1, nIe (by omega) (by decide)]
  have notI : ¬ xK x 0 = 1 → ¬ (tK x 0 = 1 ∧ spl x 0 6 lIsl = true) := fun z a => z (by unfold xK; rw [if_pos a.1, if_pos (by rw [tW_0.mpr a.2]; decide)])
  refine ⟨fun z => Or.inr ⟨rfl, F1, Or.inl ⟨notI z, g1.2.2.1⟩⟩, fun z => ?_⟩
  have hk1 : tK x 0 = 1 ∧ tW x 0 < 4 := by
    unfold xK at z
    by_cases k1 : tK x 0 = 1
    · rw [if_pos k1] at z
      by_cases w4 : tW x 0 < 4
      · exact ⟨k1, w4⟩
      · rw [if_neg w4] at z; omega
    · rw [if_neg k1] at z; exact absurd z k1
  rw [g1.2.2.2.1 z, nI0 (by omega), tW_0]
  refine ⟨fun y => Or.inr ⟨rfl, F1, Or.inl ⟨fun a => y a.2, g1.2.2.1⟩⟩, fun y => ?_⟩
  have p1 := tE_le (x := x) (Nat.zero_le x.2)
  have x1 := hx.tn t1
  refine (kX2_sn hW x1 p1 g1.1 (by decide)).mono ?_
  rintro r μ2 ⟨rfl, g2, t2⟩
  have F2 := F1.tn t2
  have x2 := x1.tn t2
  refine ⟨_, rfl, fun w => ?_, fun w => Or.inr ⟨rfl, F2, Or.inr ⟨⟨hk1.1, y⟩, w, g2.2.2.1⟩⟩⟩
  obtain ⟨k2, v2⟩ := numb_t w
  rw [g2.2.2.2.2 ((xK_n (by decide) (by decide)).mpr k2)]
  refine (kX0_restart 61 _ μ2 isL_61).mono ?_
  rintro r μ3 ⟨rfl, r0, r1, r6, r7, r4, hE3⟩
  have R : ∀ c, c < 61 ∨ 65 < c → μ3.1 c = μ2.1 c := fun c hc => hE3.2 c (nm2 (by omega) (by omega))
  have eb : ∀ j, j < 86 → bgF s (tV x (tE x 0)) j = bgn (tV x (tE x 0)) j := fun j hj => if_pos hj
  have b0 : bgF s (tV x (tE x 0)) 0 = 0 := by rw [eb 0 (by decide)]; rfl
  have S3 : SP x μ0 μ3 (tE x (tE x 0)) (bgF s (tV x (tE x 0))) 0 := by
    refine ⟨⟨x2.1, by rw [R 59 (by decide)]; exact x2.2.1, fun j hj => by rw [R 60 (by decide)]; exact x2.2.2 j hj⟩, by rw [R 59 (by decide)]; exact g2.1, ⟨by rw [r0, eb 4 (by decide)]; rfl, by rw [r1, b0], by rw [r7, eb 5 (by decide)]; rfl, fun i hi => by rw [b0] at hi; omega, fun c hc => by rw [r4 c hc, eb _ (by omega)]; unfold bgn; rw [if_neg (by omega), if_pos (by omega)]⟩, by rw [r6, eb 6 (by decide)]; rfl, by rw [R 59 (by decide), t2.2.2.2, t1.2.2.2]; exact h6, hE3.1.trans F2.1, fun c h1 h2 => (R c h2).trans (F2.2.1 c h1 h2), by rw [R 59 (by decide)]; exact F2.2.2⟩
  refine ⟨rfl, (kX2_sEnd hW (by rw [b0]; decide) (tE_le p1) S3).mono ?_⟩
  intro r μ4 h4
  obtain ⟨b, e1, e2⟩ := h4.b
  exact ⟨b, e1, Or.inl ⟨hk1.1, y, w, e2⟩⟩
theorem kX2_island (hW : TWC) {x : Tx} {μ : Mm} {s : Ln} (hx : XX x μ) : Con mX2_readIsland [.ref 59] μ (RI μ (rdA x s)) := by
  have hL := hx.1
  refine Con.of pnX2 (Nat.le_of_ble_eq_true rfl) (fun κ => wX2_readIsland_0 μ (fun μ1 e1 μ2 e2 => ?_))
  have x2 : XX x μ2 := by rw [e2, e1]; exact ⟨hx.1, by rw [ms_col (by decide), ms_col (by decide)]; exact hx.2.1, fun j hj => by rw [ms_row (by decide), ms_row (by decide)]; exact hx.2.2 j hj⟩
  have F2 : FX μ μ2 := by rw [e2, e1]; exact ⟨rfl, fun c h1 _ => by rw [ms_row h1, ms_row h1], by rw [ms_col (by decide), ms_col (by decide)]⟩
  refine (kX2_clerk hW (s := s) x2 (by rw [e2, ms_col (by decide), e1, ms_at]) (by rw [e2, ms_at]) F2).mono ?_
  intro r μ3 h3
  unfold rdA
  have p1 := tE_le (x := x) (Nat.zero_le x.2)
  have p2 := tE_le p1
  rcases h3 with ⟨k1, s1, n1, h3⟩ | ⟨rfl, F3, ⟨z, h5⟩ | ⟨z, y, h5⟩⟩
  · rw [if_pos ⟨k1, s1⟩, if_pos n1]
    rcases h3 with ⟨y, rfl, S3⟩ | ⟨y, rfl, h5, F3⟩
    · refine ⟨true, rfl, fun _ => ?_, fun w => absurd w (by decide)⟩
      rw [if_pos y]
      have p3 := tE_le p2
      have hb : bgF s (tV x (tE x 0)) 0 ≤ 7 := by
        have : bgF s (tV x (tE x 0)) 0 = 0 := by show (if 0 < 86 then bgn _ 0 else _) = 0; rw [if_pos (by decide)]; rfl
        omega
      refine (kX2_step hW S3.1 p3 S3.2.1).mono ?_
      rintro r μ4 ⟨rfl, g4, t4⟩
      exact ⟨rfl, kX2_loop hW 151 _ 1 0 _ κ μ4 p3 (by omega) (Nat.zero_le _) (PO_bg (by have := (numb_t n1).2; omega)) (S3.tn hb g4 t4) g4⟩
    · refine ⟨false, rfl, fun w => absurd w (by decide), fun _ => ?_⟩
      rw [if_neg y]; exact ⟨rfl, h5, F3⟩
  · refine ⟨false, rfl, fun w => absurd w (by decide), fun _ => ?_⟩
    rw [if_neg z]; exact ⟨rfl, h5, F3⟩
  · refine ⟨false, rfl, fun w => absurd w (by decide), fun _ => ?_⟩
    rw [if_pos z, if_neg (by rw [y]; decide)]; exact ⟨rfl, h5, F3⟩
theorem xRead (hW : TWC) {μ : Mm} {s : Ln} {n : Nat} (h : RX μ s) (hok : OKs n s) : Con mX4_read [.ref 0] μ (PX (sRead s) μ) := by
  have hL : (tx s).2 ≤ 150 := hok.2.2.2.2.2.2.1
  have hx : XX (tx s) μ := ⟨hL, h.2.2.2.1, fun j hj => ⟨h.2.2.2.2 j hj, hok.2.2.2.2.2.2.2 j hj⟩⟩
  refine Con.of pnX4 (Nat.le_of_ble_eq_true rfl) (fun κ => wX4_read_0 μ ?_)
  refine (kX2_island hW (s := s) hx).mono ?_
  intro r μ1 h1
  unfold sRead
  cases e : rdA (tx s) s with
  | inl a =>
    rw [e] at h1
    obtain ⟨rfl, h5, F⟩ := h1
    refine ⟨false, rfl, fun w => absurd w (by decide), fun _ => px ?_ (h.rdx hok F)⟩
    rw [h5]
  | inr a =>
    obtain ⟨u, k⟩ := a
    rw [e] at h1
    obtain ⟨rfl, hLX, h6, hk, F, hPO⟩ := h1
    obtain ⟨hR, hE⟩ := h.rdx hok F
    have u0 := hPO.1.1
    obtain ⟨q1, q2, q3⟩ := hPO.2.1
    refine ⟨true, rfl, fun _ => ?_, fun w => absurd w (by decide)⟩
    refine (kX3_restart 3 0 μ1 isS_3 (a := s) hR.1.1.2.2.2.2.2.2.nx).mono ?_
    rintro r μ2 ⟨rfl, hSt, hE2⟩
    have R2 : ∀ c, c ≠ 3 → c ≠ 4 → c ≠ 8 → μ2.1 c = μ1.1 c := fun c c1 c2 c3 => hE2.2 c (nm3 c1 c2 c3)
    have hLX2 : LX μ2 61 u := hLX.cg u0 (fun z h1 h2 => R2 z (by omega) (by omega) (by omega)) (fun _ _ => rfl)
    refine ⟨rfl, (kX0_copyFrom 4 61 μ2 isL_4 isL_61 (by decide)).mono ?_⟩
    rintro r μ3 ⟨rfl, hC⟩
    have R3 : ∀ c, c < 4 ∨ 8 < c → μ3.1 c = μ2.1 c := fun c hc => hC.2.2.2.2 c (by simp; omega)
    have hE3 : Eqx [3, 4, 5, 6, 7, 8] μ1 μ3 := (hE2.mn (by simp)).tr (hC.2.2.2.mn (by simp))
    obtain ⟨-, -, d1, d2, -, -, d7⟩ := hSt
    have o : ∀ j, j < 86 → rdF u s j = u j := fun j hj => if_pos hj
    have eb : ∀ j, j < 86 → bgF s 0 j = bgn 0 j := fun j hj => if_pos hj
    have St3 : St μ3 3 (rdF u s) := by
      refine ⟨(hC.lx u0 hLX2).cg u0 (fun _ _ _ => rfl) (fun j hj => o j (by omega)), ?_, ?_, ?_, fun j hj => ?_, fun j hj => ?_, ?_⟩
      · rw [o 6 (by decide)]
        show μ3.1 4 6 = _
        rw [hC.hm, R2 61 (by decide) (by decide) (by decide)]; exact h6
      · rw [o 1 (by decide), q1, R3 3 (by decide), d1, eb 1 (by decide)]; rfl
      · rw [o 2 (by decide), q2, R3 3 (by decide), d2, eb 2 (by decide)]; rfl
      · rw [o 1 (by decide), q1] at hj; omega
      · rw [o 2 (by decide), q2] at hj; omega
      · refine Rg.zero d7 (by rw [R3 3 (by decide)]) ?_ (by rw [o 3 (by decide)]; exact q3)
        obtain ⟨nx, -, -, g3, -⟩ := d7
        rw [R3 3 (by decide), g3, eb 3 (by decide)]; rfl
    obtain ⟨hR3, hE3'⟩ := hR.now hok St3 hE3 (by decide) (fun j hj => if_neg (by omega))
    refine ⟨rfl, px ?_ ⟨hR3, fun a ha => ⟨(hE3' a ha).1.trans (hE a ha).1, (hE3' a ha).2.trans (hE a ha).2⟩⟩⟩
    rw [R3 59 (by decide), R2 59 (by decide) (by decide) (by decide)]; exact hk
