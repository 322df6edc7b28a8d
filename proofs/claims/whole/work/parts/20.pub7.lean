/-! ===== seen, mark, which, kinds ===== -/
def snF (s : Ln) (i t x y : Nat) : Ln := fun j => if j = 1 then s 1 + 1 else if j = 48 + 4 * s 1 then i else if j = 48 + 4 * s 1 + 1 then t else if j = 48 + 4 * s 1 + 2 then x else if j = 48 + 4 * s 1 + 3 then y else s j
def mkF (s : Ln) (t x y : Nat) : Ln := fun j => if j = 2 then s 2 + 1 else if j = 68 + 3 * s 2 then t else if j = 68 + 3 * s 2 + 1 then x else if j = 68 + 3 * s 2 + 2 then y else s j
theorem sn_o {s : Ln} {i t x y j : Nat} (h1 : j ≠ 1) (h : j < 48 + 4 * s 1 ∨ 52 + 4 * s 1 ≤ j) : snF s i t x y j = s j := by
  unfold snF; rw [if_neg h1, if_neg (by omega), if_neg (by omega), if_neg (by omega), if_neg (by omega)]
theorem mk_o {s : Ln} {t x y j : Nat} (h1 : j ≠ 2) (h : j < 68 + 3 * s 2 ∨ 71 + 3 * s 2 ≤ j) : mkF s t x y j = s j := by
  unfold mkF; rw [if_neg h1, if_neg (by omega), if_neg (by omega), if_neg (by omega)]
theorem SOK.sn {n : Nat} {s : Ln} {i t x y : Nat} (h : SOK n s) (hc : s 1 < 5) (hi : i < 7) (ht : t < 100) (hx : x < 60) (hy : y < 100) : SOK n (snF s i t x y) := by
  obtain ⟨⟨p0, p1, p2, p3, p4⟩, g2, g3, g4, g5, g6⟩ := h
  refine ⟨⟨by rw [sn_o (by omega) (by omega)]; exact p0, by show s 1 + 1 ≤ 5; omega, by rw [sn_o (by omega) (by omega)]; exact p2, by rw [sn_o (by omega) (by omega)]; exact p3, by rw [sn_o (by omega) (by omega)]; exact p4⟩, g2.cg (fun j hj => sn_o (by omega) (by omega)), fun q hq => ?_, fun r hr => ?_, fun r hr => ?_, fun e he => (g6 e he).cg (fun j hj => sn_o (by omega) (by omega))⟩
  · rw [sn_o (by omega) (by omega), sn_o (by omega) (by omega)]; exact g3 q hq
  · by_cases e : r = s 1
    · subst e
      unfold snF
      refine ⟨?_, ?_, ?_, ?_⟩
      · rw [if_neg (by omega), if_pos (by omega)]; exact hi
      · rw [if_neg (by omega), if_neg (by omega), if_pos (by omega)]; exact ht
      · rw [if_neg (by omega), if_neg (by omega), if_neg (by omega), if_pos (by omega)]; exact hx
      · rw [if_neg (by omega), if_neg (by omega), if_neg (by omega), if_neg (by omega), if_pos (by omega)]; exact hy
    · rw [sn_o (by omega) (by omega), sn_o (by omega) (by omega), sn_o (by omega) (by omega), sn_o (by omega) (by omega)]; exact g4 r hr
  · rw [sn_o (by omega) (by omega), sn_o (by omega) (by omega), sn_o (by omega) (by omega)]; exact g5 r hr
theorem SOK.mk {n : Nat} {s : Ln} {t x y : Nat} (h : SOK n s) (hc : s 2 < 6) (ht : t < 100) (hx : x < 60) (hy : y ≤ 40) : SOK n (mkF s t x y) := by
  obtain ⟨⟨p0, p1, p2, p3, p4⟩, g2, g3, g4, g5, g6⟩ := h
  refine ⟨⟨by rw [mk_o (by omega) (by omega)]; exact p0, by rw [mk_o (by omega) (by omega)]; exact p1, by show s 2 + 1 ≤ 6; omega, by rw [mk_o (by omega) (by omega)]; exact p3, by rw [mk_o (by omega) (by omega)]; exact p4⟩, g2.cg (fun j hj => mk_o (by omega) (by omega)), fun q hq => ?_, fun r hr => ?_, fun r hr => ?_, fun e he => (g6 e he).cg (fun j hj => mk_o (by omega) (by omega))⟩
  · rw [mk_o (by omega) (by omega), mk_o (by omega) (by omega)]; exact g3 q hq
  · rw [mk_o (by omega) (by omega), mk_o (by omega) (by omega), mk_o (by omega) (by omega), mk_o (by omega) (by omega)]; exact g4 r hr
  · by_cases e : r = s 2
    · subst e
      unfold mkF
      refine ⟨?_, ?_, ?_⟩
      · rw [if_neg (by omega), if_pos (by omega)]; exact ht
      · rw [if_neg (by omega), if_neg (by omega), if_pos (by omega)]; exact hx
      · rw [if_neg (by omega), if_neg (by omega), if_neg (by omega), if_pos (by omega)]; exact hy
    · rw [mk_o (by omega) (by omega), mk_o (by omega) (by omega), mk_o (by omega) (by omega)]; exact g5 r hr
def sSeen (a b c d : Int32) (s : Ln) : Int32 × Ln := if fwith a (nI 0) (nI (s 0) - nI 1) = true then (if fwith b (nI 0) (nI 99) = true then (if fwith c (nI 0) (nI 59) = true then (if fwith d (nI 0) (nI 99) = true then (if s 1 = 5 then (-4, rfs s 2) else (nI (s 1 + 1), snF s a.toNatClampNeg b.toNatClampNeg c.toNatClampNeg d.toNatClampNeg)) else (-2, rfs s 0)) else (-2, rfs s 0)) else (-2, rfs s 0)) else (-2, rfs s 0)
theorem oSeen (a b c d : Int32) {s : Ln} {n : Nat} (h : OKs n s) : OKs (n + 1) (sSeen a b c d s).2 := by
  have h0 := h.1.1.1
  unfold sSeen
  cases hb : fwith a (nI 0) (nI (s 0) - nI 1) with
  | false => exact h.rf (by decide)
  | true =>
    obtain ⟨i, hi, rfl⟩ := fh_of h0 hb
    cases hb2 : fwith b (nI 0) (nI 99) with
    | false => exact h.rf (by decide)
    | true =>
      obtain ⟨t, ht, rfl⟩ := fw_of (by decide) hb2
      cases hb3 : fwith c (nI 0) (nI 59) with
      | false => exact h.rf (by decide)
      | true =>
        obtain ⟨x, hx, rfl⟩ := fw_of (by decide) hb3
        cases hb4 : fwith d (nI 0) (nI 99) with
        | false => exact h.rf (by decide)
        | true =>
          obtain ⟨y, hy, rfl⟩ := fw_of (by decide) hb4
          rw [ifT rfl, ifT rfl, ifT rfl, ifT rfl, cl (n := i) (by omega), cl (n := t) (by omega), cl (n := x) (by omega), cl (n := y) (by omega)]
          by_cases e : s 1 = 5
          · rw [if_pos e]; exact h.rf (by decide)
          · rw [if_neg e]
            have h1 := h.1.1.2.1
            exact h.now ((h.1.sn (by omega) (by omega) (by omega) (by omega) (by omega)).up (Nat.le_succ n)) (fun j hj => sn_o (by omega) (by omega))
theorem xSeen (a b c d : Int32) {μ : Mm} {s : Ln} {n : Nat} (h : RX μ s) (hok : OKs n s) : Con mX4_seen [.ref 0, .int a, .int b, .int c, .int d] μ (PX (sSeen a b c d s) μ) := by
  obtain ⟨p0, p1, p2, p3, p4⟩ := id hok.1.1
  obtain ⟨hL, c2, c3, c4, c5, c6, c7⟩ := id h.1.1
  have a2' : μ.1 4 1 = nI (s 0) := hL.2.1
  refine Con.of pnX4 (Nat.le_of_ble_eq_true rfl) (fun κ => wX4_seen_0 a b c d μ ?_)
  rw [a2', c3]
  unfold sSeen
  refine ⟨fun hb => ?_, fun hb => ⟨fun hb2 => ?_, fun hb2 => ⟨fun hb3 => ?_, fun hb3 => ⟨fun hb4 => ⟨fun h5 => ?_, fun h5 => ?_⟩, fun hb4 => ?_⟩⟩⟩⟩
  · rw [ifF hb]; exact PX.on (kX4_bad h hok)
  · rw [ifT hb, ifF hb2]; exact PX.on (kX4_bad h hok)
  · rw [ifT hb, ifT hb2, ifF hb3]; exact PX.on (kX4_bad h hok)
  · rw [nIlt (by omega) (by decide)] at h5
    rw [ifT hb, ifT hb2, ifT hb3, ifT hb4, if_neg (by omega)]
    obtain ⟨i, hi, rfl⟩ := fh_of p0 hb
    obtain ⟨t, ht, rfl⟩ := fw_of (by decide) hb2
    obtain ⟨x, hx, rfl⟩ := fw_of (by decide) hb3
    obtain ⟨y, hy, rfl⟩ := fw_of (by decide) hb4
    rw [cl (n := i) (by omega), cl (n := t) (by omega), cl (n := x) (by omega), cl (n := y) (by omega)]
    have key : Con mX3_addSeen [.ref 3, .int (nI i), .int (nI t), .int (nI x), .int (nI y)] μ (fun r μ' => r = none ∧ μ' = mset (mset (mset (mset (mset μ 9 (s 1 * 4) (nI i)) 9 (s 1 * 4 + 1) (nI t)) 9 (s 1 * 4 + 2) (nI x)) 9 (s 1 * 4 + 3) (nI y)) 3 2 (nI (s 1 + 1))) := by
      refine Con.of pnX3 (Nat.le_of_ble_eq_true rfl) (fun κ => wX3_addSeen_0 3 _ _ _ _ μ isS_3 ?_)
      rw [c3, pk_mul, nI_add, nI_add, nI_add, cl (n := s 1 * 4) (by omega), cl (n := s 1 * 4 + 1) (by omega), cl (n := s 1 * 4 + 2) (by omega), cl (n := s 1 * 4 + 3) (by omega)]
      refine ⟨fun z => absurd z (nnge (by decide) h5), fun _ => ⟨vin (by omega) (by decide), fun μ2 e2 => ⟨vin (by omega) (by decide), fun μ4 e4 => ⟨vin (by omega) (by decide), fun μ6 e6 => ⟨vin (by omega) (by decide), fun μ8 e8 μ9 e9 => ⟨rfl, ?_⟩⟩⟩⟩⟩⟩
      have : μ8.1 3 2 = nI (s 1) := by rw [e8, ms_row (by decide), e6, ms_row (by decide), e4, ms_row (by decide), e2, ms_row (by decide)]; exact c3
      rw [e9, this, nI_add, e8, e6, e4, e2]
    refine key.mono ?_
    rintro r μ1 ⟨rfl, e1⟩
    have R : ∀ z, z ≠ 3 → z ≠ 9 → μ1.1 z = μ.1 z := fun z z3 z9 => by rw [e1, ms_row z3, ms_row z9, ms_row z9, ms_row z9, ms_row z9]
    have K : ∀ z, z ≠ 2 → μ1.1 3 z = μ.1 3 z := fun z hz => by rw [e1, ms_col hz, ms_row (by decide), ms_row (by decide), ms_row (by decide), ms_row (by decide)]
    refine ⟨rfl, px (by rw [e1, ms_at]) (h.now hok (S := [3, 9]) ⟨hL.cg2 p0 (fun z h1 h2 => R z (by omega) (by omega)) (fun j hj h1 _ _ _ => sn_o h1 (by omega)), by rw [R _ (by decide) (by decide), sn_o (by omega) (by omega)]; exact c2, by rw [e1, ms_at]; rfl, by rw [K _ (by decide), sn_o (by omega) (by omega)]; exact c4, fun j hj => ?_, fun j hj => ?_, c7.cg p0 p3 (K _ (by decide)) (K _ (by decide)) (R _ (by decide) (by decide)) (sn_o (by omega) (by omega)) (sn_o (by omega) (by omega)) (fun j h1 h2 => sn_o (by omega) (by omega))⟩ (by rw [e1]; exact ((((Eqx.rf.ms (by simp)).ms (by simp)).ms (by simp)).ms (by simp)).ms (by simp)) (by decide) (fun j hj => sn_o (by omega) (by omega)))⟩
    · have hj' : j < 4 * (s 1 + 1) := hj
      show μ1.1 9 j = _
      rw [e1, ms_row (by decide)]
      unfold snF
      by_cases j3 : j = s 1 * 4 + 3
      · subst j3; rw [ms_at, if_neg (by omega), if_neg (by omega), if_neg (by omega), if_neg (by omega), if_pos (by omega)]
      · rw [ms_col j3]
        by_cases j2 : j = s 1 * 4 + 2
        · subst j2; rw [ms_at, if_neg (by omega), if_neg (by omega), if_neg (by omega), if_pos (by omega)]
        · rw [ms_col j2]
          by_cases j1 : j = s 1 * 4 + 1
          · subst j1; rw [ms_at, if_neg (by omega), if_neg (by omega), if_pos (by omega)]
          · rw [ms_col j1]
            by_cases j0 : j = s 1 * 4
            · subst j0; rw [ms_at, if_neg (by omega), if_pos (by omega)]
            · rw [ms_col j0, if_neg (by omega), if_neg (by omega), if_neg (by omega), if_neg (by omega), if_neg (by omega)]; exact c5 j (by omega)
    · rw [sn_o (by omega) (by omega)] at hj
      rw [R _ (by decide) (by decide), sn_o (by omega) (by omega)]; exact c6 j hj
  · rw [nIlt (by omega) (by decide)] at h5
    rw [ifT hb, ifT hb2, ifT hb3, ifT hb4, if_pos (by omega)]; exact PX.on (kX4_full h hok)
  · rw [ifT hb, ifT hb2, ifT hb3, ifF hb4]; exact PX.on (kX4_bad h hok)
theorem mSeen (a b c d : Int32) {μ : Mm} {s : Ln} {n : Nat} (h : RM μ s) (hok : OKs n s) : Con mX5_seen [.ref 66, .int a, .int b, .int c, .int d] μ (PM (sSeen a b c d s) μ) := by
  obtain ⟨p0, p1, p2, p3, p4⟩ := id hok.1.1
  refine Con.of pnX5 (Nat.le_of_ble_eq_true rfl) (fun κ => wX5_seen_0 a b c d μ ?_)
  rw [fwL b (by decide) (by decide), fwL d (by decide) (by decide), h.1 0 (by decide), cl (n := 1) (by decide), h.1 1 (by decide)]
  unfold sSeen
  refine ⟨fun hb => ?_, fun hb => ⟨fun hb2 => ?_, fun hb2 => ⟨fun hb3 => ?_, fun hb3 => ⟨fun hb4 => ⟨fun h5 => ?_, fun h5 => ?_⟩, fun hb4 => ?_⟩⟩⟩⟩
  · rw [ifF hb]; exact PM.on (kX5_badR (-2) h)
  · rw [ifT hb, ifF hb2]; exact PM.on (kX5_badR (-2) h)
  · rw [ifT hb, ifT hb2, ifF hb3]; exact PM.on (kX5_badR (-2) h)
  · rw [nIe (by omega) (by decide)] at h5
    rw [ifT hb, ifT hb2, ifT hb3, ifT hb4, if_neg h5]
    obtain ⟨i, hi, rfl⟩ := fh_of p0 hb
    obtain ⟨t, ht, rfl⟩ := fw_of (by decide) hb2
    obtain ⟨x, hx, rfl⟩ := fw_of (by decide) hb3
    obtain ⟨y, hy, rfl⟩ := fw_of (by decide) hb4
    rw [cl (n := i) (by omega), cl (n := t) (by omega), cl (n := x) (by omega), cl (n := y) (by omega), pk_mul, nI_add, nI_add, nI_add, nI_add, cl (n := 48 + 4 * s 1) (by omega), cl (n := 48 + 4 * s 1 + 1) (by omega), cl (n := 48 + 4 * s 1 + 2) (by omega), cl (n := 48 + 4 * s 1 + 3) (by omega)]
    refine ⟨vin (by omega) (by decide), fun μ2 e2 => ⟨vin (by omega) (by decide), fun μ4 e4 => ⟨vin (by omega) (by decide), fun μ6 e6 => ⟨vin (by omega) (by decide), fun μ8 e8 μ9 e9 => ?_⟩⟩⟩⟩
    have : μ8.1 67 1 = nI (s 1) := by rw [e8, ms_col (by omega), e6, ms_col (by omega), e4, ms_col (by omega), e2, ms_col (by omega)]; exact h.1 1 (by decide)
    rw [this, nI_add] at e9
    have R : ∀ z, z ≠ 67 → μ9.1 z = μ.1 z := fun z hz => by rw [e9, ms_row hz, e8, ms_row hz, e6, ms_row hz, e4, ms_row hz, e2, ms_row hz]
    refine pm (by rw [e9, ms_at]) (h.now hok (fun j hj => ?_) (fun z hz => R z (by omega)) (by rw [R 66 (by decide)]) (by rw [e9, e8, e6, e4, e2]; rfl) (fun j hj => sn_o (by omega) (by omega)))
    rw [e9]
    unfold snF
    by_cases j1' : j = 1
    · subst j1'; rw [ms_at, if_pos rfl]
    · rw [ms_col j1', if_neg j1', e8]
      by_cases j3 : j = 48 + 4 * s 1 + 3
      · subst j3; rw [ms_at, if_neg (by omega), if_neg (by omega), if_neg (by omega), if_pos (by omega)]
      · rw [ms_col j3, e6]
        by_cases j2 : j = 48 + 4 * s 1 + 2
        · subst j2; rw [ms_at, if_neg (by omega), if_neg (by omega), if_pos (by omega)]
        · rw [ms_col j2, e4]
          by_cases j1 : j = 48 + 4 * s 1 + 1
          · subst j1; rw [ms_at, if_neg (by omega), if_pos (by omega)]
          · rw [ms_col j1, e2]
            by_cases j0 : j = 48 + 4 * s 1
            · subst j0; rw [ms_at, if_pos (by omega)]
            · rw [ms_col j0, if_neg j0, if_neg j1, if_neg j2, if_neg j3]; exact h.1 j hj
  · rw [nIe (by omega) (by decide)] at h5
    rw [ifT hb, ifT hb2, ifT hb3, ifT hb4, if_pos h5]; exact PM.on (kX5_fullR h)
  · rw [ifT hb, ifT hb2, ifT hb3, ifF hb4]; exact PM.on (kX5_badR (-2) h)
def sMark (b c d : Int32) (s : Ln) : Int32 × Ln := if fwith b (nI 0) (nI 99) = true then (if fwith c (nI 0) (nI 59) = true then (if fwith d (nI 0) (nI 40) = true then (if s 2 = 6 then (-4, rfs s 2) else (nI (s 2 + 1), mkF s b.toNatClampNeg c.toNatClampNeg d.toNatClampNeg)) else (-2, rfs s 0)) else (-2, rfs s 0)) else (-2, rfs s 0)
theorem oMark (b c d : Int32) {s : Ln} {n : Nat} (h : OKs n s) : OKs (n + 1) (sMark b c d s).2 := by
  unfold sMark
  cases hb2 : fwith b (nI 0) (nI 99) with
  | false => exact h.rf (by decide)
  | true =>
    obtain ⟨t, ht, rfl⟩ := fw_of (by decide) hb2
    cases hb3 : fwith c (nI 0) (nI 59) with
    | false => exact h.rf (by decide)
    | true =>
      obtain ⟨x, hx, rfl⟩ := fw_of (by decide) hb3
      cases hb4 : fwith d (nI 0) (nI 40) with
      | false => exact h.rf (by decide)
      | true =>
        obtain ⟨y, hy, rfl⟩ := fw_of (by decide) hb4
        rw [ifT rfl, ifT rfl, ifT rfl, cl (n := t) (by omega), cl (n := x) (by omega), cl (n := y) (by omega)]
        by_cases e : s 2 = 6
        · rw [if_pos e]; exact h.rf (by decide)
        · rw [if_neg e]
          have h1 := h.1.1.2.2.1
          exact h.now ((h.1.mk (by omega) (by omega) (by omega) (by omega)).up (Nat.le_succ n)) (fun j hj => mk_o (by omega) (by omega))
theorem xMark (b c d : Int32) {μ : Mm} {s : Ln} {n : Nat} (h : RX μ s) (hok : OKs n s) : Con mX4_mark [.ref 0, .int b, .int c, .int d] μ (PX (sMark b c d s) μ) := by
  obtain ⟨p0, p1, p2, p3, p4⟩ := id hok.1.1
  obtain ⟨hL, c2, c3, c4, c5, c6, c7⟩ := id h.1.1
  refine Con.of pnX4 (Nat.le_of_ble_eq_true rfl) (fun κ => wX4_mark_0 b c d μ ?_)
  rw [c4]
  unfold sMark
  refine ⟨fun hb2 => ?_, fun hb2 => ⟨fun hb3 => ?_, fun hb3 => ⟨fun hb4 => ⟨fun h5 => ?_, fun h5 => ?_⟩, fun hb4 => ?_⟩⟩⟩
  · rw [ifF hb2]; exact PX.on (kX4_bad h hok)
  · rw [ifT hb2, ifF hb3]; exact PX.on (kX4_bad h hok)
  · rw [nIlt (by omega) (by decide)] at h5
    rw [ifT hb2, ifT hb3, ifT hb4, if_neg (by omega)]
    obtain ⟨t, ht, rfl⟩ := fw_of (by decide) hb2
    obtain ⟨x, hx, rfl⟩ := fw_of (by decide) hb3
    obtain ⟨y, hy, rfl⟩ := fw_of (by decide) hb4
    rw [cl (n := t) (by omega), cl (n := x) (by omega), cl (n := y) (by omega)]
    have key : Con mX3_addMark [.ref 3, .int (nI t), .int (nI x), .int (nI y)] μ (fun r μ' => r = none ∧ μ' = mset (mset (mset (mset μ 10 (s 2 * 3) (nI t)) 10 (s 2 * 3 + 1) (nI x)) 10 (s 2 * 3 + 2) (nI y)) 3 4 (nI (s 2 + 1))) := by
      refine Con.of pnX3 (Nat.le_of_ble_eq_true rfl) (fun κ => wX3_addMark_0 3 _ _ _ μ isS_3 ?_)
      rw [c4, pk_mul, nI_add, nI_add, cl (n := s 2 * 3) (by omega), cl (n := s 2 * 3 + 1) (by omega), cl (n := s 2 * 3 + 2) (by omega)]
      refine ⟨fun z => absurd z (nnge (by decide) h5), fun _ => ⟨vin (by omega) (by decide), fun μ2 e2 => ⟨vin (by omega) (by decide), fun μ4 e4 => ⟨vin (by omega) (by decide), fun μ6 e6 μ9 e9 => ⟨rfl, ?_⟩⟩⟩⟩⟩
      have : μ6.1 3 4 = nI (s 2) := by rw [e6, ms_row (by decide), e4, ms_row (by decide), e2, ms_row (by decide)]; exact c4
      rw [e9, this, nI_add, e6, e4, e2]
    refine key.mono ?_
    rintro r μ1 ⟨rfl, e1⟩
    have R : ∀ z, z ≠ 3 → z ≠ 10 → μ1.1 z = μ.1 z := fun z z3 z9 => by rw [e1, ms_row z3, ms_row z9, ms_row z9, ms_row z9]
    have K : ∀ z, z ≠ 4 → μ1.1 3 z = μ.1 3 z := fun z hz => by rw [e1, ms_col hz, ms_row (by decide), ms_row (by decide), ms_row (by decide)]
    refine ⟨rfl, px (by rw [e1, ms_at]) (h.now hok (S := [3, 10]) ⟨hL.cg2 p0 (fun z h1 h2 => R z (by omega) (by omega)) (fun j hj _ h2 _ _ => mk_o h2 (by omega)), by rw [R _ (by decide) (by decide), mk_o (by omega) (by omega)]; exact c2, by rw [K _ (by decide), mk_o (by omega) (by omega)]; exact c3, by rw [e1, ms_at]; rfl, fun j hj => ?_, fun j hj => ?_, c7.cg p0 p3 (K _ (by decide)) (K _ (by decide)) (R _ (by decide) (by decide)) (mk_o (by omega) (by omega)) (mk_o (by omega) (by omega)) (fun j h1 h2 => mk_o (by omega) (by omega))⟩ (by rw [e1]; exact (((Eqx.rf.ms (by simp)).ms (by simp)).ms (by simp)).ms (by simp)) (by decide) (fun j hj => mk_o (by omega) (by omega)))⟩
    · rw [mk_o (by omega) (by omega)] at hj
      rw [R _ (by decide) (by decide), mk_o (by omega) (by omega)]; exact c5 j hj
    · have hj' : j < 3 * (s 2 + 1) := hj
      show μ1.1 10 j = _
      rw [e1, ms_row (by decide)]
      unfold mkF
      by_cases j2 : j = s 2 * 3 + 2
      · subst j2; rw [ms_at, if_neg (by omega), if_neg (by omega), if_neg (by omega), if_pos (by omega)]
      · rw [ms_col j2]
        by_cases j1 : j = s 2 * 3 + 1
        · subst j1; rw [ms_at, if_neg (by omega), if_neg (by omega), if_pos (by omega)]
        · rw [ms_col j1]
          by_cases j0 : j = s 2 * 3
          · subst j0; rw [ms_at, if_neg (by omega), if_pos (by omega)]
          · rw [ms_col j0, if_neg (by omega), if_neg (by omega), if_neg (by omega), if_neg (by omega)]; exact c6 j (by omega)
  · rw [nIlt (by omega) (by decide)] at h5
    rw [ifT hb2, ifT hb3, ifT hb4, if_pos (by omega)]; exact PX.on (kX4_full h hok)
  · rw [ifT hb2, ifT hb3, ifF hb4]; exact PX.on (kX4_bad h hok)
theorem mMark (b c d : Int32) {μ : Mm} {s : Ln} {n : Nat} (h : RM μ s) (hok : OKs n s) : Con mX5_mark [.ref 66, .int b, .int c, .int d] μ (PM (sMark b c d s) μ) := by
  obtain ⟨p0, p1, p2, p3, p4⟩ := id hok.1.1
  refine Con.of pnX5 (Nat.le_of_ble_eq_true rfl) (fun κ => wX5_mark_0 b c d μ ?_)
  rw [fwL b (by decide) (by decide), fwL d (by decide) (by decide), cl (n := 2) (by decide), h.1 2 (by decide)]
  unfold sMark
  refine ⟨fun hb2 => ?_, fun hb2 => ⟨fun hb3 => ?_, fun hb3 => ⟨fun hb4 => ⟨fun h5 => ?_, fun h5 => ?_⟩, fun hb4 => ?_⟩⟩⟩
  · rw [ifF hb2]; exact PM.on (kX5_badR (-2) h)
  · rw [ifT hb2, ifF hb3]; exact PM.on (kX5_badR (-2) h)
  · rw [nIe (by omega) (by decide)] at h5
    rw [ifT hb2, ifT hb3, ifT hb4, if_neg h5]
    obtain ⟨t, ht, rfl⟩ := fw_of (by decide) hb2
    obtain ⟨x, hx, rfl⟩ := fw_of (by decide) hb3
    obtain ⟨y, hy, rfl⟩ := fw_of (by decide) hb4
    rw [cl (n := t) (by omega), cl (n := x) (by omega), cl (n := y) (by omega), pk_mul, nI_add, nI_add, nI_add, cl (n := 68 + 3 * s 2) (by omega), cl (n := 68 + 3 * s 2 + 1) (by omega), cl (n := 68 + 3 * s 2 + 2) (by omega)]
    refine ⟨vin (by omega) (by decide), fun μ2 e2 => ⟨vin (by omega) (by decide), fun μ4 e4 => ⟨vin (by omega) (by decide), fun μ6 e6 μ9 e9 => ?_⟩⟩⟩
    have : μ6.1 67 2 = nI (s 2) := by rw [e6, ms_col (by omega), e4, ms_col (by omega), e2, ms_col (by omega)]; exact h.1 2 (by decide)
    rw [this, nI_add] at e9
    have R : ∀ z, z ≠ 67 → μ9.1 z = μ.1 z := fun z hz => by rw [e9, ms_row hz, e6, ms_row hz, e4, ms_row hz, e2, ms_row hz]
    refine pm (by rw [e9, ms_at]) (h.now hok (fun j hj => ?_) (fun z hz => R z (by omega)) (by rw [R 66 (by decide)]) (by rw [e9, e6, e4, e2]; rfl) (fun j hj => mk_o (by omega) (by omega)))
    rw [e9]
    unfold mkF
    by_cases j1' : j = 2
    · subst j1'; rw [ms_at, if_pos rfl]
    · rw [ms_col j1', if_neg j1', e6]
      by_cases j2 : j = 68 + 3 * s 2 + 2
      · subst j2; rw [ms_at, if_neg (by omega), if_neg (by omega), if_pos (by omega)]
      · rw [ms_col j2, e4]
        by_cases j1 : j = 68 + 3 * s 2 + 1
        · subst j1; rw [ms_at, if_neg (by omega), if_pos (by omega)]
        · rw [ms_col j1, e2]
          by_cases j0 : j = 68 + 3 * s 2
          · subst j0; rw [ms_at, if_pos (by omega)]
          · rw [ms_col j0, if_neg j0, if_neg j1, if_neg j2]; exact h.1 j hj
  · rw [nIe (by omega) (by decide)] at h5
    rw [ifT hb2, ifT hb3, ifT hb4, if_pos h5]; exact PM.on (kX5_fullR h)
  · rw [ifT hb2, ifT hb3, ifF hb4]; exact PM.on (kX5_badR (-2) h)
