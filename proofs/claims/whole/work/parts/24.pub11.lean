/-! ===== image, from ===== -/
def CpT (μ : Mm) (k r : Nat) (μ' : Mm) : Prop := (∀ a, a 0 ≤ 7 → LX μ (r + 1) a → LX μ' (k + 1) a) ∧ μ'.1 (k + 1) 6 = μ.1 (r + 1) 6 ∧ (∀ j, j < 20 → μ'.1 (k + 6) j = μ.1 (r + 6) j) ∧ (∀ j, j < 18 → μ'.1 (k + 7) j = μ.1 (r + 7) j) ∧ (∀ j, j < 232 → μ'.1 (k + 8) j = μ.1 (r + 8) j) ∧ μ'.1 k 2 = μ.1 r 2 ∧ μ'.1 k 4 = μ.1 r 4 ∧ μ'.1 k 6 = μ.1 r 6 ∧ μ'.1 k 7 = μ.1 r 7
theorem CpT.st {μ μ' : Mm} {k r n : Nat} {a : Ln} (h : CpT μ k r μ') (ho : SOK n a) (hs : St μ r a) : St μ' k a := by
  obtain ⟨d1, d2, d3, d4, d5, d6, d7, d8, d9⟩ := h
  obtain ⟨c1, c2, c3, c4, c5, c6, nx, g1, g2, g3, g4⟩ := hs
  obtain ⟨⟨p0, p1, p2, p3, p4⟩, -⟩ := ho
  refine ⟨d1 a p0 c1, d2.trans c2, d6.trans c3, d7.trans c4, fun j hj => (d3 j (by omega)).trans (c5 j hj), fun j hj => (d4 j (by omega)).trans (c6 j hj), nx, g1, d8.trans g2, d9.trans g3, fun e he => ?_⟩
  obtain ⟨b1, b2, b3, b4⟩ := g4 e he
  have hm : (nx + 8 - a 3 + e) % 8 < 8 := Nat.mod_lt _ (by decide)
  exact ⟨fun i hi => (d5 _ (by omega)).trans (b1 i hi), fun x hx => (d5 _ (by omega)).trans (b2 x hx), (d5 _ (by omega)).trans b3, (d5 _ (by omega)).trans b4⟩
theorem cpy_ok {n : Nat} (hn : n < 2 ^ 31) : ¬ (nI 0) < 0 ∧ ¬ (nI 0) < 0 ∧ ¬ (nI n) < 0 ∧ (nI 0).toNatClampNeg + (nI n).toNatClampNeg ≤ n ∧ (nI 0).toNatClampNeg + (nI n).toNatClampNeg ≤ n := by
  have h0 : (nI 0).toNatClampNeg = 0 := cl (by decide)
  rw [h0, cl hn]
  refine ⟨by decide, by decide, ?_, by omega, by omega⟩
  rw [← nI_0, nIlt hn (by decide)]; omega
def St9 (k : Nat) : List Nat := [k, k + 1, k + 2, k + 3, k + 4, k + 5, k + 6, k + 7, k + 8]
theorem kX3_copyFrom (k r : Nat) (μ : Mm) (hk : isS k) (hr : isS r) (hL : isL (k + 1)) (hL2 : isL (r + 1)) (hd : k + 9 ≤ r ∨ r + 9 ≤ k) : Con mX3_copyFrom [.ref k, .ref r] μ (fun r0 μ' => r0 = none ∧ CpT μ k r μ' ∧ μ'.1 k 8 = μ.1 k 8 ∧ Eqx (St9 k) μ μ') := by
  refine Con.of pnX3 (Nat.le_of_ble_eq_true rfl) (fun κ => wX3_copyFrom_0 k r μ hk hr ?_)
  refine (kX0_copyFrom (k + 1) (r + 1) μ hL hL2 (by omega)).mono ?_
  rintro r0 μ1 ⟨rfl, hC⟩
  refine ⟨rfl, cpy_ok (by decide), fun μ2 e2 μ3 e3 => ⟨cpy_ok (by decide), fun μ4 e4 μ5 e5 => ⟨cpy_ok (by decide), fun μ6 e6 μ7 e7 μ8 e8 => ?_⟩⟩⟩
  rw [cl (n := 0) (by decide), cl (n := 20) (by decide)] at e2
  rw [cl (n := 0) (by decide), cl (n := 18) (by decide)] at e4
  rw [cl (n := 0) (by decide), cl (n := 232) (by decide)] at e6
  have hE := hC.2.2.2
  have R1 : ∀ z, z ≤ k ∨ k + 6 ≤ z → μ1.1 z = μ.1 z := fun z hz => hE.2 z (by simp; omega)
  have R2 : ∀ z, z ≠ k + 6 → μ2.1 z = μ1.1 z := fun z hz => by rw [e2, mc_row hz]
  have R3 : ∀ z, z ≠ k → μ3.1 z = μ2.1 z := fun z hz => by rw [e3, ms_row hz]
  have R4 : ∀ z, z ≠ k + 7 → μ4.1 z = μ3.1 z := fun z hz => by rw [e4, mc_row hz]
  have R5 : ∀ z, z ≠ k → μ5.1 z = μ4.1 z := fun z hz => by rw [e5, ms_row hz]
  have R6 : ∀ z, z ≠ k + 8 → μ6.1 z = μ5.1 z := fun z hz => by rw [e6, mc_row hz]
  have R7 : ∀ z, z ≠ k → μ7.1 z = μ6.1 z := fun z hz => by rw [e7, ms_row hz]
  have R8 : ∀ z, z ≠ k → μ8.1 z = μ7.1 z := fun z hz => by rw [e8, ms_row hz]
  have RR : ∀ z, z ≠ k → z ≠ k + 6 → z ≠ k + 7 → z ≠ k + 8 → μ8.1 z = μ1.1 z := fun z h1 h2 h3 h4 => by rw [R8 z h1, R7 z h1, R6 z h4, R5 z h1, R4 z h3, R3 z h1, R2 z h2]
  have r2 : μ2.1 r = μ.1 r := by rw [R2 _ (by omega), R1 _ (by omega)]
  have r4 : μ4.1 r = μ.1 r := by rw [R4 _ (by omega), R3 _ (by omega), r2]
  have r6 : μ6.1 r = μ.1 r := by rw [R6 _ (by omega), R5 _ (by omega), r4]
  have r7 : μ7.1 r = μ.1 r := by rw [R7 _ (by omega), r6]
  refine ⟨rfl, ⟨fun a h7 hl => (hC.lx h7 hl).cg h7 (fun z h1 h2 => RR z (by omega) (by omega) (by omega) (by omega)) (fun _ _ => rfl), ?_, fun j hj => ?_, fun j hj => ?_, fun j hj => ?_, ?_, ?_, ?_, ?_⟩, ?_, ⟨?_, fun z hz => ?_⟩⟩
  · rw [RR _ (by omega) (by omega) (by omega) (by omega)]; exact hC.hm
  · rw [R8 _ (by omega), R7 _ (by omega), R6 _ (by omega), R5 _ (by omega), R4 _ (by omega), R3 _ (by omega), e2, mc_in (by omega) (by omega), R1 _ (by omega), Nat.zero_add, Nat.sub_zero]
  · rw [R8 _ (by omega), R7 _ (by omega), R6 _ (by omega), R5 _ (by omega), e4, mc_in (by omega) (by omega), R3 _ (by omega), R2 _ (by omega), R1 _ (by omega), Nat.zero_add, Nat.sub_zero]
  · rw [R8 _ (by omega), R7 _ (by omega), e6, mc_in (by omega) (by omega), R5 _ (by omega), R4 _ (by omega), R3 _ (by omega), R2 _ (by omega), R1 _ (by omega), Nat.zero_add, Nat.sub_zero]
  · rw [e8, ms_col (by decide), e7, ms_col (by decide), R6 _ (by omega), e5, ms_col (by decide), R4 _ (by omega), e3, ms_at, r2]
  · rw [e8, ms_col (by decide), e7, ms_col (by decide), R6 _ (by omega), e5, ms_at, r4]
  · rw [e8, ms_col (by decide), e7, ms_at, r6]
  · rw [e8, ms_at, r7]
  · rw [e8, ms_col (by decide), e7, ms_col (by decide), R6 _ (by omega), e5, ms_col (by decide), R4 _ (by omega), e3, ms_col (by decide), R2 _ (by omega), R1 _ (by omega)]
  · rw [e8, e7, e6, e5, e4, e3, e2]; exact hE.1
  · simp only [St9, List.mem_cons, List.not_mem_nil, or_false, not_or] at hz
    rw [RR z (by omega) (by omega) (by omega) (by omega), R1 z (by omega)]
def imF (s : Ln) (i : Nat) : Ln := fun j => if j = 2000 + i then 1 else if 1000 + 318 * i ≤ j ∧ j < 1318 + 318 * i then s (j - (1000 + 318 * i)) else s j
def frF (s : Ln) (i : Nat) : Ln := fun j => if j < 318 then s (1000 + 318 * i + j) else s j
theorem im_o {s : Ln} {i j : Nat} (h1 : j ≠ 2000 + i) (h : j < 1000 + 318 * i ∨ 1318 + 318 * i ≤ j) : imF s i j = s j := by unfold imF; rw [if_neg h1, if_neg (by omega)]
theorem im_i {s : Ln} {i j : Nat} (hi : i < 2) (h : j < 318) : imF s i (1000 + 318 * i + j) = s j := by unfold imF; rw [if_neg (by omega), if_pos (by omega), Nat.add_sub_cancel_left]
theorem im_k {s : Ln} {i : Nat} : imF s i (2000 + i) = 1 := if_pos rfl
theorem im_i0 {s : Ln} {j : Nat} (h : j < 318) : imF s 0 (1000 + j) = s j := im_i (i := 0) (by decide) h
theorem im_i1 {s : Ln} {j : Nat} (h : j < 318) : imF s 1 (1318 + j) = s j := im_i (i := 1) (by decide) h
def sImage (x : Int32) (s : Ln) : Int32 × Ln := if fwith x (nI 0) (nI 1) = true then (nI 1, imF s x.toNatClampNeg) else (-2, rfs s 0)
def sFrom (x : Int32) (s : Ln) : Int32 × Ln := if fwith x (nI 0) (nI 1) = true then (if s (2000 + x.toNatClampNeg) = 0 then (-3, rfs s 1) else (nI 1, frF s x.toNatClampNeg)) else (-2, rfs s 0)
theorem OKs.im {n : Nat} {s : Ln} (h : OKs n s) {i : Nat} (hi : i < 2) : OKs n (imF s i) := by
  obtain ⟨o1, o2, o3, o4, o5, o6, o7, o8⟩ := h
  have key : SOK n (fun j => imF s i (1000 + j)) ∧ SOK n (fun j => imF s i (1318 + j)) ∧ imF s i 2000 ≤ 1 ∧ imF s i 2001 ≤ 1 := by
    match i, hi with
    | 0, _ => exact ⟨o1.cg (fun j hj => im_i0 hj), o3.cg (fun j hj => im_o (by omega) (by omega)), by rw [show imF s 0 2000 = 1 from im_k]; exact Nat.le_refl 1, by rw [im_o (by omega) (by omega)]; exact o4.2⟩
    | 1, _ => exact ⟨o2.cg (fun j hj => im_o (by omega) (by omega)), o1.cg (fun j hj => im_i1 hj), by rw [im_o (by omega) (by omega)]; exact o4.1, by rw [show imF s 1 2001 = 1 from im_k]; exact Nat.le_refl 1⟩
  refine ⟨o1.cg (fun j hj => im_o (by omega) (by omega)), key.1, key.2.1, key.2.2, fun j hj => by rw [im_o (by omega) (by omega)]; exact o5 j hj, ⟨by rw [im_o (by omega) (by omega)]; exact o6.1, by rw [im_o (by omega) (by omega)]; exact o6.2.1, by rw [im_o (by omega) (by omega)]; exact o6.2.2⟩, by rw [im_o (by omega) (by omega)]; exact o7, fun j hj => ?_⟩
  rw [im_o (by omega) (by omega)] at hj ⊢
  exact o8 j hj
theorem OKs.fr {n : Nat} {s : Ln} (h : OKs n s) {i : Nat} (hi : i < 2) : OKs (n + 1) (frF s i) := by
  refine h.now ?_ (fun j hj => if_neg (by omega))
  match i, hi with
  | 0, _ => exact (h.2.1.up (Nat.le_succ n)).cg (fun j hj => if_pos hj)
  | 1, _ => exact (h.2.2.1.up (Nat.le_succ n)).cg (fun j hj => if_pos hj)
theorem oImage (x : Int32) {s : Ln} {n : Nat} (h : OKs n s) : OKs (n + 1) (sImage x s).2 := by
  unfold sImage
  cases hb : fwith x (nI 0) (nI 1) with
  | false => exact h.rf (by decide)
  | true =>
    obtain ⟨i, hi, rfl⟩ := fw_of (by decide) hb
    rw [ifT rfl, cl (n := i) (by omega)]
    exact (h.im (by omega)).up (Nat.le_succ n)
theorem oFrom (x : Int32) {s : Ln} {n : Nat} (h : OKs n s) : OKs (n + 1) (sFrom x s).2 := by
  unfold sFrom
  cases hb : fwith x (nI 0) (nI 1) with
  | false => exact h.rf (by decide)
  | true =>
    obtain ⟨i, hi, rfl⟩ := fw_of (by decide) hb
    rw [ifT rfl, cl (n := i) (by omega)]
    by_cases e : s (2000 + i) = 0
    · rw [if_pos e]; exact h.rf (by decide)
    · rw [if_neg e]; exact h.fr (by omega)
theorem isSL {i : Nat} (hi : i < 2) : isS (12 + 9 * i) ∧ isL (12 + 9 * i + 1) := by
  match i, hi with
  | 0, _ => exact ⟨(by decide : 12 ∈ [3, 12, 21]), (by decide : 13 ∈ [4, 13, 22, 34, 39, 44, 49, 54, 61])⟩
  | 1, _ => exact ⟨(by decide : 21 ∈ [3, 12, 21]), (by decide : 22 ∈ [4, 13, 22, 34, 39, 44, 49, 54, 61])⟩
theorem kX4_imageAt {i : Nat} (hi : i < 2) (μ : Mm) : Con mX4_imageAt [.ref 0, .int (nI i)] μ (fun r μ' => r = some (.ref (12 + 9 * i)) ∧ μ' = μ) := by
  refine Con.of pnX4 (Nat.le_of_ble_eq_true rfl) (fun κ => wX4_imageAt_0 _ μ ?_)
  rw [nI0 (by omega)]
  exact ⟨fun z => ⟨by rw [show i = 1 by omega], rfl⟩, fun z => ⟨by rw [z], rfl⟩⟩
theorem xImage (x : Int32) {μ : Mm} {s : Ln} {n : Nat} (h : RX μ s) (hok : OKs n s) : Con mX4_image [.ref 0, .int x] μ (PX (sImage x s) μ) := by
  refine Con.of pnX4 (Nat.le_of_ble_eq_true rfl) (fun κ => wX4_image_0 x μ ⟨fun hb => ?_, fun hb => ?_⟩)
  · obtain ⟨i, hi, rfl⟩ := fw_of (by decide) hb
    unfold sImage
    rw [ifT hb, cl (n := i) (by omega)]
    have hi2 : i < 2 := by omega
    have hS : isS (12 + 9 * i) ∧ isL (12 + 9 * i + 1) := isSL hi2
    refine (kX4_imageAt hi2 μ).mono ?_
    rintro r μ1 ⟨rfl, rfl⟩
    refine ⟨_, rfl, hS.1, (kX3_copyFrom (12 + 9 * i) 3 μ1 hS.1 isS_3 hS.2 isL_4 (by omega)).mono ?_⟩
    rintro r μ3 ⟨rfl, hC, h8, hE⟩
    refine ⟨rfl, fun μ4 e4 => px rfl ?_⟩
    obtain ⟨⟨i0, i1, i2, i3, i4, i5, i6⟩, r', f, t⟩ := h
    obtain ⟨o1, o2, o3, -⟩ := id hok
    have hC4 : CpT μ1 (12 + 9 * i) 3 μ4 := by
      obtain ⟨d1, d2, d3, d4, d5, d6, d7, d8, d9⟩ := hC
      refine ⟨fun a h7 hl => (d1 a h7 hl).cg h7 (fun z h1 h2 => by rw [e4, ms_row (by omega)]) (fun _ _ => rfl), by rw [e4, ms_row (by omega)]; exact d2, fun j hj => by rw [e4, ms_row (by omega)]; exact d3 j hj, fun j hj => by rw [e4, ms_row (by omega)]; exact d4 j hj, fun j hj => by rw [e4, ms_row (by omega)]; exact d5 j hj, ?_, ?_, ?_, ?_⟩ <;> rw [e4, ms_col (by decide)]
      · exact d6
      · exact d7
      · exact d8
      · exact d9
    have hR : ∀ z, z < 12 + 9 * i ∨ 21 + 9 * i ≤ z → μ4.1 z = μ1.1 z := fun z hz => by
      rw [e4, ms_row (by omega)]
      exact hE.2 z (by simp only [St9, List.mem_cons, List.not_mem_nil, or_false, not_or]; omega)
    have h2 : μ4.2 = μ1.2 := by rw [e4]; exact hE.1
    have hn := hC4.st o1 i0
    have h48 : μ4.1 (12 + 9 * i) 8 = nI 1 := by rw [e4, ms_at]
    obtain ⟨nx, g1, g2⟩ := i0.2.2.2.2.2.2.nx
    have h46 : ∃ x, x < 8 ∧ μ4.1 (12 + 9 * i) 6 = nI x := ⟨nx, g1, hC4.2.2.2.2.2.2.2.1.trans g2⟩
    have A : RXs μ4 (imF s i) := by
      refine ⟨i0.cg o1.1.1 o1.1.2.1 o1.1.2.2.1 o1.1.2.2.2.1 (fun x h1 h2 => hR x (by omega)) (fun j hj => im_o (by omega) (by omega)), ?_⟩
      match i, hi2 with
      | 0, _ => exact ⟨fun _ => hn.cg o1.1.1 o1.1.2.1 o1.1.2.2.1 o1.1.2.2.2.1 (fun _ _ _ => rfl) (fun j hj => im_i0 hj), fun z => (i2 (by rw [im_o (by omega) (by omega)] at z; exact z)).cg o3.1.1 o3.1.2.1 o3.1.2.2.1 o3.1.2.2.2.1 (fun x h1 h2 => hR x (by omega)) (fun j hj => im_o (by omega) (by omega)), h48, by rw [hR 21 (by omega), im_o (by omega) (by omega)]; exact i4, h46, by rw [hR 21 (by omega)]; exact i6⟩
      | 1, _ => exact ⟨fun z => (i1 (by rw [im_o (by omega) (by omega)] at z; exact z)).cg o2.1.1 o2.1.2.1 o2.1.2.2.1 o2.1.2.2.2.1 (fun x h1 h2 => hR x (by omega)) (fun j hj => im_o (by omega) (by omega)), fun _ => hn.cg o1.1.1 o1.1.2.1 o1.1.2.2.1 o1.1.2.2.2.1 (fun _ _ _ => rfl) (fun j hj => im_i1 hj), by rw [hR 12 (by omega), im_o (by omega) (by omega)]; exact i3, h48, by rw [hR 12 (by omega)]; exact i5, h46⟩
    refine ⟨⟨A, ⟨?_, ?_, ?_⟩, ⟨?_, ?_⟩, ?_, fun j hj => ?_⟩, fun a ha => ⟨hR a (by omega), by rw [h2]⟩⟩
    · rw [hR 0 (by omega), im_o (by omega) (by omega)]; exact r'.1
    · rw [hR 0 (by omega), im_o (by omega) (by omega)]; exact r'.2.1
    · rw [hR 0 (by omega), im_o (by omega) (by omega)]; exact r'.2.2
    · rw [h2, im_o (by omega) (by omega)]; exact f.1
    · rw [h2, im_o (by omega) (by omega)]; exact f.2
    · rw [hR 59 (by omega), im_o (by omega) (by omega)]; exact t.1
    · rw [im_o (by omega) (by omega)] at hj
      rw [hR 60 (by omega), im_o (by omega) (by omega)]; exact t.2 j hj
  · unfold sImage; rw [ifF hb]; exact PX.on (kX4_bad h hok)
theorem xFrom (x : Int32) {μ : Mm} {s : Ln} {n : Nat} (h : RX μ s) (hok : OKs n s) : Con mX4_from [.ref 0, .int x] μ (PX (sFrom x s) μ) := by
  refine Con.of pnX4 (Nat.le_of_ble_eq_true rfl) (fun κ => wX4_from_0 x μ ⟨fun hb => ?_, fun hb => ?_⟩)
  · obtain ⟨i, hi, rfl⟩ := fw_of (by decide) hb
    unfold sFrom
    rw [ifT hb, cl (n := i) (by omega)]
    have hi2 : i < 2 := by omega
    have hS : isS (12 + 9 * i) ∧ isL (12 + 9 * i + 1) := isSL hi2
    refine (kX4_imageAt hi2 μ).mono ?_
    rintro r μ1 ⟨rfl, rfl⟩
    obtain ⟨⟨i0, i1, i2, i3, i4, i5, i6⟩, -⟩ := id h
    obtain ⟨o1, o2, o3, o4, -⟩ := id hok
    have key : μ1.1 (12 + 9 * i) 8 = nI (s (2000 + i)) ∧ s (2000 + i) ≤ 1 ∧ (s (2000 + i) = 1 → St μ1 (12 + 9 * i) (fun j => s (1000 + 318 * i + j))) ∧ SOK n (fun j => s (1000 + 318 * i + j)) := by
      match i, hi2 with
      | 0, _ => exact ⟨i3, o4.1, i1, o2⟩
      | 1, _ => exact ⟨i4, o4.2, i2, o3⟩
    obtain ⟨k1, k2, k3, k4⟩ := key
    refine ⟨_, rfl, hS.1, ?_⟩
    rw [k1, nI0 (by omega)]
    refine ⟨fun z => ?_, fun z => ?_⟩
    · rw [if_neg z]
      refine (kX3_copyFrom 3 (12 + 9 * i) μ1 isS_3 hS.1 isL_4 hS.2 (by omega)).mono ?_
      rintro r μ3 ⟨rfl, hC, h8, hE⟩
      refine ⟨rfl, px rfl (h.now hok ?_ hE (by decide) (fun j hj => if_neg (by omega)))⟩
      exact (hC.st k4 (k3 (by omega))).cg k4.1.1 k4.1.2.1 k4.1.2.2.1 k4.1.2.2.2.1 (fun _ _ _ => rfl) (fun j hj => if_pos hj)
    · rw [if_pos z]; exact PX.on (kX4_no h hok)
  · unfold sFrom; rw [ifF hb]; exact PX.on (kX4_bad h hok)
theorem mImage (x : Int32) {μ : Mm} {s : Ln} {n : Nat} (h : RM μ s) (_hok : OKs n s) : Con mX5_image [.ref 66, .int x] μ (PM (sImage x s) μ) := by
  refine Con.of pnX5 (Nat.le_of_ble_eq_true rfl) (fun κ => wX5_image_0 x μ ?_)
  rw [fwL x (by decide) (by decide)]
  refine ⟨fun hb => ?_, fun hb => ?_⟩
  · obtain ⟨i, hi, rfl⟩ := fw_of (by decide) hb
    unfold sImage
    rw [ifT hb, cl (n := i) (by omega)]
    have hi2 : i < 2 := by omega
    refine cnt_loop 318 (fun t μ1 => Vq κ (PM (nI 1, imF s i) μ) mX5_image 19 [(0, .ref 66), (1, .int (nI i)), (2, .int (nI t))] [] μ1) (fun t μ1 => Eqx [68] μ μ1 ∧ (∀ j, j < t → μ1.1 68 (318 * i + j) = nI (s j)) ∧ ∀ j, j < 318 * i ∨ 318 * i + t ≤ j → μ1.1 68 j = μ.1 68 j) ?_ ?_ 0 μ (Nat.zero_le _) ⟨Eqx.rf, fun j hj => absurd hj (by omega), fun _ _ => rfl⟩
    · rintro μ1 ⟨hE, h1, h2⟩
      refine wX5_image_19 _ _ μ1 ⟨fun _ => ⟨vin hi2 (by decide), fun μ2 e2 => pm rfl ?_⟩, fun z => absurd (nge (by omega) (Nat.le_refl _)) z⟩
      rw [cl (n := i) (by omega), show vp_nar .boolean (nI 1) = nI 1 from rfl] at e2
      have hR : ∀ z, z ≠ 68 → z ≠ 69 → μ2.1 z = μ.1 z := fun z z1 z2 => by rw [e2, ms_row z2]; exact hE.2 z (nm1 z1)
      have h22 : μ2.2 = μ.2 := by rw [e2]; exact hE.1
      obtain ⟨g1, ⟨g2, g3⟩, g4, g5, g6⟩ := h
      refine ⟨⟨fun j hj => ?_, ⟨fun j hj => ?_, fun j hj => ?_⟩, fun j hj => ?_, ⟨?_, ?_⟩, ?_, fun j hj => ?_⟩, fun a ha => ⟨hR a (by omega) (by omega), by rw [h22]⟩⟩
      · rw [hR 67 (by decide) (by decide), im_o (by omega) (by omega)]; exact g1 j hj
      · rw [e2, ms_row (by decide)]
        by_cases z : 318 * i ≤ j ∧ j < 318 * i + 318
        · have e : 1000 + j = 1000 + 318 * i + (j - 318 * i) := by omega
          rw [e, im_i hi2 (by omega), ← h1 (j - 318 * i) (by omega), show 318 * i + (j - 318 * i) = j by omega]
        · rw [h2 j (by omega), im_o (by omega) (by omega)]; exact g2 j hj
      · rw [e2]
        by_cases z : j = i
        · subst z; rw [ms_at, im_k]
        · rw [ms_col z, im_o (by omega) (by omega), hE.2 69 (nm1 (by decide))]; exact g3 j hj
      · rw [hR 70 (by decide) (by decide), im_o (by omega) (by omega)]; exact g4 j hj
      · rw [h22, im_o (by omega) (by omega)]; exact g5.1
      · rw [h22, im_o (by omega) (by omega)]; exact g5.2
      · rw [hR 66 (by decide) (by decide), im_o (by omega) (by omega)]; exact g6.1
      · rw [im_o (by omega) (by omega)] at hj
        rw [hR 74 (by decide) (by decide), im_o (by omega) (by omega)]; exact g6.2 j hj
    · rintro t μ1 ht ⟨hE, h1, h2⟩ ih
      refine wX5_image_19 _ _ μ1 ⟨fun z => absurd z (nnge (by omega) ht), fun _ => ?_⟩
      rw [pk_mul, nI_add (318 * i) t, nI_add t 1, cl (n := t) (by omega), cl (n := 318 * i + t) (by omega)]
      refine ⟨vin ht (by decide), vin (by omega) (by decide), fun μ5 e5 => ih μ5 ⟨?_, fun j hj => ?_, fun j hj => ?_⟩⟩
      · rw [e5]; exact hE.tr ⟨rfl, fun a ha => ms_row (fun z => ha (by rw [z]; simp))⟩
      · rw [e5]
        by_cases z : j = t
        · subst z; rw [ms_at, hE.2 67 (nm1 (by decide))]; exact h.1 j (by omega)
        · rw [ms_col (by omega)]; exact h1 j (by omega)
      · rw [e5, ms_col (by omega)]; exact h2 j (by omega)
  · unfold sImage; rw [ifF hb]; exact PM.on (kX5_badR (-2) h)
theorem mFrom (x : Int32) {μ : Mm} {s : Ln} {n : Nat} (h : RM μ s) (hok : OKs n s) : Con mX5_from [.ref 66, .int x] μ (PM (sFrom x s) μ) := by
  refine Con.of pnX5 (Nat.le_of_ble_eq_true rfl) (fun κ => wX5_from_0 x μ ?_)
  rw [fwL x (by decide) (by decide)]
  refine ⟨fun hb => ?_, fun hb => ?_⟩
  · obtain ⟨i, hi, rfl⟩ := fw_of (by decide) hb
    unfold sFrom
    rw [ifT hb, cl (n := i) (by omega)]
    have hi2 : i < 2 := by omega
    have k2 : s (2000 + i) ≤ 1 := by
      match i, hi2 with
      | 0, _ => exact hok.2.2.2.1.1
      | 1, _ => exact hok.2.2.2.1.2
    rw [h.2.1.2 i hi2, nI0 (by omega)]
    refine ⟨vin hi2 (by decide), fun z => ?_, fun z => ?_⟩
    · rw [if_neg z]
      refine cnt_loop 318 (fun t μ1 => Vq κ (PM (nI 1, frF s i) μ) mX5_from 33 [(0, .ref 66), (1, .int (nI i)), (2, .int (nI t))] [] μ1) (fun t μ1 => Eqx [67] μ μ1 ∧ (∀ j, j < t → μ1.1 67 j = nI (s (1000 + 318 * i + j)))) ?_ ?_ 0 μ (Nat.zero_le _) ⟨Eqx.rf, fun j hj => absurd hj (by omega)⟩
      · rintro μ1 ⟨hE, h1⟩
        refine wX5_from_33 _ _ μ1 ⟨fun _ => pm rfl (h.now hok (fun j hj => ?_) (fun x hx => hE.2 x (nm1 (by omega))) (by rw [hE.2 66 (nm1 (by decide))]) hE.1 (fun j hj => if_neg (by omega))), fun z => absurd (nge (by omega) (Nat.le_refl _)) z⟩
        unfold frF; rw [if_pos hj]; exact h1 j hj
      · rintro t μ1 ht ⟨hE, h1⟩ ih
        refine wX5_from_33 _ _ μ1 ⟨fun z => absurd z (nnge (by omega) ht), fun _ => ?_⟩
        rw [pk_mul, nI_add (318 * i) t, nI_add t 1, cl (n := t) (by omega), cl (n := 318 * i + t) (by omega)]
        refine ⟨vin (by omega) (by decide), vin ht (by decide), fun μ5 e5 => ih μ5 ⟨?_, fun j hj => ?_⟩⟩
        · rw [e5]; exact hE.tr ⟨rfl, fun a ha => ms_row (fun z => ha (by rw [z]; simp))⟩
        · rw [e5]
          by_cases z : j = t
          · subst z; rw [ms_at, hE.2 68 (nm1 (by decide)), h.2.1.1 _ (by omega), Nat.add_assoc]
          · rw [ms_col (by omega)]; exact h1 j (by omega)
    · rw [if_pos z]; exact PM.on (kX5_noR h)
  · unfold sFrom; rw [ifF hb]; exact PM.on (kX5_badR (-2) h)
