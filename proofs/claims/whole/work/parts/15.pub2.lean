/-! ===== hill, type, clear, status, part, forget, count ===== -/
theorem fw_no {x : Int32} {n : Nat} (hn : n < 2 ^ 31) (h : ∀ j, j ≤ n → ¬ x = nI j) : fwith x (nI 0) (nI n) = false := by
  cases e : fwith x (nI 0) (nI n) with
  | false => rfl
  | true =>
    obtain ⟨j, hj, e2⟩ := fw_of hn e
    exact absurd e2 (h j hj)
theorem fw_yes {j n : Nat} (hn : n < 2 ^ 31) (h : j ≤ n) : fwith (nI j) (nI 0) (nI n) = true := (fw_nI (by omega) (by decide) hn).mpr ⟨Nat.zero_le _, h⟩
-- hill
theorem kX0_raise (k h : Nat) (x y z : Int32) (μ : Mm) (hk : isL k) (hh : h < 7) (h1 : μ.1 k 1 = nI h) : Con mX0_raise [.ref k, .int x, .int y, .int z] μ (fun r μ' => r = none ∧ μ' = mset (mset (mset (mset μ (k + 1) h x) (k + 2) h y) (k + 3) h z) k 1 (nI (h + 1))) := by
  refine Con.of pnX0 (Nat.le_of_ble_eq_true rfl) (fun κ => wX0_raise_0 k _ _ _ μ hk ?_)
  rw [h1, cl (by omega)]
  refine ⟨fun z => absurd z (nnge (by decide) hh), fun _ => ⟨vin hh (by decide), fun μ2 e2 => ?_⟩⟩
  have a2 : μ2.1 k 1 = nI h := by rw [e2, ms_row (by omega)]; exact h1
  rw [a2, cl (by omega)]
  refine ⟨vin hh (by decide), fun μ4 e4 => ?_⟩
  have a4 : μ4.1 k 1 = nI h := by rw [e4, ms_row (by omega)]; exact a2
  rw [a4, cl (by omega)]
  refine ⟨vin hh (by decide), fun μ6 e6 μ7 e7 => ⟨rfl, ?_⟩⟩
  have a6 : μ6.1 k 1 = nI h := by rw [e6, ms_row (by omega)]; exact a4
  rw [e7, a6, nI_add, e6, e4, e2]
def hlF (s : Ln) (k c z : Nat) : Ln := fun j => if j = 0 then s 0 + 1 else if j = 7 + s 0 then z else if j = 41 + s 0 then c else if j = 34 + s 0 then k else if j = 3 then 0 else s j
def sHill (x y z : Int32) (s : Ln) : Int32 × Ln := if fwith x (nI 0) (nI 5) = true then (if fwith y (nI 0) (nI 19) = true then (if fwith z (nI 0) (nI 59) = true then (if tkn s y.toNatClampNeg (s 0) = true then (-3, rfs s 1) else (if s 0 = 7 then (-4, rfs s 2) else (nI (s 0), hlF s x.toNatClampNeg y.toNatClampNeg z.toNatClampNeg))) else (-2, rfs s 0)) else (-2, rfs s 0)) else (-2, rfs s 0)
theorem hl_o {s : Ln} {k c z j : Nat} (h0 : j ≠ 0) (h3 : j ≠ 3) (h7 : j ≠ 7 + s 0) (h41 : j ≠ 41 + s 0) (h34 : j ≠ 34 + s 0) : hlF s k c z j = s j := by
  unfold hlF; rw [if_neg h0, if_neg h7, if_neg h41, if_neg h34, if_neg h3]
theorem hl_ok {n : Nat} {s : Ln} {k c z : Nat} (h : SOK n s) (h7 : s 0 < 7) (hk : k < 6) (hc : c < 20) (hz : z < 60) : SOK n (hlF s k c z) := by
  obtain ⟨⟨p0, p1, p2, p3, p4⟩, g2, g3, g4, g5, g6⟩ := h
  have ho : ∀ j, j ≠ 0 → j ≠ 3 → j ≠ 7 + s 0 → j ≠ 41 + s 0 → j ≠ 34 + s 0 → hlF s k c z j = s j := fun j a b c d e => hl_o a b c d e
  refine ⟨⟨by show s 0 + 1 ≤ 7; omega, by rw [ho _ (by omega) (by omega) (by omega) (by omega) (by omega)]; exact p1, by rw [ho _ (by omega) (by omega) (by omega) (by omega) (by omega)]; exact p2, ?_, by rw [ho _ (by omega) (by omega) (by omega) (by omega) (by omega)]; exact p4⟩, ⟨?_, ?_, fun i hi => ?_, fun q hq => ?_⟩, fun i hi => ⟨?_, ?_⟩, fun r hr => ?_, fun r hr => ?_, fun e he => (g6 e he).cg (fun j hj => ho _ (by omega) (by omega) (by omega) (by omega) (by omega))⟩
  · unfold hlF; rw [if_neg (by decide), if_neg (by omega), if_neg (by omega), if_neg (by omega), if_pos rfl]; omega
  · show hlF s k c z (5 + 0) ≤ _
    rw [ho _ (by omega) (by omega) (by omega) (by omega) (by omega)]; exact g2.1
  · show hlF s k c z (5 + 1) + sm (fun q => hlF s k c z (5 + (9 + q))) 20 ≤ _
    rw [ho _ (by omega) (by omega) (by omega) (by omega) (by omega), sm_cg (f := fun q => hlF s k c z (5 + (9 + q))) (g := fun q => s (5 + (9 + q))) (fun q hq => ho _ (by omega) (by omega) (by omega) (by omega) (by omega))]
    exact g2.2.1
  · show hlF s k c z (5 + (2 + i)) < 60
    by_cases e : i = s 0
    · unfold hlF; rw [if_neg (by omega), if_pos (by omega)]; exact hz
    · rw [ho _ (by omega) (by omega) (by omega) (by omega) (by omega)]; exact g2.2.2.1 i hi
  · show hlF s k c z (5 + (9 + q)) ≤ 9
    rw [ho _ (by omega) (by omega) (by omega) (by omega) (by omega)]; exact g2.2.2.2 q hq
  · by_cases e : i = s 0
    · unfold hlF; rw [if_neg (by omega), if_neg (by omega), if_neg (by omega), if_pos (by omega)]; exact hk
    · rw [ho _ (by omega) (by omega) (by omega) (by omega) (by omega)]; exact (g3 i hi).1
  · by_cases e : i = s 0
    · unfold hlF; rw [if_neg (by omega), if_neg (by omega), if_pos (by omega)]; exact hc
    · rw [ho _ (by omega) (by omega) (by omega) (by omega) (by omega)]; exact (g3 i hi).2
  · rw [ho _ (by omega) (by omega) (by omega) (by omega) (by omega), ho _ (by omega) (by omega) (by omega) (by omega) (by omega), ho _ (by omega) (by omega) (by omega) (by omega) (by omega), ho _ (by omega) (by omega) (by omega) (by omega) (by omega)]; exact g4 r hr
  · rw [ho _ (by omega) (by omega) (by omega) (by omega) (by omega), ho _ (by omega) (by omega) (by omega) (by omega) (by omega), ho _ (by omega) (by omega) (by omega) (by omega) (by omega)]; exact g5 r hr
theorem oHill (x y z : Int32) {s : Ln} {n : Nat} (h : OKs n s) : OKs (n + 1) (sHill x y z s).2 := by
  unfold sHill
  cases hb : fwith x (nI 0) (nI 5) with
  | false => exact h.rf (by decide)
  | true =>
    rw [ifT rfl]
    cases hb2 : fwith y (nI 0) (nI 19) with
    | false => exact h.rf (by decide)
    | true =>
      rw [ifT rfl]
      cases hb3 : fwith z (nI 0) (nI 59) with
      | false => exact h.rf (by decide)
      | true =>
        rw [ifT rfl]
        obtain ⟨k, hk, rfl⟩ := fw_of (by decide) hb
        obtain ⟨c, hc, rfl⟩ := fw_of (by decide) hb2
        obtain ⟨w, hw, rfl⟩ := fw_of (by decide) hb3
        rw [cl (n := k) (by omega), cl (n := c) (by omega), cl (n := w) (by omega)]
        cases ht : tkn s c (s 0) with
        | true => exact h.rf (by decide)
        | false =>
          rw [ifF rfl]
          by_cases e : s 0 = 7
          · rw [if_pos e]; exact h.rf (by decide)
          · rw [if_neg e]
            have := h.1.1.1
            exact h.now ((hl_ok h.1 (by omega) (by omega) (by omega) (by omega)).up (by omega)) (fun j hj => hl_o (by omega) (by omega) (by omega) (by omega) (by omega))
theorem xHill (x y z : Int32) {μ : Mm} {s : Ln} {n : Nat} (h : RX μ s) (hok : OKs n s) (hn : n ≤ 600) : Con mX4_hill [.ref 0, .int x, .int y, .int z] μ (PX (sHill x y z s) μ) := by
  refine Con.of pnX4 (Nat.le_of_ble_eq_true rfl) (fun κ => wX4_hill_0 x y z μ ⟨fun hb => ?_, fun hb => ⟨fun hb2 => ?_, fun hb2 => ⟨fun hb3 => ?_, fun hb3 => ?_⟩⟩⟩)
  · unfold sHill; rw [ifF hb]; exact PX.on (kX4_bad h hok)
  · unfold sHill; rw [ifT hb, ifF hb2]; exact PX.on (kX4_bad h hok)
  · unfold sHill
    rw [ifT hb, ifT hb2, ifT hb3]
    obtain ⟨k, hk, rfl⟩ := fw_of (by decide) hb
    obtain ⟨c, hc, rfl⟩ := fw_of (by decide) hb2
    obtain ⟨w, hw, rfl⟩ := fw_of (by decide) hb3
    rw [cl (n := k) (by omega), cl (n := c) (by omega), cl (n := w) (by omega)]
    have hOK := (hok.1.ok hn).1
    refine (kX0_isTaken 4 c μ isL_4 hOK (by omega) h.1.1.1).mono ?_
    rintro r μ5 ⟨rfl, rfl⟩
    obtain ⟨⟨⟨a1, a2, a3, a4, a5⟩, c2, c3, c4, c5, c6, c7⟩, -⟩ := id h.1
    have hh : s 0 ≤ 7 := hok.1.1.1
    have h51 : s 1 ≤ 5 := hok.1.1.2.1
    have h52 : s 2 ≤ 6 := hok.1.1.2.2.1
    refine ⟨_, rfl, fun ht => ⟨fun h7 => ?_, fun h7 => ?_⟩, fun ht => ?_⟩
    · rw [a2, nIlt (by omega) (by decide)] at h7
      rw [ifF ht, if_neg (by omega)]
      refine (kX0_raise 4 (s 0) _ _ _ μ5 isL_4 h7 a2).mono ?_
      rintro r μ7 ⟨rfl, e7⟩
      refine ⟨rfl, fun μ8 e8 => ?_⟩
      have r0 : ∀ q, q ≠ 3 → q ≠ 4 → q ≠ 5 → q ≠ 6 → q ≠ 7 → μ8.1 q = μ5.1 q := fun q q3 q4 q5 q6 q7 => by rw [e8, ms_row q3, e7, ms_row q4, ms_row q7, ms_row q6, ms_row q5]
      have r4 : ∀ i, i ≠ 1 → μ8.1 4 i = μ5.1 4 i := fun i hi => by rw [e8, ms_row (by decide), e7, ms_col hi, ms_row (by decide), ms_row (by decide), ms_row (by decide)]
      have r41 : μ8.1 4 1 = nI (s 0 + 1) := by rw [e8, ms_row (by decide), e7, ms_at]
      have r3 : ∀ i, i ≠ 7 → μ8.1 3 i = μ5.1 3 i := fun i hi => by rw [e8, ms_col hi, e7, ms_row (by decide), ms_row (by decide), ms_row (by decide), ms_row (by decide)]
      have r5 : ∀ i, μ8.1 5 i = if i = s 0 then nI k else μ5.1 5 i := fun i => by
        rw [e8, ms_row (by decide), e7, ms_row (by decide), ms_row (by decide), ms_row (by decide)]
        by_cases e : i = s 0
        · subst e; rw [ms_at, if_pos rfl]
        · rw [ms_col e, if_neg e]
      have r6 : ∀ i, μ8.1 6 i = if i = s 0 then nI c else μ5.1 6 i := fun i => by
        rw [e8, ms_row (by decide), e7, ms_row (by decide), ms_row (by decide)]
        by_cases e : i = s 0
        · subst e; rw [ms_at, if_pos rfl]
        · rw [ms_col e, if_neg e, ms_row (by decide)]
      have r7 : ∀ i, μ8.1 7 i = if i = s 0 then nI w else μ5.1 7 i := fun i => by
        rw [e8, ms_row (by decide), e7, ms_row (by decide)]
        by_cases e : i = s 0
        · subst e; rw [ms_at, if_pos rfl]
        · rw [ms_col e, if_neg e, ms_row (by decide), ms_row (by decide)]
      have ho : ∀ j, j ≠ 0 → j ≠ 3 → j ≠ 7 + s 0 → j ≠ 41 + s 0 → j ≠ 34 + s 0 → hlF s k c w j = s j := fun j a b c d e => hl_o a b c d e
      refine px (by rw [r41, pk_sub (by omega)]; rfl) (h.now hok (S := [3, 4, 5, 6, 7]) ⟨⟨by rw [r4 0 (by decide), ho _ (by omega) (by omega) (by omega) (by omega) (by omega)]; exact a1, r41, by rw [r4 7 (by decide), ho _ (by omega) (by omega) (by omega) (by omega) (by omega)]; exact a3, fun i hi => ?_, fun q hq => ?_⟩, by rw [r4 6 (by decide), ho _ (by omega) (by omega) (by omega) (by omega) (by omega)]; exact c2, by rw [r3 2 (by decide), ho _ (by omega) (by omega) (by omega) (by omega) (by omega)]; exact c3, by rw [r3 4 (by decide), ho _ (by omega) (by omega) (by omega) (by omega) (by omega)]; exact c4, fun i hi => ?_, fun i hi => ?_, c7.zero (r3 6 (by decide)) (by rw [e8, ms_at]) (by unfold hlF; rw [if_neg (by decide), if_neg (by omega), if_neg (by omega), if_neg (by omega), if_pos rfl])⟩ ?_ (by decide) (fun i hi => ho _ (by omega) (by omega) (by omega) (by omega) (by omega)))
      · have hi' : i < s 0 + 1 := hi
        refine ⟨?_, ?_, ?_⟩
        · show μ8.1 5 i = _
          rw [r5]
          by_cases e : i = s 0
          · rw [if_pos e]; unfold hlF; rw [if_neg (by omega), if_neg (by omega), if_neg (by omega), if_pos (by omega)]
          · rw [if_neg e, ho _ (by omega) (by omega) (by omega) (by omega) (by omega)]; exact (a4 i (by omega)).1
        · show μ8.1 6 i = _
          rw [r6]
          by_cases e : i = s 0
          · rw [if_pos e]; unfold hlF; rw [if_neg (by omega), if_neg (by omega), if_pos (by omega)]
          · rw [if_neg e, ho _ (by omega) (by omega) (by omega) (by omega) (by omega)]; exact (a4 i (by omega)).2.1
        · show μ8.1 7 i = _
          rw [r7]
          by_cases e : i = s 0
          · rw [if_pos e]; unfold hlF; rw [if_neg (by omega), if_pos (by omega)]
          · rw [if_neg e, ho _ (by omega) (by omega) (by omega) (by omega) (by omega)]; exact (a4 i (by omega)).2.2
      · rw [r0 _ (by decide) (by decide) (by decide) (by decide) (by decide), ho _ (by omega) (by omega) (by omega) (by omega) (by omega)]; exact a5 q hq
      · rw [ho _ (by omega) (by omega) (by omega) (by omega) (by omega)] at hi
        rw [r0 _ (by decide) (by decide) (by decide) (by decide) (by decide), ho _ (by omega) (by omega) (by omega) (by omega) (by omega)]; exact c5 i hi
      · rw [ho _ (by omega) (by omega) (by omega) (by omega) (by omega)] at hi
        rw [r0 _ (by decide) (by decide) (by decide) (by decide) (by decide), ho _ (by omega) (by omega) (by omega) (by omega) (by omega)]; exact c6 i hi
      · rw [e8, e7]
        exact ((((Eqx.rf.ms (by simp)).ms (by simp)).ms (by simp)).ms (by simp)).ms (by simp)
    · rw [a2, nIlt (by omega) (by decide)] at h7
      rw [ifF ht, if_pos (by omega)]
      exact PX.on (kX4_full h hok)
    · rw [ifT ht]; exact PX.on (kX4_no h hok)
  · unfold sHill; rw [ifT hb, ifT hb2, ifF hb3]; exact PX.on (kX4_bad h hok)
theorem RMa.lm {μ : Mm} {s : Ln} (h : RMa μ s) : LM μ 67 s := fun j hj => h j (by omega)
theorem mHill (x y z : Int32) {μ : Mm} {s : Ln} {n : Nat} (h : RM μ s) (hok : OKs n s) (hn : n ≤ 600) : Con mX5_hill [.ref 66, .int x, .int y, .int z] μ (PM (sHill x y z s) μ) := by
  refine Con.of pnX5 (Nat.le_of_ble_eq_true rfl) (fun κ => wX5_hill_0 x y z μ ⟨fun hb => ?_, fun hb => ⟨fun hb2 => ?_, fun hb2 => ⟨fun hb3 => ?_, fun hb3 => ?_⟩⟩⟩)
  · unfold sHill; rw [ifF hb]; exact PM.on (kX5_badR (-2) h)
  · unfold sHill; rw [ifT hb, ifF hb2]; exact PM.on (kX5_badR (-2) h)
  · unfold sHill
    rw [ifT hb, ifT hb2, ifT hb3]
    obtain ⟨k, hk, rfl⟩ := fw_of (by decide) hb
    obtain ⟨c, hc, rfl⟩ := fw_of (by decide) hb2
    obtain ⟨w, hw, rfl⟩ := fw_of (by decide) hb3
    rw [cl (n := k) (by omega), cl (n := c) (by omega), cl (n := w) (by omega)]
    have hOK := (hok.1.ok hn).1
    have hh : s 0 ≤ 7 := hok.1.1.1
    refine (kX5_isFree 67 318 c μ Ar_67 hOK (by omega) h.1.lm).mono ?_
    rintro r μ5 ⟨rfl, rfl⟩
    refine ⟨_, rfl, fun ht => ⟨fun h7 => ?_, fun h7 => ?_⟩, fun ht => ?_⟩
    · rw [h.1 0 (by decide), nIe (by omega) (by decide)] at h7
      have ht : tkn s c (s 0) = false := by cases e : tkn s c (s 0) with
        | false => rfl
        | true => rw [e] at ht; cases ht
      rw [ifF ht, if_neg h7]
      refine (kX5_layHill 67 318 (s 0) _ _ _ μ5 Ar_67 (by omega) (h.1 0 (by decide))).mono ?_
      rintro r μ7 ⟨rfl, g, hE⟩
      refine ⟨rfl, fun μ8 e8 => ?_⟩
      rw [cl (by decide)] at e8
      have r0 : μ8.1 67 0 = nI (s 0 + 1) := by rw [e8, ms_col (by decide), g 0, if_pos rfl]
      have hr : ∀ q, q ≠ 67 → μ8.1 q = μ5.1 q := fun q hq => by rw [e8, ms_row hq]; exact hE.2 q (nm1 hq)
      refine pm (by rw [r0, pk_sub (by omega)]; rfl) (h.now hok (fun i hi => ?_) (fun q hq => hr q (by omega)) (by rw [hr 66 (by decide)]) (by rw [e8, ms_2]; exact hE.1) (fun i hi => hl_o (by omega) (by omega) (by omega) (by omega) (by omega)))
      rw [e8]
      unfold hlF
      by_cases i3 : i = 3
      · subst i3; rw [ms_at, if_neg (by decide), if_neg (by omega), if_neg (by omega), if_neg (by omega), if_pos rfl]
      · rw [ms_col i3, g i]
        by_cases i0 : i = 0
        · rw [if_pos i0, if_pos i0]
        · rw [if_neg i0, if_neg i0]
          by_cases i7 : i = 7 + s 0
          · rw [if_pos i7, if_pos i7]
          · rw [if_neg i7, if_neg i7]
            by_cases i41 : i = 41 + s 0
            · rw [if_pos i41, if_pos i41]
            · rw [if_neg i41, if_neg i41]
              by_cases i34 : i = 34 + s 0
              · rw [if_pos i34, if_pos i34]
              · rw [if_neg i34, if_neg i34, if_neg i3]; exact h.1 i hi
    · rw [h.1 0 (by decide), nIe (by omega) (by decide)] at h7
      have ht : tkn s c (s 0) = false := by cases e : tkn s c (s 0) with
        | false => rfl
        | true => rw [e] at ht; cases ht
      rw [ifF ht, if_pos h7]
      exact PM.on (kX5_fullR h)
    · have ht : tkn s c (s 0) = true := by cases e : tkn s c (s 0) with
        | true => rfl
        | false => rw [e] at ht; cases ht
      rw [ifT ht]; exact PM.on (kX5_noR h)
  · unfold sHill; rw [ifT hb, ifT hb2, ifF hb3]; exact PM.on (kX5_badR (-2) h)
-- the text
theorem RX.txt {n : Nat} {μ μ' : Mm} {s s' : Ln} (h : RX μ s) (hok : OKs n s) (hE : Eqx [59, 60] μ μ') (ht : RXt μ' s') (hc : ∀ j, j ≠ 2030 → j < 3000 → s' j = s j) : RX μ' s' ∧ EqH μ μ' := by
  have hn : ∀ a, a ≠ 59 → a ≠ 60 → μ'.1 a = μ.1 a := fun a h1 h2 => hE.2 a (nm2 h1 h2)
  obtain ⟨⟨i0, i1, i2, i3, i4, i5, i6⟩, r, f, -⟩ := h
  obtain ⟨o1, o2, o3, -⟩ := hok
  refine ⟨⟨⟨i0.cg o1.1.1 o1.1.2.1 o1.1.2.2.1 o1.1.2.2.2.1 (fun x h1 h2 => hn x (by omega) (by omega)) (fun j hj => hc j (by omega) (by omega)), fun z => ?_, fun z => ?_, by rw [hn 12 (by omega) (by omega), hc _ (by omega) (by omega)]; exact i3, by rw [hn 21 (by omega) (by omega), hc _ (by omega) (by omega)]; exact i4, by rw [hn 12 (by omega) (by omega)]; exact i5, by rw [hn 21 (by omega) (by omega)]; exact i6⟩, ?_, ?_, ht⟩, fun a ha => ⟨hn a (by omega) (by omega), by rw [hE.1]⟩⟩
  · rw [hc _ (by omega) (by omega)] at z
    exact (i1 z).cg o2.1.1 o2.1.2.1 o2.1.2.2.1 o2.1.2.2.2.1 (fun x h1 h2 => hn x (by omega) (by omega)) (fun j _ => hc _ (by omega) (by omega))
  · rw [hc _ (by omega) (by omega)] at z
    exact (i2 z).cg o3.1.1 o3.1.2.1 o3.1.2.2.1 o3.1.2.2.2.1 (fun x h1 h2 => hn x (by omega) (by omega)) (fun j _ => hc _ (by omega) (by omega))
  · refine ⟨?_, ?_, ?_⟩ <;> rw [hn 0 (by omega) (by omega), hc _ (by omega) (by omega)]
    · exact r.1
    · exact r.2.1
    · exact r.2.2
  · refine ⟨?_, ?_⟩ <;> rw [hE.1, hc _ (by omega) (by omega)]
    · exact f.1
    · exact f.2
theorem RM.txt {μ μ' : Mm} {s s' : Ln} (h : RM μ s) (hE : Eqx [66, 74] μ μ') (ht : RMt μ' s') (hc : ∀ j, j ≠ 2030 → j < 3000 → s' j = s j) : RM μ' s' ∧ EqG μ μ' := by
  have hn : ∀ a, a ≠ 66 → a ≠ 74 → μ'.1 a = μ.1 a := fun a h1 h2 => hE.2 a (nm2 h1 h2)
  obtain ⟨a, k, r, f, -⟩ := h
  refine ⟨⟨fun j hj => ?_, ⟨fun j hj => ?_, fun j hj => ?_⟩, fun i hi => ?_, ⟨?_, ?_⟩, ht⟩, fun a ha => ⟨hn a (by omega) (by omega), by rw [hE.1]⟩⟩
  · rw [hn _ (by omega) (by omega), hc _ (by omega) (by omega)]; exact a j hj
  · rw [hn _ (by omega) (by omega), hc _ (by omega) (by omega)]; exact k.1 j hj
  · rw [hn _ (by omega) (by omega), hc _ (by omega) (by omega)]; exact k.2 j hj
  · rw [hn _ (by omega) (by omega), hc _ (by omega) (by omega)]; exact r i hi
  · rw [hE.1, hc _ (by omega) (by omega)]; exact f.1
  · rw [hE.1, hc _ (by omega) (by omega)]; exact f.2
theorem OKs.txt {n : Nat} {s s' : Ln} (h : OKs n s) (hl : s' 2030 ≤ 150) (hb : ∀ j, j < s' 2030 → s' (3000 + j) < 128) (hc : ∀ j, j ≠ 2030 → j < 3000 → s' j = s j) : OKs (n + 1) s' := by
  obtain ⟨h1, h2, h3, h4, h5, h6, -⟩ := h
  refine ⟨(h1.up (by omega)).cg (fun j hj => hc j (by omega) (by omega)), (h2.up (by omega)).cg (fun j hj => hc _ (by omega) (by omega)), (h3.up (by omega)).cg (fun j hj => hc _ (by omega) (by omega)), ⟨by rw [hc _ (by omega) (by omega)]; exact h4.1, by rw [hc _ (by omega) (by omega)]; exact h4.2⟩, fun i hi => ?_, ⟨by rw [hc _ (by omega) (by omega)]; exact h6.1, by rw [hc _ (by omega) (by omega)]; exact h6.2.1, by rw [hc _ (by omega) (by omega)]; exact h6.2.2⟩, hl, hb⟩
  rw [hc _ (by omega) (by omega)]; have := h5 i hi; omega
def sType (x : Int32) (s : Ln) : Int32 × Ln := if fwith x (nI 0) (nI 127) = true then (if s 2030 = 150 then (-4, rfs s 2) else (nI (s 2030 + 1), up (up s (3000 + s 2030) x.toNatClampNeg) 2030 (s 2030 + 1))) else (-2, rfs s 0)
theorem oType (x : Int32) {s : Ln} {n : Nat} (h : OKs n s) : OKs (n + 1) (sType x s).2 := by
  unfold sType
  cases hb : fwith x (nI 0) (nI 127) with
  | false => exact h.rf (by decide)
  | true =>
    rw [ifT rfl]
    by_cases e : s 2030 = 150
    · rw [if_pos e]; exact h.rf (by decide)
    · rw [if_neg e]
      obtain ⟨j, hj, rfl⟩ := fw_of (by decide) hb
      rw [cl (by omega)]
      have h7 := h.2.2.2.2.2.2
      dsimp only
      refine h.txt (by rw [up_at]; omega) (fun i hi => ?_) (fun i h1 h2 => by rw [up_ne h1, up_ne (by omega)])
      rw [up_at] at hi
      rw [up_ne (by omega)]
      by_cases e2 : i = s 2030
      · subst e2; rw [up_at]; omega
      · rw [up_ne (by omega)]; exact h7.2 i (by omega)
theorem xType (x : Int32) {μ : Mm} {s : Ln} {n : Nat} (h : RX μ s) (hok : OKs n s) : Con mX4_type [.ref 0, .int x] μ (PX (sType x s) μ) := by
  have hl := h.2.2.2.1
  have h15 := hok.2.2.2.2.2.2.1
  refine Con.of pnX4 (Nat.le_of_ble_eq_true rfl) (fun κ => wX4_type_0 x μ ⟨fun hb => ⟨fun h2 => ?_, fun h2 => ?_⟩, fun hb => ?_⟩)
  · rw [hl, nIlt (by omega) (by decide)] at h2
    unfold sType; rw [ifT hb, if_neg (by omega)]
    obtain ⟨j, hj, rfl⟩ := fw_of (by decide) hb
    rw [cl (by omega)]
    have key : Con mX2_append [.ref 59, .int (nI j)] μ (fun r μ' => r = none ∧ μ' = mset (mset μ 60 (s 2030) (nI j)) 59 1 (nI (s 2030 + 1))) := by
      refine Con.of pnX2 (Nat.le_of_ble_eq_true rfl) (fun κ => wX2_append_0 _ μ ?_)
      rw [hl, cl (by omega)]
      refine ⟨fun z => absurd z (nnge (by decide) h2), fun _ => ⟨vin h2 (by decide), fun μ2 e2 μ3 e3 => ⟨rfl, ?_⟩⟩⟩
      have : μ2.1 59 1 = nI (s 2030) := by rw [e2, ms_row (by decide)]; exact hl
      rw [e3, this, nI_add, e2]
    refine key.mono ?_
    rintro r μ1 ⟨rfl, e1⟩
    refine ⟨rfl, px (by rw [e1, ms_at]) (h.txt hok (by rw [e1]; exact (Eqx.rf.ms (by simp)).ms (by simp)) ⟨by rw [e1, ms_at, up_at], fun i hi => ?_⟩ (fun i h1 h2 => by rw [up_ne h1, up_ne (by omega)]))⟩
    rw [up_at] at hi
    rw [e1, ms_row (by decide), up_ne (by omega)]
    by_cases e : i = s 2030
    · subst e; rw [ms_at, up_at]
    · rw [ms_col e, up_ne (by omega)]; exact h.2.2.2.2 i (by omega)
  · rw [hl, nIlt (by omega) (by decide)] at h2
    unfold sType; rw [ifT hb, if_pos (by omega)]; exact PX.on (kX4_full h hok)
  · unfold sType; rw [ifF hb]; exact PX.on (kX4_bad h hok)
theorem mType (x : Int32) {μ : Mm} {s : Ln} {n : Nat} (h : RM μ s) (hok : OKs n s) : Con mX5_type [.ref 66, .int x] μ (PM (sType x s) μ) := by
  have hl := h.2.2.2.2.1
  have h15 := hok.2.2.2.2.2.2.1
  refine Con.of pnX5 (Nat.le_of_ble_eq_true rfl) (fun κ => wX5_type_0 x μ ?_)
  rw [fwL x (by decide) (by decide), hl, cl (by omega)]
  refine ⟨fun hb => ⟨fun h2 => ⟨?_, fun μ2 e2 μ3 e3 => ?_⟩, fun h2 => ?_⟩, fun hb => ?_⟩
  · rw [nIe (by omega) (by decide)] at h2
    exact vin (by omega) (by decide)
  · rw [nIe (by omega) (by decide)] at h2
    unfold sType; rw [ifT hb, if_neg h2]
    obtain ⟨j, hj, rfl⟩ := fw_of (by decide) hb
    rw [cl (by omega)]
    have a2 : μ2.1 66 11 = nI (s 2030) := by rw [e2, ms_row (by decide)]; exact hl
    rw [a2, nI_add] at e3
    refine pm (by rw [e3, ms_at]) (h.txt (by rw [e3, e2]; exact (Eqx.rf.ms (by simp)).ms (by simp)) ⟨by rw [e3, ms_at, up_at], fun i hi => ?_⟩ (fun i h1 h2 => by rw [up_ne h1, up_ne (by omega)]))
    rw [up_at] at hi
    rw [e3, ms_row (by decide), e2, up_ne (by omega)]
    by_cases e : i = s 2030
    · subst e; rw [ms_at, up_at]
    · rw [ms_col e, up_ne (by omega)]; exact h.2.2.2.2.2 i (by omega)
  · rw [nIe (by omega) (by decide)] at h2
    unfold sType; rw [ifT hb, if_pos h2]; exact PM.on (kX5_fullR h)
  · unfold sType; rw [ifF hb]; exact PM.on (kX5_badR (-2) h)
def sClear (s : Ln) : Int32 × Ln := (nI (s 2030), up s 2030 0)
theorem oClear {s : Ln} {n : Nat} (h : OKs n s) : OKs (n + 1) (sClear s).2 := h.txt (by show up s 2030 0 2030 ≤ 150; rw [up_at]; omega) (fun j hj => by have : j < up s 2030 0 2030 := hj; rw [up_at] at this; omega) (fun j h1 _ => up_ne h1)
theorem xClear {μ : Mm} {s : Ln} {n : Nat} (h : RX μ s) (hok : OKs n s) : Con mX4_clear [.ref 0] μ (PX (sClear s) μ) := by
  refine Con.of pnX4 (Nat.le_of_ble_eq_true rfl) (fun κ => wX4_clear_0 μ (fun μ1 e1 => ?_))
  exact px h.2.2.2.1 (h.txt hok (by rw [e1]; exact Eqx.rf.ms (by simp)) ⟨by rw [e1, ms_at, up_at], fun i hi => by rw [up_at] at hi; omega⟩ (fun i h1 h2 => up_ne h1))
theorem mClear {μ : Mm} {s : Ln} (h : RM μ s) : Con mX5_clear [.ref 66] μ (PM (sClear s) μ) := by
  refine Con.of pnX5 (Nat.le_of_ble_eq_true rfl) (fun κ => wX5_clear_0 μ (fun μ1 e1 => ?_))
  exact pm h.2.2.2.2.1 (h.txt (by rw [e1]; exact Eqx.rf.ms (by simp)) ⟨by rw [e1, ms_at, up_at], fun i hi => by rw [up_at] at hi; omega⟩ (fun i h1 h2 => up_ne h1))
-- status
def sStatus (x : Int32) (s : Ln) : Int32 × Ln := if fwith x (nI 0) (nI 2) = true then (nI (s (2010 + x.toNatClampNeg)), s) else (-1, rfs s 0)
theorem oStatus (x : Int32) {s : Ln} {n : Nat} (h : OKs n s) : OKs (n + 1) (sStatus x s).2 := by
  unfold sStatus
  cases hb : fwith x (nI 0) (nI 2) with
  | true => rw [ifT rfl]; exact h.up (Nat.le_succ n)
  | false => exact h.rf (by decide)
theorem xStatus (x : Int32) {μ : Mm} {s : Ln} {n : Nat} (h : RX μ s) (hok : OKs n s) : Con mX4_status [.ref 0, .int x] μ (PX (sStatus x s) μ) := by
  have hr := h.2.1
  refine Con.of pnX4 (Nat.le_of_ble_eq_true rfl) (fun κ => wX4_status_0 x μ ⟨fun e => ?_, fun e0 => ⟨fun e => ?_, fun e1 => ⟨fun e => ?_, fun e2 => ?_⟩⟩⟩)
  · unfold sStatus; subst e; rw [ifT (fw_yes (by decide) (by decide))]; exact px hr.1 ⟨h, EqH.rf⟩
  · unfold sStatus; subst e; rw [ifT (fw_yes (by decide) (by decide))]; exact px hr.2.1 ⟨h, EqH.rf⟩
  · unfold sStatus; subst e; rw [ifT (fw_yes (by decide) (by decide))]; exact px hr.2.2 ⟨h, EqH.rf⟩
  · unfold sStatus
    rw [ifF (fw_no (by decide) (fun j hj => by
      rcases (show j = 0 ∨ j = 1 ∨ j = 2 by omega) with rfl | rfl | rfl
      · exact e0
      · exact e1
      · exact e2))]
    refine (kX4_bad h hok).mono ?_
    rintro r μ1 ⟨rfl, h1⟩
    exact ⟨_, rfl, px rfl h1⟩
theorem mStatus (x : Int32) {μ : Mm} {s : Ln} (h : RM μ s) : Con mX5_status [.ref 66, .int x] μ (PM (sStatus x s) μ) := by
  refine Con.of pnX5 (Nat.le_of_ble_eq_true rfl) (fun κ => wX5_status_0 x μ ?_)
  rw [fwL x (by decide) (by decide)]
  refine ⟨fun hb => ?_, fun hb => ?_⟩
  · unfold sStatus; rw [ifF hb]; exact PM.on (kX5_badR (-1) h)
  · unfold sStatus; rw [ifT hb]
    obtain ⟨j, hj, rfl⟩ := fw_of (by decide) hb
    rw [cl (by omega)]
    exact ⟨vin (by omega) (by decide), pm (h.2.2.1 j (by omega)) ⟨h, EqG.rf⟩⟩
-- part: its answer is a long
def PXl (q : Int64 × Ln) (μ : Mm) : Option Value → Mm → Prop := fun r μ' => r = some (.long q.1) ∧ RX μ' q.2 ∧ EqH μ μ'
def PMl (q : Int64 × Ln) (μ : Mm) : Option Value → Mm → Prop := fun r μ' => r = some (.long q.1) ∧ RM μ' q.2 ∧ EqG μ μ'
def sPart (x : Int32) (s : Ln) : Int64 × Ln := if fwith x (nI 0) (nI 1) = true then (lN (s (2020 + x.toNatClampNeg)), s) else ((-2 : Int32).toInt64, rfs s 0)
theorem oPart (x : Int32) {s : Ln} {n : Nat} (h : OKs n s) : OKs (n + 1) (sPart x s).2 := by
  unfold sPart
  cases hb : fwith x (nI 0) (nI 1) with
  | true => rw [ifT rfl]; exact h.up (Nat.le_succ n)
  | false => exact h.rf (by decide)
theorem xPart (x : Int32) {μ : Mm} {s : Ln} {n : Nat} (h : RX μ s) (hok : OKs n s) : Con mX4_part [.ref 0, .int x] μ (PXl (sPart x s) μ) := by
  refine Con.of pnX4 (Nat.le_of_ble_eq_true rfl) (fun κ => wX4_part_0 x μ ⟨fun hb => ⟨fun e => ?_, fun e => ?_⟩, fun hb => ?_⟩)
  · obtain ⟨j, hj, rfl⟩ := fw_of (by decide) hb
    rw [nI0 (by omega)] at e
    have ej : j = 1 := by omega
    subst ej
    unfold sPart; rw [ifT hb]
    exact ⟨by rw [h.2.2.1.2]; rfl, h, EqH.rf⟩
  · obtain ⟨j, hj, rfl⟩ := fw_of (by decide) hb
    rw [nI0 (by omega)] at e
    subst e
    unfold sPart; rw [ifT hb]
    exact ⟨by rw [h.2.2.1.1]; rfl, h, EqH.rf⟩
  · unfold sPart; rw [ifF hb]
    refine (kX4_bad h hok).mono ?_
    rintro r μ1 ⟨rfl, h1⟩
    exact ⟨_, rfl, rfl, h1⟩
theorem mPart (x : Int32) {μ : Mm} {s : Ln} (h : RM μ s) : Con mX5_part [.ref 66, .int x] μ (PMl (sPart x s) μ) := by
  refine Con.of pnX5 (Nat.le_of_ble_eq_true rfl) (fun κ => wX5_part_0 x μ ⟨fun e0 => ⟨fun e1 => ?_, fun e => ?_⟩, fun e => ?_⟩)
  · unfold sPart
    rw [ifF (fw_no (by decide) (fun j hj => by
      rcases (show j = 0 ∨ j = 1 by omega) with rfl | rfl
      · rw [nI_0]; exact e0
      · exact e1))]
    refine (kX5_badR (-2) h).mono ?_
    rintro r μ1 ⟨rfl, h1⟩
    exact ⟨_, rfl, rfl, h1⟩
  · subst e
    unfold sPart; rw [ifT (fw_yes (by decide) (by decide))]
    exact ⟨by rw [h.2.2.2.1.2]; rfl, h, EqG.rf⟩
  · subst e
    unfold sPart; rw [← nI_0, ifT (fw_yes (by decide) (by decide))]
    exact ⟨by rw [h.2.2.2.1.1]; rfl, h, EqG.rf⟩
