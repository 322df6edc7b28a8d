/-! ===== forget, count, digest ===== -/
theorem LX.cg2 {μ μ' : Mm} {k : Nat} {u u' : Ln} (h : LX μ k u) (h7 : u 0 ≤ 7) (hr : ∀ a, k ≤ a → a ≤ k + 4 → μ'.1 a = μ.1 a) (hu : ∀ j, j < 48 → j ≠ 1 → j ≠ 2 → j ≠ 3 → j ≠ 6 → u' j = u j) : LX μ' k u' := by
  obtain ⟨a1, a2, a3, a4, a5⟩ := h
  refine ⟨by rw [hr k (by omega) (by omega), hu 4 (by decide) (by decide) (by decide) (by decide) (by decide)]; exact a1, by rw [hr k (by omega) (by omega), hu 0 (by decide) (by decide) (by decide) (by decide) (by decide)]; exact a2, by rw [hr k (by omega) (by omega), hu 5 (by decide) (by decide) (by decide) (by decide) (by decide)]; exact a3, fun i hi => ?_, fun c hc => ?_⟩
  · rw [hu 0 (by decide) (by decide) (by decide) (by decide) (by decide)] at hi
    rw [hr _ (by omega) (by omega), hr _ (by omega) (by omega), hr _ (by omega) (by omega), hu _ (by omega) (by omega) (by omega) (by omega) (by omega), hu _ (by omega) (by omega) (by omega) (by omega) (by omega), hu _ (by omega) (by omega) (by omega) (by omega) (by omega)]
    exact a4 i hi
  · rw [hr _ (by omega) (by omega), hu _ (by omega) (by omega) (by omega) (by omega) (by omega)]; exact a5 c hc
def sForget (x : Int32) (s : Ln) : Int32 × Ln := if fwith x (nI 0) (nI 1) = true then (nI (s (1 + x.toNatClampNeg)), up s (1 + x.toNatClampNeg) 0) else (-2, rfs s 0)
theorem oForget (x : Int32) {s : Ln} {n : Nat} (h : OKs n s) : OKs (n + 1) (sForget x s).2 := by
  unfold sForget
  cases hb : fwith x (nI 0) (nI 1) with
  | true =>
    rw [ifT rfl]
    obtain ⟨j, hj, rfl⟩ := fw_of (by decide) hb
    rw [cl (by omega)]
    obtain ⟨p0, p1, p2, p3, p4⟩ := h.1.1
    have hle : ∀ i, up s (1 + j) 0 i ≤ s i := fun i => by unfold up; split <;> omega
    dsimp only
    exact h.now ((h.1.up (Nat.le_succ n)).hd (Nat.le_trans (hle 0) p0) (Nat.le_trans (hle 1) p1) (Nat.le_trans (hle 2) p2) (Nat.le_trans (hle 3) p3) (Nat.lt_of_le_of_lt (hle 4) p4) (fun i h1 h2 => up_ne (by omega))) (fun i hi => up_ne (by omega))
  | false => exact h.rf (by decide)
theorem xForget (x : Int32) {μ : Mm} {s : Ln} {n : Nat} (h : RX μ s) (hok : OKs n s) : Con mX4_forget [.ref 0, .int x] μ (PX (sForget x s) μ) := by
  obtain ⟨⟨⟨a1, a2, a3, a4, a5⟩, c2, c3, c4, c5, c6, c7⟩, -⟩ := id h.1
  have hh : s 0 ≤ 7 := hok.1.1.1
  have h51 : s 1 ≤ 5 := hok.1.1.2.1
  have h52 : s 2 ≤ 6 := hok.1.1.2.2.1
  have h53 : s 3 ≤ 8 := hok.1.1.2.2.2.1
  refine Con.of pnX4 (Nat.le_of_ble_eq_true rfl) (fun κ => wX4_forget_0 x μ ⟨fun hb => ⟨fun e μ1 e1 => ?_, fun e μ2 e2 => ?_⟩, fun hb => ?_⟩)
  · obtain ⟨j, hj, rfl⟩ := fw_of (by decide) hb
    rw [nI0 (by omega)] at e
    have ej : j = 1 := by omega
    subst ej
    unfold sForget; rw [ifT hb, cl (by decide)]
    have h3 : ∀ z, z ≠ 4 → μ1.1 3 z = μ.1 3 z := fun z hz => by rw [e1, ms_col hz]
    have hr : ∀ z, z ≠ 3 → μ1.1 z = μ.1 z := fun z hz => by rw [e1, ms_row hz]
    refine px c4 (h.now hok (S := [3]) ⟨LX.cg2 ⟨a1, a2, a3, a4, a5⟩ hh (fun z h1 h2 => hr z (by omega)) (fun i _ _ h2 _ _ => up_ne (by omega)), by rw [hr 4 (by decide)]; exact c2, by rw [h3 2 (by decide)]; exact c3, by rw [e1, ms_at]; rfl, fun i hi => ?_, fun i hi => ?_, Rg.cg c7 hh h53 (h3 6 (by decide)) (h3 7 (by decide)) (hr _ (by decide)) (up_ne (by decide)) (up_ne (by decide)) (fun i h1 h2 => up_ne (by omega))⟩ (by rw [e1]; exact Eqx.rf.ms (by simp)) (by decide) (fun i hi => up_ne (by omega)))
    · rw [up_ne (by decide)] at hi
      rw [hr _ (by decide), up_ne (by omega)]; exact c5 i hi
    · rw [show up s (1 + 1) 0 2 = 0 from up_at _ _ _] at hi; omega
  · obtain ⟨j, hj, rfl⟩ := fw_of (by decide) hb
    rw [nI0 (by omega)] at e
    subst e
    unfold sForget; rw [ifT hb, cl (by decide)]
    have h3 : ∀ z, z ≠ 2 → μ2.1 3 z = μ.1 3 z := fun z hz => by rw [e2, ms_col hz]
    have hr : ∀ z, z ≠ 3 → μ2.1 z = μ.1 z := fun z hz => by rw [e2, ms_row hz]
    refine px c3 (h.now hok (S := [3]) ⟨LX.cg2 ⟨a1, a2, a3, a4, a5⟩ hh (fun z h1 h2 => hr z (by omega)) (fun i _ h1 _ _ _ => up_ne (by omega)), by rw [hr 4 (by decide)]; exact c2, by rw [e2, ms_at]; rfl, by rw [h3 4 (by decide)]; exact c4, fun i hi => ?_, fun i hi => ?_, Rg.cg c7 hh h53 (h3 6 (by decide)) (h3 7 (by decide)) (hr _ (by decide)) (up_ne (by decide)) (up_ne (by decide)) (fun i h1 h2 => up_ne (by omega))⟩ (by rw [e2]; exact Eqx.rf.ms (by simp)) (by decide) (fun i hi => up_ne (by omega)))
    · rw [show up s (1 + 0) 0 1 = 0 from up_at _ _ _] at hi; omega
    · rw [up_ne (by decide)] at hi
      rw [hr _ (by decide), up_ne (by omega)]; exact c6 i hi
  · unfold sForget; rw [ifF hb]; exact PX.on (kX4_bad h hok)
theorem mForget (x : Int32) {μ : Mm} {s : Ln} {n : Nat} (h : RM μ s) (hok : OKs n s) : Con mX5_forget [.ref 66, .int x] μ (PM (sForget x s) μ) := by
  refine Con.of pnX5 (Nat.le_of_ble_eq_true rfl) (fun κ => wX5_forget_0 x μ ?_)
  rw [fwL x (by decide) (by decide)]
  refine ⟨fun hb => ?_, fun hb => ?_⟩
  · unfold sForget; rw [ifT hb]
    obtain ⟨j, hj, rfl⟩ := fw_of (by decide) hb
    rw [nI_add, cl (n := 1 + j) (by omega), cl (n := j) (by omega)]
    refine ⟨vin (by omega) (by decide), fun μ2 e2 => ?_⟩
    have hr : ∀ z, z ≠ 67 → μ2.1 z = μ.1 z := fun z hz => by rw [e2, ms_row hz]
    refine pm (h.1 _ (by omega)) (h.now hok (fun i hi => ?_) (fun y hy => hr y (by omega)) (by rw [hr 66 (by decide)]) (by rw [e2]; rfl) (fun i hi => up_ne (by omega)))
    rw [e2]
    by_cases e : i = 1 + j
    · subst e; rw [ms_at, up_at]
    · rw [ms_col e, up_ne e]; exact h.1 i hi
  · unfold sForget; rw [ifF hb]; exact PM.on (kX5_badR (-2) h)
-- count
def cntN (s : Ln) (i : Nat) : Nat := if i = 0 then s 0 else if i = 1 then vall s 20 else if i = 2 then s 6 else if i = 3 then s 5 else if i = 4 then ssum s (s 0) else if i = 5 then s 4 else if i = 6 then s 1 else if i = 7 then s 2 else if i = 8 then s 3 else s 2030
def sCount (x : Int32) (s : Ln) : Int32 × Ln := if fwith x (nI 0) (nI 9) = true then (nI (cntN s x.toNatClampNeg), s) else (-2, rfs s 0)
theorem oCount (x : Int32) {s : Ln} {n : Nat} (h : OKs n s) : OKs (n + 1) (sCount x s).2 := by
  unfold sCount
  cases hb : fwith x (nI 0) (nI 9) with
  | true => rw [ifT rfl]; exact h.up (Nat.le_succ n)
  | false => exact h.rf (by decide)
theorem ten {P : Nat → Prop} (h0 : P 0) (h1 : P 1) (h2 : P 2) (h3 : P 3) (h4 : P 4) (h5 : P 5) (h6 : P 6) (h7 : P 7) (h8 : P 8) (h9 : P 9) : ∀ j, j ≤ 9 → P j := by
  intro j hj
  rcases (show j = 0 ∨ j = 1 ∨ j = 2 ∨ j = 3 ∨ j = 4 ∨ j = 5 ∨ j = 6 ∨ j = 7 ∨ j = 8 ∨ j = 9 by omega) with e | e | e | e | e | e | e | e | e | e <;> subst e <;> assumption
theorem xCount (x : Int32) {μ : Mm} {s : Ln} {n : Nat} (h : RX μ s) (hok : OKs n s) : Con mX4_count [.ref 0, .int x] μ (PX (sCount x s) μ) := by
  obtain ⟨⟨⟨a1, a2, a3, a4, a5⟩, c2, c3, c4, c5, c6, c7⟩, -⟩ := id h.1
  have u3 : μ.1 3 7 = nI (s 3) := by obtain ⟨nx, _, _, g, _⟩ := c7; exact g
  have hh : s 0 ≤ 7 := hok.1.1.1
  have one : ∀ (i : Nat) (w : Int32), i ≤ 9 → w = nI (cntN s i) → PX (sCount (nI i) s) μ (some (.int w)) μ := by
    intro i w hi hw
    unfold sCount
    rw [ifT (fw_yes (by decide) hi), cl (by omega)]
    exact px hw ⟨h, EqH.rf⟩
  refine Con.of pnX4 (Nat.le_of_ble_eq_true rfl) (fun κ => wX4_count_0 x μ ⟨fun e => ?_, fun e0 => ⟨fun e => ?_, fun e1 => ⟨fun e => ?_, fun e2 => ⟨fun e => ?_, fun e3 => ⟨fun e => ?_, fun e4 => ⟨fun e => ?_, fun e5 => ⟨fun e => ?_, fun e6 => ⟨fun e => ?_, fun e7 => ⟨fun e => ?_, fun e8 => ⟨fun e => ?_, fun e9 => ?_⟩⟩⟩⟩⟩⟩⟩⟩⟩⟩)
  · subst e; exact one 0 _ (by decide) a2
  · subst e
    refine (kX0_allVines 4 μ isL_4 a5).mono ?_
    rintro r μ1 ⟨rfl, rfl⟩
    exact ⟨_, rfl, one 1 _ (by decide) rfl⟩
  · subst e; exact one 2 _ (by decide) c2
  · subst e; exact one 3 _ (by decide) a3
  · subst e
    refine (kX0_allSizes 4 μ isL_4 hh h.1.1.1).mono ?_
    rintro r μ1 ⟨rfl, rfl⟩
    exact ⟨_, rfl, one 4 _ (by decide) rfl⟩
  · subst e; exact one 5 _ (by decide) a1
  · subst e; exact one 6 _ (by decide) c3
  · subst e; exact one 7 _ (by decide) c4
  · subst e; exact one 8 _ (by decide) u3
  · subst e; exact one 9 _ (by decide) h.2.2.2.1
  · unfold sCount
    rw [ifF (fw_no (by decide) (ten e0 e1 e2 e3 e4 e5 e6 e7 e8 e9))]
    exact PX.on (kX4_bad h hok)
theorem kX5_vinesOfAll {μ : Mm} {s : Ln} (h : RMa μ s) : Con mX5_vinesOfAll [.ref 66] μ (Rv (.int (nI (vall s 20))) μ) := by
  refine Con.of pnX5 (Nat.le_of_ble_eq_true rfl) (fun κ => wX5_vinesOfAll_0 μ ?_)
  refine cnt_loop 20 (fun t (_ : Unit) => Vq κ (Rv (.int (nI (vall s 20))) μ) mX5_vinesOfAll 4 [(0, .ref 66), (1, .int (nI (vall s t))), (2, .int (nI t))] [] μ) (fun _ _ => True) ?_ ?_ 0 () (by omega) trivial
  · rintro _ _
    exact wX5_vinesOfAll_4 _ _ μ ⟨fun _ => rvi rfl, fun h => absurd (nge (by decide) (by decide)) h⟩
  · rintro t _ ht _ ih
    refine wX5_vinesOfAll_4 _ _ μ ⟨fun h => absurd h (nnge (by decide) ht), fun _ => ⟨by rw [nI_add]; exact vin (by omega) (by decide), ?_⟩⟩
    rw [nI_add, cl (by omega), h _ (by omega), nI_add, nI_add]
    exact ih () trivial
theorem kX5_counted (i : Nat) {μ : Mm} {s : Ln} {n : Nat} (hi : i ≤ 9) (h : RM μ s) (hok : OKs n s) : Con mX5_counted [.ref 66, .int (nI i)] μ (Rv (.int (nI (cntN s i))) μ) := by
  have hh : s 0 ≤ 7 := hok.1.1.1
  have ne : ∀ j, j ≤ 9 → ¬ nI i = nI j → ¬ i = j := fun j hj z e => z (by rw [e])
  have eq : ∀ j, j ≤ 9 → nI i = nI j → i = j := fun j hj z => (nIe (by omega) (by omega)).mp z
  refine Con.of pnX5 (Nat.le_of_ble_eq_true rfl) (fun κ => wX5_counted_0 _ μ ⟨fun e => ?_, fun e0 => ⟨fun e => ?_, fun e1 => ⟨fun e => ?_, fun e2 => ⟨fun e => ?_, fun e3 => ⟨fun e => ?_, fun e4 => ⟨fun e => ?_, fun e5 => ⟨fun e => ?_, fun e6 => ⟨fun e => ?_, fun e7 => ⟨fun e => ?_, fun e8 => ?_⟩⟩⟩⟩⟩⟩⟩⟩⟩)
  · have := eq 0 (by decide) e; subst this; exact rvi (h.1 0 (by decide)).symm
  · have := eq 1 (by decide) e; subst this
    refine (kX5_vinesOfAll h.1).mono ?_
    rintro r μ1 ⟨rfl, rfl⟩
    exact ⟨_, rfl, rvi rfl⟩
  · have := eq 2 (by decide) e; subst this; rw [cl (by decide)]; exact rvi (h.1 6 (by decide)).symm
  · have := eq 3 (by decide) e; subst this; rw [cl (by decide)]; exact rvi (h.1 5 (by decide)).symm
  · have := eq 4 (by decide) e; subst this
    refine (kX5_sizes 67 318 μ Ar_67 hh h.1.lm).mono ?_
    rintro r μ1 ⟨rfl, rfl⟩
    exact ⟨_, rfl, rvi rfl⟩
  · have := eq 5 (by decide) e; subst this; rw [cl (by decide)]; exact rvi (h.1 4 (by decide)).symm
  · have := eq 6 (by decide) e; subst this; rw [cl (by decide)]; exact rvi (h.1 1 (by decide)).symm
  · have := eq 7 (by decide) e; subst this; rw [cl (by decide)]; exact rvi (h.1 2 (by decide)).symm
  · have := eq 8 (by decide) e; subst this; rw [cl (by decide)]; exact rvi (h.1 3 (by decide)).symm
  · have : i = 9 := by
      have := ne 0 (by decide) e0; have := ne 1 (by decide) e1; have := ne 2 (by decide) e2; have := ne 3 (by decide) e3; have := ne 4 (by decide) e4; have := ne 5 (by decide) e5; have := ne 6 (by decide) e6; have := ne 7 (by decide) e7; have := ne 8 (by decide) e8
      omega
    subst this
    exact rvi h.2.2.2.2.1.symm
theorem mCount (x : Int32) {μ : Mm} {s : Ln} {n : Nat} (h : RM μ s) (hok : OKs n s) : Con mX5_count [.ref 66, .int x] μ (PM (sCount x s) μ) := by
  refine Con.of pnX5 (Nat.le_of_ble_eq_true rfl) (fun κ => wX5_count_0 x μ ?_)
  rw [fwL x (by decide) (by decide)]
  refine ⟨fun hb => ?_, fun hb => ?_⟩
  · unfold sCount; rw [ifF hb]; exact PM.on (kX5_badR (-2) h)
  · unfold sCount; rw [ifT hb]
    obtain ⟨j, hj, rfl⟩ := fw_of (by decide) hb
    rw [cl (by omega)]
    refine (kX5_counted j hj h hok).mono ?_
    rintro r μ1 ⟨rfl, rfl⟩
    exact ⟨_, rfl, pm rfl ⟨h, EqG.rf⟩⟩
-- digest
def hs1 (h : Int64) (v : Nat) : Int64 := lN 31 * h + (nI v).toInt64
def rowH (f : Nat → Nat) (h : Int64) : Nat → Int64
  | 0 => h
  | n + 1 => hs1 (rowH f h n) (f n)
def hilH (s : Ln) (h : Int64) : Nat → Int64
  | 0 => h
  | n + 1 => hs1 (hs1 (hs1 (hilH s h n) (s (34 + n))) (s (41 + n))) (s (7 + n))
def digF (s : Ln) : Int64 := lN 31 * (lN 31 * (rowH (fun j => s (68 + j)) (rowH (fun j => s (48 + j)) (rowH (fun j => s (14 + j)) (hilH s (rowH (cntN s) (lN 1877) 10) (s 0)) 20) (4 * s 1)) (3 * s 2)) + lN (s 2020)) + lN (s 2021)
def sDigest (s : Ln) : Int64 × Ln := (digF s, s)
theorem kX4_mix (r N m : Nat) (f : Nat → Nat) (l : Int64) (μ : Mm) (hr : shp r = .inr (0, N)) (hN : N < 2 ^ 31) (hm : m ≤ N) (hf : ∀ j, j < m → μ.1 r j = nI (f j)) : Con mX4_mix [.long l, .ref r, .int (nI m)] μ (Rv (.long (rowH f l m)) μ) := by
  refine Con.of pnX4 (Nat.le_of_ble_eq_true rfl) (fun κ => wX4_mix_0 l r N _ μ hr ?_)
  refine cnt_loop m (fun t (_ : Unit) => Vq κ (Rv (.long (rowH f l m)) μ) mX4_mix 3 [(0, .long (rowH f l t)), (2, .ref r), (3, .int (nI m)), (4, .int (nI t))] [] μ) (fun _ _ => True) ?_ ?_ 0 () (by omega) trivial
  · rintro _ _
    exact wX4_mix_3 _ r N _ _ μ hr ⟨fun _ => rv rfl, fun h => absurd (nge (by omega) (Nat.le_refl _)) h⟩
  · rintro t _ ht _ ih
    refine wX4_mix_3 _ r N _ _ μ hr ⟨fun h => absurd h (nnge (by omega) ht), fun _ => ⟨fun h => absurd h (nnge hN (by omega)), fun _ => ⟨vin (by omega) hN, ?_⟩⟩⟩
    rw [cl (by omega), hf t ht, nI_add]
    exact ih () trivial
theorem kX5_sums (b m : Nat) (l : Int64) {μ : Mm} {s : Ln} (hm : b + m ≤ 318) (h : RMa μ s) : Con mX5_sums [.ref 66, .long l, .int (nI b), .int (nI m)] μ (Rv (.long (rowH (fun j => s (b + j)) l m)) μ) := by
  refine Con.of pnX5 (Nat.le_of_ble_eq_true rfl) (fun κ => wX5_sums_0 l _ _ μ ?_)
  refine cnt_loop m (fun t (_ : Unit) => Vq κ (Rv (.long (rowH (fun j => s (b + j)) l m)) μ) mX5_sums 6 [(0, .ref 66), (1, .long l), (3, .int (nI b)), (4, .int (nI m)), (5, .long (rowH (fun j => s (b + j)) l t)), (7, .int (nI t))] [] μ) (fun _ _ => True) ?_ ?_ 0 () (by omega) trivial
  · rintro _ _
    exact wX5_sums_6 _ _ _ _ _ μ ⟨fun _ => rv rfl, fun h => absurd (nge (by omega) (Nat.le_refl _)) h⟩
  · rintro t _ ht _ ih
    refine wX5_sums_6 _ _ _ _ _ μ ⟨fun h => absurd h (nnge (by omega) ht), fun _ => ⟨by rw [nI_add]; exact vin (by omega) (by decide), ?_⟩⟩
    rw [nI_add, nI_add, cl (by omega), h _ (by omega)]
    exact ih () trivial
theorem xDigest {μ : Mm} {s : Ln} {n : Nat} (h : RX μ s) (hok : OKs n s) : Con mX4_digest [.ref 0] μ (PXl (sDigest s) μ) := by
  have hh : s 0 ≤ 7 := hok.1.1.1
  have h51 : s 1 ≤ 5 := hok.1.1.2.1
  have h52 : s 2 ≤ 6 := hok.1.1.2.2.1
  refine Con.of pnX4 (Nat.le_of_ble_eq_true rfl) (fun κ => wX4_digest_0 μ ?_)
  have second : ∀ μ1 : Mm, RX μ1 s → EqH μ μ1 → Vq κ (PXl (sDigest s) μ) mX4_digest 42 [(0, .ref 0), (1, .long (rowH (cntN s) (lN 1877) 10)), (3, .ref 4), (4, .int (nI 0))] [] μ1 := by
    intro μ1 hR hE
    obtain ⟨⟨⟨a1, a2, a3, a4, a5⟩, c2, c3, c4, c5, c6, c7⟩, -⟩ := id hR.1
    refine cnt_loop (s 0) (fun t (_ : Unit) => Vq κ (PXl (sDigest s) μ) mX4_digest 42 [(0, .ref 0), (1, .long (hilH s (rowH (cntN s) (lN 1877) 10) t)), (3, .ref 4), (4, .int (nI t))] [] μ1) (fun _ _ => True) ?_ ?_ 0 () (by omega) trivial
    · rintro _ _
      refine wX4_digest_42 _ _ μ1 ⟨fun _ => ?_, fun h => absurd (by rw [a2]; exact nge (by omega) (Nat.le_refl _)) h⟩
      refine (kX4_mix 8 20 20 (fun j => s (14 + j)) _ μ1 sh_8 (by decide) (by decide) a5).mono ?_
      rintro r μ2 ⟨rfl, rfl⟩
      refine ⟨_, rfl, ?_⟩
      rw [c3, pk_mul, Nat.mul_comm (s 1) 4]
      refine (kX4_mix 9 20 (4 * s 1) (fun j => s (48 + j)) _ μ2 sh_9 (by decide) (by omega) c5).mono ?_
      rintro r μ3 ⟨rfl, rfl⟩
      refine ⟨_, rfl, ?_⟩
      rw [c4, pk_mul, Nat.mul_comm (s 2) 3]
      refine (kX4_mix 10 18 (3 * s 2) (fun j => s (68 + j)) _ μ3 sh_10 (by decide) (by omega) c6).mono ?_
      rintro r μ4 ⟨rfl, rfl⟩
      refine ⟨_, rfl, ?_⟩
      rw [hR.2.2.1.1, hR.2.2.1.2]
      exact ⟨rfl, hR, hE⟩
    · rintro t _ ht _ ih
      refine wX4_digest_42 _ _ μ1 ⟨fun h => absurd h (by rw [a2]; exact nnge (by omega) ht), fun _ => ⟨vin (by omega) (by decide), ?_⟩⟩
      have b1 : μ1.1 5 t = nI (s (34 + t)) := (a4 t ht).1
      have b2 : μ1.1 6 t = nI (s (41 + t)) := (a4 t ht).2.1
      have b3 : μ1.1 7 t = nI (s (7 + t)) := (a4 t ht).2.2
      rw [cl (by omega), b1, b2, b3, nI_add]
      exact ih () trivial
  refine cnt_loop 10 (fun t μ1 => Vq κ (PXl (sDigest s) μ) mX4_digest 6 [(0, .ref 0), (1, .long (rowH (cntN s) (lN 1877) t)), (3, .int (nI t))] [] μ1) (fun _ μ1 => RX μ1 s ∧ EqH μ μ1) ?_ ?_ 0 μ (by omega) ⟨h, EqH.rf⟩
  · rintro μ1 ⟨hR, hE⟩
    exact wX4_digest_6 _ _ μ1 ⟨fun _ => second μ1 hR hE, fun h => absurd ((nIlt (by decide) (by decide)).mpr (by decide)) h⟩
  · rintro t μ1 ht ⟨hR, hE⟩ ih
    refine wX4_digest_6 _ _ μ1 ⟨fun h => ?_, fun _ => ?_⟩
    · rw [nIlt (by decide) (by omega)] at h; omega
    · refine (xCount (nI t) hR hok).mono ?_
      rintro r μ2 ⟨rfl, h1, h2⟩
      refine ⟨_, rfl, ?_⟩
      unfold sCount at h1 ⊢
      rw [ifT (fw_yes (by decide) (by omega))] at h1 ⊢
      rw [cl (by omega), nI_add]
      exact ih μ2 ⟨h1, fun a ha => ⟨(h2 a ha).1.trans (hE a ha).1, (h2 a ha).2.trans (hE a ha).2⟩⟩
theorem mDigest {μ : Mm} {s : Ln} {n : Nat} (h : RM μ s) (hok : OKs n s) : Con mX5_digest [.ref 66] μ (PMl (sDigest s) μ) := by
  have hh : s 0 ≤ 7 := hok.1.1.1
  have h51 : s 1 ≤ 5 := hok.1.1.2.1
  have h52 : s 2 ≤ 6 := hok.1.1.2.2.1
  refine Con.of pnX5 (Nat.le_of_ble_eq_true rfl) (fun κ => wX5_digest_0 μ ?_)
  have second : Vq κ (PMl (sDigest s) μ) mX5_digest 33 [(0, .ref 66), (1, .long (rowH (cntN s) (lN 1877) 10)), (3, .int (nI 0))] [] μ := by
    refine cnt_loop (s 0) (fun t (_ : Unit) => Vq κ (PMl (sDigest s) μ) mX5_digest 33 [(0, .ref 66), (1, .long (hilH s (rowH (cntN s) (lN 1877) 10) t)), (3, .int (nI t))] [] μ) (fun _ _ => True) ?_ ?_ 0 () (by omega) trivial
    · rintro _ _
      refine wX5_digest_33 _ _ μ ⟨fun _ => ?_, fun z => absurd (by rw [h.1 0 (by decide)]; exact nge (by omega) (Nat.le_refl _)) z⟩
      refine (kX5_sums 14 20 _ (by decide) h.1).mono ?_
      rintro r μ2 ⟨rfl, rfl⟩
      refine ⟨_, rfl, ?_⟩
      rw [cl (by decide), h.1 1 (by decide), pk_mul]
      refine (kX5_sums 48 (4 * s 1) _ (by omega) h.1).mono ?_
      rintro r μ3 ⟨rfl, rfl⟩
      refine ⟨_, rfl, ?_⟩
      rw [cl (by decide), h.1 2 (by decide), pk_mul]
      refine (kX5_sums 68 (3 * s 2) _ (by omega) h.1).mono ?_
      rintro r μ4 ⟨rfl, rfl⟩
      refine ⟨_, rfl, ?_⟩
      rw [h.2.2.2.1.1, h.2.2.2.1.2]
      exact ⟨rfl, h, EqG.rf⟩
    · rintro t _ ht _ ih
      refine wX5_digest_33 _ _ μ ⟨fun z => absurd z (by rw [h.1 0 (by decide)]; exact nnge (by omega) ht), fun _ => ⟨by rw [nI_add]; exact vin (by omega) (by decide), by rw [nI_add]; exact vin (by omega) (by decide), by rw [nI_add]; exact vin (by omega) (by decide), ?_⟩⟩
      rw [nI_add, nI_add, nI_add, nI_add, cl (by omega), cl (by omega), cl (by omega), h.1 _ (by omega), h.1 _ (by omega), h.1 _ (by omega)]
      exact ih () trivial
  refine cnt_loop 10 (fun t (_ : Unit) => Vq κ (PMl (sDigest s) μ) mX5_digest 6 [(0, .ref 66), (1, .long (rowH (cntN s) (lN 1877) t)), (3, .int (nI t))] [] μ) (fun _ _ => True) ?_ ?_ 0 () (by omega) trivial
  · rintro _ _
    exact wX5_digest_6 _ _ μ ⟨fun _ => second, fun z => absurd (nge (by decide) (by decide)) z⟩
  · rintro t _ ht _ ih
    refine wX5_digest_6 _ _ μ ⟨fun z => absurd z (nnge (by decide) ht), fun _ => ?_⟩
    refine (kX5_counted t (by omega) h hok).mono ?_
    rintro r μ1 ⟨rfl, rfl⟩
    refine ⟨_, rfl, ?_⟩
    rw [nI_add]
    exact ih () trivial
