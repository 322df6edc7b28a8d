/-! ===== day, putBack, undo ===== -/
def svc (a : Ln) : Nat := if a 3 = 8 then 7 else a 3
def savF (a : Ln) : Ln := fun j => if j = 3 then svc a + 1 else if 86 + 29 * svc a ≤ j ∧ j < 115 + 29 * svc a then a (5 + (j - (86 + 29 * svc a))) else if a 3 = 8 ∧ 86 ≤ j ∧ j < 289 then a (j + 29) else a j
theorem svc_le {a : Ln} (h : a 3 ≤ 8) : svc a ≤ 7 := by unfold svc; split <;> omega
theorem sav_3 (a : Ln) : savF a 3 = svc a + 1 := rfl
theorem sav_lo {a : Ln} {j : Nat} (h : j < 86) (h3 : j ≠ 3) : savF a j = a j := by unfold savF; rw [if_neg h3, if_neg (by omega), if_neg (by omega)]
theorem sav_hi {a : Ln} {j : Nat} (h8 : a 3 ≤ 8) (h : 318 ≤ j) : savF a j = a j := by
  have := svc_le h8
  unfold savF; rw [if_neg (by omega), if_neg (by omega), if_neg (by omega)]
theorem sav_new {a : Ln} {j : Nat} (h : j < 29) : savF a (86 + 29 * svc a + j) = a (5 + j) := by
  unfold savF; rw [if_neg (by omega), if_pos (by omega)]; congr 1; omega
theorem sav_old {a : Ln} {e j : Nat} (h8 : a 3 ≤ 8) (he : e < svc a) (h : j < 29) : savF a (86 + 29 * e + j) = if a 3 = 8 then a (86 + 29 * (e + 1) + j) else a (86 + 29 * e + j) := by
  have := svc_le h8
  unfold savF
  rw [if_neg (by omega), if_neg (by omega)]
  by_cases c : a 3 = 8
  · rw [if_pos (by omega), if_pos c]; congr 1; omega
  · rw [if_neg (fun z => c z.1), if_neg c]
theorem SOK.sav {n : Nat} {a : Ln} (h : SOK n a) : SOK n (savF a) := by
  obtain ⟨⟨p0, p1, p2, p3, p4⟩, g2, g3, g4, g5, g6⟩ := h
  have hs := svc_le p3
  refine ⟨⟨by rw [sav_lo (by omega) (by omega)]; exact p0, by rw [sav_lo (by omega) (by omega)]; exact p1, by rw [sav_lo (by omega) (by omega)]; exact p2, by rw [sav_3]; omega, by rw [sav_lo (by omega) (by omega)]; exact p4⟩, g2.cg (fun j hj => sav_lo (by omega) (by omega)), fun i hi => ?_, fun r hr => ?_, fun r hr => ?_, fun e he => ?_⟩
  · rw [sav_lo (by omega) (by omega), sav_lo (by omega) (by omega)]; exact g3 i hi
  · rw [sav_lo (by omega) (by omega), sav_lo (by omega) (by omega), sav_lo (by omega) (by omega), sav_lo (by omega) (by omega)]; exact g4 r hr
  · rw [sav_lo (by omega) (by omega), sav_lo (by omega) (by omega), sav_lo (by omega) (by omega)]; exact g5 r hr
  · by_cases e1 : e = svc a
    · subst e1; exact g2.cg (fun j hj => sav_new hj)
    · by_cases e2 : e < svc a
      · by_cases c : a 3 = 8
        · exact (g6 (e + 1) (by omega)).cg (fun j hj => by rw [sav_old p3 e2 hj, if_pos c])
        · exact (g6 e he).cg (fun j hj => by rw [sav_old p3 e2 hj, if_neg c])
      · refine (g6 e he).cg (fun j hj => ?_)
        have c : ¬ a 3 = 8 := fun z => by unfold svc at e1 e2; rw [if_pos z] at e1 e2; omega
        unfold savF
        rw [if_neg (by omega), if_neg (by omega), if_neg (fun z => c z.1)]
theorem Ent.mv {μ μ' : Mm} {c p : Nat} {a a' : Ln} {q q' : Nat} (h : Ent μ c p a q) (h7 : a 0 ≤ 7) (hr : ∀ j, j < 29 → μ'.1 c (p + j) = μ.1 c (p + j)) (h0 : a' 0 = a 0) (ha : ∀ j, j < 29 → a' (q' + j) = a (q + j)) : Ent μ' c p a' q' := by
  obtain ⟨b1, b2, b3, b4⟩ := h
  refine ⟨fun i hi => ?_, fun x hx => ?_, ?_, ?_⟩
  · rw [h0] at hi
    rw [hr _ (by omega), Nat.add_assoc, ha _ (by omega), ← Nat.add_assoc]; exact b1 i hi
  · rw [Nat.add_assoc, hr _ (by omega), Nat.add_assoc, ha _ (by omega), ← Nat.add_assoc, ← Nat.add_assoc]; exact b2 x hx
  · rw [hr _ (by omega), ha _ (by omega)]; exact b3
  · rw [hr _ (by omega)]
    have := ha 0 (by omega)
    rw [Nat.add_zero, Nat.add_zero] at this
    rw [this]; exact b4
theorem isS_ge {k : Nat} (h : isS k) : 3 ≤ k ∧ k ≤ 21 := (by decide : ∀ k ∈ [3, 12, 21], 3 ≤ k ∧ k ≤ 21) k h
theorem kX3_keepForUndo (k : Nat) (μ : Mm) (hk : isS k) {a : Ln} (h7 : a 0 ≤ 7) (h5 : a 1 ≤ 5) (h6 : a 2 ≤ 6) (h8 : a 3 ≤ 8) (hS : St μ k a) : Con mX3_keepForUndo [.ref k] μ (fun r μ' => r = none ∧ St μ' k (savF a) ∧ Eqx [k, k + 8] μ μ') := by
  obtain ⟨hL, c2, c3, c4, c5, c6, nx, hnx, r6, r7, re⟩ := hS
  obtain ⟨a1, a2, a3, a4, a5⟩ := id hL
  have hs := svc_le h8
  refine Con.of pnX3 (Nat.le_of_ble_eq_true rfl) (fun κ => wX3_keepForUndo_0 k μ hk ?_)
  rw [r6, pk_mul, nI_add, nI_add, nI_add, cl (n := nx * 29) (by omega), cl (n := nx * 29 + 7) (by omega), cl (n := nx * 29 + 27) (by omega), cl (n := nx * 29 + 28) (by omega), cl (n := 0) (by decide), cl (n := 7) (by decide), cl (n := 20) (by decide)]
  refine ⟨⟨by decide, nI_pos (by omega), by decide, by decide, by omega⟩, fun μ1 e1 => ⟨⟨by decide, nI_pos (by omega), by decide, by decide, by omega⟩, fun μ2 e2 => ⟨vin (by omega) (by decide), fun μ4 e4 => ⟨vin (by omega) (by decide), fun μ6 e6 μ7 e7 μ8 e8 => ?_⟩⟩⟩⟩
  have R : ∀ z, z ≠ k → z ≠ k + 8 → μ8.1 z = μ.1 z := fun z z1 z2 => by rw [e8, ms_row z1, e7, ms_row z1, e6, ms_row z2, e4, ms_row z2, e2, mc_row z2, e1, mc_row z2]
  have R6 : ∀ z, z ≠ k + 8 → μ6.1 z = μ.1 z := fun z z2 => by rw [e6, ms_row z2, e4, ms_row z2, e2, mc_row z2, e1, mc_row z2]
  have K : ∀ z, z ≠ 6 → z ≠ 7 → μ8.1 k z = μ.1 k z := fun z z1 z2 => by rw [e8, ms_col z2, e7, ms_col z1, R6 k (by omega)]
  have S8 : ∀ q, μ8.1 (k + 8) q = if nx * 29 ≤ q ∧ q < nx * 29 + 7 then μ.1 (k + 4) (q - nx * 29) else if nx * 29 + 7 ≤ q ∧ q < nx * 29 + 27 then μ.1 (k + 5) (q - (nx * 29 + 7)) else if q = nx * 29 + 27 then μ.1 (k + 1) 6 else if q = nx * 29 + 28 then μ.1 (k + 1) 7 else μ.1 (k + 8) q := by
    intro q
    rw [e8, ms_row (by omega), e7, ms_row (by omega), e6]
    by_cases q28 : q = nx * 29 + 28
    · subst q28
      rw [ms_at, if_neg (by omega), if_neg (by omega), if_neg (by omega), if_pos rfl, e4, ms_row (by omega), e2, mc_row (by omega), e1, mc_row (by omega)]
    · rw [ms_col q28, e4]
      by_cases q27 : q = nx * 29 + 27
      · subst q27
        rw [ms_at, if_neg (by omega), if_neg (by omega), if_pos rfl, e2, mc_row (by omega), e1, mc_row (by omega)]
      · rw [ms_col q27, e2]
        by_cases q7 : nx * 29 + 7 ≤ q ∧ q < nx * 29 + 27
        · rw [mc_in (by omega) (by omega), if_neg (by omega), if_pos q7, e1, mc_row (by omega), Nat.zero_add]
        · rw [mc_out (by omega), e1]
          by_cases q0 : nx * 29 ≤ q ∧ q < nx * 29 + 7
          · rw [mc_in (by omega) (by omega), if_pos q0, Nat.zero_add]
          · rw [mc_out (by omega), if_neg q0, if_neg q7, if_neg q27, if_neg q28]
  refine ⟨rfl, ⟨?_, ?_, ?_, ?_, fun j hj => ?_, fun j hj => ?_, (nx + 1) % 8, by omega, ?_, ?_, fun e he => ?_⟩, ?_⟩
  · exact hL.cg2 h7 (fun z h1 h2 => R z (by omega) (by omega)) (fun j h1 _ _ h3 _ => sav_lo (by omega) h3)
  · rw [R _ (by omega) (by omega), sav_lo (by omega) (by omega)]; exact c2
  · rw [K _ (by decide) (by decide), sav_lo (by omega) (by omega)]; exact c3
  · rw [K _ (by decide) (by decide), sav_lo (by omega) (by omega)]; exact c4
  · rw [sav_lo (by omega) (by omega)] at hj
    rw [R _ (by omega) (by omega), sav_lo (by omega) (by omega)]; exact c5 j hj
  · rw [sav_lo (by omega) (by omega)] at hj
    rw [R _ (by omega) (by omega), sav_lo (by omega) (by omega)]; exact c6 j hj
  · have : μ6.1 k 6 = nI nx := by rw [R6 k (by omega)]; exact r6
    rw [e8, ms_col (by decide), e7, ms_at, this, nI_add, pk_rem (by omega) (by decide) (by decide)]
  · have : μ7.1 k 7 = nI (a 3) := by rw [e7, ms_col (by decide), R6 k (by omega)]; exact r7
    rw [e8, ms_at, this, nI_add, sav_3]
    unfold svc
    by_cases c : a 3 = 8
    · rw [if_pos c, if_neg (by rw [nIlt (by omega) (by decide)]; omega)]
    · rw [if_neg c]
      by_cases c7 : a 3 = 7
      · rw [if_neg (by rw [nIlt (by omega) (by decide)]; omega), c7]
      · rw [if_pos (by rw [nIlt (by omega) (by decide)]; omega)]
  · rw [sav_3] at he ⊢
    by_cases e1 : e = svc a
    · subst e1
      rw [show ((nx + 1) % 8 + 8 - (svc a + 1) + svc a) % 8 = nx by omega, Nat.mul_comm]
      refine ⟨fun i hi => ?_, fun x hx => ?_, ?_, ?_⟩
      · rw [sav_lo (by omega) (by omega)] at hi
        rw [S8, if_pos (by omega), Nat.add_assoc, sav_new (by omega), show nx * 29 + i - nx * 29 = i by omega, show 5 + (2 + i) = 7 + i by omega]
        exact (a4 i hi).2.2
      · rw [S8, if_neg (by omega), if_pos (by omega), Nat.add_assoc (86 + 29 * svc a), sav_new (by omega), show nx * 29 + 7 + x - (nx * 29 + 7) = x by omega, show 5 + (9 + x) = 14 + x by omega]
        exact a5 x hx
      · rw [S8, if_neg (by omega), if_neg (by omega), if_pos rfl, sav_new (by omega)]; exact c2
      · rw [S8, if_neg (by omega), if_neg (by omega), if_neg (by omega), if_pos rfl]
        have := sav_new (a := a) (j := 0) (by omega)
        rw [Nat.add_zero] at this
        rw [this]; exact a3
    · have e2 : e < svc a := by omega
      have keep : ∀ p, p < 8 → p ≠ nx → ∀ j, j < 29 → μ8.1 (k + 8) (29 * p + j) = μ.1 (k + 8) (29 * p + j) := by
        intro p hp hpn j hj
        rw [S8, if_neg (by omega), if_neg (by omega), if_neg (by omega), if_neg (by omega)]
      by_cases c : a 3 = 8
      · have es : svc a = 7 := by unfold svc; rw [if_pos c]
        have old := re (e + 1) (by omega)
        rw [es, show ((nx + 1) % 8 + 8 - (7 + 1) + e) % 8 = (nx + 8 - a 3 + (e + 1)) % 8 by omega]
        exact old.mv h7 (keep _ (by omega) (by omega)) (sav_lo (by omega) (by omega)) (fun j hj => by rw [sav_old h8 e2 hj, if_pos c])
      · have es : svc a = a 3 := by unfold svc; rw [if_neg c]
        have old := re e (by omega)
        rw [es, show ((nx + 1) % 8 + 8 - (a 3 + 1) + e) % 8 = (nx + 8 - a 3 + e) % 8 by omega]
        exact old.mv h7 (keep _ (by omega) (by omega)) (sav_lo (by omega) (by omega)) (fun j hj => by rw [sav_old h8 e2 hj, if_neg c])
  · rw [e8, e7, e6, e4, e2, e1]
    exact (((((Eqx.rf.mc (by simp)).mc (by simp)).ms (by simp)).ms (by simp)).ms (by simp)).ms (by simp)
theorem kX5_save {μ : Mm} {s : Ln} (h8 : s 3 ≤ 8) (h : RMa μ s) : Con mX5_save [.ref 66] μ (fun r μ' => r = none ∧ RMa μ' (savF s) ∧ Eqx [67] μ μ') := by
  refine Con.of pnX5 (Nat.le_of_ble_eq_true rfl) (fun κ => wX5_save_0 μ ?_)
  have hs := svc_le h8
  have last : ∀ (w : Ln) (μ1 : Mm), w 3 ≤ 7 → RMa μ1 w → Eqx [67] μ μ1 → (∀ j, j < 318 → (if j = 3 then w 3 + 1 else if 86 + 29 * w 3 ≤ j ∧ j < 115 + 29 * w 3 then w (5 + (j - (86 + 29 * w 3))) else w j) = savF s j) → Vq κ (fun r μ' => r = none ∧ RMa μ' (savF s) ∧ Eqx [67] μ μ') mX5_save 54 [(0, .ref 66), (1, .int (nI 0))] [] μ1 := by
    intro w μ1 hw hR hE he
    refine cnt_loop 29 (fun t μ2 => Vq κ (fun r μ' => r = none ∧ RMa μ' (savF s) ∧ Eqx [67] μ μ') mX5_save 54 [(0, .ref 66), (1, .int (nI t))] [] μ2) (fun t μ2 => (∀ j, j < 318 → μ2.1 67 j = nI (if 86 + 29 * w 3 ≤ j ∧ j < 86 + 29 * w 3 + t then w (5 + (j - (86 + 29 * w 3))) else w j)) ∧ Eqx [67] μ μ2) ?_ ?_ 0 μ1 (by omega) ⟨fun j hj => by rw [if_neg (by omega)]; exact hR j hj, hE⟩
    · rintro μ2 ⟨g, gE⟩
      refine wX5_save_54 _ μ2 ⟨fun _ μ3 e3 => ?_, fun z => absurd (nge (by decide) (by decide)) z⟩
      rw [cl (by decide), g 3 (by decide), if_neg (by omega), nI_add] at e3
      refine ⟨rfl, fun j hj => ?_, by rw [e3]; exact gE.ms (by simp)⟩
      rw [e3, ← he j hj]
      by_cases j3 : j = 3
      · subst j3; rw [ms_at, if_pos rfl]
      · rw [ms_col j3, if_neg j3, g j hj]
        congr 1
        by_cases c : 86 + 29 * w 3 ≤ j ∧ j < 86 + 29 * w 3 + 29
        · rw [if_pos c, if_pos (by omega)]
        · rw [if_neg c, if_neg (by omega)]
    · rintro t μ2 ht ⟨g, gE⟩ ih
      have g3 : μ2.1 67 3 = nI (w 3) := by rw [g 3 (by decide), if_neg (by omega)]
      refine wX5_save_54 _ μ2 ⟨fun z => absurd z (nnge (by decide) ht), fun _ => ?_⟩
      rw [cl (n := 3) (by decide), g3, pk_mul, nI_add, nI_add, nI_add, cl (n := 5 + t) (by omega), cl (n := 86 + 29 * w 3 + t) (by omega), nI_add, g _ (by omega), if_neg (by omega)]
      refine ⟨vin (by omega) (by decide), vin (by omega) (by decide), fun μ4 e4 => ih μ4 ⟨fun j hj => ?_, by rw [e4]; exact gE.ms (by simp)⟩⟩
      rw [e4]
      by_cases jt : j = 86 + 29 * w 3 + t
      · subst jt
        rw [ms_at, if_pos (by omega)]
        congr 2; omega
      · rw [ms_col jt, g j hj]
        congr 1
        by_cases c : 86 + 29 * w 3 ≤ j ∧ j < 86 + 29 * w 3 + t
        · rw [if_pos c, if_pos (by omega)]
        · rw [if_neg c, if_neg (by omega)]
  rw [cl (by decide), h 3 (by decide)]
  refine ⟨fun c => ?_, fun c => ?_⟩
  · rw [nIe (by omega) (by decide)] at c
    refine last s μ (by omega) h Eqx.rf (fun j hj => ?_)
    have es : svc s = s 3 := by unfold svc; rw [if_neg c]
    unfold savF
    rw [es]
    by_cases j3 : j = 3
    · rw [if_pos j3, if_pos j3]
    · rw [if_neg j3, if_neg j3]
      by_cases c2 : 86 + 29 * s 3 ≤ j ∧ j < 115 + 29 * s 3
      · rw [if_pos c2, if_pos c2]
      · rw [if_neg c2, if_neg c2, if_neg (fun z => c z.1)]
  · rw [nIe (by omega) (by decide)] at c
    refine cnt_loop 203 (fun t μ2 => Vq κ (fun r μ' => r = none ∧ RMa μ' (savF s) ∧ Eqx [67] μ μ') mX5_save 13 [(0, .ref 66), (1, .int (nI t))] [] μ2) (fun t μ2 => (∀ j, j < 318 → μ2.1 67 j = nI (if 86 ≤ j ∧ j < 86 + t then s (j + 29) else s j)) ∧ Eqx [67] μ μ2) ?_ ?_ 0 μ (by omega) ⟨fun j hj => by rw [if_neg (by omega)]; exact h j hj, Eqx.rf⟩
    · rintro μ2 ⟨g, gE⟩
      refine wX5_save_13 _ μ2 ⟨fun _ μ3 e3 => ?_, fun z => absurd (nge (by decide) (by decide)) z⟩
      rw [cl (by decide)] at e3
      refine last (fun j => if j = 3 then 7 else if 86 ≤ j ∧ j < 289 then s (j + 29) else s j) μ3 (Nat.le_refl 7) (fun j hj => ?_) (by rw [e3]; exact gE.ms (by simp)) (fun j hj => ?_)
      · rw [e3]
        by_cases j3 : j = 3
        · subst j3; rw [ms_at]; rfl
        · rw [ms_col j3, g j hj]
          show _ = nI (if j = 3 then 7 else if 86 ≤ j ∧ j < 289 then s (j + 29) else s j)
          rw [if_neg j3]
      · have es : svc s = 7 := by unfold svc; rw [if_pos c]
        unfold savF
        rw [es, if_pos rfl]
        by_cases j3 : j = 3
        · rw [if_pos j3, if_pos j3]
        · rw [if_neg j3, if_neg j3, if_neg j3]
          by_cases c2 : 86 + 29 * 7 ≤ j ∧ j < 115 + 29 * 7
          · rw [if_pos c2, if_pos c2, if_neg (by omega), if_neg (by omega)]
          · rw [if_neg c2, if_neg c2]
            by_cases c3 : 86 ≤ j ∧ j < 289
            · rw [if_pos c3, if_pos ⟨c, c3⟩]
            · rw [if_neg c3, if_neg (fun z => c3 z.2)]
    · rintro t μ2 ht ⟨g, gE⟩ ih
      refine wX5_save_13 _ μ2 ⟨fun z => absurd z (nnge (by decide) ht), fun _ => ?_⟩
      rw [nI_add, nI_add, nI_add, cl (n := 115 + t) (by omega), cl (n := 86 + t) (by omega), g _ (by omega), if_neg (by omega)]
      refine ⟨vin (by omega) (by decide), vin (by omega) (by decide), fun μ4 e4 => ih μ4 ⟨fun j hj => ?_, by rw [e4]; exact gE.ms (by simp)⟩⟩
      rw [e4]
      by_cases jt : j = 86 + t
      · subst jt
        rw [ms_at, if_pos (by omega)]
        congr 2; omega
      · rw [ms_col jt, g j hj]
        congr 1
        by_cases c2 : 86 ≤ j ∧ j < 86 + t
        · rw [if_pos c2, if_pos (by omega)]
        · rw [if_neg c2, if_neg (by omega)]
theorem fh_of {x : Int32} {h : Nat} (hh : h ≤ 7) (z : fwith x (nI 0) (nI h - nI 1) = true) : ∃ j, j < h ∧ x = nI j := by
  cases h with
  | zero =>
    obtain ⟨h1, h2⟩ := fwith_t.mp z
    exfalso
    rw [Int32.le_iff_toInt_le] at h1 h2
    have e1 : (nI 0).toInt = 0 := by decide
    have e2 : (nI 0 - nI 1).toInt = -1 := by decide
    omega
  | succ h =>
    rw [pk_sub (by omega), Nat.add_sub_cancel] at z
    obtain ⟨j, hj, e⟩ := fw_of (by omega) z
    exact ⟨j, by omega, e⟩
theorem fh_yes {j h : Nat} (hh : h ≤ 7) (hj : j < h) : fwith (nI j) (nI 0) (nI h - nI 1) = true := by
  rw [pk_sub (by omega)]
  exact fw_yes (by omega) (by omega)
theorem fv_of {x : Int32} {h : Nat} (hh : h ≤ 7) (z : fvis x (nI h) = true) : ∃ j, (j < h ∨ j = 7) ∧ x = nI j := by
  unfold fvis at z
  cases e : fwith x (nI 0) (nI h - nI 1) with
  | true =>
    obtain ⟨j, hj, e2⟩ := fh_of hh e
    exact ⟨j, Or.inl hj, e2⟩
  | false =>
    rw [e, Bool.false_or] at z
    exact ⟨7, Or.inr rfl, of_decide_eq_true z⟩
def harF (a : Ln) (v : Nat) : Ln := up (pasL a v) 6 (a 6 + pasN a v)
def sDay (x : Int32) (s : Ln) : Int32 × Ln := if fvis x (nI (s 0)) = true then (nI (pasN (savF s) x.toNatClampNeg), harF (savF s) x.toNatClampNeg) else (-2, rfs s 0)
theorem SOK.day {n : Nat} {a : Ln} (h : SOK n a) (hn : n ≤ 600) (v : Nat) : SOK (n + 1) (harF a v) := by
  obtain ⟨hOK, h5, hph⟩ := h.ok hn
  have hp := pass_ok hOK (by omega) v
  have hsum := pass_sum hOK.1 v
  obtain ⟨⟨p0, p1, p2, p3, p4⟩, g2, g3, g4, g5, g6⟩ := h
  have lo : ∀ j, j < 5 → harF a v j = a j := fun j hj => by unfold harF; rw [up_ne (by omega), pass_lo p0 _ _ hj]
  have hi : ∀ j, 34 ≤ j → harF a v j = a j := fun j hj => by unfold harF; rw [up_ne (by omega), pass_hi p0 _ _ hj]
  refine ⟨⟨by rw [lo _ (by decide)]; exact p0, by rw [lo _ (by decide)]; exact p1, by rw [lo _ (by decide)]; exact p2, by rw [lo _ (by decide)]; exact p3, by rw [lo _ (by decide)]; exact p4⟩, ⟨?_, ?_, fun i hi => ?_, fun c hc => ?_⟩, fun i hi' => ?_, fun r hr => ?_, fun r hr => ?_, fun e he => ((g6 e he).up (Nat.le_succ n)).cg (fun j hj => hi _ (by omega))⟩
  · show harF a v 5 ≤ _
    unfold harF
    rw [up_ne (by decide), pass_5 p0]
    have : a 5 ≤ 200 + n := g2.1
    omega
  · show harF a v 6 + sm (fun c => harF a v (5 + (9 + c))) 20 ≤ _
    have e1 : sm (fun c => harF a v (5 + (9 + c))) 20 = vall (pasL a v) 20 := by
      rw [← sm_vall]
      exact sm_cg (fun c hc => up_ne (by omega))
    rw [e1]
    unfold harF
    rw [up_at]
    omega
  · show harF a v (5 + (2 + i)) < 60
    unfold harF
    rw [up_ne (by omega), show 5 + (2 + i) = 7 + i by omega]
    exact (hp.2.2.2.1 i hi).1
  · show harF a v (5 + (9 + c)) ≤ 9
    unfold harF
    rw [up_ne (by omega), show 5 + (9 + c) = 14 + c by omega]
    exact hp.2.2.2.2 c hc
  · rw [hi _ (by omega), hi _ (by omega)]; exact g3 i hi'
  · rw [hi _ (by omega), hi _ (by omega), hi _ (by omega), hi _ (by omega)]; exact g4 r hr
  · rw [hi _ (by omega), hi _ (by omega), hi _ (by omega)]; exact g5 r hr
theorem har_hi {a : Ln} {v j : Nat} (h : a 0 ≤ 7) (hj : 34 ≤ j) : harF a v j = a j := by unfold harF; rw [up_ne (by omega), pass_hi h _ _ hj]
theorem har_lo {a : Ln} {v j : Nat} (h : a 0 ≤ 7) (hj : j < 5) : harF a v j = a j := by unfold harF; rw [up_ne (by omega), pass_lo h _ _ hj]
theorem oDay (x : Int32) {s : Ln} {n : Nat} (h : OKs n s) (hn : n ≤ 600) : OKs (n + 1) (sDay x s).2 := by
  unfold sDay
  cases hb : fvis x (nI (s 0)) with
  | true =>
    rw [ifT rfl]
    refine h.now (h.1.sav.day hn _) (fun j hj => ?_)
    have hs := h.1.sav
    dsimp only
    rw [har_hi hs.1.1 (by omega), sav_hi h.1.1.2.2.2.1 hj]
  | false => exact h.rf (by decide)
theorem xDay (x : Int32) {μ : Mm} {s : Ln} {n : Nat} (h : RX μ s) (hok : OKs n s) (hn : n ≤ 600) : Con mX4_day [.ref 0, .int x] μ (PX (sDay x s) μ) := by
  obtain ⟨hOK, h5, hph⟩ := hok.1.ok hn
  obtain ⟨⟨⟨a1, a2, a3, a4, a5⟩, c2, c3, c4, c5, c6, c7⟩, -⟩ := id h.1
  obtain ⟨p0, p1, p2, p3, p4⟩ := id hok.1.1
  refine Con.of pnX4 (Nat.le_of_ble_eq_true rfl) (fun κ => wX4_day_0 x μ ?_)
  have a2' : μ.1 4 1 = nI (s 0) := a2
  have a3' : μ.1 4 7 = nI (s 5) := a3
  rw [a2', a3']
  refine ⟨fun hb => ⟨fun _ => ?_, fun z => absurd ((nIlt (by omega) (by decide)).mpr (by omega)) z⟩, fun hb => ?_⟩
  · unfold sDay
    rw [ifT hb]
    obtain ⟨j, hj, rfl⟩ := fv_of p0 hb
    rw [cl (by omega)]
    refine (kX3_keepForUndo 3 μ isS_3 p0 p1 p2 p3 h.1.1).mono ?_
    rintro r μ1 ⟨rfl, hS1, hE1⟩
    refine ⟨rfl, ?_⟩
    have hs := hok.1.sav
    obtain ⟨hOK1, h51, -⟩ := hs.ok hn
    refine (kX0_pass 4 j μ1 isL_4 hOK1 (by omega) (by omega) hS1.1).mono ?_
    rintro r μ2 ⟨rfl, hL2, -, hh2, hE2⟩
    obtain ⟨d1, d2, d3, d4, d5, d6, d7⟩ := hS1
    refine ⟨_, rfl, px rfl (h.now hok (S := [3, 11, 4, 7, 8]) ⟨?_, ?_, ?_, ?_, fun i hi => ?_, fun i hi => ?_, ?_⟩ ?_ (by decide) (fun i hi => by rw [har_hi hs.1.1 (by omega), sav_hi p3 hi]))⟩
    · exact hL2.cg2 (by have e0 := pass_lo hs.1.1 j 0 (by decide); show pasL (savF s) j 0 ≤ 7; rw [e0]; exact hs.1.1) (fun _ _ _ => rfl) (fun i _ _ _ _ h6 => up_ne h6)
    · show μ2.1 4 6 = nI (harF (savF s) j 6)
      have d2' : μ1.1 4 6 = nI (savF s 6) := d2
      rw [hh2, d2', nI_add]
      unfold harF
      rw [up_at]
    · rw [hE2.2 3 (nm3 (by decide) (by decide) (by decide)), har_lo hs.1.1 (by decide)]; exact d3
    · rw [hE2.2 3 (nm3 (by decide) (by decide) (by decide)), har_lo hs.1.1 (by decide)]; exact d4
    · rw [har_lo hs.1.1 (by decide)] at hi
      rw [hE2.2 _ (nm3 (by decide) (by decide) (by decide)), har_hi hs.1.1 (by omega)]; exact d5 i hi
    · rw [har_lo hs.1.1 (by decide)] at hi
      rw [hE2.2 _ (nm3 (by decide) (by decide) (by decide)), har_hi hs.1.1 (by omega)]; exact d6 i hi
    · exact d7.cg hs.1.1 hs.1.2.2.2.1 (by rw [hE2.2 3 (nm3 (by decide) (by decide) (by decide))]) (by rw [hE2.2 3 (nm3 (by decide) (by decide) (by decide))]) (hE2.2 _ (nm3 (by decide) (by decide) (by decide))) (har_lo hs.1.1 (by decide)) (har_lo hs.1.1 (by decide)) (fun i h1 h2 => har_hi hs.1.1 (by omega))
    · exact (hE1.mn (by simp)).tr (hE2.mn (by simp))
  · unfold sDay; rw [ifF hb]; exact PX.on (kX4_bad h hok)
theorem mDay (x : Int32) {μ : Mm} {s : Ln} {n : Nat} (h : RM μ s) (hok : OKs n s) (hn : n ≤ 512) : Con mX5_day [.ref 66, .int x] μ (PM (sDay x s) μ) := by
  obtain ⟨hOK, h5, hph⟩ := hok.1.ok (n := n) (by omega)
  obtain ⟨p0, p1, p2, p3, p4⟩ := id hok.1.1
  have hs := hok.1.sav
  obtain ⟨hOK1, h51, hph1⟩ := hs.ok (n := n) (by omega)
  have main : ∀ j, j < 2 ^ 31 → Con mX5_save [.ref 66] μ (fun r μ1 => r = none ∧ (Con mX5_goDay [.ref 66, .ref 67, .int (nI j)] μ1 (fun r μ2 => ∃ x3 : Int32, r = some (.int x3) ∧ (Con mX5_harm [.ref 67, .int x3] μ2 (fun r μ4 => r = none ∧ (PM (nI (pasN (savF s) j), harF (savF s) j) μ (some (.int x3)) μ4)))))) := by
    intro j hj
    refine (kX5_save p3 h.1).mono ?_
    rintro r μ1 ⟨rfl, hR1, hE1⟩
    refine ⟨rfl, (kX5_goDay 67 318 j μ1 Ar_67 hOK1 (by omega) hj hR1.lm).mono ?_⟩
    rintro r μ2 ⟨rfl, hL2, -, g1, g2, g3, g4⟩
    have hpn := pass_le hOK1 j
    have m6 : μ2.1 67 6 = nI (savF s 6) := by rw [hL2 6 (by decide)]; congr 1; exact pass_6 hs.1.1 j
    refine ⟨_, rfl, (kX5_harm 67 318 (savF s 6) _ μ2 Ar_67 m6 (by have := vall_le hOK1.2.2.2.2 20 (Nat.le_refl _); have := pass_sum hs.1.1 j; omega)).mono ?_⟩
    rintro r μ3 ⟨rfl, e3⟩
    refine ⟨rfl, pm rfl (h.now hok (fun i hi => ?_) (fun y hy => ?_) ?_ ?_ (fun i hi => by rw [har_hi hs.1.1 (by omega), sav_hi p3 hi]))⟩
    · rw [e3]
      unfold harF
      by_cases i6 : i = 6
      · subst i6; rw [ms_at, up_at]
      · rw [ms_col i6, up_ne i6]
        by_cases i48 : i < 48
        · exact hL2 i i48
        · rw [g3 i (by omega), hR1 i hi, pass_hi hs.1.1 _ _ (by omega)]
    · rw [e3, ms_row (by omega), g2 y (by omega) (by omega), hE1.2 y (nm1 (by omega))]
    · rw [e3, ms_row (by decide), g4 11 (by decide), hE1.2 66 (nm1 (by decide))]
    · rw [e3, ms_2, g1, hE1.1]
  refine Con.of pnX5 (Nat.le_of_ble_eq_true rfl) (fun κ => wX5_day_0 x μ ?_)
  rw [cl (by decide), h.1 0 (by decide), h.1 5 (by decide)]
  have no9 : ¬ nI (s 5) = nI 9999 := by rw [nIe (by omega) (by decide)]; omega
  refine ⟨fun hb => ⟨fun _ => ?_, fun z => absurd z no9⟩, fun hb => ⟨fun e => ⟨fun _ => ?_, fun z => absurd z no9⟩, fun e => ?_⟩⟩
  · unfold sDay
    rw [ifT (by unfold fvis; rw [hb]; rfl)]
    obtain ⟨j, hj, rfl⟩ := fh_of p0 hb
    rw [cl (by omega)]
    exact main j (by omega)
  · unfold sDay
    rw [ifT (by unfold fvis; rw [hb, decide_eq_true e]; rfl)]
    subst e
    rw [cl (by decide)]
    exact main 7 (by decide)
  · unfold sDay
    rw [ifF (by unfold fvis; rw [hb, decide_eq_false e]; rfl)]
    exact PM.on (kX5_badR (-2) h)
-- putBack
def sPutBack (x y : Int32) (s : Ln) : Int32 × Ln := if fwith x (nI 0) (nI 19) = true then (if fwith y (nI 1) (nI 9) = true then (if s (14 + x.toNatClampNeg) = 9 then (-3, rfs s 1) else (nI (min (s (14 + x.toNatClampNeg) + y.toNatClampNeg) 9), up (savF s) (14 + x.toNatClampNeg) (min (s (14 + x.toNatClampNeg) + y.toNatClampNeg) 9))) else (-2, rfs s 0)) else (-2, rfs s 0)
theorem SOK_vn {n : Nat} {a : Ln} {c y : Nat} (h : SOK n a) (hc : c < 20) (hy : y ≤ 9) : SOK (n + 1) (up a (14 + c) y) := by
  obtain ⟨⟨p0, p1, p2, p3, p4⟩, g2, g3, g4, g5, g6⟩ := h
  refine ⟨⟨by rw [up_ne (by omega)]; exact p0, by rw [up_ne (by omega)]; exact p1, by rw [up_ne (by omega)]; exact p2, by rw [up_ne (by omega)]; exact p3, by rw [up_ne (by omega)]; exact p4⟩, g2.vn (c := c) hc hy (by rw [show 5 + (9 + c) = 14 + c by omega, up_at]) (fun j h1 h2 => up_ne (by omega)), fun i hi => ?_, fun r hr => ?_, fun r hr => ?_, fun e he => ((g6 e he).up (Nat.le_succ n)).cg (fun j hj => up_ne (by omega))⟩
  · rw [up_ne (by omega), up_ne (by omega)]; exact g3 i hi
  · rw [up_ne (by omega), up_ne (by omega), up_ne (by omega), up_ne (by omega)]; exact g4 r hr
  · rw [up_ne (by omega), up_ne (by omega), up_ne (by omega)]; exact g5 r hr
theorem oPutBack (x y : Int32) {s : Ln} {n : Nat} (h : OKs n s) : OKs (n + 1) (sPutBack x y s).2 := by
  unfold sPutBack
  cases hb : fwith x (nI 0) (nI 19) with
  | false => exact h.rf (by decide)
  | true =>
    rw [ifT rfl]
    cases hb2 : fwith y (nI 1) (nI 9) with
    | false => exact h.rf (by decide)
    | true =>
      rw [ifT rfl]
      obtain ⟨c, hc, rfl⟩ := fw_of (by decide) hb
      rw [cl (by omega)]
      by_cases e : s (14 + c) = 9
      · rw [if_pos e]; exact h.rf (by decide)
      · rw [if_neg e]
        dsimp only
        exact h.now (SOK_vn h.1.sav (by omega) (Nat.min_le_right _ _)) (fun j hj => by rw [up_ne (by omega), sav_hi h.1.1.2.2.2.1 hj])
theorem xPutBack (x y : Int32) {μ : Mm} {s : Ln} {n : Nat} (h : RX μ s) (hok : OKs n s) (hn : n ≤ 600) : Con mX4_putBack [.ref 0, .int x, .int y] μ (PX (sPutBack x y s) μ) := by
  obtain ⟨hOK, h5, hph⟩ := hok.1.ok hn
  obtain ⟨p0, p1, p2, p3, p4⟩ := id hok.1.1
  refine Con.of pnX4 (Nat.le_of_ble_eq_true rfl) (fun κ => wX4_putBack_0 x y μ ⟨fun hb => ?_, fun hb => ⟨fun hb2 => ?_, fun hb2 => ?_⟩⟩)
  · unfold sPutBack; rw [ifF hb]; exact PX.on (kX4_bad h hok)
  · unfold sPutBack
    rw [ifT hb, ifT hb2]
    obtain ⟨c, hc, rfl⟩ := fw_of (by decide) hb
    obtain ⟨z, hz0, hz, rfl⟩ := fw_of1 (by decide) (by decide) hb2
    rw [cl (n := c) (by omega), cl (n := z) (by omega)]
    have v0 : μ.1 8 c = nI (s (14 + c)) := h.1.1.1.2.2.2.2 c (by omega)
    have v9 := hOK.2.2.2.2 c (by omega)
    rw [v0, nIlt (by omega) (by decide)]
    refine ⟨vin (by omega) (by decide), fun h9 => ?_, fun h9 => ?_⟩
    · rw [if_neg (by omega)]
      refine (kX3_keepForUndo 3 μ isS_3 p0 p1 p2 p3 h.1.1).mono ?_
      rintro r μ1 ⟨rfl, hS1, hE1⟩
      refine ⟨rfl, fun μ5 e5 => ?_⟩
      have hs := hok.1.sav
      obtain ⟨⟨b1, b2, b3, b4, b5⟩, d2, d3, d4, d5, d6, d7⟩ := id hS1
      have v1 : μ1.1 8 c = nI (s (14 + c)) := by
        have : μ1.1 8 c = nI (savF s (14 + c)) := b5 c (by omega)
        rw [this, sav_lo (by omega) (by omega)]
      have vv : (if nI (s (14 + c)) + nI z < nI 9 then nI (s (14 + c)) + nI z else nI 9) = nI (min (s (14 + c) + z) 9) := by
        rw [nI_add]
        by_cases e : s (14 + c) + z < 9
        · rw [if_pos ((nIlt (by omega) (by decide)).mpr e), Nat.min_eq_left (by omega)]
        · rw [if_neg (fun q => e ((nIlt (by omega) (by decide)).mp q)), Nat.min_eq_right (by omega)]
      rw [v1, vv] at e5
      have R : ∀ q, q ≠ 8 → μ5.1 q = μ1.1 q := fun q hq => by rw [e5, ms_row hq]
      refine px (by rw [e5, ms_at]) (h.now hok (S := [3, 11, 8]) ⟨⟨by rw [R _ (by decide), up_ne (by omega)]; exact b1, by rw [R _ (by decide), up_ne (by omega)]; exact b2, by rw [R _ (by decide), up_ne (by omega)]; exact b3, fun i hi => ?_, fun q hq => ?_⟩, by rw [R _ (by decide), up_ne (by omega)]; exact d2, by rw [R _ (by decide), up_ne (by omega)]; exact d3, by rw [R _ (by decide), up_ne (by omega)]; exact d4, fun i hi => ?_, fun i hi => ?_, d7.cg hs.1.1 hs.1.2.2.2.1 (by rw [R _ (by decide)]) (by rw [R _ (by decide)]) (R _ (by decide)) (up_ne (by omega)) (up_ne (by omega)) (fun i h1 h2 => up_ne (by omega))⟩ (by rw [e5]; exact (hE1.mn (by simp)).ms (by simp)) (by decide) (fun j hj => by rw [up_ne (by omega), sav_hi p3 hj]))
      · rw [up_ne (by omega)] at hi
        have := hs.1.1
        rw [R _ (by decide), R _ (by decide), R _ (by decide), up_ne (by omega), up_ne (by omega), up_ne (by omega)]; exact b4 i hi
      · rw [e5]
        by_cases e : q = c
        · subst e; rw [up_at]; exact ms_at _ _ _ _
        · rw [up_ne (by omega)]
          have : (mset μ1 8 c (nI (min (s (14 + c) + z) 9))).1 8 q = μ1.1 8 q := ms_col e
          exact this.trans (b5 q hq)
      · rw [up_ne (by omega)] at hi
        have := hs.1.2.1
        rw [R _ (by decide), up_ne (by omega)]; exact d5 i hi
      · rw [up_ne (by omega)] at hi
        have := hs.1.2.2.1
        rw [R _ (by decide), up_ne (by omega)]; exact d6 i hi
    · rw [if_pos (by omega)]; exact PX.on (kX4_no h hok)
  · unfold sPutBack; rw [ifT hb, ifF hb2]; exact PX.on (kX4_bad h hok)
theorem mPutBack (x y : Int32) {μ : Mm} {s : Ln} {n : Nat} (h : RM μ s) (hok : OKs n s) (hn : n ≤ 600) : Con mX5_putBack [.ref 66, .int x, .int y] μ (PM (sPutBack x y s) μ) := by
  obtain ⟨hOK, h5, hph⟩ := hok.1.ok hn
  obtain ⟨p0, p1, p2, p3, p4⟩ := id hok.1.1
  refine Con.of pnX5 (Nat.le_of_ble_eq_true rfl) (fun κ => wX5_putBack_0 x y μ ?_)
  rw [fwL y (by decide) (by decide)]
  refine ⟨fun hb => ?_, fun hb => ⟨fun hb2 => ?_, fun hb2 => ?_⟩⟩
  · unfold sPutBack; rw [ifF hb]; exact PM.on (kX5_badR (-2) h)
  · unfold sPutBack
    rw [ifT hb, ifT hb2]
    obtain ⟨c, hc, rfl⟩ := fw_of (by decide) hb
    obtain ⟨z, hz0, hz, rfl⟩ := fw_of1 (by decide) (by decide) hb2
    rw [nI_add, cl (n := 14 + c) (by omega), cl (n := c) (by omega), cl (n := z) (by omega), h.1 _ (by omega)]
    have v9 := hOK.2.2.2.2 c (by omega)
    rw [nIe (by omega) (by decide)]
    refine ⟨vin (by omega) (by decide), fun h9 => ?_, fun h9 => ?_⟩
    · rw [if_neg h9]
      refine (kX5_save p3 h.1).mono ?_
      rintro r μ1 ⟨rfl, hR1, hE1⟩
      refine ⟨rfl, ?_⟩
      have v1 : μ1.1 67 (14 + c) = nI (s (14 + c)) := by rw [hR1 _ (by omega), sav_lo (by omega) (by omega)]
      rw [v1, nI_add]
      have fin1 : ∀ μ5 : Mm, μ5 = mset μ1 67 (14 + c) (nI (min (s (14 + c) + z) 9)) → PM (nI (min (s (14 + c) + z) 9), up (savF s) (14 + c) (min (s (14 + c) + z) 9)) μ (some (.int (μ5.1 67 (14 + c)))) μ5 := by
        intro μ5 e5
        refine pm (by rw [e5, ms_at]) (h.now hok (fun i hi => ?_) (fun q hq => by rw [e5, ms_row (by omega)]; exact hE1.2 q (nm1 (by omega))) (by rw [e5, ms_row (by decide), hE1.2 66 (nm1 (by decide))]) (by rw [e5, ms_2]; exact hE1.1) (fun j hj => by rw [up_ne (by omega), sav_hi p3 hj]))
        rw [e5]
        by_cases e : i = 14 + c
        · subst e; rw [ms_at, up_at]
        · rw [ms_col e, up_ne e]; exact hR1 i hi
      refine ⟨fun h2 μ5 e5 => fin1 μ5 ?_, fun h2 μ5 e5 => fin1 μ5 ?_⟩
      · rw [nIle (by omega) (by decide)] at h2
        rw [e5, Nat.min_eq_left h2]
      · rw [nIle (by omega) (by decide)] at h2
        rw [e5, Nat.min_eq_right (by omega)]
    · rw [if_pos h9]; exact PM.on (kX5_noR h)
  · unfold sPutBack; rw [ifT hb, ifF hb2]; exact PM.on (kX5_badR (-2) h)
-- undo
def undF (a : Ln) : Ln := fun j => if j = 3 then a 3 - 1 else if 5 ≤ j ∧ j < 34 then a (86 + 29 * (a 3 - 1) + (j - 5)) else a j
def sUndo (s : Ln) : Int32 × Ln := if s 3 = 0 then (-3, rfs s 1) else (nI (undF s 5), undF s)
theorem und_c {a : Ln} {j : Nat} (hj : j < 29) : undF a (5 + j) = a (86 + 29 * (a 3 - 1) + j) := by
  unfold undF; rw [if_neg (by omega), if_pos (by omega)]; congr 1; omega
theorem und_o {a : Ln} {j : Nat} (h3 : j ≠ 3) (h : j < 5 ∨ 34 ≤ j) : undF a j = a j := by
  unfold undF; rw [if_neg h3, if_neg (by omega)]
theorem SOK.und {n : Nat} {a : Ln} (h : SOK n a) (h0 : a 3 ≠ 0) : SOK n (undF a) := by
  obtain ⟨⟨p0, p1, p2, p3, p4⟩, g2, g3, g4, g5, g6⟩ := h
  refine ⟨⟨by rw [und_o (by omega) (by omega)]; exact p0, by rw [und_o (by omega) (by omega)]; exact p1, by rw [und_o (by omega) (by omega)]; exact p2, by show a 3 - 1 ≤ 8; omega, by rw [und_o (by omega) (by omega)]; exact p4⟩, (g6 (a 3 - 1) (by omega)).cg (fun j hj => und_c hj), fun i hi => ?_, fun r hr => ?_, fun r hr => ?_, fun e he => (g6 e he).cg (fun j hj => und_o (by omega) (by omega))⟩
  · rw [und_o (by omega) (by omega), und_o (by omega) (by omega)]; exact g3 i hi
  · rw [und_o (by omega) (by omega), und_o (by omega) (by omega), und_o (by omega) (by omega), und_o (by omega) (by omega)]; exact g4 r hr
  · rw [und_o (by omega) (by omega), und_o (by omega) (by omega), und_o (by omega) (by omega)]; exact g5 r hr
theorem oUndo {s : Ln} {n : Nat} (h : OKs n s) : OKs (n + 1) (sUndo s).2 := by
  unfold sUndo
  by_cases e : s 3 = 0
  · rw [if_pos e]; exact h.rf (by decide)
  · rw [if_neg e]
    dsimp only
    exact h.now ((h.1.und e).up (Nat.le_succ n)) (fun j hj => und_o (by omega) (by omega))
theorem kX3_stepBack (k : Nat) (μ : Mm) (hk : isS k) {a : Ln} (h7 : a 0 ≤ 7) (h5 : a 1 ≤ 5) (h6 : a 2 ≤ 6) (h8 : a 3 ≤ 8) (h0 : a 3 ≠ 0) (hS : St μ k a) : Con mX3_stepBack [.ref k] μ (fun r μ' => r = none ∧ St μ' k (undF a) ∧ Eqx [k, k + 1, k + 4, k + 5] μ μ') := by
  obtain ⟨hL, c2, c3, c4, c5, c6, nx, hnx, r6, r7, re⟩ := hS
  obtain ⟨a1, a2, a3, a4, a5⟩ := id hL
  refine Con.of pnX3 (Nat.le_of_ble_eq_true rfl) (fun κ => wX3_stepBack_0 k μ hk ?_)
  rw [r7]
  refine ⟨fun z => absurd z (by rw [← nI_0]; exact nnge (by omega) (by omega)), fun _ μ1 e1 μ2 e2 => ?_⟩
  rw [pk_sub (by omega)] at e1
  have m1 : μ1.1 k 6 = nI nx := by rw [e1, ms_col (by decide)]; exact r6
  rw [m1, nI_add, pk_sub (by omega), pk_rem (by omega) (by decide) (by decide)] at e2
  generalize hny : (nx + 8 - 1) % 8 = ny at e2
  have hn8 : ny < 8 := by omega
  have m2 : μ2.1 k 6 = nI ny := by rw [e2, ms_at]
  rw [m2, pk_mul, nI_add, nI_add, nI_add, cl (n := ny * 29) (by omega), cl (n := ny * 29 + 7) (by omega), cl (n := ny * 29 + 27) (by omega), cl (n := ny * 29 + 28) (by omega), cl (n := 0) (by decide), cl (n := 7) (by decide), cl (n := 20) (by decide)]
  refine ⟨⟨nI_pos (by omega), by decide, by decide, by omega, by decide⟩, fun μ3 e3 => ⟨⟨nI_pos (by omega), by decide, by decide, by omega, by decide⟩, fun μ4 e4 => ⟨vin (by omega) (by decide), fun μ6 e6 => ⟨vin (by omega) (by decide), fun μ8 e8 => ?_⟩⟩⟩⟩
  have R4 : ∀ z, z ≠ k → z ≠ k + 4 → z ≠ k + 5 → μ4.1 z = μ.1 z := fun z z1 z4 z5 => by rw [e4, mc_row (by omega), e3, mc_row (by omega), e2, ms_row z1, e1, ms_row z1]
  have R : ∀ z, z ≠ k → z ≠ k + 1 → z ≠ k + 4 → z ≠ k + 5 → μ8.1 z = μ.1 z := fun z z1 z2 z4 z5 => by rw [e8, ms_row z2, e6, ms_row z2, R4 z z1 z4 z5]
  have K : ∀ z, z ≠ 6 → z ≠ 7 → μ8.1 k z = μ.1 k z := fun z z1 z2 => by rw [e8, ms_row (by omega), e6, ms_row (by omega), e4, mc_row (by omega), e3, mc_row (by omega), e2, ms_col z1, e1, ms_col z2]
  have L1 : ∀ z, z ≠ 6 → z ≠ 7 → μ8.1 (k + 1) z = μ.1 (k + 1) z := fun z z1 z2 => by rw [e8, ms_col z2, e6, ms_col z1, R4 _ (by omega) (by omega) (by omega)]
  have r8 : μ4.1 (k + 8) = μ.1 (k + 8) := R4 _ (by omega) (by omega) (by omega)
  have en := re (a 3 - 1) (by omega)
  rw [show (nx + 8 - a 3 + (a 3 - 1)) % 8 = ny by omega] at en
  obtain ⟨n1, n2, n3, n4⟩ := en
  have q : ∀ j, j < 29 → undF a (5 + j) = a (86 + 29 * (a 3 - 1) + j) := fun j hj => und_c hj
  refine ⟨rfl, ⟨⟨?_, ?_, ?_, fun i hi => ⟨?_, ?_, ?_⟩, fun c hc => ?_⟩, ?_, ?_, ?_, fun j hj => ?_, fun j hj => ?_, ny, hn8, ?_, ?_, fun e he => ?_⟩, ?_⟩
  · rw [L1 0 (by decide) (by decide), und_o (by omega) (by omega)]; exact a1
  · rw [L1 1 (by decide) (by decide), und_o (by omega) (by omega)]; exact a2
  · have := q 0 (by decide)
    rw [Nat.add_zero] at this
    rw [e8, ms_at, e6, ms_row (by omega), r8, show undF a 5 = undF a (5 + 0) from rfl, q 0 (by decide), Nat.add_zero, Nat.mul_comm]
    exact n4
  · rw [und_o (by omega) (by omega)] at hi
    rw [R _ (by omega) (by omega) (by omega) (by omega), und_o (by omega) (by omega)]; exact (a4 i hi).1
  · rw [und_o (by omega) (by omega)] at hi
    rw [R _ (by omega) (by omega) (by omega) (by omega), und_o (by omega) (by omega)]; exact (a4 i hi).2.1
  · rw [und_o (by omega) (by omega)] at hi
    rw [e8, ms_row (by omega), e6, ms_row (by omega), e4, mc_row (by omega), e3, mc_in (by omega) (by omega), Nat.sub_zero, e2, ms_row (by omega), e1, ms_row (by omega), show 7 + i = 5 + (2 + i) by omega, q _ (by omega), Nat.mul_comm, ← Nat.add_assoc]
    exact n1 i hi
  · rw [e8, ms_row (by omega), e6, ms_row (by omega), e4, mc_in (by omega) (by omega), Nat.sub_zero, e3, mc_row (by omega), e2, ms_row (by omega), e1, ms_row (by omega), show 14 + c = 5 + (9 + c) by omega, q _ (by omega), Nat.mul_comm, ← Nat.add_assoc]
    exact n2 c hc
  · rw [e8, ms_col (by decide), e6, ms_at, r8, show (6 : Nat) = 5 + 1 from rfl, q 1 (by decide), Nat.mul_comm]
    exact n3
  · rw [K _ (by decide) (by decide), und_o (by omega) (by omega)]; exact c3
  · rw [K _ (by decide) (by decide), und_o (by omega) (by omega)]; exact c4
  · rw [und_o (by omega) (by omega)] at hj
    rw [R _ (by omega) (by omega) (by omega) (by omega), und_o (by omega) (by omega)]; exact c5 j hj
  · rw [und_o (by omega) (by omega)] at hj
    rw [R _ (by omega) (by omega) (by omega) (by omega), und_o (by omega) (by omega)]; exact c6 j hj
  · rw [e8, ms_row (by omega), e6, ms_row (by omega), e4, mc_row (by omega), e3, mc_row (by omega)]; exact m2
  · rw [e8, ms_row (by omega), e6, ms_row (by omega), e4, mc_row (by omega), e3, mc_row (by omega), e2, ms_col (by decide), e1, ms_at]; rfl
  · have he' : e < a 3 - 1 := he
    have old := re e (by omega)
    rw [show undF a 3 = a 3 - 1 from rfl, show (ny + 8 - (a 3 - 1) + e) % 8 = (nx + 8 - a 3 + e) % 8 by omega]
    exact old.mv h7 (fun j hj => by rw [R _ (by omega) (by omega) (by omega) (by omega)]) (und_o (by omega) (by omega)) (fun j hj => und_o (by omega) (by omega))
  · rw [e8, e6, e4, e3, e2, e1]
    exact (((((Eqx.rf.ms (by simp)).ms (by simp)).mc (by simp)).mc (by simp)).ms (by simp)).ms (by simp)
theorem xUndo {μ : Mm} {s : Ln} {n : Nat} (h : RX μ s) (hok : OKs n s) : Con mX4_undo [.ref 0] μ (PX (sUndo s) μ) := by
  obtain ⟨p0, p1, p2, p3, p4⟩ := id hok.1.1
  have u3 : μ.1 3 7 = nI (s 3) := by obtain ⟨nx, _, _, g, _⟩ := h.1.1.2.2.2.2.2.2; exact g
  refine Con.of pnX4 (Nat.le_of_ble_eq_true rfl) (fun κ => wX4_undo_0 μ ?_)
  rw [u3, nI0 (by omega)]
  refine ⟨fun e => ?_, fun e => ?_⟩
  · unfold sUndo; rw [if_neg e]
    refine (kX3_stepBack 3 μ isS_3 p0 p1 p2 p3 e h.1.1).mono ?_
    rintro r μ1 ⟨rfl, hS1, hE1⟩
    exact ⟨rfl, px hS1.1.2.2.1 (h.now hok hS1 hE1 (by decide) (fun j hj => und_o (by omega) (by omega)))⟩
  · unfold sUndo; rw [if_pos e]; exact PX.on (kX4_no h hok)
theorem mUndo {μ : Mm} {s : Ln} {n : Nat} (h : RM μ s) (hok : OKs n s) : Con mX5_undo [.ref 66] μ (PM (sUndo s) μ) := by
  obtain ⟨p0, p1, p2, p3, p4⟩ := id hok.1.1
  refine Con.of pnX5 (Nat.le_of_ble_eq_true rfl) (fun κ => wX5_undo_0 μ ?_)
  rw [cl (by decide), h.1 3 (by decide), nI0 (by omega)]
  refine ⟨fun e μ1 e1 => ?_, fun e => ?_⟩
  · unfold sUndo; rw [if_neg e]
    rw [pk_sub (by omega)] at e1
    refine cnt_loop 29 (fun t μ2 => Vq κ (PM (nI (undF s 5), undF s) μ) mX5_undo 26 [(0, .ref 66), (1, .int (nI t))] [] μ2) (fun t μ2 => (∀ j, j < 318 → μ2.1 67 j = nI (if 5 + t ≤ j ∧ j < 34 then s j else undF s j)) ∧ Eqx [67] μ μ2) ?_ ?_ 0 μ1 (by omega) ⟨fun j hj => ?_, by rw [e1]; exact Eqx.rf.ms (by simp)⟩
    · rintro μ2 ⟨g, gE⟩
      refine wX5_undo_26 _ μ2 ⟨fun _ => ?_, fun z => absurd (nge (by decide) (by decide)) z⟩
      rw [cl (by decide)]
      exact pm (by rw [g 5 (by decide), if_neg (by omega)]) (h.now hok (fun i hi => by rw [g i hi, if_neg (by omega)]) (fun y hy => gE.2 y (nm1 (by omega))) (by rw [gE.2 66 (nm1 (by decide))]) gE.1 (fun j hj => und_o (by omega) (by omega)))
    · rintro t μ2 ht ⟨g, gE⟩ ih
      have g3 : μ2.1 67 3 = nI (s 3 - 1) := by rw [g 3 (by decide), if_neg (by omega)]; rfl
      refine wX5_undo_26 _ μ2 ⟨fun z => absurd z (nnge (by decide) ht), fun _ => ?_⟩
      rw [cl (n := 3) (by decide), g3, pk_mul, nI_add, nI_add, nI_add, nI_add, cl (n := 5 + t) (by omega), cl (n := 86 + 29 * (s 3 - 1) + t) (by omega), g _ (by omega), if_neg (by omega)]
      refine ⟨vin (by omega) (by decide), vin (by omega) (by decide), fun μ4 e4 => ih μ4 ⟨fun j hj => ?_, by rw [e4]; exact gE.ms (by simp)⟩⟩
      rw [e4]
      by_cases jt : j = 5 + t
      · subst jt
        rw [ms_at, if_neg (by omega), und_c (by omega), und_o (by omega) (by omega)]
      · rw [ms_col jt, g j hj]
        congr 1
        by_cases c : 5 + t ≤ j ∧ j < 34
        · rw [if_pos c, if_pos (by omega)]
        · rw [if_neg c, if_neg (by omega)]
    · rw [e1]
      by_cases j3 : j = 3
      · subst j3; rw [ms_at, if_neg (by omega)]; rfl
      · rw [ms_col j3, h.1 j hj]
        congr 1
        by_cases c : 5 + 0 ≤ j ∧ j < 34
        · rw [if_pos c]
        · rw [if_neg c, und_o j3 (by omega)]
  · unfold sUndo; rw [if_pos e]; exact PM.on (kX5_noR h)
