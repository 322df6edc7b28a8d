/-! ===== words: a word is taken, if spells tells ===== -/
def lnW (i : Nat) : Nat := 6 - i
def lW (i : Nat) : Nat → Nat := if i = 0 then lIsl else if i = 1 then lVin else if i = 2 then lHil else lDay
def SPC : Prop := ∀ (x : Tx) (μ : Mm) (p i : Nat), i < 4 → XX x μ → p ≤ x.2 → μ.1 59 2 = nI (tE x p) → μ.1 59 5 = nI (tS x p) → Con mX2_spells [.ref 59, .ref (100 + i)] μ (fun r μ' => r = some (.int (bI (spl x p (lnW i) (lW i)))) ∧ μ' = μ)
theorem twc (hs : SPC) : TWC := by
  intro x μ p hx hp hl hlt h2 h5
  obtain ⟨hx1, hx2, hx3⟩ := id hx
  have eE : tE x p = RU isLt x.1 x.2 (tS x p) := by unfold tE; rw [if_neg (by omega), if_pos hlt]
  have eK : tK x p = 1 := by unfold tK; rw [if_neg (by omega), if_pos hlt]
  have hge := tE_ge (x := x) (p := p)
  have hle := tE_le hp
  refine Con.of pnX2 (Nat.le_of_ble_eq_true rfl) (fun κ => ?_)
  have at39 : ∀ μ1 : Mm, TN μ μ1 → μ1.1 59 2 = nI (tE x p) → μ1.1 59 5 = nI (tS x p) → Vq κ (fun r μ' => r = none ∧ XT x μ' p ∧ TN μ μ') mX2_takeWord 39 [(0, .ref 59)] [] μ1 := by
    intro μ1 T1 a2 a5
    refine wX2_takeWord_39 μ1 (fun μ2 e2 => ?_)
    have T2 : TN μ μ2 := by rw [e2]; exact T1.ms (by decide) (by decide)
    have b2 : μ2.1 59 2 = nI (tE x p) := by rw [e2, ms_col (by decide)]; exact a2
    have b5 : μ2.1 59 5 = nI (tS x p) := by rw [e2, ms_col (by decide)]; exact a5
    have b3 : μ2.1 59 3 = nI 1 := by rw [e2, ms_at]
    have x2 := hx.tn T2
    have call : ∀ i, i < 4 → Con mX2_spells [.ref 59, .ref (100 + i)] μ2 (fun r μ' => r = some (.int (bI (spl x p (lnW i) (lW i)))) ∧ μ' = μ2) := fun i hi => hs x μ2 p i hi x2 hp b2 b5
    have yes : ∀ (v : Nat) (μ3 : Mm), v < 4 → tW x p = v → μ3 = mset μ2 59 4 (nI v) → (none : Option Value) = none ∧ XT x μ3 p ∧ TN μ μ3 := by
      rintro v μ3 hv ew e3
      have ek : xK x p = 1 := by unfold xK; rw [if_pos eK, if_pos (by omega)]
      exact ⟨rfl, ⟨by rw [e3, ms_col (by decide)]; exact b2, by rw [e3, ms_col (by decide), ek]; exact b3, by rw [e3, ms_col (by decide)]; exact b5, fun _ => by rw [e3, ms_at, ew], fun w => by omega⟩, by rw [e3]; exact T2.ms (by decide) (by decide)⟩
    refine (call 0 (by decide)).mono ?_
    rintro r μ3 ⟨rfl, rfl⟩
    refine ⟨_, rfl, fun z0 => ?_, fun z0 μ4 e4 => yes 0 μ4 (by decide) (tW_0.mpr z0) e4⟩
    have n0 : ¬ spl x p 6 lIsl = true := by rw [show spl x p 6 lIsl = false from z0]; decide
    refine (call 1 (by decide)).mono ?_
    rintro r μ3 ⟨rfl, rfl⟩
    refine ⟨_, rfl, fun z1 => ?_, fun z1 μ4 e4 => yes 1 μ4 (by decide) (by unfold tW; rw [if_neg n0]; exact if_pos z1) e4⟩
    have n1 : ¬ spl x p 5 lVin = true := by rw [show spl x p 5 lVin = false from z1]; decide
    refine (call 2 (by decide)).mono ?_
    rintro r μ3 ⟨rfl, rfl⟩
    refine ⟨_, rfl, fun z2 => ?_, fun z2 μ4 e4 => yes 2 μ4 (by decide) (by unfold tW; rw [if_neg n0, if_neg n1]; exact if_pos z2) e4⟩
    have n2 : ¬ spl x p 4 lHil = true := by rw [show spl x p 4 lHil = false from z2]; decide
    refine (call 3 (by decide)).mono ?_
    rintro r μ3 ⟨rfl, rfl⟩
    refine ⟨_, rfl, fun z3 μ4 e4 => ?_, fun z3 μ4 e4 => yes 3 μ4 (by decide) (by unfold tW; rw [if_neg n0, if_neg n1, if_neg n2]; exact if_pos z3) e4⟩
    have n3 : ¬ spl x p 3 lDay = true := by rw [show spl x p 3 lDay = false from z3]; decide
    have e4w : tW x p = 4 := by unfold tW; rw [if_neg n0, if_neg n1, if_neg n2, if_neg n3]
    have ek : xK x p = 4 := by unfold xK; rw [if_pos eK, if_neg (by omega)]
    exact ⟨rfl, ⟨by rw [e4, ms_col (by decide)]; exact b2, by rw [e4, ms_at, ek], by rw [e4, ms_col (by decide)]; exact b5, fun w => by omega, fun w => by omega⟩, by rw [e4]; exact T2.ms (by decide) (by decide)⟩
  refine cnt_loop (tE x p - tS x p) (fun t μ1 => Vq κ (fun r μ' => r = none ∧ XT x μ' p ∧ TN μ μ') mX2_takeWord 0 [(0, .ref 59)] [] μ1) (fun t μ1 => TN μ μ1 ∧ μ1.1 59 2 = nI (tS x p + t) ∧ μ1.1 59 5 = nI (tS x p)) ?_ ?_ 0 μ (Nat.zero_le _) ⟨TN.rf, h2, h5⟩
  · rintro μ1 ⟨T1, a2, a5⟩
    rw [show tS x p + (tE x p - tS x p) = tE x p by omega] at a2
    have x1 := hx.tn T1
    refine wX2_takeWord_0 μ1 ⟨fun _ => at39 μ1 T1 a2 a5, fun z => ?_⟩
    rw [x1.2.1, a2, nIle (by omega) (by omega)] at z
    have hb := x1.2.2 (tE x p) (by omega)
    have hc := RU_st (c := isLt) (b := x.1) (p := tS x p) (L := x.2) (by omega) (by rw [← eE]; omega)
    rw [← eE] at hc
    have hfw : fwith (μ1.1 60 (μ1.1 59 2).toNatClampNeg) (nI 97) (nI 122) = false := by rw [a2, cl (n := tE x p) (by omega), hb.1, fwB (by omega) (by decide) (by decide)]; exact hc
    exact ⟨by rw [a2]; exact vin (by omega) (by decide), fun _ => at39 μ1 T1 a2 a5, fun w => by rw [hfw] at w; exact absurd w (by decide)⟩
  · rintro t μ1 ht ⟨T1, a2, a5⟩ ih
    have x1 := hx.tn T1
    have hb := x1.2.2 (tS x p + t) (by omega)
    have hcj : isLt (x.1 (tS x p + t)) = true := RU_in (c := isLt) (b := x.1) (L := x.2) (p := tS x p) (by omega) (by rw [← eE]; omega)
    have hfw : fwith (nI (x.1 (tS x p + t))) (nI 97) (nI 122) = true := by rw [fwB (by omega) (by decide) (by decide)]; exact hcj
    refine wX2_takeWord_0 μ1 ?_
    rw [x1.2.1, a2, cl (n := tS x p + t) (by omega), hb.1, hfw, nI_add (tS x p + t) 1]
    refine ⟨fun z => absurd z (nnge (by omega) (by omega)), fun _ => ⟨vin (by omega) (by decide), fun w => absurd w (by decide), fun _ μ2 e2 => ih μ2 ⟨by rw [e2]; exact T1.ms (by decide) (by decide), by rw [e2, ms_at]; rfl, by rw [e2, ms_col (by decide)]; exact a5⟩⟩⟩
