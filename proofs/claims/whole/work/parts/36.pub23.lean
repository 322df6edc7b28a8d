/-! ===== read, the class's side: tokens (the words' contract is asked for) ===== -/
def tW (x : Tx) (p : Nat) : Nat := if spl x p 6 lIsl = true then 0 else if spl x p 5 lVin = true then 1 else if spl x p 4 lHil = true then 2 else if spl x p 3 lDay = true then 3 else 4
def xK (x : Tx) (p : Nat) : Nat := if tK x p = 1 then (if tW x p < 4 then 1 else 4) else tK x p
def XX (x : Tx) (μ : Mm) : Prop := x.2 ≤ 150 ∧ μ.1 59 1 = nI x.2 ∧ ∀ j, j < x.2 → μ.1 60 j = nI (x.1 j) ∧ x.1 j < 128
def TN (μ μ' : Mm) : Prop := μ'.2 = μ.2 ∧ (∀ c, c ≠ 59 → μ'.1 c = μ.1 c) ∧ μ'.1 59 1 = μ.1 59 1 ∧ μ'.1 59 6 = μ.1 59 6
theorem TN.rf {μ : Mm} : TN μ μ := ⟨rfl, fun _ _ => rfl, rfl, rfl⟩
theorem TN.tr {μ μ1 μ2 : Mm} (h : TN μ μ1) (g : TN μ1 μ2) : TN μ μ2 := ⟨g.1.trans h.1, fun c hc => (g.2.1 c hc).trans (h.2.1 c hc), g.2.2.1.trans h.2.2.1, g.2.2.2.trans h.2.2.2⟩
theorem TN.ms {μ μ1 : Mm} {i : Nat} {v : Int32} (h : TN μ μ1) (hi : 1 ≠ i) (hi6 : 6 ≠ i) : TN μ (mset μ1 59 i v) := ⟨h.1, fun c hc => (ms_row hc).trans (h.2.1 c hc), by rw [ms_col hi]; exact h.2.2.1, by rw [ms_col hi6]; exact h.2.2.2⟩
theorem XX.tn {x : Tx} {μ μ1 : Mm} (h : XX x μ) (g : TN μ μ1) : XX x μ1 := ⟨h.1, by rw [g.2.2.1]; exact h.2.1, fun j hj => by rw [g.2.1 60 (by decide)]; exact h.2.2 j hj⟩
def XT (x : Tx) (μ : Mm) (p : Nat) : Prop := μ.1 59 2 = nI (tE x p) ∧ μ.1 59 3 = nI (xK x p) ∧ μ.1 59 5 = nI (tS x p) ∧ (xK x p = 1 → μ.1 59 4 = nI (tW x p)) ∧ (xK x p = 2 → μ.1 59 4 = nI (tV x p))
/-- a word is taken -/
def TWC : Prop := ∀ (x : Tx) (μ : Mm) (p : Nat), XX x μ → p ≤ x.2 → tS x p < x.2 → isLt (x.1 (tS x p)) = true → μ.1 59 2 = nI (tS x p) → μ.1 59 5 = nI (tS x p) → Con mX2_takeWord [.ref 59] μ (fun r μ' => r = none ∧ XT x μ' p ∧ TN μ μ')
def nv (x : Tx) (st t : Nat) : Nat := if t = 0 then 0 else if t = 1 then x.1 st - 48 else 10 * (x.1 st - 48) + (x.1 (st + 1) - 48)
theorem kX2_num {x : Tx} {μ : Mm} {p : Nat} (hx : XX x μ) (hp : p ≤ x.2) (hl : tS x p < x.2) (hL : isLt (x.1 (tS x p)) = false) (hf : isFg (x.1 (tS x p)) = true) (h2 : μ.1 59 2 = nI (tS x p)) (h5 : μ.1 59 5 = nI (tS x p)) : Con mX2_takeNumber [.ref 59] μ (fun r μ' => r = none ∧ XT x μ' p ∧ TN μ μ') := by
  obtain ⟨hx1, hx2, hx3⟩ := id hx
  have nL : ¬ isLt (x.1 (tS x p)) = true := by rw [hL]; decide
  have eE : tE x p = RU isFg x.1 x.2 (tS x p) := by unfold tE; rw [if_neg (by omega), if_neg nL, if_pos hf]
  have eK : tK x p = if tE x p - tS x p ≤ 2 then 2 else 4 := by unfold tK; rw [if_neg (by omega), if_neg nL, if_pos hf]
  have nK1 : tK x p ≠ 1 := by rw [eK]; split <;> decide
  have eX : xK x p = tK x p := by unfold xK; rw [if_neg nK1]
  have hge := tE_gt (x := x) (p := p) (by rw [eK]; split <;> decide)
  have hle := tE_le hp
  refine Con.of pnX2 (Nat.le_of_ble_eq_true rfl) (fun κ => wX2_takeNumber_0 μ (fun μ1 e1 => ?_))
  have fin : ∀ μ2 : Mm, TN μ μ2 → μ2.1 59 2 = nI (tE x p) → μ2.1 59 5 = nI (tS x p) → μ2.1 59 4 = nI (nv x (tS x p) (tE x p - tS x p)) → (nI 2 < (μ2.1 59 2) - (μ2.1 59 5) → ∀ μ3 : Mm, μ3 = mset μ2 59 3 (nI 4) → (fun (r : Option Value) (μ' : Mm) => r = none ∧ XT x μ' p ∧ TN μ μ') none μ3) ∧ (¬ nI 2 < (μ2.1 59 2) - (μ2.1 59 5) → ∀ μ3 : Mm, μ3 = mset μ2 59 3 (nI 2) → (fun (r : Option Value) (μ' : Mm) => r = none ∧ XT x μ' p ∧ TN μ μ') none μ3) := by
    intro μ2 hT a2 a5 a4
    rw [a2, a5, pk_sub (by omega), nIlt (by decide) (by omega)]
    have V : xK x p = 2 → nI (nv x (tS x p) (tE x p - tS x p)) = nI (tV x p) := fun _ => by unfold nv tV; rw [if_neg (by omega)]
    refine ⟨fun z μ3 e3 => ?_, fun z μ3 e3 => ?_⟩
    · subst e3
      have ek : xK x p = 4 := by rw [eX, eK, if_neg (by omega)]
      exact ⟨rfl, ⟨by rw [ms_col (by decide)]; exact a2, by rw [ms_at, ek], by rw [ms_col (by decide)]; exact a5, fun w => by omega, fun w => by omega⟩, hT.ms (by decide) (by decide)⟩
    · subst e3
      have ek : xK x p = 2 := by rw [eX, eK, if_pos (by omega)]
      exact ⟨rfl, ⟨by rw [ms_col (by decide)]; exact a2, by rw [ms_at, ek], by rw [ms_col (by decide)]; exact a5, fun w => by omega, fun w => by rw [ms_col (by decide), a4, V w]⟩, hT.ms (by decide) (by decide)⟩
  refine cnt_loop (tE x p - tS x p) (fun t μ2 => Vq κ (fun r μ' => r = none ∧ XT x μ' p ∧ TN μ μ') mX2_takeNumber 5 [(0, .ref 59)] [] μ2) (fun t μ2 => TN μ μ2 ∧ μ2.1 59 2 = nI (tS x p + t) ∧ μ2.1 59 5 = nI (tS x p) ∧ μ2.1 59 4 = nI (nv x (tS x p) t)) ?_ ?_ 0 μ1 (Nat.zero_le _) ⟨by rw [e1]; exact TN.rf.ms (by decide) (by decide), by rw [e1, ms_col (by decide)]; exact h2, by rw [e1, ms_col (by decide)]; exact h5, by rw [e1, ms_at]; rfl⟩
  · rintro μ2 ⟨hT, a2, a5, a4⟩
    rw [show tS x p + (tE x p - tS x p) = tE x p by omega] at a2
    have F := fin μ2 hT a2 a5 a4
    have x2 := hx.tn hT
    refine wX2_takeNumber_5 μ2 ⟨fun _ => F, fun z => ?_⟩
    rw [x2.2.1, a2, nIle (by omega) (by omega)] at z
    have hb := x2.2.2 (tE x p) (by omega)
    have hc := RU_st (c := isFg) (b := x.1) (p := tS x p) (L := x.2) (by omega) (by rw [← eE]; omega)
    rw [← eE] at hc
    have hfw : fwith (μ2.1 60 (μ2.1 59 2).toNatClampNeg) (nI 48) (nI 57) = false := by rw [a2, cl (n := tE x p) (by omega), hb.1, fwB (by omega) (by decide) (by decide)]; exact hc
    exact ⟨by rw [a2]; exact vin (by omega) (by decide), fun _ => F, fun w => by rw [hfw] at w; exact absurd w (by decide)⟩
  · rintro t μ2 ht ⟨hT, a2, a5, a4⟩ ih
    have x2 := hx.tn hT
    have hb := x2.2.2 (tS x p + t) (by omega)
    have hcj : isFg (x.1 (tS x p + t)) = true := RU_in (c := isFg) (b := x.1) (L := x.2) (p := tS x p) (by omega) (by rw [← eE]; omega)
    have h48 : 48 ≤ x.1 (tS x p + t) := of_decide_eq_true (Bool.and_eq_true_iff.mp hcj).1
    have hfw : fwith (nI (x.1 (tS x p + t))) (nI 48) (nI 57) = true := by rw [fwB (by omega) (by decide) (by decide)]; exact hcj
    refine wX2_takeNumber_5 μ2 ?_
    rw [x2.2.1, a2, a5, a4, cl (n := tS x p + t) (by omega), hb.1, hfw, pk_sub (by omega), nI_add (tS x p + t) 1]
    refine ⟨fun z => absurd z (nnge (by omega) (by omega)), fun _ => ⟨vin (by omega) (by decide), fun w => absurd w (by decide), fun _ => ⟨fun z μ3 e3 => ?_, fun z μ3 e3 μ4 e4 => ?_⟩⟩⟩
    · rw [nIle (by decide) (by omega)] at z
      refine ih μ3 ⟨by rw [e3]; exact hT.ms (by decide) (by decide), by rw [e3, ms_at]; rfl, by rw [e3, ms_col (by decide)]; exact a5, ?_⟩
      rw [e3, ms_col (by decide), a4]; unfold nv
      rw [if_neg (by omega), if_neg (by omega), if_neg (by omega), if_neg (by omega)]
    · rw [nIle (by decide) (by omega)] at z
      have a24 : μ3.1 59 2 = nI (tS x p + t) := by rw [e3, ms_col (by decide)]; exact a2
      rw [a24, nI_add] at e4
      refine ih μ4 ⟨by rw [e4, e3]; exact (hT.ms (by decide) (by decide)).ms (by decide) (by decide), by rw [e4, ms_at]; rfl, by rw [e4, ms_col (by decide), e3, ms_col (by decide)]; exact a5, ?_⟩
      have t2 : t = 0 ∨ t = 1 := by omega
      rw [e4, ms_col (by decide), e3, ms_at]
      rcases t2 with rfl | rfl
      · show nI 10 * nI 0 + nI (x.1 (tS x p)) - nI 48 = nI (x.1 (tS x p) - 48)
        have h48' : 48 ≤ x.1 (tS x p) := h48
        rw [pk_mul, nI_add, pk_sub (by omega)]
        rw [Nat.mul_zero, Nat.zero_add]
      · show nI 10 * nI (x.1 (tS x p) - 48) + nI (x.1 (tS x p + 1)) - nI 48 = nI (10 * (x.1 (tS x p) - 48) + (x.1 (tS x p + 1) - 48))
        rw [pk_mul, nI_add, pk_sub (by omega)]
        rw [Nat.add_sub_assoc h48]
theorem kX2_step (hW : TWC) {x : Tx} {μ : Mm} {p : Nat} (hx : XX x μ) (hp : p ≤ x.2) (h2 : μ.1 59 2 = nI p) : Con mX2_step [.ref 59] μ (fun r μ' => r = none ∧ XT x μ' p ∧ TN μ μ') := by
  obtain ⟨hx1, hx2, hx3⟩ := id hx
  have hge := tS_ge (x := x) (p := p)
  have hle := tS_le hp
  refine Con.of pnX2 (Nat.le_of_ble_eq_true rfl) (fun κ => ?_)
  have at38 : ∀ μ2 : Mm, TN μ μ2 → μ2.1 59 2 = nI (tS x p) → Vq κ (fun r μ' => r = none ∧ XT x μ' p ∧ TN μ μ') mX2_step 38 [(0, .ref 59)] [] μ2 := by
    intro μ2 hT a2
    refine wX2_step_38 μ2 (fun μ3 e3 => ?_)
    rw [a2] at e3
    have T3 : TN μ μ3 := by rw [e3]; exact hT.ms (by decide) (by decide)
    have c2 : μ3.1 59 2 = nI (tS x p) := by rw [e3, ms_col (by decide)]; exact a2
    have c5 : μ3.1 59 5 = nI (tS x p) := by rw [e3, ms_at]
    have x3 := hx.tn T3
    rw [c2, x3.2.1, nIlt (by omega) (by omega)]
    refine ⟨fun z => ⟨vin (by omega) (by decide), ?_⟩, fun z μ4 e4 => ?_⟩
    · have hb := x3.2.2 (tS x p) z
      rw [cl (n := tS x p) (by omega), hb.1, fwB (by omega) (by decide) (by decide), fwB (by omega) (by decide) (by decide), nIe (by omega) (by decide)]
      refine ⟨fun w1 => ⟨fun w2 => ⟨fun w3 μ4 e4 μ5 e5 => ?_, fun w3 μ4 e4 μ5 e5 => ?_⟩, fun w2 => ?_⟩, fun w1 => ?_⟩
      · have w1' : ¬ isLt (x.1 (tS x p)) = true := by rw [show isLt (x.1 (tS x p)) = false from w1]; decide
        have w2' : ¬ isFg (x.1 (tS x p)) = true := by rw [show isFg (x.1 (tS x p)) = false from w2]; decide
        have eE : tE x p = tS x p + 1 := by unfold tE; rw [if_neg (by omega), if_neg w1', if_neg w2']
        have eK : tK x p = 4 := by unfold tK; rw [if_neg (by omega), if_neg w1', if_neg w2', if_neg w3]
        have eX : xK x p = 4 := by unfold xK; rw [eK]; rfl
        rw [show μ4.1 59 2 = nI (tS x p) by rw [e4, ms_col (by decide)]; exact c2, nI_add] at e5
        exact ⟨rfl, ⟨by rw [e5, ms_at, eE], by rw [e5, ms_col (by decide), e4, ms_at, eX], by rw [e5, ms_col (by decide), e4, ms_col (by decide)]; exact c5, fun w => by omega, fun w => by omega⟩, by rw [e5, e4]; exact (T3.ms (by decide) (by decide)).ms (by decide) (by decide)⟩
      · have w1' : ¬ isLt (x.1 (tS x p)) = true := by rw [show isLt (x.1 (tS x p)) = false from w1]; decide
        have w2' : ¬ isFg (x.1 (tS x p)) = true := by rw [show isFg (x.1 (tS x p)) = false from w2]; decide
        have eE : tE x p = tS x p + 1 := by unfold tE; rw [if_neg (by omega), if_neg w1', if_neg w2']
        have eK : tK x p = 3 := by unfold tK; rw [if_neg (by omega), if_neg w1', if_neg w2', if_pos w3]
        have eX : xK x p = 3 := by unfold xK; rw [eK]; rfl
        rw [show μ4.1 59 2 = nI (tS x p) by rw [e4, ms_col (by decide)]; exact c2, nI_add] at e5
        exact ⟨rfl, ⟨by rw [e5, ms_at, eE], by rw [e5, ms_col (by decide), e4, ms_at, eX], by rw [e5, ms_col (by decide), e4, ms_col (by decide)]; exact c5, fun w => by omega, fun w => by omega⟩, by rw [e5, e4]; exact (T3.ms (by decide) (by decide)).ms (by decide) (by decide)⟩
      · exact (kX2_num x3 hp z w1 w2 c2 c5).mono (by rintro r μ4 ⟨rfl, g1, g2⟩; exact ⟨rfl, rfl, g1, T3.tr g2⟩)
      · exact (hW x μ3 p x3 hp z w1 c2 c5).mono (by rintro r μ4 ⟨rfl, g1, g2⟩; exact ⟨rfl, rfl, g1, T3.tr g2⟩)
    · have eE : tE x p = tS x p := by unfold tE; rw [if_pos (by omega)]
      have eK : tK x p = 0 := by unfold tK; rw [if_pos (by omega)]
      have eX : xK x p = 0 := by unfold xK; rw [eK]; rfl
      exact ⟨rfl, ⟨by rw [e4, ms_col (by decide), eE]; exact c2, by rw [e4, ms_at, eX], by rw [e4, ms_col (by decide)]; exact c5, fun w => by omega, fun w => by omega⟩, by rw [e4]; exact T3.ms (by decide) (by decide)⟩
  refine cnt_loop (tS x p - p) (fun t μ2 => Vq κ (fun r μ' => r = none ∧ XT x μ' p ∧ TN μ μ') mX2_step 0 [(0, .ref 59)] [] μ2) (fun t μ2 => TN μ μ2 ∧ μ2.1 59 2 = nI (p + t)) ?_ ?_ 0 μ (Nat.zero_le _) ⟨TN.rf, h2⟩
  · rintro μ2 ⟨hT, a2⟩
    rw [show p + (tS x p - p) = tS x p by omega] at a2
    have x2 := hx.tn hT
    refine wX2_step_0 μ2 ?_
    rw [x2.2.1, a2, nIle (by omega) (by omega), cl (n := tS x p) (by omega)]
    refine ⟨fun _ => at38 μ2 hT a2, fun z => ⟨vin (by omega) (by decide), fun _ => at38 μ2 hT a2, fun y => ?_⟩⟩
    have hb := x2.2.2 (tS x p) (by omega)
    rw [hb.1, nIe (by omega) (by decide)] at y
    have h3 : isSp (x.1 (tS x p)) = false := RU_st (c := isSp) (b := x.1) (p := p) (L := x.2) hp (show RU isSp x.1 x.2 p < x.2 by show tS x p < x.2; omega)
    unfold isSp at h3
    rw [decide_eq_true y] at h3
    exact absurd h3 (by decide)
  · rintro t μ2 ht ⟨hT, a2⟩ ih
    have x2 := hx.tn hT
    have hb := x2.2.2 (p + t) (by omega)
    have hsp := RU_in (c := isSp) (b := x.1) (L := x.2) (p := p) (j := p + t) (by omega) (show p + t < tS x p by omega)
    refine wX2_step_0 μ2 ?_
    rw [x2.2.1, a2, nIle (by omega) (by omega), cl (n := p + t) (by omega), hb.1, nIe (by omega) (by decide), nI_add (p + t) 1]
    exact ⟨fun z => absurd z (by omega), fun _ => ⟨vin (by omega) (by decide), fun z => absurd (of_decide_eq_true hsp) z, fun _ μ3 e3 => ih μ3 ⟨by rw [e3]; exact hT.ms (by decide) (by decide), by rw [e3, ms_at]; rfl⟩⟩⟩
