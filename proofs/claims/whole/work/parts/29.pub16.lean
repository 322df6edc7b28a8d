/-! ===== chance ===== -/
def wgN (x c : Nat) : Nat → Ln → Nat → Nat
  | 0, _, g => if x ≤ g then 1 else 0
  | m + 1, u, g => c * wgN x c m (pasL u (tall u)) (g + pasN u (tall u)) + (10 - c) * wgN x c m (pasL u 7) (g + pasN u 7)
theorem wg_le {x c : Nat} (hc : c ≤ 10) : ∀ (m : Nat) (u : Ln) (g : Nat), wgN x c m u g ≤ 10 ^ m
  | 0, u, g => by show (if x ≤ g then 1 else 0) ≤ 1; split <;> omega
  | m + 1, u, g => by
    show c * _ + (10 - c) * _ ≤ _
    have h1 := Nat.mul_le_mul_left c (wg_le hc (x := x) m (pasL u (tall u)) (g + pasN u (tall u)))
    have h2 := Nat.mul_le_mul_left (10 - c) (wg_le hc (x := x) m (pasL u 7) (g + pasN u 7))
    refine Nat.le_trans (Nat.add_le_add h1 h2) ?_
    rw [← Nat.add_mul, show c + (10 - c) = 10 by omega, Nat.pow_succ, Nat.mul_comm]
    exact Nat.le_refl _
theorem sub2 (a b c : Int32) : a - b - c = a - (b + c) := by
  rw [Int32.sub_eq_add_neg (a - b) c, Int32.sub_eq_add_neg a b, Int32.sub_eq_add_neg a (b + c), Int32.neg_add, Int32.sub_eq_add_neg (-b) c, Int32.add_assoc]
theorem lf_pos {x g : Nat} (hx : x < 2 ^ 30) (hg : g < 2 ^ 30) : 0 < nI x - nI g ↔ g < x := by
  rw [Int32.lt_iff_toInt_lt, pk_sub_toInt hx hg]
  show (0 : Int) < _ ↔ _
  omega
def Kw (D : Nat) (μ μ' : Mm) : Prop := μ'.2 = μ.2 ∧ ∀ c, (c < 39 + 5 * D ∨ 59 ≤ c) → μ'.1 c = μ.1 c
theorem Kw.rf {D : Nat} {μ : Mm} : Kw D μ μ := ⟨rfl, fun _ _ => rfl⟩
theorem Kw.tr {D : Nat} {μ μ1 μ2 : Mm} (h : Kw D μ μ1) (g : Kw D μ1 μ2) : Kw D μ μ2 := ⟨g.1.trans h.1, fun c hc => (g.2 c hc).trans (h.2 c hc)⟩
theorem Kw.dn {D : Nat} {μ μ1 : Mm} (h : Kw (D + 1) μ μ1) : Kw D μ μ1 := ⟨h.1, fun c hc => h.2 c (by omega)⟩
theorem Kw.lx {D : Nat} {μ μ1 : Mm} {u : Ln} (h : Kw D μ μ1) (h0 : u 0 ≤ 7) (hL : LX μ (34 + 5 * D) u) : LX μ1 (34 + 5 * D) u := hL.cg h0 (fun c h1 h2 => h.2 c (by omega)) (fun _ _ => rfl)
theorem kX_cd {n D : Nat} {u : Ln} {μ : Mm} (hn : n ≤ 4) (hD : D < n) (hu : OKL u) (hL : LX μ (34 + 5 * D) u) (hP : PI μ u n) : Con mX0_copyDaysFrom [.ref (31 + 3 + 5 * (D + 1)), .ref (31 + 3 + 5 * D)] μ (fun r μ' => r = none ∧ LX μ' (34 + 5 * (D + 1)) u ∧ PI μ' u n ∧ Kw D μ μ') := by
  have h0 := hu.1
  refine (kX0_copyDaysFrom (34 + 5 * (D + 1)) (34 + 5 * D) μ (isL_c (by omega)) (isL_c (by omega)) (by omega)).mono ?_
  rintro r μ2 ⟨rfl, c6, c7, c0, c3, c4, hE2⟩
  have R2 : ∀ c, c < 39 + 5 * D ∨ 44 + 5 * D ≤ c → μ2.1 c = μ.1 c := fun c hc => hE2.2 c (by simp; omega)
  have R2' : ∀ c, c = 40 + 5 * D ∨ c = 41 + 5 * D → μ2.1 c = μ.1 c := fun c hc => hE2.2 c (by simp; omega)
  have hS := hP.2 (D + 1) (by omega)
  have hL2 : LX μ2 (34 + 5 * (D + 1)) u := by
    obtain ⟨l1, l2, l3, l4, l5⟩ := hL
    refine ⟨?_, ?_, ?_, fun i hi => ⟨?_, ?_, ?_⟩, fun c hc => ?_⟩
    · rw [c0 0 (by decide) (by decide)]; exact hS.1
    · rw [c0 1 (by decide) (by decide)]; exact hS.2.1
    · rw [c7]; exact l3
    · rw [R2' _ (by omega)]; exact (hS.2.2 i hi).1
    · rw [R2' _ (by omega)]; exact (hS.2.2 i hi).2
    · rw [c3 i (by omega)]; exact (l4 i hi).2.2
    · rw [c4 c hc]; exact l5 c hc
  refine ⟨rfl, hL2, ⟨by rw [R2 30 (by omega)]; exact hP.1, fun c hc => ?_⟩, hE2.1, fun c hc => R2 c (by omega)⟩
  by_cases ec : c = D + 1
  · rw [ec]; exact hL2.sx
  · exact (hP.2 c hc).cg (R2 _ (by omega)) (R2 _ (by omega)) (R2 _ (by omega))
theorem kX_ps {n D v : Nat} {u : Ln} {μ : Mm} (hn : n ≤ 4) (hD : D < n) (hv : v ≤ 7) (hu : OKL u) (h5 : u 5 < 900000) (hL : LX μ (34 + 5 * (D + 1)) u) (hP : PI μ u n) : Con mX0_pass [.ref (31 + 3 + 5 * (D + 1)), .int (nI v)] μ (fun r μ' => r = some (.int (nI (pasN u v))) ∧ LX μ' (34 + 5 * (D + 1)) (pasL u v) ∧ PI μ' (pasL u v) n ∧ Kw D μ μ') := by
  have h0 := hu.1
  refine (kX0_pass (34 + 5 * (D + 1)) v μ (isL_c (by omega)) hu (by omega) (by omega) hL).mono ?_
  rintro r μ4 ⟨rfl, hL4, -, -, hE4⟩
  have R4 : ∀ c, c < 39 + 5 * D ∨ 44 + 5 * D ≤ c → μ4.1 c = μ.1 c := fun c hc => hE4.2 c (by simp; omega)
  refine ⟨rfl, hL4, (PI.ps h0).mpr ⟨by rw [R4 30 (by omega)]; exact hP.1, fun c hc => ?_⟩, hE4.1, fun c hc => R4 c (by omega)⟩
  by_cases ec : c = D + 1
  · rw [ec]; exact (SX.ps h0).mp hL4.sx
  · exact (hP.2 c hc).cg (R4 _ (by omega)) (R4 _ (by omega)) (R4 _ (by omega))
theorem tall_7 {u : Ln} (h0 : u 0 ≤ 7) : tall u ≤ 7 := by
  have : tall u = 7 ∨ tall u < u 0 := tallA_lt u (u 0)
  omega
theorem kX1_wg {n x c : Nat} (hn : n ≤ 4) (hx : x ≤ 50) (hc : c ≤ 10) : ∀ (m e : Nat), m ≤ e → ∀ {D g : Nat} {u : Ln} {μ : Mm}, D + m = n → OKL u → u 5 + m < 900000 → g ≤ 180 * D → LX μ (34 + 5 * D) u → PI μ u n → Con (mX1_weigh (e + 6)) [.ref 30, .int (nI D), .int (nI x - nI g), .int (nI c)] μ (fun r μ' => r = some (.long (lN (wgN x c m u g))) ∧ PI μ' u n ∧ Kw D μ μ') := by
  intro m
  induction m with
  | zero =>
    intro e _ D g u μ hD hu h5 hg hL hP
    refine Con.of pnX1 (Nat.le_of_ble_eq_true rfl) (fun κ => wX1_weigh_0 e _ _ _ μ ?_)
    rw [hP.1, nIlt (by omega) (by omega), lf_pos (by omega) (by omega)]
    refine ⟨fun z => absurd z (by omega), fun _ => ⟨fun z => ⟨?_, hP, Kw.rf⟩, fun z => ⟨?_, hP, Kw.rf⟩⟩⟩
    · show _ = some (Value.long (lN (if x ≤ g then 1 else 0))); rw [if_neg (by omega)]
    · show _ = some (Value.long (lN (if x ≤ g then 1 else 0))); rw [if_pos (by omega)]
  | succ m ih =>
    intro e he D g u μ hD hu h5 hg hL hP
    have h0 := hu.1
    obtain ⟨e, rfl⟩ : ∃ e', e = e' + 1 := ⟨e - 1, by omega⟩
    refine Con.of pnX1 (Nat.le_of_ble_eq_true rfl) (fun κ => wX1_weigh_0 (e + 1) _ _ _ μ ?_)
    rw [hP.1, nIlt (by omega) (by omega), nI_add D 1, cl (n := D) (by omega), cl (n := D + 1) (by omega)]
    refine ⟨fun _ => ⟨vin (by omega) (by decide), vin (by omega) (by decide), ?_⟩, fun z => absurd z (by omega)⟩
    have e0 : ∀ v, pasL u v 0 = u 0 := fun v => pass_lo h0 v 0 (by decide)
    have call : ∀ (v : Nat) (μ4 : Mm), LX μ4 (34 + 5 * (D + 1)) (pasL u v) → PI μ4 (pasL u v) n → Con (mX1_weigh (e + 6)) [.ref 30, .int (nI (D + 1)), .int (nI x - nI g - nI (pasN u v)), .int (nI c)] μ4 (fun r μ' => r = some (.long (lN (wgN x c m (pasL u v) (g + pasN u v)))) ∧ PI μ' u n ∧ Kw D μ4 μ') := by
      intro v μ4 hL4 hP4
      have hp := pass_le hu v
      rw [sub2, nI_add]
      refine (ih e (by omega) (D := D + 1) (g := g + pasN u v) (u := pasL u v) (μ := μ4) (by omega) (pass_ok hu (by omega) v) (by rw [pass_5 h0]; omega) (by omega) hL4 hP4).mono ?_
      rintro r μ5 ⟨rfl, f1, f2⟩
      exact ⟨rfl, (PI.ps h0).mp f1, f2.dn⟩
    have ht7 := tall_7 h0
    refine (kX_cd hn (by omega) hu hL hP).mono ?_
    rintro r μ1 ⟨rfl, l1, q1, w1⟩
    refine ⟨rfl, (kX0_tallest (34 + 5 * D) μ1 (isL_c (by omega)) hu (w1.lx h0 hL)).mono ?_⟩
    rintro r μ2 ⟨rfl, rfl⟩
    refine ⟨_, rfl, (kX_ps hn (by omega) ht7 hu (by omega) l1 q1).mono ?_⟩
    rintro r μ3 ⟨rfl, l3, q3, w3⟩
    refine ⟨_, rfl, (call (tall u) μ3 l3 q3).mono ?_⟩
    rintro r μ4 ⟨rfl, q4, w4⟩
    have w14 := (w1.tr w3).tr w4
    refine ⟨_, rfl, (kX_cd hn (by omega) hu (w14.lx h0 hL) q4).mono ?_⟩
    rintro r μ5 ⟨rfl, l5, q5, w5⟩
    refine ⟨rfl, (kX_ps hn (by omega) (Nat.le_refl 7) hu (by omega) l5 q5).mono ?_⟩
    rintro r μ6 ⟨rfl, l6, q6, w6⟩
    refine ⟨_, rfl, (call 7 μ6 l6 q6).mono ?_⟩
    rintro r μ7 ⟨rfl, q7, w7⟩
    refine ⟨_, rfl, ?_, q7, ((w14.tr w5).tr w6).tr w7⟩
    rw [nI_l (by omega), pk_sub hc, nI_l (by omega), lN_mul, lN_mul, lN_add]; rfl
theorem lgc_0 {b : Nat} (hb : b < 2 ^ 62) : lg_cmp (lN b) (lN 0) = 0 ↔ b = 0 := by
  constructor
  · intro h
    have h1 : ¬ 0 < lg_cmp (lN b) (lN 0) := by rw [h]; decide
    rw [lgc_gt, pk_lLT (by decide) (by omega)] at h1
    omega
  · rintro rfl; decide
theorem lgc_le {b : Nat} (hb : b < 2 ^ 62) : lg_cmp (lN b) (lN 0) ≤ 0 ↔ b = 0 := by
  rw [← Int32.not_lt, lgc_gt, pk_lLT (by decide) (by omega)]
  omega
theorem lN_ne {b : Nat} (hb : b < 2 ^ 62) (h : 0 < b) : ¬ lN b = 0 := fun e => by
  have : lN b = lN 0 := e
  rw [pk_lEQ (by omega) (by decide)] at this
  omega
theorem gcd_s {a b : Nat} : Nat.gcd b (a % b) = Nat.gcd a b := by rw [Nat.gcd_comm b, ← Nat.gcd_rec, Nat.gcd_comm]
theorem half {a b : Nat} (h0 : 0 < b) (h : b ≤ a) : 2 * (b * (a % b)) ≤ a * b := by
  have h1 : 2 * (a % b) ≤ a := by
    have hm := Nat.mod_lt a h0
    by_cases z : a < 2 * b
    · rw [Nat.mod_eq_sub_mod h, Nat.mod_eq_of_lt (by omega)]; omega
    · omega
  rw [← Nat.mul_assoc, Nat.mul_comm 2 b, Nat.mul_assoc, Nat.mul_comm a b]
  exact Nat.mul_le_mul_left b h1
def frS (s : Ln) (a b : Nat) : Ln := fun j => if j = 2020 then a else if j = 2021 then b else s j
theorem fr_o {s : Ln} {a b j : Nat} (h1 : j ≠ 2020) (h2 : j ≠ 2021) : frS s a b j = s j := by unfold frS; rw [if_neg h1, if_neg h2]
theorem kX4_setF {μ : Mm} {p w : Nat} (hp : p ≤ w) (h0 : 0 < w) (hw : w ≤ 10000) : Con mX4_setFraction [.ref 0, .long (lN p), .long (lN w)] μ (fun r μ' => r = none ∧ μ' = msetL (msetL μ 0 7 (lN (p / Nat.gcd p w))) 0 8 (lN (w / Nat.gcd p w))) := by
  refine Con.of pnX4 (Nat.le_of_ble_eq_true rfl) (fun κ => wX4_setFraction_0 _ _ μ ?_)
  have fin0 : ∀ (a : Nat), 0 < a → a ≤ 10000 → a = Nat.gcd p w → (lg_cmp (lN a) (lN 0) ≤ 0 → (fun (r : Option Value) (μ' : Mm) => r = none ∧ μ' = msetL (msetL μ 0 7 (lN (p / Nat.gcd p w))) 0 8 (lN (w / Nat.gcd p w))) none μ) ∧ (¬ lg_cmp (lN a) (lN 0) ≤ 0 → (¬ lN a = 0) ∧ (∀ μ1 : Mm, μ1 = msetL μ 0 7 (lN p / lN a) → (¬ lN a = 0) ∧ (∀ μ2 : Mm, μ2 = msetL μ1 0 8 (lN w / lN a) → (fun (r : Option Value) (μ' : Mm) => r = none ∧ μ' = msetL (msetL μ 0 7 (lN (p / Nat.gcd p w))) 0 8 (lN (w / Nat.gcd p w))) none μ2))) := by
    intro a ha ha2 e
    rw [lgc_le (by omega)]
    refine ⟨fun z => absurd z (by omega), fun _ => ⟨lN_ne (by omega) ha, fun μ1 e1 => ⟨lN_ne (by omega) ha, fun μ2 e2 => ⟨rfl, ?_⟩⟩⟩⟩
    rw [e2, e1, pk_lDiv (by omega) ha (by omega), pk_lDiv (by omega) ha (by omega), e]
  have gen := cnt_loop 100 (fun t (σ : Nat × Nat) => Vq κ (fun r μ' => r = none ∧ μ' = msetL (msetL μ 0 7 (lN (p / Nat.gcd p w))) 0 8 (lN (w / Nat.gcd p w))) mX4_setFraction 9 [(0, .ref 0), (1, .long (lN p)), (3, .long (lN w)), (5, .long (lN σ.1)), (7, .long (lN σ.2)), (9, .int (nI t))] [] μ) (fun t σ => Nat.gcd σ.1 σ.2 = Nat.gcd p w ∧ σ.1 ≤ 10000 ∧ σ.2 ≤ 10000 ∧ ((t = 0 ∧ σ = (p, w)) ∨ (0 < t ∧ σ.2 ≤ σ.1 ∧ 0 < σ.1 ∧ σ.1 * σ.2 * 2 ^ (t - 1) ≤ 100000000))) ?_ ?_ 0 (p, w) (Nat.zero_le _) ⟨rfl, by show p ≤ _; omega, hw, Or.inl ⟨rfl, rfl⟩⟩
  · exact gen
  · rintro ⟨a, b⟩ ⟨hg, ha, hb, hI⟩
    dsimp only at hg ha hb hI ⊢
    have hI := hI.resolve_left (fun z => absurd z.1 (by decide))
    have hab : a * b = 0 := by
      cases hz : a * b with
      | zero => rfl
      | succ k =>
        have h4 := hI.2.2.2
        rw [hz, Nat.succ_mul] at h4
        have : (100000000 : Nat) < 2 ^ (100 - 1) := by decide
        omega
    have hb0 : b = 0 := (Nat.mul_eq_zero.mp hab).resolve_left (by have := hI.2.2.1; omega)
    subst hb0
    rw [Nat.gcd_zero_right] at hg
    exact wX4_setFraction_9 _ _ _ _ _ μ ⟨fun _ => fin0 a hI.2.2.1 ha hg, fun z => absurd (nge (by omega) (Nat.le_refl _)) z⟩
  · rintro t ⟨a, b⟩ ht ⟨hg, ha, hb, hI⟩ ih
    dsimp only at hg ha hb hI ih ⊢
    refine wX4_setFraction_9 _ _ _ _ _ μ ⟨fun z => absurd z (nnge (by omega) ht), fun _ => ?_⟩
    rw [lgc_0 (by omega)]
    refine ⟨fun z => ?_, fun z => ⟨lN_ne (by omega) (by omega), ?_⟩⟩
    · subst z
      rw [Nat.gcd_zero_right] at hg
      rcases hI with hI | hI
      · have := hI.2; rw [Prod.mk.injEq] at this; omega
      · exact fin0 a hI.2.2.1 ha hg
    · have hb1 : 0 < b := by omega
      have hm := Nat.mod_lt a hb1
      rw [pk_lRem (by omega) hb1 (by omega), nI_add t 1]
      refine ih (b, a % b) ⟨by rw [gcd_s]; exact hg, hb, by show a % b ≤ _; omega, Or.inr ⟨by omega, by show a % b ≤ b; omega, hb1, ?_⟩⟩
      show b * (a % b) * 2 ^ (t + 1 - 1) ≤ 100000000
      rcases hI with hI | hI
      · have e := hI.2; rw [Prod.mk.injEq] at e
        rw [hI.1]
        show b * (a % b) * 1 ≤ _
        have h1 : b * (a % b) ≤ 10000 * 10000 := Nat.mul_le_mul hb (by omega)
        omega
      · obtain ⟨i1, i2, i3, i4⟩ := hI
        obtain ⟨t, rfl⟩ : ∃ t', t = t' + 1 := ⟨t - 1, by omega⟩
        refine Nat.le_trans ?_ i4
        show b * (a % b) * 2 ^ (t + 1) ≤ a * b * 2 ^ t
        rw [Nat.pow_succ, Nat.mul_comm (2 ^ t) 2, ← Nat.mul_assoc, Nat.mul_comm (b * (a % b)) 2]
        exact Nat.mul_le_mul_right _ (half hb1 i2)
def chV (s : Ln) (n x c : Nat) : Nat := wgN x c n s 0
def sCh (a b c : Int32) (s : Ln) : Int32 × Ln := if fwith a (nI 0) (nI 4) = true then (if fwith b (nI 0) (nI 50) = true then (if fwith c (nI 0) (nI 10) = true then (nI 1, frS s (chV s a.toNatClampNeg b.toNatClampNeg c.toNatClampNeg / Nat.gcd (chV s a.toNatClampNeg b.toNatClampNeg c.toNatClampNeg) (10 ^ a.toNatClampNeg)) (10 ^ a.toNatClampNeg / Nat.gcd (chV s a.toNatClampNeg b.toNatClampNeg c.toNatClampNeg) (10 ^ a.toNatClampNeg))) else (-2, rfs s 0)) else (-2, rfs s 0)) else (-2, rfs s 0)
theorem p10 {d : Nat} (h : d ≤ 4) : 0 < 10 ^ d ∧ 10 ^ d ≤ 10000 := ⟨Nat.pow_pos (by decide), Nat.le_trans (Nat.pow_le_pow_right (by decide) h) (by decide)⟩
theorem oCh (a b c : Int32) {s : Ln} {n : Nat} (h : OKs n s) : OKs (n + 1) (sCh a b c s).2 := by
  unfold sCh
  cases ha : fwith a (nI 0) (nI 4) with
  | false => exact h.rf (by decide)
  | true =>
    cases hb : fwith b (nI 0) (nI 50) with
    | false => exact h.rf (by decide)
    | true =>
      cases hc : fwith c (nI 0) (nI 10) with
      | false => exact h.rf (by decide)
      | true =>
        obtain ⟨d, hd, rfl⟩ := fw_of (by decide) ha
        obtain ⟨e, he, rfl⟩ := fw_of (by decide) hc
        rw [ifT rfl, ifT rfl, ifT rfl, cl (n := d) (by omega), cl (n := e) (by omega)]
        have hw := wg_le (x := b.toNatClampNeg) he d s 0
        have hp := p10 hd
        have hg := Nat.gcd_le_right (chV s d b.toNatClampNeg e) hp.1
        have hg0 : 0 < Nat.gcd (chV s d b.toNatClampNeg e) (10 ^ d) := Nat.gcd_pos_of_pos_right _ hp.1
        obtain ⟨h1, h2, h3, h4, h5, h6, h7, h8⟩ := h
        have hV : chV s d b.toNatClampNeg e ≤ 10 ^ d := hw
        have k1 := Nat.div_le_self (chV s d b.toNatClampNeg e) (Nat.gcd (chV s d b.toNatClampNeg e) (10 ^ d))
        have k2 := Nat.div_le_self (10 ^ d) (Nat.gcd (chV s d b.toNatClampNeg e) (10 ^ d))
        have k3 := Nat.div_pos hg hg0
        show OKs (n + 1) (frS s _ _)
        refine ⟨(h1.up (by omega)).cg (fun j hj => fr_o (by omega) (by omega)), (h2.up (by omega)).cg (fun j hj => fr_o (by omega) (by omega)), (h3.up (by omega)).cg (fun j hj => fr_o (by omega) (by omega)), ⟨by rw [fr_o (by omega) (by omega)]; exact h4.1, by rw [fr_o (by omega) (by omega)]; exact h4.2⟩, fun i hi => by rw [fr_o (by omega) (by omega)]; have := h5 i hi; omega, ⟨?_, ?_, ?_⟩, by rw [fr_o (by omega) (by omega)]; exact h7, fun j hj => ?_⟩
        · show chV s d b.toNatClampNeg e / _ ≤ _; omega
        · show 1 ≤ 10 ^ d / _; omega
        · show 10 ^ d / _ ≤ _; omega
        · rw [fr_o (by omega) (by omega)] at hj ⊢
          exact h8 j hj
theorem RX.frc {μ μ' : Mm} {s : Ln} {n a b : Nat} (h : RX μ s) (hok : OKs n s) (e : μ' = msetL (msetL μ 0 7 (lN a)) 0 8 (lN b)) : RX μ' (frS s a b) ∧ EqH μ μ' := by
  subst e
  obtain ⟨⟨i0, i1, i2, i3, i4, i5, i6⟩, r, f, t⟩ := h
  obtain ⟨o1, o2, o3, -⟩ := id hok
  refine ⟨⟨⟨i0.cg o1.1.1 o1.1.2.1 o1.1.2.2.1 o1.1.2.2.2.1 (fun _ _ _ => rfl) (fun j hj => fr_o (by omega) (by omega)), fun z => (i1 (by rw [fr_o (by omega) (by omega)] at z; exact z)).cg o2.1.1 o2.1.2.1 o2.1.2.2.1 o2.1.2.2.2.1 (fun _ _ _ => rfl) (fun j hj => fr_o (by omega) (by omega)), fun z => (i2 (by rw [fr_o (by omega) (by omega)] at z; exact z)).cg o3.1.1 o3.1.2.1 o3.1.2.2.1 o3.1.2.2.2.1 (fun _ _ _ => rfl) (fun j hj => fr_o (by omega) (by omega)), by rw [fr_o (by omega) (by omega)]; exact i3, by rw [fr_o (by omega) (by omega)]; exact i4, i5, i6⟩, ⟨by rw [fr_o (by omega) (by omega)]; exact r.1, by rw [fr_o (by omega) (by omega)]; exact r.2.1, by rw [fr_o (by omega) (by omega)]; exact r.2.2⟩, ⟨rfl, rfl⟩, by rw [fr_o (by omega) (by omega)]; exact t.1, fun j hj => ?_⟩, fun z hz => ⟨rfl, ?_⟩⟩
  · rw [fr_o (by omega) (by omega)] at hj ⊢
    exact t.2 j hj
  · funext j
    show (if z = 0 ∧ j = 8 then lN b else if z = 0 ∧ j = 7 then lN a else μ.2 z j) = μ.2 z j
    rw [if_neg (by omega), if_neg (by omega)]
theorem xCh (a b c : Int32) {μ : Mm} {s : Ln} {n : Nat} (h : RX μ s) (hok : OKs n s) (hn : n ≤ 600) : Con mX4_chance [.ref 0, .int a, .int b, .int c] μ (PX (sCh a b c s) μ) := by
  obtain ⟨hOK, h5, hph⟩ := hok.1.ok hn
  unfold sCh
  refine Con.of pnX4 (Nat.le_of_ble_eq_true rfl) (fun κ => wX4_chance_0 a b c μ ⟨fun hb => ?_, fun hb => ⟨fun hb2 => ?_, fun hb2 => ⟨fun hb3 => ?_, fun hb3 => ?_⟩⟩⟩)
  · rw [ifF hb]; exact PX.on (kX4_bad h hok)
  · rw [ifT hb, ifF hb2]; exact PX.on (kX4_bad h hok)
  · rw [ifT hb, ifT hb2, ifT hb3]
    obtain ⟨d, hd, rfl⟩ := fw_of (by decide) hb
    obtain ⟨x, hx, rfl⟩ := fw_of (by decide) hb2
    obtain ⟨e, he, rfl⟩ := fw_of (by decide) hb3
    rw [cl (n := d) (by omega), cl (n := x) (by omega), cl (n := e) (by omega)]
    have hw := wg_le (x := x) he d s 0
    have hp := p10 hd
    refine cnt_loop d (fun t (_ : Unit) => Vq κ (PX (nI 1, frS s (chV s d x e / Nat.gcd (chV s d x e) (10 ^ d)) (10 ^ d / Nat.gcd (chV s d x e) (10 ^ d))) μ) mX4_chance 42 [(0, .ref 0), (1, .int (nI d)), (2, .int (nI x)), (3, .int (nI e)), (4, .long (lN (10 ^ t))), (6, .int (nI t))] [] μ) (fun _ _ => True) ?_ ?_ 0 () (Nat.zero_le _) trivial
    · intro _ _
      refine wX4_chance_42 _ _ _ _ _ μ ⟨fun _ => ?_, fun z => absurd (nge (by omega) (Nat.le_refl _)) z⟩
      have hwc : Con mX1_weighChance [.ref 30, .ref 4, .int (nI d), .int (nI x), .int (nI e)] μ (fun r μ' => r = some (.long (lN (chV s d x e))) ∧ Fr μ μ') := by
        refine Con.of pnX1 (Nat.le_of_ble_eq_true rfl) (fun κ => wX1_weighChance_0 4 _ _ _ μ isL_4 ?_)
        refine (kX1_startAll h hok hd).mono ?_
        rintro r μ1 ⟨rfl, g1, g2, g3⟩
        refine ⟨rfl, ?_⟩
        have key := kX1_wg hd hx he d 4 hd (D := 0) (g := 0) (u := s) (μ := μ1) (by omega) hOK (by omega) (by omega) (g2 0 (by omega)) ⟨g1, fun c hc => (g2 c hc).sx⟩
        rw [show nI x - nI 0 = nI x by rw [pk_sub (by omega), Nat.sub_zero]] at key
        refine key.mono ?_
        rintro r μ2 ⟨rfl, -, f2⟩
        exact ⟨_, rfl, rfl, f2.1.trans g3.1, fun z h1 h2 h3 h4 => (f2.2 z (by omega)).trans (g3.2 z h1 h2 h3 h4)⟩
      refine hwc.mono ?_
      rintro r μ1 ⟨rfl, f1⟩
      obtain ⟨hR, hE⟩ := f1.rx h hok
      refine ⟨_, rfl, (kX4_setF hw hp.1 hp.2).mono ?_⟩
      rintro r μ2 ⟨rfl, e2⟩
      obtain ⟨hR2, hE2⟩ := hR.frc hok e2
      exact ⟨rfl, px rfl ⟨hR2, fun a ha => ⟨(hE2 a ha).1.trans (hE a ha).1, (hE2 a ha).2.trans (hE a ha).2⟩⟩⟩
    · intro t _ ht _ ih
      refine wX4_chance_42 _ _ _ _ _ μ ⟨fun z => absurd z (nnge (by omega) ht), fun _ => ?_⟩
      rw [lN_mul, nI_add t 1, ← Nat.pow_succ]
      exact ih () trivial
  · rw [ifT hb, ifT hb2, ifF hb3]; exact PX.on (kX4_bad h hok)
