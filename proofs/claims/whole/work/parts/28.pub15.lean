/-! ===== plan, both sides ===== -/
theorem rn_ok {h c : Nat} : ∀ {d : Nat} {p : Ln × Nat}, OKL p.1 → p.1 5 + d < 900000 → OKL (rn h c d p).1 ∧ (rn h c d p).1 0 = p.1 0 ∧ (rn h c d p).2 ≤ p.2 + 180 * d
  | 0, p, hu, _ => ⟨hu, rfl, by show p.2 ≤ _; omega⟩
  | d + 1, p, hu, h5 => by
    have h0 := hu.1
    have hp := pass_le hu (nm h (c / (h + 1) ^ d % (h + 1)))
    have := rn_ok (h := h) (c := c) (d := d) (p := (pasL p.1 (nm h (c / (h + 1) ^ d % (h + 1))), p.2 + pasN p.1 (nm h (c / (h + 1) ^ d % (h + 1))))) (pass_ok hu (by omega) _) (by show pasL p.1 _ 5 + d < _; rw [pass_5 h0]; omega)
    refine ⟨this.1, this.2.1.trans (pass_lo h0 _ 0 (by decide)), Nat.le_trans this.2.2 ?_⟩
    show p.2 + pasN p.1 _ + 180 * d ≤ _
    omega
theorem pf_b {h n : Nat} {s : Ln} (hs : OKL s) (h5 : s 5 + n < 900000) (c : Nat) : (pf h n s 0 c).2.1 ≤ 180 * n ∧ (pf h n s 0 c).2.2 ≤ 420 := by
  obtain ⟨g1, g2, g3⟩ := rn_ok (h := h) (c := c) (d := n) (p := (s, 0)) hs h5
  refine ⟨by have : (rn h c n (s, 0)).2 ≤ 0 + 180 * n := g3; show (rn h c n (s, 0)).2 ≤ _; omega, ?_⟩
  show ssum (rn h c n (s, 0)).1 ((rn h c n (s, 0)).1 0) ≤ 420
  have := ss_le g1 g1.1
  have := g1.1
  omega
def q0P : P3 := (0, 1000000, 1000000)
def plQ (s : Ln) (n : Nat) : P3 := fd (pf (s 0) n s 0) 0 ((s 0 + 1) ^ n) q0P
theorem fd_b {f : Nat → P3} (hf : ∀ c, (f c).2.1 ≤ 1000 ∧ (f c).2.2 ≤ 1000) : ∀ {k : Nat}, (fd f 0 k q0P).2.1 ≤ 1000000 ∧ (fd f 0 k q0P).2.2 ≤ 1000000 ∧ (0 < k → (fd f 0 k q0P).2.1 ≤ 1000)
  | 0 => ⟨Nat.le_refl _, Nat.le_refl _, fun z => absurd z (by decide)⟩
  | k + 1 => by
    have ih := fd_b hf (k := k)
    have h1 := hf (0 + k)
    show (kb (fd f 0 k q0P) (f (0 + k))).2.1 ≤ _ ∧ (kb (fd f 0 k q0P) (f (0 + k))).2.2 ≤ _ ∧ (_ → (kb (fd f 0 k q0P) (f (0 + k))).2.1 ≤ _)
    unfold kb
    split
    · exact ⟨by omega, by omega, fun _ => by omega⟩
    · rename_i z
      refine ⟨ih.1, ih.2.1, fun _ => ?_⟩
      by_cases e : (fd f 0 k q0P).2.1 ≤ 1000
      · exact e
      · exact absurd (Or.inl (by omega)) z
def plA (s : Ln) (n : Nat) (y : Int32) : Int32 := if y = -2 then nI (plQ s n).2.1 else (if dgt (s 0) n (plQ s n).1 y.toNatClampNeg = 7 then -1 else nI (dgt (s 0) n (plQ s n).1 y.toNatClampNeg))
def sPlan (x y : Int32) (s : Ln) : Int32 × Ln := if fwith x (nI 1) (nI 4) = true then (if 0 ≤ y ∨ y = -2 then (if y < x then plA s x.toNatClampNeg y else -5, s) else (-10, rfs s 0)) else (-10, rfs s 0)
theorem oPlan (x y : Int32) {s : Ln} {n : Nat} (h : OKs n s) : OKs (n + 1) (sPlan x y s).2 := by
  unfold sPlan
  split
  · split
    · exact oSame h
    · exact h.rf (by decide)
  · exact h.rf (by decide)
def Fr (μ μ' : Mm) : Prop := μ'.2 = μ.2 ∧ ∀ c, c ≠ 30 → c ≠ 32 → c ≠ 33 → (c < 34 ∨ 59 ≤ c) → μ'.1 c = μ.1 c
def plS : List Nat := [30, 32, 33, 34, 35, 36, 37, 38, 39, 40, 41, 42, 43, 44, 45, 46, 47, 48, 49, 50, 51, 52, 53, 54, 55, 56, 57, 58]
theorem Fr.rx {μ μ' : Mm} {s : Ln} {n : Nat} (h : RX μ s) (hok : OKs n s) (hf : Fr μ μ') : RX μ' s ∧ EqH μ μ' := by
  refine h.scr hok (S := plS) ⟨hf.1, fun a ha => ?_⟩ (by decide)
  simp only [plS, List.mem_cons, List.not_mem_nil, or_false, not_or] at ha
  exact hf.2 a (by omega) (by omega) (by omega) (by omega)
theorem kX1_startAll {μ : Mm} {s : Ln} {n : Nat} (h : RX μ s) (hok : OKs n s) {d : Nat} (hd : d ≤ 4) : Con mX1_startAllFrom [.ref 30, .ref 4, .int (nI d)] μ (fun r μ' => r = none ∧ μ'.1 30 5 = nI d ∧ (∀ c, c ≤ 4 → LX μ' (34 + 5 * c) s) ∧ Fr μ μ') := by
  have p0 := hok.1.1.1
  refine Con.of pnX1 (Nat.le_of_ble_eq_true rfl) (fun κ => wX1_startAllFrom_0 4 _ μ isL_4 ?_)
  refine cnt_loop 5 (fun t μ1 => Vq κ (fun r μ' => r = none ∧ μ'.1 30 5 = nI d ∧ (∀ c, c ≤ 4 → LX μ' (34 + 5 * c) s) ∧ Fr μ μ') mX1_startAllFrom 2 [(0, .ref 30), (1, .ref 4), (2, .int (nI d)), (3, .int (nI t))] [] μ1) (fun t μ1 => (∀ c, c < t → LX μ1 (34 + 5 * c) s) ∧ Fr μ μ1) ?_ ?_ 0 μ (Nat.zero_le _) ⟨fun c hc => absurd hc (by omega), rfl, fun _ _ _ _ _ => rfl⟩
  · rintro μ1 ⟨g1, g2⟩
    refine wX1_startAllFrom_2 4 _ _ μ1 isL_4 ⟨fun _ μ2 e2 => ⟨rfl, ?_, fun c hc => ?_, ?_⟩, fun z => absurd ((nIlt (by omega) (by omega)).mpr (by omega)) z⟩
    · rw [e2, ms_at, if_neg (by rw [nIlt (by omega) (by omega)]; omega)]
    · exact (g1 c (by omega)).cg p0 (fun z h1 h2 => by rw [e2, ms_row (by omega)]) (fun _ _ => rfl)
    · exact ⟨by rw [e2]; exact g2.1, fun c h1 h2 h3 h4 => by rw [e2, ms_row h1]; exact g2.2 c h1 h2 h3 h4⟩
  · rintro t μ1 ht ⟨g1, g2⟩ ih
    refine wX1_startAllFrom_2 4 _ _ μ1 isL_4 ⟨fun z => absurd z (by rw [nIlt (by omega) (by omega)]; omega), fun _ => ⟨vin ht (by decide), ?_⟩⟩
    rw [cl (n := t) (by omega), nI_add t 1]
    have hL4 : LX μ1 4 s := h.1.1.1.cg p0 (fun z h1 h2 => g2.2 z (by omega) (by omega) (by omega) (by omega)) (fun _ _ => rfl)
    refine (kX0_copyFrom (34 + 5 * t) 4 μ1 (isL_c (by omega)) isL_4 (by omega)).mono ?_
    rintro r μ2 ⟨rfl, hC⟩
    have R : ∀ c, c < 34 + 5 * t ∨ 39 + 5 * t ≤ c → μ2.1 c = μ1.1 c := fun c hc => hC.2.2.2.2 c (by simp; omega)
    refine ⟨rfl, ih μ2 ⟨fun c hc => ?_, hC.2.2.2.1.trans g2.1, fun c h1 h2 h3 h4 => (R c (by omega)).trans (g2.2 c h1 h2 h3 h4)⟩⟩
    by_cases e : c = t
    · rw [e]; exact hC.lx p0 hL4
    · exact (g1 c (by omega)).cg p0 (fun z h1 h2 => R z (by omega)) (fun _ _ => rfl)
theorem kX1_find {μ : Mm} {s : Ln} {n : Nat} (h : RX μ s) (hok : OKs n s) (hn : n ≤ 600) {d : Nat} (hd : d ≤ 4) : Con mX1_findPlan [.ref 30, .ref 4, .int (nI d)] μ (fun r μ' => r = none ∧ Rq μ' d (s 0) (plQ s d) ∧ Fr μ μ') := by
  obtain ⟨hOK, h5, hph⟩ := hok.1.ok hn
  refine Con.of pnX1 (Nat.le_of_ble_eq_true rfl) (fun κ => wX1_findPlan_0 4 _ μ isL_4 ?_)
  refine (kX1_startAll h hok hd).mono ?_
  rintro r μ1 ⟨rfl, g1, g2, g3⟩
  refine ⟨rfl, fun μ2 e2 => ?_⟩
  have R : ∀ c, c ≠ 30 → μ2.1 c = μ1.1 c := fun c hc => by rw [e2, ms_row hc]
  have hL : ∀ c, c ≤ 4 → LX μ2 (34 + 5 * c) s := fun c hc => (g2 c hc).cg hOK.1 (fun z h1 h2 => R z (by omega)) (fun _ _ => rfl)
  have key := kX1_try hd d 4 hd (D := 0) (gone := 0) (pre := 0) (u := s) (q := q0P) (μ := μ2) (by omega) hOK (by omega) (by omega) (hL 0 (by omega)) ⟨by rw [e2, ms_col (by decide)]; exact g1, fun c hc => (hL c hc).sx⟩ ⟨by rw [e2, ms_at]; rfl, Nat.le_refl _, fun z => absurd z (by decide)⟩ (fun j hj => absurd hj (by omega))
  refine key.mono ?_
  rintro r μ3 ⟨rfl, f1, f2, f3⟩
  rw [tr_fd, Nat.zero_mul] at f1
  refine ⟨rfl, rfl, f1, f3.1.trans (by rw [e2]; exact g3.1), fun c h1 h2 h3 h4 => ?_⟩
  rw [f3.2.1 c h1 h2 h3 (by omega), R c h1]; exact g3.2 c h1 h2 h3 h4
theorem m2_not : ¬ (0 : Int32) ≤ -2 := by decide
theorem xPlan (x y : Int32) {μ : Mm} {s : Ln} {n : Nat} (h : RX μ s) (hok : OKs n s) (hn : n ≤ 600) : Con mX4_plan [.ref 0, .int x, .int y] μ (PX (sPlan x y s) μ) := by
  obtain ⟨hOK, h5, hph⟩ := hok.1.ok hn
  have hbad : Con mX4_refuse [.ref 0, .int (-2)] μ (fun r μ1 => ∃ x2 : Int32, r = some (.int x2) ∧ PX (-10, rfs s 0) μ (some (.int (-10))) μ1) := by
    refine (kX4_bad h hok).mono ?_
    rintro r μ' ⟨rfl, h1⟩
    exact ⟨_, rfl, px rfl h1⟩
  unfold sPlan
  refine Con.of pnX4 (Nat.le_of_ble_eq_true rfl) (fun κ => wX4_plan_0 x y μ ⟨fun hb => ?_, fun hb => ?_⟩)
  · rw [ifF hb]; exact hbad
  · rw [ifT hb]
    obtain ⟨d, hd1, hd, rfl⟩ := fw_of1 (by decide) (by decide) hb
    rw [cl (n := d) (by omega)]
    have hF : (0 ≤ y ∨ y = -2) → (y < nI d → Con mX1_findPlan [.ref 30, .ref 4, .int (nI d)] μ (fun r μ3 => r = none ∧ ((¬ y = ((-2)) → vp_in y 4 ∧ ((¬ (μ3.1 33 y.toNatClampNeg) = (nI 7) → PX (if y < nI d then plA s d y else -5, s) μ (some (.int (μ3.1 33 y.toNatClampNeg))) μ3) ∧ ((μ3.1 33 y.toNatClampNeg) = (nI 7) → PX (if y < nI d then plA s d y else -5, s) μ (some (.int ((-1)))) μ3))) ∧ (y = ((-2)) → PX (if y < nI d then plA s d y else -5, s) μ (some (.int (μ3.1 30 3))) μ3)))) ∧ (¬ y < nI d → PX (if y < nI d then plA s d y else -5, s) μ (some (.int ((-5)))) μ) := by
      intro hy
      refine ⟨fun z => ?_, fun z => px (by rw [if_neg z]) ⟨h, EqH.rf⟩⟩
      rw [if_pos z]
      refine (kX1_find h hok hn hd).mono ?_
      rintro r μ3 ⟨rfl, ⟨f1, f2, f3⟩, f4⟩
      have hR := f4.rx h hok
      have hfew := (fd_b (f := pf (s 0) d s 0) (fun c => by have := pf_b (h := s 0) hOK (n := d) (by omega) c; omega) (k := (s 0 + 1) ^ d)).2.2 (Nat.pow_pos (by omega))
      have hfew' : (plQ s d).2.1 ≤ 1000 := hfew
      obtain ⟨-, -, f6⟩ := f3 (by omega)
      refine ⟨rfl, fun y2 => ?_, fun y2 => px ?_ hR⟩
      · obtain ⟨k, hk, rfl⟩ := nI_of2 (x := y) (M := nI d) (nI_toInt (n := d) (by omega)) (by have := hy.resolve_right y2; rw [Int32.lt_iff_toInt_lt]; rw [Int32.le_iff_toInt_le] at this; omega) (by rw [Int32.le_iff_toInt_le]; rw [Int32.lt_iff_toInt_lt] at z; omega)
        rw [nIlt (by omega) (by omega)] at z
        rw [cl (n := k) (by omega), f6 k z]
        have hd7 : dgt (s 0) d (plQ s d).1 k ≤ 7 := nm_7 hOK.1 (by have := Nat.mod_lt ((plQ s d).1 / (s 0 + 1) ^ (d - 1 - k)) (show 0 < s 0 + 1 by omega); omega)
        rw [nIe (by omega) (by decide)]
        refine ⟨vin (by omega) (by decide), fun w => px ?_ hR, fun w => px ?_ hR⟩
        · unfold plA; rw [if_neg y2, cl (n := k) (by omega), if_neg w]
        · unfold plA; rw [if_neg y2, cl (n := k) (by omega), if_pos w]
      · unfold plA; rw [if_pos y2]; exact f1
    refine ⟨fun z => ?_, fun z => ⟨fun w => ?_, fun w => ?_⟩⟩
    · rw [if_pos (Or.inl z)]; exact hF (Or.inl z)
    · rw [if_pos (Or.inr w)]; exact hF (Or.inr w)
    · rw [if_neg (by rintro (a | a); exact z a; exact w a)]; exact hbad
def dn (k : Nat) : Int32 := nI k - nI 1
theorem dn_s (k : Nat) : dn (k + 1) = nI k := by unfold dn; rw [pk_sub (by omega), Nat.add_sub_cancel]
theorem dn_m (k : Nat) : nI k + (-1) = dn k := by unfold dn; rw [Int32.sub_eq_add_neg]; rfl
theorem dn_0 : dn 0 < 0 := by decide
theorem dn_p (k : Nat) (hk : k < 2 ^ 30) : ¬ dn (k + 1) < 0 := by rw [dn_s, ← nI_0, nIlt (by omega) (by decide)]; omega
theorem mPlan (x y : Int32) {μ : Mm} {s : Ln} {n : Nat} (h : RM μ s) (hok : OKs n s) (hn : n ≤ 600) : Con mX5_plan [.ref 66, .int x, .int y] μ (PM (sPlan x y s) μ) := by
  obtain ⟨hOK, h5, hph⟩ := hok.1.ok hn
  have h0 := hOK.1
  unfold sPlan
  refine Con.of pnX5 (Nat.le_of_ble_eq_true rfl) (fun κ => wX5_plan_0 x y μ ?_)
  rw [fwL x (by decide) (by decide), h.1 0 (by decide), nI_add (s 0) 1]
  refine ⟨fun hb => ?_, fun hb => ?_⟩
  · rw [ifF hb]; exact PM.on (kX5_badR (-10) h)
  · rw [ifT hb]
    obtain ⟨d, hd1, hd, rfl⟩ := fw_of1 (by decide) (by decide) hb
    rw [cl (n := d) (by omega)]
    have hBd : (s 0 + 1) ^ d ≤ 8 ^ 4 := Nat.le_trans (Nat.pow_le_pow_left (by omega) d) (Nat.pow_le_pow_right (by decide) hd)
    have hpfb : ∀ c, (pf (s 0) d s 0 c).2.1 ≤ 1000 ∧ (pf (s 0) d s 0 c).2.2 ≤ 1000 := fun c => by have := pf_b (h := s 0) hOK (n := d) (by omega) c; omega
    have main : (0 ≤ y ∨ y = -2) → Vq κ (PM (if y < nI d then plA s d y else -5, s) μ) mX5_plan 50 [(0, .ref 66), (1, .int (nI d)), (2, .int y), (3, .int (nI (s 0 + 1))), (4, .int (nI 0)), (5, .int (nI 1000000)), (6, .int (nI 1000000)), (7, .int (nI 0))] [] μ := by
      intro hy
      refine cnt_loop ((s 0 + 1) ^ d) (fun c μ1 => Vq κ (PM (if y < nI d then plA s d y else -5, s) μ) mX5_plan 50 [(0, .ref 66), (1, .int (nI d)), (2, .int y), (3, .int (nI (s 0 + 1))), (4, .int (nI (fd (pf (s 0) d s 0) 0 c q0P).1)), (5, .int (nI (fd (pf (s 0) d s 0) 0 c q0P).2.1)), (6, .int (nI (fd (pf (s 0) d s 0) 0 c q0P).2.2)), (7, .int (nI c))] [] μ1) (fun c μ1 => TM μ μ1 ∧ (fd (pf (s 0) d s 0) 0 c q0P).1 ≤ c) ?_ ?_ 0 μ (Nat.zero_le _) ⟨TM.rf, Nat.le_refl 0⟩
      · rintro μ1 ⟨hT, hle⟩
        have hR := hT.rm h hok
        have h67 : μ1.1 67 0 = nI (s 0) := hR.1.1 0 (by decide)
        refine wX5_plan_50 _ _ _ _ _ _ _ μ1 ?_
        refine (kX5_power (s 0 + 1) d μ1 (by omega)).mono ?_
        rintro r μ2 ⟨rfl, rfl⟩
        refine ⟨_, rfl, fun _ => ⟨fun z => ?_, fun z => pm (by rw [if_neg z]) hR⟩, fun z => absurd (nge (by omega) (Nat.le_refl _)) z⟩
        rw [if_pos z]
        refine ⟨fun w => ?_, fun w => ⟨fun v => absurd v w, fun _ => pm ?_ hR⟩⟩
        · have y2 : ¬ y = -2 := fun e => by rw [e] at w; exact absurd w (by decide)
          obtain ⟨k, hk, rfl⟩ := nI_of2 (x := y) (M := nI d) (nI_toInt (n := d) (by omega)) (by rw [Int32.lt_iff_toInt_lt]; rw [Int32.le_iff_toInt_le] at w; omega) (by rw [Int32.le_iff_toInt_le]; rw [Int32.lt_iff_toInt_lt] at z; omega)
          rw [nIlt (by omega) (by omega)] at z
          rw [pk_sub (by omega), pk_sub (by omega)]
          refine (kX5_power (s 0 + 1) (d - 1 - k) μ2 (by omega)).mono ?_
          rintro r μ3 ⟨rfl, rfl⟩
          have hp : 0 < (s 0 + 1) ^ (d - 1 - k) := Nat.pow_pos (by omega)
          have hp2 : (s 0 + 1) ^ (d - 1 - k) ≤ 8 ^ 4 := Nat.le_trans (Nat.pow_le_pow_left (by omega) _) (Nat.pow_le_pow_right (by decide) (by omega))
          refine ⟨_, rfl, fun e => by rw [nI0 (by omega)] at e; omega, fun e => by rw [nI0 (by omega)] at e; omega, ?_⟩
          have hdm := Nat.mod_lt ((fd (pf (s 0) d s 0) 0 ((s 0 + 1) ^ d) q0P).1 / (s 0 + 1) ^ (d - 1 - k)) (show 0 < s 0 + 1 by omega)
          have hdv := Nat.div_le_self (fd (pf (s 0) d s 0) 0 ((s 0 + 1) ^ d) q0P).1 ((s 0 + 1) ^ (d - 1 - k))
          rw [pk_div (by omega) hp (by omega), pk_rem (by omega) (by omega) (by omega), h67, nIe (by omega) (by omega)]
          refine ⟨fun _ => ⟨fun v => pm ?_ hR, fun v => pm ?_ hR⟩, fun v => absurd w v⟩
          · unfold plA
            rw [if_neg y2, cl (n := k) (by omega)]
            have e : dgt (s 0) d (plQ s d).1 k = (plQ s d).1 / (s 0 + 1) ^ (d - 1 - k) % (s 0 + 1) := if_neg v
            unfold plQ at e
            unfold plQ
            rw [e, if_neg (by omega)]
          · unfold plA
            rw [if_neg y2, cl (n := k) (by omega)]
            have e : dgt (s 0) d (plQ s d).1 k = 7 := if_pos v
            rw [if_pos e]
        · have y2 : y = -2 := hy.resolve_left w
          unfold plA; rw [if_pos y2]; rfl
      · rintro c μ1 hc ⟨hT, hle⟩ ih
        have hqb := fd_b hpfb (k := c)
        refine wX5_plan_50 _ _ _ _ _ _ _ μ1 ?_
        refine (kX5_power (s 0 + 1) d μ1 (by omega)).mono ?_
        rintro r μ2 ⟨rfl, rfl⟩
        refine ⟨_, rfl, fun z => absurd z (nnge (by omega) hc), fun _ => (TM.lay h.1 hT).mono ?_⟩
        rintro r μ3 ⟨rfl, hL3, hT3⟩
        refine ⟨rfl, ?_⟩
        have gen := cnt_loop d (fun t (σ : Mm × Ln × Nat) => Vq κ (PM (if y < nI d then plA s d y else -5, s) μ) mX5_plan 72 [(0, .ref 66), (1, .int (nI d)), (2, .int y), (3, .int (nI (s 0 + 1))), (4, .int (nI (fd (pf (s 0) d s 0) 0 c q0P).1)), (5, .int (nI (fd (pf (s 0) d s 0) 0 c q0P).2.1)), (6, .int (nI (fd (pf (s 0) d s 0) 0 c q0P).2.2)), (7, .int (nI c)), (8, .int (nI σ.2.2)), (9, .int (dn (d - t)))] [] σ.1) (fun t σ => LM σ.1 71 σ.2.1 ∧ TM μ σ.1 ∧ rn (s 0) c (d - t) σ.2 = rn (s 0) c d (s, 0) ∧ OKL σ.2.1 ∧ σ.2.1 0 = s 0 ∧ σ.2.1 5 + (d - t) < 900000) ?_ ?_ 0 (μ3, s, 0) (Nat.zero_le _) ⟨hL3, hT3, rfl, hOK, rfl, by show s 5 + d < _; omega⟩
        · exact gen
        · rintro ⟨μ4, p⟩ ⟨hL4, hT4, e4, hu4, hu0, -⟩
          dsimp only at hL4 hT4 e4 hu4 hu0 ⊢
          rw [Nat.sub_self] at e4 ⊢
          have e4' : p = rn (s 0) c d (s, 0) := e4
          have epf : pf (s 0) d s 0 (0 + c) = (c, p.2, ssum p.1 (p.1 0)) := by
            unfold pf; rw [Nat.zero_add, ← e4']
          have hb := hpfb (0 + c)
          rw [epf] at hb
          have hb1 : p.2 ≤ 1000 := hb.1
          have hb2 : ssum p.1 (p.1 0) ≤ 1000 := hb.2
          have st : fd (pf (s 0) d s 0) 0 (c + 1) q0P = kb (fd (pf (s 0) d s 0) 0 c q0P) (c, p.2, ssum p.1 (p.1 0)) := by
            show kb _ (pf (s 0) d s 0 (0 + c)) = _
            rw [epf]
          have Y : ∀ μ5, TM μ μ5 → (p.2 < (fd (pf (s 0) d s 0) 0 c q0P).2.1 ∨ (p.2 = (fd (pf (s 0) d s 0) 0 c q0P).2.1 ∧ ssum p.1 (p.1 0) < (fd (pf (s 0) d s 0) 0 c q0P).2.2)) → Vq κ (PM (if y < nI d then plA s d y else -5, s) μ) mX5_plan 50 [(0, .ref 66), (1, .int (nI d)), (2, .int y), (3, .int (nI (s 0 + 1))), (4, .int (nI c)), (5, .int (nI p.2)), (6, .int (nI (ssum p.1 (p.1 0)))), (7, .int (nI (c + 1)))] [] μ5 := by
            intro μ5 hT5 hc
            have e : fd (pf (s 0) d s 0) 0 (c + 1) q0P = (c, p.2, ssum p.1 (p.1 0)) := by rw [st]; exact if_pos hc
            have := ih μ5
            rw [e] at this
            exact this ⟨hT5, by show c ≤ c + 1; omega⟩
          have N : ∀ μ5, TM μ μ5 → ¬ (p.2 < (fd (pf (s 0) d s 0) 0 c q0P).2.1 ∨ (p.2 = (fd (pf (s 0) d s 0) 0 c q0P).2.1 ∧ ssum p.1 (p.1 0) < (fd (pf (s 0) d s 0) 0 c q0P).2.2)) → Vq κ (PM (if y < nI d then plA s d y else -5, s) μ) mX5_plan 50 [(0, .ref 66), (1, .int (nI d)), (2, .int y), (3, .int (nI (s 0 + 1))), (4, .int (nI (fd (pf (s 0) d s 0) 0 c q0P).1)), (5, .int (nI (fd (pf (s 0) d s 0) 0 c q0P).2.1)), (6, .int (nI (fd (pf (s 0) d s 0) 0 c q0P).2.2)), (7, .int (nI (c + 1)))] [] μ5 := by
            intro μ5 hT5 hc
            have e : fd (pf (s 0) d s 0) 0 (c + 1) q0P = fd (pf (s 0) d s 0) 0 c q0P := by rw [st]; exact if_neg hc
            have := ih μ5
            rw [e] at this
            exact this ⟨hT5, by omega⟩
          refine wX5_plan_72 _ _ _ _ _ _ _ _ _ μ4 ⟨fun _ => ?_, fun z => absurd dn_0 z⟩
          rw [nIlt (by omega) (by omega), nIe (by omega) (by omega), nI_add c 1]
          refine ⟨fun z => (kX5_sizes 71 48 μ4 Ar_71 hu4.1 hL4).mono ?_, fun z => ⟨fun w => N μ4 hT4 (by rintro (a | a); exact z a; exact w a.1), fun w => (kX5_sizes 71 48 μ4 Ar_71 hu4.1 hL4).mono ?_⟩⟩
          · rintro r μ5 ⟨rfl, rfl⟩
            exact ⟨_, rfl, Y μ5 hT4 (Or.inl z)⟩
          · rintro r μ5 ⟨rfl, rfl⟩
            refine ⟨_, rfl, ?_⟩
            rw [nIle (by omega) (by omega)]
            refine ⟨fun v => N μ5 hT4 (by rintro (a | a); exact z a; omega), fun v => (kX5_sizes 71 48 μ5 Ar_71 hu4.1 hL4).mono ?_⟩
            rintro r μ6 ⟨rfl, rfl⟩
            exact ⟨_, rfl, Y μ6 hT4 (Or.inr ⟨w, by omega⟩)⟩
        · rintro t ⟨μ4, p⟩ ht ⟨hL4, hT4, e4, hu4, hu0, hu5⟩ ih2
          dsimp only at hL4 hT4 e4 hu4 hu0 hu5 ih2 ⊢
          have h67 : μ4.1 67 0 = nI (s 0) := (hT4.rm h hok).1.1 0 (by decide)
          obtain ⟨k, hk⟩ : ∃ k, d - t = k + 1 := ⟨d - t - 1, by omega⟩
          have hk' : d - (t + 1) = k := by omega
          rw [hk] at e4 hu5 ⊢
          rw [hk'] at ih2
          have hp : 0 < (s 0 + 1) ^ k := Nat.pow_pos (by omega)
          have hp2 : (s 0 + 1) ^ k ≤ 8 ^ 4 := Nat.le_trans (Nat.pow_le_pow_left (by omega) _) (Nat.pow_le_pow_right (by decide) (by omega))
          have hdm := Nat.mod_lt (c / (s 0 + 1) ^ k) (show 0 < s 0 + 1 by omega)
          have hdv := Nat.div_le_self c ((s 0 + 1) ^ k)
          refine wX5_plan_72 _ _ _ _ _ _ _ _ _ μ4 ⟨fun z => absurd z (dn_p k (by omega)), fun _ => ?_⟩
          rw [dn_s, dn_m]
          refine (kX5_power (s 0 + 1) k μ4 (by omega)).mono ?_
          rintro r μ5 ⟨rfl, rfl⟩
          refine ⟨_, rfl, fun e => by rw [nI0 (by omega)] at e; omega, fun e => by rw [nI0 (by omega)] at e; omega, ?_⟩
          rw [pk_div (by omega) hp (by omega), pk_rem (by omega) (by omega) (by omega), h67, nIe (by omega) (by omega)]
          have G : ∀ v, v = nm (s 0) (c / (s 0 + 1) ^ k % (s 0 + 1)) → Con mX5_goDay [.ref 66, .ref 71, .int (nI v)] μ5 (fun r μ12 => ∃ x13 : Int32, r = some (.int x13) ∧ (Vq κ (PM (if y < nI d then plA s d y else -5, s) μ) mX5_plan 72 [(0, .ref 66), (1, .int (nI d)), (2, .int y), (3, .int (nI (s 0 + 1))), (4, .int (nI (fd (pf (s 0) d s 0) 0 c q0P).1)), (5, .int (nI (fd (pf (s 0) d s 0) 0 c q0P).2.1)), (6, .int (nI (fd (pf (s 0) d s 0) 0 c q0P).2.2)), (7, .int (nI c)), (8, .int (nI p.2 + x13)), (9, .int (dn k))] [] μ12)) := by
            rintro v rfl
            have hv := nm_7 h0 (show c / (s 0 + 1) ^ k % (s 0 + 1) ≤ s 0 by omega)
            refine (kX5_goDay 71 48 _ μ5 Ar_71 hu4 (by omega) (by omega) hL4).mono ?_
            rintro r μ6 ⟨rfl, hL6, -, hE6⟩
            refine ⟨_, rfl, ?_⟩
            rw [nI_add p.2]
            exact ih2 (μ6, pasL p.1 (nm (s 0) (c / (s 0 + 1) ^ k % (s 0 + 1))), p.2 + pasN p.1 (nm (s 0) (c / (s 0 + 1) ^ k % (s 0 + 1)))) ⟨hL6, hT4.tr (TM.ofM hE6), e4, pass_ok hu4 (by omega) _, (pass_lo hu4.1 _ 0 (by decide)).trans hu0, by show pasL p.1 _ 5 + k < _; rw [pass_5 hu4.1]; omega⟩
          exact ⟨fun z => G _ (if_neg z).symm, fun z => G 7 (if_pos z).symm⟩
    refine ⟨fun z => ?_, fun z => ⟨fun w => ?_, fun w => ?_⟩⟩
    · rw [if_pos (Or.inl z)]; exact main (Or.inl z)
    · rw [if_pos (Or.inr w)]; exact main (Or.inr w)
    · rw [if_neg (by rintro (a | a); exact z a; exact w a)]; exact PM.on (kX5_badR (-10) h)
