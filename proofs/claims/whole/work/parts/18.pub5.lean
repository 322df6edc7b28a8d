/-! ===== of, high, goes, lost, chain, askFirst, calm, years ===== -/
/-- a trial on the class's first land of its own -/
def TX (μ0 μ1 : Mm) (u : Ln) : Prop := LX μ1 34 u ∧ Eqx [34, 35, 36, 37, 38] μ0 μ1
theorem kStart {μ : Mm} {s : Ln} {n : Nat} (h : RX μ s) (hok : OKs n s) {μ0 : Mm} (hE : Eqx [34, 35, 36, 37, 38] μ0 μ) : Con mX1_startFrom [.ref 30, .ref 4] μ (fun r μ' => ∃ k : Nat, r = some (.ref k) ∧ isL k ∧ k = 34 ∧ TX μ0 μ' s) := by
  refine (kX1_startFrom 4 μ isL_4 (by decide)).mono ?_
  rintro r μ1 ⟨rfl, hC⟩
  exact ⟨34, rfl, isL_34, rfl, hC.lx hok.1.1.1 h.1.1.1, hE.tr hC.2.2.2⟩
theorem TX.rx {μ0 μ1 : Mm} {s u : Ln} {n : Nat} (h : RX μ0 s) (hok : OKs n s) (ht : TX μ0 μ1 u) : RX μ1 s ∧ EqH μ0 μ1 := h.scr hok ht.2 (by decide)
theorem TX.st {μ0 μ1 μ2 : Mm} {u w : Ln} (h : TX μ0 μ1 u) (hL : LX μ2 34 w) (hE : Eqx [34, 37, 38] μ1 μ2) : TX μ0 μ2 w := ⟨hL, h.2.tr (hE.mn (by simp))⟩
/-- a trial on the reference's row at hand -/
def TM (μ0 μ1 : Mm) : Prop := μ1.2 = μ0.2 ∧ (∀ b, b ≠ 71 → b ≠ 66 → μ1.1 b = μ0.1 b) ∧ ∀ j, j ≠ 6 → μ1.1 66 j = μ0.1 66 j
theorem TM.rf {μ : Mm} : TM μ μ := ⟨rfl, fun _ _ _ => rfl, fun _ _ => rfl⟩
theorem TM.tr {μ0 μ1 μ2 : Mm} (h : TM μ0 μ1) (g : TM μ1 μ2) : TM μ0 μ2 := ⟨g.1.trans h.1, fun b h1 h2 => (g.2.1 b h1 h2).trans (h.2.1 b h1 h2), fun j hj => (g.2.2 j hj).trans (h.2.2 j hj)⟩
theorem TM.ofE {μ0 μ1 : Mm} (h : Eqx [71] μ0 μ1) : TM μ0 μ1 := ⟨h.1, fun b h1 _ => h.2 b (nm1 h1), fun j _ => by rw [h.2 66 (nm1 (by decide))]⟩
theorem TM.ofM {μ0 μ1 : Mm} (h : EqM 71 μ0 μ1) : TM μ0 μ1 := ⟨h.1, h.2.1, h.2.2.2⟩
theorem TM.rm {μ0 μ1 : Mm} {s : Ln} {n : Nat} (h : RM μ0 s) (hok : OKs n s) (ht : TM μ0 μ1) : RM μ1 s ∧ EqG μ0 μ1 := h.scr hok (fun x hx => ht.2.1 x (by omega) (by omega)) (ht.2.2 11 (by decide)) ht.1
theorem kLay {μ : Mm} {s : Ln} (h : RMa μ s) : Con mX5_layHand [.ref 66] μ (fun r μ' => r = none ∧ LM μ' 71 s ∧ TM μ μ') := (kX5_layHand μ).mono (by rintro r μ' ⟨rfl, g, hE⟩; exact ⟨rfl, fun j hj => by rw [g j hj]; exact h j (by omega), TM.ofE hE⟩)
theorem TM.rma {μ0 μ1 : Mm} {s : Ln} (h : RMa μ0 s) (ht : TM μ0 μ1) : RMa μ1 s := fun j hj => by rw [ht.2.1 67 (by decide) (by decide)]; exact h j hj
-- of
def ofN (s : Ln) (i w : Nat) : Nat := if w = 0 then s (34 + i) else if w = 1 then s (41 + i) else if w = 2 then s (7 + i) else if w = 3 then growN (s (34 + i)) (s (7 + i)) (s 5 + 1) else fallN (s 4) (s (7 + i)) (s 5 + 1)
def sOf (x y : Int32) (s : Ln) : Int32 × Ln := if fwith x (nI 0) (nI (s 0) - nI 1) = true then (if fwith y (nI 0) (nI 4) = true then (nI (ofN s x.toNatClampNeg y.toNatClampNeg), s) else (-2, rfs s 0)) else (-2, rfs s 0)
theorem oIf {b : Bool} {v : Int32} {p : Int32 × Ln} {n : Nat} {s : Ln} (h : OKs n s) (hp : OKs (n + 1) p.2) : OKs (n + 1) (if b = true then p else (v, rfs s 0)).2 := by
  cases b with
  | true => rw [ifT rfl]; exact hp
  | false => exact h.rf (by decide)
theorem oSame {v : Int32} {n : Nat} {s : Ln} (h : OKs n s) : OKs (n + 1) ((v, s) : Int32 × Ln).2 := h.up (Nat.le_succ n)
theorem oOf (x y : Int32) {s : Ln} {n : Nat} (h : OKs n s) : OKs (n + 1) (sOf x y s).2 := oIf h (oIf h (oSame h))
theorem xOf (x y : Int32) {μ : Mm} {s : Ln} {n : Nat} (h : RX μ s) (hok : OKs n s) (hn : n ≤ 600) : Con mX4_of [.ref 0, .int x, .int y] μ (PX (sOf x y s) μ) := by
  obtain ⟨hOK, h5, hph⟩ := hok.1.ok hn
  obtain ⟨⟨a1, a2, a3, a4, a5⟩, -⟩ := id h.1.1
  have a1' : μ.1 4 0 = nI (s 4) := a1
  have a2' : μ.1 4 1 = nI (s 0) := a2
  have a3' : μ.1 4 7 = nI (s 5) := a3
  refine Con.of pnX4 (Nat.le_of_ble_eq_true rfl) (fun κ => wX4_of_0 x y μ ?_)
  rw [a1', a2', a3', nI_add]
  refine ⟨fun hb => ?_, fun hb => ⟨fun hb2 => ?_, fun hb2 => ?_⟩⟩
  · unfold sOf; rw [ifF hb]; exact PX.on (kX4_bad h hok)
  · unfold sOf; rw [ifT hb, ifT hb2]
    obtain ⟨i, hi, rfl⟩ := fh_of hOK.1 hb
    obtain ⟨w, hw, rfl⟩ := fw_of (by decide) hb2
    have h0 := hOK.1
    have hsi := hOK.2.2.2.1 i (by omega)
    have b1 : μ.1 5 i = nI (s (34 + i)) := (a4 i hi).1
    have b2 : μ.1 6 i = nI (s (41 + i)) := (a4 i hi).2.1
    have b3 : μ.1 7 i = nI (s (7 + i)) := (a4 i hi).2.2
    have h4 := hOK.2.1
    rw [cl (n := i) (by omega), cl (n := w) (by omega), b1, b2, b3, fgrow_N (by omega) (by omega) (by omega), ffall_N (by omega) (by omega) (by omega)]
    have hv : vp_in (nI i) 7 := vin (by omega) (by decide)
    refine ⟨fun e => ?_, fun e0 => ⟨fun e => ?_, fun e1 => ⟨fun e => ?_, fun e2 => ⟨fun e => ?_, fun e3 => ?_⟩⟩⟩⟩
    · rw [nIe (by omega) (by decide)] at e; subst e; exact ⟨hv, px rfl ⟨h, EqH.rf⟩⟩
    · rw [nIe (by omega) (by decide)] at e; subst e; exact ⟨hv, px rfl ⟨h, EqH.rf⟩⟩
    · rw [nIe (by omega) (by decide)] at e; subst e; exact ⟨hv, px rfl ⟨h, EqH.rf⟩⟩
    · rw [nIe (by omega) (by decide)] at e; subst e; exact ⟨hv, px rfl ⟨h, EqH.rf⟩⟩
    · rw [nIe (by omega) (by decide)] at e0 e1 e2 e3
      have : w = 4 := by omega
      subst this; exact ⟨hv, px rfl ⟨h, EqH.rf⟩⟩
  · unfold sOf; rw [ifT hb, ifF hb2]; exact PX.on (kX4_bad h hok)
theorem mOf (x y : Int32) {μ : Mm} {s : Ln} {n : Nat} (h : RM μ s) (hok : OKs n s) (hn : n ≤ 600) : Con mX5_of [.ref 66, .int x, .int y] μ (PM (sOf x y s) μ) := by
  obtain ⟨hOK, h5, hph⟩ := hok.1.ok hn
  refine Con.of pnX5 (Nat.le_of_ble_eq_true rfl) (fun κ => wX5_of_0 x y μ ?_)
  rw [fwL y (by decide) (by decide), cl (n := 4) (by decide), cl (n := 5) (by decide), h.1 0 (by decide), h.1 4 (by decide), h.1 5 (by decide), nI_add]
  refine ⟨fun hb => ?_, fun hb => ⟨fun hb2 => ?_, fun hb2 => ?_⟩⟩
  · unfold sOf; rw [ifF hb]; exact PM.on (kX5_badR (-2) h)
  · unfold sOf; rw [ifT hb, ifT hb2]
    obtain ⟨i, hi, rfl⟩ := fh_of hOK.1 hb
    obtain ⟨w, hw, rfl⟩ := fw_of (by decide) hb2
    have h0 := hOK.1
    have hsi := hOK.2.2.2.1 i (by omega)
    have h4 := hOK.2.1
    rw [nI_add, nI_add, nI_add, cl (n := 7 + i) (by omega), cl (n := 34 + i) (by omega), cl (n := 41 + i) (by omega), cl (n := i) (by omega), cl (n := w) (by omega), h.1 _ (by omega), h.1 _ (by omega), h.1 _ (by omega), fgrowM_N (by omega) (by omega) (by omega), ffall_N (by omega) (by omega) (by omega)]
    refine ⟨vin (by omega) (by decide), fun e => ?_, fun e0 => ⟨fun e => ?_, fun e1 => ⟨fun e => ?_, fun e2 => ⟨fun e => ?_, fun e3 => ?_⟩⟩⟩⟩
    · rw [nIe (by omega) (by decide)] at e; subst e; exact ⟨vin (by omega) (by decide), pm rfl ⟨h, EqG.rf⟩⟩
    · rw [nIe (by omega) (by decide)] at e; subst e; exact ⟨vin (by omega) (by decide), pm rfl ⟨h, EqG.rf⟩⟩
    · rw [nIe (by omega) (by decide)] at e; subst e; exact pm rfl ⟨h, EqG.rf⟩
    · rw [nIe (by omega) (by decide)] at e; subst e; exact ⟨vin (by omega) (by decide), pm rfl ⟨h, EqG.rf⟩⟩
    · rw [nIe (by omega) (by decide)] at e0 e1 e2 e3
      have : w = 4 := by omega
      subst this; exact pm rfl ⟨h, EqG.rf⟩
  · unfold sOf; rw [ifT hb, ifF hb2]; exact PM.on (kX5_badR (-2) h)
-- high
abbrev q7 : Nat → Ln → Nat := fun _ _ => 7
def sHigh (x y : Int32) (s : Ln) : Int32 × Ln := if fwith x (nI 0) (nI (s 0) - nI 1) = true then (if fwith y (nI 0) (nI 30) = true then (nI (runL q7 y.toNatClampNeg 0 s (7 + x.toNatClampNeg)), s) else (-2, rfs s 0)) else (-2, rfs s 0)
theorem oHigh (x y : Int32) {s : Ln} {n : Nat} (h : OKs n s) : OKs (n + 1) (sHigh x y s).2 := oIf h (oIf h (oSame h))
theorem xHigh (x y : Int32) {μ : Mm} {s : Ln} {n : Nat} (h : RX μ s) (hok : OKs n s) (hn : n ≤ 600) : Con mX4_high [.ref 0, .int x, .int y] μ (PX (sHigh x y s) μ) := by
  obtain ⟨hOK, h5, hph⟩ := hok.1.ok hn
  have a2' : μ.1 4 1 = nI (s 0) := h.1.1.1.2.1
  refine Con.of pnX4 (Nat.le_of_ble_eq_true rfl) (fun κ => wX4_high_0 x y μ ?_)
  rw [a2']
  refine ⟨fun hb => ?_, fun hb => ⟨fun hb2 => ?_, fun hb2 => ?_⟩⟩
  · unfold sHigh; rw [ifF hb]; exact PX.on (kX4_bad h hok)
  · unfold sHigh; rw [ifT hb, ifT hb2]
    obtain ⟨i, hi, rfl⟩ := fh_of hOK.1 hb
    obtain ⟨m, hm, rfl⟩ := fw_of (by decide) hb2
    have h0 := hOK.1
    rw [cl (n := i) (by omega), cl (n := m) (by omega)]
    refine (kStart h hok Eqx.rf).mono ?_
    rintro r μ1 ⟨k, rfl, hk, rfl, hT⟩
    refine ⟨34, rfl, hk, (kX0_passAlone 34 m μ1 hk hOK (by omega) hT.1).mono ?_⟩
    rintro r μ2 ⟨rfl, hL, hE⟩
    have hr := run_ok q7 m 0 s hOK (by omega)
    exact ⟨_, rfl, vin (by omega) (by decide), px (hL.2.2.2.1 i (by rw [hr.2.1]; exact hi)).2.2 ((hT.st hL hE).rx h hok)⟩
  · unfold sHigh; rw [ifT hb, ifF hb2]; exact PX.on (kX4_bad h hok)
theorem mHigh (x y : Int32) {μ : Mm} {s : Ln} {n : Nat} (h : RM μ s) (hok : OKs n s) (hn : n ≤ 600) : Con mX5_high [.ref 66, .int x, .int y] μ (PM (sHigh x y s) μ) := by
  obtain ⟨hOK, h5, hph⟩ := hok.1.ok hn
  refine Con.of pnX5 (Nat.le_of_ble_eq_true rfl) (fun κ => wX5_high_0 x y μ ?_)
  rw [fwL y (by decide) (by decide), h.1 0 (by decide)]
  refine ⟨fun hb => ?_, fun hb => ⟨fun hb2 => ?_, fun hb2 => ?_⟩⟩
  · unfold sHigh; rw [ifF hb]; exact PM.on (kX5_badR (-2) h)
  · unfold sHigh; rw [ifT hb, ifT hb2]
    obtain ⟨i, hi, rfl⟩ := fh_of hOK.1 hb
    obtain ⟨m, hm, rfl⟩ := fw_of (by decide) hb2
    have h0 := hOK.1
    rw [nI_add, cl (n := 7 + i) (by omega), cl (n := i) (by omega), cl (n := m) (by omega)]
    refine (kLay h.1).mono ?_
    rintro r μ1 ⟨rfl, hL1, hT⟩
    refine ⟨rfl, (kX5_goQuiet m μ1 hOK (by omega) hL1).mono ?_⟩
    rintro r μ2 ⟨rfl, hL, hE⟩
    exact ⟨_, rfl, vin (by omega) (by decide), pm (hL _ (by omega)) ((hT.tr (TM.ofM hE)).rm h hok)⟩
  · unfold sHigh; rw [ifT hb, ifF hb2]; exact PM.on (kX5_badR (-2) h)
-- lost
def sLost (x : Int32) (s : Ln) : Int32 × Ln := if fwith x (nI 0) (nI 30) = true then (nI (runN q7 x.toNatClampNeg 0 s), s) else (-2, rfs s 0)
theorem oLost (x : Int32) {s : Ln} {n : Nat} (h : OKs n s) : OKs (n + 1) (sLost x s).2 := oIf h (oSame h)
theorem xLost (x : Int32) {μ : Mm} {s : Ln} {n : Nat} (h : RX μ s) (hok : OKs n s) (hn : n ≤ 600) : Con mX4_lost [.ref 0, .int x] μ (PX (sLost x s) μ) := by
  obtain ⟨hOK, h5, hph⟩ := hok.1.ok hn
  refine Con.of pnX4 (Nat.le_of_ble_eq_true rfl) (fun κ => wX4_lost_0 x μ ⟨fun hb => ?_, fun hb => ?_⟩)
  · unfold sLost; rw [ifT hb]
    obtain ⟨m, hm, rfl⟩ := fw_of (by decide) hb
    rw [cl (n := m) (by omega)]
    refine (kStart h hok Eqx.rf).mono ?_
    rintro r μ1 ⟨k, rfl, hk, rfl, hT⟩
    refine ⟨34, rfl, hk, (kX0_passAlone 34 m μ1 hk hOK (by omega) hT.1).mono ?_⟩
    rintro r μ2 ⟨rfl, hL, hE⟩
    exact ⟨_, rfl, px rfl ((hT.st hL hE).rx h hok)⟩
  · unfold sLost; rw [ifF hb]; exact PX.on (kX4_bad h hok)
theorem mLost (x : Int32) {μ : Mm} {s : Ln} {n : Nat} (h : RM μ s) (hok : OKs n s) (hn : n ≤ 600) : Con mX5_lost [.ref 66, .int x] μ (PM (sLost x s) μ) := by
  obtain ⟨hOK, h5, hph⟩ := hok.1.ok hn
  refine Con.of pnX5 (Nat.le_of_ble_eq_true rfl) (fun κ => wX5_lost_0 x μ ?_)
  rw [fwL x (by decide) (by decide)]
  refine ⟨fun hb => ?_, fun hb => ?_⟩
  · unfold sLost; rw [ifT hb]
    obtain ⟨m, hm, rfl⟩ := fw_of (by decide) hb
    rw [cl (n := m) (by omega)]
    refine (kLay h.1).mono ?_
    rintro r μ1 ⟨rfl, hL1, hT⟩
    refine ⟨rfl, (kX5_goQuiet m μ1 hOK (by omega) hL1).mono ?_⟩
    rintro r μ2 ⟨rfl, hL, hE⟩
    exact ⟨_, rfl, pm rfl ((hT.tr (TM.ofM hE)).rm h hok)⟩
  · unfold sLost; rw [ifF hb]; exact PM.on (kX5_badR (-2) h)
-- goes
def goN (i : Nat) : Nat → Nat → Ln → Option Nat
  | 0, _, _ => none
  | n + 1, m, u => if fbit (pasO u 7) (nI i) = true then some m else goN i n (m + 1) (pasL u 7)
def sGoes (x : Int32) (s : Ln) : Int32 × Ln := if fwith x (nI 0) (nI (s 0) - nI 1) = true then (resO (goN x.toNatClampNeg 60 1 s), s) else (-2, rfs s 0)
theorem oGoes (x : Int32) {s : Ln} {n : Nat} (h : OKs n s) : OKs (n + 1) (sGoes x s).2 := oIf h (oSame h)
theorem xGoes (x : Int32) {μ : Mm} {s : Ln} {n : Nat} (h : RX μ s) (hok : OKs n s) (hn : n ≤ 600) : Con mX4_goes [.ref 0, .int x] μ (PX (sGoes x s) μ) := by
  obtain ⟨hOK, h5, hph⟩ := hok.1.ok hn
  have a2' : μ.1 4 1 = nI (s 0) := h.1.1.1.2.1
  refine Con.of pnX4 (Nat.le_of_ble_eq_true rfl) (fun κ => wX4_goes_0 x μ ?_)
  rw [a2']
  refine ⟨fun hb => ?_, fun hb => ?_⟩
  · unfold sGoes; rw [ifT hb]
    obtain ⟨i, hi, rfl⟩ := fh_of hOK.1 hb
    have h0 := hOK.1
    rw [cl (n := i) (by omega)]
    refine (kStart h hok Eqx.rf).mono ?_
    rintro r μ1 ⟨k, rfl, hk, rfl, hT⟩
    refine ⟨34, rfl, hk, ?_⟩
    have loop : ∀ N m (w : Ln) (μ2 : Mm), m + N = 61 → OKL w → w 5 + N ≤ 999999 → goN i N m w = goN i 60 1 s → TX μ μ2 w → Vq κ (PX (resO (goN i 60 1 s), s) μ) mX4_goes 38 [(0, .ref 0), (1, .int (nI i)), (2, .ref 34), (3, .int (nI m))] [] μ2 := by
      intro N
      induction N with
      | zero =>
        intro m w μ2 hm hw hw5 hg hT2
        refine wX4_goes_38 _ 34 _ μ2 isL_34 ⟨fun _ => px (by rw [← hg]; rfl) (hT2.rx h hok), fun z => absurd ((nIlt (by decide) (by omega)).mpr (by omega)) z⟩
      | succ N ih =>
        intro m w μ2 hm hw hw5 hg hT2
        refine wX4_goes_38 _ 34 _ μ2 isL_34 ⟨fun z => ?_, fun _ => ?_⟩
        · rw [nIlt (by decide) (by omega)] at z; omega
        · refine (kX0_pass 34 7 μ2 isL_34 hw (by omega) (by decide) hT2.1).mono ?_
          rintro r μ3 ⟨rfl, hL3, h83, -, hE3⟩
          have hg' : (if fbit (pasO w 7) (nI i) = true then some m else goN i N (m + 1) (pasL w 7)) = goN i 60 1 s := hg
          refine ⟨_, rfl, fun hf => ?_, fun hf => ?_⟩
          · rw [h83] at hf
            rw [if_neg (show ¬ fbit (pasO w 7) (nI i) = true by rw [show fbit (pasO w 7) (nI i) = false from hf]; decide)] at hg'
            rw [nI_add]
            exact ih (m + 1) (pasL w 7) μ3 (by omega) (pass_ok hw (by omega) 7) (by rw [pass_5 hw.1]; omega) hg' (hT2.st hL3 hE3)
          · rw [h83] at hf
            rw [if_pos (show fbit (pasO w 7) (nI i) = true from hf)] at hg'
            exact px (by rw [← hg']; rfl) ((hT2.st hL3 hE3).rx h hok)
    exact loop 60 1 s μ1 rfl hOK (by omega) rfl hT
  · unfold sGoes; rw [ifF hb]; exact PX.on (kX4_bad h hok)
theorem mGoes (x : Int32) {μ : Mm} {s : Ln} {n : Nat} (h : RM μ s) (hok : OKs n s) (hn : n ≤ 600) : Con mX5_goes [.ref 66, .int x] μ (PM (sGoes x s) μ) := by
  obtain ⟨hOK, h5, hph⟩ := hok.1.ok hn
  refine Con.of pnX5 (Nat.le_of_ble_eq_true rfl) (fun κ => wX5_goes_0 x μ ?_)
  rw [h.1 0 (by decide)]
  refine ⟨fun hb => ?_, fun hb => ?_⟩
  · unfold sGoes; rw [ifT hb]
    obtain ⟨i, hi, rfl⟩ := fh_of hOK.1 hb
    have h0 := hOK.1
    rw [cl (n := i) (by omega)]
    refine (kLay h.1).mono ?_
    rintro r μ1 ⟨rfl, hL1, hT⟩
    refine ⟨rfl, ?_⟩
    have loop : ∀ N m (w : Ln) (μ2 : Mm), m + N = 61 → OKL w → w 5 + N ≤ 999999 → goN i N m w = goN i 60 1 s → LM μ2 71 w → TM μ μ2 → Vq κ (PM (resO (goN i 60 1 s), s) μ) mX5_goes 21 [(0, .ref 66), (1, .int (nI i)), (2, .int (nI m))] [] μ2 := by
      intro N
      induction N with
      | zero =>
        intro m w μ2 hm hw hw5 hg hL2 hT2
        exact wX5_goes_21 _ _ μ2 ⟨fun _ => pm (by rw [← hg]; rfl) (hT2.rm h hok), fun z => absurd ((nIlt (by decide) (by omega)).mpr (by omega)) z⟩
      | succ N ih =>
        intro m w μ2 hm hw hw5 hg hL2 hT2
        refine wX5_goes_21 _ _ μ2 ⟨fun z => ?_, fun _ => ?_⟩
        · rw [nIlt (by decide) (by omega)] at z; omega
        · refine (kX5_goDay 71 48 7 μ2 Ar_71 hw (by omega) (by decide) hL2).mono ?_
          rintro r μ3 ⟨rfl, hL3, h63, hE3⟩
          have hg' : (if fbit (pasO w 7) (nI i) = true then some m else goN i N (m + 1) (pasL w 7)) = goN i 60 1 s := hg
          refine ⟨_, rfl, fun hf => ?_, fun hf => ?_⟩
          · rw [h63] at hf
            rw [if_neg (show ¬ fbit (pasO w 7) (nI i) = true by rw [show fbit (pasO w 7) (nI i) = false from hf]; decide)] at hg'
            rw [nI_add]
            exact ih (m + 1) (pasL w 7) μ3 (by omega) (pass_ok hw (by omega) 7) (by rw [pass_5 hw.1]; omega) hg' hL3 (hT2.tr (TM.ofM hE3))
          · rw [h63] at hf
            rw [if_pos (show fbit (pasO w 7) (nI i) = true from hf)] at hg'
            exact pm (by rw [← hg']; rfl) ((hT2.tr (TM.ofM hE3)).rm h hok)
    exact loop 60 1 s μ1 rfl hOK (by omega) rfl hL1 hT
  · unfold sGoes; rw [ifF hb]; exact PM.on (kX5_badR (-2) h)
-- chain
def sChain (x : Int32) (s : Ln) : Int32 × Ln := if fwith x (nI 0) (nI (s 0) - nI 1) = true then ((stl (s 0) (up s (7 + x.toNatClampNeg) 60) (nI 0) 0).2.1, s) else (-2, rfs s 0)
theorem oChain (x : Int32) {s : Ln} {n : Nat} (h : OKs n s) : OKs (n + 1) (sChain x s).2 := oIf h (oSame h)
theorem up60 {s : Ln} {i : Nat} (h : OKL s) (hi : i < 7) : OKM 200 (up s (7 + i) 60) := by
  obtain ⟨h0, h4, h5, hs, hv⟩ := h
  refine ⟨by rw [up_ne (by omega)]; exact h0, by rw [up_ne (by omega)]; exact h4, by rw [up_ne (by omega)]; exact h5, fun j hj => ⟨?_, by rw [up_ne (by omega)]; exact (hs j hj).2.1, by rw [up_ne (by omega)]; exact (hs j hj).2.2⟩, fun c hc => by rw [up_ne (by omega)]; exact hv c hc⟩
  unfold up
  have := (hs j hj).1
  split <;> omega
theorem xChain (x : Int32) {μ : Mm} {s : Ln} {n : Nat} (h : RX μ s) (hok : OKs n s) (hn : n ≤ 600) : Con mX4_chain [.ref 0, .int x] μ (PX (sChain x s) μ) := by
  obtain ⟨hOK, h5, hph⟩ := hok.1.ok hn
  have a2' : μ.1 4 1 = nI (s 0) := h.1.1.1.2.1
  refine Con.of pnX4 (Nat.le_of_ble_eq_true rfl) (fun κ => wX4_chain_0 x μ ?_)
  rw [a2']
  refine ⟨fun hb => ?_, fun hb => ?_⟩
  · unfold sChain; rw [ifT hb]
    obtain ⟨i, hi, rfl⟩ := fh_of hOK.1 hb
    have h0 := hOK.1
    rw [cl (n := i) (by omega)]
    refine (kStart h hok Eqx.rf).mono ?_
    rintro r μ1 ⟨k, rfl, hk, rfl, hT⟩
    refine ⟨34, rfl, hk, vin (by omega) (by decide), fun μ4 e4 => ?_⟩
    obtain ⟨b1, b2, b3, b4, b5⟩ := hT.1
    have hL4 : LX μ4 34 (up s (7 + i) 60) := by
      refine ⟨by rw [e4, ms_row (by decide), up_ne (by omega)]; exact b1, by rw [e4, ms_row (by decide), up_ne (by omega)]; exact b2, by rw [e4, ms_row (by decide), up_ne (by omega)]; exact b3, fun j hj => ⟨?_, ?_, ?_⟩, fun c hc => by rw [e4, ms_row (by decide), up_ne (by omega)]; exact b5 c hc⟩
      · rw [up_ne (by omega)] at hj; rw [e4, ms_row (by decide), up_ne (by omega)]; exact (b4 j hj).1
      · rw [up_ne (by omega)] at hj; rw [e4, ms_row (by decide), up_ne (by omega)]; exact (b4 j hj).2.1
      · rw [up_ne (by omega)] at hj
        rw [e4]
        by_cases e : j = i
        · subst e; rw [ms_at, up_at]
        · rw [ms_col e, up_ne (by omega)]; exact (b4 j hj).2.2
    refine (kX0_settle 34 μ4 isL_34 (up60 hOK (by omega)) hL4).mono ?_
    rintro r μ5 ⟨rfl, -, h8, -, hE5⟩
    rw [up_ne (by omega)] at h8 ⊢
    refine ⟨_, rfl, px h8 (h.scr hok (S := [34, 35, 36, 37, 38]) ?_ (by decide))⟩
    refine Eqx.tr ?_ (hE5.mn (by simp))
    rw [e4]; exact hT.2.ms (by simp)
  · unfold sChain; rw [ifF hb]; exact PX.on (kX4_bad h hok)
theorem mChain (x : Int32) {μ : Mm} {s : Ln} {n : Nat} (h : RM μ s) (hok : OKs n s) (hn : n ≤ 600) : Con mX5_chain [.ref 66, .int x] μ (PM (sChain x s) μ) := by
  obtain ⟨hOK, h5, hph⟩ := hok.1.ok hn
  refine Con.of pnX5 (Nat.le_of_ble_eq_true rfl) (fun κ => wX5_chain_0 x μ ?_)
  rw [h.1 0 (by decide)]
  refine ⟨fun hb => ?_, fun hb => ?_⟩
  · unfold sChain; rw [ifT hb]
    obtain ⟨i, hi, rfl⟩ := fh_of hOK.1 hb
    have h0 := hOK.1
    rw [nI_add, cl (n := 7 + i) (by omega), cl (n := i) (by omega)]
    refine (kLay h.1).mono ?_
    rintro r μ1 ⟨rfl, hL1, hT⟩
    refine ⟨rfl, vin (by omega) (by decide), fun μ3 e3 => ?_⟩
    have hL3 : LM μ3 71 (up s (7 + i) 60) := fun j hj => by
      rw [e3]
      by_cases e : j = 7 + i
      · subst e; rw [ms_at, up_at]
      · rw [ms_col e, up_ne e]; exact hL1 j hj
    refine (kX5_goOff 71 48 μ3 Ar_71 (up60 hOK (by omega)) hL3).mono ?_
    rintro r μ4 ⟨rfl, -, h6, hE4⟩
    rw [up_ne (by omega)] at h6 ⊢
    refine ⟨_, rfl, pm h6 (((hT.tr (TM.ofE ?_)).tr (TM.ofM hE4)).rm h hok)⟩
    rw [e3]; exact Eqx.rf.ms (by simp)
  · unfold sChain; rw [ifF hb]; exact PM.on (kX5_badR (-2) h)
