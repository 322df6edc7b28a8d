/-! ===== askFirst, calm, years ===== -/
/-- the first least of the first n, and its value -/
def amin (f : Nat → Nat) : Nat → Option (Nat × Nat)
  | 0 => none
  | n + 1 => match amin f n with
    | none => some (n, f n)
    | some q => if f n < q.2 then some (n, f n) else some q
theorem amin_none {f : Nat → Nat} : ∀ {n : Nat}, amin f n = none ↔ n = 0
  | 0 => ⟨fun _ => rfl, fun _ => rfl⟩
  | n + 1 => by
    unfold amin
    split
    · exact ⟨fun h => (by cases h), fun h => (by omega)⟩
    · split <;> exact ⟨fun h => (by cases h), fun h => (by omega)⟩
theorem amin_le {f : Nat → Nat} {B : Nat} : ∀ {n : Nat} {q : Nat × Nat}, (∀ i, i < n → f i ≤ B) → amin f n = some q → q.2 ≤ B ∧ q.1 < n
  | 0, _, _, h => by cases h
  | n + 1, q, hB, h => by
    unfold amin at h
    split at h
    · cases h; exact ⟨hB n (by omega), by show n < n + 1; omega⟩
    · next p hp =>
      have ih := amin_le (fun i hi => hB i (by omega)) hp
      split at h
      · cases h; exact ⟨hB n (by omega), by show n < n + 1; omega⟩
      · cases h; exact ⟨ih.1, by omega⟩
def amB (q : Option (Nat × Nat)) : Int32 := match q with
  | none => -1
  | some p => nI p.1
def amV (q : Option (Nat × Nat)) : Int32 := match q with
  | none => -1
  | some p => nI p.2
def amW (q : Option (Nat × Nat)) : Int32 := match q with
  | none => nI 1000000
  | some p => nI p.2
def askV (s : Ln) (m i : Nat) : Nat := pasN s i + runN q7 (m - 1) 0 (pasL s i)
def amAns (y : Int32) (q : Option (Nat × Nat)) : Int32 := if y = nI 0 then amB q else amV q
def sAsk (x y : Int32) (s : Ln) : Int32 × Ln := if fwith x (nI 1) (nI 30) = true then (if fwith y (nI 0) (nI 1) = true then (amAns y (amin (askV s x.toNatClampNeg) (s 0)), s) else (-2, rfs s 0)) else (-2, rfs s 0)
theorem oAsk (x y : Int32) {s : Ln} {n : Nat} (h : OKs n s) : OKs (n + 1) (sAsk x y s).2 := oIf h (oIf h (oSame h))
theorem askV_le {s : Ln} {m i : Nat} (h : OKL s) (h5 : s 5 + m ≤ 900000) : askV s m i ≤ 360 := by
  unfold askV
  have h1 := pass_le h i
  have h2 := run_180 q7 (n := m - 1) (i := 0) (pass_ok h (by omega) i) (by rw [pass_5 h.1]; omega)
  omega
/-- a step of the search, by the class's conditions -/
theorem am_step {f : Nat → Nat} {t : Nat} (hf : f t < 2 ^ 31) (hq : ∀ q, amin f t = some q → q.2 < 2 ^ 31 ∧ q.1 < 2 ^ 31) {P : Int32 → Int32 → Prop} (h : P (amB (amin f (t + 1))) (amV (amin f (t + 1)))) : (amB (amin f t) = -1 → P (nI t) (nI (f t))) ∧ (¬ amB (amin f t) = -1 → (amV (amin f t) ≤ nI (f t) → P (amB (amin f t)) (amV (amin f t))) ∧ (¬ amV (amin f t) ≤ nI (f t) → P (nI t) (nI (f t)))) := by
  have e : amin f (t + 1) = match amin f t with
    | none => some (t, f t)
    | some q => if f t < q.2 then some (t, f t) else some q := rfl
  rw [e] at h
  cases hc : amin f t with
  | none =>
    rw [hc] at h
    exact ⟨fun _ => h, fun z => absurd rfl z⟩
  | some q =>
    rw [hc] at h
    obtain ⟨b2, b1⟩ := hq q hc
    refine ⟨fun z => absurd z (nI_m1 b1), fun _ => ⟨fun z => ?_, fun z => ?_⟩⟩
    · have z' : nI q.2 ≤ nI (f t) := z
      rw [nIle b2 hf] at z'
      dsimp only at h
      rw [if_neg (by omega)] at h
      exact h
    · have z' : ¬ nI q.2 ≤ nI (f t) := z
      rw [nIle b2 hf] at z'
      dsimp only at h
      rw [if_pos (by omega)] at h
      exact h
/-- a step of the search, by the reference's conditions -/
theorem am_stepM {f : Nat → Nat} {t : Nat} (hf : f t < 1000000) (hq : ∀ q, amin f t = some q → q.2 < 1000000) {P : Int32 → Int32 → Prop} (h : P (amB (amin f (t + 1))) (amW (amin f (t + 1)))) : (amW (amin f t) ≤ nI (f t) → (amW (amin f t) ≤ nI (f t) → P (amB (amin f t)) (amW (amin f t))) ∧ (¬ amW (amin f t) ≤ nI (f t) → P (amB (amin f t)) (nI (f t)))) ∧ (¬ amW (amin f t) ≤ nI (f t) → (amW (amin f t) ≤ nI (f t) → P (nI t) (amW (amin f t))) ∧ (¬ amW (amin f t) ≤ nI (f t) → P (nI t) (nI (f t)))) := by
  have e : amin f (t + 1) = match amin f t with
    | none => some (t, f t)
    | some q => if f t < q.2 then some (t, f t) else some q := rfl
  rw [e] at h
  cases hc : amin f t with
  | none =>
    rw [hc] at h
    have z : ¬ amW none ≤ nI (f t) := by
      show ¬ nI 1000000 ≤ nI (f t)
      rw [nIle (by decide) (by omega)]; omega
    exact ⟨fun y => absurd y z, fun _ => ⟨fun y => absurd y z, fun _ => h⟩⟩
  | some q =>
    rw [hc] at h
    have b2 := hq q hc
    have zz : (amW (some q) ≤ nI (f t)) ↔ q.2 ≤ f t := nIle (by omega) (by omega)
    dsimp only at h
    refine ⟨fun y => ⟨fun _ => ?_, fun z => absurd y z⟩, fun y => ⟨fun z => absurd z y, fun _ => ?_⟩⟩
    · rw [zz] at y
      rw [if_neg (by omega)] at h
      exact h
    · rw [zz] at y
      rw [if_pos (by omega)] at h
      exact h
theorem xAsk (x y : Int32) {μ : Mm} {s : Ln} {n : Nat} (h : RX μ s) (hok : OKs n s) (hn : n ≤ 600) : Con mX4_askFirst [.ref 0, .int x, .int y] μ (PX (sAsk x y s) μ) := by
  obtain ⟨hOK, h5, hph⟩ := hok.1.ok hn
  refine Con.of pnX4 (Nat.le_of_ble_eq_true rfl) (fun κ => wX4_askFirst_0 x y μ ⟨fun hb => ?_, fun hb => ⟨fun hb2 => ?_, fun hb2 => ?_⟩⟩)
  · unfold sAsk; rw [ifF hb]; exact PX.on (kX4_bad h hok)
  · unfold sAsk; rw [ifT hb, ifT hb2]
    obtain ⟨m, hm1, hm, rfl⟩ := fw_of1 (by decide) (by decide) hb
    have h0 := hOK.1
    rw [cl (n := m) (by omega)]
    have hB : ∀ i, i < s 0 → askV s m i ≤ 360 := fun i _ => askV_le hOK (by omega)
    refine cnt_loop (s 0) (fun t μ1 => Vq κ (PX (amAns y (amin (askV s m) (s 0)), s) μ) mX4_askFirst 34 [(0, .ref 0), (1, .int (nI m)), (2, .int y), (3, .int (amB (amin (askV s m) t))), (4, .int (amV (amin (askV s m) t))), (5, .int (nI t))] [] μ1) (fun _ μ1 => RX μ1 s ∧ EqH μ μ1) ?_ ?_ 0 μ (by omega) ⟨h, EqH.rf⟩
    · rintro μ1 ⟨hR, hE⟩
      have a2 : μ1.1 4 1 = nI (s 0) := hR.1.1.1.2.1
      refine wX4_askFirst_34 _ _ _ _ _ μ1 ⟨fun _ => ⟨fun e => px ?_ ⟨hR, hE⟩, fun e => px ?_ ⟨hR, hE⟩⟩, fun z => absurd (by rw [a2]; exact nge (by omega) (Nat.le_refl _)) z⟩
      · unfold amAns; rw [nI_0, if_neg e]
      · unfold amAns; rw [nI_0, if_pos e]
    · rintro t μ1 ht ⟨hR, hE⟩ ih
      have a2 : μ1.1 4 1 = nI (s 0) := hR.1.1.1.2.1
      refine wX4_askFirst_34 _ _ _ _ _ μ1 ⟨fun z => absurd z (by rw [a2]; exact nnge (by omega) ht), fun _ => ?_⟩
      refine (kStart hR hok Eqx.rf).mono ?_
      rintro r μ2 ⟨k, rfl, hk, rfl, hT⟩
      refine ⟨34, rfl, hk, (kX0_pass 34 t μ2 hk hOK (by omega) (by omega) hT.1).mono ?_⟩
      rintro r μ3 ⟨rfl, hL3, -, -, hE3⟩
      refine ⟨_, rfl, ?_⟩
      have hw := pass_ok hOK (by omega) t
      rw [pk_sub (by omega)]
      refine (kX0_passAlone 34 (m - 1) μ3 hk hw (by rw [pass_5 hOK.1]; omega) hL3).mono ?_
      rintro r μ4 ⟨rfl, hL4, hE4⟩
      obtain ⟨hR4, hE4'⟩ := ((hT.st hL3 hE3).st hL4 hE4).rx hR hok
      refine ⟨_, rfl, ?_⟩
      rw [nI_add, nI_add]
      exact am_step (f := askV s m) (t := t) (by have := hB t ht; omega) (fun q hq => by have := amin_le (fun i hi => hB i (by omega)) hq; omega) (P := fun b v => Vq κ (PX (amAns y (amin (askV s m) (s 0)), s) μ) mX4_askFirst 34 [(0, .ref 0), (1, .int (nI m)), (2, .int y), (3, .int b), (4, .int v), (5, .int (nI (t + 1)))] [] μ4) (ih μ4 ⟨hR4, fun a ha => ⟨(hE4' a ha).1.trans (hE a ha).1, (hE4' a ha).2.trans (hE a ha).2⟩⟩)
  · unfold sAsk; rw [ifT hb, ifF hb2]; exact PX.on (kX4_bad h hok)
theorem TM.lay {μ0 μ1 : Mm} {s : Ln} (h : RMa μ0 s) (ht : TM μ0 μ1) : Con mX5_layHand [.ref 66] μ1 (fun r μ' => r = none ∧ LM μ' 71 s ∧ TM μ0 μ') := (kLay (ht.rma h)).mono (by rintro r μ' ⟨rfl, g, hE⟩; exact ⟨rfl, g, ht.tr hE⟩)
theorem mAsk (x y : Int32) {μ : Mm} {s : Ln} {n : Nat} (h : RM μ s) (hok : OKs n s) (hn : n ≤ 600) : Con mX5_askFirst [.ref 66, .int x, .int y] μ (PM (sAsk x y s) μ) := by
  obtain ⟨hOK, h5, hph⟩ := hok.1.ok hn
  refine Con.of pnX5 (Nat.le_of_ble_eq_true rfl) (fun κ => wX5_askFirst_0 x y μ ?_)
  rw [fwL x (by decide) (by decide), fwL y (by decide) (by decide)]
  refine ⟨fun hb => ?_, fun hb => ⟨fun hb2 => ?_, fun hb2 => ?_⟩⟩
  · unfold sAsk; rw [ifF hb]; exact PM.on (kX5_badR (-2) h)
  · unfold sAsk; rw [ifT hb, ifT hb2]
    obtain ⟨m, hm1, hm, rfl⟩ := fw_of1 (by decide) (by decide) hb
    have h0 := hOK.1
    rw [cl (n := m) (by omega)]
    have hB : ∀ i, i < s 0 → askV s m i ≤ 360 := fun i _ => askV_le hOK (by omega)
    refine cnt_loop (s 0) (fun t μ1 => Vq κ (PM (amAns y (amin (askV s m) (s 0)), s) μ) mX5_askFirst 38 [(0, .ref 66), (1, .int (nI m)), (2, .int y), (3, .int (amB (amin (askV s m) t))), (4, .int (amW (amin (askV s m) t))), (5, .int (nI t))] [] μ1) (fun _ μ1 => TM μ μ1) ?_ ?_ 0 μ (by omega) TM.rf
    · rintro μ1 hT
      have a2 : μ1.1 67 0 = nI (s 0) := hT.rma h.1 0 (by decide)
      refine wX5_askFirst_38 _ _ _ _ _ μ1 ⟨fun _ => ?_, fun z => absurd (by rw [a2]; exact nge (by omega) (Nat.le_refl _)) z⟩
      have fin1 := hT.rm h hok
      cases hc : amin (askV s m) (s 0) with
      | none =>
        refine ⟨fun _ => pm ?_ fin1, fun z => absurd rfl z⟩
        unfold amAns; split <;> rfl
      | some q =>
        have hq := amin_le hB hc
        refine ⟨fun z => absurd z (nI_m1 (by omega)), fun _ => ⟨fun e => pm ?_ fin1, fun e => pm ?_ fin1⟩⟩
        · unfold amAns; rw [nI_0, if_neg e]; rfl
        · unfold amAns; rw [nI_0, if_pos e]
    · rintro t μ1 ht hT ih
      have a2 : μ1.1 67 0 = nI (s 0) := hT.rma h.1 0 (by decide)
      refine wX5_askFirst_38 _ _ _ _ _ μ1 ⟨fun z => absurd z (by rw [a2]; exact nnge (by omega) ht), fun _ => ?_⟩
      refine (hT.lay h.1).mono ?_
      rintro r μ2 ⟨rfl, hL2, hT2⟩
      refine ⟨rfl, (kX5_goDay 71 48 t μ2 Ar_71 hOK (by omega) (by omega) hL2).mono ?_⟩
      rintro r μ3 ⟨rfl, hL3, -, hE3⟩
      refine ⟨_, rfl, ?_⟩
      have hw := pass_ok hOK (by omega) t
      rw [pk_sub (by omega)]
      refine (kX5_goQuiet (m - 1) μ3 hw (by rw [pass_5 hOK.1]; omega) hL3).mono ?_
      rintro r μ4 ⟨rfl, hL4, hE4⟩
      refine ⟨_, rfl, ?_⟩
      rw [nI_add, nI_add]
      exact am_stepM (f := askV s m) (t := t) (by have := hB t ht; omega) (fun q hq => by have := amin_le (fun i hi => hB i (by omega)) hq; omega) (P := fun b v => Vq κ (PM (amAns y (amin (askV s m) (s 0)), s) μ) mX5_askFirst 38 [(0, .ref 66), (1, .int (nI m)), (2, .int y), (3, .int b), (4, .int v), (5, .int (nI (t + 1)))] [] μ4) (ih μ4 ((hT2.tr (TM.ofM hE3)).tr (TM.ofM hE4)))
  · unfold sAsk; rw [ifT hb, ifF hb2]; exact PM.on (kX5_badR (-2) h)
-- calm
abbrev qT : Nat → Ln → Nat := fun _ w => tall w
def calV (s : Ln) (m i : Nat) : Nat := runN qT m 0 (up s 4 i)
def sCalm (x y : Int32) (s : Ln) : Int32 × Ln := if fwith x (nI 1) (nI 30) = true then (if fwith y (nI 0) (nI 1) = true then (amAns y (amin (calV s x.toNatClampNeg) 6), s) else (-2, rfs s 0)) else (-2, rfs s 0)
theorem oCalm (x y : Int32) {s : Ln} {n : Nat} (h : OKs n s) : OKs (n + 1) (sCalm x y s).2 := oIf h (oIf h (oSame h))
theorem up4 {s : Ln} {i : Nat} (h : OKL s) (hi : i < 6) : OKL (up s 4 i) := by
  obtain ⟨h0, h4, h5, hs, hv⟩ := h
  exact ⟨by rw [up_ne (by omega)]; exact h0, by rw [up_at]; exact hi, by rw [up_ne (by omega)]; exact h5, fun j hj => ⟨by rw [up_ne (by omega)]; exact (hs j hj).1, by rw [up_ne (by omega)]; exact (hs j hj).2.1, by rw [up_ne (by omega)]; exact (hs j hj).2.2⟩, fun c hc => by rw [up_ne (by omega)]; exact hv c hc⟩
theorem calV_le {s : Ln} {m i : Nat} (h : OKL s) (hi : i < 6) (h5 : s 5 + m ≤ 900000) : calV s m i ≤ 360 := by
  have h2 := run_180 qT (n := m) (i := 0) (up4 h hi) (by rw [up_ne (by omega)]; omega)
  unfold calV; omega
theorem xCalm (x y : Int32) {μ : Mm} {s : Ln} {n : Nat} (h : RX μ s) (hok : OKs n s) (hn : n ≤ 600) : Con mX4_calm [.ref 0, .int x, .int y] μ (PX (sCalm x y s) μ) := by
  obtain ⟨hOK, h5, hph⟩ := hok.1.ok hn
  refine Con.of pnX4 (Nat.le_of_ble_eq_true rfl) (fun κ => wX4_calm_0 x y μ ⟨fun hb => ?_, fun hb => ⟨fun hb2 => ?_, fun hb2 => ?_⟩⟩)
  · unfold sCalm; rw [ifF hb]; exact PX.on (kX4_bad h hok)
  · unfold sCalm; rw [ifT hb, ifT hb2]
    obtain ⟨m, hm1, hm, rfl⟩ := fw_of1 (by decide) (by decide) hb
    have h0 := hOK.1
    rw [cl (n := m) (by omega)]
    have hB : ∀ i, i < 6 → calV s m i ≤ 360 := fun i hi => calV_le hOK hi (by omega)
    refine cnt_loop 6 (fun t μ1 => Vq κ (PX (amAns y (amin (calV s m) 6), s) μ) mX4_calm 34 [(0, .ref 0), (1, .int (nI m)), (2, .int y), (3, .int (amB (amin (calV s m) t))), (4, .int (amV (amin (calV s m) t))), (5, .int (nI t))] [] μ1) (fun _ μ1 => RX μ1 s ∧ EqH μ μ1) ?_ ?_ 0 μ (by omega) ⟨h, EqH.rf⟩
    · rintro μ1 ⟨hR, hE⟩
      refine wX4_calm_34 _ _ _ _ _ μ1 ⟨fun _ => ⟨fun e => px ?_ ⟨hR, hE⟩, fun e => px ?_ ⟨hR, hE⟩⟩, fun z => absurd (nge (by decide) (by decide)) z⟩
      · unfold amAns; rw [nI_0, if_neg e]
      · unfold amAns; rw [nI_0, if_pos e]
    · rintro t μ1 ht ⟨hR, hE⟩ ih
      refine wX4_calm_34 _ _ _ _ _ μ1 ⟨fun z => absurd z (nnge (by decide) ht), fun _ => ?_⟩
      refine (kStart hR hok Eqx.rf).mono ?_
      rintro r μ2 ⟨k, rfl, hk, rfl, hT⟩
      refine ⟨34, rfl, hk, fun μ3 e3 => ?_⟩
      obtain ⟨b1, b2, b3, b4, b5⟩ := hT.1
      have hL3 : LX μ3 34 (up s 4 t) := by
        refine ⟨by rw [e3, ms_at, up_at], by rw [e3, ms_col (by decide), up_ne (by omega)]; exact b2, by rw [e3, ms_col (by decide), up_ne (by omega)]; exact b3, fun j hj => ?_, fun c hc => by rw [e3, ms_row (by decide), up_ne (by omega)]; exact b5 c hc⟩
        rw [up_ne (by omega)] at hj
        rw [e3, ms_row (by decide), ms_row (by decide), ms_row (by decide), up_ne (by omega), up_ne (by omega), up_ne (by omega)]
        exact b4 j hj
      refine (kX0_passWithTallest 34 m μ3 hk (up4 hOK ht) (by rw [up_ne (by omega)]; omega) hL3).mono ?_
      rintro r μ4 ⟨rfl, hL4, hE4⟩
      have hE3 : Eqx [34, 35, 36, 37, 38] μ1 μ3 := by rw [e3]; exact hT.2.ms (by simp)
      obtain ⟨hR4, hE4'⟩ := hR.scr hok (hE3.tr (hE4.mn (by simp))) (by decide)
      refine ⟨_, rfl, ?_⟩
      rw [nI_add]
      exact am_step (f := calV s m) (t := t) (by have := hB t ht; omega) (fun q hq => by have := amin_le (fun i hi => hB i (by omega)) hq; omega) (P := fun b v => Vq κ (PX (amAns y (amin (calV s m) 6), s) μ) mX4_calm 34 [(0, .ref 0), (1, .int (nI m)), (2, .int y), (3, .int b), (4, .int v), (5, .int (nI (t + 1)))] [] μ4) (ih μ4 ⟨hR4, fun a ha => ⟨(hE4' a ha).1.trans (hE a ha).1, (hE4' a ha).2.trans (hE a ha).2⟩⟩)
  · unfold sCalm; rw [ifT hb, ifF hb2]; exact PX.on (kX4_bad h hok)
theorem mCalm (x y : Int32) {μ : Mm} {s : Ln} {n : Nat} (h : RM μ s) (hok : OKs n s) (hn : n ≤ 600) : Con mX5_calm [.ref 66, .int x, .int y] μ (PM (sCalm x y s) μ) := by
  obtain ⟨hOK, h5, hph⟩ := hok.1.ok hn
  refine Con.of pnX5 (Nat.le_of_ble_eq_true rfl) (fun κ => wX5_calm_0 x y μ ?_)
  rw [fwL x (by decide) (by decide), fwL y (by decide) (by decide)]
  refine ⟨fun hb => ?_, fun hb => ⟨fun hb2 => ?_, fun hb2 => ?_⟩⟩
  · unfold sCalm; rw [ifF hb]; exact PM.on (kX5_badR (-2) h)
  · unfold sCalm; rw [ifT hb, ifT hb2]
    obtain ⟨m, hm1, hm, rfl⟩ := fw_of1 (by decide) (by decide) hb
    have h0 := hOK.1
    rw [cl (n := m) (by omega)]
    have hB : ∀ i, i < 6 → calV s m i ≤ 360 := fun i hi => calV_le hOK hi (by omega)
    refine cnt_loop 6 (fun t μ1 => Vq κ (PM (amAns y (amin (calV s m) 6), s) μ) mX5_calm 38 [(0, .ref 66), (1, .int (nI m)), (2, .int y), (3, .int (amB (amin (calV s m) t))), (4, .int (amW (amin (calV s m) t))), (5, .int (nI t))] [] μ1) (fun _ μ1 => TM μ μ1) ?_ ?_ 0 μ (by omega) TM.rf
    · rintro μ1 hT
      refine wX5_calm_38 _ _ _ _ _ μ1 ⟨fun _ => ?_, fun z => absurd (nge (by decide) (by decide)) z⟩
      have fin1 := hT.rm h hok
      cases hc : amin (calV s m) 6 with
      | none => exact absurd (amin_none.mp hc) (by decide)
      | some q =>
        refine ⟨fun e => pm ?_ fin1, fun e => pm ?_ fin1⟩
        · unfold amAns; rw [nI_0, if_neg e]; rfl
        · unfold amAns; rw [nI_0, if_pos e]
    · rintro t μ1 ht hT ih
      refine wX5_calm_38 _ _ _ _ _ μ1 ⟨fun z => absurd z (nnge (by decide) ht), fun _ => ?_⟩
      refine (hT.lay h.1).mono ?_
      rintro r μ2 ⟨rfl, hL2, hT2⟩
      refine ⟨rfl, fun μ3 e3 => ?_⟩
      rw [cl (by decide)] at e3
      have hL3 : LM μ3 71 (up s 4 t) := fun j hj => by
        rw [e3]
        by_cases e : j = 4
        · subst e; rw [ms_at, up_at]
        · rw [ms_col e, up_ne e]; exact hL2 j hj
      have hT3 : TM μ μ3 := hT2.tr (TM.ofE (by rw [e3]; exact Eqx.rf.ms (by simp)))
      have hup := up4 hOK ht
      have loop : ∀ N d (w : Ln) (l : Nat) (μ4 : Mm), d + N = m → OKL w → w 5 + N ≤ 999999 → LM μ4 71 w → l + runN qT N d w = calV s m t → TM μ μ4 → Vq κ (PM (amAns y (amin (calV s m) 6), s) μ) mX5_calm 63 [(0, .ref 66), (1, .int (nI m)), (2, .int y), (3, .int (amB (amin (calV s m) t))), (4, .int (amW (amin (calV s m) t))), (5, .int (nI t)), (6, .int (nI l)), (7, .int (nI d))] [] μ4 := by
        intro N
        induction N with
        | zero =>
          intro d w l μ4 hd hw hw5 hL4 hl hT4
          have hl' : l = calV s m t := hl
          subst hl'
          refine wX5_calm_63 _ _ _ _ _ _ _ μ4 ⟨fun _ => ?_, fun z => absurd (nge (by omega) (by omega)) z⟩
          rw [nI_add]
          exact am_stepM (f := calV s m) (t := t) (by have := hB t ht; omega) (fun q hq => by have := amin_le (fun i hi => hB i (by omega)) hq; omega) (P := fun b v => Vq κ (PM (amAns y (amin (calV s m) 6), s) μ) mX5_calm 38 [(0, .ref 66), (1, .int (nI m)), (2, .int y), (3, .int b), (4, .int v), (5, .int (nI (t + 1)))] [] μ4) (ih μ4 hT4)
        | succ N ihN =>
          intro d w l μ4 hd hw hw5 hL4 hl hT4
          have htl : tallA w (w 0) < 2 ^ 31 := by have := tallA_lt w (w 0); have := hw.1; omega
          refine wX5_calm_63 _ _ _ _ _ _ _ μ4 ⟨fun z => absurd z (nnge (by omega) (by omega)), fun _ => ?_⟩
          refine (kX5_highest 71 48 μ4 Ar_71 hw hL4).mono ?_
          rintro r μ5 ⟨rfl, rfl⟩
          refine ⟨_, rfl, (kX5_goDay 71 48 (tall w) μ5 Ar_71 hw (by omega) htl hL4).mono ?_⟩
          rintro r μ6 ⟨rfl, hL6, -, hE6⟩
          refine ⟨_, rfl, ?_⟩
          rw [nI_add, nI_add]
          exact ihN (d + 1) (pasL w (tall w)) (l + pasN w (tall w)) μ6 (by omega) (pass_ok hw (by omega) _) (by rw [pass_5 hw.1]; omega) hL6 (by rw [← hl]; exact Nat.add_assoc _ _ _) (hT4.tr (TM.ofM hE6))
      exact loop m 0 (up s 4 t) 0 μ3 (by omega) hup (by rw [up_ne (by omega)]; omega) hL3 (Nat.zero_add _) hT3
  · unfold sCalm; rw [ifT hb, ifF hb2]; exact PM.on (kX5_badR (-2) h)
-- years
def yst (l : Int64) : Int64 := (l * lN 1103515245 + lN 12345) - (l * lN 1103515245 + lN 12345) / lN 2147483648 * lN 2147483648
def ynm (l : Int64) : Int32 := (yst l / lN 65536 - yst l / lN 65536 / lN 8 * lN 8).toInt32
def yvs (l : Int64) (u : Ln) : Nat := if fwith (ynm l) (nI 0) (nI (u 0) - nI 1) = true then (ynm l).toNatClampNeg else 7
def yrN : Nat → Int64 → Ln → Nat
  | 0, _, _ => 0
  | n + 1, l, u => pasN u (yvs l u) + yrN n (yst l) (pasL u (yvs l u))
def sYears (x y : Int32) (s : Ln) : Int32 × Ln := if fwith x (nI 0) (nI 999999) = true then (if fwith y (nI 0) (nI 60) = true then (nI (yrN y.toNatClampNeg x.toInt64 s), s) else (-2, rfs s 0)) else (-2, rfs s 0)
theorem oYears (x y : Int32) {s : Ln} {n : Nat} (h : OKs n s) : OKs (n + 1) (sYears x y s).2 := oIf h (oIf h (oSame h))
theorem xYears (x y : Int32) {μ : Mm} {s : Ln} {n : Nat} (h : RX μ s) (hok : OKs n s) (hn : n ≤ 600) : Con mX4_years [.ref 0, .int x, .int y] μ (PX (sYears x y s) μ) := by
  obtain ⟨hOK, h5, hph⟩ := hok.1.ok hn
  refine Con.of pnX4 (Nat.le_of_ble_eq_true rfl) (fun κ => wX4_years_0 x y μ ⟨fun hb => ?_, fun hb => ⟨fun hb2 => ?_, fun hb2 => ?_⟩⟩)
  · unfold sYears; rw [ifF hb]; exact PX.on (kX4_bad h hok)
  · unfold sYears; rw [ifT hb, ifT hb2]
    obtain ⟨m, hm, rfl⟩ := fw_of (by decide) hb2
    rw [cl (n := m) (by omega)]
    refine (kStart h hok Eqx.rf).mono ?_
    rintro r μ1 ⟨k, rfl, hk, rfl, hT⟩
    refine ⟨34, rfl, hk, ?_⟩
    have loop : ∀ N d (l : Int64) (g : Nat) (w : Ln) (μ2 : Mm), d + N = m → OKL w → w 5 + N ≤ 999999 → g + yrN N l w = yrN m x.toInt64 s → TX μ μ2 w → Vq κ (PX (nI (yrN m x.toInt64 s), s) μ) mX4_years 52 [(0, .ref 0), (1, .int x), (2, .int (nI m)), (3, .ref 34), (4, .long l), (6, .int (nI g)), (7, .int (nI d))] [] μ2 := by
      intro N
      induction N with
      | zero =>
        intro d l g w μ2 hd hw hw5 hg hT2
        exact wX4_years_52 _ _ 34 _ _ _ μ2 isL_34 ⟨fun _ => px (by rw [← hg]; rfl) (hT2.rx h hok), fun z => absurd (nge (by omega) (by omega)) z⟩
      | succ N ih =>
        intro d l g w μ2 hd hw hw5 hg hT2
        have a2 : μ2.1 34 1 = nI (w 0) := hT2.1.2.1
        have hg' : g + (pasN w (yvs l w) + yrN N (yst l) (pasL w (yvs l w))) = yrN m x.toInt64 s := hg
        have step : ∀ v, v < 2 ^ 31 → v = yvs l w → Con mX0_pass [.ref 34, .int (nI v)] μ2 (fun r μ1 => ∃ x2 : Int32, r = some (.int x2) ∧ Vq κ (PX (nI (yrN m x.toInt64 s), s) μ) mX4_years 52 [(0, .ref 0), (1, .int x), (2, .int (nI m)), (3, .ref 34), (4, .long (yst l)), (6, .int (nI g + x2)), (7, .int (nI d + nI 1))] [] μ1) := by
          intro v hv e
          refine (kX0_pass 34 v μ2 isL_34 hw (by omega) hv hT2.1).mono ?_
          rintro r μ3 ⟨rfl, hL3, -, -, hE3⟩
          refine ⟨_, rfl, ?_⟩
          rw [nI_add, nI_add]
          rw [← e] at hg'
          exact ih (d + 1) (yst l) (g + pasN w v) (pasL w v) μ3 (by omega) (pass_ok hw (by omega) _) (by rw [pass_5 hw.1]; omega) (by rw [← hg']; exact Nat.add_assoc _ _ _) (hT2.st hL3 hE3)
        refine wX4_years_52 _ _ 34 _ _ _ μ2 isL_34 ⟨fun z => absurd z (nnge (by omega) (by omega)), fun _ => ?_⟩
        rw [a2]
        refine ⟨fun hf => ?_, fun hf => ?_⟩
        · refine step 7 (by decide) ?_
          unfold yvs
          rw [ifF (show fwith (ynm l) (nI 0) (nI (w 0) - nI 1) = false from hf)]
        · obtain ⟨j, hj, ej⟩ := fh_of hw.1 hf
          have hj7 := hw.1
          rw [ej]
          refine step j (by omega) ?_
          unfold yvs
          rw [ifT (show fwith (ynm l) (nI 0) (nI (w 0) - nI 1) = true from hf), show ynm l = nI j from ej, cl (by omega)]
    exact loop m 0 x.toInt64 0 s μ1 (by omega) hOK (by omega) (Nat.zero_add _) hT
  · unfold sYears; rw [ifT hb, ifF hb2]; exact PX.on (kX4_bad h hok)
theorem mYears (x y : Int32) {μ : Mm} {s : Ln} {n : Nat} (h : RM μ s) (hok : OKs n s) (hn : n ≤ 600) : Con mX5_years [.ref 66, .int x, .int y] μ (PM (sYears x y s) μ) := by
  obtain ⟨hOK, h5, hph⟩ := hok.1.ok hn
  refine Con.of pnX5 (Nat.le_of_ble_eq_true rfl) (fun κ => wX5_years_0 x y μ ?_)
  rw [fwL x (by decide) (by decide), fwL y (by decide) (by decide)]
  refine ⟨fun hb => ?_, fun hb => ⟨fun hb2 => ?_, fun hb2 => ?_⟩⟩
  · unfold sYears; rw [ifF hb]; exact PM.on (kX5_badR (-2) h)
  · unfold sYears; rw [ifT hb, ifT hb2]
    obtain ⟨m, hm, rfl⟩ := fw_of (by decide) hb2
    rw [cl (n := m) (by omega)]
    refine (kLay h.1).mono ?_
    rintro r μ1 ⟨rfl, hL1, hT⟩
    refine ⟨rfl, ?_⟩
    have loop : ∀ N d (l : Int64) (g : Nat) (w : Ln) (μ2 : Mm), d + N = m → OKL w → w 0 = s 0 → w 5 + N ≤ 999999 → g + yrN N l w = yrN m x.toInt64 s → LM μ2 71 w → TM μ μ2 → Vq κ (PM (nI (yrN m x.toInt64 s), s) μ) mX5_years 44 [(0, .ref 66), (1, .int x), (2, .int (nI m)), (3, .long l), (5, .int (nI g)), (6, .int (nI d))] [] μ2 := by
      intro N
      induction N with
      | zero =>
        intro d l g w μ2 hd hw hw0 hw5 hg hL2 hT2
        exact wX5_years_44 _ _ _ _ _ μ2 ⟨fun _ => pm (by rw [← hg]; rfl) (hT2.rm h hok), fun z => absurd (nge (by omega) (by omega)) z⟩
      | succ N ih =>
        intro d l g w μ2 hd hw hw0 hw5 hg hL2 hT2
        have a2 : μ2.1 67 0 = nI (w 0) := by rw [hw0]; exact hT2.rma h.1 0 (by decide)
        have hg' : g + (pasN w (yvs l w) + yrN N (yst l) (pasL w (yvs l w))) = yrN m x.toInt64 s := hg
        have step : ∀ v, v < 2 ^ 31 → v = yvs l w → Con mX5_goDay [.ref 66, .ref 71, .int (nI v)] μ2 (fun r μ1 => ∃ x2 : Int32, r = some (.int x2) ∧ Vq κ (PM (nI (yrN m x.toInt64 s), s) μ) mX5_years 44 [(0, .ref 66), (1, .int x), (2, .int (nI m)), (3, .long (yst l)), (5, .int (nI g + x2)), (6, .int (nI d + nI 1))] [] μ1) := by
          intro v hv e
          refine (kX5_goDay 71 48 v μ2 Ar_71 hw (by omega) hv hL2).mono ?_
          rintro r μ3 ⟨rfl, hL3, -, hE3⟩
          refine ⟨_, rfl, ?_⟩
          rw [nI_add, nI_add]
          rw [← e] at hg'
          exact ih (d + 1) (yst l) (g + pasN w v) (pasL w v) μ3 (by omega) (pass_ok hw (by omega) _) ((pass_lo hw.1 _ _ (by decide)).trans hw0) (by rw [pass_5 hw.1]; omega) (by rw [← hg']; exact Nat.add_assoc _ _ _) hL3 (hT2.tr (TM.ofM hE3))
        refine wX5_years_44 _ _ _ _ _ μ2 ⟨fun z => absurd z (nnge (by omega) (by omega)), fun _ => ?_⟩
        rw [a2]
        refine ⟨fun hf => ?_, fun hf => ?_⟩
        · refine step 7 (by decide) ?_
          unfold yvs
          rw [ifF (show fwith (ynm l) (nI 0) (nI (w 0) - nI 1) = false from hf)]
        · obtain ⟨j, hj, ej⟩ := fh_of hw.1 hf
          have hj7 := hw.1
          rw [ej]
          refine step j (by omega) ?_
          unfold yvs
          rw [ifT (show fwith (ynm l) (nI 0) (nI (w 0) - nI 1) = true from hf), show ynm l = nI j from ej, cl (by omega)]
    exact loop m 0 x.toInt64 0 s μ1 (by omega) hOK rfl (by omega) (Nat.zero_add _) hL1 hT
  · unfold sYears; rw [ifT hb, ifF hb2]; exact PM.on (kX5_badR (-2) h)
