/-! ===== numbers ===== -/
theorem nI_ite {p q : Prop} [Decidable p] [Decidable q] (h : p ↔ q) {a b : Int32} {x y : Nat} (ha : a = nI x) (hb : b = nI y) : (if p then a else b) = nI (if q then x else y) := by
  by_cases hq : q
  · rw [if_pos hq, if_pos (h.mpr hq)]; exact ha
  · rw [if_neg hq, if_neg (fun z => hq (h.mp z))]; exact hb
theorem nIe {a b : Nat} (ha : a < 2 ^ 31) (hb : b < 2 ^ 31) : nI a = nI b ↔ a = b := nI_eq ha hb
theorem nI0 {a : Nat} (ha : a < 2 ^ 31) : nI a = 0 ↔ a = 0 := by rw [← nI_0]; exact nI_eq ha (by decide)
theorem nIlt {a b : Nat} (ha : a < 2 ^ 31) (hb : b < 2 ^ 31) : nI a < nI b ↔ a < b := nI_ltI ha hb
theorem nIle {a b : Nat} (ha : a < 2 ^ 31) (hb : b < 2 ^ 31) : nI a ≤ nI b ↔ a ≤ b := nI_leI ha hb
theorem nI_m1 {a : Nat} (ha : a < 2 ^ 31) : ¬ nI a = -1 := by
  intro h
  have h2 := congrArg Int32.toInt h
  rw [nI_toInt ha] at h2
  have : (-1 : Int32).toInt = -1 := by decide
  omega
theorem fw_nI {a b c : Nat} (ha : a < 2 ^ 31) (hb : b < 2 ^ 31) (hc : c < 2 ^ 31) : fwith (nI a) (nI b) (nI c) = true ↔ b ≤ a ∧ a ≤ c := by
  rw [fwith_t, nIle hb ha, nIle ha hc]
theorem fw_of {x : Int32} {n : Nat} (hn : n < 2 ^ 31) (h : fwith x (nI 0) (nI n) = true) : ∃ j, j ≤ n ∧ x = nI j := by
  obtain ⟨h1, h2⟩ := fwith_t.mp h
  exact nI_of2 (nI_toInt hn) (by rw [nI_0] at h1; exact i_nlt.mpr h1) h2
theorem fw_of1 {x : Int32} {m n : Nat} (hm : m < 2 ^ 31) (hn : n < 2 ^ 31) (h : fwith x (nI m) (nI n) = true) : ∃ j, m ≤ j ∧ j ≤ n ∧ x = nI j := by
  obtain ⟨h1, h2⟩ := fwith_t.mp h
  have h3 : ¬ x < 0 := by
    rw [Int32.lt_iff_toInt_lt]; rw [Int32.le_iff_toInt_le, nI_toInt hm] at h1
    have : (0 : Int32).toInt = 0 := rfl
    omega
  obtain ⟨j, hj, e⟩ := nI_of2 (nI_toInt hn) h3 h2
  subst e
  exact ⟨j, (nIle hm (by omega)).mp h1, hj, rfl⟩
/-! memory -/
theorem ms_at (μ : Mm) (k i : Nat) (x : Int32) : (mset μ k i x).1 k i = x := by simp [mset]
theorem ms_row {μ : Mm} {k i a : Nat} {x : Int32} (h : a ≠ k) : (mset μ k i x).1 a = μ.1 a := by simp [mset, h]
theorem ms_col {μ : Mm} {k i a b : Nat} {x : Int32} (h : b ≠ i) : (mset μ k i x).1 a b = μ.1 a b := by simp [mset, h]
theorem ms_2 {μ : Mm} {k i : Nat} {x : Int32} : (mset μ k i x).2 = μ.2 := rfl
theorem ms_row_r {μ : Mm} {k i : Nat} {x : Int32} : (mset μ k i x).1 k = upd (μ.1 k) i x := by funext b; simp [mset, upd]
/-- nothing but these cells' numbers has changed -/
def Eqx (S : List Nat) (μ μ' : Mm) : Prop := μ'.2 = μ.2 ∧ ∀ a, a ∉ S → μ'.1 a = μ.1 a
theorem Eqx.rf {S : List Nat} {μ : Mm} : Eqx S μ μ := ⟨rfl, fun _ _ => rfl⟩
theorem Eqx.tr {S : List Nat} {μ μ1 μ2 : Mm} (h : Eqx S μ μ1) (h2 : Eqx S μ1 μ2) : Eqx S μ μ2 := ⟨h2.1.trans h.1, fun a ha => (h2.2 a ha).trans (h.2 a ha)⟩
theorem Eqx.mn {S T : List Nat} {μ μ1 : Mm} (h : Eqx S μ μ1) (hs : ∀ a ∈ S, a ∈ T) : Eqx T μ μ1 := ⟨h.1, fun a ha => h.2 a (fun z => ha (hs a z))⟩
theorem Eqx.ms {S : List Nat} {μ μ1 : Mm} {k i : Nat} {x : Int32} (h : Eqx S μ μ1) (hk : k ∈ S) : Eqx S μ (mset μ1 k i x) := ⟨h.1, fun a ha => (ms_row (fun (e : a = k) => ha (by rw [e]; exact hk))).trans (h.2 a ha)⟩
theorem cl {n : Nat} (h : n < 2 ^ 31) : (nI n).toNatClampNeg = n := nI_clamp h
theorem vin {n N : Nat} (h : n < N) (hN : N < 2 ^ 31) : vp_in (nI n) N := vp_in_nI h hN
/-! ===== growth and fall, by numbers ===== -/
def shN (t : Nat) : Nat := if 3 ≤ t % 7 then 4 else 2
def spN (s : Nat) : Nat := 2 + s / 10
def growN (k s t : Nat) : Nat := if k = 1 then shN t else if k = 2 then spN s else if k = 3 then 2 * shN t else if k = 4 then spN s + 3 else if k = 5 then (if t % 2 = 0 then 2 else 0) else 2
def fallN (k s t : Nat) : Nat := if k = 1 then 4 else if k = 2 then 8 + s / 5 else if k = 3 then 8 + s / 5 + 4 else if k = 4 then (if 40 ≤ s then 0 else 4) else if k = 5 then (if t % 3 = 0 then 16 else 8) else 8
theorem fshade_N {t : Nat} (ht : t < 2 ^ 31) : fshade (nI t) = nI (shN t) := by
  unfold fshade shN
  rw [pk_rem ht (by decide) (by decide)]
  exact nI_ite (nIle (by decide) (by omega)) rfl rfl
theorem fspoon_N {s : Nat} (hs : s < 2 ^ 31) : fspoon (nI s) = nI (spN s) := by
  unfold fspoon spN
  rw [pk_div hs (by decide) (by decide), nI_add]
theorem fgrow_N {k s t : Nat} (hk : k < 2 ^ 31) (hs : s < 2 ^ 31) (ht : t < 2 ^ 31) : fgrow (nI k) (nI s) (nI t) = nI (growN k s t) := by
  unfold fgrow growN
  rw [fshade_N ht, fspoon_N hs, pk_rem ht (by decide) (by decide)]
  refine nI_ite (nIe hk (by decide)) rfl (nI_ite (nIe hk (by decide)) rfl (nI_ite (nIe hk (by decide)) (pk_mul _ _) (nI_ite (nIe hk (by decide)) (nI_add _ _) (nI_ite (nIe hk (by decide)) (nI_ite (nI0 (by omega)) rfl rfl) rfl))))
theorem fgrowM_N {k s t : Nat} (hk : k < 2 ^ 31) (hs : s < 2 ^ 31) (ht : t < 2 ^ 31) : fgrowM (nI k) (nI s) (nI t) = nI (growN k s t) := by
  rw [← fgrow_N hk hs ht]
  unfold fgrowM fgrow
  rw [pk_rem ht (by decide) (by decide)]
  have h : (if nI (t % 2) = nI 1 then nI 0 else nI 2) = (if nI (t % 2) = 0 then nI 2 else nI 0) := by
    rcases (show t % 2 = 0 ∨ t % 2 = 1 by omega) with e | e <;> rw [e] <;> decide
  rw [h]
theorem ffall_N {k s t : Nat} (hk : k < 2 ^ 31) (hs : s < 2 ^ 31) (ht : t < 2 ^ 31) : ffall (nI k) (nI s) (nI t) = nI (fallN k s t) := by
  unfold ffall fallN flamp
  rw [pk_rem ht (by decide) (by decide), pk_div hs (by decide) (by decide), nI_add]
  refine nI_ite (nIe hk (by decide)) rfl (nI_ite (nIe hk (by decide)) rfl (nI_ite (nIe hk (by decide)) (nI_add _ _) (nI_ite (nIe hk (by decide)) (nI_ite (nIle (by decide) hs) rfl rfl) (nI_ite (nIe hk (by decide)) (nI_ite (nI0 (by omega)) rfl rfl) rfl))))
theorem growN_le (k s t : Nat) : growN k s t ≤ s / 10 + 8 := by
  unfold growN shN spN
  repeat' split
  all_goals omega
theorem fallN_le (k s t : Nat) : fallN k s t ≤ s / 5 + 16 := by
  unfold fallN
  repeat' split
  all_goals omega
/-! ===== the land: numbers by places (0 hills, 4 clerk, 5 day, 7.. sizes, 14.. vines, 34.. kinds, 41.. cells) ===== -/
abbrev Ln : Type := Nat → Nat
def nr2 (a b : Nat) : Bool := decide (a ≤ b + 2) && decide (b ≤ a + 2)
def nr3 (a b : Nat) : Bool := decide (a ≤ b + 3) && decide (b ≤ a + 3)
theorem nr2_t {a b : Nat} : nr2 a b = true ↔ a ≤ b + 2 ∧ b ≤ a + 2 := by simp [nr2]
theorem nr3_t {a b : Nat} : nr3 a b = true ↔ a ≤ b + 3 ∧ b ≤ a + 3 := by simp [nr3]
def dayF (u : Ln) (v : Nat) : Ln := fun j => if j = 5 then u 5 + 1 else if 7 ≤ j ∧ j < 7 + u 0 then (if j = 7 + v then u j - fallN (u 4) (u j) (u 5 + 1) else u j + growN (u (j + 27)) (u j) (u 5 + 1)) else u j
/-- the first hill of size 60 or more, from a place on -/
def fstO (u : Ln) : Nat → Nat → Option Nat
  | 0, _ => none
  | n + 1, i => if 60 ≤ u (7 + i) then some i else fstO u n (i + 1)
def ob (o : Int32) (i : Nat) : Int32 := o ||| (nI 1 <<< (nI i &&& 31))
/-- vineyards near a cell, of the first n -/
def vsum (u : Ln) (c : Nat) : Nat → Nat
  | 0 => 0
  | n + 1 => vsum u c n + (if nr2 n c = true then u (14 + n) else 0)
def fireF (u : Ln) (o : Int32) (i : Nat) : Ln := fun j =>
  if 14 ≤ j ∧ j < 34 then (if nr2 (j - 14) (u (41 + i)) = true then 0 else u j)
  else if 7 ≤ j ∧ j < 7 + u 0 then (if j = 7 + i then 0 else if fbit o (nI (j - 7)) = false ∧ nr3 (u (j + 34)) (u (41 + i)) = true then u j + 15 else u j)
  else u j
def stl : Nat → Ln → Int32 → Nat → Ln × Int32 × Nat
  | 0, u, o, l => (u, o, l)
  | n + 1, u, o, l => match fstO u (u 0) 0 with
    | none => (u, o, l)
    | some i => stl n (fireF u (ob o i) i) (ob o i) (l + vsum u (u (41 + i)) 20)
def passR (u : Ln) (v : Nat) : Ln × Int32 × Nat := stl (u 0) (dayF u v) (nI 0) 0
abbrev pasL (u : Ln) (v : Nat) : Ln := (passR u v).1
abbrev pasO (u : Ln) (v : Nat) : Int32 := (passR u v).2.1
abbrev pasN (u : Ln) (v : Nat) : Nat := (passR u v).2.2
/-- what holds of a land in the midst of a day -/
def OKM (B : Nat) (u : Ln) : Prop := u 0 ≤ 7 ∧ u 4 < 6 ∧ u 5 < 1000000 ∧ (∀ i, i < 7 → u (7 + i) < B ∧ u (34 + i) < 6 ∧ u (41 + i) < 20) ∧ ∀ c, c < 20 → u (14 + c) ≤ 9
abbrev OKL (u : Ln) : Prop := OKM 60 u
theorem fstO_some {u : Ln} : ∀ {n i j : Nat}, fstO u n i = some j → i ≤ j ∧ j < i + n ∧ 60 ≤ u (7 + j)
  | 0, _, _, h => by cases h
  | n + 1, i, j, h => by
    unfold fstO at h
    by_cases c : 60 ≤ u (7 + i)
    · rw [if_pos c] at h; cases h; exact ⟨Nat.le_refl _, by omega, c⟩
    · rw [if_neg c] at h
      have := fstO_some h
      omega
theorem fstO_none {u : Ln} : ∀ {n i : Nat}, fstO u n i = none → ∀ j, i ≤ j → j < i + n → u (7 + j) < 60
  | 0, _, _, _, _, _ => by omega
  | n + 1, i, h, j, h1, h2 => by
    unfold fstO at h
    by_cases c : 60 ≤ u (7 + i)
    · rw [if_pos c] at h; cases h
    · rw [if_neg c] at h
      by_cases e : j = i
      · subst e; omega
      · exact fstO_none h j (by omega) (by omega)
theorem fireF_0 (u : Ln) (o : Int32) (i : Nat) : fireF u o i 0 = u 0 := by simp [fireF]
theorem fireF_lo (u : Ln) (o : Int32) (i j : Nat) (h : j < 7) : fireF u o i j = u j := by
  unfold fireF; rw [if_neg (by omega), if_neg (by omega)]
theorem fireF_hi (u : Ln) (o : Int32) (i j : Nat) (hu : u 0 ≤ 7) (h : 34 ≤ j) : fireF u o i j = u j := by
  unfold fireF; rw [if_neg (by omega), if_neg (by omega)]
theorem fireF_v (u : Ln) (o : Int32) (i c : Nat) (h : c < 20) : fireF u o i (14 + c) = if nr2 c (u (41 + i)) = true then 0 else u (14 + c) := by
  unfold fireF; rw [if_pos (by omega)]; simp
theorem fireF_s (u : Ln) (o : Int32) (i j : Nat) (hu : u 0 ≤ 7) (h : j < u 0) : fireF u o i (7 + j) = if j = i then 0 else if fbit o (nI j) = false ∧ nr3 (u (41 + j)) (u (41 + i)) = true then u (7 + j) + 15 else u (7 + j) := by
  unfold fireF
  rw [if_neg (by omega), if_pos (by omega)]
  have e1 : 7 + j - 7 = j := by omega
  have e2 : 7 + j + 34 = 41 + j := by omega
  rw [e1, e2]
  by_cases c : j = i
  · rw [if_pos c, if_pos (by omega)]
  · rw [if_neg c, if_neg (by omega)]
theorem fireF_s2 (u : Ln) (o : Int32) (i j : Nat) (h : u 0 ≤ j) (h2 : j < 7) : fireF u o i (7 + j) = u (7 + j) := by
  unfold fireF; rw [if_neg (by omega), if_neg (by omega)]
theorem fireF_ok {B : Nat} {u : Ln} (h : OKM B u) (o : Int32) (i : Nat) : OKM (B + 15) (fireF u o i) := by
  obtain ⟨h0, h4, h5, hs, hv⟩ := h
  refine ⟨by rw [fireF_0]; exact h0, by rw [fireF_lo _ _ _ _ (by decide)]; exact h4, by rw [fireF_lo _ _ _ _ (by decide)]; exact h5, fun j hj => ⟨?_, ?_, ?_⟩, fun c hc => ?_⟩
  · have := (hs j hj).1
    by_cases c : j < u 0
    · rw [fireF_s _ _ _ _ h0 c]
      repeat' split
      all_goals omega
    · rw [fireF_s2 _ _ _ _ (by omega) hj]; omega
  · rw [fireF_hi _ _ _ _ h0 (by omega)]; exact (hs j hj).2.1
  · rw [fireF_hi _ _ _ _ h0 (by omega)]; exact (hs j hj).2.2
  · rw [fireF_v _ _ _ _ hc]
    have := hv c hc
    split <;> omega
theorem dayF_0 (u : Ln) (v : Nat) : dayF u v 0 = u 0 := by simp [dayF]
theorem dayF_5 (u : Ln) (v : Nat) : dayF u v 5 = u 5 + 1 := by simp [dayF]
theorem dayF_lo (u : Ln) (v j : Nat) (h : j < 7) (h5 : j ≠ 5) : dayF u v j = u j := by
  unfold dayF; rw [if_neg h5, if_neg (by omega)]
theorem dayF_hi (u : Ln) (v j : Nat) (h : 7 + u 0 ≤ j) : dayF u v j = u j := by
  unfold dayF; rw [if_neg (by omega), if_neg (by omega)]
theorem dayF_s (u : Ln) (v j : Nat) (h : j < u 0) : dayF u v (7 + j) = if j = v then u (7 + j) - fallN (u 4) (u (7 + j)) (u 5 + 1) else u (7 + j) + growN (u (34 + j)) (u (7 + j)) (u 5 + 1) := by
  unfold dayF
  rw [if_neg (by omega), if_pos (by omega)]
  have e : 7 + j + 27 = 34 + j := by omega
  rw [e]
  by_cases c : j = v
  · rw [if_pos c, if_pos (by omega)]
  · rw [if_neg c, if_neg (by omega)]
theorem dayF_ok {u : Ln} (h : OKL u) (h5 : u 5 < 999999) (v : Nat) : OKM 80 (dayF u v) := by
  obtain ⟨h0, h4, _, hs, hv⟩ := h
  refine ⟨by rw [dayF_0]; exact h0, by rw [dayF_lo _ _ _ (by decide) (by decide)]; exact h4, by rw [dayF_5]; omega, fun j hj => ⟨?_, ?_, ?_⟩, fun c hc => ?_⟩
  · have := (hs j hj).1
    by_cases c : j < u 0
    · rw [dayF_s _ _ _ c]
      have := growN_le (u (34 + j)) (u (7 + j)) (u 5 + 1)
      split <;> omega
    · rw [dayF_hi _ _ _ (by omega)]; omega
  · rw [dayF_hi _ _ _ (by omega)]; exact (hs j hj).2.1
  · rw [dayF_hi _ _ _ (by omega)]; exact (hs j hj).2.2
  · rw [dayF_hi _ _ _ (by omega)]; exact hv c hc
def bt (x : Int32) (i : Nat) : Bool := x.toBitVec.getLsbD i
theorem b_ext {x y : Int32} (h : ∀ i, i < 32 → bt x i = bt y i) : x = y := Int32.toBitVec_inj.mp (BitVec.eq_of_getLsbD_eq (fun i hi => h i hi))
theorem b_or (x y : Int32) (i : Nat) : bt (x ||| y) i = (bt x i || bt y i) := by unfold bt; rw [Int32.toBitVec_or, BitVec.getLsbD_or]
theorem b_and (x y : Int32) (i : Nat) : bt (x &&& y) i = (bt x i && bt y i) := by unfold bt; rw [Int32.toBitVec_and, BitVec.getLsbD_and]
theorem b_xor (x y : Int32) (i : Nat) : bt (x ^^^ y) i = (bt x i ^^ bt y i) := by unfold bt; rw [Int32.toBitVec_xor, BitVec.getLsbD_xor]
theorem b_big {x : Int32} {i : Nat} (h : 32 ≤ i) : bt x i = false := BitVec.getLsbD_of_ge _ _ h
theorem b_255 (i : Nat) : bt 255 i = decide (i < 8) := by
  rcases Nat.lt_or_ge i 32 with h | h
  · exact (by decide +kernel : ∀ i, i < 32 → bt 255 i = decide (i < 8)) i h
  · rw [b_big h, decide_eq_false (by omega)]
theorem b_65535 (i : Nat) : bt 65535 i = decide (i < 16) := by
  rcases Nat.lt_or_ge i 32 with h | h
  · exact (by decide +kernel : ∀ i, i < 32 → bt 65535 i = decide (i < 16)) i h
  · rw [b_big h, decide_eq_false (by omega)]
theorem b_m1 : ∀ i, i < 32 → bt (-1) i = true := by decide +kernel
theorem b_0 (i : Nat) : bt 0 i = false := BitVec.getLsbD_zero
theorem s_l : ∀ n, n < 32 → ((nI n &&& 31).toBitVec.smod 32).toNat = n := by decide +kernel
theorem s_u : ∀ n, n < 32 → (((nI n).toUInt32 &&& Int32.toUInt32 31).toBitVec % 32).toNat = n := by decide +kernel
theorem b_shl (n : Nat) (hn : n < 32) (x : Int32) {i : Nat} (hi : i < 32) : bt (x <<< (nI n &&& 31)) i = (decide (n ≤ i) && bt x (i - n)) := by
  unfold bt
  rw [Int32.toBitVec_shiftLeft]
  show (x.toBitVec <<< ((nI n &&& 31).toBitVec.smod 32).toNat).getLsbD i = _
  rw [s_l n hn, BitVec.getLsbD_shiftLeft]
  rcases Nat.lt_or_ge i n with h | h
  · simp [h, Nat.not_le.mpr h]
  · simp [hi, h, Nat.not_lt.mpr h]
theorem b_ushr (n : Nat) (hn : n < 32) (x : Int32) (i : Nat) : bt ((x.toUInt32 >>> ((nI n).toUInt32 &&& Int32.toUInt32 31)).toInt32) i = bt x (n + i) := by
  show (x.toUInt32 >>> ((nI n).toUInt32 &&& Int32.toUInt32 31)).toBitVec.getLsbD i = x.toUInt32.toBitVec.getLsbD (n + i)
  rw [UInt32.toBitVec_shiftRight]
  show (x.toUInt32.toBitVec >>> (((nI n).toUInt32 &&& Int32.toUInt32 31).toBitVec % 32).toNat).getLsbD i = _
  rw [s_u n hn, BitVec.getLsbD_ushiftRight]
theorem b_sshr (n : Nat) (hn : n < 32) (x : Int32) {i : Nat} (hi : i < 32) : bt (x >>> (nI n &&& 31)) i = if n + i < 32 then bt x (n + i) else bt x 31 := by
  unfold bt
  rw [Int32.toBitVec_shiftRight]
  show (x.toBitVec.sshiftRight ((nI n &&& 31).toBitVec.smod 32).toNat).getLsbD i = _
  rw [s_l n hn, BitVec.getLsbD_sshiftRight, BitVec.msb_eq_getLsbD_last]
  simp [hi]
theorem bt_1 : ∀ i, i < 32 → bt (nI 1) i = decide (i = 0) := by decide +kernel
theorem fbit_bt (o : Int32) {j : Nat} (hj : j < 31) : fbit o (nI j) = bt o j := by
  have h0 : bt (o >>> (nI j &&& 31)) 0 = bt o j := by rw [b_sshr j (by omega) o (by decide), if_pos (by omega)]; rfl
  unfold fbit
  generalize o >>> (nI j &&& 31) = x at h0
  rw [← h0]
  cases hb : bt x 0 with
  | true =>
    apply decide_eq_true
    apply b_ext
    intro i hi
    rw [b_and, bt_1 i hi]
    by_cases e : i = 0
    · subst e; rw [hb]; rfl
    · rw [decide_eq_false e, Bool.and_false]
  | false =>
    apply decide_eq_false
    intro e
    have h1 := congrArg (fun z => bt z 0) e
    simp only [b_and, hb, Bool.false_and, bt_1 0 (by decide)] at h1
    exact absurd h1 (by decide)
theorem ob_bt (o : Int32) {i j : Nat} (hi : i < 32) (hj : j < 32) : bt (ob o i) j = (bt o j || decide (j = i)) := by
  unfold ob
  rw [b_or, b_shl i hi _ hj]
  congr 1
  by_cases h : i ≤ j
  · rw [decide_eq_true h, bt_1 _ (by omega), Bool.true_and]
    by_cases e : j = i
    · rw [decide_eq_true e, decide_eq_true (by omega)]
    · rw [decide_eq_false e, decide_eq_false (by omega)]
  · rw [decide_eq_false h, decide_eq_false (by omega)]; rfl
def unst (o : Int32) : Nat → Nat
  | 0 => 0
  | n + 1 => unst o n + (if bt o n = false then 1 else 0)
theorem unst_le (o : Int32) : ∀ n, unst o n ≤ n
  | 0 => Nat.le_refl _
  | n + 1 => by
    have := unst_le o n
    unfold unst
    split <;> omega
theorem unst_same {o : Int32} {i : Nat} (hi : i < 32) : ∀ n, n ≤ i → unst (ob o i) n = unst o n
  | 0, _ => rfl
  | n + 1, h => by
    unfold unst
    rw [unst_same hi n (by omega), ob_bt o hi (by omega), decide_eq_false (show ¬ n = i by omega), Bool.or_false]
theorem unst_ob {o : Int32} {i : Nat} (hb : bt o i = false) : ∀ n, n ≤ 32 → i < n → unst (ob o i) n + 1 = unst o n
  | 0, _, h => by omega
  | n + 1, hn, h => by
    unfold unst
    rw [ob_bt o (by omega) (by omega)]
    by_cases e : n = i
    · subst e
      rw [unst_same (by omega) n (Nat.le_refl _), hb, decide_eq_true rfl]
      simp
    · rw [decide_eq_false e, Bool.or_false]
      have := unst_ob hb n (by omega) (by omega)
      omega
theorem unst_all {o : Int32} : ∀ n, unst o n = 0 → ∀ i, i < n → bt o i = true
  | 0, _, _, h => by omega
  | n + 1, h0, i, h => by
    unfold unst at h0
    by_cases e : i = n
    · subst e
      cases hb : bt o i with
      | true => rfl
      | false => rw [hb] at h0; simp at h0
    · exact unst_all n (by omega) i (by omega)
/-- who went off is small -/
def SI (u : Ln) (o : Int32) : Prop := ∀ i, i < u 0 → bt o i = true → u (7 + i) < 60
theorem SI_fire {u : Ln} {o : Int32} (h0 : u 0 ≤ 7) (h : SI u o) (i : Nat) (hi : i < u 0) : SI (fireF u (ob o i) i) (ob o i) := by
  intro j hj hb
  rw [fireF_0] at hj
  rw [fireF_s _ _ _ _ h0 hj]
  by_cases e : j = i
  · rw [if_pos e]; decide
  · rw [if_neg e, if_neg]
    · rw [ob_bt o (by omega) (by omega), decide_eq_false e, Bool.or_false] at hb
      exact h j hj hb
    · rintro ⟨h1, -⟩
      rw [fbit_bt _ (by omega), hb] at h1
      cases h1
theorem stl_done : ∀ (n : Nat) (u : Ln) (o : Int32) (l : Nat), u 0 ≤ 7 → SI u o → unst o (u 0) ≤ n → ∀ j, j < u 0 → (stl n u o l).1 (7 + j) < 60
  | 0, u, o, l, _, hS, hn, j, hj => hS j hj (unst_all (u 0) (by omega) j hj)
  | n + 1, u, o, l, h0, hS, hn, j, hj => by
    unfold stl
    cases hf : fstO u (u 0) 0 with
    | none => exact fstO_none hf j (by omega) (by omega)
    | some i =>
      obtain ⟨-, h2, h3⟩ := fstO_some hf
      have hb : bt o i = false := by
        cases hb : bt o i with
        | false => rfl
        | true => have := hS i (by omega) hb; omega
      have hu := unst_ob hb (u 0) (by omega) (by omega)
      have := stl_done n (fireF u (ob o i) i) (ob o i) (l + vsum u (u (41 + i)) 20) (by rw [fireF_0]; exact h0) (SI_fire h0 hS i (by omega)) (by rw [fireF_0]; omega) j (by rw [fireF_0]; exact hj)
      exact this
theorem stl_keep : ∀ (n : Nat) (u : Ln) (o : Int32) (l j : Nat), u 0 ≤ 7 → (j < 7 ∨ 34 ≤ j ∨ (7 + u 0 ≤ j ∧ j < 14)) → (stl n u o l).1 j = u j
  | 0, _, _, _, _, _, _ => rfl
  | n + 1, u, o, l, j, h0, hj => by
    unfold stl
    cases hf : fstO u (u 0) 0 with
    | none => rfl
    | some i =>
      have h1 := stl_keep n (fireF u (ob o i) i) (ob o i) (l + vsum u (u (41 + i)) 20) j (by rw [fireF_0]; exact h0) (by rw [fireF_0]; exact hj)
      refine Eq.trans h1 ?_
      rcases hj with h | h | h
      · exact fireF_lo _ _ _ _ h
      · exact fireF_hi _ _ _ _ h0 h
      · have := fireF_s2 u (ob o i) i (j - 7) (by omega) (by omega)
        rw [show 7 + (j - 7) = j by omega] at this
        exact this
def vall (u : Ln) : Nat → Nat
  | 0 => 0
  | n + 1 => vall u n + u (14 + n)
theorem vall_fire (u : Ln) (o : Int32) (i : Nat) : ∀ n, n ≤ 20 → vsum u (u (41 + i)) n + vall (fireF u o i) n = vall u n
  | 0, _ => rfl
  | n + 1, h => by
    unfold vsum vall
    rw [fireF_v _ _ _ _ (by omega)]
    have := vall_fire u o i n (by omega)
    split <;> omega
theorem stl_sum : ∀ (n : Nat) (u : Ln) (o : Int32) (l : Nat), (stl n u o l).2.2 + vall (stl n u o l).1 20 = l + vall u 20
  | 0, _, _, _ => rfl
  | n + 1, u, o, l => by
    unfold stl
    cases hf : fstO u (u 0) 0 with
    | none => rfl
    | some i =>
      have h1 := stl_sum n (fireF u (ob o i) i) (ob o i) (l + vsum u (u (41 + i)) 20)
      have h2 := vall_fire u (ob o i) i 20 (Nat.le_refl _)
      show (stl n _ _ _).2.2 + vall (stl n _ _ _).1 20 = _
      omega
theorem stl_ok : ∀ (n : Nat) {B : Nat} {u : Ln} (o : Int32) (l : Nat), OKM B u → OKM (B + 15 * n) (stl n u o l).1
  | 0, _, _, _, _, h => h
  | n + 1, B, u, o, l, h => by
    unfold stl
    cases hf : fstO u (u 0) 0 with
    | none => exact ⟨h.1, h.2.1, h.2.2.1, fun i hi => ⟨by have := (h.2.2.2.1 i hi).1; show u (7 + i) < _; omega, (h.2.2.2.1 i hi).2⟩, h.2.2.2.2⟩
    | some i =>
      have := stl_ok n (ob o i) (l + vsum u (u (41 + i)) 20) (fireF_ok h (ob o i) i)
      rw [show B + 15 + 15 * n = B + 15 * (n + 1) by omega] at this
      exact this
theorem vall_le {u : Ln} (h : ∀ c, c < 20 → u (14 + c) ≤ 9) : ∀ n, n ≤ 20 → vall u n ≤ 9 * n
  | 0, _ => Nat.le_refl _
  | n + 1, hn => by
    unfold vall
    have := vall_le h n (by omega)
    have := h n (by omega)
    omega
theorem bt_00 : ∀ i, bt (nI 0) i = false := fun i => b_0 i
theorem SI_0 (u : Ln) : SI u (nI 0) := fun i _ h => by rw [bt_00] at h; cases h
theorem vall_day (u : Ln) (v : Nat) (hu : u 0 ≤ 7) : ∀ n, vall (dayF u v) n = vall u n
  | 0 => rfl
  | n + 1 => by unfold vall; rw [vall_day u v hu n, dayF_hi _ _ _ (by omega)]
theorem pass_ok {u : Ln} (h : OKL u) (h5 : u 5 < 999999) (v : Nat) : OKL (pasL u v) := by
  have hd := dayF_ok h h5 v
  have h1 := stl_ok (u 0) (nI 0) 0 hd
  refine ⟨h1.1, h1.2.1, h1.2.2.1, fun i hi => ⟨?_, (h1.2.2.2.1 i hi).2⟩, h1.2.2.2.2⟩
  by_cases c : i < u 0
  · exact stl_done (u 0) (dayF u v) (nI 0) 0 (by rw [dayF_0]; exact h.1) (SI_0 _) (by rw [dayF_0]; exact unst_le _ _) i (by rw [dayF_0]; exact c)
  · show (stl _ _ _ _).1 (7 + i) < 60
    rw [stl_keep _ _ _ _ _ (by rw [dayF_0]; exact h.1) (Or.inr (Or.inr (by rw [dayF_0]; omega))), dayF_hi _ _ _ (by omega)]
    exact (h.2.2.2.1 i hi).1
theorem pass_lo {u : Ln} (h : u 0 ≤ 7) (v j : Nat) (hj : j < 5) : pasL u v j = u j := by
  show (stl _ _ _ _).1 j = _
  rw [stl_keep _ _ _ _ _ (by rw [dayF_0]; exact h) (Or.inl (by omega)), dayF_lo _ _ _ (by omega) (by omega)]
theorem pass_5 {u : Ln} (h : u 0 ≤ 7) (v : Nat) : pasL u v 5 = u 5 + 1 := by
  show (stl _ _ _ _).1 5 = _
  rw [stl_keep _ _ _ _ _ (by rw [dayF_0]; exact h) (Or.inl (by omega)), dayF_5]
theorem pass_6 {u : Ln} (h : u 0 ≤ 7) (v : Nat) : pasL u v 6 = u 6 := by
  show (stl _ _ _ _).1 6 = _
  rw [stl_keep _ _ _ _ _ (by rw [dayF_0]; exact h) (Or.inl (by omega)), dayF_lo _ _ _ (by omega) (by omega)]
theorem pass_hi {u : Ln} (h : u 0 ≤ 7) (v j : Nat) (hj : 34 ≤ j) : pasL u v j = u j := by
  show (stl _ _ _ _).1 j = _
  rw [stl_keep _ _ _ _ _ (by rw [dayF_0]; exact h) (Or.inr (Or.inl hj)), dayF_hi _ _ _ (by omega)]
theorem pass_sum {u : Ln} (h : u 0 ≤ 7) (v : Nat) : pasN u v + vall (pasL u v) 20 = vall u 20 := by
  have := stl_sum (u 0) (dayF u v) (nI 0) 0
  rw [vall_day u v h] at this
  show (stl _ _ _ _).2.2 + vall (stl _ _ _ _).1 20 = _
  omega
theorem pass_le {u : Ln} (h : OKL u) (v : Nat) : pasN u v ≤ 180 := by
  have h1 := pass_sum h.1 v
  have h2 := vall_le h.2.2.2.2 20 (Nat.le_refl _)
  omega
