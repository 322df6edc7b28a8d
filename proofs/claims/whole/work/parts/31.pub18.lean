/-! ===== the text's tokens ===== -/
def ru (c : Nat → Bool) (b : Nat → Nat) : Nat → Nat → Nat
  | 0, p => p
  | f + 1, p => if c (b p) = true then ru c b f (p + 1) else p
def RU (c : Nat → Bool) (b : Nat → Nat) (L p : Nat) : Nat := ru c b (L - p) p
theorem RU_end {c : Nat → Bool} {b : Nat → Nat} {L p : Nat} (h : L ≤ p) : RU c b L p = p := by
  unfold RU; rw [show L - p = 0 by omega]; rfl
theorem RU_no {c : Nat → Bool} {b : Nat → Nat} {L p : Nat} (h : c (b p) = false) : RU c b L p = p := by
  unfold RU
  cases L - p with
  | zero => rfl
  | succ f => show (if c (b p) = true then _ else p) = p; rw [h]; rfl
theorem RU_yes {c : Nat → Bool} {b : Nat → Nat} {L p : Nat} (hp : p < L) (h : c (b p) = true) : RU c b L p = RU c b L (p + 1) := by
  unfold RU
  rw [show L - p = (L - (p + 1)) + 1 by omega]
  show (if c (b p) = true then _ else p) = _
  rw [if_pos h]
theorem ru_b {c : Nat → Bool} {b : Nat → Nat} : ∀ (f p : Nat), p ≤ ru c b f p ∧ ru c b f p ≤ p + f ∧ (∀ j, p ≤ j → j < ru c b f p → c (b j) = true) ∧ (ru c b f p < p + f → c (b (ru c b f p)) = false)
  | 0, p => ⟨Nat.le_refl p, Nat.le_refl p, fun j h1 h2 => absurd (show j < p from h2) (by omega), fun h => absurd (show p < p + 0 from h) (by omega)⟩
  | f + 1, p => by
    have ih := ru_b (c := c) (b := b) f (p + 1)
    show p ≤ (if c (b p) = true then ru c b f (p + 1) else p) ∧ (if c (b p) = true then ru c b f (p + 1) else p) ≤ p + (f + 1) ∧ (∀ j, p ≤ j → j < (if c (b p) = true then ru c b f (p + 1) else p) → c (b j) = true) ∧ ((if c (b p) = true then ru c b f (p + 1) else p) < p + (f + 1) → c (b (if c (b p) = true then ru c b f (p + 1) else p)) = false)
    cases e : c (b p) with
    | true =>
      rw [if_pos rfl]
      refine ⟨by omega, by omega, fun j h1 h2 => ?_, fun h => ih.2.2.2 (by omega)⟩
      by_cases ej : j = p
      · rw [ej]; exact e
      · exact ih.2.2.1 j (by omega) h2
    | false =>
      rw [if_neg (by decide)]
      exact ⟨Nat.le_refl p, by omega, fun j h1 h2 => absurd h2 (by omega), fun _ => e⟩
theorem RU_ge {c : Nat → Bool} {b : Nat → Nat} {L p : Nat} : p ≤ RU c b L p := (ru_b _ _).1
theorem RU_le {c : Nat → Bool} {b : Nat → Nat} {L p : Nat} (h : p ≤ L) : RU c b L p ≤ L := by
  have : RU c b L p ≤ p + (L - p) := (ru_b _ _).2.1
  omega
theorem RU_in {c : Nat → Bool} {b : Nat → Nat} {L p j : Nat} (h1 : p ≤ j) (h2 : j < RU c b L p) : c (b j) = true := (ru_b _ _).2.2.1 j h1 h2
theorem RU_st {c : Nat → Bool} {b : Nat → Nat} {L p : Nat} (hp : p ≤ L) (h : RU c b L p < L) : c (b (RU c b L p)) = false := (ru_b _ _).2.2.2 (by show RU c b L p < _; omega)
def isSp (x : Nat) : Bool := decide (x = 32)
def isLt (x : Nat) : Bool := decide (97 ≤ x) && decide (x ≤ 122)
def isFg (x : Nat) : Bool := decide (48 ≤ x) && decide (x ≤ 57)
theorem fwB {a lo hi : Nat} (ha : a < 2 ^ 31) (hl : lo < 2 ^ 31) (hh : hi < 2 ^ 31) : fwith (nI a) (nI lo) (nI hi) = (decide (lo ≤ a) && decide (a ≤ hi)) := by
  rw [Bool.eq_iff_iff, fw_nI ha hl hh, Bool.and_eq_true, decide_eq_true_iff, decide_eq_true_iff]
/-- a text: its bytes and its length -/
abbrev Tx : Type := (Nat → Nat) × Nat
def tS (x : Tx) (p : Nat) : Nat := RU isSp x.1 x.2 p
def tE (x : Tx) (p : Nat) : Nat := if x.2 ≤ tS x p then tS x p else if isLt (x.1 (tS x p)) = true then RU isLt x.1 x.2 (tS x p) else if isFg (x.1 (tS x p)) = true then RU isFg x.1 x.2 (tS x p) else tS x p + 1
def tK (x : Tx) (p : Nat) : Nat := if x.2 ≤ tS x p then 0 else if isLt (x.1 (tS x p)) = true then 1 else if isFg (x.1 (tS x p)) = true then (if tE x p - tS x p ≤ 2 then 2 else 4) else if x.1 (tS x p) = 59 then 3 else 4
def tV (x : Tx) (p : Nat) : Nat := if tE x p - tS x p = 1 then x.1 (tS x p) - 48 else 10 * (x.1 (tS x p) - 48) + (x.1 (tS x p + 1) - 48)
theorem tS_ge {x : Tx} {p : Nat} : p ≤ tS x p := RU_ge
theorem tS_le {x : Tx} {p : Nat} (h : p ≤ x.2) : tS x p ≤ x.2 := RU_le h
theorem tE_ge {x : Tx} {p : Nat} : tS x p ≤ tE x p := by
  unfold tE
  repeat' split
  · exact Nat.le_refl _
  · exact RU_ge
  · exact RU_ge
  · omega
theorem tE_le {x : Tx} {p : Nat} (h : p ≤ x.2) : tE x p ≤ x.2 := by
  have := tS_le h
  unfold tE
  repeat' split
  · omega
  · exact RU_le this
  · exact RU_le this
  · omega
theorem tE_gt {x : Tx} {p : Nat} (h : tK x p ≠ 0) : tS x p < tE x p ∧ tS x p < x.2 := by
  have h1 : tS x p < x.2 := by
    by_cases e : x.2 ≤ tS x p
    · exact absurd (if_pos e) h
    · omega
  refine ⟨?_, h1⟩
  unfold tE
  rw [if_neg (by omega)]
  split
  · rename_i e
    rw [RU_yes h1 e]; exact RU_ge (p := tS x p + 1)
  · split
    · rename_i e
      rw [RU_yes h1 e]; exact RU_ge (p := tS x p + 1)
    · omega
def TL (μ μ' : Mm) : Prop := μ'.2 = μ.2 ∧ (∀ c, c ≠ 66 → μ'.1 c = μ.1 c) ∧ ∀ j, j < 12 → μ'.1 66 j = μ.1 66 j
theorem TL.rf {μ : Mm} : TL μ μ := ⟨rfl, fun _ _ => rfl, fun _ _ => rfl⟩
theorem TL.tr {μ μ1 μ2 : Mm} (h : TL μ μ1) (g : TL μ1 μ2) : TL μ μ2 := ⟨g.1.trans h.1, fun c hc => (g.2.1 c hc).trans (h.2.1 c hc), fun j hj => (g.2.2 j hj).trans (h.2.2 j hj)⟩
theorem TL.ms {μ μ1 : Mm} {i : Nat} {v : Int32} (h : TL μ μ1) (hi : 12 ≤ i) : TL μ (mset μ1 66 i v) := ⟨h.1, fun c hc => (ms_row hc).trans (h.2.1 c hc), fun j hj => by rw [ms_col (by omega)]; exact h.2.2 j hj⟩
def P4 (μ μ1 : Mm) (s l k v : Int32) : Prop := TL μ μ1 ∧ μ1.1 66 12 = s ∧ μ1.1 66 13 = l ∧ μ1.1 66 14 = k ∧ μ1.1 66 15 = v
theorem P4.s12 {μ μ1 : Mm} {s l k v y : Int32} (h : P4 μ μ1 s l k v) : P4 μ (mset μ1 66 12 y) y l k v := ⟨h.1.ms (by decide), ms_at .., by rw [ms_col (by decide)]; exact h.2.2.1, by rw [ms_col (by decide)]; exact h.2.2.2.1, by rw [ms_col (by decide)]; exact h.2.2.2.2⟩
theorem P4.s13 {μ μ1 : Mm} {s l k v y : Int32} (h : P4 μ μ1 s l k v) : P4 μ (mset μ1 66 13 y) s y k v := ⟨h.1.ms (by decide), by rw [ms_col (by decide)]; exact h.2.1, ms_at .., by rw [ms_col (by decide)]; exact h.2.2.2.1, by rw [ms_col (by decide)]; exact h.2.2.2.2⟩
theorem P4.s14 {μ μ1 : Mm} {s l k v y : Int32} (h : P4 μ μ1 s l k v) : P4 μ (mset μ1 66 14 y) s l y v := ⟨h.1.ms (by decide), by rw [ms_col (by decide)]; exact h.2.1, by rw [ms_col (by decide)]; exact h.2.2.1, ms_at .., by rw [ms_col (by decide)]; exact h.2.2.2.2⟩
theorem P4.s15 {μ μ1 : Mm} {s l k v y : Int32} (h : P4 μ μ1 s l k v) : P4 μ (mset μ1 66 15 y) s l k y := ⟨h.1.ms (by decide), by rw [ms_col (by decide)]; exact h.2.1, by rw [ms_col (by decide)]; exact h.2.2.1, by rw [ms_col (by decide)]; exact h.2.2.2.1, ms_at ..⟩
def MT (x : Tx) (μ : Mm) (p : Nat) : Prop := μ.1 66 12 = nI (tS x p) ∧ μ.1 66 13 = nI (tE x p - tS x p) ∧ μ.1 66 14 = nI (tK x p) ∧ (tK x p = 2 → μ.1 66 15 = nI (tV x p))
/-- the reference's text -/
def XM (x : Tx) (μ : Mm) : Prop := x.2 ≤ 150 ∧ μ.1 66 11 = nI x.2 ∧ ∀ j, j < x.2 → μ.1 74 j = nI (x.1 j) ∧ x.1 j < 128
theorem XM.tl {x : Tx} {μ μ1 : Mm} (h : XM x μ) (g : TL μ μ1) : XM x μ1 := ⟨h.1, by rw [g.2.2 11 (by decide)]; exact h.2.1, fun j hj => by rw [g.2.1 74 (by decide)]; exact h.2.2 j hj⟩
/-- the end of a look: the number of figures, the token -/
theorem look_end {κ : Kx} {Q : Option Value → Mm → Prop} {x : Tx} {μ μ1 : Mm} {a1 a2 a3 : Int32} {st l k : Nat} (hx : XM x μ) (hl : 0 < l) (hst : st + l ≤ x.2) (hk : k = 1 ∨ k = 2 ∨ k = 3 ∨ k = 4) (hf : k = 2 → ∀ j, j < l → 48 ≤ x.1 (st + j)) (hP : P4 μ μ1 (nI st) (nI l) (nI k) (nI 0)) (hQ : ∀ μ2, TL μ μ2 → μ2.1 66 12 = nI st → μ2.1 66 13 = nI l → μ2.1 66 14 = nI (if k = 2 then (if l ≤ 2 then 2 else 4) else k) → (k = 2 → μ2.1 66 15 = nI (if l = 1 then x.1 st - 48 else 10 * (x.1 st - 48) + (x.1 (st + 1) - 48))) → Q none μ2) : Vq κ Q mX5_lookAt 218 [(0, .ref 66), (1, .int a1), (2, .int a2), (3, .int a3), (4, .int (nI 0))] [] μ1 := by
  obtain ⟨hx1, hx2, hx3⟩ := id hx
  have E : ∀ (t v : Nat) (μ2 : Mm), P4 μ μ2 (nI st) (nI l) (nI k) (nI v) → (k = 2 → v = if l = 1 then x.1 st - 48 else 10 * (x.1 st - 48) + (x.1 (st + 1) - 48)) → (¬ k = 2 → ∀ μ3 : Mm, μ3 = mset μ2 66 14 (nI k) → Q none μ3) ∧ (k = 2 → (l ≤ 2 → ∀ μ3 : Mm, μ3 = mset μ2 66 14 (nI k) → Q none μ3) ∧ (¬ l ≤ 2 → ∀ μ3 : Mm, μ3 = mset μ2 66 14 (nI 4) → Q none μ3)) := by
    intro t v μ2 hP2 hv
    refine ⟨fun z μ3 e3 => ?_, fun z => ⟨fun y μ3 e3 => ?_, fun y μ3 e3 => ?_⟩⟩
    · subst e3
      obtain ⟨g1, g2, g3, g4, g5⟩ := hP2.s14 (y := nI k)
      exact hQ _ g1 g2 g3 (by rw [g4, if_neg z]) (fun w => absurd w z)
    · subst e3
      obtain ⟨g1, g2, g3, g4, g5⟩ := hP2.s14 (y := nI k)
      exact hQ _ g1 g2 g3 (by rw [g4, if_pos z, if_pos y, z]) (fun w => by rw [g5, hv w])
    · subst e3
      obtain ⟨g1, g2, g3, g4, g5⟩ := hP2.s14 (y := nI 4)
      exact hQ _ g1 g2 g3 (by rw [g4, if_pos z, if_neg y]) (fun w => by rw [g5, hv w])
  by_cases k2 : k = 2
  · have hb0 := hf k2 0 hl
    rw [Nat.add_zero] at hb0
    have b0 := hx3 st (by omega)
    refine wX5_lookAt_218 _ _ _ _ μ1 ?_
    obtain ⟨g1, g2, g3, g4, g5⟩ := id hP
    rw [g2, g3, g4, g5, nIle (by omega) (by omega), nIle (by omega) (by omega), nIe (by omega) (by omega), nI_add st 0, nI_add 0 1, Nat.add_zero, cl (n := st) (by omega), g1.2.1 74 (by decide), b0.1, pk_mul, nI_add, pk_sub (by omega)]
    refine ⟨fun z => by omega, fun _ => ⟨fun z => absurd z (by rw [nIle (by omega) (by omega)]; omega), fun _ => ⟨fun z => absurd k2 z, fun _ => ⟨vin (by omega) (by decide), fun μ17 e17 => ?_⟩⟩⟩⟩
    have hP17 : P4 μ μ17 (nI st) (nI l) (nI k) (nI (10 * 0 + x.1 st - 48)) := by rw [e17]; exact hP.s15
    obtain ⟨g1, g2, g3, g4, g5⟩ := id hP17
    refine wX5_lookAt_218 _ _ _ _ μ17 ?_
    rw [g2, g3, g4, g5, nIle (by omega) (by omega), nIle (by omega) (by omega), nIe (by omega) (by omega), nI_add st (0 + 1), nI_add (0 + 1) 1, cl (n := st + (0 + 1)) (by omega), g1.2.1 74 (by decide)]
    by_cases l1 : l = 1
    · have E' := E 1 (10 * 0 + x.1 st - 48) μ17 hP17 (fun _ => by rw [if_pos l1]; omega)
      refine ⟨fun _ => E', fun z => absurd (by omega) z⟩
    · have b1 := hx3 (st + (0 + 1)) (by omega)
      have hb1 := hf k2 (0 + 1) (by omega)
      rw [b1.1, pk_mul, nI_add (10 * (10 * 0 + x.1 st - 48)), pk_sub (by omega)]
      refine ⟨fun z => absurd z (by omega), fun _ => ⟨fun z => absurd z (by rw [nIle (by omega) (by omega)]; omega), fun _ => ⟨fun z => absurd k2 z, fun _ => ⟨vin (by omega) (by decide), fun μ18 e18 => ?_⟩⟩⟩⟩
      have hP18 : P4 μ μ18 (nI st) (nI l) (nI k) (nI (10 * (10 * 0 + x.1 st - 48) + x.1 (st + (0 + 1)) - 48)) := by rw [e18]; exact hP17.s15
      obtain ⟨g1, g2, g3, g4, g5⟩ := id hP18
      have E' := E 1 (10 * (10 * 0 + x.1 st - 48) + x.1 (st + (0 + 1)) - 48) μ18 hP18 (fun _ => by rw [if_neg l1]; simp only [Nat.zero_add, Nat.mul_zero] at hb1 ⊢; omega)
      refine wX5_lookAt_218 _ _ _ _ μ18 ?_
      rw [g3, g4, nIle (by omega) (by omega), nIle (by omega) (by omega), nIe (by omega) (by omega)]
      refine ⟨fun _ => E', fun _ => ⟨fun _ => E', fun z => absurd (by omega) z⟩⟩
  · refine wX5_lookAt_218 _ _ _ _ μ1 ?_
    obtain ⟨g1, g2, g3, g4, g5⟩ := id hP
    have E' := E 0 0 μ1 hP (fun z => absurd z k2)
    rw [g3, g4, nIle (by omega) (by omega), nIle (by omega) (by omega), nIe (by omega) (by omega)]
    exact ⟨fun _ => E', fun _ => ⟨fun _ => E', fun _ => ⟨fun _ => E', fun z => absurd z k2⟩⟩⟩
/-- the run of a token's bytes -/
theorem look_run {κ : Kx} {Q : Option Value → Mm → Prop} {x : Tx} {μ μ1 : Mm} {a1 a2 : Int32} {st k : Nat} {c : Nat → Bool} (hx : XM x μ) (hst : st < x.2) (hk : (k = 1 ∧ c = isLt) ∨ (k = 2 ∧ c = isFg)) (hc : c (x.1 st) = true) (hP : P4 μ μ1 (nI st) (nI 1) (nI k) (nI 0)) (hQ : ∀ μ2, TL μ μ2 → μ2.1 66 12 = nI st → μ2.1 66 13 = nI (RU c x.1 x.2 st - st) → μ2.1 66 14 = nI (if k = 2 then (if RU c x.1 x.2 st - st ≤ 2 then 2 else 4) else k) → (k = 2 → μ2.1 66 15 = nI (if RU c x.1 x.2 st - st = 1 then x.1 st - 48 else 10 * (x.1 st - 48) + (x.1 (st + 1) - 48))) → Q none μ2) : Vq κ Q mX5_lookAt 136 [(0, .ref 66), (1, .int a1), (2, .int a2), (3, .int (nI 1))] [] μ1 := by
  obtain ⟨hx1, hx2, hx3⟩ := id hx
  have e1 := RU_yes hst hc
  have hge : st + 1 ≤ RU c x.1 x.2 st := by rw [e1]; exact RU_ge
  have hle : RU c x.1 x.2 st ≤ x.2 := RU_le (by omega)
  have fin : ∀ (μ2 : Mm) (a3 : Int32), P4 μ μ2 (nI st) (nI (RU c x.1 x.2 st - st)) (nI k) (nI 0) → Vq κ Q mX5_lookAt 218 [(0, .ref 66), (1, .int a1), (2, .int a2), (3, .int a3), (4, .int (nI 0))] [] μ2 := fun μ2 a3 hP2 => look_end hx (l := RU c x.1 x.2 st - st) (by omega) (by omega) (by omega) (fun z j hj => by
    have hcj := RU_in (c := c) (b := x.1) (L := x.2) (p := st) (j := st + j) (by omega) (by omega)
    rcases hk with ⟨h1, -⟩ | ⟨-, h2⟩
    · omega
    · rw [h2] at hcj
      unfold isFg at hcj
      exact of_decide_eq_true (Bool.and_eq_true_iff.mp hcj).1) hP2 hQ
  refine cnt_loop (RU c x.1 x.2 st - (st + 1)) (fun t μ2 => Vq κ Q mX5_lookAt 136 [(0, .ref 66), (1, .int a1), (2, .int a2), (3, .int (nI 1))] [] μ2) (fun t μ2 => P4 μ μ2 (nI st) (nI (t + 1)) (nI k) (nI 0)) ?_ ?_ 0 μ1 (Nat.zero_le _) hP
  · intro μ2 hP2
    rw [show RU c x.1 x.2 st - (st + 1) + 1 = RU c x.1 x.2 st - st by omega] at hP2
    obtain ⟨g1, g2, g3, g4, g5⟩ := id hP2
    have e : st + (RU c x.1 x.2 st - st) = RU c x.1 x.2 st := by omega
    refine wX5_lookAt_136 _ _ _ μ2 ?_
    rw [g1.2.2 11 (by decide), hx2, g2, g3, g4, nI_add st, e, nIle (by omega) (by omega), nIe (by omega) (by omega), nI_add _ 0, Nat.add_zero]
    refine ⟨fun z => absurd z (by decide), fun _ => ⟨fun _ => fin μ2 _ hP2, fun z => ⟨vin (by omega) (by decide), ?_⟩⟩⟩
    have hb := hx3 (RU c x.1 x.2 st) (by omega)
    have hcf := RU_st (c := c) (b := x.1) (p := st) (L := x.2) (by omega) (by omega)
    rw [cl (n := RU c x.1 x.2 st) (by omega), g1.2.1 74 (by decide), hb.1, fwB (by omega) (by decide) (by decide), fwB (by omega) (by decide) (by decide)]
    have sec : ∀ μ3, μ3 = mset μ2 66 13 (nI (RU c x.1 x.2 st - st)) → Vq κ Q mX5_lookAt 136 [(0, .ref 66), (1, .int a1), (2, .int a2), (3, .int (bI false))] [] μ3 := by
      intro μ3 e3
      refine wX5_lookAt_136 _ _ _ μ3 ⟨fun _ => fin μ3 _ (by rw [e3]; exact hP2.s13), fun z => absurd rfl z⟩
    rcases hk with ⟨h1, h2⟩ | ⟨h1, h2⟩
    · subst h2
      have hcf' : (decide (97 ≤ x.1 (RU isLt x.1 x.2 st)) && decide (x.1 (RU isLt x.1 x.2 st) ≤ 122)) = false := hcf
      rw [hcf']
      exact ⟨fun w => absurd h1 w, fun _ => ⟨fun _ μ3 e3 => sec μ3 e3, fun w => absurd w (by decide)⟩⟩
    · subst h2
      have hcf' : (decide (48 ≤ x.1 (RU isFg x.1 x.2 st)) && decide (x.1 (RU isFg x.1 x.2 st) ≤ 57)) = false := hcf
      rw [hcf']
      exact ⟨fun _ => ⟨fun _ μ3 e3 => sec μ3 e3, fun w => absurd w (by decide)⟩, fun w => by omega⟩
  · intro t μ2 ht hP2 ih
    obtain ⟨g1, g2, g3, g4, g5⟩ := id hP2
    refine wX5_lookAt_136 _ _ _ μ2 ?_
    have hb := hx3 (st + (t + 1)) (by omega)
    have hcj := RU_in (c := c) (b := x.1) (L := x.2) (p := st) (j := st + (t + 1)) (by omega) (by omega)
    rw [g1.2.2 11 (by decide), hx2, g2, g3, g4, nI_add st, nIle (by omega) (by omega), nIe (by omega) (by omega), nI_add (t + 1) 0, nI_add (t + 1) 1, cl (n := st + (t + 1)) (by omega), g1.2.1 74 (by decide), hb.1, fwB (by omega) (by decide) (by decide), fwB (by omega) (by decide) (by decide)]
    have sec : ∀ μ3, μ3 = mset μ2 66 13 (nI (t + 1 + 1)) → Vq κ Q mX5_lookAt 136 [(0, .ref 66), (1, .int a1), (2, .int a2), (3, .int (nI 1))] [] μ3 := fun μ3 e3 => ih μ3 (by rw [e3]; exact hP2.s13)
    refine ⟨fun z => absurd z (by decide), fun _ => ⟨fun z => absurd z (by omega), fun _ => ⟨vin (by omega) (by decide), ?_⟩⟩⟩
    rcases hk with ⟨h1, h2⟩ | ⟨h1, h2⟩
    · subst h2
      have hc' : (decide (97 ≤ x.1 (st + (t + 1))) && decide (x.1 (st + (t + 1)) ≤ 122)) = true := hcj
      rw [hc']
      exact ⟨fun w => absurd h1 w, fun _ => ⟨fun w => absurd w (by decide), fun _ μ3 e3 => sec μ3 e3⟩⟩
    · subst h2
      have hc' : (decide (48 ≤ x.1 (st + (t + 1))) && decide (x.1 (st + (t + 1)) ≤ 57)) = true := hcj
      rw [hc']
      exact ⟨fun _ => ⟨fun w => absurd w (by decide), fun _ μ3 e3 => sec μ3 e3⟩, fun w => by omega⟩
theorem kX5_lookAt {x : Tx} {μ : Mm} {p : Nat} (hx : XM x μ) (hp : p ≤ x.2) : Con mX5_lookAt [.ref 66, .int (nI p)] μ (fun r μ' => r = none ∧ MT x μ' p ∧ TL μ μ') := by
  obtain ⟨hx1, hx2, hx3⟩ := id hx
  have hge := tS_ge (x := x) (p := p)
  have hle := tS_le hp
  refine Con.of pnX5 (Nat.le_of_ble_eq_true rfl) (fun κ => wX5_lookAt_0 _ μ (fun μ1 e1 => ?_))
  have at43 : ∀ μ2, TL μ μ2 → μ2.1 66 12 = nI (tS x p) → Vq κ (fun r μ' => r = none ∧ MT x μ' p ∧ TL μ μ') mX5_lookAt 43 [(0, .ref 66), (1, .int (nI p))] [] μ2 := by
    intro μ2 hT2 h12
    refine wX5_lookAt_43 _ μ2 (fun μ3 e3 μ4 e4 μ5 e5 => ?_)
    have hP5 : P4 μ μ5 (nI (tS x p)) (nI 0) (nI 0) (nI 0) := by
      subst e5; subst e4; subst e3
      exact ⟨((hT2.ms (by decide)).ms (by decide)).ms (by decide), by rw [ms_col (by decide), ms_col (by decide), ms_col (by decide)]; exact h12, by rw [ms_col (by decide), ms_col (by decide), ms_at], by rw [ms_col (by decide), ms_at], by rw [ms_at]⟩
    obtain ⟨g1, g2, g3, g4, g5⟩ := id hP5
    rw [g2, g1.2.2 11 (by decide), hx2, nIe (by omega) (by omega)]
    refine ⟨fun z => ?_, fun z => ⟨rfl, ?_, g1⟩⟩
    · have hlt : tS x p < x.2 := by omega
      have hb := hx3 (tS x p) hlt
      rw [cl (n := tS x p) (by omega), g1.2.1 74 (by decide), hb.1, fwB (by omega) (by decide) (by decide), fwB (by omega) (by decide) (by decide), nIe (by omega) (by decide)]
      refine ⟨vin (by omega) (by decide), fun w1 => ⟨fun w2 => ⟨fun w3 μ6 e6 μ7 e7 => ?_, fun w3 μ6 e6 μ7 e7 => ?_⟩, fun w2 μ6 e6 μ7 e7 => ?_⟩, fun w1 μ6 e6 μ7 e7 => ?_⟩
      · have hP7 : P4 μ μ7 (nI (tS x p)) (nI 1) (nI 4) (nI 0) := by rw [e7, e6]; exact hP5.s14.s13
        rw [hP7.2.2.2.1]
        refine ⟨fun _ => ?_, fun y => absurd (by decide) y⟩
        have w1' : ¬ isLt (x.1 (tS x p)) = true := by rw [show isLt (x.1 (tS x p)) = false from w1]; decide
        have w2' : ¬ isFg (x.1 (tS x p)) = true := by rw [show isFg (x.1 (tS x p)) = false from w2]; decide
        have eE : tE x p = tS x p + 1 := by unfold tE; rw [if_neg (by omega), if_neg w1', if_neg w2']
        have eK : tK x p = 4 := by unfold tK; rw [if_neg (by omega), if_neg w1', if_neg w2', if_neg w3]
        refine wX5_lookAt_136 _ _ _ μ7 ⟨fun _ => ?_, fun z => absurd rfl z⟩
        refine look_end hx (l := 1) (k := 4) (by decide) (by omega) (by omega) (fun z => absurd z (by decide)) hP7 (fun μ8 q1 q2 q3 q4 q5 => ⟨rfl, ⟨q2, by rw [q3, eE, Nat.add_sub_cancel_left], by rw [q4, eK]; rfl, fun y => by omega⟩, q1⟩)
      · have hP7 : P4 μ μ7 (nI (tS x p)) (nI 1) (nI 3) (nI 0) := by rw [e7, e6]; exact hP5.s14.s13
        rw [hP7.2.2.2.1]
        refine ⟨fun _ => ?_, fun y => absurd (by decide) y⟩
        have w1' : ¬ isLt (x.1 (tS x p)) = true := by rw [show isLt (x.1 (tS x p)) = false from w1]; decide
        have w2' : ¬ isFg (x.1 (tS x p)) = true := by rw [show isFg (x.1 (tS x p)) = false from w2]; decide
        have eE : tE x p = tS x p + 1 := by unfold tE; rw [if_neg (by omega), if_neg w1', if_neg w2']
        have eK : tK x p = 3 := by unfold tK; rw [if_neg (by omega), if_neg w1', if_neg w2', if_pos w3]
        refine wX5_lookAt_136 _ _ _ μ7 ⟨fun _ => ?_, fun z => absurd rfl z⟩
        refine look_end hx (l := 1) (k := 3) (by decide) (by omega) (by omega) (fun z => absurd z (by decide)) hP7 (fun μ8 q1 q2 q3 q4 q5 => ⟨rfl, ⟨q2, by rw [q3, eE, Nat.add_sub_cancel_left], by rw [q4, eK]; rfl, fun y => by omega⟩, q1⟩)
      · have hP7 : P4 μ μ7 (nI (tS x p)) (nI 1) (nI 2) (nI 0) := by rw [e7, e6]; exact hP5.s14.s13
        rw [hP7.2.2.2.1]
        refine ⟨fun y => absurd y (by decide), fun _ => ?_⟩
        have w1' : ¬ isLt (x.1 (tS x p)) = true := by rw [show isLt (x.1 (tS x p)) = false from w1]; decide
        have w2 : isFg (x.1 (tS x p)) = true := w2
        have eE : tE x p = RU isFg x.1 x.2 (tS x p) := by unfold tE; rw [if_neg (by omega), if_neg w1', if_pos w2]
        have eK : tK x p = if tE x p - tS x p ≤ 2 then 2 else 4 := by unfold tK; rw [if_neg (by omega), if_neg w1', if_pos w2]
        refine look_run hx hlt (Or.inr ⟨rfl, rfl⟩) w2 hP7 (fun μ8 q1 q2 q3 q4 q5 => ⟨rfl, ⟨q2, by rw [q3, eE], by rw [q4, eK, eE]; rfl, fun y => by rw [q5 rfl]; unfold tV; rw [eE]⟩, q1⟩)
      · have hP7 : P4 μ μ7 (nI (tS x p)) (nI 1) (nI 1) (nI 0) := by rw [e7, e6]; exact hP5.s14.s13
        rw [hP7.2.2.2.1]
        refine ⟨fun y => absurd y (by decide), fun _ => ?_⟩
        have w1 : isLt (x.1 (tS x p)) = true := w1
        have eE : tE x p = RU isLt x.1 x.2 (tS x p) := by unfold tE; rw [if_neg (by omega), if_pos w1]
        have eK : tK x p = 1 := by unfold tK; rw [if_neg (by omega), if_pos w1]
        refine look_run hx hlt (Or.inl ⟨rfl, rfl⟩) w1 hP7 (fun μ8 q1 q2 q3 q4 q5 => ⟨rfl, ⟨q2, by rw [q3, eE], by rw [q4, eK]; rfl, fun y => by omega⟩, q1⟩)
    · have eE : tE x p = tS x p := by unfold tE; rw [if_pos (by omega)]
      have eK : tK x p = 0 := by unfold tK; rw [if_pos (by omega)]
      exact ⟨g2, by rw [g3, eE, Nat.sub_self], by rw [g4, eK], fun y => by omega⟩
  refine cnt_loop (tS x p - p) (fun t μ2 => Vq κ (fun r μ' => r = none ∧ MT x μ' p ∧ TL μ μ') mX5_lookAt 5 [(0, .ref 66), (1, .int (nI p))] [] μ2) (fun t μ2 => TL μ μ2 ∧ μ2.1 66 12 = nI (p + t)) ?_ ?_ 0 μ1 (Nat.zero_le _) ⟨by rw [e1]; exact TL.rf.ms (by decide), by rw [e1, ms_at]; rfl⟩
  · rintro μ2 ⟨hT2, h12⟩
    rw [show p + (tS x p - p) = tS x p by omega] at h12
    refine wX5_lookAt_5 _ μ2 ?_
    rw [hT2.2.2 11 (by decide), hx2, h12, nIle (by omega) (by omega), cl (n := tS x p) (by omega), hT2.2.1 74 (by decide)]
    refine ⟨fun _ => at43 μ2 hT2 h12, fun z => ⟨vin (by omega) (by decide), fun _ => at43 μ2 hT2 h12, fun y => ?_⟩⟩
    have hb := hx3 (tS x p) (by omega)
    rw [hb.1, nIe (by omega) (by decide)] at y
    have := RU_st (c := isSp) (b := x.1) (p := p) (L := x.2) hp (show RU isSp x.1 x.2 p < x.2 by show tS x p < x.2; omega)
    have h3 : isSp (x.1 (tS x p)) = false := this
    unfold isSp at h3
    rw [decide_eq_true y] at h3
    exact absurd h3 (by decide)
  · rintro t μ2 ht ⟨hT2, h12⟩ ih
    have hb := hx3 (p + t) (by omega)
    have hsp := RU_in (c := isSp) (b := x.1) (L := x.2) (p := p) (j := p + t) (by omega) (show p + t < tS x p by omega)
    refine wX5_lookAt_5 _ μ2 ?_
    rw [hT2.2.2 11 (by decide), hx2, h12, nIle (by omega) (by omega), cl (n := p + t) (by omega), hT2.2.1 74 (by decide), hb.1, nIe (by omega) (by decide), nI_add (p + t) 1]
    refine ⟨fun z => absurd z (by omega), fun _ => ⟨vin (by omega) (by decide), fun z => absurd (of_decide_eq_true hsp) z, fun _ μ3 e3 => ih μ3 ⟨by rw [e3]; exact hT2.ms (by decide), by rw [e3, ms_at]; rfl⟩⟩⟩
