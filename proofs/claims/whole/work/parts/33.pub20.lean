/-! ===== read, the reference's side ===== -/
theorem tK_4 {x : Tx} {p : Nat} : tK x p ≤ 4 := by unfold tK; repeat' split
                                                   all_goals omega
theorem tV_b {x : Tx} {p : Nat} (hb : ∀ j, j < x.2 → x.1 j < 128) (hp : p ≤ x.2) (h : tK x p = 2) : tV x p ≤ 1000 := by
  obtain ⟨g1, g2⟩ := tE_gt (x := x) (p := p) (by omega)
  have hE := tE_le hp
  have b0 := hb _ g2
  unfold tV
  split
  · omega
  · have b1 := hb (tS x p + 1) (by omega)
    omega
theorem numb_t {x : Tx} {p hi : Nat} (h : numb x p hi = true) : tK x p = 2 ∧ tV x p ≤ hi := by
  unfold numb at h
  obtain ⟨h1, h2⟩ := Bool.and_eq_true_iff.mp h
  exact ⟨of_decide_eq_true h1, of_decide_eq_true h2⟩
def TRd (μ μ' : Mm) : Prop := μ'.2 = μ.2 ∧ (∀ c, c ≠ 66 → c ≠ 75 → c ≠ 76 → μ'.1 c = μ.1 c) ∧ ∀ j, j < 12 → j ≠ 6 → μ'.1 66 j = μ.1 66 j
def AM (μ : Mm) (u : Ln) : Prop := ∀ j, j < 86 → μ.1 75 j = nI (u j)
def SM (x : Tx) (μ0 μ : Mm) (p : Nat) (u : Ln) : Prop := XM x μ ∧ MT x μ p ∧ AM μ u ∧ TRd μ0 μ
theorem TRd.tl {μ0 μ μ' : Mm} (h : TRd μ0 μ) (g : TL μ μ') : TRd μ0 μ' := ⟨g.1.trans h.1, fun c h1 h2 h3 => (g.2.1 c h1).trans (h.2.1 c h1 h2 h3), fun j h1 h2 => (g.2.2 j h1).trans (h.2.2 j h1 h2)⟩
theorem kX5_behind {x : Tx} {μ : Mm} {p : Nat} (hx : XM x μ) (hp : p ≤ x.2) (hM : MT x μ p) : Con mX5_goBehind [.ref 66] μ (fun r μ' => r = none ∧ MT x μ' (tE x p) ∧ TL μ μ') := by
  refine Con.of pnX5 (Nat.le_of_ble_eq_true rfl) (fun κ => wX5_goBehind_0 μ ?_)
  have := tE_ge (x := x) (p := p)
  rw [hM.1, hM.2.1, nI_add, show tS x p + (tE x p - tS x p) = tE x p by omega]
  exact (kX5_lookAt hx (tE_le hp)).mono (by rintro r μ' ⟨rfl, h1, h2⟩; exact ⟨rfl, rfl, h1, h2⟩)
theorem kX5_spells {x : Tx} {μ : Mm} {p n : Nat} {l : Nat → Nat} (hx : XM x μ) (hp : p ≤ x.2) (hM : MT x μ p) (hn : n ≤ 6) (hl : ∀ k, l k < 200) : Con mX5_spells [.ref 66, .int (nI n), .int (nI (l 0)), .int (nI (l 1)), .int (nI (l 2)), .int (nI (l 3)), .int (nI (l 4)), .int (nI (l 5))] μ (fun r μ' => r = some (.int (bI (decide (tK x p = 1) && spl x p n l))) ∧ μ' = μ) := by
  obtain ⟨hx1, hx2, hx3⟩ := id hx
  obtain ⟨m1, m2, m3, m4⟩ := id hM
  have hk4 := tK_4 (x := x) (p := p)
  have hS := tS_le hp
  have hE := tE_le hp
  refine Con.of pnX5 (Nat.le_of_ble_eq_true rfl) (fun κ => wX5_spells_0 _ _ _ _ _ _ _ μ ?_)
  rw [m3, m2, nIe (by omega) (by omega), nIe (by omega) (by omega)]
  have zero : ∀ t, (decide (tK x p = 1) && spl x p n l) = false → Vq κ (fun r μ' => r = some (.int (bI (decide (tK x p = 1) && spl x p n l))) ∧ μ' = μ) mX5_spells 26 [(0, .ref 66), (1, .int (nI n)), (2, .int (nI (l 0))), (3, .int (nI (l 1))), (4, .int (nI (l 2))), (5, .int (nI (l 3))), (6, .int (nI (l 4))), (7, .int (nI (l 5))), (8, .int (nI 0)), (9, .int t)] [] μ := by
    intro t e
    refine wX5_spells_26 _ _ _ _ _ _ _ _ _ μ ⟨fun _ => ⟨false, rfl, by rw [e], rfl⟩, fun _ => ⟨fun _ => ⟨false, rfl, by rw [e], rfl⟩, fun z => absurd rfl z⟩⟩
  refine ⟨fun z => zero _ (by rw [decide_eq_false z]; rfl), fun z1 => ⟨fun z => zero _ (by unfold spl; rw [decide_eq_false z, Bool.false_and, Bool.and_false]), fun z2 => ?_⟩⟩
  have eS : (decide (tK x p = 1) && spl x p n l) = ftA (fun k => decide (x.1 (tS x p + k) = l k)) n := by unfold spl; rw [decide_eq_true z1, decide_eq_true z2]; rfl
  refine cnt_loop n (fun t (_ : Unit) => Vq κ (fun r μ' => r = some (.int (bI (decide (tK x p = 1) && spl x p n l))) ∧ μ' = μ) mX5_spells 26 [(0, .ref 66), (1, .int (nI n)), (2, .int (nI (l 0))), (3, .int (nI (l 1))), (4, .int (nI (l 2))), (5, .int (nI (l 3))), (6, .int (nI (l 4))), (7, .int (nI (l 5))), (8, .int (nI 1)), (9, .int (nI t))] [] μ) (fun t _ => ftA (fun k => decide (x.1 (tS x p + k) = l k)) t = true) ?_ ?_ 0 () (Nat.zero_le _) rfl
  · intro _ hI
    exact wX5_spells_26 _ _ _ _ _ _ _ _ _ μ ⟨fun _ => ⟨true, rfl, by rw [eS, hI], rfl⟩, fun z => absurd (nge (by omega) (Nat.le_refl _)) z⟩
  · intro k _ hk hI ih
    have hb := hx3 (tS x p + k) (by omega)
    have leaf : ∀ j, k = j → (¬ nI (x.1 (tS x p + k)) = nI (l j) → Vq κ (fun r μ' => r = some (.int (bI (decide (tK x p = 1) && spl x p n l))) ∧ μ' = μ) mX5_spells 26 [(0, .ref 66), (1, .int (nI n)), (2, .int (nI (l 0))), (3, .int (nI (l 1))), (4, .int (nI (l 2))), (5, .int (nI (l 3))), (6, .int (nI (l 4))), (7, .int (nI (l 5))), (8, .int (nI 0)), (9, .int (nI (k + 1)))] [] μ) ∧ (nI (x.1 (tS x p + k)) = nI (l j) → Vq κ (fun r μ' => r = some (.int (bI (decide (tK x p = 1) && spl x p n l))) ∧ μ' = μ) mX5_spells 26 [(0, .ref 66), (1, .int (nI n)), (2, .int (nI (l 0))), (3, .int (nI (l 1))), (4, .int (nI (l 2))), (5, .int (nI (l 3))), (6, .int (nI (l 4))), (7, .int (nI (l 5))), (8, .int (nI 1)), (9, .int (nI (k + 1)))] [] μ) := by
      rintro j rfl
      have := hl k
      rw [nIe (by omega) (by omega)]
      exact ⟨fun z => zero _ (by rw [eS]; exact ftA_f (r := k) (decide_eq_false z) hk), fun z => ih () (ftA_s hI (decide_eq_true z))⟩
    refine wX5_spells_26 _ _ _ _ _ _ _ _ _ μ ⟨fun z => absurd z (nnge (by omega) hk), fun _ => ⟨fun z => absurd z (by decide), fun _ => ?_⟩⟩
    rw [m1, nI_add (tS x p) k, cl (n := tS x p + k) (by omega), hb.1, nI_add k 1, nI0 (by omega), nIe (a := k) (by omega) (by omega), nIe (a := k) (by omega) (by omega), nIe (a := k) (by omega) (by omega), nIe (a := k) (by omega) (by omega)]
    exact ⟨vin (by omega) (by decide), fun z0 => ⟨fun z1 => ⟨fun z2 => ⟨fun z3 => ⟨fun z4 => leaf 5 (by omega), fun z => leaf 4 z⟩, fun z => leaf 3 z⟩, fun z => leaf 2 z⟩, fun z => leaf 1 z⟩, fun z => leaf 0 z⟩
def TVs (k : Nat) (v : Int32) (μ μ' : Mm) : Prop := μ'.2 = μ.2 ∧ (∀ c, c ≠ 66 → c ≠ 76 → μ'.1 c = μ.1 c) ∧ (∀ j, j < 12 → μ'.1 66 j = μ.1 66 j) ∧ μ'.1 76 k = v ∧ ∀ j, j ≠ k → μ'.1 76 j = μ.1 76 j
theorem TRd.tv {μ0 μ μ' : Mm} {k : Nat} {v : Int32} (h : TRd μ0 μ) (g : TVs k v μ μ') : TRd μ0 μ' := ⟨g.1.trans h.1, fun c h1 h2 h3 => (g.2.1 c h1 h3).trans (h.2.1 c h1 h2 h3), fun j h1 h2 => (g.2.2.1 j h1).trans (h.2.2 j h1 h2)⟩
theorem XM.tv {x : Tx} {μ μ' : Mm} {k : Nat} {v : Int32} (h : XM x μ) (g : TVs k v μ μ') : XM x μ' := ⟨h.1, by rw [g.2.2.1 11 (by decide)]; exact h.2.1, fun j hj => by rw [g.2.1 74 (by decide) (by decide)]; exact h.2.2 j hj⟩
theorem AM.tv {u : Ln} {μ μ' : Mm} {k : Nat} {v : Int32} (h : AM μ u) (g : TVs k v μ μ') : AM μ' u := fun j hj => by rw [g.2.1 75 (by decide) (by decide)]; exact h j hj
theorem kX5_takes {x : Tx} {μ : Mm} {p k hi : Nat} (hx : XM x μ) (hp : p ≤ x.2) (hM : MT x μ p) (hk : k < 3) (hh : hi < 100) : Con mX5_takes [.ref 66, .int (nI k), .int (nI 0), .int (nI hi)] μ (fun r μ' => r = some (.int (bI (numb x p hi))) ∧ (numb x p hi = false → μ' = μ) ∧ (numb x p hi = true → MT x μ' (tE x p) ∧ TVs k (nI (tV x p)) μ μ')) := by
  obtain ⟨m1, m2, m3, m4⟩ := id hM
  have hk4 := tK_4 (x := x) (p := p)
  refine Con.of pnX5 (Nat.le_of_ble_eq_true rfl) (fun κ => wX5_takes_0 _ _ _ μ ?_)
  rw [m3, nIe (by omega) (by omega)]
  refine ⟨fun z => ?_, fun z => ?_⟩
  · have e : numb x p hi = false := by unfold numb; rw [decide_eq_false z]; rfl
    exact ⟨by rw [e], fun _ => rfl, fun w => by rw [e] at w; exact absurd w (by decide)⟩
  · have hv := tV_b (fun j hj => (hx.2.2 j hj).2) hp z
    rw [m4 z, nI_l (n := 0) (by decide), nI_l (n := hi) (by omega), fwL _ (by decide) (by omega), fwB (by omega) (by decide) (by omega), cl (n := k) (by omega)]
    have e : (decide (0 ≤ tV x p) && decide (tV x p ≤ hi)) = numb x p hi := by unfold numb; rw [decide_eq_true z, decide_eq_true (Nat.zero_le _)]
    rw [e]
    refine ⟨fun w => ⟨vin hk (by decide), fun μ2 e2 => ?_⟩, fun w => ⟨by rw [w], fun _ => rfl, fun y => by rw [w] at y; exact absurd y (by decide)⟩⟩
    have hx2 : XM x μ2 := ⟨hx.1, by rw [e2, ms_row (by decide)]; exact hx.2.1, fun j hj => by rw [e2, ms_row (by decide)]; exact hx.2.2 j hj⟩
    have hM2 : MT x μ2 p := by rw [e2]; exact ⟨by rw [ms_row (by decide)]; exact m1, by rw [ms_row (by decide)]; exact m2, by rw [ms_row (by decide)]; exact m3, fun y => by rw [ms_row (by decide)]; exact m4 y⟩
    refine (kX5_behind hx2 hp hM2).mono ?_
    rintro r μ3 ⟨rfl, g1, g2⟩
    refine ⟨rfl, by rw [w], fun y => (by rw [w] at y; exact absurd y (by decide)), fun _ => ⟨g1, g2.1.trans (by rw [e2]; rfl), fun c h1 h2 => by rw [g2.2.1 c h1, e2, ms_row h2], fun j hj => by rw [g2.2.2 j hj, e2, ms_row (by decide)], by rw [g2.2.1 76 (by decide), e2, ms_at], fun j hj => by rw [g2.2.1 76 (by decide), e2, ms_col hj]⟩⟩
/-- what an item of the text leaves -/
def IT (x : Tx) (μ0 : Mm) (pr : Pr) : Option Value → Mm → Prop := fun r μ' => match pr with
  | .inl e => r = some (.int (bI false)) ∧ μ'.1 66 12 = nI e ∧ XM x μ' ∧ TRd μ0 μ'
  | .inr (q, u) => r = some (.int (bI true)) ∧ SM x μ0 μ' q u
theorem kX5_vin {x : Tx} {μ0 μ : Mm} {p : Nat} {u : Ln} (hp : p ≤ x.2) (hS : SM x μ0 μ p u) : Con mX5_takesVines [.ref 66] μ (IT x μ0 (itV x (tE x p) u)) := by
  obtain ⟨hx, hM, hA, hT⟩ := hS
  refine Con.of pnX5 (Nat.le_of_ble_eq_true rfl) (fun κ => wX5_takesVines_0 μ ?_)
  refine (kX5_behind hx hp hM).mono ?_
  rintro r μ1 ⟨rfl, h1, t1⟩
  have hp1 := tE_le hp
  have x1 := hx.tl t1
  have A1 : AM μ1 u := fun j hj => by rw [t1.2.1 75 (by decide)]; exact hA j hj
  have T1 := hT.tl t1
  refine ⟨rfl, (kX5_takes x1 hp1 h1 (by decide) (by decide)).mono ?_⟩
  rintro r μ2 ⟨rfl, f2, g2⟩
  refine ⟨_, rfl, fun z => ?_, fun z => ?_⟩
  · have e2 := f2 z; subst e2
    unfold itV; rw [z]; exact ⟨rfl, h1.1, x1, T1⟩
  · obtain ⟨h2, t2⟩ := g2 z
    obtain ⟨-, v1⟩ := numb_t z
    have hp2 := tE_le hp1
    have x2 := x1.tv t2
    refine (kX5_takes x2 hp2 h2 (by decide) (by decide)).mono ?_
    rintro r μ3 ⟨rfl, f3, g3⟩
    refine ⟨_, rfl, fun y => ?_, fun y => ?_⟩
    · obtain ⟨h3, t3⟩ := g3 y
      obtain ⟨-, v2⟩ := numb_t y
      rw [cl (n := 0) (by decide), cl (n := 1) (by decide), t3.2.2.2.2 0 (by decide), t2.2.2.2.1, t3.2.2.2.1, nI_add 14, cl (n := 14 + tV x (tE x p)) (by omega)]
      refine ⟨vin (by omega) (by decide), fun μ4 e4 => ?_⟩
      unfold itV; rw [z, y]
      have x3 := x2.tv t3
      have T3 := (T1.tv t2).tv t3
      refine ⟨rfl, ⟨x3.1, by rw [e4, ms_row (by decide)]; exact x3.2.1, fun j hj => by rw [e4, ms_row (by decide)]; exact x3.2.2 j hj⟩, ?_, fun j hj => ?_, T3.1 ▸ (by rw [e4]; rfl), fun c c1 c2 c3 => by rw [e4, ms_row c2]; exact T3.2.1 c c1 c2 c3, fun j j1 j2 => by rw [e4, ms_row (by decide)]; exact T3.2.2 j j1 j2⟩
      · rw [e4]; exact ⟨by rw [ms_row (by decide)]; exact h3.1, by rw [ms_row (by decide)]; exact h3.2.1, by rw [ms_row (by decide)]; exact h3.2.2.1, fun w => by rw [ms_row (by decide)]; exact h3.2.2.2 w⟩
      · rw [e4]
        by_cases ej : j = 14 + tV x (tE x p)
        · rw [ej, ms_at, up_at]
        · rw [ms_col ej, up_ne ej]; exact ((A1.tv t2).tv t3) j hj
    · have e3 := f3 y; subst e3
      unfold itV; rw [z, y]; exact ⟨rfl, h2.1, x2, T1.tv t2⟩
