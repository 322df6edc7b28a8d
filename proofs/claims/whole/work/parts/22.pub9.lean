/-! ===== most alike, the clearest look ===== -/
def cN (p : Nat → Bool) : Nat → Nat
  | 0 => 0
  | n + 1 => cN p n + (if p n = true then 1 else 0)
theorem cN_le {p : Nat → Bool} : ∀ {n : Nat}, cN p n ≤ n
  | 0 => Nat.le_refl 0
  | n + 1 => by
    show cN p n + (if p n = true then 1 else 0) ≤ n + 1
    have := cN_le (p := p) (n := n)
    split <;> omega
theorem cN_mono {p q : Nat → Bool} : ∀ {n : Nat}, (∀ b, b < n → p b = true → q b = true) → cN p n ≤ cN q n
  | 0, _ => Nat.le_refl 0
  | n + 1, h => by
    show cN p n + (if p n = true then 1 else 0) ≤ cN q n + (if q n = true then 1 else 0)
    have := cN_mono (n := n) (fun b hb => h b (by omega))
    by_cases e : p n = true
    · rw [if_pos e, if_pos (h n (by omega) e)]; omega
    · rw [if_neg e]; omega
theorem cN_0 {p : Nat → Bool} : ∀ {n : Nat}, (∀ b, b < n → p b = false) → cN p n = 0
  | 0, _ => rfl
  | n + 1, h => by
    show cN p n + (if p n = true then 1 else 0) = 0
    rw [cN_0 (n := n) (fun b hb => h b (by omega)), h n (by omega)]; rfl
def mx (g : Nat → Bool) (c : Nat → Nat) : Nat → Nat
  | 0 => 0
  | n + 1 => if g n = true ∧ mx g c n < c n then c n else mx g c n
theorem mx_le {g : Nat → Bool} {c : Nat → Nat} {K : Nat} : ∀ {n : Nat}, (∀ a, a < n → g a = true → c a ≤ K) → mx g c n ≤ K
  | 0, _ => Nat.zero_le _
  | n + 1, h => by
    show (if g n = true ∧ mx g c n < c n then c n else mx g c n) ≤ K
    split
    · rename_i z; exact h n (by omega) z.1
    · exact mx_le (fun a ha => h a (by omega))
theorem mx_ge {g : Nat → Bool} {c : Nat → Nat} {a : Nat} (hg : g a = true) : ∀ {n : Nat}, a < n → c a ≤ mx g c n
  | n + 1, h => by
    show c a ≤ (if g n = true ∧ mx g c n < c n then c n else mx g c n)
    by_cases e : a = n
    · subst e
      by_cases z : mx g c a < c a
      · rw [if_pos ⟨hg, z⟩]; exact Nat.le_refl _
      · rw [if_neg (fun y => z y.2)]; omega
    · have := mx_ge (g := g) (c := c) hg (n := n) (by omega)
      split
      · rename_i z; omega
      · exact this
def cA (g : Nat → Bool) (v : Nat → Int32) (a : Nat) : Nat := cN (fun b => decide (a ≤ b) && (g b && decide (v b = v a))) 6
def cB (g : Nat → Bool) (v : Nat → Int32) (a : Nat) : Nat := cN (fun b => g b && decide (v a = v b)) 6
theorem first_of {p : Nat → Bool} {a : Nat} (h : p a = true) : ∃ m, m ≤ a ∧ p m = true ∧ ∀ b, b < m → p b = false := by
  induction a using Nat.strongRecOn with
  | ind a ih =>
    by_cases z : ∃ b, b < a ∧ p b = true
    · obtain ⟨b, hb, hp⟩ := z
      obtain ⟨m, h1, h2, h3⟩ := ih b hb hp
      exact ⟨m, by omega, h2, h3⟩
    · refine ⟨a, Nat.le_refl a, h, fun b hb => ?_⟩
      cases e : p b with
      | false => rfl
      | true => exact absurd ⟨b, hb, e⟩ z
theorem mx_AB (g : Nat → Bool) (v : Nat → Int32) : mx g (cB g v) 6 = mx g (cA g v) 6 := by
  refine Nat.le_antisymm (mx_le (fun a ha hg => ?_)) (mx_le (fun a ha hg => Nat.le_trans ?_ (mx_ge hg ha)))
  · obtain ⟨m, h1, h2, h3⟩ := first_of (p := fun b => g b && decide (v b = v a)) (a := a) (by rw [hg]; simp)
    obtain ⟨gm, vm⟩ := Bool.and_eq_true_iff.mp h2
    have vm := of_decide_eq_true vm
    refine Nat.le_trans (cN_mono (fun b hb hp => ?_)) (mx_ge (c := cA g v) gm (by omega))
    obtain ⟨gb, vb⟩ := Bool.and_eq_true_iff.mp hp
    have vb := of_decide_eq_true vb
    have : m ≤ b := by
      by_cases z : m ≤ b
      · exact z
      · have := h3 b (by omega)
        rw [gb, decide_eq_true vb.symm] at this
        exact absurd this (by decide)
    rw [decide_eq_true this, gb, decide_eq_true (show v b = v m by rw [vm, vb])]; rfl
  · refine cN_mono (fun b hb hp => ?_)
    obtain ⟨-, hp⟩ := Bool.and_eq_true_iff.mp hp
    obtain ⟨gb, vb⟩ := Bool.and_eq_true_iff.mp hp
    rw [gb, decide_eq_true (of_decide_eq_true vb).symm]; rfl
theorem mx_6 {g : Nat → Bool} {v : Nat → Int32} {n : Nat} : mx g (cA g v) n ≤ 6 := mx_le (fun _ _ _ => cN_le)
theorem mx_6B {g : Nat → Bool} {v : Nat → Int32} {n : Nat} : mx g (cB g v) n ≤ 6 := mx_le (fun _ _ _ => cN_le)
theorem kX4_most {μ : Mm} {fit : Int32} {g : Nat → Bool} {v : Nat → Int32} (hg : ∀ b, b < 6 → fbit fit (nI b) = g b) (hv : ∀ b, b < 6 → μ.1 1 b = v b) : Con mX4_mostAlike [.ref 0, .int fit] μ (fun r μ' => r = some (.int (nI (mx g (cA g v) 6))) ∧ μ' = μ) := by
  refine Con.of pnX4 (Nat.le_of_ble_eq_true rfl) (fun κ => wX4_mostAlike_0 _ μ ?_)
  refine cnt_loop 6 (fun a (_ : Unit) => Vq κ (fun r μ' => r = some (.int (nI (mx g (cA g v) 6))) ∧ μ' = μ) mX4_mostAlike 4 [(0, .ref 0), (1, .int fit), (2, .int (nI (mx g (cA g v) a))), (3, .int (nI a))] [] μ) (fun _ _ => True) ?_ ?_ 0 () (Nat.zero_le _) trivial
  · intro _ _
    exact wX4_mostAlike_4 _ _ _ μ ⟨fun _ => ⟨rfl, rfl⟩, fun z => absurd (nge (by omega) (Nat.le_refl _)) z⟩
  · intro a _ ha _ ih
    have ih' := ih () trivial
    refine wX4_mostAlike_4 _ _ _ μ ⟨fun z => absurd z (nnge (by omega) ha), fun _ => ?_⟩
    have hm := mx_6 (g := g) (v := v) (n := a)
    have hc : cA g v a ≤ 6 := cN_le
    have E0 : (0 : Nat) = cN (fun b => decide (a ≤ b) && (g b && decide (v b = v a))) a := by
      rw [cN_0 (fun b hb => by rw [decide_eq_false (by omega)]; rfl)]
    rw [show nI 0 = nI (cN (fun b => decide (a ≤ b) && (g b && decide (v b = v a))) a) by rw [← E0]]
    refine cnt_loop 6 (fun b (_ : Unit) => Vq κ (fun r μ' => r = some (.int (nI (mx g (cA g v) 6))) ∧ μ' = μ) mX4_mostAlike 16 [(0, .ref 0), (1, .int fit), (2, .int (nI (mx g (cA g v) a))), (3, .int (nI a)), (4, .int (nI (cN (fun b => decide (a ≤ b) && (g b && decide (v b = v a))) b))), (5, .int (nI b))] [] μ) (fun b _ => a ≤ b) ?_ ?_ a () (by omega) (Nat.le_refl a)
    · intro _ _
      refine wX4_mostAlike_16 _ _ _ _ _ μ ?_
      rw [hg a ha, nI_add a 1, nIle (show cN _ 6 < 2 ^ 31 from by have := hc; unfold cA at this; omega) (by omega)]
      refine ⟨fun _ => ⟨fun z => ?_, fun z => ⟨fun y => ?_, fun y => ?_⟩⟩, fun z => absurd (nge (by omega) (Nat.le_refl _)) z⟩
      · rw [show mx g (cA g v) (a + 1) = mx g (cA g v) a from if_neg (by rw [z]; simp)] at ih'; exact ih'
      · rw [show mx g (cA g v) (a + 1) = mx g (cA g v) a from if_neg (fun w => absurd w.2 (by unfold cA; unfold cA at y; omega))] at ih'; exact ih'
      · rw [show mx g (cA g v) (a + 1) = cA g v a from if_pos ⟨z, by unfold cA; unfold cA at y; omega⟩] at ih'; exact ih'
    · intro b _ hb hab ih2
      have ih3 := ih2 () (by omega)
      have E : ∀ x, cN (fun b => decide (a ≤ b) && (g b && decide (v b = v a))) (b + 1) = x → Vq κ (fun r μ' => r = some (.int (nI (mx g (cA g v) 6))) ∧ μ' = μ) mX4_mostAlike 16 [(0, .ref 0), (1, .int fit), (2, .int (nI (mx g (cA g v) a))), (3, .int (nI a)), (4, .int (nI x)), (5, .int (nI (b + 1)))] [] μ := fun x hx => by rw [← hx]; exact ih3
      refine wX4_mostAlike_16 _ _ _ _ _ μ ?_
      rw [hg b hb, nI_add b 1, nI_add (cN _ b) 1, cl (n := a) (by omega), cl (n := b) (by omega), hv a ha, hv b hb]
      refine ⟨fun z => absurd z (nnge (by omega) hb), fun _ => ⟨fun z => E _ ?_, fun z => ⟨vin hb (by decide), vin ha (by decide), fun y => E _ ?_, fun y => E _ ?_⟩⟩⟩
      · show cN _ b + (if (decide (a ≤ b) && (g b && decide (v b = v a))) = true then 1 else 0) = _
        rw [z, Bool.false_and, Bool.and_false]; rfl
      · show cN _ b + (if (decide (a ≤ b) && (g b && decide (v b = v a))) = true then 1 else 0) = _
        rw [z, decide_eq_false y, Bool.and_false, Bool.and_false]; rfl
      · show cN _ b + (if (decide (a ≤ b) && (g b && decide (v b = v a))) = true then 1 else 0) = _
        rw [z, decide_eq_true y, decide_eq_true hab]; rfl
theorem kX5_most {μ : Mm} {fit : Int32} {g : Nat → Bool} {v : Nat → Int32} (hg : ∀ b, b < 6 → fbit fit (nI b) = g b) (hv : ∀ b, b < 6 → μ.1 72 b = v b) : Con mX5_mostAlike [.ref 66, .int fit] μ (fun r μ' => r = some (.int (nI (mx g (cA g v) 6))) ∧ μ' = μ) := by
  rw [← mx_AB]
  refine Con.of pnX5 (Nat.le_of_ble_eq_true rfl) (fun κ => wX5_mostAlike_0 _ μ ?_)
  refine cnt_loop 6 (fun a (_ : Unit) => Vq κ (fun r μ' => r = some (.int (nI (mx g (cB g v) 6))) ∧ μ' = μ) mX5_mostAlike 4 [(0, .ref 66), (1, .int fit), (2, .int (nI (mx g (cB g v) a))), (3, .int (nI a))] [] μ) (fun _ _ => True) ?_ ?_ 0 () (Nat.zero_le _) trivial
  · intro _ _
    exact wX5_mostAlike_4 _ _ _ μ ⟨fun _ => ⟨rfl, rfl⟩, fun z => absurd (nge (by omega) (Nat.le_refl _)) z⟩
  · intro a _ ha _ ih
    have ih' := ih () trivial
    refine wX5_mostAlike_4 _ _ _ μ ⟨fun z => absurd z (nnge (by omega) ha), fun _ => ?_⟩
    have hm := mx_6B (g := g) (v := v) (n := a)
    have hc : cB g v a ≤ 6 := cN_le
    cases ga : g a with
    | false =>
      refine wX5_mostAlike_16 _ _ _ _ _ μ ?_
      rw [hg a ha, ga, nI_add a 1]
      refine ⟨fun z => absurd z (nnge (by omega) (by omega)), fun _ => ⟨fun _ => ⟨fun _ => ?_, fun y => absurd (nge (by omega) (Nat.zero_le _)) y⟩, fun z => absurd z (by decide)⟩⟩
      rw [show mx g (cB g v) (a + 1) = mx g (cB g v) a from if_neg (by rw [ga]; simp)] at ih'; exact ih'
    | true =>
      refine cnt_loop 6 (fun b (_ : Unit) => Vq κ (fun r μ' => r = some (.int (nI (mx g (cB g v) 6))) ∧ μ' = μ) mX5_mostAlike 16 [(0, .ref 66), (1, .int fit), (2, .int (nI (mx g (cB g v) a))), (3, .int (nI a)), (4, .int (nI (cN (fun b => g b && decide (v a = v b)) b))), (5, .int (nI b))] [] μ) (fun _ _ => True) ?_ ?_ 0 () (by omega) trivial
      · intro _ _
        refine wX5_mostAlike_16 _ _ _ _ _ μ ?_
        rw [nI_add a 1, nIle (show cN _ 6 < 2 ^ 31 from by have := hc; unfold cB at this; omega) (by omega)]
        refine ⟨fun _ => ⟨fun y => ?_, fun y => ?_⟩, fun z => absurd (nge (by omega) (Nat.le_refl _)) z⟩
        · rw [show mx g (cB g v) (a + 1) = mx g (cB g v) a from if_neg (fun w => absurd w.2 (by unfold cB; unfold cB at y; omega))] at ih'; exact ih'
        · rw [show mx g (cB g v) (a + 1) = cB g v a from if_pos ⟨ga, by unfold cB; unfold cB at y; omega⟩] at ih'; exact ih'
      · intro b _ hb _ ih2
        have ih3 := ih2 () trivial
        have E : ∀ x, cN (fun b => g b && decide (v a = v b)) (b + 1) = x → Vq κ (fun r μ' => r = some (.int (nI (mx g (cB g v) 6))) ∧ μ' = μ) mX5_mostAlike 16 [(0, .ref 66), (1, .int fit), (2, .int (nI (mx g (cB g v) a))), (3, .int (nI a)), (4, .int (nI x)), (5, .int (nI (b + 1)))] [] μ := fun x hx => by rw [← hx]; exact ih3
        refine wX5_mostAlike_16 _ _ _ _ _ μ ?_
        rw [hg a ha, ga, hg b hb, nI_add b 1, nI_add (cN _ b) 0, nI_add (cN _ b) 1, cl (n := a) (by omega), cl (n := b) (by omega), hv a ha, hv b hb]
        refine ⟨fun z => absurd z (nnge (by omega) hb), fun _ => ⟨fun z => absurd z (by decide), fun _ => ⟨fun z => E _ ?_, fun z => ⟨vin ha (by decide), vin hb (by decide), fun y => E _ ?_, fun y => E _ ?_⟩⟩⟩⟩
        · show cN _ b + (if (g b && decide (v a = v b)) = true then 1 else 0) = _
          rw [z, Bool.false_and]; rfl
        · show cN _ b + (if (g b && decide (v a = v b)) = true then 1 else 0) = _
          rw [z, decide_eq_false y]; rfl
        · show cN _ b + (if (g b && decide (v a = v b)) = true then 1 else 0) = _
          rw [z, decide_eq_true y]; rfl
/-- what a kind tells at a size and a day -/
def amt (b : Bool) (x t kd : Nat) : Nat := match b with
  | true => fallN kd x t
  | false => growN kd x t
def mAl (b : Bool) (f : Nat → Bool) (x t : Nat) : Nat := mx f (cA f (fun kd => nI (amt b x t kd))) 6
def lkD (m : Nat → Nat → Nat) (x : Nat) : Nat → Int32 × Nat → Int32 × Nat
  | 0, q => q
  | t + 1, q => if m x t < (lkD m x t q).2 then (nI (100 * x + t), m x t) else lkD m x t q
def lkP (m : Nat → Nat → Nat) (w D : Nat) : Nat → Int32 × Nat
  | 0 => (-1, 7)
  | p + 1 => lkD m (p * w) D (lkP m w D p)
def lkA (b : Bool) (f : Nat → Bool) (w D P : Nat) : Int32 := if fbs f 6 = 0 then -1 else (lkP (mAl b f) w D P).1
theorem lkD_7 {m : Nat → Nat → Nat} (hm : ∀ x t, m x t ≤ 6) {x : Nat} {q : Int32 × Nat} (hq : q.2 ≤ 7) : ∀ {t : Nat}, (lkD m x t q).2 ≤ 7
  | 0 => hq
  | t + 1 => by
    show (if m x t < (lkD m x t q).2 then (nI (100 * x + t), m x t) else lkD m x t q).2 ≤ 7
    split
    · have := hm x t; show m x t ≤ 7; omega
    · exact lkD_7 hm hq
theorem lkP_7 {m : Nat → Nat → Nat} (hm : ∀ x t, m x t ≤ 6) {w D : Nat} : ∀ {p : Nat}, (lkP m w D p).2 ≤ 7
  | 0 => Nat.le_refl 7
  | p + 1 => lkD_7 hm (lkP_7 hm)
theorem kX4_fill {μ : Mm} (b : Bool) (a1 : Int32) (hb : a1 = 0 ↔ b = false) {x t : Nat} (hx : x < 60) (ht : t < 60) : Con mX4_fillAmounts [.ref 0, .int a1, .int (nI x), .int (nI t)] μ (fun r μ' => r = none ∧ (∀ kd, kd < 6 → μ'.1 1 kd = nI (amt b x t kd)) ∧ Eqx [1] μ μ') := by
  refine Con.of pnX4 (Nat.le_of_ble_eq_true rfl) (fun κ => wX4_fillAmounts_0 _ _ _ μ ?_)
  refine cnt_loop 6 (fun kd μ1 => Vq κ (fun r μ' => r = none ∧ (∀ kd, kd < 6 → μ'.1 1 kd = nI (amt b x t kd)) ∧ Eqx [1] μ μ') mX4_fillAmounts 3 [(0, .ref 0), (1, .int a1), (2, .int (nI x)), (3, .int (nI t)), (4, .int (nI kd))] [] μ1) (fun n μ1 => (∀ kd, kd < n → μ1.1 1 kd = nI (amt b x t kd)) ∧ Eqx [1] μ μ1) ?_ ?_ 0 μ (Nat.zero_le _) ⟨fun kd hk => absurd hk (by omega), Eqx.rf⟩
  · rintro μ1 ⟨h1, h2⟩
    exact wX4_fillAmounts_3 _ _ _ _ μ1 ⟨fun _ => ⟨rfl, h1, h2⟩, fun z => absurd (nge (by omega) (Nat.le_refl _)) z⟩
  · rintro kd μ1 hk ⟨h1, h2⟩ ih
    refine wX4_fillAmounts_3 _ _ _ _ μ1 ?_
    rw [nI_add kd 1, cl (n := kd) (by omega), fgrow_N (by omega) (by omega) (by omega), ffall_N (by omega) (by omega) (by omega)]
    have H : ∀ μ2 : Mm, μ2 = mset μ1 1 kd (nI (amt b x t kd)) → Vq κ (fun r μ' => r = none ∧ (∀ kd, kd < 6 → μ'.1 1 kd = nI (amt b x t kd)) ∧ Eqx [1] μ μ') mX4_fillAmounts 3 [(0, .ref 0), (1, .int a1), (2, .int (nI x)), (3, .int (nI t)), (4, .int (nI (kd + 1)))] [] μ2 := by
      rintro μ2 rfl
      refine ih _ ⟨fun j hj => ?_, h2.tr ⟨rfl, fun a ha => ms_row (fun z => ha (by rw [z]; simp))⟩⟩
      by_cases e : j = kd
      · subst e; rw [ms_at]
      · rw [ms_col e]; exact h1 j (by omega)
    refine ⟨fun z => absurd z (nnge (by omega) hk), fun _ => ⟨fun z => ⟨vin hk (by decide), fun μ2 e => H μ2 ?_⟩, fun z => ⟨vin hk (by decide), fun μ2 e => H μ2 ?_⟩⟩⟩
    · rw [hb] at z; rw [e, z]; rfl
    · rw [hb, Bool.not_eq_false] at z; rw [e, z]; rfl
theorem kX4_clearest {μ : Mm} (b : Bool) (a1 : Int32) (hb : a1 = 0 ↔ b = false) (f : Nat → Bool) {P w D : Nat} (hP : (P + 1) * w = 60) (hP2 : P < 60) (hD : D < 20) : Con mX4_clearest [.ref 0, .int a1, .int (fbs f 6), .int (nI P), .int (nI w), .int (nI D)] μ (fun r μ' => r = some (.int (lkA b f w (D + 1) (P + 1))) ∧ Eqx [1] μ μ') := by
  refine Con.of pnX4 (Nat.le_of_ble_eq_true rfl) (fun κ => wX4_clearest_0 _ _ _ _ _ μ ?_)
  by_cases e0 : fbs f 6 = 0
  · refine wX4_clearest_10 _ _ _ _ _ _ _ _ μ ⟨fun z => absurd z (by rw [nIlt (by omega) (by omega)]; omega), fun _ => ⟨fun _ => ⟨?_, Eqx.rf⟩, fun z => absurd e0 z⟩⟩
    unfold lkA; rw [if_pos e0]
  have hm : ∀ x t, mAl b f x t ≤ 6 := fun x t => mx_6
  refine cnt_loop (P + 1) (fun p μ1 => Vq κ (fun r μ' => r = some (.int (lkA b f w (D + 1) (P + 1))) ∧ Eqx [1] μ μ') mX4_clearest 10 [(0, .ref 0), (1, .int a1), (2, .int (fbs f 6)), (3, .int (nI P)), (4, .int (nI w)), (5, .int (nI D)), (6, .int (lkP (mAl b f) w (D + 1) p).1), (7, .int (nI (lkP (mAl b f) w (D + 1) p).2)), (8, .int (nI p))] [] μ1) (fun _ μ1 => Eqx [1] μ μ1) ?_ ?_ 0 μ (Nat.zero_le _) Eqx.rf
  · intro μ1 hE
    refine wX4_clearest_10 _ _ _ _ _ _ _ _ μ1 ⟨fun _ => ⟨?_, hE⟩, fun z => absurd ((nIlt (by omega) (by omega)).mpr (by omega)) z⟩
    unfold lkA; rw [if_neg e0]
  · intro p μ1 hp hE ih
    have hpw : p * w < 60 := by
      have : (p + 1) * w ≤ (P + 1) * w := Nat.mul_le_mul_right w (by omega)
      have h2 : (p + 1) * w = p * w + w := Nat.succ_mul p w
      have : 0 < w := by
        cases w with
        | zero => rw [Nat.mul_zero] at hP; omega
        | succ w => omega
      omega
    refine wX4_clearest_10 _ _ _ _ _ _ _ _ μ1 ⟨fun z => absurd z (by rw [nIlt (by omega) (by omega)]; omega), fun _ => ⟨fun z => absurd z e0, fun _ => ?_⟩⟩
    refine cnt_loop (D + 1) (fun t μ2 => Vq κ (fun r μ' => r = some (.int (lkA b f w (D + 1) (P + 1))) ∧ Eqx [1] μ μ') mX4_clearest 23 [(0, .ref 0), (1, .int a1), (2, .int (fbs f 6)), (3, .int (nI P)), (4, .int (nI w)), (5, .int (nI D)), (6, .int (lkD (mAl b f) (p * w) t (lkP (mAl b f) w (D + 1) p)).1), (7, .int (nI (lkD (mAl b f) (p * w) t (lkP (mAl b f) w (D + 1) p)).2)), (8, .int (nI p)), (9, .int (nI t))] [] μ2) (fun _ μ2 => Eqx [1] μ μ2) ?_ ?_ 0 μ1 (Nat.zero_le _) hE
    · intro μ2 hE2
      refine wX4_clearest_23 _ _ _ _ _ _ _ _ _ μ2 ?_
      rw [nI_add p 1]
      exact ⟨fun _ => ih μ2 hE2, fun z => absurd ((nIlt (by omega) (by omega)).mpr (by omega)) z⟩
    · intro t μ2 ht hE2 ih2
      have h7 := lkD_7 hm (x := p * w) (t := t) (lkP_7 hm (w := w) (D := D + 1) (p := p))
      refine wX4_clearest_23 _ _ _ _ _ _ _ _ _ μ2 ⟨fun z => absurd z (by rw [nIlt (by omega) (by omega)]; omega), fun _ => ?_⟩
      rw [pk_mul p w]
      refine (kX4_fill b a1 hb hpw (by omega)).mono ?_
      rintro r μ3 ⟨rfl, hv, hE3⟩
      refine ⟨rfl, (kX4_most (g := f) (v := fun kd => nI (amt b (p * w) t kd)) (fun c hc => fbs_fb f hc) hv).mono ?_⟩
      rintro r μ4 ⟨rfl, rfl⟩
      have ih3 := ih2 μ4 (hE2.tr hE3)
      have hm1 := hm (p * w) t
      refine ⟨_, rfl, ?_⟩
      rw [pk_mul, pk_mul, nI_add (100 * p * w) t, nI_add t 1, nIle (by omega) (show mx _ _ 6 < 2 ^ 31 from by have := mx_6 (g := f) (v := fun kd => nI (amt b (p * w) t kd)) (n := 6); omega)]
      refine ⟨fun z => ?_, fun z => ?_⟩
      · rw [show lkD (mAl b f) (p * w) (t + 1) (lkP (mAl b f) w (D + 1) p) = lkD (mAl b f) (p * w) t (lkP (mAl b f) w (D + 1) p) from if_neg (by unfold mAl; unfold mAl at z; omega)] at ih3; exact ih3
      · rw [show lkD (mAl b f) (p * w) (t + 1) (lkP (mAl b f) w (D + 1) p) = (nI (100 * (p * w) + t), mAl b f (p * w) t) from if_pos (by unfold mAl; unfold mAl at z; omega)] at ih3
        rw [Nat.mul_assoc]; exact ih3
