/-! ===== plan ===== -/
abbrev P3 : Type := Nat × Nat × Nat
def kb (q c : P3) : P3 := if c.2.1 < q.2.1 ∨ (c.2.1 = q.2.1 ∧ c.2.2 < q.2.2) then c else q
def fd (f : Nat → P3) (st : Nat) : Nat → P3 → P3
  | 0, q => q
  | n + 1, q => kb (fd f st n q) (f (st + n))
theorem fd_add (f : Nat → P3) (st a : Nat) : ∀ (b : Nat) (q : P3), fd f st (a + b) q = fd f (st + a) b (fd f st a q)
  | 0, _ => rfl
  | b + 1, q => by
    show kb (fd f st (a + b) q) (f (st + (a + b))) = kb (fd f (st + a) b (fd f st a q)) (f (st + a + b))
    rw [fd_add f st a b q, Nat.add_assoc]
theorem fd_cg {f g : Nat → P3} {st : Nat} : ∀ {n : Nat} {q : P3}, (∀ i, i < n → f (st + i) = g (st + i)) → fd f st n q = fd g st n q
  | 0, _, _ => rfl
  | n + 1, q, h => by
    show kb (fd f st n q) (f (st + n)) = kb (fd g st n q) (g (st + n))
    rw [fd_cg (fun i hi => h i (by omega)), h n (by omega)]
def fo (g : Nat → P3 → P3) : Nat → P3 → P3
  | 0, q => q
  | n + 1, q => g n (fo g n q)
theorem fo_id {g : Nat → P3 → P3} {q : P3} (h : ∀ a, g a q = q) : ∀ n, fo g n q = q
  | 0 => rfl
  | n + 1 => by show g n (fo g n q) = q; rw [fo_id h n, h n]
def tr (h : Nat) : Nat → Ln → Nat → Nat → P3 → P3
  | 0, u, gone, pre, q => kb q (pre, gone, ssum u (u 0))
  | m + 1, u, gone, pre, q => fo (fun a q => tr h m (pasL u (nm h a)) (gone + pasN u (nm h a)) (pre * (h + 1) + a) q) (h + 1) q
def rn (h c : Nat) : Nat → Ln × Nat → Ln × Nat
  | 0, p => p
  | d + 1, p => rn h c d (pasL p.1 (nm h (c / (h + 1) ^ d % (h + 1))), p.2 + pasN p.1 (nm h (c / (h + 1) ^ d % (h + 1))))
def pf (h m : Nat) (u : Ln) (gone c : Nat) : P3 := (c, (rn h c m (u, gone)).2, ssum (rn h c m (u, gone)).1 ((rn h c m (u, gone)).1 0))
theorem tr_fd (h : Nat) : ∀ (m : Nat) (u : Ln) (gone pre : Nat) (q : P3), tr h m u gone pre q = fd (pf h m u gone) (pre * (h + 1) ^ m) ((h + 1) ^ m) q
  | 0, u, gone, pre, q => by
    show kb q (pre, gone, ssum u (u 0)) = kb q (pf h 0 u gone (pre * 1 + 0))
    rw [Nat.mul_one, Nat.add_zero]; rfl
  | m + 1, u, gone, pre, q => by
    have key : ∀ k, k ≤ h + 1 → fo (fun a q => tr h m (pasL u (nm h a)) (gone + pasN u (nm h a)) (pre * (h + 1) + a) q) k q = fd (pf h (m + 1) u gone) (pre * (h + 1) ^ (m + 1)) (k * (h + 1) ^ m) q := by
      intro k
      induction k with
      | zero => intro _; rw [Nat.zero_mul]; rfl
      | succ k ih =>
        intro hk
        show tr h m (pasL u (nm h k)) (gone + pasN u (nm h k)) (pre * (h + 1) + k) (fo _ k q) = _
        rw [ih (by omega), tr_fd h m, Nat.succ_mul, fd_add]
        have e : pre * (h + 1) ^ (m + 1) + k * (h + 1) ^ m = (pre * (h + 1) + k) * (h + 1) ^ m := by
          rw [Nat.pow_succ, Nat.add_mul, Nat.mul_assoc, Nat.mul_comm (h + 1) ((h + 1) ^ m)]
        rw [e]
        refine fd_cg (fun i hi => ?_)
        have hp : 0 < (h + 1) ^ m := Nat.pow_pos (by omega)
        have e2 : ((pre * (h + 1) + k) * (h + 1) ^ m + i) / (h + 1) ^ m % (h + 1) = k := by
          rw [Nat.mul_comm _ ((h + 1) ^ m), Nat.mul_add_div hp, Nat.div_eq_of_lt hi, Nat.add_zero, Nat.add_comm, Nat.add_mul_mod_self_right, Nat.mod_eq_of_lt (by omega)]
        have e3 : rn h ((pre * (h + 1) + k) * (h + 1) ^ m + i) (m + 1) (u, gone) = rn h ((pre * (h + 1) + k) * (h + 1) ^ m + i) m (pasL u (nm h k), gone + pasN u (nm h k)) := by
          show rn h _ m (pasL u (nm h (_ / (h + 1) ^ m % (h + 1))), gone + pasN u (nm h (_ / (h + 1) ^ m % (h + 1)))) = _
          rw [e2]
        unfold pf
        rw [e3]
    have := key (h + 1) (Nat.le_refl _)
    rw [show (h + 1) * (h + 1) ^ m = (h + 1) ^ (m + 1) by rw [Nat.pow_succ, Nat.mul_comm]] at this
    exact this
theorem tr_pr (h : Nat) : ∀ (m : Nat) (u : Ln) (gone pre : Nat) (q : P3), q.2.1 < gone → tr h m u gone pre q = q
  | 0, u, gone, pre, q, hg => by
    show kb q (pre, gone, ssum u (u 0)) = q
    unfold kb
    rw [if_neg]
    rintro (z | z)
    · have : gone < q.2.1 := z; omega
    · have : gone = q.2.1 := z.1; omega
  | m + 1, u, gone, pre, q, hg => fo_id (fun a => tr_pr h m _ _ _ _ (by omega)) (h + 1)
def dgt (h n c j : Nat) : Nat := nm h (c / (h + 1) ^ (n - 1 - j) % (h + 1))
theorem dgt_s {h D pre a j : Nat} (ha : a ≤ h) (hj : j < D) : dgt h (D + 1) (pre * (h + 1) + a) j = dgt h D pre j := by
  unfold dgt
  have e : D + 1 - 1 - j = (D - 1 - j) + 1 := by omega
  have e2 : (pre * (h + 1) + a) / (h + 1) = pre := by
    rw [Nat.mul_comm pre, Nat.mul_add_div (by omega), Nat.div_eq_of_lt (by omega), Nat.add_zero]
  rw [e, Nat.pow_succ, Nat.mul_comm ((h + 1) ^ (D - 1 - j)) (h + 1), ← Nat.div_div_eq_div_mul, e2]
theorem dgt_n {h D pre a : Nat} (ha : a ≤ h) : dgt h (D + 1) (pre * (h + 1) + a) D = nm h a := by
  unfold dgt
  rw [show D + 1 - 1 - D = 0 by omega, Nat.pow_zero, Nat.div_one, Nat.add_comm, Nat.add_mul_mod_self_right, Nat.mod_eq_of_lt (by omega)]
def Rq (μ : Mm) (n h : Nat) (q : P3) : Prop := μ.1 30 3 = nI q.2.1 ∧ q.2.1 ≤ 1000000 ∧ (q.2.1 < 1000000 → q.2.2 ≤ 1000 ∧ μ.1 30 4 = nI q.2.2 ∧ ∀ j, j < n → μ.1 33 j = nI (dgt h n q.1 j))
def Rr (μ : Mm) (h D pre : Nat) : Prop := ∀ j, j < D → μ.1 32 j = nI (dgt h D pre j)
def SX (μ : Mm) (k : Nat) (u : Ln) : Prop := μ.1 k 0 = nI (u 4) ∧ μ.1 k 1 = nI (u 0) ∧ ∀ i, i < u 0 → μ.1 (k + 1) i = nI (u (34 + i)) ∧ μ.1 (k + 2) i = nI (u (41 + i))
theorem SX.ps {μ : Mm} {k v : Nat} {u : Ln} (h0 : u 0 ≤ 7) : SX μ k (pasL u v) ↔ SX μ k u := by
  unfold SX
  rw [pass_lo h0 v 4 (by decide), pass_lo h0 v 0 (by decide)]
  have e : ∀ i, pasL u v (34 + i) = u (34 + i) ∧ pasL u v (41 + i) = u (41 + i) := fun i => ⟨pass_hi h0 v _ (by omega), pass_hi h0 v _ (by omega)⟩
  exact ⟨fun h => ⟨h.1, h.2.1, fun i hi => by rw [← (e i).1, ← (e i).2]; exact h.2.2 i hi⟩, fun h => ⟨h.1, h.2.1, fun i hi => by rw [(e i).1, (e i).2]; exact h.2.2 i hi⟩⟩
theorem LX.sx {μ : Mm} {k : Nat} {u : Ln} (h : LX μ k u) : SX μ k u := ⟨h.1, h.2.1, fun i hi => ⟨(h.2.2.2.1 i hi).1, (h.2.2.2.1 i hi).2.1⟩⟩
theorem SX.cg {μ μ' : Mm} {k : Nat} {u : Ln} (h : SX μ k u) (h0 : μ'.1 k = μ.1 k) (h1 : μ'.1 (k + 1) = μ.1 (k + 1)) (h2 : μ'.1 (k + 2) = μ.1 (k + 2)) : SX μ' k u := ⟨by rw [h0]; exact h.1, by rw [h0]; exact h.2.1, fun i hi => by rw [h1, h2]; exact h.2.2 i hi⟩
def PI (μ : Mm) (u : Ln) (n : Nat) : Prop := μ.1 30 5 = nI n ∧ ∀ c, c ≤ 4 → SX μ (34 + 5 * c) u
theorem PI.ps {μ : Mm} {n v : Nat} {u : Ln} (h0 : u 0 ≤ 7) : PI μ (pasL u v) n ↔ PI μ u n := ⟨fun h => ⟨h.1, fun c hc => (SX.ps h0).mp (h.2 c hc)⟩, fun h => ⟨h.1, fun c hc => (SX.ps h0).mpr (h.2 c hc)⟩⟩
def Kp (D : Nat) (μ μ' : Mm) : Prop := μ'.2 = μ.2 ∧ (∀ c, c ≠ 30 → c ≠ 32 → c ≠ 33 → (c < 39 + 5 * D ∨ 59 ≤ c) → μ'.1 c = μ.1 c) ∧ (∀ j, j < D → μ'.1 32 j = μ.1 32 j) ∧ ∀ j, j ≠ 3 → j ≠ 4 → μ'.1 30 j = μ.1 30 j
theorem Kp.rf {D : Nat} {μ : Mm} : Kp D μ μ := ⟨rfl, fun _ _ _ _ _ => rfl, fun _ _ => rfl, fun _ _ _ => rfl⟩
theorem Kp.tr {D : Nat} {μ μ1 μ2 : Mm} (h : Kp D μ μ1) (g : Kp D μ1 μ2) : Kp D μ μ2 := ⟨g.1.trans h.1, fun c h1 h2 h3 h4 => (g.2.1 c h1 h2 h3 h4).trans (h.2.1 c h1 h2 h3 h4), fun j hj => (g.2.2.1 j hj).trans (h.2.2.1 j hj), fun j h1 h2 => (g.2.2.2 j h1 h2).trans (h.2.2.2 j h1 h2)⟩
theorem Kp.dn {D : Nat} {μ μ1 : Mm} (h : Kp (D + 1) μ μ1) : Kp D μ μ1 := ⟨h.1, fun c h1 h2 h3 h4 => h.2.1 c h1 h2 h3 (by omega), fun j hj => h.2.2.1 j (by omega), h.2.2.2⟩
theorem isL_c {c : Nat} (h : c ≤ 4) : isL (34 + 5 * c) := by
  have : c = 0 ∨ c = 1 ∨ c = 2 ∨ c = 3 ∨ c = 4 := by omega
  rcases this with rfl | rfl | rfl | rfl | rfl <;> (unfold isL; decide)
theorem kX1_keep {μ : Mm} {n h pre gone sz : Nat} {q : P3} (hn : n ≤ 4) (hg : gone ≤ 1000) (hs : sz ≤ 1000) (hq : Rq μ n h q) (hr : Rr μ h n pre) : Con mX1_keepIfBetter [.ref 30, .int (nI gone), .int (nI sz)] μ (fun r μ' => r = none ∧ Rq μ' n h (kb q (pre, gone, sz)) ∧ μ'.1 30 5 = μ.1 30 5 ∧ Kp n μ μ' ∧ ∀ c, c ≠ 30 → c ≠ 33 → μ'.1 c = μ.1 c) := by
  obtain ⟨q1, q2, q3⟩ := id hq
  have W : ∀ μ1 μ2 μ3 : Mm, (gone < q.2.1 ∨ (gone = q.2.1 ∧ sz < q.2.2)) → μ1 = mset μ 30 3 (nI gone) → μ2 = mset μ1 30 4 (nI sz) → μ3 = mcpy μ2 32 33 (nI 0).toNatClampNeg (nI 0).toNatClampNeg (nI 4).toNatClampNeg → Rq μ3 n h (kb q (pre, gone, sz)) ∧ μ3.1 30 5 = μ.1 30 5 ∧ Kp n μ μ3 ∧ ∀ c, c ≠ 30 → c ≠ 33 → μ3.1 c = μ.1 c := by
    rintro μ1 μ2 μ3 hc e1 e2 e3
    rw [cl (n := 0) (by decide), cl (n := 4) (by decide)] at e3
    have ek : kb q (pre, gone, sz) = (pre, gone, sz) := if_pos hc
    have R : ∀ c, c ≠ 30 → c ≠ 33 → μ3.1 c = μ.1 c := fun c h1 h2 => by rw [e3, mc_row h2, e2, ms_row h1, e1, ms_row h1]
    have R30 : ∀ j, j ≠ 3 → j ≠ 4 → μ3.1 30 j = μ.1 30 j := fun j h1 h2 => by rw [e3, mc_row (by decide), e2, ms_col h2, e1, ms_col h1]
    refine ⟨?_, R30 5 (by decide) (by decide), ⟨by rw [e3, e2, e1]; rfl, fun c h1 h2 h3 h4 => R c h1 h3, fun j hj => by rw [R 32 (by decide) (by decide)], R30⟩, R⟩
    rw [ek]
    refine ⟨by rw [e3, mc_row (by decide), e2, ms_col (by decide), e1, ms_at], by show gone ≤ 1000000; omega, fun _ => ⟨hs, by rw [e3, mc_row (by decide), e2, ms_at], fun j hj => ?_⟩⟩
    rw [e3, mc_in (by omega) (by omega), Nat.zero_add, Nat.sub_zero, e2, ms_row (by decide), e1, ms_row (by decide)]
    exact hr j hj
  refine Con.of pnX1 (Nat.le_of_ble_eq_true rfl) (fun κ => wX1_keepIfBetter_0 _ _ μ ?_)
  rw [q1, nIlt (by omega) (by omega), nIe (by omega) (by omega)]
  refine ⟨fun z μ1 e1 μ2 e2 => ⟨cpy_ok (by decide), fun μ3 e3 => ⟨rfl, W μ1 μ2 μ3 (Or.inl z) e1 e2 e3⟩⟩, fun z => ⟨fun y => ⟨rfl, ?_, rfl, Kp.rf, fun _ _ _ => rfl⟩, fun y => ?_⟩⟩
  · unfold kb
    rw [if_neg (by rintro (w | w); exact z w; exact y w.1)]; exact hq
  · obtain ⟨q4, q5, q6⟩ := q3 (by omega)
    rw [q5, nIle (by omega) (by omega)]
    refine ⟨fun w => ⟨rfl, ?_, rfl, Kp.rf, fun _ _ _ => rfl⟩, fun w μ1 e1 μ2 e2 => ⟨cpy_ok (by decide), fun μ3 e3 => ⟨rfl, W μ1 μ2 μ3 (Or.inr ⟨y, by omega⟩) e1 e2 e3⟩⟩⟩
    unfold kb
    rw [if_neg (by rintro (v | v); exact z v; exact absurd v.2 (by show ¬ sz < q.2.2; omega))]; exact hq
theorem ss_le {u : Ln} (h : OKL u) : ∀ {n : Nat}, n ≤ 7 → ssum u n ≤ 60 * n
  | 0, _ => Nat.le_refl 0
  | n + 1, hn => by
    show ssum u n + u (7 + n) ≤ _
    have := ss_le h (n := n) (by omega)
    have := (h.2.2.2.1 n (by omega)).1
    omega
theorem kX1_try {n : Nat} (hn : n ≤ 4) : ∀ (m e : Nat), m ≤ e → ∀ {D gone pre : Nat} {u : Ln} {q : P3} {μ : Mm}, D + m = n → OKL u → u 5 + m < 900000 → gone ≤ 180 * D → LX μ (34 + 5 * D) u → PI μ u n → Rq μ n (u 0) q → Rr μ (u 0) D pre → Con (mX1_tryRows (e + 6)) [.ref 30, .int (nI D), .int (nI gone)] μ (fun r μ' => r = none ∧ Rq μ' n (u 0) (tr (u 0) m u gone pre q) ∧ PI μ' u n ∧ Kp D μ μ') := by
  intro m
  induction m with
  | zero =>
    intro e _ D gone pre u q μ hD hu h5 hg hL hP hq hr
    have h0 := hu.1
    have eD : D = n := by omega
    subst eD
    refine Con.of pnX1 (Nat.le_of_ble_eq_true rfl) (fun κ => wX1_tryRows_0 e _ _ μ ?_)
    rw [hq.1, hP.1, nIle (by omega) (by have := hq.2.1; omega)]
    refine ⟨fun z => ⟨fun y => absurd y (by rw [nIlt (by omega) (by omega)]; omega), fun _ => ⟨vin (by omega) (by decide), ?_⟩⟩, fun z => ⟨rfl, ?_, hP, Kp.rf⟩⟩
    · rw [cl (n := D) (by omega)]
      refine (kX0_allSizes (34 + 5 * D) μ (isL_c hn) h0 hL).mono ?_
      rintro r μ1 ⟨rfl, rfl⟩
      have hs := ss_le hu h0
      refine ⟨_, rfl, (kX1_keep hn (by omega) (by omega) hq hr).mono ?_⟩
      rintro r μ2 ⟨rfl, g1, g2, g3, g4⟩
      exact ⟨rfl, rfl, g1, ⟨g2.trans hP.1, fun c hc => (hP.2 c hc).cg (g4 _ (by omega) (by omega)) (g4 _ (by omega) (by omega)) (g4 _ (by omega) (by omega))⟩, g3⟩
    · rw [tr_pr _ _ _ _ _ _ (by omega)]; exact hq
  | succ m ih =>
    intro e he D gone pre u q μ hD hu h5 hg hL hP hq hr
    have h0 := hu.1
    obtain ⟨e, rfl⟩ : ∃ e', e = e' + 1 := ⟨e - 1, by omega⟩
    refine Con.of pnX1 (Nat.le_of_ble_eq_true rfl) (fun κ => wX1_tryRows_0 (e + 1) _ _ μ ?_)
    rw [hq.1, hP.1, nIle (by omega) (by have := hq.2.1; omega), nI_add D 1, cl (n := D) (by omega), cl (n := D + 1) (by omega)]
    refine ⟨fun z => ⟨fun _ => ⟨vin (by omega) (by decide), vin (by omega) (by decide), ?_⟩, fun y => absurd ((nIlt (by omega) (by omega)).mpr (by omega)) y⟩, fun z => ⟨rfl, by rw [tr_pr _ _ _ _ _ _ (by omega)]; exact hq, hP, Kp.rf⟩⟩
    have hk3 := isL_c (c := D) (by omega)
    have hk4 := isL_c (c := D + 1) (by omega)
    let G : Nat → P3 → P3 := fun a q => tr (u 0) m (pasL u (nm (u 0) a)) (gone + pasN u (nm (u 0) a)) (pre * (u 0 + 1) + a) q
    have eG : tr (u 0) (m + 1) u gone pre q = fo G (u 0 + 1) q := rfl
    rw [eG]
    refine cnt_loop 8 (fun o μ1 => Vq κ (fun r μ' => r = none ∧ Rq μ' n (u 0) (fo G (u 0 + 1) q) ∧ PI μ' u n ∧ Kp D μ μ') (mX1_tryRows (e + 1 + 6)) 55 [(0, .ref 30), (1, .int (nI D)), (2, .int (nI gone)), (3, .ref (31 + 3 + 5 * D)), (4, .ref (31 + 3 + 5 * (D + 1))), (5, .int (nI o))] [] μ1) (fun o μ1 => Rq μ1 n (u 0) (fo G (ix (u 0) o) q) ∧ PI μ1 u n ∧ Kp D μ μ1) ?_ ?_ 0 μ (Nat.zero_le _) ⟨by rw [ix_0]; exact hq, hP, Kp.rf⟩
    · rintro μ1 ⟨g1, g2, g3⟩
      rw [ix_8 h0] at g1
      exact wX1_tryRows_55 (e + 1) _ _ _ _ _ μ1 hk3 hk4 ⟨fun _ => ⟨rfl, g1, g2, g3⟩, fun z => absurd ((nIlt (by omega) (by omega)).mpr (by omega)) z⟩
    · rintro o μ1 ho ⟨g1, g2, g3⟩ ih2
      have hL1 : LX μ1 (34 + 5 * D) u := hL.cg h0 (fun c h1 h2 => g3.2.1 c (by omega) (by omega) (by omega) (by omega)) (fun _ _ => rfl)
      have hr1 : Rr μ1 (u 0) D pre := fun j hj => by rw [g3.2.2.1 j hj]; exact hr j hj
      have b2 : μ1.1 (31 + 3 + 5 * D) 1 = nI (u 0) := hL1.2.1
      refine wX1_tryRows_55 (e + 1) _ _ _ _ _ μ1 hk3 hk4 ⟨fun z => absurd z (by rw [nIlt (by omega) (by omega)]; omega), fun _ => ?_⟩
      rw [b2, fv_dec (by omega) h0, nI_add o 1, nI_add D 1, cl (n := D) (by omega), decide_eq_false_iff_not, decide_eq_true_iff]
      refine ⟨fun z => ih2 μ1 ⟨by rw [ix_n ho z]; exact g1, g2, g3⟩, fun v => ?_⟩
      obtain ⟨x1, x2, x3⟩ := ix_v h0 v
      refine (kX0_copyDaysFrom (34 + 5 * (D + 1)) (34 + 5 * D) μ1 hk4 hk3 (by omega)).mono ?_
      rintro r μ2 ⟨rfl, c6, c7, c0, c3, c4, hE2⟩
      have R2 : ∀ c, c < 39 + 5 * D ∨ 44 + 5 * D ≤ c → μ2.1 c = μ1.1 c := fun c hc => hE2.2 c (by simp; omega)
      have R2' : ∀ c, c = 40 + 5 * D ∨ c = 41 + 5 * D → μ2.1 c = μ1.1 c := fun c hc => hE2.2 c (by simp; omega)
      refine ⟨rfl, vin (by omega) (by decide), fun μ3 e3 => ?_⟩
      have R3 : ∀ c, c ≠ 32 → μ3.1 c = μ2.1 c := fun c hc => by rw [e3, ms_row hc]
      have hS := g2.2 (D + 1) (by omega)
      have hL3 : LX μ3 (34 + 5 * (D + 1)) u := by
        obtain ⟨l1, l2, l3, l4, l5⟩ := hL1
        refine ⟨?_, ?_, ?_, fun i hi => ⟨?_, ?_, ?_⟩, fun c hc => ?_⟩
        · rw [R3 _ (by omega), c0 0 (by decide) (by decide)]; exact hS.1
        · rw [R3 _ (by omega), c0 1 (by decide) (by decide)]; exact hS.2.1
        · rw [R3 _ (by omega), c7]; exact l3
        · rw [R3 _ (by omega), R2' _ (by omega)]; exact (hS.2.2 i hi).1
        · rw [R3 _ (by omega), R2' _ (by omega)]; exact (hS.2.2 i hi).2
        · rw [R3 _ (by omega), c3 i (by omega)]; exact (l4 i hi).2.2
        · rw [R3 _ (by omega), c4 c hc]; exact l5 c hc
      refine (kX0_pass (34 + 5 * (D + 1)) o μ3 hk4 hu (by omega) (by omega) hL3).mono ?_
      rintro r μ4 ⟨rfl, hL4, -, -, hE4⟩
      have R4 : ∀ c, c < 39 + 5 * D ∨ 44 + 5 * D ≤ c → μ4.1 c = μ3.1 c := fun c hc => hE4.2 c (by simp; omega)
      refine ⟨_, rfl, ?_⟩
      have hp := pass_le hu o
      rw [nI_add gone]
      have R41 : ∀ c, c ≠ 32 → (c < 39 + 5 * D ∨ 44 + 5 * D ≤ c) → μ4.1 c = μ1.1 c := fun c h1 h2 => by rw [R4 c h2, R3 c h1, R2 c h2]
      have row : ∀ j, j ≠ D → μ4.1 32 j = μ1.1 32 j := fun j hj => by rw [R4 32 (by omega), e3, ms_col hj, R2 32 (by omega)]
      have rowD : μ4.1 32 D = nI o := by rw [R4 32 (by omega), e3, ms_at]
      have hP4 : PI μ4 (pasL u o) n := by
        rw [PI.ps h0]
        refine ⟨by rw [R41 30 (by decide) (by omega)]; exact g2.1, fun c hc => ?_⟩
        by_cases ec : c = D + 1
        · rw [ec]; exact (SX.ps h0).mp hL4.sx
        · exact (g2.2 c hc).cg (R41 _ (by omega) (by omega)) (R41 _ (by omega) (by omega)) (R41 _ (by omega) (by omega))
      have hq4 : Rq μ4 n (u 0) (fo G (ix (u 0) o) q) := by
        obtain ⟨k1, k2, k3⟩ := g1
        refine ⟨by rw [R41 30 (by decide) (by omega)]; exact k1, k2, fun z => ⟨(k3 z).1, by rw [R41 30 (by decide) (by omega)]; exact (k3 z).2.1, fun j hj => by rw [R41 33 (by decide) (by omega)]; exact (k3 z).2.2 j hj⟩⟩
      have hr4 : Rr μ4 (u 0) (D + 1) (pre * (u 0 + 1) + ix (u 0) o) := fun j hj => by
        by_cases ej : j = D
        · rw [ej, rowD, dgt_n x3, x2]
        · rw [row j ej, dgt_s x3 (by omega)]; exact hr1 j (by omega)
      have e0 : pasL u o 0 = u 0 := pass_lo h0 o 0 (by decide)
      have key := ih e (by omega) (D := D + 1) (gone := gone + pasN u o) (pre := pre * (u 0 + 1) + ix (u 0) o) (u := pasL u o) (q := fo G (ix (u 0) o) q) (μ := μ4) (by omega) (pass_ok hu (by omega) o) (by rw [pass_5 h0]; omega) (by omega) hL4 hP4 (by rw [e0]; exact hq4) (by rw [e0]; exact hr4)
      rw [e0] at key
      refine key.mono ?_
      rintro r μ5 ⟨rfl, f1, f2, f3⟩
      refine ⟨rfl, ih2 μ5 ⟨?_, (PI.ps h0).mp f2, g3.tr (Kp.tr ⟨?_, fun c h1 h2 h3 h4 => ?_, fun j hj => row j (by omega), fun j h1 h2 => by rw [R41 30 (by decide) (by omega)]⟩ f3.dn)⟩⟩
      · rw [x1]
        show Rq μ5 n (u 0) (tr (u 0) m (pasL u (nm (u 0) (ix (u 0) o))) (gone + pasN u (nm (u 0) (ix (u 0) o))) (pre * (u 0 + 1) + ix (u 0) o) (fo G (ix (u 0) o) q))
        rw [x2]; exact f1
      · rw [hE4.1, e3]; exact hE2.1
      · exact R41 c h2 (by omega)
