/-! ===== more of Land ===== -/
theorem mc_row {μ : Mm} {k0 k1 sp dp n a : Nat} (h : a ≠ k1) : (mcpy μ k0 k1 sp dp n).1 a = μ.1 a := by funext b; simp [mcpy, h]
theorem mc_in {μ : Mm} {k0 k1 sp dp n j : Nat} (h : dp ≤ j) (h2 : j < dp + n) : (mcpy μ k0 k1 sp dp n).1 k1 j = μ.1 k0 (sp + (j - dp)) := by
  simp only [mcpy, if_true]
  exact pk_cpy_in h h2
theorem mc_out {μ : Mm} {k0 k1 sp dp n j : Nat} (h : j < dp ∨ dp + n ≤ j) : (mcpy μ k0 k1 sp dp n).1 k1 j = μ.1 k1 j := by
  simp only [mcpy, if_true]
  exact pk_cpy_out h
theorem Eqx.mc {S : List Nat} {μ μ1 : Mm} {k0 k1 sp dp n : Nat} (h : Eqx S μ μ1) (hk : k1 ∈ S) : Eqx S μ (mcpy μ1 k0 k1 sp dp n) := ⟨h.1, fun a ha => (mc_row (fun (e : a = k1) => ha (by rw [e]; exact hk))).trans (h.2 a ha)⟩
theorem isL_apart {k r : Nat} (hk : isL k) (hr : isL r) (h : k ≠ r) : k + 5 ≤ r ∨ r + 5 ≤ k := (by decide : ∀ k ∈ [4, 13, 22, 34, 39, 44, 49, 54, 61], ∀ r ∈ [4, 13, 22, 34, 39, 44, 49, 54, 61], k ≠ r → k + 5 ≤ r ∨ r + 5 ≤ k) k hk r hr h
/-- Arrays.fill -/
theorem kJ7_fill (r N : Nat) (x : Int32) (μ : Mm) (hr : shp r = .inr (0, N)) (hN : N < 2 ^ 31) : Con mJ7_fill_53178 [.ref r, .int x] μ (fun r0 μ' => r0 = none ∧ (∀ j, j < N → μ'.1 r j = x) ∧ Eqx [r] μ μ') := by
  refine Con.of pnJ7 (Nat.le_of_ble_eq_true rfl) (fun κ => wJ7_fill_53178_0 r N x μ hr ?_)
  have loop : ∀ n t (μ1 : Mm), t + n = N → (∀ j, j < t → μ1.1 r j = x) → Eqx [r] μ μ1 → Vq κ (fun r0 μ' => r0 = none ∧ (∀ j, j < N → μ'.1 r j = x) ∧ Eqx [r] μ μ') mJ7_fill_53178 5 [(0, .ref r), (1, .int x), (2, .int (nI t)), (3, .int (nI N))] [] μ1 := by
    intro n
    induction n with
    | zero =>
      intro t μ1 ht hj hE
      refine wJ7_fill_53178_5 r N _ _ _ μ1 hr ⟨fun _ => ⟨rfl, fun j h => hj j (by omega), hE⟩, fun h => absurd ?_ h⟩
      rw [nIle hN (by omega)]; omega
    | succ n ih =>
      intro t μ1 ht hj hE
      refine wJ7_fill_53178_5 r N _ _ _ μ1 hr ⟨fun h => ?_, fun _ => ⟨vin (by omega) hN, fun μ2 e2 => ?_⟩⟩
      · rw [nIle hN (by omega)] at h; omega
      · rw [cl (by omega)] at e2
        rw [nI_add]
        refine ih (t + 1) μ2 (by omega) (fun j h => ?_) (by rw [e2]; exact hE.ms (by simp))
        rw [e2]
        by_cases e : j = t
        · subst e; exact ms_at _ _ _ _
        · rw [ms_col e]; exact hj j (by omega)
  exact loop N 0 μ (by omega) (fun j h => by omega) Eqx.rf
theorem kX0_restart (k : Nat) (x : Int32) (μ : Mm) (hk : isL k) : Con mX0_restart [.ref k, .int x] μ (fun r μ' => r = none ∧ μ'.1 k 0 = x ∧ μ'.1 k 1 = nI 0 ∧ μ'.1 k 6 = nI 0 ∧ μ'.1 k 7 = nI 0 ∧ (∀ c, c < 20 → μ'.1 (k + 4) c = nI 1) ∧ Eqx [k, k + 4] μ μ') := by
  refine Con.of pnX0 (Nat.le_of_ble_eq_true rfl) (fun κ => wX0_restart_0 k x μ hk (fun μ1 e1 μ2 e2 => ?_))
  refine (kJ7_fill (k + 4) 20 (nI 1) μ2 (sL4 hk) (by decide)).mono ?_
  rintro r μ3 ⟨rfl, h3, hE⟩
  refine ⟨rfl, fun μ4 e4 μ5 e5 => ⟨rfl, ?_, ?_, ?_, ?_, fun c hc => ?_, ?_⟩⟩
  · rw [e5, ms_col (by decide), e4, ms_col (by decide), hE.2 k (by simp), e2, ms_col (by decide), e1, ms_at]
  · rw [e5, ms_col (by decide), e4, ms_col (by decide), hE.2 k (by simp), e2, ms_at]
  · rw [e5, ms_col (by decide), e4, ms_at]
  · rw [e5, ms_at]
  · rw [e5, ms_row (by omega), e4, ms_row (by omega)]; exact h3 c hc
  · rw [e5, e4]
    refine (Eqx.ms ?_ (by simp)).ms (by simp)
    refine Eqx.tr ?_ (hE.mn (by simp))
    rw [e2, e1]
    exact (Eqx.rf.ms (by simp)).ms (by simp)
theorem kX0_copyDaysFrom (k r : Nat) (μ : Mm) (hk : isL k) (hr : isL r) (hne : k ≠ r) : Con mX0_copyDaysFrom [.ref k, .ref r] μ (fun r0 μ' => r0 = none ∧ μ'.1 k 6 = μ.1 r 6 ∧ μ'.1 k 7 = μ.1 r 7 ∧ (∀ i, i ≠ 6 → i ≠ 7 → μ'.1 k i = μ.1 k i) ∧ (∀ i, i < 7 → μ'.1 (k + 3) i = μ.1 (r + 3) i) ∧ (∀ c, c < 20 → μ'.1 (k + 4) c = μ.1 (r + 4) c) ∧ Eqx [k, k + 3, k + 4] μ μ') := by
  have hap := isL_apart hk hr hne
  refine Con.of pnX0 (Nat.le_of_ble_eq_true rfl) (fun κ => wX0_copyDaysFrom_0 k r μ hk hr ⟨by decide, fun μ1 e1 => ⟨by decide, fun μ2 e2 μ3 e3 μ4 e4 => ?_⟩⟩)
  rw [cl (by decide), cl (by decide)] at e1 e2
  refine ⟨rfl, ?_, ?_, fun i h6 h7 => ?_, fun i hi => ?_, fun c hc => ?_, ?_⟩
  · rw [e4, ms_col (by decide), e3, ms_at, e2, mc_row (by omega), e1, mc_row (by omega)]
  · rw [e4, ms_at, e3, ms_row (by omega), e2, mc_row (by omega), e1, mc_row (by omega)]
  · rw [e4, ms_col h7, e3, ms_col h6, e2, mc_row (by omega), e1, mc_row (by omega)]
  · rw [e4, ms_row (by omega), e3, ms_row (by omega), e2, mc_row (by omega), e1, mc_in (by omega) (by omega)]
    rw [Nat.zero_add, Nat.sub_zero]
  · rw [e4, ms_row (by omega), e3, ms_row (by omega), e2, mc_in (by omega) (by omega), e1, mc_row (by omega)]
    rw [Nat.zero_add, Nat.sub_zero]
  · rw [e4, e3, e2, e1]
    exact (((Eqx.rf.mc (by simp)).mc (by simp)).ms (by simp)).ms (by simp)
/-- a copied land: all that a land holds, but who went off -/
def CpL (μ : Mm) (k r : Nat) (μ' : Mm) : Prop := (∀ i, i ≠ 8 → i < 8 → μ'.1 k i = μ.1 r i ∨ (2 ≤ i ∧ i ≤ 5)) ∧ (∀ i, i < 7 → μ'.1 (k + 1) i = μ.1 (r + 1) i ∧ μ'.1 (k + 2) i = μ.1 (r + 2) i ∧ μ'.1 (k + 3) i = μ.1 (r + 3) i) ∧ (∀ c, c < 20 → μ'.1 (k + 4) c = μ.1 (r + 4) c) ∧ Eqx [k, k + 1, k + 2, k + 3, k + 4] μ μ'
theorem CpL.lx {μ μ' : Mm} {k r : Nat} {u : Ln} (h : CpL μ k r μ') (h7 : u 0 ≤ 7) (hL : LX μ r u) : LX μ' k u := by
  obtain ⟨h1, h2, h3, -⟩ := h
  obtain ⟨a1, a2, a3, a4, a5⟩ := hL
  have g : ∀ i, i ≠ 8 → i < 8 → ¬ (2 ≤ i ∧ i ≤ 5) → μ'.1 k i = μ.1 r i := fun i x y z => (h1 i x y).resolve_right z
  refine ⟨by rw [g 0 (by decide) (by decide) (by decide)]; exact a1, by rw [g 1 (by decide) (by decide) (by decide)]; exact a2, by rw [g 7 (by decide) (by decide) (by decide)]; exact a3, fun i hi => ?_, fun c hc => by rw [h3 c hc]; exact a5 c hc⟩
  obtain ⟨b1, b2, b3⟩ := h2 i (by omega)
  rw [b1, b2, b3]; exact a4 i hi
theorem CpL.hm {μ μ' : Mm} {k r : Nat} (h : CpL μ k r μ') : μ'.1 k 6 = μ.1 r 6 := (h.1 6 (by decide) (by decide)).resolve_right (by decide)
theorem kX0_copyFrom (k r : Nat) (μ : Mm) (hk : isL k) (hr : isL r) (hne : k ≠ r) : Con mX0_copyFrom [.ref k, .ref r] μ (fun r0 μ' => r0 = none ∧ CpL μ k r μ') := by
  have hap := isL_apart hk hr hne
  refine Con.of pnX0 (Nat.le_of_ble_eq_true rfl) (fun κ => wX0_copyFrom_0 k r μ hk hr (fun μ1 e1 μ2 e2 => ⟨by decide, fun μ3 e3 => ⟨by decide, fun μ4 e4 => ?_⟩⟩))
  rw [cl (by decide), cl (by decide)] at e3 e4
  refine (kX0_copyDaysFrom k r μ4 hk hr hne).mono ?_
  rintro r0 μ5 ⟨rfl, g6, g7, gk, g3, g4, gE⟩
  have hr0 : ∀ a, a ≠ k → a ≠ k + 1 → a ≠ k + 2 → μ4.1 a = μ.1 a := by
    intro a x y z
    rw [e4, mc_row z, e3, mc_row y, e2, ms_row x, e1, ms_row x]
  have hk0 : ∀ i, μ4.1 k i = if i = 0 then μ.1 r 0 else if i = 1 then μ.1 r 1 else μ.1 k i := by
    intro i
    rw [e4, mc_row (by omega), e3, mc_row (by omega), e2]
    by_cases h1 : i = 1
    · subst h1; rw [ms_at, e1, ms_row (Ne.symm hne)]; rfl
    · rw [ms_col h1, e1]
      by_cases h0 : i = 0
      · subst h0; rw [ms_at]; rfl
      · rw [ms_col h0, if_neg h0, if_neg h1]
  refine ⟨rfl, rfl, fun i h8 hi => ?_, fun i hi => ⟨?_, ?_, ?_⟩, fun c hc => ?_, ?_⟩
  · by_cases h6 : i = 6
    · subst h6; left; rw [g6, hr0 r (by omega) (by omega) (by omega)]
    · by_cases h7 : i = 7
      · subst h7; left; rw [g7, hr0 r (by omega) (by omega) (by omega)]
      · rw [gk i h6 h7, hk0]
        by_cases h0 : i = 0
        · subst h0; left; rfl
        · by_cases h1 : i = 1
          · subst h1; left; rfl
          · right; omega
  · rw [gE.2 (k + 1) (by simp), e4, mc_row (by omega), e3, mc_in (by omega) (by omega), Nat.zero_add, Nat.sub_zero, e2, ms_row (by omega), e1, ms_row (by omega)]
  · rw [gE.2 (k + 2) (by simp), e4, mc_in (by omega) (by omega), Nat.zero_add, Nat.sub_zero, e3, mc_row (by omega), e2, ms_row (by omega), e1, ms_row (by omega)]
  · rw [g3 i hi, hr0 _ (by omega) (by omega) (by omega)]
  · rw [g4 c hc, hr0 _ (by omega) (by omega) (by omega)]
  · refine Eqx.tr ?_ (gE.mn (by simp))
    rw [e4, e3, e2, e1]
    exact (((Eqx.rf.ms (by simp)).ms (by simp)).mc (by simp)).mc (by simp)
theorem kX1_startFrom (r : Nat) (μ : Mm) (hr : isL r) (hne : r ≠ 34) : Con mX1_startFrom [.ref 30, .ref r] μ (fun r0 μ' => r0 = some (.ref 34) ∧ CpL μ 34 r μ') := by
  refine Con.of pnX1 (Nat.le_of_ble_eq_true rfl) (fun κ => wX1_startFrom_0 r μ hr ?_)
  rw [cl (by decide)]
  refine (kX0_copyFrom 34 r μ isL_34 hr (Ne.symm hne)).mono ?_
  rintro r0 μ1 ⟨rfl, h⟩
  exact ⟨rfl, rfl, h⟩
/-- whether a cell bears one of the first n hills -/
def tkn (u : Ln) (c : Nat) : Nat → Bool
  | 0 => false
  | n + 1 => tkn u c n || decide (u (41 + n) = c)
theorem tkn_hit {u : Ln} {c i : Nat} (h : u (41 + i) = c) : ∀ n, i < n → tkn u c n = true
  | 0, hn => by omega
  | n + 1, hn => by
    unfold tkn
    by_cases e : i = n
    · subst e; rw [decide_eq_true h, Bool.or_true]
    · rw [tkn_hit h n (by omega), Bool.true_or]
theorem kX0_isTaken (k c : Nat) (μ : Mm) (hk : isL k) {u : Ln} (hu : OKL u) (hc : c < 2 ^ 31) (hL : LX μ k u) : Con mX0_isTaken [.ref k, .int (nI c)] μ (Rv (.int (bI (tkn u c (u 0)))) μ) := by
  refine Con.of pnX0 (Nat.le_of_ble_eq_true rfl) (fun κ => wX0_isTaken_0 k _ μ hk ?_)
  obtain ⟨-, h1, -, hr, -⟩ := hL
  obtain ⟨h0, -, -, hs, -⟩ := hu
  have loop : ∀ n i, i + n = u 0 → tkn u c i = false → Vq κ (Rv (.int (bI (tkn u c (u 0)))) μ) mX0_isTaken 2 [(0, .ref k), (1, .int (nI c)), (2, .int (nI i))] [] μ := by
    intro n
    induction n with
    | zero =>
      intro i hi he
      refine wX0_isTaken_2 k _ _ μ hk ⟨fun _ => rvb ?_, fun h => absurd ?_ h⟩
      · rw [show u 0 = i by omega]; exact he
      · rw [h1, nIle (by omega) (by omega)]; omega
    | succ n ih =>
      intro i hi he
      have hsi := hs i (by omega)
      refine wX0_isTaken_2 k _ _ μ hk ⟨fun h => ?_, fun _ => ⟨vin (by omega) (by decide), ⟨fun h => ?_, fun h => rvb ?_⟩⟩⟩
      · rw [h1, nIle (by omega) (by omega)] at h; omega
      · rw [cl (by omega), (hr i (by omega)).2.1, nIe (by omega) hc] at h
        rw [nI_add]
        refine ih (i + 1) (by omega) ?_
        show (tkn u c i || decide (u (41 + i) = c)) = false
        rw [he, decide_eq_false h]; rfl
      · rw [cl (by omega), (hr i (by omega)).2.1, nIe (by omega) hc] at h
        exact tkn_hit h _ (by omega)
  exact loop (u 0) 0 (by omega) rfl
theorem kX0_allVines (k : Nat) (μ : Mm) (hk : isL k) {u : Ln} (hL : ∀ c, c < 20 → μ.1 (k + 4) c = nI (u (14 + c))) : Con mX0_allVines [.ref k] μ (Rv (.int (nI (vall u 20))) μ) := by
  refine Con.of pnX0 (Nat.le_of_ble_eq_true rfl) (fun κ => wX0_allVines_0 k μ hk ?_)
  have loop : ∀ n i, i + n = 20 → Vq κ (Rv (.int (nI (vall u 20))) μ) mX0_allVines 4 [(0, .ref k), (1, .int (nI (vall u i))), (2, .int (nI i))] [] μ := by
    intro n
    induction n with
    | zero =>
      intro i hi
      have e : i = 20 := by omega
      subst e
      exact wX0_allVines_4 k _ _ μ hk ⟨fun _ => rvi rfl, fun h => absurd ((nIle (by decide) (by decide)).mpr (by decide)) h⟩
    | succ n ih =>
      intro i hi
      refine wX0_allVines_4 k _ _ μ hk ⟨fun h => ?_, fun _ => ⟨vin (by omega) (by decide), ?_⟩⟩
      · rw [nIle (by decide) (by omega)] at h; omega
      · rw [cl (by omega), hL i (by omega), nI_add, nI_add]
        exact ih (i + 1) (by omega)
  exact loop 20 0 rfl
def ssum (u : Ln) : Nat → Nat
  | 0 => 0
  | n + 1 => ssum u n + u (7 + n)
theorem kX0_allSizes (k : Nat) (μ : Mm) (hk : isL k) {u : Ln} (h7 : u 0 ≤ 7) (hL : LX μ k u) : Con mX0_allSizes [.ref k] μ (Rv (.int (nI (ssum u (u 0)))) μ) := by
  refine Con.of pnX0 (Nat.le_of_ble_eq_true rfl) (fun κ => wX0_allSizes_0 k μ hk ?_)
  obtain ⟨-, h1, -, hr, -⟩ := hL
  have loop : ∀ n i, i + n = u 0 → Vq κ (Rv (.int (nI (ssum u (u 0)))) μ) mX0_allSizes 4 [(0, .ref k), (1, .int (nI (ssum u i))), (2, .int (nI i))] [] μ := by
    intro n
    induction n with
    | zero =>
      intro i hi
      refine wX0_allSizes_4 k _ _ μ hk ⟨fun _ => rvi (by rw [show u 0 = i by omega]), fun h => absurd ?_ h⟩
      rw [h1, nIle (by omega) (by omega)]; omega
    | succ n ih =>
      intro i hi
      refine wX0_allSizes_4 k _ _ μ hk ⟨fun h => ?_, fun _ => ⟨vin (by omega) (by decide), ?_⟩⟩
      · rw [h1, nIle (by omega) (by omega)] at h; omega
      · rw [cl (by omega), (hr i (by omega)).2.2, nI_add, nI_add]
        exact ih (i + 1) (by omega)
  exact loop (u 0) 0 (by omega)
/-- the hill of most size among the first n; 7: none -/
def tallA (u : Ln) : Nat → Nat
  | 0 => 7
  | n + 1 => if tallA u n = 7 ∨ u (7 + tallA u n) < u (7 + n) then n else tallA u n
abbrev tall (u : Ln) : Nat := tallA u (u 0)
theorem tallA_lt (u : Ln) : ∀ n, tallA u n = 7 ∨ tallA u n < n
  | 0 => Or.inl rfl
  | n + 1 => by
    have := tallA_lt u n
    unfold tallA
    split <;> omega
theorem tallA_7 (u : Ln) : ∀ n, n ≤ 7 → (tallA u n = 7 ↔ n = 0)
  | 0, _ => ⟨fun _ => rfl, fun _ => rfl⟩
  | n + 1, h => by
    have h1 := tallA_7 u n (by omega)
    have h2 := tallA_lt u n
    unfold tallA
    split <;> omega
theorem kX0_tallest (k : Nat) (μ : Mm) (hk : isL k) {u : Ln} (hu : OKL u) (hL : LX μ k u) : Con mX0_tallest [.ref k] μ (Rv (.int (nI (tall u))) μ) := by
  refine Con.of pnX0 (Nat.le_of_ble_eq_true rfl) (fun κ => wX0_tallest_0 k μ hk ?_)
  obtain ⟨-, h1, -, hr, -⟩ := hL
  obtain ⟨h0, -, -, hs, -⟩ := hu
  have loop : ∀ n i, i + n = u 0 → Vq κ (Rv (.int (nI (tall u))) μ) mX0_tallest 7 [(0, .ref k), (1, .int (nI (tallA u i))), (2, .int (if tallA u i = 7 then -1 else nI (u (7 + tallA u i)))), (3, .int (nI i))] [] μ := by
    intro n
    induction n with
    | zero =>
      intro i hi
      refine wX0_tallest_7 k _ _ _ μ hk ⟨fun _ => rvi (by show nI (tallA u (u 0)) = _; rw [show u 0 = i by omega]), fun h => absurd ?_ h⟩
      rw [h1, nIle (by omega) (by omega)]; omega
    | succ n ih =>
      intro i hi
      have hsi := (hs i (by omega)).1
      have hlt := tallA_lt u i
      have h7 := tallA_7 u i (by omega)
      have ih' := ih (i + 1) (by omega)
      refine wX0_tallest_7 k _ _ _ μ hk ⟨fun h => ?_, fun _ => ⟨vin (by omega) (by decide), ⟨fun h => ?_, fun h => ?_⟩⟩⟩
      · rw [h1, nIle (by omega) (by omega)] at h; omega
      · rw [cl (by omega), (hr i (by omega)).2.2] at h
        rw [nI_add]
        by_cases e : tallA u i = 7
        · exfalso
          rw [if_pos e, Int32.le_iff_toInt_le, nI_toInt (by omega)] at h
          have : (-1 : Int32).toInt = -1 := by decide
          omega
        · have ht := (hs (tallA u i) (by omega)).1
          rw [if_neg e, nIle (by omega) (by omega)] at h
          have e2 : tallA u (i + 1) = tallA u i := by
            show (if tallA u i = 7 ∨ u (7 + tallA u i) < u (7 + i) then i else tallA u i) = _
            rw [if_neg (by omega)]
          rw [e2] at ih'
          exact ih'
      · rw [cl (by omega), (hr i (by omega)).2.2] at h ⊢
        rw [nI_add]
        have e2 : tallA u (i + 1) = i := by
          show (if tallA u i = 7 ∨ u (7 + tallA u i) < u (7 + i) then i else tallA u i) = _
          rw [if_pos]
          by_cases e : tallA u i = 7
          · exact Or.inl e
          · have ht := (hs (tallA u i) (by omega)).1
            rw [if_neg e, nIle (by omega) (by omega)] at h
            exact Or.inr (by omega)
        rw [e2, if_neg (show ¬ i = 7 by omega)] at ih'
        exact ih'
  exact loop (u 0) 0 (by omega)
/-! days by a rule: whom to visit -/
def runL (f : Nat → Ln → Nat) : Nat → Nat → Ln → Ln
  | 0, _, u => u
  | n + 1, i, u => runL f n (i + 1) (pasL u (f i u))
def runN (f : Nat → Ln → Nat) : Nat → Nat → Ln → Nat
  | 0, _, _ => 0
  | n + 1, i, u => pasN u (f i u) + runN f n (i + 1) (pasL u (f i u))
theorem run_ok (f : Nat → Ln → Nat) : ∀ (n i : Nat) (u : Ln), OKL u → u 5 + n ≤ 999999 → OKL (runL f n i u) ∧ (runL f n i u) 0 = u 0 ∧ runL f n i u 5 = u 5 + n
  | 0, _, _, h, _ => ⟨h, rfl, rfl⟩
  | n + 1, i, u, h, h5 => by
    have h1 := run_ok f n (i + 1) (pasL u (f i u)) (pass_ok h (by omega) _) (by rw [pass_5 h.1]; omega)
    refine ⟨h1.1, h1.2.1.trans (pass_lo h.1 _ _ (by decide)), h1.2.2.trans ?_⟩
    rw [pass_5 h.1]; omega
theorem run_le (f : Nat → Ln → Nat) : ∀ (n i : Nat) (u : Ln), OKL u → u 5 + n ≤ 999999 → runN f n i u + vall (runL f n i u) 20 = vall u 20
  | 0, _, u, _, _ => by show 0 + vall u 20 = _; omega
  | n + 1, i, u, h, h5 => by
    have h1 := run_le f n (i + 1) (pasL u (f i u)) (pass_ok h (by omega) _) (by rw [pass_5 h.1]; omega)
    have h2 := pass_sum h.1 (f i u)
    show pasN u (f i u) + runN f n (i + 1) (pasL u (f i u)) + vall (runL f n (i + 1) (pasL u (f i u))) 20 = _
    omega
theorem run_180 (f : Nat → Ln → Nat) {n i : Nat} {u : Ln} (h : OKL u) (h5 : u 5 + n ≤ 999999) : runN f n i u ≤ 180 := by
  have h1 := run_le f n i u h h5
  have h2 := vall_le h.2.2.2.2 20 (Nat.le_refl _)
  omega
theorem kX0_passAlone (k m : Nat) (μ : Mm) (hk : isL k) {u : Ln} (hu : OKL u) (h5 : u 5 + m ≤ 999999) (hL : LX μ k u) : Con mX0_passAlone [.ref k, .int (nI m)] μ (fun r μ' => r = some (.int (nI (runN (fun _ _ => 7) m 0 u))) ∧ LX μ' k (runL (fun _ _ => 7) m 0 u) ∧ Eqx [k, k + 3, k + 4] μ μ') := by
  refine Con.of pnX0 (Nat.le_of_ble_eq_true rfl) (fun κ => wX0_passAlone_0 k _ μ hk ?_)
  have loop : ∀ n t (w : Ln) (l : Nat) (μ1 : Mm), t + n = m → OKL w → w 5 + n ≤ 999999 → LX μ1 k w → l + runN (fun _ _ => 7) n t w = runN (fun _ _ => 7) m 0 u → runL (fun _ _ => 7) n t w = runL (fun _ _ => 7) m 0 u → Eqx [k, k + 3, k + 4] μ μ1 → Vq κ (fun r μ' => r = some (.int (nI (runN (fun _ _ => 7) m 0 u))) ∧ LX μ' k (runL (fun _ _ => 7) m 0 u) ∧ Eqx [k, k + 3, k + 4] μ μ') mX0_passAlone 4 [(0, .ref k), (1, .int (nI m)), (2, .int (nI l)), (3, .int (nI t))] [] μ1 := by
    intro n
    induction n with
    | zero =>
      intro t w l μ1 ht hw hw5 hLw hN hl hE
      refine wX0_passAlone_4 k _ _ _ μ1 hk ⟨fun _ => ⟨?_, ?_, hE⟩, fun h => absurd ?_ h⟩
      · rw [← hN]; rfl
      · rw [← hl]; exact hLw
      · rw [nIle (by omega) (by omega)]; omega
    | succ n ih =>
      intro t w l μ1 ht hw hw5 hLw hN hl hE
      refine wX0_passAlone_4 k _ _ _ μ1 hk ⟨fun h => ?_, fun _ => ?_⟩
      · rw [nIle (by omega) (by omega)] at h; omega
      · refine (kX0_pass k 7 μ1 hk hw (by omega) (by decide) hLw).mono ?_
        rintro r μ2 ⟨rfl, hL2, -, -, hE2⟩
        refine ⟨_, rfl, ?_⟩
        rw [nI_add, nI_add]
        exact ih (t + 1) (pasL w 7) (l + pasN w 7) μ2 (by omega) (pass_ok hw (by omega) 7) (by rw [pass_5 hw.1]; omega) hL2 (by rw [← hN]; exact Nat.add_assoc _ _ _) hl (hE.tr hE2)
  exact loop m 0 u 0 μ (by omega) hu (by omega) hL (by omega) rfl Eqx.rf
theorem kX0_passWithTallest (k m : Nat) (μ : Mm) (hk : isL k) {u : Ln} (hu : OKL u) (h5 : u 5 + m ≤ 999999) (hL : LX μ k u) : Con mX0_passWithTallest [.ref k, .int (nI m)] μ (fun r μ' => r = some (.int (nI (runN (fun _ w => tall w) m 0 u))) ∧ LX μ' k (runL (fun _ w => tall w) m 0 u) ∧ Eqx [k, k + 3, k + 4] μ μ') := by
  refine Con.of pnX0 (Nat.le_of_ble_eq_true rfl) (fun κ => wX0_passWithTallest_0 k _ μ hk ?_)
  have loop : ∀ n t (w : Ln) (l : Nat) (μ1 : Mm), t + n = m → OKL w → w 5 + n ≤ 999999 → LX μ1 k w → l + runN (fun _ w => tall w) n t w = runN (fun _ w => tall w) m 0 u → runL (fun _ w => tall w) n t w = runL (fun _ w => tall w) m 0 u → Eqx [k, k + 3, k + 4] μ μ1 → Vq κ (fun r μ' => r = some (.int (nI (runN (fun _ w => tall w) m 0 u))) ∧ LX μ' k (runL (fun _ w => tall w) m 0 u) ∧ Eqx [k, k + 3, k + 4] μ μ') mX0_passWithTallest 4 [(0, .ref k), (1, .int (nI m)), (2, .int (nI l)), (3, .int (nI t))] [] μ1 := by
    intro n
    induction n with
    | zero =>
      intro t w l μ1 ht hw hw5 hLw hN hl hE
      refine wX0_passWithTallest_4 k _ _ _ μ1 hk ⟨fun _ => ⟨?_, ?_, hE⟩, fun h => absurd ?_ h⟩
      · rw [← hN]; rfl
      · rw [← hl]; exact hLw
      · rw [nIle (by omega) (by omega)]; omega
    | succ n ih =>
      intro t w l μ1 ht hw hw5 hLw hN hl hE
      have htl : tallA w (w 0) < 2 ^ 31 := by have := tallA_lt w (w 0); have := hw.1; omega
      refine wX0_passWithTallest_4 k _ _ _ μ1 hk ⟨fun h => ?_, fun _ => ?_⟩
      · rw [nIle (by omega) (by omega)] at h; omega
      · refine (kX0_tallest k μ1 hk hw hLw).mono ?_
        rintro r μ2 ⟨rfl, rfl⟩
        refine ⟨_, rfl, ?_⟩
        refine (kX0_pass k (tall w) μ2 hk hw (by omega) htl hLw).mono ?_
        rintro r μ3 ⟨rfl, hL2, -, -, hE2⟩
        refine ⟨_, rfl, ?_⟩
        rw [nI_add, nI_add]
        exact ih (t + 1) (pasL w (tall w)) (l + pasN w (tall w)) μ3 (by omega) (pass_ok hw (by omega) _) (by rw [pass_5 hw.1]; omega) hL2 (by rw [← hN]; exact Nat.add_assoc _ _ _) hl (hE.tr hE2)
  exact loop m 0 u 0 μ (by omega) hu (by omega) hL (by omega) rfl Eqx.rf
