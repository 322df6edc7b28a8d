/-! ===== small methods of the reference ===== -/
theorem cnt_loop {σ : Type} (N : Nat) (W : Nat → σ → Prop) (I : Nat → σ → Prop) (hx : ∀ s, I N s → W N s) (hs : ∀ t s, t < N → I t s → (∀ s', I (t + 1) s' → W (t + 1) s') → W t s) (t : Nat) (s : σ) (ht : t ≤ N) (h : I t s) : W t s := by
  obtain ⟨n, hn⟩ : ∃ n, t + n = N := ⟨N - t, by omega⟩
  induction n generalizing t s with
  | zero =>
    have e : t = N := by omega
    subst e; exact hx s h
  | succ n ih => exact hs t s (by omega) h (fun s' h' => ih (t + 1) s' (by omega) h' (by omega))
theorem nge {a b : Nat} (ha : a < 2 ^ 31) (h : b ≤ a) : nI b ≤ nI a := (nIle (by omega) ha).mpr h
theorem nnge {a b : Nat} (hb : b < 2 ^ 31) (h : a < b) : ¬ nI b ≤ nI a := fun z => by rw [nIle hb (by omega)] at z; omega
theorem kX5_bad (x : Int32) (μ : Mm) : Con mX5_bad [.ref 66, .int x] μ (fun r μ' => r = some (.int x) ∧ μ' = mset μ 70 0 (μ.1 70 0 + nI 1)) := by
  refine Con.of pnX5 (Nat.le_of_ble_eq_true rfl) (fun κ => wX5_bad_0 x μ (fun μ1 e1 => ⟨rfl, ?_⟩))
  rw [cl (by decide)] at e1; exact e1
theorem kX5_no (μ : Mm) : Con mX5_no [.ref 66] μ (fun r μ' => r = some (.int (-3)) ∧ μ' = mset μ 70 1 (μ.1 70 1 + nI 1)) := by
  refine Con.of pnX5 (Nat.le_of_ble_eq_true rfl) (fun κ => wX5_no_0 μ (fun μ1 e1 => ⟨rfl, ?_⟩))
  rw [cl (by decide)] at e1; exact e1
theorem kX5_full (μ : Mm) : Con mX5_full [.ref 66] μ (fun r μ' => r = some (.int (-4)) ∧ μ' = mset μ 70 2 (μ.1 70 2 + nI 1)) := by
  refine Con.of pnX5 (Nat.le_of_ble_eq_true rfl) (fun κ => wX5_full_0 μ (fun μ1 e1 => ⟨rfl, ?_⟩))
  rw [cl (by decide)] at e1; exact e1
def bgn (x j : Nat) : Nat := if j = 4 then x else if 14 ≤ j ∧ j < 34 then 1 else 0
theorem kX5_begin (r N x : Nat) (μ : Mm) (hr : shp r = .inr (0, N)) (hN : 86 ≤ N) (hN2 : N < 2 ^ 31) : Con mX5_begin [.ref r, .int (nI x)] μ (fun r0 μ' => r0 = none ∧ (∀ j, j < 86 → μ'.1 r j = nI (bgn x j)) ∧ (∀ j, 86 ≤ j → μ'.1 r j = μ.1 r j) ∧ Eqx [r] μ μ') := by
  refine Con.of pnX5 (Nat.le_of_ble_eq_true rfl) (fun κ => wX5_begin_0 r N _ μ hr ?_)
  have l2 : ∀ μ1 : Mm, (∀ j, j < 86 → μ1.1 r j = nI 0) → (∀ j, 86 ≤ j → μ1.1 r j = μ.1 r j) → Eqx [r] μ μ1 → Vq κ (fun r0 μ' => r0 = none ∧ (∀ j, j < 86 → μ'.1 r j = nI (bgn x j)) ∧ (∀ j, 86 ≤ j → μ'.1 r j = μ.1 r j) ∧ Eqx [r] μ μ') mX5_begin 20 [(0, .ref r), (1, .int (nI x)), (2, .int (nI 0))] [] μ1 := by
    intro μ1 h1 h2 h3
    refine cnt_loop 20 (fun t μ2 => Vq κ _ mX5_begin 20 [(0, .ref r), (1, .int (nI x)), (2, .int (nI t))] [] μ2) (fun t μ2 => (∀ j, j < 86 → μ2.1 r j = nI (if 14 ≤ j ∧ j < 14 + t then 1 else 0)) ∧ (∀ j, 86 ≤ j → μ2.1 r j = μ.1 r j) ∧ Eqx [r] μ μ2) ?_ ?_ 0 μ1 (by omega) ⟨fun j hj => by rw [h1 j hj, if_neg (by omega)], h2, h3⟩
    · rintro μ2 ⟨g1, g2, g3⟩
      refine wX5_begin_20 r N _ _ μ2 hr ⟨fun _ => ⟨vin (by omega) hN2, fun μ3 e3 => ⟨rfl, fun j hj => ?_, fun j hj => ?_, ?_⟩⟩, fun h => absurd (nge (by decide) (by decide)) h⟩
      · rw [cl (by decide)] at e3
        rw [e3]
        unfold bgn
        by_cases e : j = 4
        · subst e; rw [ms_at]; rfl
        · rw [ms_col e, g1 j hj, if_neg e]
      · rw [e3, cl (by decide), ms_col (by omega)]; exact g2 j hj
      · rw [e3]; exact g3.ms (by simp)
    · rintro t μ2 ht ⟨g1, g2, g3⟩ ih
      refine wX5_begin_20 r N _ _ μ2 hr ⟨fun h => absurd h (nnge (by decide) ht), fun _ => ⟨by rw [nI_add]; exact vin (by omega) hN2, fun μ3 e3 => ?_⟩⟩
      rw [nI_add, cl (by omega)] at e3
      rw [nI_add]
      refine ih μ3 ⟨fun j hj => ?_, fun j hj => ?_, ?_⟩
      · rw [e3]
        by_cases e : j = 14 + t
        · subst e; rw [ms_at, if_pos (by omega)]
        · rw [ms_col e, g1 j hj]
          congr 1
          by_cases e2 : 14 ≤ j ∧ j < 14 + t
          · rw [if_pos e2, if_pos (by omega)]
          · rw [if_neg e2, if_neg (by omega)]
      · rw [e3, ms_col (by omega)]; exact g2 j hj
      · rw [e3]; exact g3.ms (by simp)
  refine cnt_loop 86 (fun t μ2 => Vq κ _ mX5_begin 2 [(0, .ref r), (1, .int (nI x)), (2, .int (nI t))] [] μ2) (fun t μ2 => (∀ j, j < t → μ2.1 r j = nI 0) ∧ (∀ j, 86 ≤ j → μ2.1 r j = μ.1 r j) ∧ Eqx [r] μ μ2) ?_ ?_ 0 μ (by omega) ⟨fun j hj => by omega, fun _ _ => rfl, Eqx.rf⟩
  · rintro μ2 ⟨g1, g2, g3⟩
    exact wX5_begin_2 r N _ _ μ2 hr ⟨fun _ => l2 μ2 g1 g2 g3, fun h => absurd (nge (by decide) (by decide)) h⟩
  · rintro t μ2 ht ⟨g1, g2, g3⟩ ih
    refine wX5_begin_2 r N _ _ μ2 hr ⟨fun h => absurd h (nnge (by decide) ht), fun _ => ⟨vin (by omega) hN2, fun μ3 e3 => ?_⟩⟩
    rw [cl (by omega)] at e3
    rw [nI_add]
    refine ih μ3 ⟨fun j hj => ?_, fun j hj => ?_, ?_⟩
    · rw [e3]
      by_cases e : j = t
      · subst e; rw [ms_at]
      · rw [ms_col e]; exact g1 j (by omega)
    · rw [e3, ms_col (by omega)]; exact g2 j hj
    · rw [e3]; exact g3.ms (by simp)
theorem kX5_isFree (a N c : Nat) (μ : Mm) (hA : Ar a N) {u : Ln} (hu : OKL u) (hc : c < 2 ^ 31) (hL : LM μ a u) : Con mX5_isFree [.ref a, .int (nI c)] μ (Rv (.int (bI (!tkn u c (u 0)))) μ) := by
  obtain ⟨hsh, hN1, hN2, -⟩ := hA
  obtain ⟨h0, -, -, hs, -⟩ := hu
  refine Con.of pnX5 (Nat.le_of_ble_eq_true rfl) (fun κ => wX5_isFree_0 a N _ μ hsh ?_)
  refine cnt_loop (u 0) (fun t (_ : Unit) => Vq κ (Rv (.int (bI (!tkn u c (u 0)))) μ) mX5_isFree 4 [(0, .ref a), (1, .int (nI c)), (2, .int (bI (!tkn u c t))), (3, .int (nI t))] [] μ) (fun _ _ => True) ?_ ?_ 0 () (by omega) trivial
  · rintro _ _
    refine wX5_isFree_4 a N _ _ _ μ hsh ⟨vin (by omega) hN2, ⟨fun _ => ⟨_, rfl, rvb rfl⟩, fun h => absurd ?_ h⟩⟩
    rw [cl (by decide), hL 0 (by decide)]; exact nge (by omega) (Nat.le_refl _)
  · rintro t _ ht _ ih
    have ih := ih () trivial
    have hst := (hs t (by omega)).2.2
    have e0 : tkn u c (t + 1) = (tkn u c t || decide (u (41 + t) = c)) := rfl
    rw [e0] at ih
    refine wX5_isFree_4 a N _ _ _ μ hsh ⟨vin (by omega) hN2, ⟨fun h => ?_, fun _ => ⟨fun h => ?_, fun h => ⟨by rw [nI_add]; exact vin (by omega) hN2, fun h2 => ?_, fun h2 => ?_⟩⟩⟩⟩
    · rw [cl (by decide), hL 0 (by decide)] at h; exact absurd h (nnge (by omega) ht)
    · have hb := bI_eq.mp h
      rw [nI_add]
      have : tkn u c t = true := by cases e : tkn u c t with
        | true => rfl
        | false => rw [e] at hb; cases hb
      rw [this] at ih
      exact ih
    · rw [nI_add, cl (by omega), hL _ (by omega), nIe (by omega) hc] at h2
      rw [decide_eq_true h2, Bool.or_true] at ih
      rw [nI_add]; exact ih
    · rw [nI_add, cl (by omega), hL _ (by omega), nIe (by omega) hc] at h2
      rw [decide_eq_false h2, Bool.or_false] at ih
      have : tkn u c t = false := by cases e : tkn u c t with
        | false => rfl
        | true => rw [e] at h; exact absurd rfl h
      rw [this] at ih
      rw [nI_add]; exact ih
theorem kX5_layHill (a N h : Nat) (x y z : Int32) (μ : Mm) (hA : Ar a N) (hh : h < 7) (h0 : μ.1 a 0 = nI h) : Con mX5_layHill [.ref a, .int x, .int y, .int z] μ (fun r μ' => r = none ∧ (∀ j, μ'.1 a j = if j = 0 then nI (h + 1) else if j = 7 + h then z else if j = 41 + h then y else if j = 34 + h then x else μ.1 a j) ∧ Eqx [a] μ μ') := by
  obtain ⟨hsh, hN1, hN2, -⟩ := hA
  refine Con.of pnX5 (Nat.le_of_ble_eq_true rfl) (fun κ => wX5_layHill_0 a N _ _ _ μ hsh ?_)
  rw [cl (by decide), h0, nI_add, cl (by omega)]
  refine ⟨vin (by omega) hN2, vin (by omega) hN2, fun μ3 e3 => ?_⟩
  have a3 : μ3.1 a 0 = nI h := by rw [e3, ms_col (by omega)]; exact h0
  rw [a3, nI_add, cl (by omega)]
  refine ⟨vin (by omega) hN2, fun μ5 e5 => ?_⟩
  have a5 : μ5.1 a 0 = nI h := by rw [e5, ms_col (by omega)]; exact a3
  rw [a5, nI_add, cl (by omega)]
  refine ⟨vin (by omega) hN2, fun μ7 e7 μ8 e8 => ⟨rfl, fun j => ?_, ?_⟩⟩
  · have a7 : μ7.1 a 0 = nI h := by rw [e7, ms_col (by omega)]; exact a5
    rw [a7, nI_add] at e8
    rw [e8]
    by_cases j0 : j = 0
    · subst j0; rw [ms_at, if_pos rfl]
    · rw [ms_col j0, if_neg j0, e7]
      by_cases j7 : j = 7 + h
      · subst j7; rw [ms_at, if_pos rfl]
      · rw [ms_col j7, if_neg j7, e5]
        by_cases j41 : j = 41 + h
        · subst j41; rw [ms_at, if_pos rfl]
        · rw [ms_col j41, if_neg j41, e3]
          by_cases j34 : j = 34 + h
          · subst j34; rw [ms_at, if_pos rfl]
          · rw [ms_col j34, if_neg j34]
  · rw [e8, e7, e5, e3]
    exact (((Eqx.rf.ms (by simp)).ms (by simp)).ms (by simp)).ms (by simp)
theorem kX5_harm (a N x l : Nat) (μ : Mm) (hA : Ar a N) (h6 : μ.1 a 6 = nI x) (hx : x + l ≤ 9999) : Con mX5_harm [.ref a, .int (nI l)] μ (fun r μ' => r = none ∧ μ' = mset μ a 6 (nI (x + l))) := by
  obtain ⟨hsh, hN1, hN2, -⟩ := hA
  refine Con.of pnX5 (Nat.le_of_ble_eq_true rfl) (fun κ => wX5_harm_0 a N _ μ hsh ⟨vin (by omega) hN2, ⟨fun _ μ2 e2 => ⟨rfl, ?_⟩, fun h => absurd ?_ h⟩⟩)
  · rw [cl (by decide), h6, nI_add] at e2; exact e2
  · rw [cl (by decide), h6, nI_add]; exact nge (by decide) hx
theorem kX5_layHand (μ : Mm) : Con mX5_layHand [.ref 66] μ (fun r μ' => r = none ∧ (∀ j, j < 48 → μ'.1 71 j = μ.1 67 j) ∧ Eqx [71] μ μ') := by
  refine Con.of pnX5 (Nat.le_of_ble_eq_true rfl) (fun κ => wX5_layHand_0 μ ?_)
  refine cnt_loop 48 (fun t μ2 => Vq κ _ mX5_layHand 2 [(0, .ref 66), (1, .int (nI t))] [] μ2) (fun t μ2 => (∀ j, j < t → μ2.1 71 j = μ.1 67 j) ∧ Eqx [71] μ μ2) ?_ ?_ 0 μ (by omega) ⟨fun j hj => by omega, Eqx.rf⟩
  · rintro μ2 ⟨g1, g2⟩
    exact wX5_layHand_2 _ μ2 ⟨fun _ => ⟨rfl, g1, g2⟩, fun h => absurd (nge (by decide) (by decide)) h⟩
  · rintro t μ2 ht ⟨g1, g2⟩ ih
    refine wX5_layHand_2 _ μ2 ⟨fun h => absurd h (nnge (by decide) ht), fun _ => ⟨vin (by omega) (by decide), vin (by omega) (by decide), fun μ3 e3 => ?_⟩⟩
    rw [cl (by omega)] at e3
    rw [nI_add]
    refine ih μ3 ⟨fun j hj => ?_, by rw [e3]; exact g2.ms (by simp)⟩
    rw [e3]
    by_cases e : j = t
    · subst e; rw [ms_at, g2.2 67 (by simp)]
    · rw [ms_col e]; exact g1 j (by omega)
theorem kX5_goQuiet (m : Nat) (μ : Mm) {u : Ln} (hu : OKL u) (h5 : u 5 + m ≤ 999999) (hL : LM μ 71 u) : Con mX5_goQuiet [.ref 66, .int (nI m)] μ (fun r μ' => r = some (.int (nI (runN (fun _ _ => 7) m 0 u))) ∧ LM μ' 71 (runL (fun _ _ => 7) m 0 u) ∧ EqM 71 μ μ') := by
  refine Con.of pnX5 (Nat.le_of_ble_eq_true rfl) (fun κ => wX5_goQuiet_0 _ μ ?_)
  have loop : ∀ n t (w : Ln) (l : Nat) (μ1 : Mm), t + n = m → OKL w → w 5 + n ≤ 999999 → LM μ1 71 w → l + runN (fun _ _ => 7) n t w = runN (fun _ _ => 7) m 0 u → runL (fun _ _ => 7) n t w = runL (fun _ _ => 7) m 0 u → EqM 71 μ μ1 → Vq κ (fun r μ' => r = some (.int (nI (runN (fun _ _ => 7) m 0 u))) ∧ LM μ' 71 (runL (fun _ _ => 7) m 0 u) ∧ EqM 71 μ μ') mX5_goQuiet 4 [(0, .ref 66), (1, .int (nI m)), (2, .int (nI l)), (3, .int (nI t))] [] μ1 := by
    intro n
    induction n with
    | zero =>
      intro t w l μ1 ht hw hw5 hLw hN hl hE
      refine wX5_goQuiet_4 _ _ _ μ1 ⟨fun _ => ⟨?_, ?_, hE⟩, fun h => absurd (nge (by omega) (by omega)) h⟩
      · rw [← hN]; rfl
      · rw [← hl]; exact hLw
    | succ n ih =>
      intro t w l μ1 ht hw hw5 hLw hN hl hE
      refine wX5_goQuiet_4 _ _ _ μ1 ⟨fun h => absurd h (nnge (by omega) (by omega)), fun _ => ?_⟩
      refine (kX5_goDay 71 48 7 μ1 Ar_71 hw (by omega) (by decide) hLw).mono ?_
      rintro r μ2 ⟨rfl, hL2, -, hE2⟩
      refine ⟨_, rfl, ?_⟩
      rw [nI_add, nI_add]
      exact ih (t + 1) (pasL w 7) (l + pasN w 7) μ2 (by omega) (pass_ok hw (by omega) 7) (by rw [pass_5 hw.1]; omega) hL2 (by rw [← hN]; exact Nat.add_assoc _ _ _) hl (hE.tr hE2)
  exact loop m 0 u 0 μ (by omega) hu (by omega) hL (by omega) rfl EqM.rf
theorem kX5_sizes (a N : Nat) (μ : Mm) (hA : Ar a N) {u : Ln} (h7 : u 0 ≤ 7) (hL : LM μ a u) : Con mX5_sizes [.ref a] μ (Rv (.int (nI (ssum u (u 0)))) μ) := by
  obtain ⟨hsh, hN1, hN2, -⟩ := hA
  refine Con.of pnX5 (Nat.le_of_ble_eq_true rfl) (fun κ => wX5_sizes_0 a N μ hsh ?_)
  refine cnt_loop (u 0) (fun t (_ : Unit) => Vq κ (Rv (.int (nI (ssum u (u 0)))) μ) mX5_sizes 4 [(0, .ref a), (1, .int (nI (ssum u t))), (2, .int (nI t))] [] μ) (fun _ _ => True) ?_ ?_ 0 () (by omega) trivial
  · rintro _ _
    refine wX5_sizes_4 a N _ _ μ hsh ⟨vin (by omega) hN2, ⟨fun _ => rvi rfl, fun h => absurd ?_ h⟩⟩
    rw [cl (by decide), hL 0 (by decide)]; exact nge (by omega) (Nat.le_refl _)
  · rintro t _ ht _ ih
    refine wX5_sizes_4 a N _ _ μ hsh ⟨vin (by omega) hN2, ⟨fun h => ?_, fun _ => ⟨by rw [nI_add]; exact vin (by omega) hN2, ?_⟩⟩⟩
    · rw [cl (by decide), hL 0 (by decide)] at h; exact absurd h (nnge (by omega) ht)
    · rw [nI_add, cl (by omega), hL _ (by omega), nI_add, nI_add]
      exact ih () trivial
theorem kX5_power (b n : Nat) (μ : Mm) (hn : n < 2 ^ 31) : Con mX5_power [.int (nI b), .int (nI n)] μ (Rv (.int (nI (b ^ n))) μ) := by
  refine Con.of pnX5 (Nat.le_of_ble_eq_true rfl) (fun κ => wX5_power_0 _ _ μ ?_)
  refine cnt_loop n (fun t (_ : Unit) => Vq κ (Rv (.int (nI (b ^ n))) μ) mX5_power 4 [(0, .int (nI b)), (1, .int (nI n)), (2, .int (nI (b ^ t))), (3, .int (nI t))] [] μ) (fun _ _ => True) ?_ ?_ 0 () (by omega) trivial
  · rintro _ _
    exact wX5_power_4 _ _ _ _ μ ⟨fun _ => rvi rfl, fun h => absurd (nge hn (Nat.le_refl _)) h⟩
  · rintro t _ ht _ ih
    refine wX5_power_4 _ _ _ _ μ ⟨fun h => absurd h (nnge hn ht), fun _ => ?_⟩
    rw [pk_mul, nI_add]
    exact ih () trivial
theorem kX5_highest (a N : Nat) (μ : Mm) (hA : Ar a N) {u : Ln} (hu : OKL u) (hL : LM μ a u) : Con mX5_highest [.ref a] μ (Rv (.int (nI (tall u))) μ) := by
  obtain ⟨hsh, hN1, hN2, -⟩ := hA
  obtain ⟨h0, -, -, hs, -⟩ := hu
  refine Con.of pnX5 (Nat.le_of_ble_eq_true rfl) (fun κ => wX5_highest_0 a N μ hsh ?_)
  refine cnt_loop (u 0) (fun t (_ : Unit) => Vq κ (Rv (.int (nI (tall u))) μ) mX5_highest 5 [(0, .ref a), (1, .int (nI (tallA u t))), (2, .int (nI t))] [] μ) (fun _ _ => True) ?_ ?_ 0 () (by omega) trivial
  · rintro _ _
    refine wX5_highest_5 a N _ _ μ hsh ⟨vin (by omega) hN2, ⟨fun _ => rvi rfl, fun h => absurd ?_ h⟩⟩
    rw [cl (by decide), hL 0 (by decide)]; exact nge (by omega) (Nat.le_refl _)
  · rintro t _ ht _ ih
    have ih := ih () trivial
    have hlt := tallA_lt u t
    have h7 := tallA_7 u t (by omega)
    have hst := (hs t (by omega)).1
    have e0 : tallA u (t + 1) = if tallA u t = 7 ∨ u (7 + tallA u t) < u (7 + t) then t else tallA u t := rfl
    rw [e0] at ih
    refine wX5_highest_5 a N _ _ μ hsh ⟨vin (by omega) hN2, ⟨fun h => ?_, fun _ => ⟨fun h => ?_, fun h => ?_⟩⟩⟩
    · rw [cl (by decide), hL 0 (by decide)] at h; exact absurd h (nnge (by omega) ht)
    · rw [nIe (by omega) (by decide)] at h
      rw [if_pos (Or.inl h)] at ih
      rw [nI_add]; exact ih
    · rw [nIe (by omega) (by decide)] at h
      have hta := (hs (tallA u t) (by omega)).1
      refine ⟨by rw [nI_add]; exact vin (by omega) hN2, by rw [nI_add]; exact vin (by omega) hN2, fun h2 => ?_, fun h2 => ?_⟩
      · rw [nI_add, nI_add, cl (by omega), cl (by omega), hL _ (by omega), hL _ (by omega), nIle (by omega) (by omega)] at h2
        rw [if_neg (by omega)] at ih
        rw [nI_add]; exact ih
      · rw [nI_add, nI_add, cl (by omega), cl (by omega), hL _ (by omega), hL _ (by omega), nIle (by omega) (by omega)] at h2
        rw [if_pos (by omega)] at ih
        rw [nI_add]; exact ih
