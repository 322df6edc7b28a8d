/-! ===== chance, the reference's side ===== -/
def sumN (f : Nat → Nat) : Nat → Nat
  | 0 => 0
  | n + 1 => sumN f n + f n
theorem sum_cg {f g : Nat → Nat} (h : ∀ j, f j = g j) : ∀ n, sumN f n = sumN g n
  | 0 => rfl
  | n + 1 => by show sumN f n + f n = sumN g n + g n; rw [sum_cg h n, h n]
theorem sum_2 (f : Nat → Nat) : ∀ n, sumN f (2 * n) = sumN (fun j => f (2 * j)) n + sumN (fun j => f (2 * j + 1)) n
  | 0 => rfl
  | n + 1 => by
    show sumN f (2 * n) + f (2 * n) + f (2 * n + 1) = (sumN (fun j => f (2 * j)) n + f (2 * n)) + (sumN (fun j => f (2 * j + 1)) n + f (2 * n + 1))
    rw [sum_2 f n]; omega
def rs (c : Nat) : Nat → Ln × Nat × Nat → Nat → Ln × Nat × Nat
  | 0, p, _ => p
  | m + 1, p, t => if t % 2 = 1 then rs c m (pasL p.1 (tall p.1), p.2.1 + pasN p.1 (tall p.1), p.2.2 * c) (t / 2) else rs c m (pasL p.1 7, p.2.1 + pasN p.1 7, p.2.2 * (10 - c)) (t / 2)
def vs (x : Nat) (p : Ln × Nat × Nat) : Nat := if x ≤ p.2.1 then p.2.2 else 0
theorem rs_sum (x c : Nat) : ∀ (m : Nat) (p : Ln × Nat × Nat), sumN (fun t => vs x (rs c m p t)) (2 ^ m) = p.2.2 * wgN x c m p.1 p.2.1
  | 0, p => by
    show 0 + vs x p = p.2.2 * (if x ≤ p.2.1 then 1 else 0)
    unfold vs; split <;> omega
  | m + 1, p => by
    rw [Nat.pow_succ, Nat.mul_comm (2 ^ m) 2, sum_2]
    rw [sum_cg (g := fun t => vs x (rs c m (pasL p.1 7, p.2.1 + pasN p.1 7, p.2.2 * (10 - c)) t)) (fun j => ?_), sum_cg (f := fun j => vs x (rs c (m + 1) p (2 * j + 1))) (g := fun t => vs x (rs c m (pasL p.1 (tall p.1), p.2.1 + pasN p.1 (tall p.1), p.2.2 * c) t)) (fun j => ?_), rs_sum x c m, rs_sum x c m]
    · show p.2.2 * (10 - c) * wgN x c m (pasL p.1 7) (p.2.1 + pasN p.1 7) + p.2.2 * c * wgN x c m (pasL p.1 (tall p.1)) (p.2.1 + pasN p.1 (tall p.1)) = p.2.2 * (c * wgN x c m (pasL p.1 (tall p.1)) (p.2.1 + pasN p.1 (tall p.1)) + (10 - c) * wgN x c m (pasL p.1 7) (p.2.1 + pasN p.1 7))
      rw [Nat.mul_add, Nat.mul_assoc, Nat.mul_assoc, Nat.add_comm]
    · show vs x (if (2 * j + 1) % 2 = 1 then rs c m _ ((2 * j + 1) / 2) else _) = _
      rw [if_pos (by omega), show (2 * j + 1) / 2 = j by omega]
    · show vs x (if (2 * j) % 2 = 1 then _ else rs c m _ ((2 * j) / 2)) = _
      rw [if_neg (by omega), show 2 * j / 2 = j by omega]
theorem fb_16 : ∀ t, t < 16 → ∀ k, k < 4 → fbit (nI t) (nI k) = decide (t / 2 ^ k % 2 = 1) := by decide +kernel
theorem shl_5 : ∀ d, d < 5 → (nI 1) <<< (nI d &&& 31) = nI (2 ^ d) := by decide +kernel
theorem kX5_frac {μ : Mm} {p w : Nat} (hp : p ≤ w) (h0 : 0 < w) (hw : w ≤ 10000) : Con mX5_fraction [.ref 66, .long (lN p), .long (lN w)] μ (fun r μ' => r = none ∧ μ' = msetL (msetL μ 66 4 (lN (p / Nat.gcd p w))) 66 5 (lN (w / Nat.gcd p w))) := by
  refine Con.of pnX5 (Nat.le_of_ble_eq_true rfl) (fun κ => wX5_fraction_0 _ _ μ ?_)
  have gen : ∀ N a b, b ≤ N → Nat.gcd a b = Nat.gcd p w → a ≤ 10000 → b ≤ 10000 → (0 < a ∨ 0 < b) → Vq κ (fun r μ' => r = none ∧ μ' = msetL (msetL μ 66 4 (lN (p / Nat.gcd p w))) 66 5 (lN (w / Nat.gcd p w))) mX5_fraction 6 [(0, .ref 66), (1, .long (lN p)), (3, .long (lN w)), (5, .long (lN a)), (7, .long (lN b))] [] μ := by
    intro N
    induction N with
    | zero =>
      intro a b hb hg ha hb2 h1
      have e : b = 0 := Nat.le_zero.mp hb
      subst e
      rw [Nat.gcd_zero_right] at hg
      refine wX5_fraction_6 _ _ _ _ μ ?_
      rw [lgc_0 (by decide)]
      refine ⟨fun _ => ⟨lN_ne (by omega) (by omega), fun μ1 e1 => ⟨lN_ne (by omega) (by omega), fun μ2 e2 => ⟨rfl, ?_⟩⟩⟩, fun z => absurd rfl z⟩
      rw [e2, e1, pk_lDiv (by omega) (by omega) (by omega), pk_lDiv (by omega) (by omega) (by omega), hg]
    | succ N ih =>
      intro a b hb hg ha hb2 h1
      refine wX5_fraction_6 _ _ _ _ μ ?_
      rw [lgc_0 (by omega)]
      refine ⟨fun z => ?_, fun z => ⟨lN_ne (by omega) (by omega), ?_⟩⟩
      · subst z
        rw [Nat.gcd_zero_right] at hg
        refine ⟨lN_ne (by omega) (by omega), fun μ1 e1 => ⟨lN_ne (by omega) (by omega), fun μ2 e2 => ⟨rfl, ?_⟩⟩⟩
        rw [e2, e1, pk_lDiv (by omega) (by omega) (by omega), pk_lDiv (by omega) (by omega) (by omega), hg]
      · have hb1 : 0 < b := by omega
        have hm := Nat.mod_lt a hb1
        rw [pk_lRem (by omega) hb1 (by omega)]
        exact ih b (a % b) (by omega) (by rw [gcd_s]; exact hg) hb2 (by omega) (Or.inl hb1)
  exact gen w p w (Nat.le_refl _) rfl (by omega) hw (Or.inr h0)
theorem RM.frc {μ μ' : Mm} {s : Ln} {a b : Nat} (h : RM μ s) (e : μ' = msetL (msetL μ 66 4 (lN a)) 66 5 (lN b)) : RM μ' (frS s a b) ∧ EqG μ μ' := by
  subst e
  obtain ⟨g1, ⟨g2, g3⟩, g4, g5, g6⟩ := h
  refine ⟨⟨fun j hj => by rw [fr_o (by omega) (by omega)]; exact g1 j hj, ⟨fun j hj => by rw [fr_o (by omega) (by omega)]; exact g2 j hj, fun j hj => by rw [fr_o (by omega) (by omega)]; exact g3 j hj⟩, fun j hj => by rw [fr_o (by omega) (by omega)]; exact g4 j hj, ⟨rfl, rfl⟩, by rw [fr_o (by omega) (by omega)]; exact g6.1, fun j hj => ?_⟩, fun z hz => ⟨rfl, ?_⟩⟩
  · rw [fr_o (by omega) (by omega)] at hj ⊢
    exact g6.2 j hj
  · funext j
    show (if z = 66 ∧ j = 5 then lN b else if z = 66 ∧ j = 4 then lN a else μ.2 z j) = μ.2 z j
    rw [if_neg (by omega), if_neg (by omega)]
theorem mCh (a b c : Int32) {μ : Mm} {s : Ln} {n : Nat} (h : RM μ s) (hok : OKs n s) (hn : n ≤ 600) : Con mX5_chance [.ref 66, .int a, .int b, .int c] μ (PM (sCh a b c s) μ) := by
  obtain ⟨hOK, h5, hph⟩ := hok.1.ok hn
  have h0 := hOK.1
  unfold sCh
  refine Con.of pnX5 (Nat.le_of_ble_eq_true rfl) (fun κ => wX5_chance_0 a b c μ ?_)
  rw [fwL a (by decide) (by decide), fwL b (by decide) (by decide), fwL c (by decide) (by decide)]
  refine ⟨fun hb => ?_, fun hb => ⟨fun hb2 => ?_, fun hb2 => ⟨fun hb3 => ?_, fun hb3 => ?_⟩⟩⟩
  · rw [ifF hb]; exact PM.on (kX5_badR (-2) h)
  · rw [ifT hb, ifF hb2]; exact PM.on (kX5_badR (-2) h)
  · rw [ifT hb, ifT hb2, ifT hb3]
    obtain ⟨d, hd, rfl⟩ := fw_of (by decide) hb
    obtain ⟨x, hx, rfl⟩ := fw_of (by decide) hb2
    obtain ⟨e, he, rfl⟩ := fw_of (by decide) hb3
    rw [cl (n := d) (by omega), cl (n := x) (by omega), cl (n := e) (by omega)]
    have hw := wg_le (x := x) he d s 0
    have hp := p10 hd
    have h2d : 2 ^ d ≤ 16 := Nat.le_trans (Nat.pow_le_pow_right (by decide) hd) (by decide)
    have hsum : sumN (fun t => vs x (rs e d (s, 0, 1) t)) (2 ^ d) = chV s d x e := by rw [rs_sum]; exact Nat.one_mul _
    refine cnt_loop (2 ^ d) (fun t μ1 => Vq κ (PM (nI 1, frS s (chV s d x e / Nat.gcd (chV s d x e) (10 ^ d)) (10 ^ d / Nat.gcd (chV s d x e) (10 ^ d))) μ) mX5_chance 49 [(0, .ref 66), (1, .int (nI d)), (2, .int (nI x)), (3, .int (nI e)), (4, .long (lN (sumN (fun t => vs x (rs e d (s, 0, 1) t)) t))), (6, .int (nI t))] [] μ1) (fun _ μ1 => TM μ μ1) ?_ ?_ 0 μ (Nat.zero_le _) TM.rf
    · intro μ1 hT
      obtain ⟨hR, hE⟩ := hT.rm h hok
      refine wX5_chance_49 _ _ _ _ _ μ1 ?_
      rw [shl_5 d (by omega)]
      refine ⟨fun _ => ?_, fun z => absurd (nge (by omega) (Nat.le_refl _)) z⟩
      refine (kX5_power 10 d μ1 (by omega)).mono ?_
      rintro r μ2 ⟨rfl, rfl⟩
      refine ⟨_, rfl, ?_⟩
      rw [nI_l (by omega), hsum]
      refine (kX5_frac hw hp.1 hp.2).mono ?_
      rintro r μ3 ⟨rfl, e3⟩
      obtain ⟨hR3, hE3⟩ := hR.frc e3
      exact ⟨rfl, pm rfl ⟨hR3, fun a ha => ⟨(hE3 a ha).1.trans (hE a ha).1, (hE3 a ha).2.trans (hE a ha).2⟩⟩⟩
    · intro t μ1 ht hT ih
      refine wX5_chance_49 _ _ _ _ _ μ1 ?_
      rw [shl_5 d (by omega)]
      refine ⟨fun z => absurd z (nnge (by omega) ht), fun _ => (TM.lay h.1 hT).mono ?_⟩
      rintro r μ3 ⟨rfl, hL3, hT3⟩
      refine ⟨rfl, ?_⟩
      have gen := cnt_loop d (fun k (σ : Mm × Ln × Nat × Nat) => Vq κ (PM (nI 1, frS s (chV s d x e / Nat.gcd (chV s d x e) (10 ^ d)) (10 ^ d / Nat.gcd (chV s d x e) (10 ^ d))) μ) mX5_chance 70 [(0, .ref 66), (1, .int (nI d)), (2, .int (nI x)), (3, .int (nI e)), (4, .long (lN (sumN (fun t => vs x (rs e d (s, 0, 1) t)) t))), (6, .int (nI t)), (7, .long (lN σ.2.2.2)), (9, .int (nI σ.2.2.1)), (10, .int (nI k))] [] σ.1) (fun k σ => LM σ.1 71 σ.2.1 ∧ TM μ σ.1 ∧ rs e (d - k) σ.2 (t / 2 ^ k) = rs e d (s, 0, 1) t ∧ OKL σ.2.1 ∧ σ.2.1 5 + (d - k) < 900000 ∧ σ.2.2.1 ≤ 180 * k) ?_ ?_ 0 (μ3, s, 0, 1) (Nat.zero_le _) ⟨hL3, hT3, by rw [Nat.pow_zero, Nat.div_one]; rfl, hOK, by show s 5 + d < _; omega, Nat.le_refl 0⟩
      · exact gen
      · rintro ⟨μ4, p⟩ ⟨hL4, hT4, e4, hu4, -, hg4⟩
        dsimp only at hL4 hT4 e4 hu4 hg4 ⊢
        rw [Nat.sub_self] at e4
        have e4' : p = rs e d (s, 0, 1) t := e4
        have ih' := ih μ4 hT4
        have st : sumN (fun t => vs x (rs e d (s, 0, 1) t)) (t + 1) = sumN (fun t => vs x (rs e d (s, 0, 1) t)) t + vs x p := by
          show _ + vs x (rs e d (s, 0, 1) t) = _
          rw [← e4']
        rw [st] at ih'
        refine wX5_chance_70 _ _ _ _ _ _ _ _ μ4 ⟨fun _ => ?_, fun z => absurd (nge (by omega) (Nat.le_refl _)) z⟩
        rw [nIlt (by omega) (by omega), lN_add, lN_add, nI_add t 1]
        refine ⟨fun z => ?_, fun z => ?_⟩
        · rw [show vs x p = 0 from if_neg (by omega)] at ih'; exact ih'
        · rw [show vs x p = p.2.2 from if_pos (by omega)] at ih'; exact ih'
      · rintro k ⟨μ4, p⟩ hk ⟨hL4, hT4, e4, hu4, hu5, hg4⟩ ih2
        dsimp only at hL4 hT4 e4 hu4 hu5 hg4 ih2 ⊢
        obtain ⟨j, hj⟩ : ∃ j, d - k = j + 1 := ⟨d - k - 1, by omega⟩
        have hj' : d - (k + 1) = j := by omega
        rw [hj] at e4 hu5
        rw [hj', Nat.pow_succ, ← Nat.div_div_eq_div_mul] at ih2
        have ht7 := tall_7 hu4.1
        refine wX5_chance_70 _ _ _ _ _ _ _ _ μ4 ⟨fun z => absurd z (nnge (by omega) hk), fun _ => ?_⟩
        rw [fb_16 t (by omega) k (by omega), nI_l (n := e) (by omega), pk_sub he, nI_l (by omega), nI_add k 1, lN_mul, lN_mul, decide_eq_false_iff_not, decide_eq_true_iff]
        refine ⟨fun z => ⟨fun _ => ?_, fun y => absurd y z⟩, fun z => ⟨fun y => absurd z y, fun _ => ?_⟩⟩
        · refine (kX5_goDay 71 48 7 μ4 Ar_71 hu4 (by omega) (by omega) hL4).mono ?_
          rintro r μ6 ⟨rfl, hL6, -, hE6⟩
          refine ⟨_, rfl, ?_⟩
          have hp6 := pass_le hu4 7
          rw [nI_add p.2.1]
          have e5 : rs e (j + 1) p (t / 2 ^ k) = rs e j (pasL p.1 7, p.2.1 + pasN p.1 7, p.2.2 * (10 - e)) (t / 2 ^ k / 2) := if_neg z
          exact ih2 (μ6, pasL p.1 7, p.2.1 + pasN p.1 7, p.2.2 * (10 - e)) ⟨hL6, hT4.tr (TM.ofM hE6), e5.symm.trans e4, pass_ok hu4 (by omega) 7, by show pasL p.1 7 5 + j < _; rw [pass_5 hu4.1]; omega, by show p.2.1 + pasN p.1 7 ≤ _; omega⟩
        · refine (kX5_highest 71 48 μ4 Ar_71 hu4 hL4).mono ?_
          rintro r μ5 ⟨rfl, rfl⟩
          refine ⟨_, rfl, (kX5_goDay 71 48 (tall p.1) μ5 Ar_71 hu4 (by omega) (by omega) hL4).mono ?_⟩
          rintro r μ6 ⟨rfl, hL6, -, hE6⟩
          refine ⟨_, rfl, ?_⟩
          have hp6 := pass_le hu4 (tall p.1)
          rw [nI_add p.2.1]
          have e5 : rs e (j + 1) p (t / 2 ^ k) = rs e j (pasL p.1 (tall p.1), p.2.1 + pasN p.1 (tall p.1), p.2.2 * e) (t / 2 ^ k / 2) := if_pos z
          exact ih2 (μ6, pasL p.1 (tall p.1), p.2.1 + pasN p.1 (tall p.1), p.2.2 * e) ⟨hL6, hT4.tr (TM.ofM hE6), e5.symm.trans e4, pass_ok hu4 (by omega) _, by show pasL p.1 _ 5 + j < _; rw [pass_5 hu4.1]; omega, by show p.2.1 + pasN p.1 _ ≤ _; omega⟩
  · rw [ifT hb, ifT hb2, ifF hb3]; exact PM.on (kX5_badR (-2) h)
