/-! ===== read, the reference's side: hills, days, items, the whole ===== -/
theorem AM.lm {μ : Mm} {u : Ln} (h : AM μ u) : LM μ 75 u := fun j hj => h j (by omega)
theorem kX5_hil {x : Tx} {μ0 μ : Mm} {p P : Nat} {u : Ln} (hp : p ≤ x.2) (hPO : PO P u) (hS : SM x μ0 μ p u) : Con mX5_takesHill [.ref 66] μ (IT x μ0 (itH x (tS x p) (tE x p) u)) := by
  obtain ⟨hx, hM, hA, hT⟩ := hS
  have h0 := hPO.1.1
  refine Con.of pnX5 (Nat.le_of_ble_eq_true rfl) (fun κ => wX5_takesHill_0 μ ?_)
  rw [cl (n := 0) (by decide), hA 0 (by decide), nIe (by omega) (by decide)]
  refine ⟨fun z0 => ?_, fun z0 => by unfold itH; rw [if_pos z0]; exact ⟨rfl, hM.1, hx, hT⟩⟩
  refine (kX5_behind hx hp hM).mono ?_
  rintro r μ1 ⟨rfl, h1, t1⟩
  have hp1 := tE_le hp
  have x1 := hx.tl t1
  have A1 : AM μ1 u := fun j hj => by rw [t1.2.1 75 (by decide)]; exact hA j hj
  have T1 := hT.tl t1
  refine ⟨rfl, (kX5_takes x1 hp1 h1 (by decide) (by decide)).mono ?_⟩
  rintro r μ2 ⟨rfl, f2, g2⟩
  refine ⟨_, rfl, fun z => ?_, fun z => ?_⟩
  · have e2 := f2 z; subst e2
    unfold itH; rw [if_neg z0, z]; exact ⟨rfl, h1.1, x1, T1⟩
  · obtain ⟨h2, t2⟩ := g2 z
    obtain ⟨-, v1⟩ := numb_t z
    have hp2 := tE_le hp1
    have x2 := x1.tv t2
    have A2 := A1.tv t2
    have T2 := T1.tv t2
    have hk4 := tK_4 (x := x) (p := tE x (tE x p))
    rw [h2.2.2.1, nIe (by omega) (by decide)]
    refine ⟨fun y => ?_, fun y => ?_⟩
    · have e : numb x (tE x (tE x p)) 19 = false := by unfold numb; rw [decide_eq_false y]; rfl
      unfold itH; rw [if_neg z0, z, e]; exact ⟨rfl, h2.1, x2, T2⟩
    · have hv := tV_b (fun j hj => (x2.2.2 j hj).2) hp2 y
      rw [h2.2.2.2 y]
      refine (kX5_isFree 75 86 _ μ2 Ar_75 hPO.1 (by omega) A2.lm).mono ?_
      rintro r μ3 ⟨rfl, rfl⟩
      refine ⟨_, rfl, fun w => ?_, fun w => ?_⟩
      · unfold itH; rw [if_neg z0, z, w, Bool.and_false]; exact ⟨rfl, h2.1, x2, T2⟩
      · refine (kX5_takes x2 hp2 h2 (by decide) (by decide)).mono ?_
        rintro r μ4 ⟨rfl, f4, g4⟩
        refine ⟨_, rfl, fun v => ?_, fun v => ?_⟩
        · have e4 := f4 v; subst e4
          unfold itH; rw [if_neg z0, z, v]; exact ⟨rfl, h2.1, x2, T2⟩
        · obtain ⟨h4, t4⟩ := g4 v
          obtain ⟨-, v2⟩ := numb_t v
          have hp4 := tE_le hp2
          have x4 := x2.tv t4
          have A4 := A2.tv t4
          have T4 := T2.tv t4
          refine (kX5_takes x4 hp4 h4 (by decide) (by decide)).mono ?_
          rintro r μ5 ⟨rfl, f5, g5⟩
          refine ⟨_, rfl, fun q => ?_, fun q => ?_⟩
          · obtain ⟨h5, t5⟩ := g5 q
            have x5 := x4.tv t5
            have A5 := A4.tv t5
            have T5 := T4.tv t5
            rw [cl (n := 1) (by decide), cl (n := 2) (by decide), t5.2.2.2.2 0 (by decide), t5.2.2.2.2 1 (by decide), t5.2.2.2.1, t4.2.2.2.2 0 (by decide), t4.2.2.2.1, t2.2.2.2.1]
            refine (kX5_layHill 75 86 (u 0) _ _ _ μ5 Ar_75 (by omega) (A5 0 (by decide))).mono ?_
            rintro r μ6 ⟨rfl, g6, hE6⟩
            have R : ∀ c, c ≠ 75 → μ6.1 c = μ5.1 c := fun c hc => hE6.2 c (nm1 hc)
            refine ⟨rfl, ?_⟩
            unfold itH; rw [if_neg z0, z, v, w, q]
            refine ⟨rfl, ⟨x5.1, by rw [R 66 (by decide)]; exact x5.2.1, fun j hj => by rw [R 74 (by decide)]; exact x5.2.2 j hj⟩, ⟨by rw [R 66 (by decide)]; exact h5.1, by rw [R 66 (by decide)]; exact h5.2.1, by rw [R 66 (by decide)]; exact h5.2.2.1, fun y => by rw [R 66 (by decide)]; exact h5.2.2.2 y⟩, fun j hj => ?_, hE6.1.trans T5.1, fun c c1 c2 c3 => by rw [R c c2]; exact T5.2.1 c c1 c2 c3, fun j j1 j2 => by rw [R 66 (by decide)]; exact T5.2.2 j j1 j2⟩
            rw [g6 j]
            unfold hlF
            by_cases j0 : j = 0
            · rw [if_pos j0, if_pos j0]
            · rw [if_neg j0, if_neg j0]
              by_cases j7 : j = 7 + u 0
              · rw [if_pos j7, if_pos j7]
              · rw [if_neg j7, if_neg j7]
                by_cases j41 : j = 41 + u 0
                · rw [if_pos j41, if_pos j41]
                · rw [if_neg j41, if_neg j41]
                  by_cases j34 : j = 34 + u 0
                  · rw [if_pos j34, if_pos j34]
                  · rw [if_neg j34, if_neg j34]
                    by_cases j3 : j = 3
                    · rw [if_pos j3, A5 j hj, j3, hPO.2.1.2.2]
                    · rw [if_neg j3]; exact A5 j hj
          · have e5 := f5 q; subst e5
            unfold itH; rw [if_neg z0, z, v, w, q]; exact ⟨rfl, h4.1, x4, T4⟩
theorem itD_r {x : Tx} {f p : Nat} {u : Ln} (hf : f ≠ 8) (h : ¬ (tK x p = 2 ∧ (tV x p < u 0 ∨ tV x p = 7))) : itD x (f + 1) p u = .inr (p, u) := by
  show (if tK x p = 2 ∧ (tV x p < u 0 ∨ tV x p = 7) then _ else if f = 8 then _ else _) = _
  rw [if_neg h, if_neg hf]
theorem itD_l {x : Tx} {p : Nat} {u : Ln} (h : ¬ (tK x p = 2 ∧ (tV x p < u 0 ∨ tV x p = 7))) : itD x (8 + 1) p u = .inl (tS x p) := by
  show (if tK x p = 2 ∧ (tV x p < u 0 ∨ tV x p = 7) then _ else if 8 = 8 then _ else _) = _
  rw [if_neg h, if_pos rfl]
theorem itD_y {x : Tx} {f p : Nat} {u : Ln} (h : tK x p = 2 ∧ (tV x p < u 0 ∨ tV x p = 7)) : itD x (f + 1) p u = itD x f (tE x p) (harF u (tV x p)) := if_pos h
theorem kX5_days {x : Tx} {μ0 μ : Mm} {p : Nat} {u : Ln} (hp : p ≤ x.2) (hPO : PO p u) (hS : SM x μ0 μ p u) : Con mX5_takesDays [.ref 66] μ (IT x μ0 (itD x 9 (tE x p) u)) := by
  obtain ⟨hx, hM, hA, hT⟩ := hS
  have hL := hx.1
  refine Con.of pnX5 (Nat.le_of_ble_eq_true rfl) (fun κ => wX5_takesDays_0 μ ?_)
  refine (kX5_behind hx hp hM).mono ?_
  rintro r μ1 ⟨rfl, h1, t1⟩
  have hp1 := tE_le hp
  refine ⟨rfl, ?_⟩
  have gen := cnt_loop 9 (fun t (σ : Mm × Nat × Ln) => Vq κ (IT x μ0 (itD x 9 (tE x p) u)) mX5_takesDays 6 [(0, .ref 66), (1, .int (nI t))] [] σ.1) (fun t σ => SM x μ0 σ.1 σ.2.1 σ.2.2 ∧ σ.2.1 ≤ x.2 ∧ PO σ.2.1 σ.2.2 ∧ itD x (9 - t) σ.2.1 σ.2.2 = itD x 9 (tE x p) u) ?_ ?_ 0 (μ1, tE x p, u) (Nat.zero_le _) ⟨⟨hx.tl t1, h1, fun j hj => by rw [t1.2.1 75 (by decide)]; exact hA j hj, hT.tl t1⟩, hp1, hPO.up (by have := tE_ge (x := x) (p := p); have := tS_ge (x := x) (p := p); show p ≤ tE x p; omega), rfl⟩
  · exact gen
  · rintro ⟨μ2, q, w⟩ ⟨hS2, hq, hPO2, e2⟩
    dsimp only at hS2 hq hPO2 e2 ⊢
    have e2' : itD x 9 (tE x p) u = .inr (q, w) := e2.symm
    rw [e2']
    refine wX5_takesDays_6 _ μ2 ⟨fun _ => ⟨fun z => absurd z (by decide), fun _ => ⟨rfl, hS2⟩⟩, fun _ => ⟨fun _ => ⟨fun z => absurd z (by decide), fun _ => ⟨rfl, hS2⟩⟩, fun z => absurd (by decide) z⟩⟩
  · rintro t ⟨μ2, q, w⟩ ht ⟨hS2, hq, hPO2, e2⟩ ih
    dsimp only at hS2 hq hPO2 e2 ih ⊢
    obtain ⟨x2, h2, A2, T2⟩ := id hS2
    obtain ⟨f, hf⟩ : ∃ f, 9 - t = f + 1 := ⟨9 - t - 1, by omega⟩
    rw [hf] at e2
    have hf' : 9 - (t + 1) = f := by omega
    rw [hf'] at ih
    have hk4 := tK_4 (x := x) (p := q)
    have w0 := hPO2.1.1
    have stop : ¬ (tK x q = 2 ∧ (tV x q < w 0 ∨ tV x q = 7)) → (nI t ≤ 0 → IT x μ0 (itD x 9 (tE x p) u) (some (.int (bI false))) μ2) ∧ (¬ nI t ≤ 0 → IT x μ0 (itD x 9 (tE x p) u) (some (.int (bI true))) μ2) := by
      intro hno
      rw [← nI_0, nIle (by omega) (by decide), ← e2]
      refine ⟨fun z => ?_, fun z => ?_⟩
      · have : f = 8 := by omega
        subst this
        rw [itD_l hno]; exact ⟨rfl, h2.1, x2, T2⟩
      · rw [itD_r (by omega) hno]; exact ⟨rfl, hS2⟩
    refine wX5_takesDays_6 _ μ2 ?_
    rw [cl (n := 0) (by decide), A2 0 (by decide), h2.2.2.1, nIe (by omega) (by decide), nI_add t 1]
    refine ⟨fun z => stop (fun y => z y.1), fun z => ⟨fun y => absurd y (nnge (by omega) ht), fun _ => ?_⟩⟩
    have hv := tV_b (fun j hj => (x2.2.2 j hj).2) hq z
    have hgt := tE_gt (x := x) (p := q) (by omega)
    have hge := tS_ge (x := x) (p := q)
    have go : (tV x q < w 0 ∨ tV x q = 7) → Con mX5_goDay [.ref 66, .ref 75, .int (nI (tV x q))] μ2 (fun r μ3 => ∃ x4 : Int32, r = some (.int x4) ∧ (Con mX5_harm [.ref 75, .int x4] μ3 (fun r μ5 => r = none ∧ (Con mX5_goBehind [.ref 66] μ5 (fun r μ6 => r = none ∧ (Vq κ (IT x μ0 (itD x 9 (tE x p) u)) mX5_takesDays 6 [(0, .ref 66), (1, .int (nI (t + 1)))] [] μ6)))))) := by
      intro hvis
      have h5 := hPO2.2.2.1
      have hsum := hPO2.2.2.2.1
      have hps := pass_sum w0 (tV x q)
      refine (kX5_goDay 75 86 (tV x q) μ2 Ar_75 hPO2.1 (by omega) (by omega) A2.lm).mono ?_
      rintro r μ3 ⟨rfl, hL3, -, hE3⟩
      have h63 : μ3.1 75 6 = nI (w 6) := (hL3 6 (by decide)).trans (by rw [show (passR w (tV x q)).1 6 = w 6 from pass_6 w0 _])
      refine ⟨_, rfl, (kX5_harm 75 86 (w 6) (pasN w (tV x q)) μ3 Ar_75 h63 (by omega)).mono ?_⟩
      rintro r μ4 ⟨rfl, e4⟩
      have R : ∀ c, c ≠ 75 → c ≠ 66 → μ4.1 c = μ2.1 c := fun c c1 c2 => by rw [e4, ms_row c1]; exact hE3.2.1 c c1 c2
      have R6 : ∀ j, j ≠ 6 → μ4.1 66 j = μ2.1 66 j := fun j hj => by rw [e4, ms_row (by decide)]; exact hE3.2.2.2 j hj
      have x4 : XM x μ4 := ⟨x2.1, by rw [R6 11 (by decide)]; exact x2.2.1, fun j hj => by rw [R 74 (by decide) (by decide)]; exact x2.2.2 j hj⟩
      have h4 : MT x μ4 q := ⟨by rw [R6 12 (by decide)]; exact h2.1, by rw [R6 13 (by decide)]; exact h2.2.1, by rw [R6 14 (by decide)]; exact h2.2.2.1, fun y => by rw [R6 15 (by decide)]; exact h2.2.2.2 y⟩
      have A4 : AM μ4 (harF w (tV x q)) := by
        intro j hj
        unfold harF
        rw [e4]
        by_cases j6 : j = 6
        · rw [j6, ms_at, up_at]
        · rw [ms_col j6, up_ne j6]
          by_cases j48 : j < 48
          · exact hL3 j j48
          · rw [hE3.2.2.1 j (by omega), pass_hi w0 _ _ (by omega)]; exact A2 j hj
      have T4 : TRd μ0 μ4 := ⟨by rw [e4]; exact hE3.1.trans T2.1, fun c c1 c2 c3 => (R c c2 c1).trans (T2.2.1 c c1 c2 c3), fun j j1 j2 => (R6 j j2).trans (T2.2.2 j j1 j2)⟩
      refine ⟨rfl, (kX5_behind x4 hq h4).mono ?_⟩
      rintro r μ5 ⟨rfl, h5', t5⟩
      refine ⟨rfl, ih (μ5, tE x q, harF w (tV x q)) ⟨⟨x4.tl t5, h5', fun j hj => by rw [t5.2.1 75 (by decide)]; exact A4 j hj, T4.tl t5⟩, tE_le hq, (PO_dy hPO2 (by omega)).up (by show q + 1 ≤ tE x q; omega), ?_⟩⟩
      show itD x f (tE x q) (harF w (tV x q)) = _
      rw [← e2]; exact (itD_y ⟨z, hvis⟩).symm
    rw [h2.2.2.2 z, nIlt (by omega) (by omega), nIe (by omega) (by decide)]
    exact ⟨fun y => go (Or.inl y), fun y => ⟨fun v => stop (fun a => by have := a.2; omega), fun v => go (Or.inr v)⟩⟩
theorem kX5_item {x : Tx} {μ0 μ : Mm} {p : Nat} {u : Ln} (hp : p ≤ x.2) (hPO : PO p u) (hS : SM x μ0 μ p u) : Con mX5_takesItem [.ref 66] μ (IT x μ0 (item x p u)) := by
  obtain ⟨hx, hM, hA, hT⟩ := id hS
  have flt : tK x p = 1 ∧ spl x p 5 lVin = false ∧ spl x p 4 lHil = false ∧ spl x p 3 lDay = false ∨ ¬ tK x p = 1 → IT x μ0 (item x p u) (some (.int (bI false))) μ := by
    rintro (⟨a, b, c, d⟩ | a)
    · unfold item; rw [if_pos a, b, c, d]; exact ⟨rfl, hM.1, hx, hT⟩
    · unfold item; rw [if_neg a]; exact ⟨rfl, hM.1, hx, hT⟩
  have sp : ∀ {n : Nat} {l : Nat → Nat}, (decide (tK x p = 1) && spl x p n l) = true → tK x p = 1 ∧ spl x p n l = true := fun h => ⟨of_decide_eq_true (Bool.and_eq_true_iff.mp h).1, (Bool.and_eq_true_iff.mp h).2⟩
  have sn : ∀ {n : Nat} {l : Nat → Nat}, (decide (tK x p = 1) && spl x p n l) = false → tK x p = 1 → spl x p n l = false := fun h k => by rw [decide_eq_true k] at h; exact h
  have bT : ∀ {pr : Pr} {r : Option Value} {μ' : Mm}, IT x μ0 pr r μ' → ∃ b : Bool, r = some (.int (bI b)) ∧ IT x μ0 pr (some (.int (bI b))) μ' := by
    intro pr r μ' h
    cases pr with
    | inl e => exact ⟨false, h.1, rfl, h.2⟩
    | inr q => exact ⟨true, h.1, rfl, h.2⟩
  refine Con.of pnX5 (Nat.le_of_ble_eq_true rfl) (fun κ => wX5_takesItem_0 μ ?_)
  refine (kX5_spells (l := lVin) hx hp hM (by decide) (by intro k; unfold lVin; repeat' split
                                                          all_goals omega)).mono ?_
  rintro r μ1 ⟨rfl, rfl⟩
  refine ⟨_, rfl, fun z => ?_, fun z => ?_⟩
  · refine (kX5_spells (l := lHil) hx hp hM (by decide) (by intro k; unfold lHil; repeat' split
                                                            all_goals omega)).mono ?_
    rintro r μ2 ⟨rfl, rfl⟩
    refine ⟨_, rfl, fun y => ?_, fun y => ?_⟩
    · refine (kX5_spells (l := lDay) hx hp hM (by decide) (by intro k; unfold lDay; repeat' split
                                                              all_goals omega)).mono ?_
      rintro r μ3 ⟨rfl, rfl⟩
      refine ⟨_, rfl, fun w => ?_, fun w => ?_⟩
      · refine flt ?_
        by_cases k1 : tK x p = 1
        · exact Or.inl ⟨k1, sn z k1, sn y k1, sn w k1⟩
        · exact Or.inr k1
      · obtain ⟨k1, s1⟩ := sp w
        have e : item x p u = itD x 9 (tE x p) u := by unfold item; rw [if_pos k1, sn z k1, sn y k1, s1]; rfl
        rw [e]
        refine (kX5_days hp hPO hS).mono ?_
        intro r μ4 h4
        obtain ⟨b, e1, e2⟩ := bT h4
        refine ⟨b, e1, fun v => ?_, fun v => ?_⟩
        · rw [v] at e2; exact e2
        · rw [v] at e2; exact e2
    · obtain ⟨k1, s1⟩ := sp y
      have e : item x p u = itH x (tS x p) (tE x p) u := by unfold item; rw [if_pos k1, sn z k1, s1]; rfl
      rw [e]
      exact (kX5_hil hp hPO hS).mono (fun r μ4 h4 => bT h4)
  · obtain ⟨k1, s1⟩ := sp z
    have e : item x p u = itV x (tE x p) u := by unfold item; rw [if_pos k1, s1]; rfl
    rw [e]
    exact (kX5_vin hp hS).mono (fun r μ4 h4 => bT h4)
