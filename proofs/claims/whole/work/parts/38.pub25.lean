/-! ===== read, the class's side: days, the whole ===== -/
theorem kX2_days (hW : TWC) {x : Tx} {μ0 μ : Mm} {p it : Nat} {u : Ln} (hp : p ≤ x.2) (hPO : PO p u) (hS : SP x μ0 μ p u it) : Con mX2_readDays [.ref 59] μ (IX x μ0 it (itD x 9 p u)) := by
  have hL := hS.1.1
  refine Con.of pnX2 (Nat.le_of_ble_eq_true rfl) (fun κ => wX2_readDays_0 μ ?_)
  refine (kX2_step hW hS.1 hp hS.2.1).mono ?_
  rintro r μ1 ⟨rfl, g1, t1⟩
  refine ⟨rfl, ?_⟩
  have gen := cnt_loop 9 (fun t (σ : Mm × Nat × Ln) => Vq κ (IX x μ0 it (itD x 9 p u)) mX2_readDays 6 [(0, .ref 59), (1, .int (nI t))] [] σ.1) (fun t σ => SP x μ0 σ.1 (tE x σ.2.1) σ.2.2 it ∧ XT x σ.1 σ.2.1 ∧ σ.2.1 ≤ x.2 ∧ PO σ.2.1 σ.2.2 ∧ itD x (9 - t) σ.2.1 σ.2.2 = itD x 9 p u) ?_ ?_ 0 (μ1, p, u) (Nat.zero_le _) ⟨hS.tn hPO.1.1 g1 t1, g1, hp, hPO, rfl⟩
  · exact gen
  · rintro ⟨μ2, q, w⟩ ⟨S2, X2, hq, P2, e2⟩
    dsimp only at S2 X2 hq P2 e2 ⊢
    have e2' : itD x 9 p u = .inr (q, w) := e2.symm
    rw [e2']
    refine wX2_readDays_6 _ μ2 ⟨fun _ => ⟨fun z => absurd z (by decide), fun _ => (kX2_ends P2.1.1 S2 X2).mono ?_⟩, fun z => absurd (by decide) z⟩
    intro r μ3 h3
    obtain ⟨b, h4, h5⟩ := h3.b
    exact ⟨b, h4, fun y => by rw [y] at h5; exact h5, fun y => by rw [y] at h5; exact h5⟩
  · rintro t ⟨μ2, q, w⟩ ht ⟨S2, X2, hq, P2, e2⟩ ih
    dsimp only at S2 X2 hq P2 e2 ih ⊢
    obtain ⟨f, hf⟩ : ∃ f, 9 - t = f + 1 := ⟨9 - t - 1, by omega⟩
    rw [hf] at e2
    have hf' : 9 - (t + 1) = f := by omega
    rw [hf'] at ih
    have hk := xK_4 (x := x) (p := q)
    have w0 := P2.1.1
    have stop : ¬ (tK x q = 2 ∧ (tV x q < w 0 ∨ tV x q = 7)) → (nI t ≤ 0 → IX x μ0 it (itD x 9 p u) (some (.int (bI false))) μ2) ∧ (¬ nI t ≤ 0 → Con mX2_endsItem [.ref 59] μ2 (fun r μ1 => ∃ b2 : Bool, r = some (.int (bI b2)) ∧ ((b2 = false → IX x μ0 it (itD x 9 p u) (some (.int (bI false))) μ1) ∧ (b2 = true → IX x μ0 it (itD x 9 p u) (some (.int (bI true))) μ1)))) := by
      intro hno
      rw [← nI_0, nIle (by omega) (by decide), ← e2]
      refine ⟨fun z => ?_, fun z => ?_⟩
      · have : f = 8 := by omega
        subst this
        rw [itD_l hno]; exact ⟨rfl, X2.2.2.1, S2.2.2.2.2.2⟩
      · rw [itD_r (by omega) hno]
        refine (kX2_ends w0 S2 X2).mono ?_
        intro r μ3 h3
        obtain ⟨b, h4, h5⟩ := h3.b
        exact ⟨b, h4, fun y => by rw [y] at h5; exact h5, fun y => by rw [y] at h5; exact h5⟩
    refine wX2_readDays_6 _ μ2 ?_
    rw [X2.2.1, nIe (by omega) (by decide), xK_n (by decide) (by decide), nI_add t 1, S2.2.2.1.2.1]
    refine ⟨fun z => absurd z (nnge (by omega) ht), fun _ => ⟨fun z => stop (fun y => z y.1), fun z => ?_⟩⟩
    have hv := tV_b (fun j hj => (S2.1.2.2 j hj).2) hq z
    rw [X2.2.2.2.2 ((xK_n (by decide) (by decide)).mpr z), fv_dec (by omega) w0, decide_eq_false_iff_not, decide_eq_true_iff]
    refine ⟨fun y => stop (fun a => y a.2), fun y => ?_⟩
    have hgt := tE_gt (x := x) (p := q) (by omega)
    have hge := tS_ge (x := x) (p := q)
    have h5 := P2.2.2.1
    obtain ⟨a1, a2, a3, a4, a5, a6⟩ := S2
    refine (kX0_pass 61 (tV x q) μ2 isL_61 P2.1 (by omega) (by omega) a3).mono ?_
    rintro r μ3 ⟨rfl, hL3, -, h63, hE3⟩
    have R : ∀ c, c < 61 ∨ 65 < c → μ3.1 c = μ2.1 c := fun c hc => hE3.2 c (by simp; omega)
    have o : ∀ j, j ≠ 6 → harF w (tV x q) j = pasL w (tV x q) j := fun j hj => by unfold harF; rw [up_ne hj]
    obtain ⟨l1, l2, l3, l4, l5⟩ := hL3
    have S3 : SP x μ0 μ3 (tE x q) (harF w (tV x q)) it := by
      refine ⟨⟨a1.1, by rw [R 59 (by decide)]; exact a1.2.1, fun j hj => by rw [R 60 (by decide)]; exact a1.2.2 j hj⟩, by rw [R 59 (by decide)]; exact a2, ⟨by rw [o 4 (by decide)]; exact l1, by rw [o 0 (by decide)]; exact l2, by rw [o 5 (by decide)]; exact l3, fun i hi => by rw [o 0 (by decide)] at hi; rw [o _ (by omega), o _ (by omega), o _ (by omega)]; exact l4 i hi, fun c hc => by rw [o _ (by omega)]; exact l5 c hc⟩, ?_, by rw [R 59 (by decide)]; exact a5, hE3.1.trans a6.1, fun c h1 h2 => (R c h2).trans (a6.2.1 c h1 h2), by rw [R 59 (by decide)]; exact a6.2.2⟩
      rw [h63, a4, nI_add]; unfold harF; rw [up_at]
    have P3 : PO (tE x q) (harF w (tV x q)) := (PO_dy P2 (by omega)).up (by omega)
    refine ⟨_, rfl, (kX2_step hW S3.1 (tE_le hq) S3.2.1).mono ?_⟩
    rintro r μ4 ⟨rfl, g4, t4⟩
    refine ⟨rfl, ih (μ4, tE x q, harF w (tV x q)) ⟨S3.tn P3.1.1 g4 t4, g4, tE_le hq, P3, ?_⟩⟩
    show itD x f (tE x q) (harF w (tV x q)) = _
    rw [← e2]; exact (itD_y ⟨z, y⟩).symm
def RI (μ0 : Mm) (res : Sum Nat (Ln × Nat)) : Option Value → Mm → Prop := fun r μ' => match res with
  | .inl e => r = some (.int (bI false)) ∧ μ'.1 59 5 = nI e ∧ FX μ0 μ'
  | .inr (u, k) => r = some (.int (bI true)) ∧ LX μ' 61 u ∧ μ'.1 61 6 = nI (u 6) ∧ μ'.1 59 6 = nI k ∧ FX μ0 μ' ∧ PO 150 u
theorem spl_len {x : Tx} {p n : Nat} {l : Nat → Nat} (h : spl x p n l = true) : tE x p - tS x p = n := of_decide_eq_true (Bool.and_eq_true_iff.mp h).1
theorem spl_ne {x : Tx} {p n m : Nat} {l k : Nat → Nat} (h : spl x p n l = true) (hm : n ≠ m) : ¬ spl x p m k = true := fun z => hm ((spl_len h).symm.trans (spl_len z))
theorem tW_0 {x : Tx} {p : Nat} : tW x p = 0 ↔ spl x p 6 lIsl = true := by
  unfold tW; repeat' split
  all_goals simp_all
theorem tW_c {x : Tx} {p : Nat} {u : Ln} (h1 : tK x p = 1) : (tW x p = 1 → item x p u = itV x (tE x p) u) ∧ (tW x p = 2 → item x p u = itH x (tS x p) (tE x p) u) ∧ (tW x p = 3 → item x p u = itD x 9 (tE x p) u) ∧ (tW x p = 0 ∨ tW x p = 4 → item x p u = .inl (tS x p)) := by
  have e : item x p u = (if spl x p 5 lVin = true then itV x (tE x p) u else if spl x p 4 lHil = true then itH x (tS x p) (tE x p) u else if spl x p 3 lDay = true then itD x 9 (tE x p) u else .inl (tS x p)) := if_pos h1
  rw [e]
  unfold tW
  by_cases s6 : spl x p 6 lIsl = true
  · rw [if_pos s6, if_neg (spl_ne s6 (by decide)), if_neg (spl_ne s6 (by decide)), if_neg (spl_ne s6 (by decide))]
    exact ⟨fun z => by omega, fun z => by omega, fun z => by omega, fun _ => rfl⟩
  · rw [if_neg s6]
    by_cases s5 : spl x p 5 lVin = true
    · rw [if_pos s5, if_pos s5]; exact ⟨fun _ => rfl, fun z => by omega, fun z => by omega, fun z => by omega⟩
    · rw [if_neg s5, if_neg s5]
      by_cases s4 : spl x p 4 lHil = true
      · rw [if_pos s4, if_pos s4]; exact ⟨fun z => by omega, fun _ => rfl, fun z => by omega, fun z => by omega⟩
      · rw [if_neg s4, if_neg s4]
        by_cases s3 : spl x p 3 lDay = true
        · rw [if_pos s3, if_pos s3]; exact ⟨fun z => by omega, fun z => by omega, fun _ => rfl, fun z => by omega⟩
        · rw [if_neg s3, if_neg s3]; exact ⟨fun z => by omega, fun z => by omega, fun z => by omega, fun _ => rfl⟩
theorem kX2_loop (hW : TWC) {x : Tx} {μ0 : Mm} : ∀ (f p k n : Nat) (u : Ln) (κ : Kx) (μ : Mm), p ≤ x.2 → x.2 - p < f → n ≤ p → PO p u → SP x μ0 μ (tE x p) u k → XT x μ p → Vq κ (RI μ0 (rd x f p u k)) mX2_readIsland 25 [(0, .ref 59), (1, .int (nI n))] [] μ := by
  intro f
  induction f with
  | zero => intro p k n u κ μ hp hf; omega
  | succ f ih =>
    intro p k n u κ μ hp hf hn hPO hS hX
    have hL := hS.1.1
    have hk := xK_4 (x := x) (p := p)
    have h0 := hPO.1.1
    have e0 : rd x (f + 1) p u k = (if tK x p = 0 then (Sum.inr (u, k) : Sum Nat (Ln × Nat)) else match item x p u with
      | .inl e => .inl e
      | .inr (q, u') => if tK x q = 3 then rd x f (tE x q) u' (k + 1) else .inl (tS x q)) := rfl
    have fault : item x p u = .inl (tS x p) → tK x p ≠ 0 → RI μ0 (rd x (f + 1) p u k) (some (.int (bI false))) μ := by
      intro hi z
      rw [e0, if_neg z, hi]; exact ⟨rfl, hX.2.2.1, hS.2.2.2.2.2⟩
    have E : xK x p ≠ 1 → (¬ xK x p = 0 → RI μ0 (rd x (f + 1) p u k) (some (.int (bI false))) μ) ∧ (xK x p = 0 → RI μ0 (rd x (f + 1) p u k) (some (.int (bI true))) μ) := by
      intro hx1
      rw [xK_n (by decide) (by decide)]
      refine ⟨fun z => fault ?_ z, fun z => ?_⟩
      · by_cases k1 : tK x p = 1
        · refine (tW_c k1).2.2.2 (Or.inr ?_)
          by_cases w4 : tW x p < 4
          · exact absurd (by unfold xK; rw [if_pos k1, if_pos w4]) hx1
          · have : tW x p ≤ 4 := by unfold tW; repeat' split
                                    all_goals omega
            omega
        · unfold item; rw [if_neg k1]
      · rw [e0, if_pos z]; exact ⟨rfl, hS.2.2.1, hS.2.2.2.1, hS.2.2.2.2.1, hS.2.2.2.2.2, hPO.up (by omega)⟩
    have cont : tK x p ≠ 0 → ∀ r μ3, IX x μ0 k (item x p u) r μ3 → ∃ b4 : Bool, r = some (.int (bI b4)) ∧ ((b4 = true → Con mX2_step [.ref 59] μ3 (fun r μ5 => r = none ∧ (Vq κ (RI μ0 (rd x (f + 1) p u k)) mX2_readIsland 25 [(0, .ref 59), (1, .int (nI n + nI 1))] [] μ5))) ∧ (b4 = false → RI μ0 (rd x (f + 1) p u k) (some (.int (bI false))) μ3)) := by
      intro z r μ3 h3
      rw [e0, if_neg z]
      cases hi : item x p u with
      | inl e =>
        rw [hi] at h3
        exact ⟨false, h3.1, fun w => absurd w (by decide), fun _ => ⟨rfl, h3.2⟩⟩
      | inr a =>
        obtain ⟨q, w⟩ := a
        rw [hi] at h3
        obtain ⟨q1, q2, q3⟩ := item_po hL hp hPO hi
        dsimp only
        rcases h3 with ⟨y, hr, S3⟩ | ⟨y, hr, h4, h5⟩
        · refine ⟨true, hr, fun _ => ?_, fun w => absurd w (by decide)⟩
          have s1 := tE_s (x := x) (p := q) (by omega)
          have s2 := tE_le (x := x) (p := q) q2
          rw [if_pos y]
          refine (kX2_step hW S3.1 s2 S3.2.1).mono ?_
          rintro r μ4 ⟨rfl, g4, t4⟩
          refine ⟨rfl, ?_⟩
          rw [nI_add n 1]
          exact ih (tE x q) (k + 1) (n + 1) w κ μ4 s2 (by omega) (by omega) (q3.up (by omega)) (S3.tn q3.1.1 g4 t4) g4
        · refine ⟨false, hr, fun w => absurd w (by decide), fun _ => ?_⟩
          rw [if_neg y]; exact ⟨rfl, h4, h5⟩
    refine wX2_readIsland_25 _ μ ?_
    rw [hS.1.2.1, hX.2.1, nIle (by omega) (by omega), nI0 (by omega), nIe (by omega) (by decide)]
    refine ⟨fun z => ?_, fun z => ⟨fun y => E y, fun y => ?_⟩⟩
    · refine E (fun w => ?_)
      have hk0 : tK x p = 0 := by
        have := tS_ge (x := x) (p := p)
        unfold tK; rw [if_pos (by omega)]
      unfold xK at w; rw [if_neg (by omega)] at w; omega
    · have k1 : tK x p = 1 ∧ tW x p < 4 := by
        unfold xK at y
        by_cases k1 : tK x p = 1
        · rw [if_pos k1] at y
          by_cases w4 : tW x p < 4
          · exact ⟨k1, w4⟩
          · rw [if_neg w4] at y; omega
        · rw [if_neg k1] at y; exact absurd y k1
      have s1 := tE_s (x := x) (p := p) (by omega)
      have pE := tE_le hp
      have P1 := hPO.up (show p ≤ tE x p by omega)
      rw [hX.2.2.2.1 y, nIe (by omega) (by decide), nIe (by omega) (by decide), nIe (by omega) (by decide)]
      obtain ⟨c1, c2, c3, c4⟩ := tW_c (u := u) k1.1
      refine ⟨fun z1 => ⟨fun z2 => ⟨fun z3 => fault (c4 (by omega)) (by omega), fun z3 => ?_⟩, fun z2 => ?_⟩, fun z1 => ?_⟩
      · refine (kX2_days hW pE P1 hS).mono ?_
        rw [← c3 z3]; exact cont (by omega)
      · refine (kX2_hil hW pE P1 hS hX.2.2.1).mono ?_
        rw [← c2 z2]; exact cont (by omega)
      · refine (kX2_vin hW pE P1 hS).mono ?_
        rw [← c1 z1]; exact cont (by omega)
