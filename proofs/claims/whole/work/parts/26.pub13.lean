/-! ===== waiting, the reference's side ===== -/
def TW (μ0 μ1 : Mm) : Prop := μ1.2 = μ0.2 ∧ (∀ b, b ≠ 71 → b ≠ 66 → b ≠ 73 → μ1.1 b = μ0.1 b) ∧ ∀ j, j ≠ 6 → μ1.1 66 j = μ0.1 66 j
theorem TW.rf {μ : Mm} : TW μ μ := ⟨rfl, fun _ _ _ _ => rfl, fun _ _ => rfl⟩
theorem TW.tm {μ0 μ1 μ2 : Mm} (h : TW μ0 μ1) (g : TM μ1 μ2) : TW μ0 μ2 := ⟨g.1.trans h.1, fun b h1 h2 h3 => (g.2.1 b h1 h2).trans (h.2.1 b h1 h2 h3), fun j hj => (g.2.2 j hj).trans (h.2.2 j hj)⟩
theorem TW.s71 {μ0 μ1 : Mm} {i : Nat} {x : Int32} (h : TW μ0 μ1) : TW μ0 (mset μ1 71 i x) := ⟨h.1, fun b h1 h2 h3 => (ms_row h1).trans (h.2.1 b h1 h2 h3), fun j hj => by rw [ms_row (by decide)]; exact h.2.2 j hj⟩
theorem TW.s73 {μ0 μ1 : Mm} {i : Nat} {x : Int32} (h : TW μ0 μ1) : TW μ0 (mset μ1 73 i x) := ⟨h.1, fun b h1 h2 h3 => (ms_row h3).trans (h.2.1 b h1 h2 h3), fun j hj => by rw [ms_row (by decide)]; exact h.2.2 j hj⟩
theorem TW.rm {μ0 μ1 : Mm} {s : Ln} {n : Nat} (h : RM μ0 s) (hok : OKs n s) (ht : TW μ0 μ1) : RM μ1 s ∧ EqG μ0 μ1 := h.scr hok (fun x hx => ht.2.1 x (by omega) (by omega) (by omega)) (ht.2.2 11 (by decide)) ht.1
theorem TW.rma {μ0 μ1 : Mm} {s : Ln} (h : RMa μ0 s) (ht : TW μ0 μ1) : RMa μ1 s := fun j hj => by rw [ht.2.1 67 (by decide) (by decide) (by decide)]; exact h j hj
theorem bm_nm {s : Ln} {b : Nat} (hb : b < s 0) : bmp s (nm (s 0) b) = up s (7 + b) (if s (7 + b) + 10 < 59 then s (7 + b) + 10 else 59) := by
  have : nm (s 0) b = b := if_neg (by omega)
  rw [this]; exact if_pos hb
theorem bm_nm7 {s : Ln} (h : s 0 ≤ 7) : bmp s (nm (s 0) (s 0)) = s := by
  have : nm (s 0) (s 0) = 7 := if_pos rfl
  rw [this]; exact if_neg (by omega)
def TbM (μ : Mm) (s : Ln) (a b : Nat) : Prop := ∀ i j, (i < a ∨ (i = a ∧ j < b)) → i ≤ s 0 → j ≤ s 0 → μ.1 73 (8 * i + j) = nI (lsN s (nm (s 0) i) (nm (s 0) j))
theorem kX5_layLost {μ : Mm} {s : Ln} {n : Nat} (h : RM μ s) (hok : OKs n s) (hn : n ≤ 600) : Con mX5_layLost [.ref 66] μ (fun r μ' => r = none ∧ TbM μ' s (s 0 + 1) 0 ∧ TW μ μ') := by
  obtain ⟨hOK, h5, hph⟩ := hok.1.ok hn
  have h0 := hOK.1
  refine Con.of pnX5 (Nat.le_of_ble_eq_true rfl) (fun κ => wX5_layLost_0 μ ?_)
  refine cnt_loop (s 0 + 1) (fun i μ1 => Vq κ (fun r μ' => r = none ∧ TbM μ' s (s 0 + 1) 0 ∧ TW μ μ') mX5_layLost 2 [(0, .ref 66), (1, .int (nI i))] [] μ1) (fun i μ1 => TbM μ1 s i 0 ∧ TW μ μ1) ?_ ?_ 0 μ (Nat.zero_le _) ⟨fun i j hi => absurd hi (by omega), TW.rf⟩
  · rintro μ1 ⟨h1, hT⟩
    have hm := hT.rma h.1
    refine wX5_layLost_2 _ μ1 ?_
    rw [hm 0 (by decide)]
    exact ⟨fun _ => ⟨rfl, h1, hT⟩, fun z => absurd ((nIlt (by omega) (by omega)).mpr (by omega)) z⟩
  · rintro a μ1 ha ⟨h1, hT⟩ ih
    have hm := hT.rma h.1
    refine wX5_layLost_2 _ μ1 ?_
    rw [hm 0 (by decide)]
    refine ⟨fun z => absurd z (by rw [nIlt (by omega) (by omega)]; omega), fun _ => ?_⟩
    refine cnt_loop (s 0 + 1) (fun b μ2 => Vq κ (fun r μ' => r = none ∧ TbM μ' s (s 0 + 1) 0 ∧ TW μ μ') mX5_layLost 12 [(0, .ref 66), (1, .int (nI a)), (2, .int (nI b))] [] μ2) (fun b μ2 => TbM μ2 s a b ∧ TW μ μ2) ?_ ?_ 0 μ1 (Nat.zero_le _) ⟨h1, hT⟩
    · rintro μ2 ⟨h2, hT2⟩
      have hm2 := hT2.rma h.1
      refine wX5_layLost_12 _ _ μ2 ?_
      rw [hm2 0 (by decide), nI_add a 1]
      exact ⟨fun _ => ih μ2 ⟨fun i j hi h3 h4 => h2 i j (by omega) h3 h4, hT2⟩, fun z => absurd ((nIlt (by omega) (by omega)).mpr (by omega)) z⟩
    · rintro b μ2 hb ⟨h2, hT2⟩ ih2
      have hm2 := hT2.rma h.1
      refine wX5_layLost_12 _ _ μ2 ?_
      rw [hm2 0 (by decide)]
      refine ⟨fun z => absurd z (by rw [nIlt (by omega) (by omega)]; omega), fun _ => ?_⟩
      refine (kLay hm2).mono ?_
      rintro r μ3 ⟨rfl, hL3, hT3⟩
      have r73 : μ3.1 73 = μ2.1 73 := hT3.2.1 73 (by decide) (by decide)
      have hT3 := hT2.tm hT3
      have hm3 := hT3.rma h.1
      have G : ∀ μ4 : Mm, LM μ4 71 (bmp s (nm (s 0) b)) → TW μ μ4 → μ4.1 73 = μ2.1 73 → (¬ nI a = μ4.1 67 0 → Con mX5_goDay [.ref 66, .ref 71, .int (nI a)] μ4 (fun r μ2 => ∃ x3 : Int32, r = some (.int x3) ∧ (vp_in (((nI 8) * nI a) + nI b) 64 ∧ (∀ μ5 : Mm, μ5 = mset μ2 73 (((nI 8) * nI a) + nI b).toNatClampNeg x3 → Vq κ (fun r μ' => r = none ∧ TbM μ' s (s 0 + 1) 0 ∧ TW μ μ') mX5_layLost 12 [(0, .ref 66), (1, .int (nI a)), (2, .int (nI b + nI 1))] [] μ5)))) ∧ (nI a = μ4.1 67 0 → Con mX5_goDay [.ref 66, .ref 71, .int (nI 7)] μ4 (fun r μ6 => ∃ x7 : Int32, r = some (.int x7) ∧ (vp_in (((nI 8) * nI a) + nI b) 64 ∧ (∀ μ9 : Mm, μ9 = mset μ6 73 (((nI 8) * nI a) + nI b).toNatClampNeg x7 → Vq κ (fun r μ' => r = none ∧ TbM μ' s (s 0 + 1) 0 ∧ TW μ μ') mX5_layLost 12 [(0, .ref 66), (1, .int (nI a)), (2, .int (nI b + nI 1))] [] μ9)))) := by
        intro μ4 hL4 hT4 r4
        have hm4 := hT4.rma h.1
        rw [hm4 0 (by decide), nIe (by omega) (by omega), pk_mul, nI_add (8 * a) b, cl (n := 8 * a + b) (by omega), nI_add b 1]
        have G2 : ∀ v, v = nm (s 0) a → Con mX5_goDay [.ref 66, .ref 71, .int (nI v)] μ4 (fun r μ2 => ∃ x3 : Int32, r = some (.int x3) ∧ (vp_in (nI (8 * a + b)) 64 ∧ (∀ μ5 : Mm, μ5 = mset μ2 73 (8 * a + b) x3 → Vq κ (fun r μ' => r = none ∧ TbM μ' s (s 0 + 1) 0 ∧ TW μ μ') mX5_layLost 12 [(0, .ref 66), (1, .int (nI a)), (2, .int (nI (b + 1)))] [] μ5))) := by
          rintro v rfl
          have hv := nm_7 h0 (show a ≤ s 0 by omega)
          refine (kX5_goDay 71 48 (nm (s 0) a) μ4 Ar_71 (bm_ok hOK _) (by rw [bm_5 h0]; omega) (by omega) hL4).mono ?_
          rintro r μ5 ⟨rfl, -, -, hE5⟩
          have hT5 := hT4.tm (TM.ofM hE5)
          refine ⟨_, rfl, vin (by omega) (by decide), fun μ6 e6 => ih2 μ6 ⟨fun i j hij h3 h4 => ?_, by rw [e6]; exact hT5.s73⟩⟩
          rw [e6]
          by_cases e : i = a ∧ j = b
          · obtain ⟨rfl, rfl⟩ := e; rw [ms_at]; rfl
          · rw [ms_col (by omega), (TM.ofM hE5).2.1 73 (by decide) (by decide), r4]; exact h2 i j (by omega) h3 h4
        exact ⟨fun z => G2 a (if_neg z).symm, fun z => G2 7 (if_pos z).symm⟩
      refine ⟨rfl, ?_⟩
      rw [hm3 0 (by decide), nIle (by omega) (by omega)]
      refine ⟨fun z => ?_, fun z => ?_⟩
      · have e : b = s 0 := by omega
        have := G μ3 (by rw [e, bm_nm7 h0]; exact hL3) hT3 r73
        rw [hm3 0 (by decide)] at this
        exact this
      · have hs60 := (hOK.2.2.2.1 b (by omega)).1
        rw [nI_add 7 b, cl (n := 7 + b) (by omega), hL3 (7 + b) (by omega), nI_add (s (7 + b)) 10, nIle (by omega) (by decide)]
        have G3 : ∀ v μ4, v = (if s (7 + b) + 10 < 59 then s (7 + b) + 10 else 59) → μ4 = mset μ3 71 (7 + b) (nI v) → LM μ4 71 (bmp s (nm (s 0) b)) ∧ TW μ μ4 ∧ μ4.1 73 = μ2.1 73 := by
          rintro v μ4 hv rfl
          refine ⟨fun j hj => ?_, hT3.s71, by rw [ms_row (by decide)]; exact r73⟩
          rw [bm_nm (by omega), ← hv]
          by_cases e : j = 7 + b
          · subst e; rw [ms_at, up_at]
          · rw [ms_col e, up_ne e]; exact hL3 j hj
        refine ⟨vin (by omega) (by decide), fun y μ4 e4 => ?_, fun y μ4 e4 => ?_⟩
        · obtain ⟨g1, g2, g3⟩ := G3 _ μ4 (by split <;> omega) e4
          exact G μ4 g1 g2 g3
        · obtain ⟨g1, g2, g3⟩ := G3 _ μ4 (by split <;> omega) e4
          exact G μ4 g1 g2 g3
theorem kX5_rests {μ : Mm} {s : Ln} (hOK : OKL s) (h67 : μ.1 67 0 = nI (s 0)) (hT : TbM μ s (s 0 + 1) 0) {a b : Nat} (ha : a ≤ s 0) (hb : b ≤ s 0) : Con mX5_rests [.ref 66, .int (nI a), .int (nI b)] μ (fun r μ' => r = some (.int (bI (rsN s (nm (s 0) a) (nm (s 0) b)))) ∧ μ' = μ) := by
  have h0 := hOK.1
  have hB : ∀ a b, lsN s a b ≤ 180 := fun a b => ls_le hOK a b
  refine Con.of pnX5 (Nat.le_of_ble_eq_true rfl) (fun κ => wX5_rests_0 _ _ μ ?_)
  refine cnt_loop (s 0 + 1) (fun o (_ : Unit) => Vq κ (fun r μ' => r = some (.int (bI (rsN s (nm (s 0) a) (nm (s 0) b)))) ∧ μ' = μ) mX5_rests 5 [(0, .ref 66), (1, .int (nI a)), (2, .int (nI b)), (3, .int (bI (ftA (rsF s (nm (s 0) a) (nm (s 0) b)) o))), (4, .int (nI o))] [] μ) (fun _ _ => True) ?_ ?_ 0 () (Nat.zero_le _) trivial
  · intro _ _
    refine wX5_rests_5 _ _ _ _ μ ?_
    rw [h67]
    exact ⟨fun _ => ⟨_, rfl, rfl, rfl⟩, fun z => absurd ((nIlt (by omega) (by omega)).mpr (by omega)) z⟩
  · intro o _ ho _ ih
    have ih' := ih () trivial
    have E : ∀ c, ftA (rsF s (nm (s 0) a) (nm (s 0) b)) (o + 1) = c → Vq κ (fun r μ' => r = some (.int (bI (rsN s (nm (s 0) a) (nm (s 0) b)))) ∧ μ' = μ) mX5_rests 5 [(0, .ref 66), (1, .int (nI a)), (2, .int (nI b)), (3, .int (bI c)), (4, .int (nI (o + 1)))] [] μ := fun c hc => by rw [← hc]; exact ih'
    have k1 := hB (nm (s 0) o) (nm (s 0) b)
    have k2 := hB (nm (s 0) a) (nm (s 0) b)
    have k3 := hB (nm (s 0) a) (nm (s 0) o)
    refine wX5_rests_5 _ _ _ _ μ ?_
    rw [h67, nI_add o 1, pk_mul 8 o, nI_add (8 * o) b, cl (n := 8 * o + b) (by omega), pk_mul 8 a, nI_add (8 * a) b, cl (n := 8 * a + b) (by omega), nI_add (8 * a) o, cl (n := 8 * a + o) (by omega), hT o b (by omega) (by omega) hb, hT a b (by omega) ha hb, hT a o (by omega) ha (by omega), nIlt (by omega) (by omega), nIlt (by omega) (by omega), nIlt (by omega) (by omega)]
    refine ⟨fun z => by omega, fun _ => ⟨fun z => ?_, fun z => ⟨vin (by omega) (by decide), vin (by omega) (by decide), fun y => ?_, fun y => ⟨vin (by omega) (by decide), fun w => ?_, fun w => ?_⟩⟩⟩⟩
    · rw [bI_eq] at z
      exact E false (by show (ftA _ o && _) = false; rw [z, Bool.false_and])
    · exact E false (ftA_f (r := o) (by unfold rsF; rw [decide_eq_false (by omega), Bool.false_and]) (Nat.lt_succ_self o))
    · exact E false (ftA_f (r := o) (by unfold rsF; rw [decide_eq_false (p := lsN s (nm (s 0) a) (nm (s 0) o) ≤ _) (by omega), Bool.and_false]) (Nat.lt_succ_self o))
    · rw [bI_eq, Bool.not_eq_false] at z
      exact E true (ftA_s z (by unfold rsF; rw [decide_eq_true (by omega), decide_eq_true (by omega)]; rfl))
theorem kX5_named {μ : Mm} {s : Ln} (h0 : s 0 ≤ 7) (h67 : μ.1 67 0 = nI (s 0)) {a : Nat} (ha : a ≤ s 0) : Con mX5_named [.ref 66, .int (nI a)] μ (fun r μ' => r = some (.int (nI (nm (s 0) a))) ∧ μ' = μ) := by
  refine Con.of pnX5 (Nat.le_of_ble_eq_true rfl) (fun κ => wX5_named_0 _ μ ?_)
  rw [h67, nIe (by omega) (by omega)]
  exact ⟨fun z => ⟨by unfold nm; rw [if_neg z], rfl⟩, fun z => ⟨by unfold nm; rw [if_pos z], rfl⟩⟩
theorem mWait (x : Int32) {μ : Mm} {s : Ln} {n : Nat} (h : RM μ s) (hok : OKs n s) (hn : n ≤ 600) : Con mX5_waiting [.ref 66, .int x] μ (PM (sWait x s) μ) := by
  obtain ⟨hOK, h5, hph⟩ := hok.1.ok hn
  have h0 := hOK.1
  refine Con.of pnX5 (Nat.le_of_ble_eq_true rfl) (fun κ => wX5_waiting_0 x μ ⟨fun hb => ?_, fun hb => ?_⟩)
  · unfold sWait
    rw [if_pos hb]
    refine (kX5_layLost h hok hn).mono ?_
    rintro r μ1 ⟨rfl, hT, hE⟩
    obtain ⟨hR, hH⟩ := hE.rm h hok
    have h67 : μ1.1 67 0 = nI (s 0) := hR.1 0 (by decide)
    refine ⟨rfl, ?_⟩
    refine cnt_loop (s 0 + 1) (fun a (_ : Unit) => Vq κ (PM (wA s x, s) μ) mX5_waiting 20 [(0, .ref 66), (1, .int x), (2, .int (nI (wI s x a).1)), (3, .int (nI a))] [] μ1) (fun a _ => (wI s x a).2 = none) ?_ ?_ 0 () (Nat.zero_le _) rfl
    · intro _ hI
      have e := wA_n hI
      refine wX5_waiting_20 _ _ _ μ1 ?_
      rw [h67]
      refine ⟨fun _ => ⟨fun z => pm ?_ ⟨hR, hH⟩, fun z => pm ?_ ⟨hR, hH⟩⟩, fun z => absurd ((nIlt (by omega) (by omega)).mpr (by omega)) z⟩
      · rw [e, if_neg z]
      · rw [e, if_pos z]
    · intro a _ ha hI ih
      refine wX5_waiting_20 _ _ _ μ1 ?_
      rw [h67]
      refine ⟨fun z => absurd z (by rw [nIlt (by omega) (by omega)]; omega), fun _ => ?_⟩
      refine cnt_loop (s 0 + 1) (fun b (_ : Unit) => Vq κ (PM (wA s x, s) μ) mX5_waiting 31 [(0, .ref 66), (1, .int x), (2, .int (nI (wJ s x a b (wI s x a)).1)), (3, .int (nI a)), (4, .int (nI b))] [] μ1) (fun b _ => (wJ s x a b (wI s x a)).2 = none) ?_ ?_ 0 () (Nat.zero_le _) hI
      · intro _ hJ
        refine wX5_waiting_31 _ _ _ _ μ1 ?_
        rw [h67, nI_add a 1]
        exact ⟨fun _ => ih () hJ, fun z => absurd ((nIlt (by omega) (by omega)).mpr (by omega)) z⟩
      · intro b _ hb hJ ih2
        have ih2' := ih2 ()
        refine wX5_waiting_31 _ _ _ _ μ1 ?_
        rw [h67, nI_add b 1]
        refine ⟨fun z => absurd z (by rw [nIlt (by omega) (by omega)]; omega), fun _ => ?_⟩
        refine (kX5_rests hOK h67 hT (by omega) (by omega)).mono ?_
        rintro r μ2 ⟨rfl, rfl⟩
        have st : wJ s x a (b + 1) (wI s x a) = wst x (wJ s x a b (wI s x a)) (rsN s (nm (s 0) a) (nm (s 0) b)) (nI (10 * nm (s 0) a + nm (s 0) b)) := rfl
        rw [st] at ih2'
        refine ⟨_, rfl, fun z => ?_, fun z => ⟨fun y => ?_, fun y => ?_⟩⟩
        · rw [wst_f hJ z] at ih2'; exact ih2' hJ
        · rw [wst_n hJ z y] at ih2'
          rw [nI_add]
          exact ih2' rfl
        · refine (kX5_named h0 h67 (by omega)).mono ?_
          rintro r μ3 ⟨rfl, rfl⟩
          refine ⟨_, rfl, (kX5_named h0 h67 (by omega)).mono ?_⟩
          rintro r μ4 ⟨rfl, rfl⟩
          refine ⟨_, rfl, pm ?_ ⟨hR, hH⟩⟩
          rw [wst_y hJ z y] at st
          rw [wA_y (show a ≤ s 0 by omega) (show b ≤ s 0 by omega) (w := nI (10 * nm (s 0) a + nm (s 0) b)) (by rw [st]), pk_mul, nI_add]
  · unfold sWait
    rw [if_neg hb]
    exact PM.on (kX5_badR (-10) h)
