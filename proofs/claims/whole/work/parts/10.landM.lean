/-! ===== the reference's land: a row of numbers holds it ===== -/
def LM (μ : Mm) (a : Nat) (u : Ln) : Prop := ∀ j, j < 48 → μ.1 a j = nI (u j)
def Ar (a N : Nat) : Prop := shp a = .inr (0, N) ∧ 48 ≤ N ∧ N < 2 ^ 31 ∧ a ≠ 66
theorem Ar_67 : Ar 67 318 := ⟨sh_67, by decide, by decide, by decide⟩
theorem Ar_71 : Ar 71 48 := ⟨sh_71, by decide, by decide, by decide⟩
theorem Ar_75 : Ar 75 86 := ⟨sh_75, by decide, by decide, by decide⟩
/-- nothing but a row's first 48 numbers, and who went off, has changed -/
def EqM (a : Nat) (μ μ' : Mm) : Prop := μ'.2 = μ.2 ∧ (∀ b, b ≠ a → b ≠ 66 → μ'.1 b = μ.1 b) ∧ (∀ j, 48 ≤ j → μ'.1 a j = μ.1 a j) ∧ ∀ j, j ≠ 6 → μ'.1 66 j = μ.1 66 j
theorem EqM.rf {a : Nat} {μ : Mm} : EqM a μ μ := ⟨rfl, fun _ _ _ => rfl, fun _ _ => rfl, fun _ _ => rfl⟩
theorem EqM.tr {a : Nat} {μ μ1 μ2 : Mm} (h : EqM a μ μ1) (g : EqM a μ1 μ2) : EqM a μ μ2 := ⟨g.1.trans h.1, fun b h1 h2 => (g.2.1 b h1 h2).trans (h.2.1 b h1 h2), fun j hj => (g.2.2.1 j hj).trans (h.2.2.1 j hj), fun j hj => (g.2.2.2 j hj).trans (h.2.2.2 j hj)⟩
theorem EqM.ms {a i : Nat} {x : Int32} {μ μ1 : Mm} (h : EqM a μ μ1) (ha : a ≠ 66) (hi : i < 48) : EqM a μ (mset μ1 a i x) := ⟨h.1, fun b h1 h2 => (ms_row h1).trans (h.2.1 b h1 h2), fun j hj => (ms_col (by omega)).trans (h.2.2.1 j hj), fun j hj => by rw [ms_row (Ne.symm ha)]; exact h.2.2.2 j hj⟩
theorem EqM.mo {a : Nat} {x : Int32} {μ μ1 : Mm} (h : EqM a μ μ1) (ha : a ≠ 66) : EqM a μ (mset μ1 66 6 x) := ⟨h.1, fun b h1 h2 => (ms_row h2).trans (h.2.1 b h1 h2), fun j hj => by rw [ms_row ha]; exact h.2.2.1 j hj, fun j hj => by rw [ms_col hj]; exact h.2.2.2 j hj⟩
theorem far_nI {a b : Nat} (ha : a < 2 ^ 30) (hb : b < 2 ^ 30) : ffar (nI a) (nI b) = nI (if b < a then a - b else b - a) := by
  unfold ffar
  by_cases h : b < a
  · rw [if_pos h, if_pos ((nIlt (by omega) (by omega)).mpr h), pk_sub (by omega)]
  · rw [if_neg h, if_neg (fun z => h ((nIlt (by omega) (by omega)).mp z)), pk_sub (by omega)]
theorem nr2_far {a b : Nat} : 2 < (if b < a then a - b else b - a) ↔ nr2 a b = false := by
  cases e : nr2 a b with
  | true =>
    have := nr2_t.mp e
    constructor <;> intro h
    · split at h <;> omega
    · cases h
  | false =>
    have : ¬ (a ≤ b + 2 ∧ b ≤ a + 2) := fun z => by rw [nr2_t.mpr z] at e; cases e
    refine ⟨fun _ => rfl, fun _ => ?_⟩
    split <;> omega
theorem nr3_far {a b : Nat} : 3 < (if b < a then a - b else b - a) ↔ nr3 b a = false := by
  cases e : nr3 b a with
  | true =>
    have := nr3_t.mp e
    constructor <;> intro h
    · split at h <;> omega
    · cases h
  | false =>
    have : ¬ (b ≤ a + 3 ∧ a ≤ b + 3) := fun z => by rw [nr3_t.mpr z] at e; cases e
    refine ⟨fun _ => rfl, fun _ => ?_⟩
    split <;> omega
theorem bnf {b : Bool} (h : ¬ b = false) : b = true := by cases b <;> first | rfl | exact absurd rfl h
theorem kX5_loses (a N c : Nat) (μ : Mm) (hA : Ar a N) {u : Ln} (hc : c < 20) (hL : LM μ a u) :
    Con mX5_loses [.ref a, .int (nI c)] μ (fun r μ' => r = some (.int (nI (vsum u c 20))) ∧ (∀ j, j < 48 → μ'.1 a j = nI (if (14 ≤ j ∧ j < 34) ∧ nr2 (j - 14) c = true then 0 else u j)) ∧ (∀ j, 48 ≤ j → μ'.1 a j = μ.1 a j) ∧ Eqx [a] μ μ') := by
  obtain ⟨hsh, hN1, hN2, hne⟩ := hA
  refine Con.of pnX5 (Nat.le_of_ble_eq_true rfl) (fun κ => wX5_loses_0 a N _ μ hsh ?_)
  have loop : ∀ n t (μ1 : Mm), t + n = 20 → (∀ j, j < 48 → μ1.1 a j = nI (if (14 ≤ j ∧ j < 14 + t) ∧ nr2 (j - 14) c = true then 0 else u j)) → (∀ j, 48 ≤ j → μ1.1 a j = μ.1 a j) → Eqx [a] μ μ1 → Vq κ (fun r μ' => r = some (.int (nI (vsum u c 20))) ∧ (∀ j, j < 48 → μ'.1 a j = nI (if (14 ≤ j ∧ j < 34) ∧ nr2 (j - 14) c = true then 0 else u j)) ∧ (∀ j, 48 ≤ j → μ'.1 a j = μ.1 a j) ∧ Eqx [a] μ μ') mX5_loses 4 [(0, .ref a), (1, .int (nI c)), (2, .int (nI (vsum u c t))), (3, .int (nI t))] [] μ1 := by
    intro n
    induction n with
    | zero =>
      intro t μ1 ht hr h48 hE
      have e : t = 20 := by omega
      subst e
      exact wX5_loses_4 a N _ _ _ μ1 hsh ⟨fun _ => ⟨rfl, hr, h48, hE⟩, fun h => absurd ((nIle (by decide) (by decide)).mpr (by decide)) h⟩
    | succ n ih =>
      intro t μ1 ht hr h48 hE
      refine wX5_loses_4 a N _ _ _ μ1 hsh ⟨fun h => ?_, fun _ => ⟨fun h => ?_, fun h => ⟨?_, fun μ2 e2 => ?_⟩⟩⟩
      · rw [nIle (by decide) (by omega)] at h; omega
      · rw [far_nI (by omega) (by omega), nIlt (by decide) (by split <;> omega), nr2_far] at h
        rw [nI_add]
        have e : vsum u c (t + 1) = vsum u c t := by
          show vsum u c t + (if nr2 t c = true then u (14 + t) else 0) = _
          rw [h]; rfl
        rw [← e]
        refine ih (t + 1) μ1 (by omega) (fun j hj => ?_) h48 hE
        rw [hr j hj]
        congr 1
        by_cases ej : j = 14 + t
        · subst ej
          rw [show 14 + t - 14 = t by omega, h, if_neg (fun z => by cases z.2), if_neg (fun z => by cases z.2)]
        · by_cases e3 : (14 ≤ j ∧ j < 14 + t) ∧ nr2 (j - 14) c = true
          · rw [if_pos e3, if_pos ⟨⟨e3.1.1, by omega⟩, e3.2⟩]
          · rw [if_neg e3, if_neg (fun z => e3 ⟨⟨z.1.1, by omega⟩, z.2⟩)]
      · rw [nI_add]; exact vin (by omega) hN2
      · rw [far_nI (by omega) (by omega), nIlt (by decide) (by split <;> omega), nr2_far] at h
        have h := bnf h
        rw [nI_add, cl (by omega)] at e2 ⊢
        rw [hr _ (by omega), if_neg (by omega), nI_add, nI_add]
        have e : vsum u c t + u (14 + t) = vsum u c (t + 1) := by
          show _ = vsum u c t + (if nr2 t c = true then u (14 + t) else 0)
          rw [if_pos h]
        rw [e]
        refine ih (t + 1) μ2 (by omega) (fun j hj => ?_) (fun j hj => by rw [e2, ms_col (by omega)]; exact h48 j hj) (by rw [e2]; exact hE.ms (by simp))
        rw [e2]
        by_cases ej : j = 14 + t
        · subst ej
          rw [ms_at, if_pos ⟨⟨by omega, by omega⟩, by rw [show 14 + t - 14 = t by omega]; exact h⟩]
        · rw [ms_col ej, hr j hj]
          congr 1
          by_cases e3 : (14 ≤ j ∧ j < 14 + t) ∧ nr2 (j - 14) c = true
          · rw [if_pos e3, if_pos ⟨⟨e3.1.1, by omega⟩, e3.2⟩]
          · rw [if_neg e3, if_neg (fun z => e3 ⟨⟨z.1.1, by omega⟩, z.2⟩)]
  exact loop 20 0 μ rfl (fun j hj => by rw [hL j hj, if_neg (by omega)]) (fun _ _ => rfl) Eqx.rf
theorem fstO_first {u : Ln} {i : Nat} (h60 : 60 ≤ u (7 + i)) : ∀ n i0, i0 ≤ i → i < i0 + n → (∀ j, i0 ≤ j → j < i → u (7 + j) < 60) → fstO u n i0 = some i
  | 0, _, _, _, _ => by omega
  | n + 1, i0, h1, h2, h => by
    unfold fstO
    by_cases e : i0 = i
    · subst e; rw [if_pos h60]
    · rw [if_neg (by have := h i0 (Nat.le_refl _) (by omega); omega)]
      exact fstO_first h60 n (i0 + 1) (by omega) (by omega) (fun j h3 h4 => h j (by omega) h4)
theorem fstO_all {u : Ln} : ∀ n i0, (∀ j, i0 ≤ j → j < i0 + n → u (7 + j) < 60) → fstO u n i0 = none
  | 0, _, _ => rfl
  | n + 1, i0, h => by
    unfold fstO
    rw [if_neg (by have := h i0 (Nat.le_refl _) (by omega); omega)]
    exact fstO_all n (i0 + 1) (fun j h3 h4 => h j (by omega) (by omega))
def PostM (μ : Mm) (a : Nat) (R : Ln × Int32 × Nat) (μ' : Mm) : Prop := LM μ' a R.1 ∧ μ'.1 66 6 = R.2.1 ∧ EqM a μ μ'
theorem kX5_goOff (a N : Nat) (μ : Mm) (hA : Ar a N) {u : Ln} (hu : OKM 200 u) (hL : LM μ a u) : Con mX5_goOff [.ref 66, .ref a] μ (fun r μ' => r = some (.int (nI (stl (u 0) u (nI 0) 0).2.2)) ∧ PostM μ a (stl (u 0) u (nI 0) 0) μ') := by
  have hA0 := hA
  obtain ⟨hsh, hN1, hN2, hne⟩ := hA
  refine Con.of pnX5 (Nat.le_of_ble_eq_true rfl) (fun κ => wX5_goOff_0 a N μ hsh (fun μ1 e1 => ?_))
  generalize hR : stl (u 0) u (nI 0) 0 = R
  have outer : ∀ n (w : Ln) (o : Int32) (l B : Nat) (μ2 : Mm), OKM B w → B + 15 * n ≤ 400 → SI w o → unst o (w 0) ≤ n → stl n w o l = R → LM μ2 a w → μ2.1 66 6 = o → EqM a μ μ2 → Vq κ (fun r μ' => r = some (.int (nI R.2.2)) ∧ PostM μ a R μ') mX5_goOff 9 [(0, .ref 66), (1, .ref a), (2, .int (nI l)), (3, .int (nI 0))] [] μ2 := by
    intro n
    induction n with
    | zero =>
      intro w o l B μ2 hok hB hSI hun hst hLM ho hE
      have h0 := hok.1
      have hall : ∀ j, j < w 0 → w (7 + j) < 60 := fun j hj => hSI j hj (unst_all (w 0) (by omega) j hj)
      have scan : ∀ m i, i + m = w 0 → Vq κ (fun r μ' => r = some (.int (nI R.2.2)) ∧ PostM μ a R μ') mX5_goOff 9 [(0, .ref 66), (1, .ref a), (2, .int (nI l)), (3, .int (nI i))] [] μ2 := by
        intro m
        induction m with
        | zero =>
          intro i hi
          refine wX5_goOff_9 a N _ _ μ2 hsh ⟨vin (by omega) hN2, ⟨fun _ => ?_, fun h => absurd ?_ h⟩⟩
          · rw [← hst]; exact ⟨rfl, hLM, ho, hE⟩
          · rw [cl (by decide), hLM 0 (by decide), nIle (by omega) (by omega)]; omega
        | succ m ihm =>
          intro i hi
          refine wX5_goOff_9 a N _ _ μ2 hsh ⟨vin (by omega) hN2, ⟨fun h => ?_, fun _ => ⟨by rw [nI_add]; exact vin (by omega) hN2, ⟨fun h => ?_, fun _ => by rw [nI_add]; exact ihm (i + 1) (by omega)⟩⟩⟩⟩
          · rw [cl (by decide), hLM 0 (by decide), nIle (by omega) (by omega)] at h; omega
          · have := hall i (by omega)
            rw [nI_add, cl (by omega), hLM _ (by omega), nIle (by decide) (by omega)] at h
            omega
      exact scan (w 0) 0 (by omega)
    | succ n ih =>
      intro w o l B μ2 hok hB hSI hun hst hLM ho hE
      obtain ⟨h0, h4, h5, hs, hv⟩ := id hok
      have scan : ∀ m i, i + m = w 0 → (∀ j, j < i → w (7 + j) < 60) → Vq κ (fun r μ' => r = some (.int (nI R.2.2)) ∧ PostM μ a R μ') mX5_goOff 9 [(0, .ref 66), (1, .ref a), (2, .int (nI l)), (3, .int (nI i))] [] μ2 := by
        intro m
        induction m with
        | zero =>
          intro i hi hlo
          refine wX5_goOff_9 a N _ _ μ2 hsh ⟨vin (by omega) hN2, ⟨fun _ => ?_, fun h => absurd ?_ h⟩⟩
          · rw [stl_none (fstO_all _ _ (fun j _ hj => hlo j (by omega)))] at hst
            rw [← hst]; exact ⟨rfl, hLM, ho, hE⟩
          · rw [cl (by decide), hLM 0 (by decide), nIle (by omega) (by omega)]; omega
        | succ m ihm =>
          intro i hi hlo
          have hsi := hs i (by omega)
          refine wX5_goOff_9 a N _ _ μ2 hsh ⟨vin (by omega) hN2, ⟨fun h => ?_, fun _ => ⟨by rw [nI_add]; exact vin (by omega) hN2, ⟨fun h μ3 e3 μ4 e4 => ⟨by rw [nI_add]; exact vin (by omega) hN2, ?_⟩, fun h => ?_⟩⟩⟩⟩
          · rw [cl (by decide), hLM 0 (by decide), nIle (by omega) (by omega)] at h; omega
          · rw [nI_add, cl (by omega), hLM _ (by omega), nIle (by decide) (by omega)] at h
            have hf := fstO_first h (w 0) 0 (Nat.zero_le _) (by omega) (fun j _ hj => hlo j hj)
            rw [stl_some hf] at hst
            have hb : bt o i = false := by
              cases hb : bt o i with
              | false => rfl
              | true => have := hSI i (by omega) hb; omega
            have hun' := unst_ob hb (w 0) (by omega) (by omega)
            rw [nI_add, cl (by omega)] at e3
            -- behind the two stores
            have r6 : μ4.1 66 6 = ob o i := by rw [e4, ms_at, e3, ms_row (Ne.symm hne), ho]; rfl
            have ra : ∀ j, j < 48 → μ4.1 a j = nI (if j = 7 + i then 0 else w j) := by
              intro j hj
              rw [e4, ms_row hne, e3]
              by_cases e : j = 7 + i
              · subst e; rw [ms_at, if_pos rfl]
              · rw [ms_col e, if_neg e]; exact hLM j hj
            have hE4 : EqM a μ μ4 := by rw [e4, e3]; exact (hE.ms hne (by omega)).mo hne
            rw [nI_add, cl (by omega), ra _ (by omega), if_neg (by omega)]
            refine (kX5_loses a N (w (41 + i)) μ4 hA0 (u := fun j => if j = 7 + i then 0 else w j) hsi.2.2 ra).mono ?_
            rintro r μ6 ⟨rfl, hr6, h48, hE6⟩
            refine ⟨_, rfl, ?_⟩
            have evs : ∀ n, n ≤ 20 → vsum (fun j => if j = 7 + i then 0 else w j) (w (41 + i)) n = vsum w (w (41 + i)) n := by
              intro n
              induction n with
              | zero => intro _; rfl
              | succ n ihn =>
                intro hn
                unfold vsum
                rw [ihn (by omega), if_neg (show ¬ 14 + n = 7 + i by omega)]
            rw [evs 20 (Nat.le_refl _), nI_add]
            have r66 : μ6.1 66 = μ4.1 66 := hE6.2 66 (by simp; exact Ne.symm hne)
            have hE60 : EqM a μ μ6 := hE4.tr ⟨hE6.1, fun b h1 _ => hE6.2 b (by simp; exact h1), h48, fun j _ => by rw [r66]⟩
            -- the others near it
            have spread : ∀ m t (μ7 : Mm), t + m = w 0 → (∀ j, j < 48 → μ7.1 a j = nI (if 7 + t ≤ j ∧ j < 7 + w 0 then (if j = 7 + i then 0 else w j) else fireF w (ob o i) i j)) → μ7.1 66 6 = ob o i → EqM a μ μ7 → Vq κ (fun r μ' => r = some (.int (nI R.2.2)) ∧ PostM μ a R μ') mX5_goOff 68 [(0, .ref 66), (1, .ref a), (2, .int (nI (l + vsum w (w (41 + i)) 20))), (3, .int (nI i)), (4, .int (nI t))] [] μ7 := by
              intro m
              induction m with
              | zero =>
                intro t μ7 ht hr7 ho7 hE7
                have l0 : μ7.1 a 0 = nI (w 0) := by rw [hr7 0 (by decide), if_neg (by omega), fireF_0]
                refine wX5_goOff_68 a N _ _ _ μ7 hsh ⟨vin (by omega) hN2, ⟨fun _ => ?_, fun h => absurd ?_ h⟩⟩
                · exact ih (fireF w (ob o i) i) (ob o i) (l + vsum w (w (41 + i)) 20) (B + 15) μ7 (fireF_ok hok _ _) (by omega) (SI_fire h0 hSI i (by omega)) (by rw [fireF_0]; omega) hst (fun j hj => by rw [hr7 j hj, if_neg (by omega)]) ho7 hE7
                · rw [cl (by decide), l0, nIle (by omega) (by omega)]; omega
              | succ m ihs =>
                intro t μ7 ht hr7 ho7 hE7
                have l0 : μ7.1 a 0 = nI (w 0) := by rw [hr7 0 (by decide), if_neg (by omega), fireF_0]
                have lt : μ7.1 a (7 + t) = nI (if t = i then 0 else w (7 + t)) := by
                  rw [hr7 _ (by omega), if_pos (by omega)]
                  by_cases e : t = i
                  · rw [if_pos e, if_pos (by omega)]
                  · rw [if_neg e, if_neg (by omega)]
                have lc : ∀ x, x < 7 → μ7.1 a (41 + x) = nI (w (41 + x)) := fun x hx => by
                  rw [hr7 _ (by omega), if_neg (by omega), fireF_hi _ _ _ _ h0 (by omega)]
                have hst7 := (hs t (by omega)).1
                have next : ∀ (x : Nat) (μ8 : Mm), x = fireF w (ob o i) i (7 + t) → μ8 = mset μ7 a (7 + t) (nI x) → Vq κ (fun r μ' => r = some (.int (nI R.2.2)) ∧ PostM μ a R μ') mX5_goOff 68 [(0, .ref 66), (1, .ref a), (2, .int (nI (l + vsum w (w (41 + i)) 20))), (3, .int (nI i)), (4, .int (nI t + nI 1))] [] μ8 := by
                  intro x μ8 hx e8
                  rw [nI_add]
                  refine ihs (t + 1) μ8 (by omega) (fun j hj => ?_) (by rw [e8, ms_row (Ne.symm hne)]; exact ho7) (by rw [e8]; exact hE7.ms hne (by omega))
                  rw [e8]
                  by_cases e : j = 7 + t
                  · subst e; rw [ms_at, if_neg (by omega), hx]
                  · rw [ms_col e, hr7 j hj]
                    congr 1
                    by_cases e3 : 7 + t ≤ j ∧ j < 7 + w 0
                    · rw [if_pos e3, if_pos (show 7 + (t + 1) ≤ j ∧ j < 7 + w 0 from ⟨by omega, e3.2⟩)]
                    · rw [if_neg e3, if_neg (by omega)]
                refine wX5_goOff_68 a N _ _ _ μ7 hsh ⟨vin (by omega) hN2, ⟨fun h => ?_, fun _ => ⟨fun h => ⟨by rw [nI_add]; exact vin (by omega) hN2, fun μ8 e8 => ?_⟩, fun h => ⟨by rw [nI_add]; exact vin (by omega) hN2, by rw [nI_add]; exact vin (by omega) hN2, fun h2 => ⟨by rw [nI_add]; exact vin (by omega) hN2, fun μ8 e8 => ?_⟩, fun h2 => ⟨by rw [nI_add]; exact vin (by omega) hN2, fun μ8 e8 => ?_⟩⟩⟩⟩⟩
                · rw [cl (by decide), l0, nIle (by omega) (by omega)] at h; omega
                · rw [ho7] at h
                  rw [nI_add, cl (by omega), lt, nI_add] at e8
                  refine next _ μ8 ?_ e8
                  rw [fireF_s _ _ _ _ h0 (by omega), Nat.add_zero]
                  by_cases e : t = i
                  · rw [if_pos e, if_pos e]
                  · rw [if_neg e, if_neg e, if_neg (fun z => by rw [h] at z; cases z.1)]
                · rw [nI_add, cl (by omega), nI_add, cl (by omega), lc i (by omega), lc t (by omega), far_nI (by have := hsi.2.2; omega) (by have := (hs t (by omega)).2.2; omega), nIlt (by decide) (by have := hsi.2.2; have := (hs t (by omega)).2.2; split <;> omega), nr3_far] at h2
                  rw [nI_add, cl (by omega), lt, nI_add] at e8
                  refine next _ μ8 ?_ e8
                  rw [fireF_s _ _ _ _ h0 (by omega), Nat.add_zero]
                  by_cases e : t = i
                  · rw [if_pos e, if_pos e]
                  · rw [if_neg e, if_neg e, if_neg (fun z => by rw [h2] at z; cases z.2)]
                · rw [ho7] at h
                  rw [nI_add, cl (by omega), nI_add, cl (by omega), lc i (by omega), lc t (by omega), far_nI (by have := hsi.2.2; omega) (by have := (hs t (by omega)).2.2; omega), nIlt (by decide) (by have := hsi.2.2; have := (hs t (by omega)).2.2; split <;> omega), nr3_far] at h2
                  rw [nI_add, cl (by omega), lt, nI_add] at e8
                  refine next _ μ8 ?_ e8
                  rw [fireF_s _ _ _ _ h0 (by omega)]
                  by_cases e : t = i
                  · exfalso
                    rw [fbit_bt _ (by omega), ob_bt _ (by omega) (by omega), decide_eq_true e, Bool.or_true] at h
                    cases h
                  · rw [if_neg e, if_neg e, if_pos ⟨h, bnf h2⟩]
            refine spread (w 0) 0 μ6 (by omega) (fun j hj => ?_) (by rw [r66]; exact r6) hE60
            rw [hr6 j hj]
            congr 1
            by_cases ev : 14 ≤ j ∧ j < 34
            · rw [if_neg (show ¬ (7 + 0 ≤ j ∧ j < 7 + w 0) by omega)]
              have := fireF_v w (ob o i) i (j - 14) (by omega)
              rw [show 14 + (j - 14) = j by omega] at this
              rw [this]
              by_cases e : nr2 (j - 14) (w (41 + i)) = true
              · rw [if_pos ⟨ev, e⟩, if_pos e]
              · rw [if_neg (fun z => e z.2), if_neg e, if_neg (by omega)]
            · rw [if_neg (fun z => ev z.1)]
              by_cases e : 7 + 0 ≤ j ∧ j < 7 + w 0
              · rw [if_pos e]
              · rw [if_neg e, if_neg (by omega)]
                unfold fireF
                rw [if_neg ev, if_neg (by omega)]
          · rw [nI_add, cl (by omega), hLM _ (by omega), nIle (by decide) (by omega)] at h
            rw [nI_add]
            refine ihm (i + 1) (by omega) (fun j hj => ?_)
            by_cases e : j = i
            · subst e; omega
            · exact hlo j (by omega)
      exact scan (w 0) 0 (by omega) (fun j hj => by omega)
  exact outer (u 0) u (nI 0) 0 200 μ1 hu (by have := hu.1; omega) (SI_0 u) (unst_le _ _) hR (fun j hj => by rw [e1, ms_row hne]; exact hL j hj) (by rw [e1, ms_at]) (by rw [e1]; exact EqM.rf.mo hne)
theorem kX5_goDay (a N v : Nat) (μ : Mm) (hA : Ar a N) {u : Ln} (hu : OKL u) (h5 : u 5 < 999999) (hv : v < 2 ^ 31) (hL : LM μ a u) : Con mX5_goDay [.ref 66, .ref a, .int (nI v)] μ (fun r μ' => r = some (.int (nI (pasN u v))) ∧ PostM μ a (passR u v) μ') := by
  have hA0 := hA
  obtain ⟨hsh, hN1, hN2, hne⟩ := hA
  obtain ⟨h0, h4, -, hs, hvn⟩ := id hu
  refine Con.of pnX5 (Nat.le_of_ble_eq_true rfl) (fun κ => wX5_goDay_0 a N _ μ hsh ⟨vin (by omega) hN2, fun μ1 e1 => ?_⟩)
  have loop : ∀ n t (μ2 : Mm), t + n = u 0 → (∀ j, j < 48 → μ2.1 a j = nI (if 7 + t ≤ j ∧ j < 7 + u 0 then u j else dayF u v j)) → EqM a μ μ2 → Vq κ (fun r μ' => r = some (.int (nI (pasN u v))) ∧ PostM μ a (passR u v) μ') mX5_goDay 9 [(0, .ref 66), (1, .ref a), (2, .int (nI v)), (3, .int (nI t))] [] μ2 := by
    intro n
    induction n with
    | zero =>
      intro t μ2 ht hr hE
      refine wX5_goDay_9 a N _ _ μ2 hsh ⟨vin (by omega) hN2, ⟨fun _ => ?_, fun h => absurd ?_ h⟩⟩
      · refine (kX5_goOff a N μ2 hA0 ((dayF_ok hu h5 v).up (by omega)) (fun j hj => by rw [hr j hj, if_neg (by omega)])).mono ?_
        rintro r μ3 ⟨rfl, hLM, ho, hE3⟩
        rw [dayF_0] at hLM ho ⊢
        exact ⟨_, rfl, rfl, hLM, ho, hE.tr hE3⟩
      · rw [cl (by decide), hr 0 (by decide), if_neg (by omega), dayF_0, nIle (by omega) (by omega)]; omega
    | succ n ih =>
      intro t μ2 ht hr hE
      have hst := hs t (by omega)
      have l0 : μ2.1 a 0 = nI (u 0) := by rw [hr 0 (by decide), if_neg (by omega), dayF_0]
      have l4 : μ2.1 a 4 = nI (u 4) := by rw [hr 4 (by decide), if_neg (by omega), dayF_lo _ _ _ (by decide) (by decide)]
      have l5 : μ2.1 a 5 = nI (u 5 + 1) := by rw [hr 5 (by decide), if_neg (by omega), dayF_5]
      have lt : μ2.1 a (7 + t) = nI (u (7 + t)) := by rw [hr _ (by omega), if_pos (by omega)]
      have lk : μ2.1 a (34 + t) = nI (u (34 + t)) := by rw [hr _ (by omega), if_neg (by omega), dayF_hi _ _ _ (by omega)]
      have hfl := fallN_le (u 4) (u (7 + t)) (u 5 + 1)
      have next : ∀ (x : Nat) (μ8 : Mm), x = dayF u v (7 + t) → μ8 = mset μ2 a (7 + t) (nI x) → Vq κ (fun r μ' => r = some (.int (nI (pasN u v))) ∧ PostM μ a (passR u v) μ') mX5_goDay 9 [(0, .ref 66), (1, .ref a), (2, .int (nI v)), (3, .int (nI t + nI 1))] [] μ8 := by
        intro x μ8 hx e8
        rw [nI_add]
        refine ih (t + 1) μ8 (by omega) (fun j hj => ?_) (by rw [e8]; exact hE.ms hne (by omega))
        rw [e8]
        by_cases e : j = 7 + t
        · subst e; rw [ms_at, if_neg (by omega), hx]
        · rw [ms_col e, hr j hj]
          congr 1
          by_cases e3 : 7 + t ≤ j ∧ j < 7 + u 0
          · rw [if_pos e3, if_pos (by omega)]
          · rw [if_neg e3, if_neg (by omega)]
      refine wX5_goDay_9 a N _ _ μ2 hsh ⟨vin (by omega) hN2, ⟨fun h => ?_, fun _ => ⟨by rw [nI_add]; exact vin (by omega) hN2, vin (by omega) hN2, vin (by omega) hN2, ⟨fun h => ⟨fun h2 μ7 e7 => ?_, fun h2 μ8 e8 => ?_⟩, fun h => ⟨by rw [nI_add]; exact vin (by omega) hN2, fun μ8 e8 => ?_⟩⟩⟩⟩⟩
      · rw [cl (by decide), l0, nIle (by omega) (by omega)] at h; omega
      · rw [nIe (by omega) hv] at h
        rw [nI_add, cl (by omega), cl (by decide), cl (by decide), lt, l4, l5, ffall_N (by omega) (by omega) (by omega), nIle (by omega) (by omega)] at h2
        rw [nI_add, cl (by omega)] at e7
        refine next _ μ7 ?_ e7
        rw [dayF_s _ _ _ (by omega), if_pos h]; omega
      · rw [nIe (by omega) hv] at h
        rw [nI_add, cl (by omega), cl (by decide), cl (by decide), lt, l4, l5, ffall_N (by omega) (by omega) (by omega), nIle (by omega) (by omega)] at h2
        rw [nI_add, cl (by omega), cl (by decide), cl (by decide), lt, l4, l5, ffall_N (by omega) (by omega) (by omega), pk_sub (by omega)] at e8
        refine next _ μ8 ?_ e8
        rw [dayF_s _ _ _ (by omega), if_pos h]
      · rw [nIe (by omega) hv] at h
        rw [nI_add, nI_add, cl (by omega), cl (by omega), cl (by decide), lt, lk, l5, fgrowM_N (by omega) (by omega) (by omega), nI_add] at e8
        refine next _ μ8 ?_ e8
        rw [dayF_s _ _ _ (by omega), if_neg h]
  refine loop (u 0) 0 μ1 (by omega) (fun j hj => ?_) (by rw [e1, cl (by decide)]; exact EqM.rf.ms hne (by decide))
  rw [e1, cl (by decide)]
  by_cases e : j = 5
  · subst e; rw [ms_at, if_neg (by omega), dayF_5, hL 5 (by decide), nI_add]
  · rw [ms_col e, hL j hj]
    congr 1
    by_cases e3 : 7 + 0 ≤ j ∧ j < 7 + u 0
    · rw [if_pos e3]
    · rw [if_neg e3]
      unfold dayF
      rw [if_neg e, if_neg (by omega)]
