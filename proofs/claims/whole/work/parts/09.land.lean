/-! ===== Land: a block of cells holds a land ===== -/
def LX (μ : Mm) (k : Nat) (u : Ln) : Prop := μ.1 k 0 = nI (u 4) ∧ μ.1 k 1 = nI (u 0) ∧ μ.1 k 7 = nI (u 5) ∧ (∀ i, i < u 0 → μ.1 (k + 1) i = nI (u (34 + i)) ∧ μ.1 (k + 2) i = nI (u (41 + i)) ∧ μ.1 (k + 3) i = nI (u (7 + i))) ∧ ∀ c, c < 20 → μ.1 (k + 4) c = nI (u (14 + c))
def resO (x : Option Nat) : Int32 := match x with
  | none => -1
  | some i => nI i
theorem kX0_firstOver (k : Nat) (μ : Mm) (hk : isL k) {u : Ln} (hu : OKM 2000 u) (hL : LX μ k u) : Con mX0_firstOver [.ref k] μ (Rv (.int (resO (fstO u (u 0) 0))) μ) := by
  refine Con.of pnX0 (Nat.le_of_ble_eq_true rfl) (fun κ => wX0_firstOver_0 k μ hk ?_)
  obtain ⟨-, h1, -, hr, -⟩ := hL
  obtain ⟨h0, -, -, hs, -⟩ := hu
  have loop : ∀ n i, i + n = u 0 → fstO u (u 0) 0 = fstO u n i → Vq κ (Rv (.int (resO (fstO u (u 0) 0))) μ) mX0_firstOver 2 [(0, .ref k), (1, .int (nI i))] [] μ := by
    intro n
    induction n with
    | zero =>
      intro i hi he
      refine wX0_firstOver_2 k (nI i) μ hk ⟨fun _ => rvi (by rw [he]; rfl), fun h => absurd ?_ h⟩
      rw [h1, nIle (by omega) (by omega)]
      omega
    | succ n ih =>
      intro i hi he
      have hb := (hs i (by omega)).1
      have he' : fstO u (n + 1) i = if 60 ≤ u (7 + i) then some i else fstO u n (i + 1) := rfl
      rw [he'] at he
      refine wX0_firstOver_2 k (nI i) μ hk ⟨fun h => ?_, fun _ => ⟨vin (by omega) (by decide), ⟨fun h => ?_, fun h => ?_⟩⟩⟩
      · rw [h1, nIle (by omega) (by omega)] at h
        omega
      · rw [cl (by omega), (hr i (by omega)).2.2, nIle (by omega) (by decide)] at h
        rw [if_neg (by omega)] at he
        rw [nI_add]
        exact ih (i + 1) (by omega) he
      · rw [cl (by omega), (hr i (by omega)).2.2, nIle (by omega) (by decide)] at h
        rw [if_pos (by omega)] at he
        exact rvi (by rw [he]; rfl)
  exact loop (u 0) 0 (by omega) rfl
theorem vsum_skip {u : Ln} {c : Nat} {a : Nat} : ∀ {n : Nat}, (∀ x, a ≤ x → x < a + n → nr2 x c = false) → vsum u c (a + n) = vsum u c a
  | 0, _ => rfl
  | n + 1, h => by
    show vsum u c (a + n) + (if nr2 (a + n) c = true then u (14 + (a + n)) else 0) = _
    rw [vsum_skip (fun x h1 h2 => h x h1 (by omega)), h (a + n) (by omega) (by omega)]
    rfl
theorem nr2_f {a b : Nat} (h : ¬ (a ≤ b + 2 ∧ b ≤ a + 2)) : nr2 a b = false := by
  cases e : nr2 a b with
  | false => rfl
  | true => exact absurd (nr2_t.mp e) h
theorem lo_nI {c : Nat} (hc : c < 20) : (if nI 0 < nI c - nI 2 then nI c - nI 2 else nI 0) = nI (c - 2) := by
  by_cases h : 2 ≤ c
  · rw [pk_sub h]
    by_cases e : c - 2 = 0
    · rw [e]; rfl
    · rw [if_pos ((nIlt (by decide) (by omega)).mpr (by omega))]
  · rw [if_neg, show c - 2 = 0 by omega]
    intro h2
    have h3 := pk_sneg (a := c) (b := 2) (by decide) (by omega)
    rw [Int32.lt_iff_toInt_lt] at h2 h3
    rw [nI_0] at h2
    omega
theorem hi_nI {c : Nat} (hc : c < 20) : (if nI c + nI 2 < nI 19 then nI c + nI 2 else nI 19) = nI (if c + 2 < 19 then c + 2 else 19) := by
  rw [nI_add]
  exact nI_ite (nIlt (by omega) (by decide)) rfl rfl
theorem kX0_loseAround (k c : Nat) (μ : Mm) (hk : isL k) {u : Ln} (hc : c < 20) (hv : ∀ x, x < 20 → u (14 + x) ≤ 9) (hL : ∀ x, x < 20 → μ.1 (k + 4) x = nI (u (14 + x))) :
    Con mX0_loseAround [.ref k, .int (nI c)] μ (fun r μ' => r = some (.int (nI (vsum u c 20))) ∧ (∀ x, x < 20 → μ'.1 (k + 4) x = nI (if nr2 x c = true then 0 else u (14 + x))) ∧ Eqx [k + 4] μ μ') := by
  refine Con.of pnX0 (Nat.le_of_ble_eq_true rfl) (fun κ => wX0_loseAround_0 k (nI c) μ hk ?_)
  rw [lo_nI hc, hi_nI hc]
  generalize hH : (if c + 2 < 19 then c + 2 else 19) = hi
  have hhi : hi < 20 ∧ (∀ x, x < 20 → c ≤ x + 2 → x ≤ c + 2 → x ≤ hi) ∧ hi ≤ c + 2 ∧ c ≤ hi := by
    subst hH; split <;> refine ⟨by omega, fun x _ _ _ => by omega, by omega, by omega⟩
  have hlo : vsum u c (c - 2) = 0 := by
    have := vsum_skip (u := u) (c := c) (a := 0) (n := c - 2) (fun x _ h => nr2_f (by omega))
    rw [Nat.zero_add] at this
    rw [this]; rfl
  have loop : ∀ n j (μ1 : Mm), j + n = hi + 1 → c - 2 ≤ j → (∀ x, x < 20 → μ1.1 (k + 4) x = nI (if x < j ∧ nr2 x c = true then 0 else u (14 + x))) → Eqx [k + 4] μ μ1 → Vq κ (fun r μ' => r = some (.int (nI (vsum u c 20))) ∧ (∀ x, x < 20 → μ'.1 (k + 4) x = nI (if nr2 x c = true then 0 else u (14 + x))) ∧ Eqx [k + 4] μ μ') mX0_loseAround 20 [(0, .ref k), (1, .int (nI c)), (2, .int (nI (vsum u c j))), (3, .int (nI hi)), (4, .int (nI j))] [] μ1 := by
    intro n
    induction n with
    | zero =>
      intro j μ1 hj _ hr hE
      refine wX0_loseAround_20 k _ _ _ _ μ1 hk ⟨fun _ => ⟨?_, fun x hx => ?_, hE⟩, fun h => absurd ?_ h⟩
      · have := vsum_skip (u := u) (c := c) (a := j) (n := 20 - j) (fun x h1 h2 => nr2_f (fun z => by have := hhi.2.1 x (by omega) z.2 z.1; omega))
        rw [show j + (20 - j) = 20 by omega] at this
        rw [this]
      · rw [hr x hx]
        by_cases e : nr2 x c = true
        · have := nr2_t.mp e
          have := hhi.2.1 x hx this.2 this.1
          rw [if_pos ⟨by omega, e⟩, if_pos e]
        · rw [if_neg (fun z => e z.2), if_neg e]
      · rw [nIlt (by omega) (by omega)]; omega
    | succ n ih =>
      intro j μ1 hj hl hr hE
      refine wX0_loseAround_20 k _ _ _ _ μ1 hk ⟨fun h => ?_, fun _ => ⟨vin (by omega) (by decide), fun μ2 e2 => ?_⟩⟩
      · rw [nIlt (by omega) (by omega)] at h; omega
      · rw [cl (by omega)] at e2 ⊢
        have hnr : nr2 j c = true := nr2_t.mpr ⟨by omega, by omega⟩
        rw [hr j (by omega), if_neg (by omega), nI_add, nI_add]
        have hvs : vsum u c j + u (14 + j) = vsum u c (j + 1) := by
          show _ = vsum u c j + (if nr2 j c = true then u (14 + j) else 0)
          rw [if_pos hnr]
        rw [hvs]
        refine ih (j + 1) μ2 (by omega) (by omega) (fun x hx => ?_) (by rw [e2]; exact hE.ms List.mem_cons_self)
        rw [e2]
        by_cases ex : x = j
        · subst ex
          rw [ms_at, if_pos ⟨by omega, hnr⟩]
        · rw [ms_col ex, hr x hx]
          by_cases e : x < j ∧ nr2 x c = true
          · rw [if_pos e, if_pos ⟨by omega, e.2⟩]
          · rw [if_neg e, if_neg (fun z => e ⟨by omega, z.2⟩)]
  have := loop (hi + 1 - (c - 2)) (c - 2) μ (by omega) (Nat.le_refl _) (fun x hx => by rw [hL x hx, if_neg (fun z => by have := nr2_t.mp z.2; omega)]) Eqx.rf
  rw [hlo] at this
  exact this
theorem ad_nI {a b : Nat} (ha : a < 2 ^ 30) (hb : b < 2 ^ 30) : (if 0 ≤ nI a - nI b then nI a - nI b else 0 - (nI a - nI b)) = nI (if b ≤ a then a - b else b - a) := by
  have h := pk_sub_toInt ha hb
  have h0 : (0 : Int32).toInt = 0 := rfl
  by_cases c : b ≤ a
  · rw [if_pos c, pk_sub c, if_pos (nI_pos' (by omega))]
  · rw [if_neg c, if_neg (by rw [Int32.le_iff_toInt_le, h, h0]; omega)]
    rw [← nI_0]
    have e1 : nI b - nI a = nI (b - a) := pk_sub (by omega)
    rw [← e1]
    apply Int32.toInt_inj.mp
    have e2 : (nI 0 - (nI a - nI b)) = nI b - nI a := by
      rw [nI_0, Int32.zero_sub, Int32.neg_sub]
    rw [e2]
theorem nr3_ad {a b : Nat} : 3 < (if b ≤ a then a - b else b - a) ↔ nr3 a b = false := by
  cases e : nr3 a b with
  | true => have := nr3_t.mp e; constructor <;> intro h
            · split at h <;> omega
            · cases h
  | false =>
    have : ¬ (a ≤ b + 3 ∧ b ≤ a + 3) := fun z => by rw [nr3_t.mpr z] at e; cases e
    refine ⟨fun _ => rfl, fun _ => ?_⟩
    split <;> omega
theorem kX0_spreadAround (k c : Nat) (μ : Mm) (hk : isL k) {u : Ln} {o : Int32} {f : Nat → Nat} (hc : c < 20) (h0 : u 0 ≤ 7) (h1 : μ.1 k 1 = nI (u 0)) (hp : ∀ i, i < u 0 → μ.1 (k + 2) i = nI (u (41 + i)) ∧ u (41 + i) < 20) (hs : ∀ i, i < u 0 → μ.1 (k + 3) i = nI (f i)) (ho : μ.1 k 8 = o) :
    Con mX0_spreadAround [.ref k, .int (nI c)] μ (fun r μ' => r = none ∧ (∀ i, i < u 0 → μ'.1 (k + 3) i = nI (if fbit o (nI i) = false ∧ nr3 (u (41 + i)) c = true then f i + 15 else f i)) ∧ Eqx [k + 3] μ μ') := by
  refine Con.of pnX0 (Nat.le_of_ble_eq_true rfl) (fun κ => wX0_spreadAround_0 k (nI c) μ hk ?_)
  have hne : k ≠ k + 3 := by omega
  have hne2 : k + 2 ≠ k + 3 := by omega
  have loop : ∀ n j (μ1 : Mm), j + n = u 0 → (∀ i, i < u 0 → μ1.1 (k + 3) i = nI (if i < j ∧ fbit o (nI i) = false ∧ nr3 (u (41 + i)) c = true then f i + 15 else f i)) → Eqx [k + 3] μ μ1 → Vq κ (fun r μ' => r = none ∧ (∀ i, i < u 0 → μ'.1 (k + 3) i = nI (if fbit o (nI i) = false ∧ nr3 (u (41 + i)) c = true then f i + 15 else f i)) ∧ Eqx [k + 3] μ μ') mX0_spreadAround 2 [(0, .ref k), (1, .int (nI c)), (2, .int (nI j))] [] μ1 := by
    intro n
    induction n with
    | zero =>
      intro j μ1 hj hr hE
      refine wX0_spreadAround_2 k _ _ μ1 hk ⟨fun _ => ⟨rfl, fun i hi => ?_, hE⟩, fun h => absurd ?_ h⟩
      · rw [hr i hi]
        congr 1
        by_cases e : fbit o (nI i) = false ∧ nr3 (u (41 + i)) c = true
        · rw [if_pos ⟨by omega, e⟩, if_pos e]
        · rw [if_neg (fun z => e z.2), if_neg e]
      · rw [hE.2 k (by simp [hne]), h1, nIle (by omega) (by omega)]; omega
    | succ n ih =>
      intro j μ1 hj hr hE
      have e1 : μ1.1 k = μ.1 k := hE.2 k (by simp [hne])
      have e2 : μ1.1 (k + 2) = μ.1 (k + 2) := hE.2 (k + 2) (by simp)
      have hpj := hp j (by omega)
      have same : ∀ (nb : ¬ (fbit o (nI j) = false ∧ nr3 (u (41 + j)) c = true)), ∀ i, i < u 0 → μ1.1 (k + 3) i = nI (if i < j + 1 ∧ fbit o (nI i) = false ∧ nr3 (u (41 + i)) c = true then f i + 15 else f i) := by
        intro nb i hi
        rw [hr i hi]
        congr 1
        by_cases e : i = j
        · subst e; rw [if_neg (fun z => nb z.2), if_neg (fun z => nb z.2)]
        · by_cases e3 : i < j ∧ fbit o (nI i) = false ∧ nr3 (u (41 + i)) c = true
          · rw [if_pos e3, if_pos ⟨by omega, e3.2⟩]
          · rw [if_neg e3, if_neg (fun z => e3 ⟨by omega, z.2⟩)]
      refine wX0_spreadAround_2 k _ _ μ1 hk ⟨fun h => ?_, fun _ => ⟨fun h => ?_, fun h => ⟨vin (by omega) (by decide), ⟨fun h2 => ?_, fun h2 μ2 em => ?_⟩⟩⟩⟩
      · rw [e1, h1, nIle (by omega) (by omega)] at h; omega
      · rw [e1, ho] at h
        rw [nI_add]
        exact ih (j + 1) μ1 (by omega) (same (fun z => by rw [h] at z; cases z.1)) hE
      · rw [cl (by omega), e2, hpj.1, ad_nI (by omega) (by omega), nIlt (by decide) (by split <;> omega), nr3_ad] at h2
        rw [nI_add]
        exact ih (j + 1) μ1 (by omega) (same (fun z => by rw [h2] at z; cases z.2)) hE
      · rw [e1, ho] at h
        rw [cl (by omega), e2, hpj.1, ad_nI (by omega) (by omega), nIlt (by decide) (by split <;> omega), nr3_ad] at h2
        rw [cl (by omega)] at em
        have hn3 : nr3 (u (41 + j)) c = true := by
          cases e : nr3 (u (41 + j)) c with
          | true => rfl
          | false => exact absurd e h2
        rw [nI_add]
        refine ih (j + 1) μ2 (by omega) (fun i hi => ?_) (by rw [em]; exact hE.ms List.mem_cons_self)
        rw [em]
        by_cases e : i = j
        · subst e
          rw [ms_at, hr i hi, if_neg (by omega), if_pos ⟨by omega, h, hn3⟩, nI_add]
        · rw [ms_col e, hr i hi]
          congr 1
          by_cases e3 : i < j ∧ fbit o (nI i) = false ∧ nr3 (u (41 + i)) c = true
          · rw [if_pos e3, if_pos ⟨by omega, e3.2⟩]
          · rw [if_neg e3, if_neg (fun z => e3 ⟨by omega, z.2⟩)]
  exact loop (u 0) 0 μ (by omega) (fun i hi => by rw [hs i hi, if_neg (by omega)]) Eqx.rf
theorem isL_ge {k : Nat} (h : isL k) : 4 ≤ k ∧ k ≤ 61 := (by decide : ∀ k ∈ [4, 13, 22, 34, 39, 44, 49, 54, 61], 4 ≤ k ∧ k ≤ 61) k h
/-- what a day, or what follows it, leaves in a land's cells -/
def PostL (μ : Mm) (k : Nat) (R : Ln × Int32 × Nat) (μ' : Mm) : Prop := LX μ' k R.1 ∧ μ'.1 k 8 = R.2.1 ∧ μ'.1 k 6 = μ.1 k 6 + nI R.2.2 ∧ Eqx [k, k + 3, k + 4] μ μ'
theorem OKM.up {B C : Nat} {u : Ln} (h : OKM B u) (hc : B ≤ C) : OKM C u := ⟨h.1, h.2.1, h.2.2.1, fun i hi => ⟨Nat.lt_of_lt_of_le (h.2.2.2.1 i hi).1 hc, (h.2.2.2.1 i hi).2⟩, h.2.2.2.2⟩
theorem stl_none {n : Nat} {u : Ln} {o : Int32} {l : Nat} (h : fstO u (u 0) 0 = none) : stl n u o l = (u, o, l) := by
  cases n with
  | zero => rfl
  | succ n => unfold stl; rw [h]
theorem stl_some {n : Nat} {u : Ln} {o : Int32} {l i : Nat} (h : fstO u (u 0) 0 = some i) : stl (n + 1) u o l = stl n (fireF u (ob o i) i) (ob o i) (l + vsum u (u (41 + i)) 20) := by
  show (match fstO u (u 0) 0 with
    | none => (u, o, l)
    | some i => stl n (fireF u (ob o i) i) (ob o i) (l + vsum u (u (41 + i)) 20)) = _
  rw [h]
theorem kX0_settle (k : Nat) (μ : Mm) (hk : isL k) {u : Ln} (hu : OKM 200 u) (hL : LX μ k u) : Con mX0_settle [.ref k] μ (fun r μ' => r = some (.int (nI (stl (u 0) u (nI 0) 0).2.2)) ∧ PostL μ k (stl (u 0) u (nI 0) 0) μ') := by
  refine Con.of pnX0 (Nat.le_of_ble_eq_true rfl) (fun κ => wX0_settle_0 k μ hk (fun μ1 e1 => ?_))
  have hE1 : Eqx [k, k + 3, k + 4] μ μ1 := by rw [e1]; exact Eqx.rf.ms (by simp)
  have loop : ∀ n t (w : Ln) (o : Int32) (l B : Nat) (μ2 : Mm), t + n = u 0 → w 0 = u 0 → OKM B w → B + 15 * n ≤ 400 → stl (u 0) u (nI 0) 0 = stl n w o l → LX μ2 k w → μ2.1 k 8 = o → μ2.1 k 6 = μ.1 k 6 → Eqx [k, k + 3, k + 4] μ μ2 → Vq κ (fun r μ' => r = some (.int (nI (stl (u 0) u (nI 0) 0).2.2)) ∧ PostL μ k (stl (u 0) u (nI 0) 0) μ') mX0_settle 9 [(0, .ref k), (1, .int (nI l)), (2, .int (nI t))] [] μ2 := by
    intro n
    induction n with
    | zero =>
      intro t w o l B μ2 ht hw hok hB hst hLX ho hh hE
      have h0 := hok.1
      have hl1 := hLX.2.1
      refine wX0_settle_9 k _ _ μ2 hk ⟨fun _ μ3 e3 => ?_, fun h => absurd ?_ h⟩
      · have est : stl (u 0) u (nI 0) 0 = (w, o, l) := hst
        rw [est]
        refine ⟨rfl, ?_, ?_, ?_, by rw [e3]; exact hE.ms (by simp)⟩
        · obtain ⟨a1, a2, a3, a4, a5⟩ := hLX
          rw [e3]
          refine ⟨by rw [ms_col (by decide)]; exact a1, by rw [ms_col (by decide)]; exact a2, by rw [ms_col (by decide)]; exact a3, fun i hi => ?_, fun c hc => ?_⟩
          · rw [ms_row (by omega), ms_row (by omega), ms_row (by omega)]; exact a4 i hi
          · rw [ms_row (by omega)]; exact a5 c hc
        · rw [e3, ms_col (by decide)]; exact ho
        · rw [e3, ms_at, hh]
      · rw [hl1, nIle (by omega) (by omega)]; omega
    | succ n ih =>
      intro t w o l B μ2 ht hw hok hB hst hLX ho hh hE
      obtain ⟨h0, h4, h5, hs, hv⟩ := id hok
      obtain ⟨a1, a2, a3, a4, a5⟩ := id hLX
      refine wX0_settle_9 k _ _ μ2 hk ⟨fun h => ?_, fun _ => ?_⟩
      · rw [a2, nIle (by omega) (by omega)] at h; omega
      · refine (kX0_firstOver k μ2 hk (hok.up (by omega)) hLX).mono ?_
        rintro r μ3 ⟨rfl, rfl⟩
        refine ⟨_, rfl, ?_⟩
        cases hf : fstO w (w 0) 0 with
        | none =>
          have est : stl (u 0) u (nI 0) 0 = (w, o, l) := by rw [hst, stl_none hf]
          refine ⟨fun h => absurd rfl h, fun _ μ4 e4 => ?_⟩
          rw [est]
          refine ⟨rfl, ?_, ?_, ?_, by rw [e4]; exact hE.ms (by simp)⟩
          · rw [e4]
            refine ⟨by rw [ms_col (by decide)]; exact a1, by rw [ms_col (by decide)]; exact a2, by rw [ms_col (by decide)]; exact a3, fun i hi => ?_, fun c hc => ?_⟩
            · rw [ms_row (by omega), ms_row (by omega), ms_row (by omega)]; exact a4 i hi
            · rw [ms_row (by omega)]; exact a5 c hc
          · rw [e4, ms_col (by decide)]; exact ho
          · rw [e4, ms_at, hh]
        | some i =>
          obtain ⟨-, hi, h60⟩ := fstO_some hf
          rw [Nat.zero_add] at hi
          have hsi := hs i (by omega)
          rw [stl_some hf] at hst
          refine ⟨fun _ => ⟨vin (by omega) (by decide), fun μ4 e4 μ5 e5 => ?_⟩, fun h => absurd h (nI_m1 (by omega))⟩
          rw [show resO (some i) = nI i from rfl, cl (by omega)] at e4
          rw [show resO (some i) = nI i from rfl] at e5 ⊢
          rw [cl (by omega)]
          have r2 : μ5.1 (k + 2) = μ3.1 (k + 2) := by rw [e5, ms_row (by omega), e4, ms_row (by omega)]
          have r1 : μ5.1 (k + 1) = μ3.1 (k + 1) := by rw [e5, ms_row (by omega), e4, ms_row (by omega)]
          have r4 : μ5.1 (k + 4) = μ3.1 (k + 4) := by rw [e5, ms_row (by omega), e4, ms_row (by omega)]
          have r3 : ∀ j, μ5.1 (k + 3) j = if j = i then nI 0 else μ3.1 (k + 3) j := by
            intro j
            rw [e5, ms_row (by omega), e4]
            by_cases e : j = i
            · subst e; rw [ms_at, if_pos rfl]
            · rw [ms_col e, if_neg e]
          have rk : ∀ j, j ≠ 8 → μ5.1 k j = μ3.1 k j := by
            intro j hj
            rw [e5, ms_col hj, e4, ms_row (by omega)]
          have r8 : μ5.1 k 8 = ob o i := by
            rw [e5, ms_at, e4, ms_row (by omega), ho]; rfl
          rw [r2, (a4 i hi).2.1]
          refine (kX0_loseAround k (w (41 + i)) μ5 hk hsi.2.2 hv (fun x hx => by rw [r4]; exact a5 x hx)).mono ?_
          rintro r μ6 ⟨rfl, hv6, hE6⟩
          refine ⟨_, rfl, ?_⟩
          have q2 : μ6.1 (k + 2) = μ3.1 (k + 2) := by rw [hE6.2 _ (by simp), r2]
          have q1 : μ6.1 (k + 1) = μ3.1 (k + 1) := by rw [hE6.2 _ (by simp), r1]
          have q3 : μ6.1 (k + 3) = μ5.1 (k + 3) := hE6.2 _ (by simp)
          have qk : μ6.1 k = μ5.1 k := hE6.2 _ (by simp)
          rw [q2, (a4 i hi).2.1]
          refine (kX0_spreadAround k (w (41 + i)) μ6 hk (u := w) (o := ob o i) (f := fun j => if j = i then 0 else w (7 + j)) hsi.2.2 h0 (by rw [qk, rk _ (by decide)]; exact a2) (fun j hj => ⟨by rw [q2]; exact (a4 j hj).2.1, (hs j (by omega)).2.2⟩) (fun j hj => ?_) (by rw [qk]; exact r8)).mono ?_
          · rw [q3, r3 j]
            by_cases e : j = i
            · rw [if_pos e, if_pos e]
            · rw [if_neg e, if_neg e]; exact (a4 j hj).2.2
          rintro r μ7 ⟨rfl, hs7, hE7⟩
          refine ⟨rfl, ?_⟩
          rw [nI_add, nI_add]
          have p1 : μ7.1 (k + 1) = μ3.1 (k + 1) := by rw [hE7.2 _ (by simp), q1]
          have p2 : μ7.1 (k + 2) = μ3.1 (k + 2) := by rw [hE7.2 _ (by simp), q2]
          have p4 : μ7.1 (k + 4) = μ6.1 (k + 4) := hE7.2 _ (by simp)
          have pk : μ7.1 k = μ5.1 k := by rw [hE7.2 _ (by simp), qk]
          refine ih (t + 1) (fireF w (ob o i) i) (ob o i) (l + vsum w (w (41 + i)) 20) (B + 15) μ7 (by omega) (by rw [fireF_0]; exact hw) (fireF_ok hok _ _) (by omega) hst ?_ (by rw [pk]; exact r8) (by rw [pk, rk _ (by decide)]; exact hh) ?_
          · refine ⟨by rw [pk, rk _ (by decide), fireF_lo _ _ _ _ (by decide)]; exact a1, by rw [pk, rk _ (by decide), fireF_0]; exact a2, by rw [pk, rk _ (by decide), fireF_lo _ _ _ _ (by decide)]; exact a3, fun j hj => ?_, fun c hc => ?_⟩
            · rw [fireF_0] at hj
              refine ⟨by rw [p1, fireF_hi _ _ _ _ h0 (by omega)]; exact (a4 j hj).1, by rw [p2, fireF_hi _ _ _ _ h0 (by omega)]; exact (a4 j hj).2.1, ?_⟩
              rw [hs7 j hj, fireF_s _ _ _ _ h0 hj]
              congr 1
              by_cases e : j = i
              · subst e
                rw [if_pos rfl, if_pos rfl, if_neg]
                rintro ⟨z, -⟩
                rw [fbit_bt _ (by omega), ob_bt _ (by omega) (by omega), decide_eq_true rfl, Bool.or_true] at z
                cases z
              · rw [if_neg e, if_neg e]
            · rw [p4, hv6 c hc, fireF_v _ _ _ _ hc]
          · have hE5 : Eqx [k, k + 3, k + 4] μ μ5 := by
              rw [e5, e4]; exact (hE.ms (by simp)).ms (by simp)
            exact (hE5.tr (hE6.mn (by simp))).tr (hE7.mn (by simp))
  refine loop (u 0) 0 u (nI 0) 0 200 μ1 (by omega) rfl hu (by have := hu.1; omega) rfl ?_ (by rw [e1, ms_at]) (by rw [e1, ms_col (by decide)]) hE1
  obtain ⟨a1, a2, a3, a4, a5⟩ := hL
  rw [e1]
  refine ⟨by rw [ms_col (by decide)]; exact a1, by rw [ms_col (by decide)]; exact a2, by rw [ms_col (by decide)]; exact a3, fun i hi => ?_, fun c hc => ?_⟩
  · rw [ms_row (by omega), ms_row (by omega), ms_row (by omega)]; exact a4 i hi
  · rw [ms_row (by omega)]; exact a5 c hc
theorem mx_nI {s f : Nat} (hs : s < 2 ^ 30) (hf : f < 2 ^ 30) : (if nI 0 < nI s - nI f then nI s - nI f else nI 0) = nI (s - f) := by
  by_cases h : f ≤ s
  · rw [pk_sub h]
    by_cases e : s - f = 0
    · rw [e]; rfl
    · rw [if_pos ((nIlt (by decide) (by omega)).mpr (by omega))]
  · rw [if_neg, show s - f = 0 by omega]
    intro h2
    have h3 := pk_sneg (a := s) (b := f) hf (by omega)
    rw [Int32.lt_iff_toInt_lt] at h2 h3
    rw [nI_0] at h2
    omega
/-- a day on a land -/
theorem kX0_pass (k v : Nat) (μ : Mm) (hk : isL k) {u : Ln} (hu : OKL u) (h5 : u 5 < 999999) (hv : v < 2 ^ 31) (hL : LX μ k u) : Con mX0_pass [.ref k, .int (nI v)] μ (fun r μ' => r = some (.int (nI (pasN u v))) ∧ PostL μ k (passR u v) μ') := by
  refine Con.of pnX0 (Nat.le_of_ble_eq_true rfl) (fun κ => wX0_pass_0 k _ μ hk (fun μ1 e1 => ?_))
  obtain ⟨h0, h4, -, hs, hvn⟩ := id hu
  obtain ⟨a1, a2, a3, a4, a5⟩ := id hL
  have loop : ∀ n j (μ2 : Mm), j + n = u 0 → μ2.1 k 7 = nI (u 5 + 1) → (∀ i, i ≠ 7 → μ2.1 k i = μ.1 k i) → (∀ i, i < u 0 → μ2.1 (k + 3) i = nI (if i < j then dayF u v (7 + i) else u (7 + i))) → Eqx [k, k + 3] μ μ2 → Vq κ (fun r μ' => r = some (.int (nI (pasN u v))) ∧ PostL μ k (passR u v) μ') mX0_pass 12 [(0, .ref k), (1, .int (nI v)), (2, .int (nI j))] [] μ2 := by
    intro n
    induction n with
    | zero =>
      intro j μ2 hj h7 hkk hr hE
      refine wX0_pass_12 k _ _ μ2 hk ⟨fun _ => ?_, fun h => absurd ?_ h⟩
      · have hLd : LX μ2 k (dayF u v) := by
          refine ⟨by rw [hkk _ (by decide), dayF_lo _ _ _ (by decide) (by decide)]; exact a1, by rw [hkk _ (by decide), dayF_0]; exact a2, by rw [h7, dayF_5], fun i hi => ?_, fun c hc => ?_⟩
          · rw [dayF_0] at hi
            refine ⟨by rw [hE.2 _ (by simp), dayF_hi _ _ _ (by omega)]; exact (a4 i hi).1, by rw [hE.2 _ (by simp), dayF_hi _ _ _ (by omega)]; exact (a4 i hi).2.1, by rw [hr i hi, if_pos (by omega)]⟩
          · rw [hE.2 _ (by simp), dayF_hi _ _ _ (by omega)]; exact a5 c hc
        refine (kX0_settle k μ2 hk ((dayF_ok hu h5 v).up (by omega)) hLd).mono ?_
        rintro r μ3 ⟨rfl, hLX, h8, h6, hE3⟩
        rw [dayF_0] at hLX h8 h6 ⊢
        exact ⟨_, rfl, rfl, hLX, h8, by rw [h6, hkk _ (by decide)]; rfl, (hE.mn (by simp)).tr hE3⟩
      · rw [hkk _ (by decide), a2, nIle (by omega) (by omega)]; omega
    | succ n ih =>
      intro j μ2 hj h7 hkk hr hE
      have hsj := hs j (by omega)
      have s3 : μ2.1 (k + 3) j = nI (u (7 + j)) := by rw [hr j (by omega), if_neg (by omega)]
      have next : ∀ (μ3 : Mm), μ3 = mset μ2 (k + 3) j (nI (dayF u v (7 + j))) → Vq κ (fun r μ' => r = some (.int (nI (pasN u v))) ∧ PostL μ k (passR u v) μ') mX0_pass 12 [(0, .ref k), (1, .int (nI v)), (2, .int (nI j + nI 1))] [] μ3 := by
        intro μ3 e3
        rw [nI_add]
        refine ih (j + 1) μ3 (by omega) (by rw [e3, ms_row (by omega)]; exact h7) (fun i hi => by rw [e3, ms_row (by omega)]; exact hkk i hi) (fun i hi => ?_) (by rw [e3]; exact hE.ms (by simp))
        rw [e3]
        by_cases e : i = j
        · subst e; rw [ms_at, if_pos (by omega)]
        · rw [ms_col e, hr i hi]
          congr 1
          by_cases e3 : i < j
          · rw [if_pos e3, if_pos (by omega)]
          · rw [if_neg e3, if_neg (by omega)]
      refine wX0_pass_12 k _ _ μ2 hk ⟨fun h => ?_, fun _ => ⟨fun h => ⟨vin (by omega) (by decide), fun μ3 e3 => next μ3 ?_⟩, fun h => ⟨vin (by omega) (by decide), fun μ3 e3 => next μ3 ?_⟩⟩⟩
      · rw [hkk _ (by decide), a2, nIle (by omega) (by omega)] at h; omega
      · rw [nIe (by omega) hv] at h
        rw [cl (by omega), s3, h7, hE.2 (k + 1) (by simp), (a4 j (by omega)).1, fgrow_N (by omega) (by omega) (by omega), nI_add] at e3
        rw [e3, dayF_s _ _ _ (by omega), if_neg h]
      · rw [nIe (by omega) hv] at h
        rw [cl (by omega), s3, h7, hkk _ (by decide), a1, ffall_N (by omega) (by omega) (by omega), mx_nI (by omega) (by have := fallN_le (u 4) (u (7 + j)) (u 5 + 1); omega)] at e3
        rw [e3, dayF_s _ _ _ (by omega), if_pos h]
  refine loop (u 0) 0 μ1 (by omega) (by rw [e1, ms_at, a3, nI_add]) (fun i hi => by rw [e1, ms_col hi]) (fun i hi => ?_) (by rw [e1]; exact Eqx.rf.ms (by simp))
  rw [e1, ms_row (by omega), (a4 i hi).2.2, if_neg (by omega)]
