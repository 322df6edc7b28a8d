/-! ===== read: bounds, the reference's whole ===== -/
theorem tE_s {x : Tx} {p : Nat} (h : tK x p ≠ 0) : p < tE x p := by
  have h1 := tE_gt h
  have h2 := tS_ge (x := x) (p := p)
  omega
theorem itV_po {x : Tx} {p q : Nat} {u u' : Ln} (hp : p ≤ x.2) (h : PO p u) (e : itV x p u = .inr (q, u')) : p < q ∧ q ≤ x.2 ∧ PO q u' := by
  unfold itV at e
  by_cases z : numb x p 19 = true
  · rw [if_pos z] at e
    by_cases y : numb x (tE x p) 9 = true
    · rw [if_pos y] at e
      obtain ⟨k1, v1⟩ := numb_t z
      obtain ⟨k2, v2⟩ := numb_t y
      have s1 := tE_s (x := x) (p := p) (by omega)
      have s2 := tE_s (x := x) (p := tE x p) (by omega)
      injection e with e
      obtain ⟨rfl, rfl⟩ := Prod.mk.inj e
      exact ⟨by omega, tE_le (tE_le hp), (PO_vn h (by omega) v2).up (by omega)⟩
    · rw [if_neg y] at e; exact absurd e (by intro w; injection w)
  · rw [if_neg z] at e; exact absurd e (by intro w; injection w)
theorem itH_po {x : Tx} {w p q : Nat} {u u' : Ln} (hp : p ≤ x.2) (h : PO p u) (e : itH x w p u = .inr (q, u')) : p < q ∧ q ≤ x.2 ∧ PO q u' := by
  unfold itH at e
  by_cases z0 : u 0 = 7
  · rw [if_pos z0] at e; exact absurd e (by intro w; injection w)
  · rw [if_neg z0] at e
    by_cases z : numb x p 5 = true
    · rw [if_pos z] at e
      by_cases y : (numb x (tE x p) 19 && !tkn u (tV x (tE x p)) (u 0)) = true
      · rw [if_pos y] at e
        by_cases v : numb x (tE x (tE x p)) 59 = true
        · rw [if_pos v] at e
          obtain ⟨k1, v1⟩ := numb_t z
          obtain ⟨k2, v2⟩ := numb_t (Bool.and_eq_true_iff.mp y).1
          obtain ⟨k3, v3⟩ := numb_t v
          have s1 := tE_s (x := x) (p := p) (by omega)
          have s2 := tE_s (x := x) (p := tE x p) (by omega)
          have s3 := tE_s (x := x) (p := tE x (tE x p)) (by omega)
          have h0 := h.1.1
          injection e with e
          obtain ⟨rfl, rfl⟩ := Prod.mk.inj e
          exact ⟨by omega, tE_le (tE_le (tE_le hp)), (PO_hl h (by omega) (by omega) (by omega) (by omega)).up (by omega)⟩
        · rw [if_neg v] at e; exact absurd e (by intro w; injection w)
      · rw [if_neg y] at e; exact absurd e (by intro w; injection w)
    · rw [if_neg z] at e; exact absurd e (by intro w; injection w)
theorem itD_po {x : Tx} {q : Nat} {u' : Ln} (hL : x.2 ≤ 150) : ∀ (f : Nat) {p : Nat} {u : Ln}, p ≤ x.2 → PO p u → itD x f p u = .inr (q, u') → p ≤ q ∧ q ≤ x.2 ∧ PO q u'
  | 0, p, u, hp, h, e => by
    have e : (Sum.inr (p, u) : Pr) = .inr (q, u') := e
    injection e with e
    obtain ⟨rfl, rfl⟩ := Prod.mk.inj e
    exact ⟨Nat.le_refl _, hp, h⟩
  | f + 1, p, u, hp, h, e => by
    by_cases z : tK x p = 2 ∧ (tV x p < u 0 ∨ tV x p = 7)
    · rw [itD_y z] at e
      have s1 := tE_s (x := x) (p := p) (by omega)
      have := itD_po hL f (tE_le hp) ((PO_dy h (by omega)).up (by omega)) e
      exact ⟨by omega, this.2⟩
    · by_cases f8 : f = 8
      · subst f8
        rw [itD_l z] at e; exact absurd e (by intro w; injection w)
      · rw [itD_r f8 z] at e
        injection e with e
        obtain ⟨rfl, rfl⟩ := Prod.mk.inj e
        exact ⟨Nat.le_refl _, hp, h⟩
theorem item_po {x : Tx} {p q : Nat} {u u' : Ln} (hL : x.2 ≤ 150) (hp : p ≤ x.2) (h : PO p u) (e : item x p u = .inr (q, u')) : p < q ∧ q ≤ x.2 ∧ PO q u' := by
  unfold item at e
  by_cases k1 : tK x p = 1
  · rw [if_pos k1] at e
    have s1 := tE_s (x := x) (p := p) (by omega)
    have hE := tE_le hp
    have hP := h.up (show p ≤ tE x p by omega)
    by_cases z : spl x p 5 lVin = true
    · rw [if_pos z] at e; have := itV_po hE hP e; exact ⟨by omega, this.2⟩
    · rw [if_neg z] at e
      by_cases y : spl x p 4 lHil = true
      · rw [if_pos y] at e; have := itH_po hE hP e; exact ⟨by omega, this.2⟩
      · rw [if_neg y] at e
        by_cases w : spl x p 3 lDay = true
        · rw [if_pos w] at e; have := itD_po hL 9 hE hP e; exact ⟨by omega, this.2⟩
        · rw [if_neg w] at e; exact absurd e (by intro w; injection w)
  · rw [if_neg k1] at e; exact absurd e (by intro w; injection w)
theorem rd_po {x : Tx} {u' : Ln} {k' : Nat} (hL : x.2 ≤ 150) : ∀ (f : Nat) {p k : Nat} {u : Ln}, p ≤ x.2 → PO p u → rd x f p u k = .inr (u', k') → PO 150 u'
  | 0, p, k, u, hp, h, e => absurd (show (Sum.inl 0 : Sum Nat (Ln × Nat)) = _ from e) (by intro w; injection w)
  | f + 1, p, k, u, hp, h, e => by
    have e : (if tK x p = 0 then (Sum.inr (u, k) : Sum Nat (Ln × Nat)) else match item x p u with
      | .inl e => .inl e
      | .inr (q, u') => if tK x q = 3 then rd x f (tE x q) u' (k + 1) else .inl (tS x q)) = .inr (u', k') := e
    by_cases z : tK x p = 0
    · rw [if_pos z] at e
      injection e with e
      obtain ⟨rfl, rfl⟩ := Prod.mk.inj e
      exact h.up (by omega)
    · rw [if_neg z] at e
      cases hi : item x p u with
      | inl a => rw [hi] at e; exact absurd e (by intro w; injection w)
      | inr a =>
        obtain ⟨q, w⟩ := a
        rw [hi] at e
        dsimp only at e
        by_cases y : tK x q = 3
        · rw [if_pos y] at e
          obtain ⟨h1, h2, h3⟩ := item_po hL hp h hi
          have s1 := tE_s (x := x) (p := q) (by omega)
          exact rd_po hL f (tE_le h2) (h3.up (by omega)) e
        · rw [if_neg y] at e; exact absurd e (by intro w; injection w)
def tx (s : Ln) : Tx := (fun j => s (3000 + j), s 2030)
def rdR (s : Ln) (r : Sum Nat (Ln × Nat)) : Int32 × Ln := match r with
  | .inl e => (-10 - nI e, s)
  | .inr (u, k) => (nI k, rdF u s)
def sRead (s : Ln) : Int32 × Ln := rdR s (rdA (tx s) s)
theorem oRead {s : Ln} {n : Nat} (h : OKs n s) : OKs (n + 1) (sRead s).2 := by
  have hL : (tx s).2 ≤ 150 := h.2.2.2.2.2.2.1
  unfold sRead
  cases e : rdA (tx s) s with
  | inl a => exact oSame h
  | inr a =>
    obtain ⟨u, k⟩ := a
    have hPO : PO 150 u := by
      unfold rdA at e
      by_cases z : tK (tx s) 0 = 1 ∧ spl (tx s) 0 6 lIsl = true
      · rw [if_pos z] at e
        by_cases y : numb (tx s) (tE (tx s) 0) 5 = true
        · rw [if_pos y] at e
          by_cases w : tK (tx s) (tE (tx s) (tE (tx s) 0)) = 3
          · rw [if_pos w] at e
            exact rd_po hL 151 (tE_le (tE_le (tE_le (Nat.zero_le _)))) (PO_bg (by have := (numb_t y).2; omega)) e
          · rw [if_neg w] at e; exact absurd e (by intro w; injection w)
        · rw [if_neg y] at e; exact absurd e (by intro w; injection w)
      · rw [if_neg z] at e; exact absurd e (by intro w; injection w)
    exact h.now ((PO_sok hPO h.1).up (Nat.le_succ n)) (fun j hj => if_neg (by omega))
theorem mRead {μ : Mm} {s : Ln} {n : Nat} (h : RM μ s) (hok : OKs n s) : Con mX5_read [.ref 66] μ (PM (sRead s) μ) := by
  have hL : (tx s).2 ≤ 150 := hok.2.2.2.2.2.2.1
  have hx : XM (tx s) μ := ⟨hL, h.2.2.2.2.1, fun j hj => ⟨h.2.2.2.2.2 j hj, hok.2.2.2.2.2.2.2 j hj⟩⟩
  have T0 : TRd μ μ := ⟨rfl, fun _ _ _ _ => rfl, fun _ _ _ => rfl⟩
  have flt : ∀ {e : Nat} {μ1 : Mm}, μ1.1 66 12 = nI e → TRd μ μ1 → PM (rdR s (.inl e)) μ (some (.int (-10 - μ1.1 66 12))) μ1 := by
    intro e μ1 h12 hT
    rw [h12]
    exact pm rfl (h.scr hok (fun x hx => hT.2.1 x (by omega) (by omega) (by omega)) (hT.2.2 11 (by decide) (by decide)) hT.1)
  have loop : ∀ (f p k : Nat) (u : Ln) (κ : Kx) (μ1 : Mm), p ≤ (tx s).2 → (tx s).2 - p < f → PO p u → SM (tx s) μ μ1 p u → Vq κ (PM (rdR s (rd (tx s) f p u k)) μ) mX5_read 83 [(0, .ref 66), (1, .int (nI k))] [] μ1 := by
    intro f
    induction f with
    | zero => intro p k u κ μ1 hp hf; omega
    | succ f ih =>
      intro p k u κ μ1 hp hf hPO hS
      obtain ⟨x1, h1, A1, T1⟩ := id hS
      have hk4 := tK_4 (x := tx s) (p := p)
      have e0 : rd (tx s) (f + 1) p u k = (if tK (tx s) p = 0 then (Sum.inr (u, k) : Sum Nat (Ln × Nat)) else match item (tx s) p u with
        | .inl e => .inl e
        | .inr (q, u') => if tK (tx s) q = 3 then rd (tx s) f (tE (tx s) q) u' (k + 1) else .inl (tS (tx s) q)) := rfl
      rw [e0]
      refine wX5_read_83 _ μ1 ?_
      rw [h1.2.2.1, nI0 (by omega)]
      refine ⟨fun z => ?_, fun z => ?_⟩
      · rw [if_pos z]
        refine cnt_loop 86 (fun t μ2 => Vq κ (PM (rdR s (.inr (u, k))) μ) mX5_read 125 [(0, .ref 66), (1, .int (nI k)), (2, .int (nI t))] [] μ2) (fun t μ2 => Eqx [67] μ1 μ2 ∧ (∀ j, j < t → μ2.1 67 j = nI (u j)) ∧ ∀ j, t ≤ j → μ2.1 67 j = μ1.1 67 j) ?_ ?_ 0 μ1 (Nat.zero_le _) ⟨Eqx.rf, fun j hj => absurd hj (by omega), fun _ _ => rfl⟩
        · rintro μ2 ⟨hE, g1, g2⟩
          refine wX5_read_125 _ _ μ2 ⟨fun _ => pm rfl (h.now hok (fun j hj => ?_) (fun c hc => (hE.2 c (nm1 (by omega))).trans (T1.2.1 c (by omega) (by omega) (by omega))) (by rw [hE.2 66 (nm1 (by decide))]; exact T1.2.2 11 (by decide) (by decide)) (hE.1.trans T1.1) (fun j hj => if_neg (by omega))), fun z => absurd (nge (by omega) (Nat.le_refl _)) z⟩
          unfold rdF
          by_cases j86 : j < 86
          · rw [if_pos j86]; exact g1 j j86
          · rw [if_neg j86, g2 j (by omega), T1.2.1 67 (by decide) (by decide) (by decide)]; exact h.1 j hj
        · rintro t μ2 ht ⟨hE, g1, g2⟩ ih2
          refine wX5_read_125 _ _ μ2 ⟨fun z => absurd z (nnge (by omega) ht), fun _ => ?_⟩
          rw [nI_add t 1, cl (n := t) (by omega)]
          refine ⟨vin ht (by decide), vin (by omega) (by decide), fun μ3 e3 => ih2 μ3 ⟨by rw [e3]; exact hE.ms (by simp), fun j hj => ?_, fun j hj => ?_⟩⟩
          · rw [e3]
            by_cases ej : j = t
            · rw [ej, ms_at, hE.2 75 (nm1 (by decide))]; exact A1 t ht
            · rw [ms_col ej]; exact g1 j (by omega)
          · rw [e3, ms_col (by omega)]; exact g2 j (by omega)
      · rw [if_neg z]
        refine (kX5_item hp hPO hS).mono ?_
        intro r μ2 h2
        cases hi : item (tx s) p u with
        | inl a =>
          rw [hi] at h2
          obtain ⟨rfl, g1, g2, g3⟩ := h2
          exact ⟨false, rfl, fun _ => flt g1 g3, fun w => absurd w (by decide)⟩
        | inr a =>
          obtain ⟨q, w⟩ := a
          rw [hi] at h2
          obtain ⟨rfl, hS2⟩ := h2
          obtain ⟨x2, h2, A2, T2⟩ := id hS2
          have hk4' := tK_4 (x := tx s) (p := q)
          obtain ⟨q1, q2, q3⟩ := item_po hL hp hPO hi
          refine ⟨true, rfl, fun w => absurd w (by decide), fun _ => ?_⟩
          dsimp only
          rw [h2.2.2.1, nIe (by omega) (by decide)]
          refine ⟨fun y => ?_, fun y => ?_⟩
          · rw [if_pos y]
            refine (kX5_behind x2 q2 h2).mono ?_
            rintro r μ3 ⟨rfl, h3, t3⟩
            have s1 := tE_s (x := tx s) (p := q) (by omega)
            have s2 := tE_le (x := tx s) (p := q) q2
            refine ⟨rfl, ?_⟩
            rw [nI_add k 1]
            exact ih (tE (tx s) q) (k + 1) w κ μ3 s2 (by omega) (q3.up (by omega)) ⟨x2.tl t3, h3, fun j hj => by rw [t3.2.1 75 (by decide)]; exact A2 j hj, T2.tl t3⟩
          · rw [if_neg y]; exact flt h2.1 T2
  unfold sRead rdA
  refine Con.of pnX5 (Nat.le_of_ble_eq_true rfl) (fun κ => wX5_read_0 μ ?_)
  refine (kX5_lookAt hx (Nat.zero_le _)).mono ?_
  rintro r μ1 ⟨rfl, h1, t1⟩
  have x1 := hx.tl t1
  have T1 := T0.tl t1
  refine ⟨rfl, (kX5_spells (l := lIsl) x1 (Nat.zero_le _) h1 (by decide) (by intro k; unfold lIsl; repeat' split
                                                                             all_goals omega)).mono ?_⟩
  rintro r μ2 ⟨rfl, rfl⟩
  refine ⟨_, rfl, fun z => ?_, fun z => ?_⟩
  · have z' : tK (tx s) 0 = 1 ∧ spl (tx s) 0 6 lIsl = true := ⟨of_decide_eq_true (Bool.and_eq_true_iff.mp z).1, (Bool.and_eq_true_iff.mp z).2⟩
    rw [if_pos z']
    refine (kX5_behind x1 (Nat.zero_le _) h1).mono ?_
    rintro r μ3 ⟨rfl, h3, t3⟩
    have x3 := x1.tl t3
    have T3 := T1.tl t3
    have p3 := tE_le (x := tx s) (Nat.zero_le (tx s).2)
    refine ⟨rfl, (kX5_takes x3 p3 h3 (by decide) (by decide)).mono ?_⟩
    rintro r μ4 ⟨rfl, f4, g4⟩
    refine ⟨_, rfl, fun y => ?_, fun y => ?_⟩
    · have e4 := f4 y; subst e4
      rw [if_neg (by rw [y]; decide)]; exact flt h3.1 T3
    · rw [if_pos y]
      obtain ⟨h4, t4⟩ := g4 y
      have x4 := x3.tv t4
      have T4 := T3.tv t4
      have p4 := tE_le p3
      have hk4 := tK_4 (x := tx s) (p := tE (tx s) (tE (tx s) 0))
      rw [h4.2.2.1, nIe (by omega) (by decide)]
      refine ⟨fun w => ?_, fun w => ?_⟩
      · rw [if_pos w]
        refine (kX5_behind x4 p4 h4).mono ?_
        rintro r μ5 ⟨rfl, h5, t5⟩
        have x5 := x4.tl t5
        have T5 := T4.tl t5
        refine ⟨rfl, ?_⟩
        rw [cl (n := 0) (by decide), t5.2.1 76 (by decide), t4.2.2.2.1]
        refine (kX5_begin 75 86 _ μ5 sh_75 (by decide) (by decide)).mono ?_
        rintro r μ6 ⟨rfl, g6, -, hE6⟩
        have R : ∀ c, c ≠ 75 → μ6.1 c = μ5.1 c := fun c hc => hE6.2 c (nm1 hc)
        refine ⟨rfl, loop 151 _ 1 _ κ μ6 (tE_le p4) (by omega) (PO_bg (by have := (numb_t y).2; omega)) ⟨⟨x5.1, by rw [R 66 (by decide)]; exact x5.2.1, fun j hj => by rw [R 74 (by decide)]; exact x5.2.2 j hj⟩, ⟨by rw [R 66 (by decide)]; exact h5.1, by rw [R 66 (by decide)]; exact h5.2.1, by rw [R 66 (by decide)]; exact h5.2.2.1, fun v => by rw [R 66 (by decide)]; exact h5.2.2.2 v⟩, fun j hj => by rw [g6 j hj]; unfold bgF; rw [if_pos hj], hE6.1.trans T5.1, fun c c1 c2 c3 => (R c c2).trans (T5.2.1 c c1 c2 c3), fun j j1 j2 => by rw [R 66 (by decide)]; exact T5.2.2 j j1 j2⟩⟩
      · rw [if_neg w]; exact flt h4.1 T4
  · rw [if_neg (fun a => by rw [decide_eq_true a.1, a.2] at z; exact absurd z (by decide))]; exact flt h1.1 T1
