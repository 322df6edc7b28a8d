/-! ===== waiting ===== -/
def nm (h a : Nat) : Nat := if a = h then 7 else a
def ix (h o : Nat) : Nat := if o ≤ h then o else if o ≤ 7 then h else h + 1
theorem ix_v {h o : Nat} (hh : h ≤ 7) (ho : o < h ∨ o = 7) : ix h (o + 1) = ix h o + 1 ∧ nm h (ix h o) = o ∧ ix h o ≤ h := by
  unfold ix nm
  by_cases h1 : o < h
  · rw [if_pos (show o + 1 ≤ h by omega), if_pos (show o ≤ h by omega), if_neg (show ¬ o = h by omega)]
    exact ⟨rfl, rfl, by omega⟩
  · have e : o = 7 := by omega
    subst e
    rw [if_neg (show ¬ 7 + 1 ≤ h by omega), if_neg (show ¬ 7 + 1 ≤ 7 by omega)]
    by_cases h2 : 7 ≤ h
    · have : h = 7 := by omega
      subst this
      exact ⟨rfl, rfl, Nat.le_refl 7⟩
    · rw [if_neg h2, if_pos (Nat.le_refl 7), if_pos rfl]
      exact ⟨rfl, rfl, Nat.le_refl h⟩
theorem ix_n {h o : Nat} (ho : o < 8) (hn : ¬ (o < h ∨ o = 7)) : ix h (o + 1) = ix h o := by
  unfold ix
  rw [if_neg (show ¬ o + 1 ≤ h by omega), if_pos (show o + 1 ≤ 7 by omega)]
  by_cases e : o ≤ h
  · rw [if_pos e]; omega
  · rw [if_neg e, if_pos (by omega)]
theorem ix_8 {h : Nat} (hh : h ≤ 7) : ix h 8 = h + 1 := by unfold ix; rw [if_neg (by omega), if_neg (by decide)]
theorem ix_0 {h : Nat} : ix h 0 = 0 := by unfold ix; rw [if_pos (Nat.zero_le _)]
theorem nm_vis {h a : Nat} (ha : a ≤ h) : nm h a < h ∨ nm h a = 7 := by unfold nm; split <;> omega
theorem nm_7 {h a : Nat} (hh : h ≤ 7) (ha : a ≤ h) : nm h a ≤ 7 := by have := nm_vis ha; omega
theorem fv_dec {j h : Nat} (hj : j < 2 ^ 31) (hh : h ≤ 7) : fvis (nI j) (nI h) = decide (j < h ∨ j = 7) := by
  by_cases e : j < h ∨ j = 7
  · rw [decide_eq_true e]
    unfold fvis
    cases e with
    | inl e => rw [fh_yes hh e]; rfl
    | inr e => rw [e, decide_eq_true rfl, Bool.or_true]
  · rw [decide_eq_false e]
    cases z : fvis (nI j) (nI h) with
    | false => rfl
    | true =>
      obtain ⟨i, hi, hij⟩ := fv_of hh z
      rw [nIe hj (by omega)] at hij
      omega
def bmp (s : Ln) (j : Nat) : Ln := if j < s 0 then up s (7 + j) (if s (7 + j) + 10 < 59 then s (7 + j) + 10 else 59) else s
def lsN (s : Ln) (i j : Nat) : Nat := pasN (bmp s j) i
theorem bm_ok {s : Ln} (h : OKL s) (j : Nat) : OKL (bmp s j) := by
  unfold bmp
  split
  · rename_i hj
    obtain ⟨h0, h4, h5, h6, h7⟩ := h
    refine ⟨by rw [up_ne (by omega)]; exact h0, by rw [up_ne (by omega)]; exact h4, by rw [up_ne (by omega)]; exact h5, fun i hi => ⟨?_, by rw [up_ne (by omega)]; exact (h6 i hi).2.1, by rw [up_ne (by omega)]; exact (h6 i hi).2.2⟩, fun c hc => by rw [up_ne (by omega)]; exact h7 c hc⟩
    by_cases e : i = j
    · subst e; rw [up_at]; split <;> omega
    · rw [up_ne (by omega)]; exact (h6 i hi).1
  · exact h
theorem bm_5 {s : Ln} (h : s 0 ≤ 7) (j : Nat) : bmp s j 5 = s 5 := by
  unfold bmp; split
  · rw [up_ne (by omega)]
  · rfl
theorem ls_le {s : Ln} (h : OKL s) (i j : Nat) : lsN s i j ≤ 180 := pass_le (bm_ok h j) i
def rsF (s : Ln) (i j a : Nat) : Bool := decide (lsN s i j ≤ lsN s (nm (s 0) a) j) && decide (lsN s i (nm (s 0) a) ≤ lsN s i j)
def rsN (s : Ln) (i j : Nat) : Bool := ftA (rsF s i j) (s 0 + 1)
def wst (k : Int32) (q : Nat × Option Int32) (r : Bool) (v : Int32) : Nat × Option Int32 := match q.2 with
  | some _ => q
  | none => if r = true then (if nI q.1 = k then (q.1, some v) else (q.1 + 1, none)) else q
def wJ (s : Ln) (k : Int32) (a : Nat) : Nat → Nat × Option Int32 → Nat × Option Int32
  | 0, q => q
  | n + 1, q => wst k (wJ s k a n q) (rsN s (nm (s 0) a) (nm (s 0) n)) (nI (10 * nm (s 0) a + nm (s 0) n))
def wI (s : Ln) (k : Int32) : Nat → Nat × Option Int32
  | 0 => (0, none)
  | n + 1 => wJ s k n (s 0 + 1) (wI s k n)
def wA (s : Ln) (k : Int32) : Int32 := match wI s k (s 0 + 1) with
  | (_, some v) => v
  | (c, none) => if k = -1 then nI c else -5
theorem wst_f {k : Int32} {q : Nat × Option Int32} {r : Bool} {v : Int32} (hq : q.2 = none) (hr : r = false) : wst k q r v = q := by unfold wst; rw [hq, hr]; rfl
theorem wst_n {k : Int32} {q : Nat × Option Int32} {r : Bool} {v : Int32} (hq : q.2 = none) (hr : r = true) (hk : ¬ nI q.1 = k) : wst k q r v = (q.1 + 1, none) := by unfold wst; rw [hq, hr]; dsimp only; rw [if_pos rfl, if_neg hk]
theorem wst_y {k : Int32} {q : Nat × Option Int32} {r : Bool} {v : Int32} (hq : q.2 = none) (hr : r = true) (hk : nI q.1 = k) : wst k q r v = (q.1, some v) := by unfold wst; rw [hq, hr]; dsimp only; rw [if_pos rfl, if_pos hk]
theorem wst_s {k : Int32} {q : Nat × Option Int32} {r : Bool} {v w : Int32} (hq : q.2 = some w) : wst k q r v = q := by unfold wst; rw [hq]
theorem wJ_s {s : Ln} {k : Int32} {a : Nat} {q : Nat × Option Int32} {n : Nat} {w : Int32} (h : (wJ s k a n q).2 = some w) : ∀ {m : Nat}, (wJ s k a (n + m) q).2 = some w
  | 0 => h
  | m + 1 => by
    show (wst k (wJ s k a (n + m) q) _ _).2 = some w
    rw [wst_s (wJ_s h (m := m))]; exact wJ_s h
theorem wI_s {s : Ln} {k : Int32} {n : Nat} {w : Int32} (h : (wI s k n).2 = some w) : ∀ {m : Nat}, (wI s k (n + m)).2 = some w
  | 0 => h
  | m + 1 => by
    show (wJ s k (n + m) (s 0 + 1) (wI s k (n + m))).2 = some w
    have h1 : (wJ s k (n + m) 0 (wI s k (n + m))).2 = some w := wI_s h (m := m)
    have := wJ_s h1 (m := s 0 + 1)
    rw [Nat.zero_add] at this
    exact this
theorem wA_y {s : Ln} {k : Int32} {a b : Nat} {w : Int32} (ha : a ≤ s 0) (hb : b ≤ s 0) (h : (wJ s k a (b + 1) (wI s k a)).2 = some w) : wA s k = w := by
  have h1 := wJ_s h (m := s 0 - b)
  rw [show b + 1 + (s 0 - b) = s 0 + 1 by omega] at h1
  have h2 : (wI s k (a + 1)).2 = some w := h1
  have h3 := wI_s h2 (m := s 0 - a)
  rw [show a + 1 + (s 0 - a) = s 0 + 1 by omega] at h3
  unfold wA
  cases e : wI s k (s 0 + 1) with
  | mk c o =>
    rw [e] at h3
    have : o = some w := h3
    rw [this]
theorem wA_n {s : Ln} {k : Int32} (h : (wI s k (s 0 + 1)).2 = none) : wA s k = if k = -1 then nI (wI s k (s 0 + 1)).1 else -5 := by
  unfold wA
  cases e : wI s k (s 0 + 1) with
  | mk c o =>
    rw [e] at h
    have : o = none := h
    rw [this]
def sWait (x : Int32) (s : Ln) : Int32 × Ln := if -1 ≤ x then (wA s x, s) else (-10, rfs s 0)
theorem oWait (x : Int32) {s : Ln} {n : Nat} (h : OKs n s) : OKs (n + 1) (sWait x s).2 := by
  unfold sWait; split
  · exact oSame h
  · exact h.rf (by decide)
def wS : List Nat := [2, 34, 35, 36, 37, 38]
theorem kX4_loss {μ : Mm} {s : Ln} {n : Nat} (h : RX μ s) (hok : OKs n s) (hn : n ≤ 600) {i j : Nat} (hi : i ≤ 7) (hj : j ≤ 7) : Con mX4_lossBetween [.ref 0, .int (nI i), .int (nI j)] μ (fun r μ' => r = some (.int (nI (lsN s i j))) ∧ Eqx [34, 35, 36, 37, 38] μ μ') := by
  obtain ⟨hOK, h5, hph⟩ := hok.1.ok hn
  have h0 := hOK.1
  refine Con.of pnX4 (Nat.le_of_ble_eq_true rfl) (fun κ => wX4_lossBetween_0 _ _ μ ?_)
  refine (kStart h hok Eqx.rf).mono ?_
  rintro r μ1 ⟨k, rfl, hk, rfl, hT⟩
  obtain ⟨b1, b2, b3, b4, b5⟩ := id hT.1
  refine ⟨34, rfl, hk, ?_⟩
  rw [b2, cl (n := j) (by omega)]
  refine ⟨fun hb => ?_, fun hb => ⟨vin (by have ⟨j', h1, h2⟩ := fh_of h0 hb; rw [nIe (by omega) (by omega)] at h2; omega) (by decide), fun μ6 e6 => ?_⟩⟩
  · have hjn : ¬ j < s 0 := fun z => by rw [fh_yes h0 z] at hb; exact absurd hb (by decide)
    have e : bmp s j = s := if_neg hjn
    refine (kX0_pass 34 i μ1 hk hOK (by omega) (by omega) hT.1).mono ?_
    rintro r μ3 ⟨rfl, -, -, -, hE3⟩
    exact ⟨_, rfl, by unfold lsN; rw [e], hT.2.tr (hE3.mn (by simp))⟩
  · obtain ⟨j', hj', e'⟩ := fh_of h0 hb
    rw [nIe (by omega) (by omega)] at e'
    subst e'
    have e : bmp s j = up s (7 + j) (if s (7 + j) + 10 < 59 then s (7 + j) + 10 else 59) := if_pos hj'
    have hs60 := (hOK.2.2.2.1 j (by omega)).1
    have ev : (if μ1.1 (34 + 3) j + nI 10 < nI 59 then μ1.1 (34 + 3) j + nI 10 else nI 59) = nI (if s (7 + j) + 10 < 59 then s (7 + j) + 10 else 59) := by
      rw [(b4 j hj').2.2, nI_add]
      by_cases z : s (7 + j) + 10 < 59
      · rw [if_pos z, if_pos ((nIlt (by omega) (by decide)).mpr z)]
      · rw [if_neg z, if_neg (fun y => z ((nIlt (by omega) (by decide)).mp y))]
    rw [ev] at e6
    have hL6 : LX μ6 34 (bmp s j) := by
      rw [e]
      refine ⟨by rw [e6, ms_row (by decide), up_ne (by omega)]; exact b1, by rw [e6, ms_row (by decide), up_ne (by omega)]; exact b2, by rw [e6, ms_row (by decide), up_ne (by omega)]; exact b3, fun c hc => ⟨?_, ?_, ?_⟩, fun c hc => by rw [e6, ms_row (by decide), up_ne (by omega)]; exact b5 c hc⟩
      · rw [up_ne (by omega)] at hc; rw [e6, ms_row (by decide), up_ne (by omega)]; exact (b4 c hc).1
      · rw [up_ne (by omega)] at hc; rw [e6, ms_row (by decide), up_ne (by omega)]; exact (b4 c hc).2.1
      · rw [up_ne (by omega)] at hc
        rw [e6]
        by_cases e : c = j
        · subst e; rw [ms_at, up_at]
        · rw [ms_col e, up_ne (by omega)]; exact (b4 c hc).2.2
    refine (kX0_pass 34 i μ6 hk (bm_ok hOK j) (by rw [bm_5 h0]; omega) (by omega) hL6).mono ?_
    rintro r μ7 ⟨rfl, -, -, -, hE7⟩
    refine ⟨_, rfl, rfl, Eqx.tr ?_ (hE7.mn (by simp))⟩
    rw [e6]; exact hT.2.ms (by simp)
theorem kX4_fillL {μ : Mm} {s : Ln} {n : Nat} (h : RX μ s) (hok : OKs n s) (hn : n ≤ 600) : Con mX4_fillLosses [.ref 0] μ (fun r μ' => r = none ∧ (∀ a b, (a < s 0 ∨ a = 7) → (b < s 0 ∨ b = 7) → μ'.1 2 (8 * a + b) = nI (lsN s a b)) ∧ Eqx wS μ μ') := by
  obtain ⟨hOK, h5, hph⟩ := hok.1.ok hn
  have h0 := hOK.1
  refine Con.of pnX4 (Nat.le_of_ble_eq_true rfl) (fun κ => wX4_fillLosses_0 μ ?_)
  refine cnt_loop 8 (fun i μ1 => Vq κ (fun r μ' => r = none ∧ (∀ a b, (a < s 0 ∨ a = 7) → (b < s 0 ∨ b = 7) → μ'.1 2 (8 * a + b) = nI (lsN s a b)) ∧ Eqx wS μ μ') mX4_fillLosses 2 [(0, .ref 0), (1, .int (nI i))] [] μ1) (fun i μ1 => (∀ a b, a < i → (a < s 0 ∨ a = 7) → (b < s 0 ∨ b = 7) → μ1.1 2 (8 * a + b) = nI (lsN s a b)) ∧ Eqx wS μ μ1) ?_ ?_ 0 μ (Nat.zero_le _) ⟨fun a b ha => absurd ha (by omega), Eqx.rf⟩
  · rintro μ1 ⟨h1, hE⟩
    exact wX4_fillLosses_2 _ μ1 ⟨fun _ => ⟨rfl, fun a b ha hb => h1 a b (by omega) ha hb, hE⟩, fun z => absurd (nge (by omega) (Nat.le_refl _)) z⟩
  · rintro i μ1 hi ⟨h1, hE⟩ ih
    refine wX4_fillLosses_2 _ μ1 ⟨fun z => absurd z (nnge (by omega) hi), fun _ => ?_⟩
    refine cnt_loop 8 (fun j μ2 => Vq κ (fun r μ' => r = none ∧ (∀ a b, (a < s 0 ∨ a = 7) → (b < s 0 ∨ b = 7) → μ'.1 2 (8 * a + b) = nI (lsN s a b)) ∧ Eqx wS μ μ') mX4_fillLosses 10 [(0, .ref 0), (1, .int (nI i)), (2, .int (nI j))] [] μ2) (fun j μ2 => (∀ a b, (a < i ∨ (a = i ∧ b < j)) → (a < s 0 ∨ a = 7) → (b < s 0 ∨ b = 7) → μ2.1 2 (8 * a + b) = nI (lsN s a b)) ∧ Eqx wS μ μ2) ?_ ?_ 0 μ1 (Nat.zero_le _) ⟨fun a b ha => h1 a b (by omega), hE⟩
    · rintro μ2 ⟨h2, hE2⟩
      refine wX4_fillLosses_10 _ _ μ2 ⟨fun _ => ?_, fun z => absurd (nge (by omega) (Nat.le_refl _)) z⟩
      rw [nI_add i 1]
      exact ih μ2 ⟨fun a b ha h3 h4 => h2 a b (by omega) h3 h4, hE2⟩
    · rintro j μ2 hj ⟨h2, hE2⟩ ih2
      obtain ⟨hR2, -⟩ := h.scr hok hE2 (by decide)
      have a2' : μ2.1 4 1 = nI (s 0) := hR2.1.1.1.2.1
      refine wX4_fillLosses_10 _ _ μ2 ⟨fun z => absurd z (nnge (by omega) hj), fun _ => ?_⟩
      rw [a2', fv_dec (by omega) h0, fv_dec (by omega) h0, nI_add j 1, pk_mul, nI_add (8 * i) j, cl (n := 8 * i + j) (by omega), decide_eq_false_iff_not, decide_eq_true_iff, decide_eq_false_iff_not, decide_eq_true_iff]
      refine ⟨fun z => ih2 μ2 ⟨fun a b ha h3 h4 => h2 a b (by omega) h3 h4, hE2⟩, fun vi => ⟨fun z => ih2 μ2 ⟨fun a b ha h3 h4 => h2 a b (by omega) h3 h4, hE2⟩, fun vj => ?_⟩⟩
      refine (kX4_loss hR2 hok hn (by omega) (by omega)).mono ?_
      rintro r μ3 ⟨rfl, hE3⟩
      refine ⟨_, rfl, vin (by omega) (by decide), fun μ4 e4 => ih2 μ4 ⟨fun a b ha h3 h4 => ?_, ?_⟩⟩
      · rw [e4]
        by_cases e : a = i ∧ b = j
        · obtain ⟨rfl, rfl⟩ := e; rw [ms_at]
        · rw [ms_col (by omega), hE3.2 2 (by decide)]; exact h2 a b (by omega) h3 h4
      · rw [e4]; exact (hE2.tr (hE3.mn (by simp [wS]))).ms (by simp [wS])
theorem kX4_rests {μ : Mm} {s : Ln} (hOK : OKL s) (a2' : μ.1 4 1 = nI (s 0)) (hT : ∀ a b, (a < s 0 ∨ a = 7) → (b < s 0 ∨ b = 7) → μ.1 2 (8 * a + b) = nI (lsN s a b)) {i j : Nat} (hi : i < s 0 ∨ i = 7) (hj : j < s 0 ∨ j = 7) : Con mX4_rests [.ref 0, .int (nI i), .int (nI j)] μ (fun r μ' => r = some (.int (bI (rsN s i j))) ∧ μ' = μ) := by
  have h0 := hOK.1
  have hB : ∀ a b, lsN s a b ≤ 180 := fun a b => ls_le hOK a b
  refine Con.of pnX4 (Nat.le_of_ble_eq_true rfl) (fun κ => wX4_rests_0 _ _ μ ?_)
  rw [pk_mul, nI_add (8 * i) j, cl (n := 8 * i + j) (by omega), hT i j hi hj]
  refine ⟨vin (by omega) (by decide), ?_⟩
  refine cnt_loop 8 (fun o (_ : Unit) => Vq κ (fun r μ' => r = some (.int (bI (rsN s i j))) ∧ μ' = μ) mX4_rests 15 [(0, .ref 0), (1, .int (nI i)), (2, .int (nI j)), (3, .int (nI (lsN s i j))), (4, .int (nI o))] [] μ) (fun o _ => ftA (rsF s i j) (ix (s 0) o) = true) ?_ ?_ 0 () (Nat.zero_le _) (by rw [ix_0]; rfl)
  · intro _ hI
    rw [ix_8 h0] at hI
    have e : bI true = bI (rsN s i j) := by unfold rsN; rw [hI]
    exact wX4_rests_15 _ _ _ _ μ ⟨fun _ => ⟨by rw [e], rfl⟩, fun z => absurd (nge (by omega) (Nat.le_refl _)) z⟩
  · intro o _ ho hI ih
    refine wX4_rests_15 _ _ _ _ μ ⟨fun z => absurd z (nnge (by omega) ho), fun _ => ?_⟩
    rw [a2', fv_dec (by omega) h0, nI_add o 1, pk_mul 8 o, nI_add (8 * o) j, cl (n := 8 * o + j) (by omega), pk_mul 8 i, nI_add (8 * i) o, cl (n := 8 * i + o) (by omega), decide_eq_false_iff_not, decide_eq_true_iff]
    refine ⟨fun z => ih () (by rw [ix_n ho z]; exact hI), fun v => ⟨vin (by omega) (by decide), ?_⟩⟩
    obtain ⟨x1, x2, x3⟩ := ix_v h0 v
    have k1 := hB o j
    have k2 := hB i j
    have k3 := hB i o
    rw [hT o j v hj, hT i o hi v, nIlt (by omega) (by omega), nIle (by omega) (by omega)]
    refine ⟨fun z => ⟨?_, rfl⟩, fun z => ⟨vin (by omega) (by decide), fun y => ih () ?_, fun y => ⟨?_, rfl⟩⟩⟩
    · unfold rsN
      rw [ftA_f (r := ix (s 0) o) ?_ (by omega)]
      unfold rsF; rw [x2, decide_eq_false (by omega), Bool.false_and]
    · rw [x1]
      refine ftA_s hI ?_
      unfold rsF; rw [x2, decide_eq_true (by omega), decide_eq_true y]; rfl
    · unfold rsN
      rw [ftA_f (r := ix (s 0) o) ?_ (by omega)]
      unfold rsF; rw [x2, decide_eq_false y, Bool.and_false]
theorem xWait (x : Int32) {μ : Mm} {s : Ln} {n : Nat} (h : RX μ s) (hok : OKs n s) (hn : n ≤ 600) : Con mX4_waiting [.ref 0, .int x] μ (PX (sWait x s) μ) := by
  obtain ⟨hOK, h5, hph⟩ := hok.1.ok hn
  have h0 := hOK.1
  refine Con.of pnX4 (Nat.le_of_ble_eq_true rfl) (fun κ => wX4_waiting_0 x μ ⟨fun hb => ?_, fun hb => ?_⟩)
  · unfold sWait
    rw [if_pos hb]
    refine (kX4_fillL h hok hn).mono ?_
    rintro r μ1 ⟨rfl, hT, hE⟩
    obtain ⟨hR, hH⟩ := h.scr hok hE (by decide)
    have a2' : μ1.1 4 1 = nI (s 0) := hR.1.1.1.2.1
    refine ⟨rfl, ?_⟩
    refine cnt_loop 8 (fun i (_ : Unit) => Vq κ (PX (wA s x, s) μ) mX4_waiting 23 [(0, .ref 0), (1, .int x), (2, .int (nI (wI s x (ix (s 0) i)).1)), (3, .int (nI i))] [] μ1) (fun i _ => (wI s x (ix (s 0) i)).2 = none) ?_ ?_ 0 () (Nat.zero_le _) (by rw [ix_0]; rfl)
    · intro _ hI
      rw [ix_8 h0] at hI ⊢
      have e := wA_n hI
      refine wX4_waiting_23 _ _ _ μ1 ⟨fun _ => ⟨fun z => px ?_ ⟨hR, hH⟩, fun z => px ?_ ⟨hR, hH⟩⟩, fun z => absurd (nge (by omega) (Nat.le_refl _)) z⟩
      · rw [e, if_neg z]
      · rw [e, if_pos z]
    · intro i _ hi hI ih
      refine wX4_waiting_23 _ _ _ μ1 ⟨fun z => absurd z (nnge (by omega) hi), fun _ => ?_⟩
      by_cases vi : i < s 0 ∨ i = 7
      · obtain ⟨x1, x2, x3⟩ := ix_v h0 vi
        have L0 : wI s x (ix (s 0) i) = wJ s x (ix (s 0) i) (ix (s 0) 0) (wI s x (ix (s 0) i)) := by rw [ix_0]; rfl
        rw [show nI (wI s x (ix (s 0) i)).1 = nI (wJ s x (ix (s 0) i) (ix (s 0) 0) (wI s x (ix (s 0) i))).1 by rw [← L0]]
        refine cnt_loop 8 (fun j (_ : Unit) => Vq κ (PX (wA s x, s) μ) mX4_waiting 32 [(0, .ref 0), (1, .int x), (2, .int (nI (wJ s x (ix (s 0) i) (ix (s 0) j) (wI s x (ix (s 0) i))).1)), (3, .int (nI i)), (4, .int (nI j))] [] μ1) (fun j _ => (wJ s x (ix (s 0) i) (ix (s 0) j) (wI s x (ix (s 0) i))).2 = none) ?_ ?_ 0 () (Nat.zero_le _) (by rw [← L0]; exact hI)
        · intro _ hJ
          rw [ix_8 h0] at hJ ⊢
          refine wX4_waiting_32 _ _ _ _ μ1 ⟨fun _ => ?_, fun z => absurd (nge (by omega) (Nat.le_refl _)) z⟩
          rw [nI_add i 1]
          have ih' := ih ()
          rw [x1] at ih'
          exact ih' hJ
        · intro j _ hj hJ ih2
          have ih2' := ih2 ()
          refine wX4_waiting_32 _ _ _ _ μ1 ⟨fun z => absurd z (nnge (by omega) hj), fun _ => ?_⟩
          rw [a2', fv_dec (by omega) h0, fv_dec (by omega) h0, nI_add j 1, pk_mul, nI_add (10 * i) j, decide_eq_false_iff_not, decide_eq_true_iff, decide_eq_false_iff_not, decide_eq_true_iff]
          refine ⟨fun z => absurd vi z, fun _ => ⟨fun z => ?_, fun vj => ?_⟩⟩
          · rw [ix_n hj z] at ih2'; exact ih2' hJ
          · obtain ⟨y1, y2, y3⟩ := ix_v h0 vj
            rw [y1] at ih2'
            refine (kX4_rests hOK a2' hT vi vj).mono ?_
            rintro r μ2 ⟨rfl, rfl⟩
            have st : wJ s x (ix (s 0) i) (ix (s 0) j + 1) (wI s x (ix (s 0) i)) = wst x (wJ s x (ix (s 0) i) (ix (s 0) j) (wI s x (ix (s 0) i))) (rsN s i j) (nI (10 * i + j)) := by
              show wst x _ (rsN s (nm (s 0) (ix (s 0) i)) (nm (s 0) (ix (s 0) j))) (nI (10 * nm (s 0) (ix (s 0) i) + nm (s 0) (ix (s 0) j))) = _
              rw [x2, y2]
            rw [st] at ih2'
            refine ⟨_, rfl, fun z => ?_, fun z => ⟨fun y => ?_, fun y => ?_⟩⟩
            · rw [wst_f hJ z] at ih2'; exact ih2' hJ
            · rw [wst_n hJ z y] at ih2'
              rw [nI_add]
              exact ih2' rfl
            · refine px ?_ ⟨hR, hH⟩
              rw [wst_y hJ z y] at st
              rw [wA_y x3 y3 (w := nI (10 * i + j)) (by rw [st])]
      · have ih' := ih ()
        rw [ix_n hi vi] at ih'
        refine cnt_loop 8 (fun j (_ : Unit) => Vq κ (PX (wA s x, s) μ) mX4_waiting 32 [(0, .ref 0), (1, .int x), (2, .int (nI (wI s x (ix (s 0) i)).1)), (3, .int (nI i)), (4, .int (nI j))] [] μ1) (fun _ _ => True) ?_ ?_ 0 () (Nat.zero_le _) trivial
        · intro _ _
          refine wX4_waiting_32 _ _ _ _ μ1 ⟨fun _ => ?_, fun z => absurd (nge (by omega) (Nat.le_refl _)) z⟩
          rw [nI_add i 1]
          exact ih' hI
        · intro j _ hj _ ih2
          refine wX4_waiting_32 _ _ _ _ μ1 ⟨fun z => absurd z (nnge (by omega) hj), fun _ => ?_⟩
          rw [a2', fv_dec (j := i) (by omega) h0, nI_add j 1, decide_eq_false_iff_not, decide_eq_true_iff]
          exact ⟨fun _ => ih2 () trivial, fun z => absurd z vi⟩
  · unfold sWait
    rw [if_neg hb]
    refine (kX4_bad h hok).mono ?_
    rintro r μ' ⟨rfl, h1⟩
    exact ⟨_, rfl, px rfl h1⟩
