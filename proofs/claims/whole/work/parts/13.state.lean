/-! ===== the state, as one row of numbers: 0.. all, 1000.. kept, 2000.. which are kept, 2010.. refused, 2020, 2021 the fraction, 2030 the text's length, 3000.. its bytes ===== -/
def up (s : Ln) (i x : Nat) : Ln := fun j => if j = i then x else s j
theorem up_at (s : Ln) (i x : Nat) : up s i x i = x := by simp [up]
theorem up_ne {s : Ln} {i x j : Nat} (h : j ≠ i) : up s i x j = s j := by simp [up, h]
def Ent (μ : Mm) (c p : Nat) (a : Ln) (q : Nat) : Prop := (∀ i, i < a 0 → μ.1 c (p + i) = nI (a (q + 2 + i))) ∧ (∀ x, x < 20 → μ.1 c (p + 7 + x) = nI (a (q + 9 + x))) ∧ μ.1 c (p + 27) = nI (a (q + 1)) ∧ μ.1 c (p + 28) = nI (a q)
/-- the ring of what may be undone -/
def Rg (μ : Mm) (b : Nat) (a : Ln) : Prop := ∃ nx, nx < 8 ∧ μ.1 b 6 = nI nx ∧ μ.1 b 7 = nI (a 3) ∧ ∀ e, e < a 3 → Ent μ (b + 8) (29 * ((nx + 8 - a 3 + e) % 8)) a (86 + 29 * e)
def St (μ : Mm) (b : Nat) (a : Ln) : Prop := LX μ (b + 1) a ∧ μ.1 (b + 1) 6 = nI (a 6) ∧ μ.1 b 2 = nI (a 1) ∧ μ.1 b 4 = nI (a 2) ∧ (∀ j, j < 4 * a 1 → μ.1 (b + 6) j = nI (a (48 + j))) ∧ (∀ j, j < 3 * a 2 → μ.1 (b + 7) j = nI (a (68 + j))) ∧ Rg μ b a
theorem LX.cg {μ μ' : Mm} {k : Nat} {u u' : Ln} (h : LX μ k u) (h7 : u 0 ≤ 7) (hr : ∀ a, k ≤ a → a ≤ k + 4 → μ'.1 a = μ.1 a) (hu : ∀ j, j < 48 → u' j = u j) : LX μ' k u' := by
  obtain ⟨a1, a2, a3, a4, a5⟩ := h
  refine ⟨by rw [hr k (by omega) (by omega), hu 4 (by decide)]; exact a1, by rw [hr k (by omega) (by omega), hu 0 (by decide)]; exact a2, by rw [hr k (by omega) (by omega), hu 5 (by decide)]; exact a3, fun i hi => ?_, fun c hc => ?_⟩
  · rw [hu 0 (by decide)] at hi
    rw [hr _ (by omega) (by omega), hr _ (by omega) (by omega), hr _ (by omega) (by omega), hu _ (by omega), hu _ (by omega), hu _ (by omega)]
    exact a4 i hi
  · rw [hr _ (by omega) (by omega), hu _ (by omega)]; exact a5 c hc
theorem Ent.cg {μ μ' : Mm} {c p : Nat} {a a' : Ln} {q : Nat} (h : Ent μ c p a q) (h7 : a 0 ≤ 7) (hr : μ'.1 c = μ.1 c) (h0 : a' 0 = a 0) (ha : ∀ j, q ≤ j → j < q + 29 → a' j = a j) : Ent μ' c p a' q := by
  obtain ⟨b1, b2, b3, b4⟩ := h
  refine ⟨fun i hi => ?_, fun x hx => ?_, ?_, ?_⟩
  · rw [h0] at hi; rw [hr, ha _ (by omega) (by omega)]; exact b1 i hi
  · rw [hr, ha _ (by omega) (by omega)]; exact b2 x hx
  · rw [hr, ha _ (by omega) (by omega)]; exact b3
  · rw [hr, ha _ (by omega) (by omega)]; exact b4
theorem Rg.cg {μ μ' : Mm} {b : Nat} {a a' : Ln} (h : Rg μ b a) (h7 : a 0 ≤ 7) (h8 : a 3 ≤ 8) (hr6 : μ'.1 b 6 = μ.1 b 6) (hr7 : μ'.1 b 7 = μ.1 b 7) (hr : μ'.1 (b + 8) = μ.1 (b + 8)) (h0 : a' 0 = a 0) (h3 : a' 3 = a 3) (ha : ∀ j, 86 ≤ j → j < 318 → a' j = a j) : Rg μ' b a' := by
  obtain ⟨nx, g1, g2, g3, g4⟩ := h
  refine ⟨nx, g1, by rw [hr6]; exact g2, by rw [hr7, h3]; exact g3, fun e he => ?_⟩
  rw [h3] at he ⊢
  exact (g4 e he).cg h7 hr h0 (fun j h1 h2 => ha j (by omega) (by omega))
theorem St.cg {μ μ' : Mm} {b : Nat} {a a' : Ln} (h : St μ b a) (h7 : a 0 ≤ 7) (h5 : a 1 ≤ 5) (h6 : a 2 ≤ 6) (h8 : a 3 ≤ 8) (hr : ∀ x, b ≤ x → x ≤ b + 8 → μ'.1 x = μ.1 x) (ha : ∀ j, j < 318 → a' j = a j) : St μ' b a' := by
  obtain ⟨c1, c2, c3, c4, c5, c6, c7⟩ := h
  refine ⟨c1.cg h7 (fun x h1 h2 => hr x (by omega) (by omega)) (fun j hj => ha j (by omega)), by rw [hr _ (by omega) (by omega), ha _ (by decide)]; exact c2, by rw [hr _ (by omega) (by omega), ha _ (by decide)]; exact c3, by rw [hr _ (by omega) (by omega), ha _ (by decide)]; exact c4, fun j hj => ?_, fun j hj => ?_, c7.cg h7 h8 (by rw [hr _ (by omega) (by omega)]) (by rw [hr _ (by omega) (by omega)]) (hr _ (by omega) (by omega)) (ha _ (by decide)) (ha _ (by decide)) (fun j _ h => ha j h)⟩
  · rw [ha 1 (by decide)] at hj
    rw [hr _ (by omega) (by omega), ha _ (by omega)]; exact c5 j hj
  · rw [ha 2 (by decide)] at hj
    rw [hr _ (by omega) (by omega), ha _ (by omega)]; exact c6 j hj
/-! the class's cells -/
def RXs (μ : Mm) (s : Ln) : Prop := St μ 3 s ∧ (s 2000 = 1 → St μ 12 (fun j => s (1000 + j))) ∧ (s 2001 = 1 → St μ 21 (fun j => s (1318 + j))) ∧ μ.1 12 8 = nI (s 2000) ∧ μ.1 21 8 = nI (s 2001) ∧ (∃ x, x < 8 ∧ μ.1 12 6 = nI x) ∧ ∃ x, x < 8 ∧ μ.1 21 6 = nI x
def RXr (μ : Mm) (s : Ln) : Prop := μ.1 0 9 = nI (s 2010) ∧ μ.1 0 10 = nI (s 2011) ∧ μ.1 0 11 = nI (s 2012)
def RXf (μ : Mm) (s : Ln) : Prop := μ.2 0 7 = lN (s 2020) ∧ μ.2 0 8 = lN (s 2021)
def RXt (μ : Mm) (s : Ln) : Prop := μ.1 59 1 = nI (s 2030) ∧ ∀ j, j < s 2030 → μ.1 60 j = nI (s (3000 + j))
def RX (μ : Mm) (s : Ln) : Prop := RXs μ s ∧ RXr μ s ∧ RXf μ s ∧ RXt μ s
/-! the reference's cells -/
def RMa (μ : Mm) (s : Ln) : Prop := ∀ j, j < 318 → μ.1 67 j = nI (s j)
def RMk (μ : Mm) (s : Ln) : Prop := (∀ j, j < 636 → μ.1 68 j = nI (s (1000 + j))) ∧ ∀ i, i < 2 → μ.1 69 i = nI (s (2000 + i))
def RMr (μ : Mm) (s : Ln) : Prop := ∀ i, i < 3 → μ.1 70 i = nI (s (2010 + i))
def RMf (μ : Mm) (s : Ln) : Prop := μ.2 66 4 = lN (s 2020) ∧ μ.2 66 5 = lN (s 2021)
def RMt (μ : Mm) (s : Ln) : Prop := μ.1 66 11 = nI (s 2030) ∧ ∀ j, j < s 2030 → μ.1 74 j = nI (s (3000 + j))
def RM (μ : Mm) (s : Ln) : Prop := RMa μ s ∧ RMk μ s ∧ RMr μ s ∧ RMf μ s ∧ RMt μ s
/-! bounds -/
def sm (f : Nat → Nat) : Nat → Nat
  | 0 => 0
  | n + 1 => sm f n + f n
def EOK (n : Nat) (e : Ln) : Prop := e 0 ≤ 200 + n ∧ e 1 + sm (fun c => e (9 + c)) 20 ≤ 2000 + 9 * n ∧ (∀ i, i < 7 → e (2 + i) < 60) ∧ ∀ c, c < 20 → e (9 + c) ≤ 9
def SOK (n : Nat) (a : Ln) : Prop := (a 0 ≤ 7 ∧ a 1 ≤ 5 ∧ a 2 ≤ 6 ∧ a 3 ≤ 8 ∧ a 4 < 6) ∧ EOK n (fun j => a (5 + j)) ∧ (∀ i, i < 7 → a (34 + i) < 6 ∧ a (41 + i) < 20) ∧ (∀ r, r < 5 → a (48 + 4 * r) < 7 ∧ a (48 + 4 * r + 1) < 100 ∧ a (48 + 4 * r + 2) < 60 ∧ a (48 + 4 * r + 3) < 100) ∧ (∀ r, r < 6 → a (68 + 3 * r) < 100 ∧ a (68 + 3 * r + 1) < 60 ∧ a (68 + 3 * r + 2) ≤ 40) ∧ ∀ e, e < 8 → EOK n (fun j => a (86 + 29 * e + j))
def OKs (n : Nat) (s : Ln) : Prop := SOK n s ∧ SOK n (fun j => s (1000 + j)) ∧ SOK n (fun j => s (1318 + j)) ∧ (s 2000 ≤ 1 ∧ s 2001 ≤ 1) ∧ (∀ i, i < 3 → s (2010 + i) ≤ n) ∧ (s 2020 ≤ 10000 ∧ 1 ≤ s 2021 ∧ s 2021 ≤ 10000) ∧ s 2030 ≤ 150 ∧ ∀ j, j < s 2030 → s (3000 + j) < 128
theorem sm_cg {f g : Nat → Nat} : ∀ {n : Nat}, (∀ c, c < n → f c = g c) → sm f n = sm g n
  | 0, _ => rfl
  | n + 1, h => by
    show sm f n + f n = sm g n + g n
    rw [sm_cg (fun c hc => h c (by omega)), h n (by omega)]
theorem sm_vall (u : Ln) : ∀ n, sm (fun c => u (5 + (9 + c))) n = vall u n
  | 0 => rfl
  | n + 1 => by
    show sm _ n + u (5 + (9 + n)) = vall u n + u (14 + n)
    rw [sm_vall u n, show 5 + (9 + n) = 14 + n by omega]
theorem EOK.up {n m : Nat} {e : Ln} (h : EOK n e) (hm : n ≤ m) : EOK m e := ⟨by have := h.1; omega, by have := h.2.1; omega, h.2.2⟩
theorem EOK.cg {n : Nat} {e e' : Ln} (h : EOK n e) (hc : ∀ j, j < 29 → e' j = e j) : EOK n e' := by
  obtain ⟨h1, h2, h3, h4⟩ := h
  refine ⟨by rw [hc 0 (by decide)]; exact h1, ?_, fun i hi => by rw [hc _ (by omega)]; exact h3 i hi, fun c hx => by rw [hc _ (by omega)]; exact h4 c hx⟩
  rw [hc 1 (by decide), sm_cg (fun c hx => hc (9 + c) (by omega))]
  exact h2
theorem SOK.up {n m : Nat} {a : Ln} (h : SOK n a) (hm : n ≤ m) : SOK m a := ⟨h.1, h.2.1.up hm, h.2.2.1, h.2.2.2.1, h.2.2.2.2.1, fun e he => (h.2.2.2.2.2 e he).up hm⟩
theorem SOK.cg {n : Nat} {a a' : Ln} (h : SOK n a) (hc : ∀ j, j < 318 → a' j = a j) : SOK n a' := by
  obtain ⟨⟨p0, p1, p2, p3, p4⟩, h2, h3, h4, h5, h6⟩ := h
  refine ⟨⟨by rw [hc _ (by decide)]; exact p0, by rw [hc _ (by decide)]; exact p1, by rw [hc _ (by decide)]; exact p2, by rw [hc _ (by decide)]; exact p3, by rw [hc _ (by decide)]; exact p4⟩, h2.cg (fun j hj => hc _ (by omega)), fun i hi => ?_, fun r hr => ?_, fun r hr => ?_, fun e he => (h6 e he).cg (fun j hj => hc _ (by omega))⟩
  · rw [hc _ (by omega), hc _ (by omega)]; exact h3 i hi
  · rw [hc _ (by omega), hc _ (by omega), hc _ (by omega), hc _ (by omega)]; exact h4 r hr
  · rw [hc _ (by omega), hc _ (by omega), hc _ (by omega)]; exact h5 r hr
theorem SOK.ok {n : Nat} {a : Ln} (h : SOK n a) (hn : n ≤ 600) : OKL a ∧ a 5 ≤ 800 ∧ a 6 + vall a 20 ≤ 2000 + 9 * n := by
  obtain ⟨⟨p0, p1, p2, p3, p4⟩, ⟨q1, q2, q3, q4⟩, h3, h4, h5, h6⟩ := h
  rw [sm_vall] at q2
  have q1' : a 5 ≤ 200 + n := q1
  have q2' : a 6 + vall a 20 ≤ 2000 + 9 * n := q2
  refine ⟨⟨p0, p4, by omega, fun i hi => ⟨?_, h3 i hi⟩, fun c hc => ?_⟩, by omega, q2'⟩
  · have : a (5 + (2 + i)) < 60 := q3 i hi
    rw [show 5 + (2 + i) = 7 + i by omega] at this; exact this
  · have : a (5 + (9 + c)) ≤ 9 := q4 c hc
    rw [show 5 + (9 + c) = 14 + c by omega] at this; exact this
theorem OKs.up {n m : Nat} {s : Ln} (h : OKs n s) (hm : n ≤ m) : OKs m s := ⟨h.1.up hm, h.2.1.up hm, h.2.2.1.up hm, h.2.2.2.1, fun i hi => Nat.le_trans (h.2.2.2.2.1 i hi) hm, h.2.2.2.2.2⟩
/-- only the first 318 changed -/
theorem OKs.now {n : Nat} {s s' : Ln} (h : OKs n s) (hs : SOK (n + 1) s') (hc : ∀ j, 318 ≤ j → s' j = s j) : OKs (n + 1) s' := by
  obtain ⟨-, h2, h3, h4, h5, h6, h7, h8⟩ := h
  refine ⟨hs, (h2.up (by omega)).cg (fun j _ => hc _ (by omega)), (h3.up (by omega)).cg (fun j _ => hc _ (by omega)), ⟨by rw [hc _ (by omega)]; exact h4.1, by rw [hc _ (by omega)]; exact h4.2⟩, fun i hi => by rw [hc _ (by omega)]; have := h5 i hi; omega, ⟨by rw [hc _ (by omega)]; exact h6.1, by rw [hc _ (by omega)]; exact h6.2.1, by rw [hc _ (by omega)]; exact h6.2.2⟩, by rw [hc _ (by omega)]; exact h7, fun j hj => ?_⟩
  rw [hc _ (by omega)] at hj ⊢
  exact h8 j hj
def EqH (μ μ' : Mm) : Prop := ∀ a, 66 ≤ a → μ'.1 a = μ.1 a ∧ μ'.2 a = μ.2 a
def EqG (μ μ' : Mm) : Prop := ∀ a, a < 66 → μ'.1 a = μ.1 a ∧ μ'.2 a = μ.2 a
def nowS (a : Nat) : Bool := (decide (1 ≤ a) && decide (a ≤ 11)) || (decide (30 ≤ a) && decide (a ≤ 58)) || (decide (61 ≤ a) && decide (a ≤ 65))
def scrS (a : Nat) : Bool := (decide (1 ≤ a) && decide (a ≤ 2)) || (decide (30 ≤ a) && decide (a ≤ 58)) || (decide (61 ≤ a) && decide (a ≤ 65))
theorem nowS_t {a : Nat} : nowS a = true ↔ (1 ≤ a ∧ a ≤ 11) ∨ (30 ≤ a ∧ a ≤ 58) ∨ (61 ≤ a ∧ a ≤ 65) := by simp [nowS, or_assoc]
theorem scrS_t {a : Nat} : scrS a = true ↔ (1 ≤ a ∧ a ≤ 2) ∨ (30 ≤ a ∧ a ≤ 58) ∨ (61 ≤ a ∧ a ≤ 65) := by simp [scrS, or_assoc]
theorem RX.now {n : Nat} {S : List Nat} {μ μ' : Mm} {s s' : Ln} (h : RX μ s) (hok : OKs n s) (hst : St μ' 3 s') (hE : Eqx S μ μ') (hS : S.all nowS = true) (hc : ∀ j, 318 ≤ j → s' j = s j) : RX μ' s' ∧ EqH μ μ' := by
  have hn : ∀ a, ¬ ((1 ≤ a ∧ a ≤ 11) ∨ (30 ≤ a ∧ a ≤ 58) ∨ (61 ≤ a ∧ a ≤ 65)) → μ'.1 a = μ.1 a := fun a ha => hE.2 a (fun z => ha (nowS_t.mp (List.all_eq_true.mp hS a z)))
  obtain ⟨⟨-, i1, i2, i3, i4, i5, i6⟩, r, f, t⟩ := h
  obtain ⟨-, o2, o3, -⟩ := hok
  refine ⟨⟨⟨hst, fun z => ?_, fun z => ?_, by rw [hn 12 (by omega), hc _ (by omega)]; exact i3, by rw [hn 21 (by omega), hc _ (by omega)]; exact i4, by rw [hn 12 (by omega)]; exact i5, by rw [hn 21 (by omega)]; exact i6⟩, ?_, ?_, ?_⟩, fun a ha => ⟨hn a (by omega), by rw [hE.1]⟩⟩
  · rw [hc _ (by omega)] at z
    exact (i1 z).cg o2.1.1 o2.1.2.1 o2.1.2.2.1 o2.1.2.2.2.1 (fun x h1 h2 => hn x (by omega)) (fun j _ => hc _ (by omega))
  · rw [hc _ (by omega)] at z
    exact (i2 z).cg o3.1.1 o3.1.2.1 o3.1.2.2.1 o3.1.2.2.2.1 (fun x h1 h2 => hn x (by omega)) (fun j _ => hc _ (by omega))
  · refine ⟨?_, ?_, ?_⟩ <;> rw [hn 0 (by omega), hc _ (by omega)]
    · exact r.1
    · exact r.2.1
    · exact r.2.2
  · refine ⟨?_, ?_⟩ <;> rw [hE.1, hc _ (by omega)]
    · exact f.1
    · exact f.2
  · refine ⟨by rw [hn 59 (by omega), hc _ (by omega)]; exact t.1, fun j hj => ?_⟩
    rw [hc _ (by omega)] at hj
    rw [hn 60 (by omega), hc _ (by omega)]; exact t.2 j hj
theorem RX.scr {n : Nat} {S : List Nat} {μ μ' : Mm} {s : Ln} (h : RX μ s) (hok : OKs n s) (hE : Eqx S μ μ') (hS : S.all scrS = true) : RX μ' s ∧ EqH μ μ' := by
  refine RX.now h hok ?_ hE (List.all_eq_true.mpr (fun a ha => nowS_t.mpr (by have := scrS_t.mp (List.all_eq_true.mp hS a ha); omega))) (fun _ _ => rfl)
  exact h.1.1.cg hok.1.1.1 hok.1.1.2.1 hok.1.1.2.2.1 hok.1.1.2.2.2.1 (fun x h1 h2 => hE.2 x (fun z => by have := scrS_t.mp (List.all_eq_true.mp hS x z); omega)) (fun _ _ => rfl)
/-- refused: one more -/
def rfs (s : Ln) (i : Nat) : Ln := up s (2010 + i) (s (2010 + i) + 1)
theorem rfs_ne {s : Ln} {i j : Nat} (h : j ≠ 2010 + i) : rfs s i j = s j := up_ne h
theorem OKs.rf {n : Nat} {s : Ln} (h : OKs n s) {i : Nat} (hi : i < 3) : OKs (n + 1) (rfs s i) := by
  obtain ⟨h1, h2, h3, h4, h5, h6, h7, h8⟩ := h
  refine ⟨(h1.up (by omega)).cg (fun j _ => rfs_ne (by omega)), (h2.up (by omega)).cg (fun j _ => rfs_ne (by omega)), (h3.up (by omega)).cg (fun j _ => rfs_ne (by omega)), ⟨by rw [rfs_ne (by omega)]; exact h4.1, by rw [rfs_ne (by omega)]; exact h4.2⟩, fun x hx => ?_, ⟨by rw [rfs_ne (by omega)]; exact h6.1, by rw [rfs_ne (by omega)]; exact h6.2.1, by rw [rfs_ne (by omega)]; exact h6.2.2⟩, by rw [rfs_ne (by omega)]; exact h7, fun j hj => ?_⟩
  · by_cases e : x = i
    · subst e; rw [show rfs s x (2010 + x) = s (2010 + x) + 1 from up_at _ _ _]; have := h5 x hx; omega
    · rw [rfs_ne (by omega)]; have := h5 x hx; omega
  · rw [rfs_ne (by omega)] at hj ⊢
    exact h8 j hj
theorem RX.rf {n : Nat} {μ : Mm} {s : Ln} (h : RX μ s) (hok : OKs n s) {i : Nat} (hi : i < 3) : RX (mset μ 0 (9 + i) (μ.1 0 (9 + i) + nI 1)) (rfs s i) ∧ EqH μ (mset μ 0 (9 + i) (μ.1 0 (9 + i) + nI 1)) := by
  obtain ⟨⟨i0, i1, i2, i3, i4, i5, i6⟩, r, f, t⟩ := h
  obtain ⟨o1, o2, o3, -⟩ := hok
  have hrow : ∀ a, a ≠ 0 → (mset μ 0 (9 + i) (μ.1 0 (9 + i) + nI 1)).1 a = μ.1 a := fun a ha => ms_row ha
  refine ⟨⟨⟨i0.cg o1.1.1 o1.1.2.1 o1.1.2.2.1 o1.1.2.2.2.1 (fun x h1 h2 => hrow x (by omega)) (fun j _ => rfs_ne (by omega)), fun z => ?_, fun z => ?_, by rw [hrow 12 (by decide), rfs_ne (by omega)]; exact i3, by rw [hrow 21 (by decide), rfs_ne (by omega)]; exact i4, by rw [hrow 12 (by decide)]; exact i5, by rw [hrow 21 (by decide)]; exact i6⟩, ?_, ?_, ?_⟩, fun a ha => ⟨hrow a (by omega), rfl⟩⟩
  · rw [rfs_ne (by omega)] at z
    exact (i1 z).cg o2.1.1 o2.1.2.1 o2.1.2.2.1 o2.1.2.2.2.1 (fun x h1 h2 => hrow x (by omega)) (fun j _ => rfs_ne (by omega))
  · rw [rfs_ne (by omega)] at z
    exact (i2 z).cg o3.1.1 o3.1.2.1 o3.1.2.2.1 o3.1.2.2.2.1 (fun x h1 h2 => hrow x (by omega)) (fun j _ => rfs_ne (by omega))
  · have key : ∀ x, x < 3 → μ.1 0 (9 + x) = nI (s (2010 + x)) → (mset μ 0 (9 + i) (μ.1 0 (9 + i) + nI 1)).1 0 (9 + x) = nI (rfs s i (2010 + x)) := by
      intro x hx hr
      by_cases e : x = i
      · subst e; rw [ms_at, hr, nI_add, show rfs s x (2010 + x) = s (2010 + x) + 1 from up_at _ _ _]
      · rw [ms_col (by omega), rfs_ne (by omega)]; exact hr
    exact ⟨key 0 (by decide) r.1, key 1 (by decide) r.2.1, key 2 (by decide) r.2.2⟩
  · exact ⟨by rw [ms_2, rfs_ne (by omega)]; exact f.1, by rw [ms_2, rfs_ne (by omega)]; exact f.2⟩
  · refine ⟨by rw [hrow 59 (by decide), rfs_ne (by omega)]; exact t.1, fun j hj => ?_⟩
    rw [rfs_ne (by omega)] at hj
    rw [hrow 60 (by decide), rfs_ne (by omega)]; exact t.2 j hj
/-- of the reference: the cells behind a call, told by what changed -/
theorem RM.now {μ μ' : Mm} {s s' : Ln} {n : Nat} (h : RM μ s) (_hok : OKs n s) (ha : ∀ j, j < 318 → μ'.1 67 j = nI (s' j)) (hr : ∀ x, x = 68 ∨ x = 69 ∨ x = 70 ∨ x = 74 ∨ x < 66 → μ'.1 x = μ.1 x) (h11 : μ'.1 66 11 = μ.1 66 11) (h2 : μ'.2 = μ.2) (hc : ∀ j, 318 ≤ j → s' j = s j) : RM μ' s' ∧ EqG μ μ' := by
  obtain ⟨-, k, r, f, t⟩ := h
  refine ⟨⟨ha, ⟨fun j hj => ?_, fun i hi => ?_⟩, fun i hi => ?_, ⟨?_, ?_⟩, ?_, fun j hj => ?_⟩, fun a ha => ⟨hr a (by omega), by rw [h2]⟩⟩
  · rw [hr _ (by omega), hc _ (by omega)]; exact k.1 j hj
  · rw [hr _ (by omega), hc _ (by omega)]; exact k.2 i hi
  · rw [hr _ (by omega), hc _ (by omega)]; exact r i hi
  · rw [h2, hc _ (by omega)]; exact f.1
  · rw [h2, hc _ (by omega)]; exact f.2
  · rw [h11, hc _ (by omega)]; exact t.1
  · rw [hc _ (by omega)] at hj
    rw [hr _ (by omega), hc _ (by omega)]; exact t.2 j hj
theorem RM.scr {μ μ' : Mm} {s : Ln} {n : Nat} (h : RM μ s) (hok : OKs n s) (hr : ∀ x, x = 67 ∨ x = 68 ∨ x = 69 ∨ x = 70 ∨ x = 74 ∨ x < 66 → μ'.1 x = μ.1 x) (h11 : μ'.1 66 11 = μ.1 66 11) (h2 : μ'.2 = μ.2) : RM μ' s ∧ EqG μ μ' :=
  RM.now h hok (fun j hj => by rw [hr 67 (by omega)]; exact h.1 j hj) (fun x hx => hr x (by omega)) h11 h2 (fun _ _ => rfl)
theorem RM.rf {μ : Mm} {s : Ln} (h : RM μ s) {i : Nat} (hi : i < 3) : RM (mset μ 70 i (μ.1 70 i + nI 1)) (rfs s i) ∧ EqG μ (mset μ 70 i (μ.1 70 i + nI 1)) := by
  obtain ⟨a, k, r, f, t⟩ := h
  have hrow : ∀ a, a ≠ 70 → (mset μ 70 i (μ.1 70 i + nI 1)).1 a = μ.1 a := fun a ha => ms_row ha
  refine ⟨⟨fun j hj => by rw [hrow _ (by decide), rfs_ne (by omega)]; exact a j hj, ⟨fun j hj => by rw [hrow _ (by decide), rfs_ne (by omega)]; exact k.1 j hj, fun x hx => by rw [hrow _ (by decide), rfs_ne (by omega)]; exact k.2 x hx⟩, fun x hx => ?_, ⟨by rw [ms_2, rfs_ne (by omega)]; exact f.1, by rw [ms_2, rfs_ne (by omega)]; exact f.2⟩, by rw [hrow _ (by decide), rfs_ne (by omega)]; exact t.1, fun j hj => ?_⟩, fun x hx => ⟨hrow x (by omega), rfl⟩⟩
  · by_cases e : x = i
    · subst e; rw [ms_at, r x hi, nI_add, show rfs s x (2010 + x) = s (2010 + x) + 1 from up_at _ _ _]
    · rw [ms_col e, rfs_ne (by omega)]; exact r x hx
  · rw [rfs_ne (by omega)] at hj
    rw [hrow _ (by decide), rfs_ne (by omega)]; exact t.2 j hj
/-- a call's answer and state: of the class, of the reference -/
def PX (q : Int32 × Ln) (μ : Mm) : Option Value → Mm → Prop := fun r μ' => r = some (.int q.1) ∧ RX μ' q.2 ∧ EqH μ μ'
def PM (q : Int32 × Ln) (μ : Mm) : Option Value → Mm → Prop := fun r μ' => r = some (.int q.1) ∧ RM μ' q.2 ∧ EqG μ μ'
theorem kX4_bad {μ : Mm} {s : Ln} {n : Nat} (h : RX μ s) (hok : OKs n s) : Con mX4_refuse [.ref 0, .int (-2)] μ (PX (-2, rfs s 0) μ) := by
  refine Con.of pnX4 (Nat.le_of_ble_eq_true rfl) (fun κ => wX4_refuse_0 _ μ ⟨fun z => absurd rfl z, fun _ μ4 e4 => ⟨rfl, ?_⟩⟩)
  rw [e4]; exact h.rf hok (i := 0) (by decide)
theorem kX4_no {μ : Mm} {s : Ln} {n : Nat} (h : RX μ s) (hok : OKs n s) : Con mX4_refuse [.ref 0, .int (-3)] μ (PX (-3, rfs s 1) μ) := by
  refine Con.of pnX4 (Nat.le_of_ble_eq_true rfl) (fun κ => wX4_refuse_0 _ μ ⟨fun _ => ⟨fun z => absurd rfl z, fun _ μ4 e4 => ⟨rfl, ?_⟩⟩, fun z => absurd z (by decide)⟩)
  rw [e4]; exact h.rf hok (i := 1) (by decide)
theorem kX4_full {μ : Mm} {s : Ln} {n : Nat} (h : RX μ s) (hok : OKs n s) : Con mX4_refuse [.ref 0, .int (-4)] μ (PX (-4, rfs s 2) μ) := by
  refine Con.of pnX4 (Nat.le_of_ble_eq_true rfl) (fun κ => wX4_refuse_0 _ μ ⟨fun _ => ⟨fun _ μ4 e4 => ⟨rfl, ?_⟩, fun z => absurd z (by decide)⟩, fun z => absurd z (by decide)⟩)
  rw [e4]; exact h.rf hok (i := 2) (by decide)
theorem kX5_badR {μ : Mm} {s : Ln} (x : Int32) (h : RM μ s) : Con mX5_bad [.ref 66, .int x] μ (PM (x, rfs s 0) μ) := (kX5_bad x μ).mono (by rintro r μ' ⟨rfl, rfl⟩; exact ⟨rfl, h.rf (by decide)⟩)
theorem kX5_noR {μ : Mm} {s : Ln} (h : RM μ s) : Con mX5_no [.ref 66] μ (PM (-3, rfs s 1) μ) := (kX5_no μ).mono (by rintro r μ' ⟨rfl, rfl⟩; exact ⟨rfl, h.rf (by decide)⟩)
theorem kX5_fullR {μ : Mm} {s : Ln} (h : RM μ s) : Con mX5_full [.ref 66] μ (PM (-4, rfs s 2) μ) := (kX5_full μ).mono (by rintro r μ' ⟨rfl, rfl⟩; exact ⟨rfl, h.rf (by decide)⟩)
/-- an answer handed on -/
theorem PX.on {q : Int32 × Ln} {μ : Mm} {M : Mi} {as : List Value} (h : Con M as μ (PX q μ)) : Con M as μ (fun r μ1 => ∃ x : Int32, r = some (.int x) ∧ PX q μ (some (.int x)) μ1) := h.mono (by rintro r μ' ⟨rfl, h1⟩; exact ⟨_, rfl, rfl, h1⟩)
theorem PM.on {q : Int32 × Ln} {μ : Mm} {M : Mi} {as : List Value} (h : Con M as μ (PM q μ)) : Con M as μ (fun r μ1 => ∃ x : Int32, r = some (.int x) ∧ PM q μ (some (.int x)) μ1) := h.mono (by rintro r μ' ⟨rfl, h1⟩; exact ⟨_, rfl, rfl, h1⟩)
