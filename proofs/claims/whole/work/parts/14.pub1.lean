/-! ===== island, clerk, vines, hill, type, clear, has ===== -/
theorem ifT {α : Type} {b : Bool} {x y : α} (h : b = true) : (if b = true then x else y) = x := if_pos h
theorem ifF {α : Type} {b : Bool} {x y : α} (h : b = false) : (if b = true then x else y) = y := if_neg (by rw [h]; decide)
theorem px {v w : Int32} {s' : Ln} {μ μ' : Mm} (hv : w = v) (h : RX μ' s' ∧ EqH μ μ') : PX (v, s') μ (some (.int w)) μ' := ⟨by rw [hv], h⟩
theorem pm {v w : Int32} {s' : Ln} {μ μ' : Mm} (hv : w = v) (h : RM μ' s' ∧ EqG μ μ') : PM (v, s') μ (some (.int w)) μ' := ⟨by rw [hv], h⟩
theorem nm1 {a x : Nat} (h : a ≠ x) : a ∉ [x] := by simp [h]
theorem nm2 {a x y : Nat} (h : a ≠ x) (h2 : a ≠ y) : a ∉ [x, y] := by simp [h, h2]
theorem nm3 {a x y z : Nat} (h : a ≠ x) (h2 : a ≠ y) (h3 : a ≠ z) : a ∉ [x, y, z] := by simp [h, h2, h3]
theorem Rg.zero {μ μ0 : Mm} {b : Nat} {a a0 : Ln} (h : Rg μ0 b a0) (h6 : μ.1 b 6 = μ0.1 b 6) (h7 : μ.1 b 7 = nI 0) (ha : a 3 = 0) : Rg μ b a := by
  obtain ⟨nx, g1, g2, -, -⟩ := h
  exact ⟨nx, g1, by rw [h6]; exact g2, by rw [ha]; exact h7, fun e he => by omega⟩
theorem SOK.hd {n : Nat} {a a' : Ln} (h : SOK n a) (h0 : a' 0 ≤ 7) (h1 : a' 1 ≤ 5) (h2 : a' 2 ≤ 6) (h3 : a' 3 ≤ 8) (h4 : a' 4 < 6) (hc : ∀ j, 5 ≤ j → j < 318 → a' j = a j) : SOK n a' := by
  obtain ⟨-, g2, g3, g4, g5, g6⟩ := h
  refine ⟨⟨h0, h1, h2, h3, h4⟩, g2.cg (fun j hj => hc _ (by omega) (by omega)), fun i hi => ?_, fun r hr => ?_, fun r hr => ?_, fun e he => (g6 e he).cg (fun j hj => hc _ (by omega) (by omega))⟩
  · rw [hc _ (by omega) (by omega), hc _ (by omega) (by omega)]; exact g3 i hi
  · rw [hc _ (by omega) (by omega), hc _ (by omega) (by omega), hc _ (by omega) (by omega), hc _ (by omega) (by omega)]; exact g4 r hr
  · rw [hc _ (by omega) (by omega), hc _ (by omega) (by omega), hc _ (by omega) (by omega)]; exact g5 r hr
theorem sm_le {f : Nat → Nat} {k : Nat} : ∀ {n : Nat}, (∀ c, c < n → f c ≤ k) → sm f n ≤ k * n
  | 0, _ => Nat.le_refl _
  | n + 1, h => by
    have h1 := sm_le (f := f) (k := k) (n := n) (fun c hc => h c (by omega))
    have h2 := h n (by omega)
    show sm f n + f n ≤ k * (n + 1)
    rw [Nat.mul_succ]; omega
theorem sm_one {f g : Nat → Nat} {i d : Nat} : ∀ {n : Nat}, (∀ c, c < n → c ≠ i → g c = f c) → g i ≤ f i + d → sm g n ≤ sm f n + d
  | 0, _, _ => Nat.zero_le _
  | n + 1, h, hi => by
    show sm g n + g n ≤ sm f n + f n + d
    by_cases e : n = i
    · subst e
      rw [sm_cg (f := g) (g := f) (fun c hc => h c (by omega) (by omega))]; omega
    · have h1 := sm_one (n := n) (fun c hc hne => h c (by omega) hne) hi
      rw [h n (by omega) e]; omega
-- island
def bgF (s : Ln) (x : Nat) : Ln := fun j => if j < 86 then bgn x j else s j
def sIsland (x : Int32) (s : Ln) : Int32 × Ln := if fwith x (nI 0) (nI 5) = true then (nI (s 0), bgF s x.toNatClampNeg) else (-2, rfs s 0)
theorem kX3_restart (k x : Nat) (μ : Mm) (hk : isS k) {a : Ln} (hx : ∃ y, y < 8 ∧ μ.1 k 6 = nI y) : Con mX3_restart [.ref k, .int (nI x)] μ (fun r μ' => r = none ∧ St μ' k (bgF a x) ∧ Eqx [k, k + 1, k + 5] μ μ') := by
  refine Con.of pnX3 (Nat.le_of_ble_eq_true rfl) (fun κ => wX3_restart_0 k _ μ hk ?_)
  refine (kX0_restart (k + 1) (nI x) μ (sS1 hk)).mono ?_
  rintro r μ1 ⟨rfl, g0, g1, g6, g7, gv, gE⟩
  refine ⟨rfl, fun μ2 e2 μ3 e3 μ4 e4 => ⟨rfl, ?_, ?_⟩⟩
  · have hr : ∀ z, z ≠ k → μ4.1 z = μ1.1 z := fun z hz => by rw [e4, ms_row hz, e3, ms_row hz, e2, ms_row hz]
    have b4 : bgF a x 4 = x := rfl
    refine ⟨⟨by rw [hr _ (by omega), b4]; exact g0, by rw [hr _ (by omega)]; exact g1, by rw [hr _ (by omega)]; exact g7, fun i hi => absurd hi (Nat.not_lt_zero i), fun c hc => ?_⟩, by rw [hr _ (by omega)]; exact g6, ?_, ?_, fun j hj => absurd hj (Nat.not_lt_zero j), fun j hj => absurd hj (Nat.not_lt_zero j), ?_⟩
    · rw [hr _ (by omega), gv c hc]
      show nI 1 = nI (if 14 + c < 86 then bgn x (14 + c) else a (14 + c))
      rw [if_pos (by omega)]
      unfold bgn
      rw [if_neg (by omega), if_pos (by omega)]
    · rw [e4, ms_col (by decide), e3, ms_col (by decide), e2, ms_at]; rfl
    · rw [e4, ms_col (by decide), e3, ms_at]; rfl
    · obtain ⟨y, hy, hy2⟩ := hx
      refine ⟨y, hy, ?_, by rw [e4, ms_at]; rfl, fun e he => absurd he (Nat.not_lt_zero e)⟩
      rw [e4, ms_col (by decide), e3, ms_col (by decide), e2, ms_col (by decide), gE.2 k (nm2 (by omega) (by omega))]; exact hy2
  · rw [e4, e3, e2]
    exact (((gE.mn (by simp)).ms (by simp)).ms (by simp)).ms (by simp)
theorem Rg.nx {μ : Mm} {b : Nat} {a : Ln} (h : Rg μ b a) : ∃ y, y < 8 ∧ μ.1 b 6 = nI y := by
  obtain ⟨nx, g1, g2, -⟩ := h
  exact ⟨nx, g1, g2⟩
theorem bg_ok {n : Nat} {a : Ln} (h : SOK n a) {x : Nat} (hx : x < 6) : SOK n (bgF a x) := by
  have hb : ∀ j, j < 86 → bgF a x j = bgn x j := fun j hj => if_pos hj
  have hz : ∀ j, j < 86 → j ≠ 4 → ¬ (14 ≤ j ∧ j < 34) → bgF a x j = 0 := fun j h1 h2 h3 => by rw [hb j h1]; unfold bgn; rw [if_neg h2, if_neg h3]
  obtain ⟨-, -, -, -, -, g6⟩ := h
  refine ⟨⟨by rw [hz 0 (by omega) (by omega) (by omega)]; omega, by rw [hz 1 (by omega) (by omega) (by omega)]; omega, by rw [hz 2 (by omega) (by omega) (by omega)]; omega, by rw [hz 3 (by omega) (by omega) (by omega)]; omega, hx⟩, ⟨?_, ?_, fun i hi => ?_, fun c hc => ?_⟩, fun i hi => ?_, fun r hr => ?_, fun r hr => ?_, fun e he => (g6 e he).cg (fun j hj => if_neg (by omega))⟩
  · show bgF a x 5 ≤ _
    rw [hz 5 (by omega) (by omega) (by omega)]; omega
  · show bgF a x 6 + sm (fun c => bgF a x (5 + (9 + c))) 20 ≤ _
    have := sm_le (f := fun c => bgF a x (5 + (9 + c))) (k := 1) (n := 20) (fun c hc => by
      show bgF a x (5 + (9 + c)) ≤ 1
      rw [hb _ (by omega)]; unfold bgn
      rw [if_neg (by omega), if_pos (by omega)]; omega)
    rw [hz 6 (by omega) (by omega) (by omega)]; omega
  · show bgF a x (5 + (2 + i)) < 60
    rw [hz _ (by omega) (by omega) (by omega)]; omega
  · show bgF a x (5 + (9 + c)) ≤ 9
    rw [hb _ (by omega)]; unfold bgn
    rw [if_neg (by omega), if_pos (by omega)]; omega
  · rw [hz _ (by omega) (by omega) (by omega), hz _ (by omega) (by omega) (by omega)]; omega
  · rw [hz _ (by omega) (by omega) (by omega), hz _ (by omega) (by omega) (by omega), hz _ (by omega) (by omega) (by omega), hz _ (by omega) (by omega) (by omega)]; omega
  · rw [hz _ (by omega) (by omega) (by omega), hz _ (by omega) (by omega) (by omega), hz _ (by omega) (by omega) (by omega)]; omega
theorem oIsland (x : Int32) {s : Ln} {n : Nat} (h : OKs n s) : OKs (n + 1) (sIsland x s).2 := by
  unfold sIsland
  cases hb : fwith x (nI 0) (nI 5) with
  | true =>
    rw [ifT rfl]
    obtain ⟨j, hj, rfl⟩ := fw_of (by decide) hb
    rw [cl (by omega)]
    exact h.now ((bg_ok h.1 (by omega)).up (by omega)) (fun j hj => if_neg (by omega))
  | false => exact h.rf (by decide)
theorem xIsland (x : Int32) {μ : Mm} {s : Ln} {n : Nat} (h : RX μ s) (hok : OKs n s) : Con mX4_island [.ref 0, .int x] μ (PX (sIsland x s) μ) := by
  refine Con.of pnX4 (Nat.le_of_ble_eq_true rfl) (fun κ => wX4_island_0 x μ ⟨fun hb => ?_, fun hb => ?_⟩)
  · unfold sIsland
    rw [ifT hb]
    obtain ⟨j, hj, rfl⟩ := fw_of (by decide) hb
    refine (kX3_restart 3 j μ isS_3 (a := s) h.1.1.2.2.2.2.2.2.nx).mono ?_
    rintro r μ1 ⟨rfl, hst, hE⟩
    rw [cl (by omega)]
    exact ⟨rfl, px h.1.1.1.2.1 (h.now hok hst hE (by decide) (fun j hj => if_neg (by omega)))⟩
  · unfold sIsland
    rw [ifF hb]
    exact PX.on (kX4_bad h hok)
theorem mIsland (x : Int32) {μ : Mm} {s : Ln} {n : Nat} (h : RM μ s) (hok : OKs n s) : Con mX5_island [.ref 66, .int x] μ (PM (sIsland x s) μ) := by
  refine Con.of pnX5 (Nat.le_of_ble_eq_true rfl) (fun κ => wX5_island_0 x μ ⟨fun hb => ?_, fun hb => ?_⟩)
  · unfold sIsland
    rw [ifT hb]
    obtain ⟨j, hj, rfl⟩ := fw_of (by decide) hb
    refine (kX5_begin 67 318 j μ sh_67 (by decide) (by decide)).mono ?_
    rintro r μ1 ⟨rfl, g1, g2, hE⟩
    rw [cl (by omega)]
    refine ⟨rfl, pm (h.1 0 (by decide)) (h.now hok (fun i hi => ?_) (fun y hy => hE.2 y (nm1 (by omega))) (by rw [hE.2 66 (nm1 (by omega))]) hE.1 (fun i hi => if_neg (by omega)))⟩
    show _ = nI (if i < 86 then bgn j i else s i)
    by_cases e : i < 86
    · rw [if_pos e]; exact g1 i e
    · rw [if_neg e, g2 i (by omega)]; exact h.1 i hi
  · unfold sIsland
    rw [ifF hb]
    exact PM.on (kX5_badR (-2) h)
-- clerk
def sClerk (x : Int32) (s : Ln) : Int32 × Ln := if fwith x (nI 0) (nI 5) = true then (nI (s 4), up (up s 4 x.toNatClampNeg) 3 0) else (-2, rfs s 0)
theorem oClerk (x : Int32) {s : Ln} {n : Nat} (h : OKs n s) : OKs (n + 1) (sClerk x s).2 := by
  unfold sClerk
  cases hb : fwith x (nI 0) (nI 5) with
  | true =>
    rw [ifT rfl]
    obtain ⟨j, hj, rfl⟩ := fw_of (by decide) hb
    rw [cl (by omega)]
    have g := h.1.1
    dsimp only
    refine h.now ((h.1.up (Nat.le_succ n)).hd g.1 g.2.1 g.2.2.1 (by rw [up_at]; omega) (by show j < 6; omega) (fun i h1 h2 => ?_)) (fun i hi => ?_) <;> rw [up_ne (by omega), up_ne (by omega)]
  | false => exact h.rf (by decide)
theorem xClerk (x : Int32) {μ : Mm} {s : Ln} {n : Nat} (h : RX μ s) (hok : OKs n s) : Con mX4_clerk [.ref 0, .int x] μ (PX (sClerk x s) μ) := by
  refine Con.of pnX4 (Nat.le_of_ble_eq_true rfl) (fun κ => wX4_clerk_0 x μ ⟨fun hb μ1 e1 μ2 e2 => ?_, fun hb => ?_⟩)
  · unfold sClerk
    rw [ifT hb]
    obtain ⟨j, hj, rfl⟩ := fw_of (by decide) hb
    rw [cl (by omega)]
    obtain ⟨⟨⟨a1, a2, a3, a4, a5⟩, c2, c3, c4, c5, c6, c7⟩, -⟩ := id h.1
    have hr : ∀ z, z ≠ 3 → z ≠ 4 → μ2.1 z = μ.1 z := fun z h1 h2 => by rw [e2, ms_row h1, e1, ms_row h2]
    have h4 : ∀ z, z ≠ 0 → μ2.1 4 z = μ.1 4 z := fun z hz => by rw [e2, ms_row (by decide), e1, ms_col hz]
    have h3 : ∀ z, z ≠ 7 → μ2.1 3 z = μ.1 3 z := fun z hz => by rw [e2, ms_col hz, e1, ms_row (by decide)]
    refine px a1 (h.now hok (S := [3, 4]) ⟨⟨?_, by rw [h4 1 (by decide)]; exact a2, by rw [h4 7 (by decide)]; exact a3, fun i hi => ?_, fun c hc => ?_⟩, by rw [h4 6 (by decide)]; exact c2, by rw [h3 2 (by decide)]; exact c3, by rw [h3 4 (by decide)]; exact c4, fun i hi => ?_, fun i hi => ?_, c7.zero (h3 6 (by decide)) (by rw [e2, ms_at]) rfl⟩ (by rw [e2, e1]; exact (Eqx.rf.ms (by simp)).ms (by simp)) (by decide) (fun i hi => by rw [up_ne (by omega), up_ne (by omega)]))
    · rw [e2, ms_row (by decide), e1, ms_at]; rfl
    · rw [hr _ (by decide) (by decide), hr _ (by decide) (by decide), hr _ (by decide) (by decide), up_ne (by omega), up_ne (by omega), up_ne (by omega), up_ne (by omega), up_ne (by omega), up_ne (by omega)]; exact a4 i hi
    · rw [hr _ (by decide) (by decide), up_ne (by omega), up_ne (by omega)]; exact a5 c hc
    · rw [hr _ (by decide) (by decide), up_ne (by omega), up_ne (by omega)]; exact c5 i hi
    · rw [hr _ (by decide) (by decide), up_ne (by omega), up_ne (by omega)]; exact c6 i hi
  · unfold sClerk
    rw [ifF hb]
    exact PX.on (kX4_bad h hok)
theorem mClerk (x : Int32) {μ : Mm} {s : Ln} {n : Nat} (h : RM μ s) (hok : OKs n s) : Con mX5_clerk [.ref 66, .int x] μ (PM (sClerk x s) μ) := by
  refine Con.of pnX5 (Nat.le_of_ble_eq_true rfl) (fun κ => wX5_clerk_0 x μ ⟨fun hb μ1 e1 μ2 e2 => ?_, fun hb => ?_⟩)
  · unfold sClerk
    rw [ifT hb]
    obtain ⟨j, hj, rfl⟩ := fw_of (by decide) hb
    rw [cl (by decide)] at e1 e2
    rw [cl (n := 4) (by decide), cl (n := j) (by omega), h.1 4 (by decide)]
    have hr : ∀ z, z ≠ 67 → μ2.1 z = μ.1 z := fun z hz => by rw [e2, ms_row hz, e1, ms_row hz]
    refine pm rfl (h.now hok (fun i hi => ?_) (fun y hy => hr y (by omega)) (by rw [hr 66 (by decide)]) (by rw [e2, e1]; rfl) (fun i hi => by rw [up_ne (by omega), up_ne (by omega)]))
    rw [e2]
    by_cases h3 : i = 3
    · subst h3; rw [ms_at, up_at]
    · rw [ms_col h3, up_ne h3, e1]
      by_cases h4 : i = 4
      · subst h4; rw [ms_at, up_at]
      · rw [ms_col h4, up_ne h4]; exact h.1 i hi
  · unfold sClerk
    rw [ifF hb]
    exact PM.on (kX5_badR (-2) h)
-- vines
def sVines (x y : Int32) (s : Ln) : Int32 × Ln := if fwith x (nI 0) (nI 19) = true then (if fwith y (nI 0) (nI 9) = true then (nI (s (14 + x.toNatClampNeg)), up (up s (14 + x.toNatClampNeg) y.toNatClampNeg) 3 0) else (-2, rfs s 0)) else (-2, rfs s 0)
theorem EOK.vn {n : Nat} {e e' : Ln} {c y : Nat} (h : EOK n e) (_hc : c < 20) (hy : y ≤ 9) (h1 : e' (9 + c) = y) (ho : ∀ j, j < 29 → j ≠ 9 + c → e' j = e j) : EOK (n + 1) e' := by
  obtain ⟨a1, a2, a3, a4⟩ := h
  refine ⟨by rw [ho 0 (by omega) (by omega)]; omega, ?_, fun i hi => by rw [ho _ (by omega) (by omega)]; exact a3 i hi, fun z hz => ?_⟩
  · have := sm_one (f := fun c => e (9 + c)) (g := fun c => e' (9 + c)) (i := c) (d := 9) (n := 20) (fun z hz hne => ho _ (by omega) (by omega)) (by show e' (9 + c) ≤ e (9 + c) + 9; omega)
    rw [ho 1 (by omega) (by omega)]; omega
  · by_cases e : z = c
    · subst e; omega
    · rw [ho _ (by omega) (by omega)]; exact a4 z hz
theorem oVines (x y : Int32) {s : Ln} {n : Nat} (h : OKs n s) : OKs (n + 1) (sVines x y s).2 := by
  unfold sVines
  cases hb : fwith x (nI 0) (nI 19) with
  | false => exact h.rf (by decide)
  | true =>
    rw [ifT rfl]
    cases hb2 : fwith y (nI 0) (nI 9) with
    | false => exact h.rf (by decide)
    | true =>
      rw [ifT rfl]
      obtain ⟨c, hc, rfl⟩ := fw_of (by decide) hb
      obtain ⟨z, hz, rfl⟩ := fw_of (by decide) hb2
      rw [cl (by omega), cl (by omega)]
      dsimp only
      have ho : ∀ j, j ≠ 3 → j ≠ 14 + c → up (up s (14 + c) z) 3 0 j = s j := fun j h1 h2 => by rw [up_ne h1, up_ne h2]
      obtain ⟨⟨p0, p1, p2, p3, p4⟩, g2, g3, g4, g5, g6⟩ := (h.1)
      refine h.now ⟨⟨by rw [ho _ (by omega) (by omega)]; exact p0, by rw [ho _ (by omega) (by omega)]; exact p1, by rw [ho _ (by omega) (by omega)]; exact p2, by rw [up_at]; omega, by rw [ho _ (by omega) (by omega)]; exact p4⟩, g2.vn (c := c) (by omega) hz ?_ (fun j h1 h2 => ho _ (by omega) (by omega)), fun i hi => ?_, fun r hr => ?_, fun r hr => ?_, fun e he => ((g6 e he).up (Nat.le_succ n)).cg (fun j hj => ho _ (by omega) (by omega))⟩ (fun j hj => ho _ (by omega) (by omega))
      · rw [up_ne (by omega), show 5 + (9 + c) = 14 + c by omega, up_at]
      · rw [ho _ (by omega) (by omega), ho _ (by omega) (by omega)]; exact g3 i hi
      · rw [ho _ (by omega) (by omega), ho _ (by omega) (by omega), ho _ (by omega) (by omega), ho _ (by omega) (by omega)]; exact g4 r hr
      · rw [ho _ (by omega) (by omega), ho _ (by omega) (by omega), ho _ (by omega) (by omega)]; exact g5 r hr
theorem xVines (x y : Int32) {μ : Mm} {s : Ln} {n : Nat} (h : RX μ s) (hok : OKs n s) : Con mX4_vines [.ref 0, .int x, .int y] μ (PX (sVines x y s) μ) := by
  refine Con.of pnX4 (Nat.le_of_ble_eq_true rfl) (fun κ => wX4_vines_0 x y μ ⟨fun hb => ?_, fun hb => ⟨fun hb2 => ?_, fun hb2 => ?_⟩⟩)
  · unfold sVines; rw [ifF hb]; exact PX.on (kX4_bad h hok)
  · unfold sVines
    rw [ifT hb, ifT hb2]
    obtain ⟨c, hc, rfl⟩ := fw_of (by decide) hb
    obtain ⟨z, hz, rfl⟩ := fw_of (by decide) hb2
    rw [cl (by omega), cl (by omega)]
    refine ⟨vin (by omega) (by decide), fun μ4 e4 μ5 e5 => ?_⟩
    obtain ⟨⟨⟨a1, a2, a3, a4, a5⟩, c2, c3, c4, c5, c6, c7⟩, -⟩ := id h.1
    have hh : s 0 ≤ 7 := hok.1.1.1
    have h51 : s 1 ≤ 5 := hok.1.1.2.1
    have h52 : s 2 ≤ 6 := hok.1.1.2.2.1
    have hr : ∀ q, q ≠ 3 → q ≠ 8 → μ5.1 q = μ.1 q := fun q h1 h2 => by rw [e5, ms_row h1, e4, ms_row h2]
    have h3 : ∀ q, q ≠ 7 → μ5.1 3 q = μ.1 3 q := fun q hq => by rw [e5, ms_col hq, e4, ms_row (by decide)]
    have ho : ∀ j, j ≠ 3 → j ≠ 14 + c → up (up s (14 + c) z) 3 0 j = s j := fun j h1 h2 => by rw [up_ne h1, up_ne h2]
    refine px (a5 c (by omega)) (h.now hok (S := [3, 8]) ⟨⟨by rw [hr 4 (by decide) (by decide), ho _ (by omega) (by omega)]; exact a1, by rw [hr 4 (by decide) (by decide), ho _ (by omega) (by omega)]; exact a2, by rw [hr 4 (by decide) (by decide), ho _ (by omega) (by omega)]; exact a3, fun i hi => ?_, fun q hq => ?_⟩, by rw [hr 4 (by decide) (by decide), ho _ (by omega) (by omega)]; exact c2, by rw [h3 2 (by decide), ho _ (by omega) (by omega)]; exact c3, by rw [h3 4 (by decide), ho _ (by omega) (by omega)]; exact c4, fun i hi => ?_, fun i hi => ?_, c7.zero (h3 6 (by decide)) (by rw [e5, ms_at]) (up_at _ _ _)⟩ (by rw [e5, e4]; exact (Eqx.rf.ms (by simp)).ms (by simp)) (by decide) (fun i hi => ho _ (by omega) (by omega)))
    · rw [ho _ (by omega) (by omega)] at hi
      rw [hr _ (by decide) (by decide), hr _ (by decide) (by decide), hr _ (by decide) (by decide), ho _ (by omega) (by omega), ho _ (by omega) (by omega), ho _ (by omega) (by omega)]; exact a4 i hi
    · rw [e5, ms_row (by decide), e4]
      by_cases e : q = c
      · subst e; rw [ms_at, up_ne (by omega), up_at]
      · rw [ms_col e, ho _ (by omega) (by omega)]; exact a5 q hq
    · rw [ho _ (by omega) (by omega)] at hi
      rw [hr _ (by decide) (by decide), ho _ (by omega) (by omega)]; exact c5 i hi
    · rw [ho _ (by omega) (by omega)] at hi
      rw [hr _ (by decide) (by decide), ho _ (by omega) (by omega)]; exact c6 i hi
  · unfold sVines; rw [ifT hb, ifF hb2]; exact PX.on (kX4_bad h hok)
theorem mVines (x y : Int32) {μ : Mm} {s : Ln} {n : Nat} (h : RM μ s) (hok : OKs n s) : Con mX5_vines [.ref 66, .int x, .int y] μ (PM (sVines x y s) μ) := by
  refine Con.of pnX5 (Nat.le_of_ble_eq_true rfl) (fun κ => wX5_vines_0 x y μ ⟨fun hb => ?_, fun hb => ⟨fun hb2 => ?_, fun hb2 => ?_⟩⟩)
  · unfold sVines; rw [ifF hb]; exact PM.on (kX5_badR (-2) h)
  · rw [fwL y (by decide) (by decide)] at hb2
    unfold sVines
    rw [ifT hb, ifT hb2]
    obtain ⟨c, hc, rfl⟩ := fw_of (by decide) hb
    obtain ⟨z, hz, rfl⟩ := fw_of (by decide) hb2
    rw [nI_add, cl (n := 14 + c) (by omega), cl (n := c) (by omega), cl (n := z) (by omega)]
    refine ⟨vin (by omega) (by decide), fun μ4 e4 μ5 e5 => ?_⟩
    rw [cl (by decide)] at e5
    rw [h.1 _ (by omega)]
    have hr : ∀ z, z ≠ 67 → μ5.1 z = μ.1 z := fun z hz => by rw [e5, ms_row hz, e4, ms_row hz]
    refine pm rfl (h.now hok (fun i hi => ?_) (fun y hy => hr y (by omega)) (by rw [hr 66 (by decide)]) (by rw [e5, e4]; rfl) (fun i hi => by rw [up_ne (by omega), up_ne (by omega)]))
    rw [e5]
    by_cases h3 : i = 3
    · subst h3; rw [ms_at, up_at]
    · rw [ms_col h3, up_ne h3, e4]
      by_cases h4 : i = 14 + c
      · subst h4; rw [ms_at, up_at]
      · rw [ms_col h4, up_ne h4]; exact h.1 i hi
  · rw [fwL y (by decide) (by decide)] at hb2
    unfold sVines; rw [ifT hb, ifF hb2]; exact PM.on (kX5_badR (-2) h)
-- has
def sHas (x : Int32) (s : Ln) : Int32 × Ln := if fwith x (nI 0) (nI 19) = true then (nI (s (14 + x.toNatClampNeg)), s) else (-2, rfs s 0)
theorem oHas (x : Int32) {s : Ln} {n : Nat} (h : OKs n s) : OKs (n + 1) (sHas x s).2 := by
  unfold sHas
  cases hb : fwith x (nI 0) (nI 19) with
  | true => rw [ifT rfl]; exact h.up (Nat.le_succ n)
  | false => exact h.rf (by decide)
theorem EqH.rf {μ : Mm} : EqH μ μ := fun _ _ => ⟨rfl, rfl⟩
theorem EqG.rf {μ : Mm} : EqG μ μ := fun _ _ => ⟨rfl, rfl⟩
theorem xHas (x : Int32) {μ : Mm} {s : Ln} {n : Nat} (h : RX μ s) (hok : OKs n s) : Con mX4_has [.ref 0, .int x] μ (PX (sHas x s) μ) := by
  refine Con.of pnX4 (Nat.le_of_ble_eq_true rfl) (fun κ => wX4_has_0 x μ ⟨fun hb => ?_, fun hb => ?_⟩)
  · unfold sHas; rw [ifT hb]
    obtain ⟨j, hj, rfl⟩ := fw_of (by decide) hb
    rw [cl (by omega)]
    exact ⟨vin (by omega) (by decide), px (h.1.1.1.2.2.2.2 j (by omega)) ⟨h, EqH.rf⟩⟩
  · unfold sHas; rw [ifF hb]; exact PX.on (kX4_bad h hok)
theorem mHas (x : Int32) {μ : Mm} {s : Ln} (h : RM μ s) : Con mX5_has [.ref 66, .int x] μ (PM (sHas x s) μ) := by
  refine Con.of pnX5 (Nat.le_of_ble_eq_true rfl) (fun κ => wX5_has_0 x μ ⟨fun hb => ?_, fun hb => ?_⟩)
  · unfold sHas; rw [ifF hb]; exact PM.on (kX5_badR (-2) h)
  · unfold sHas; rw [ifT hb]
    obtain ⟨j, hj, rfl⟩ := fw_of (by decide) hb
    rw [nI_add, cl (by omega), cl (by omega)]
    exact ⟨vin (by omega) (by decide), pm (h.1 _ (by omega)) ⟨h, EqG.rf⟩⟩
