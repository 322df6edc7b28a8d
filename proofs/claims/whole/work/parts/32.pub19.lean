/-! ===== read: what the text tells ===== -/
def spl (x : Tx) (p n : Nat) (l : Nat → Nat) : Bool := decide (tE x p - tS x p = n) && ftA (fun k => decide (x.1 (tS x p + k) = l k)) n
def lIsl (k : Nat) : Nat := if k = 0 then 105 else if k = 1 then 115 else if k = 2 then 108 else if k = 3 then 97 else if k = 4 then 110 else 100
def lVin (k : Nat) : Nat := if k = 0 then 118 else if k = 1 then 105 else if k = 2 then 110 else if k = 3 then 101 else if k = 4 then 115 else 0
def lHil (k : Nat) : Nat := if k = 0 then 104 else if k = 1 then 105 else if k = 2 then 108 else if k = 3 then 108 else 0
def lDay (k : Nat) : Nat := if k = 0 then 100 else if k = 1 then 97 else if k = 2 then 121 else 0
def numb (x : Tx) (p hi : Nat) : Bool := decide (tK x p = 2) && decide (tV x p ≤ hi)
abbrev Pr : Type := Sum Nat (Nat × Ln)
def itV (x : Tx) (p : Nat) (u : Ln) : Pr := if numb x p 19 = true then (if numb x (tE x p) 9 = true then .inr (tE x (tE x p), up u (14 + tV x p) (tV x (tE x p))) else .inl (tS x (tE x p))) else .inl (tS x p)
def itH (x : Tx) (w p : Nat) (u : Ln) : Pr := if u 0 = 7 then .inl w else if numb x p 5 = true then (if (numb x (tE x p) 19 && !tkn u (tV x (tE x p)) (u 0)) = true then (if numb x (tE x (tE x p)) 59 = true then .inr (tE x (tE x (tE x p)), hlF u (tV x p) (tV x (tE x p)) (tV x (tE x (tE x p)))) else .inl (tS x (tE x (tE x p)))) else .inl (tS x (tE x p))) else .inl (tS x p)
def itD (x : Tx) : Nat → Nat → Ln → Pr
  | 0, p, u => .inr (p, u)
  | f + 1, p, u => if tK x p = 2 ∧ (tV x p < u 0 ∨ tV x p = 7) then itD x f (tE x p) (harF u (tV x p)) else if f = 8 then .inl (tS x p) else .inr (p, u)
def item (x : Tx) (p : Nat) (u : Ln) : Pr := if tK x p = 1 then (if spl x p 5 lVin = true then itV x (tE x p) u else if spl x p 4 lHil = true then itH x (tS x p) (tE x p) u else if spl x p 3 lDay = true then itD x 9 (tE x p) u else .inl (tS x p)) else .inl (tS x p)
def rd (x : Tx) : Nat → Nat → Ln → Nat → Sum Nat (Ln × Nat)
  | 0, _, _, _ => .inl 0
  | f + 1, p, u, k => if tK x p = 0 then .inr (u, k) else match item x p u with
    | .inl e => .inl e
    | .inr (q, u') => if tK x q = 3 then rd x f (tE x q) u' (k + 1) else .inl (tS x q)
def rdA (x : Tx) (s : Ln) : Sum Nat (Ln × Nat) := if tK x 0 = 1 ∧ spl x 0 6 lIsl = true then (if numb x (tE x 0) 5 = true then (if tK x (tE x (tE x 0)) = 3 then rd x 151 (tE x (tE x (tE x 0))) (bgF s (tV x (tE x 0))) 1 else .inl (tS x (tE x (tE x 0)))) else .inl (tS x (tE x 0))) else .inl (tS x 0)
def PO (p : Nat) (u : Ln) : Prop := OKL u ∧ (u 1 = 0 ∧ u 2 = 0 ∧ u 3 = 0) ∧ u 5 ≤ p ∧ u 6 + vall u 20 ≤ 20 + 9 * p ∧ ∀ j, 48 ≤ j → j < 86 → u j = 0
theorem PO.up {p q : Nat} {u : Ln} (h : PO p u) (hq : p ≤ q) : PO q u := ⟨h.1, h.2.1, Nat.le_trans h.2.2.1 hq, by have := h.2.2.2.1; omega, h.2.2.2.2⟩
theorem vall_cg {u v : Ln} : ∀ {n : Nat}, (∀ c, c < n → u (14 + c) = v (14 + c)) → vall u n = vall v n
  | 0, _ => rfl
  | n + 1, h => by show vall u n + u (14 + n) = vall v n + v (14 + n); rw [vall_cg (fun c hc => h c (by omega)), h n (by omega)]
theorem vall_put (u : Ln) (c y : Nat) : ∀ n, vall (_root_.id (fun j => if j = 14 + c then y else u j)) n ≤ vall u n + y
  | 0 => Nat.zero_le _
  | n + 1 => by
    have ih := vall_put u c y n
    show vall _ n + (if 14 + n = 14 + c then y else u (14 + n)) ≤ vall u n + u (14 + n) + y
    by_cases e : n = c
    · rw [if_pos (by omega)]
      have : vall (_root_.id (fun j => if j = 14 + c then y else u j)) n = vall u n := vall_cg (fun d hd => by show (if 14 + d = 14 + c then y else u (14 + d)) = _; rw [if_neg (by omega)])
      rw [this]; omega
    · rw [if_neg (by omega)]; omega
theorem PO_vn {p c y : Nat} {u : Ln} (h : PO p u) (hc : c < 20) (hy : y ≤ 9) : PO (p + 1) (up u (14 + c) y) := by
  obtain ⟨⟨h0, h4, h5, h6, h7⟩, ⟨a1, a2, a3⟩, b, d, e⟩ := h
  have hv : vall (up u (14 + c) y) 20 ≤ vall u 20 + y := vall_put u c y 20
  refine ⟨⟨by rw [up_ne (by omega)]; exact h0, by rw [up_ne (by omega)]; exact h4, by rw [up_ne (by omega)]; exact h5, fun i hi => by rw [up_ne (by omega), up_ne (by omega), up_ne (by omega)]; exact h6 i hi, fun i hi => ?_⟩, ⟨by rw [up_ne (by omega)]; exact a1, by rw [up_ne (by omega)]; exact a2, by rw [up_ne (by omega)]; exact a3⟩, by rw [up_ne (by omega)]; omega, by rw [up_ne (by omega)]; omega, fun j h1 h2 => by rw [up_ne (by omega)]; exact e j h1 h2⟩
  by_cases z : i = c
  · rw [z, up_at]; exact hy
  · rw [up_ne (by omega)]; exact h7 i hi
theorem PO_hl {p k c z : Nat} {u : Ln} (h : PO p u) (hu : u 0 < 7) (hk : k < 6) (hc : c < 20) (hz : z < 60) : PO p (hlF u k c z) := by
  obtain ⟨⟨h0, h4, h5, h6, h7⟩, ⟨a1, a2, a3⟩, b, d, e⟩ := h
  have o : ∀ j, j ≠ 0 → j ≠ 3 → j ≠ 7 + u 0 → j ≠ 41 + u 0 → j ≠ 34 + u 0 → hlF u k c z j = u j := fun j g0 g3 g7 g41 g34 => hl_o g0 g3 g7 g41 g34
  have hv : vall (hlF u k c z) 20 = vall u 20 := vall_cg (fun i hi => o _ (by omega) (by omega) (by omega) (by omega) (by omega))
  refine ⟨⟨by show u 0 + 1 ≤ 7; omega, by rw [o 4 (by omega) (by omega) (by omega) (by omega) (by omega)]; exact h4, by rw [o 5 (by omega) (by omega) (by omega) (by omega) (by omega)]; exact h5, fun i hi => ?_, fun i hi => by rw [o _ (by omega) (by omega) (by omega) (by omega) (by omega)]; exact h7 i hi⟩, ⟨by rw [o 1 (by omega) (by omega) (by omega) (by omega) (by omega)]; exact a1, by rw [o 2 (by omega) (by omega) (by omega) (by omega) (by omega)]; exact a2, ?_⟩, by rw [o 5 (by omega) (by omega) (by omega) (by omega) (by omega)]; exact b, by rw [o 6 (by omega) (by omega) (by omega) (by omega) (by omega), hv]; exact d, fun j h1 h2 => by rw [o j (by omega) (by omega) (by omega) (by omega) (by omega)]; exact e j h1 h2⟩
  · by_cases ei : i = u 0
    · subst ei
      unfold hlF
      refine ⟨?_, ?_, ?_⟩
      · rw [if_neg (by omega), if_pos rfl]; exact hz
      · rw [if_neg (by omega), if_neg (by omega), if_neg (by omega), if_pos rfl]; exact hk
      · rw [if_neg (by omega), if_neg (by omega), if_pos rfl]; exact hc
    · rw [o _ (by omega) (by omega) (by omega) (by omega) (by omega), o _ (by omega) (by omega) (by omega) (by omega) (by omega), o _ (by omega) (by omega) (by omega) (by omega) (by omega)]; exact h6 i hi
  · unfold hlF
    rw [if_neg (by decide), if_neg (by omega), if_neg (by omega), if_neg (by omega), if_pos rfl]
theorem PO_dy {p v : Nat} {u : Ln} (h : PO p u) (hp : p ≤ 1000) : PO (p + 1) (harF u v) := by
  obtain ⟨hu, ⟨a1, a2, a3⟩, b, d, e⟩ := h
  have h0 := hu.1
  have hs := pass_sum h0 v
  obtain ⟨g0, g4, g5, g6, g7⟩ := pass_ok hu (by omega) v
  have h5 := pass_5 h0 v
  have hv : vall (harF u v) 20 = vall (pasL u v) 20 := vall_cg (fun i hi => by unfold harF; rw [up_ne (by omega)])
  have o : ∀ j, j ≠ 6 → harF u v j = pasL u v j := fun j hj => by unfold harF; rw [up_ne hj]
  have o6 : harF u v 6 = u 6 + pasN u v := by unfold harF; rw [up_at]
  refine ⟨⟨by rw [o 0 (by decide)]; exact g0, by rw [o 4 (by decide)]; exact g4, by rw [o 5 (by decide)]; exact g5, fun i hi => by rw [o _ (by omega), o _ (by omega), o _ (by omega)]; exact g6 i hi, fun i hi => by rw [o _ (by omega)]; exact g7 i hi⟩, ⟨by rw [har_lo h0 (by decide)]; exact a1, by rw [har_lo h0 (by decide)]; exact a2, by rw [har_lo h0 (by decide)]; exact a3⟩, by rw [o 5 (by decide), h5]; omega, by rw [o6, hv]; omega, fun j h1 h2 => by rw [har_hi h0 (by omega)]; exact e j h1 h2⟩
theorem PO_bg {s : Ln} {x p : Nat} (hx : x < 6) : PO p (bgF s x) := by
  have e : ∀ j, j < 86 → bgF s x j = bgn x j := fun j hj => if_pos hj
  have hv : vall (bgF s x) 20 = 20 := by
    rw [vall_cg (v := fun _ => 1) (fun c hc => by rw [e _ (by omega)]; unfold bgn; rw [if_neg (by omega), if_pos (by omega)])]; rfl
  refine ⟨⟨by rw [e 0 (by omega)]; exact Nat.zero_le 7, by rw [e 4 (by omega)]; exact hx, by rw [e 5 (by omega)]; show (0 : Nat) < _; decide, fun i hi => ?_, fun i hi => ?_⟩, ⟨by rw [e 1 (by omega)]; rfl, by rw [e 2 (by omega)]; rfl, by rw [e 3 (by omega)]; rfl⟩, by rw [e 5 (by omega)]; exact Nat.zero_le _, by rw [e 6 (by omega), hv]; show 0 + 20 ≤ _; omega, fun j h1 h2 => ?_⟩
  · rw [e _ (by omega), e _ (by omega), e _ (by omega)]
    unfold bgn
    rw [if_neg (by omega), if_neg (by omega), if_neg (by omega), if_neg (by omega), if_neg (by omega), if_neg (by omega)]
    exact ⟨by decide, by decide, by decide⟩
  · rw [e _ (by omega)]; unfold bgn; rw [if_neg (by omega), if_pos (by omega)]; decide
  · rw [e j h2]; unfold bgn; rw [if_neg (by omega), if_neg (by omega)]
/-- the state after a text was read -/
def rdF (u s : Ln) : Ln := fun j => if j < 86 then u j else s j
theorem PO_sok {n : Nat} {u s : Ln} (h : PO 150 u) (hs : SOK n s) : SOK n (rdF u s) := by
  obtain ⟨⟨h0, h4, h5, h6, h7⟩, ⟨a1, a2, a3⟩, b, d, e⟩ := h
  obtain ⟨-, -, -, -, -, g6⟩ := hs
  have o : ∀ j, j < 86 → rdF u s j = u j := fun j hj => if_pos hj
  refine ⟨⟨by rw [o _ (by omega)]; exact h0, by rw [o _ (by omega), a1]; decide, by rw [o _ (by omega), a2]; decide, by rw [o _ (by omega), a3]; decide, by rw [o _ (by omega)]; exact h4⟩, ⟨?_, ?_, fun i hi => ?_, fun c hc => ?_⟩, fun i hi => by rw [o _ (by omega), o _ (by omega)]; exact (h6 i hi).2, fun r hr => ?_, fun r hr => ?_, fun q hq => (g6 q hq).cg (fun j hj => if_neg (by omega))⟩
  · show rdF u s 5 ≤ _; rw [o _ (by omega)]; omega
  · show rdF u s 6 + sm (fun c => rdF u s (5 + (9 + c))) 20 ≤ _
    rw [o 6 (by omega), sm_cg (g := fun c => u (5 + (9 + c))) (fun c hc => o _ (by omega)), sm_vall]; omega
  · show rdF u s (5 + (2 + i)) < 60; rw [o _ (by omega), show 5 + (2 + i) = 7 + i by omega]; exact (h6 i hi).1
  · show rdF u s (5 + (9 + c)) ≤ 9; rw [o _ (by omega), show 5 + (9 + c) = 14 + c by omega]; exact h7 c hc
  · rw [o _ (by omega), o _ (by omega), o _ (by omega), o _ (by omega), e _ (by omega) (by omega), e _ (by omega) (by omega), e _ (by omega) (by omega), e _ (by omega) (by omega)]; decide
  · rw [o _ (by omega), o _ (by omega), o _ (by omega), e _ (by omega) (by omega), e _ (by omega) (by omega), e _ (by omega) (by omega)]; decide
