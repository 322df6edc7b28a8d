/-! ===== the first memory, the first state ===== -/
def vineC (k : Nat) : Bool := [8, 17, 26, 38, 43, 48, 53, 58, 65].elem k
def mu0 : Mm := (fun k => match vineC k with
  | true => fun _ => 1
  | false => match Nat.beq k 67 with
    | true => gAll
    | false => fun _ => 0, fun k j => match (Nat.beq k 0 && Nat.beq j 8) || (Nat.beq k 66 && Nat.beq j 5) with
  | true => 1
  | false => 0)
def st0 : Ln := fun j => if (14 ≤ j ∧ j < 34) ∨ j = 2021 then 1 else 0
theorem st0_le (j : Nat) : st0 j ≤ 1 := by unfold st0; split <;> omega
theorem st0_0 {j : Nat} (h : ¬ ((14 ≤ j ∧ j < 34) ∨ j = 2021)) : st0 j = 0 := if_neg h
theorem st0_1 {j : Nat} (h : (14 ≤ j ∧ j < 34) ∨ j = 2021) : st0 j = 1 := if_pos h
theorem sm_le1 {f : Nat → Nat} (h : ∀ c, f c ≤ 1) : ∀ n, sm f n ≤ n
  | 0 => Nat.le_refl _
  | n + 1 => by
    have h1 := sm_le1 h n
    have h2 := h n
    show sm f n + f n ≤ n + 1
    omega
theorem EOK_0 {e : Ln} (h : ∀ j, e j ≤ 1) : EOK 0 e := by
  have h0 := h 0
  have h1 := h 1
  have z := sm_le1 (f := fun c => e (9 + c)) (fun c => h _) 20
  exact ⟨by omega, by omega, fun i _ => by have := h (2 + i); omega, fun c _ => by have := h (9 + c); omega⟩
theorem SOK_0 {a : Ln} (h : ∀ j, a j ≤ 1) : SOK 0 a := by
  have h0 := h 0
  have h1 := h 1
  have h2 := h 2
  have h3 := h 3
  have h4 := h 4
  refine ⟨⟨by omega, by omega, by omega, by omega, by omega⟩, EOK_0 (fun j => h _), fun i _ => ⟨?_, ?_⟩, fun r _ => ⟨?_, ?_, ?_, ?_⟩, fun r _ => ⟨?_, ?_, ?_⟩, fun e _ => EOK_0 (fun j => h _)⟩
  · have := h (34 + i); omega
  · have := h (41 + i); omega
  · have := h (48 + 4 * r); omega
  · have := h (48 + 4 * r + 1); omega
  · have := h (48 + 4 * r + 2); omega
  · have := h (48 + 4 * r + 3); omega
  · have := h (68 + 3 * r); omega
  · have := h (68 + 3 * r + 1); omega
  · have := h (68 + 3 * r + 2); omega
theorem okF0 : OKs 0 st0 := by
  refine ⟨SOK_0 st0_le, SOK_0 (fun j => st0_le _), SOK_0 (fun j => st0_le _), ⟨st0_le _, st0_le _⟩, fun i hi => ?_, ⟨?_, ?_, ?_⟩, ?_, fun j hj => ?_⟩
  · rw [st0_0 (by omega)]; exact Nat.le_refl 0
  · have := st0_le 2020; omega
  · rw [st0_1 (Or.inr rfl)]; exact Nat.le_refl 1
  · have := st0_le 2021; omega
  · have := st0_le 2030; omega
  · rw [st0_0 (by omega)] at hj; omega
theorem st0_St : St mu0 3 st0 := by
  refine ⟨⟨by decide, by decide, by decide, fun i hi => ?_, fun c hc => ?_⟩, by decide, by decide, by decide, fun j hj => ?_, fun j hj => ?_, 0, by decide, by decide, by decide, fun e he => ?_⟩
  · rw [st0_0 (by omega)] at hi; omega
  · rw [st0_1 (by omega)]; rfl
  · rw [st0_0 (by omega)] at hj; omega
  · rw [st0_0 (by omega)] at hj; omega
  · rw [st0_0 (by omega)] at he; omega
theorem rxF0 : RX mu0 st0 := by
  refine ⟨⟨st0_St, fun z => ?_, fun z => ?_, by decide, by decide, ⟨0, by decide, by decide⟩, 0, by decide, by decide⟩, ⟨by decide, by decide, by decide⟩, ⟨by decide, by decide⟩, by decide, fun j hj => ?_⟩
  · rw [st0_0 (by omega)] at z; omega
  · rw [st0_0 (by omega)] at z; omega
  · rw [st0_0 (by omega)] at hj; omega
theorem rmF0 : RM mu0 st0 := by
  refine ⟨fun j hj => ?_, ⟨fun j hj => ?_, fun i hi => ?_⟩, fun i hi => ?_, ⟨by decide, by decide⟩, by decide, fun j hj => ?_⟩
  · show gAll j = nI (st0 j)
    unfold gAll
    by_cases c : 14 ≤ j ∧ j < 34
    · rw [if_pos c, st0_1 (Or.inl c)]; rfl
    · rw [if_neg c, st0_0 (by omega)]; rfl
  · rw [st0_0 (by omega)]; rfl
  · rw [st0_0 (by omega)]; rfl
  · rw [st0_0 (by omega)]; rfl
  · rw [st0_0 (by omega)] at hj; omega
