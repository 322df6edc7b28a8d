/-! ===== the cells, out of what the constructors made ===== -/
def adW (a a1 a2 : Nat) (s1 s2 s3 u r g kK kV : Nat → Nat) (t0 b : Nat) : Nat → Nat := fun k => if k = 0 then a else if k = 1 then a1 else if k = 2 then a2 else if k < 12 then s1 (k - 3) else if k < 21 then s2 (k - 12) else if k < 30 then s3 (k - 21) else if k < 59 then u (k - 30) else if k < 66 then r (k - 59) else if k < 77 then g (k - 66) else if k < 110 then kK (k - 100) else if k < 120 then kV (k - 110) else if k = 120 then t0 else b
def plW (k : Nat) : Nat := if k = 0 then 0 else if k = 1 then 64 else if k = 2 then 65 else if k < 66 then k - 2 else if k = 66 then 66 else if k = 67 then 76 else k - 1
section WC
variable {D : va_G} {cI cZ cL : ClassId} {f : Nat → Option Nat} {a a1 a2 : Nat} {s1 s2 s3 u r g kK kV : Nat → Nat} {t0 b : Nat}
set_option maxRecDepth 20000 in
theorem wcell : ∀ k, k < 77 → ∃ e : va_E, (slV cI cL f a s1 s2 s3 u r a1 a2 ++ moV cI cZ g)[plW k]? = some (adW a a1 a2 s1 s2 s3 u r g kK kV t0 b k, e) ∧ (k ≠ 31 → e = celE (adW a a1 a2 s1 s2 s3 u r g kK kV t0 b, D, cI, cZ, cL) mu0 k (shp k)) := fun k hk => match k, hk with
  | 0, _ => ⟨_, rfl, fun _ => rfl⟩
  | 1, _ => ⟨_, rfl, fun _ => rfl⟩
  | 2, _ => ⟨_, rfl, fun _ => rfl⟩
  | 3, _ => ⟨_, rfl, fun _ => rfl⟩
  | 4, _ => ⟨_, rfl, fun _ => rfl⟩
  | 5, _ => ⟨_, rfl, fun _ => rfl⟩
  | 6, _ => ⟨_, rfl, fun _ => rfl⟩
  | 7, _ => ⟨_, rfl, fun _ => rfl⟩
  | 8, _ => ⟨_, rfl, fun _ => rfl⟩
  | 9, _ => ⟨_, rfl, fun _ => rfl⟩
  | 10, _ => ⟨_, rfl, fun _ => rfl⟩
  | 11, _ => ⟨_, rfl, fun _ => rfl⟩
  | 12, _ => ⟨_, rfl, fun _ => rfl⟩
  | 13, _ => ⟨_, rfl, fun _ => rfl⟩
  | 14, _ => ⟨_, rfl, fun _ => rfl⟩
  | 15, _ => ⟨_, rfl, fun _ => rfl⟩
  | 16, _ => ⟨_, rfl, fun _ => rfl⟩
  | 17, _ => ⟨_, rfl, fun _ => rfl⟩
  | 18, _ => ⟨_, rfl, fun _ => rfl⟩
  | 19, _ => ⟨_, rfl, fun _ => rfl⟩
  | 20, _ => ⟨_, rfl, fun _ => rfl⟩
  | 21, _ => ⟨_, rfl, fun _ => rfl⟩
  | 22, _ => ⟨_, rfl, fun _ => rfl⟩
  | 23, _ => ⟨_, rfl, fun _ => rfl⟩
  | 24, _ => ⟨_, rfl, fun _ => rfl⟩
  | 25, _ => ⟨_, rfl, fun _ => rfl⟩
  | 26, _ => ⟨_, rfl, fun _ => rfl⟩
  | 27, _ => ⟨_, rfl, fun _ => rfl⟩
  | 28, _ => ⟨_, rfl, fun _ => rfl⟩
  | 29, _ => ⟨_, rfl, fun _ => rfl⟩
  | 30, _ => ⟨_, rfl, fun _ => rfl⟩
  | 31, _ => ⟨_, rfl, fun h => absurd rfl h⟩
  | 32, _ => ⟨_, rfl, fun _ => rfl⟩
  | 33, _ => ⟨_, rfl, fun _ => rfl⟩
  | 34, _ => ⟨_, rfl, fun _ => rfl⟩
  | 35, _ => ⟨_, rfl, fun _ => rfl⟩
  | 36, _ => ⟨_, rfl, fun _ => rfl⟩
  | 37, _ => ⟨_, rfl, fun _ => rfl⟩
  | 38, _ => ⟨_, rfl, fun _ => rfl⟩
  | 39, _ => ⟨_, rfl, fun _ => rfl⟩
  | 40, _ => ⟨_, rfl, fun _ => rfl⟩
  | 41, _ => ⟨_, rfl, fun _ => rfl⟩
  | 42, _ => ⟨_, rfl, fun _ => rfl⟩
  | 43, _ => ⟨_, rfl, fun _ => rfl⟩
  | 44, _ => ⟨_, rfl, fun _ => rfl⟩
  | 45, _ => ⟨_, rfl, fun _ => rfl⟩
  | 46, _ => ⟨_, rfl, fun _ => rfl⟩
  | 47, _ => ⟨_, rfl, fun _ => rfl⟩
  | 48, _ => ⟨_, rfl, fun _ => rfl⟩
  | 49, _ => ⟨_, rfl, fun _ => rfl⟩
  | 50, _ => ⟨_, rfl, fun _ => rfl⟩
  | 51, _ => ⟨_, rfl, fun _ => rfl⟩
  | 52, _ => ⟨_, rfl, fun _ => rfl⟩
  | 53, _ => ⟨_, rfl, fun _ => rfl⟩
  | 54, _ => ⟨_, rfl, fun _ => rfl⟩
  | 55, _ => ⟨_, rfl, fun _ => rfl⟩
  | 56, _ => ⟨_, rfl, fun _ => rfl⟩
  | 57, _ => ⟨_, rfl, fun _ => rfl⟩
  | 58, _ => ⟨_, rfl, fun _ => rfl⟩
  | 59, _ => ⟨_, rfl, fun _ => rfl⟩
  | 60, _ => ⟨_, rfl, fun _ => rfl⟩
  | 61, _ => ⟨_, rfl, fun _ => rfl⟩
  | 62, _ => ⟨_, rfl, fun _ => rfl⟩
  | 63, _ => ⟨_, rfl, fun _ => rfl⟩
  | 64, _ => ⟨_, rfl, fun _ => rfl⟩
  | 65, _ => ⟨_, rfl, fun _ => rfl⟩
  | 66, _ => ⟨_, rfl, fun _ => rfl⟩
  | 67, _ => ⟨_, rfl, fun _ => rfl⟩
  | 68, _ => ⟨_, rfl, fun _ => rfl⟩
  | 69, _ => ⟨_, rfl, fun _ => rfl⟩
  | 70, _ => ⟨_, rfl, fun _ => rfl⟩
  | 71, _ => ⟨_, rfl, fun _ => rfl⟩
  | 72, _ => ⟨_, rfl, fun _ => rfl⟩
  | 73, _ => ⟨_, rfl, fun _ => rfl⟩
  | 74, _ => ⟨_, rfl, fun _ => rfl⟩
  | 75, _ => ⟨_, rfl, fun _ => rfl⟩
  | 76, _ => ⟨_, rfl, fun _ => rfl⟩
  | k + 77, h => absurd h (by omega)
theorem plW_inj : ∀ i, i < 77 → ∀ j, j < 77 → plW i = plW j → i = j := by
  intro i hi j hj e
  unfold plW at e
  repeat' split at e
  all_goals omega
theorem world_D {A : Nat → Prop} (h : va_D A (slV cI cL f a s1 s2 s3 u r a1 a2 ++ moV cI cZ g)) : va_D A (cells (adW a a1 a2 s1 s2 s3 u r g kK kV t0 b, D, cI, cZ, cL) mu0) := by
  have at' : ∀ (k : Nat) (x : Nat × va_E), (cells (adW a a1 a2 s1 s2 s3 u r g kK kV t0 b, D, cI, cZ, cL) mu0)[k]? = some x → k < 77 ∧ ∃ e, (slV cI cL f a s1 s2 s3 u r a1 a2 ++ moV cI cZ g)[plW k]? = some (x.1, e) := by
    intro k x hx
    have hk : k < 77 := by
      have := (List.getElem?_eq_some_iff.mp hx).1
      unfold cells at this
      rw [List.length_map, List.length_range] at this
      exact this
    rw [cells_get _ _ hk] at hx
    cases hx
    obtain ⟨e, h1, -⟩ := wcell (D := D) (cI := cI) (cZ := cZ) (cL := cL) (f := f) (a := a) (a1 := a1) (a2 := a2) (s1 := s1) (s2 := s2) (s3 := s3) (u := u) (r := r) (g := g) (kK := kK) (kV := kV) (t0 := t0) (b := b) k hk
    exact ⟨hk, e, h1⟩
  refine ⟨fun i j x y hx hy e => ?_, fun k x hx => ?_⟩
  · obtain ⟨hi, e1, h1⟩ := at' i x hx
    obtain ⟨hj, e2, h2⟩ := at' j y hy
    exact plW_inj i hi j hj (h.1 _ _ _ _ h1 h2 e)
  · obtain ⟨hi, e1, h1⟩ := at' k x hx
    exact h.2 _ (x.1, e1) h1
theorem world_P {H : Heap} (hf : ∀ d, d < 5 → f d = some (u (4 + 5 * d))) (h : va_P D vwCl (slV cI cL f a s1 s2 s3 u r a1 a2 ++ moV cI cZ g) H) : va_P D vwCl (cells (adW a a1 a2 s1 s2 s3 u r g kK kV t0 b, D, cI, cZ, cL) mu0) H := by
  intro k x hx
  have hk : k < 77 := by
    have := (List.getElem?_eq_some_iff.mp hx).1
    unfold cells at this
    rw [List.length_map, List.length_range] at this
    exact this
  rw [cells_get _ _ hk] at hx
  cases hx
  obtain ⟨e, h1, h2⟩ := wcell (D := D) (cI := cI) (cZ := cZ) (cL := cL) (f := f) (a := a) (a1 := a1) (a2 := a2) (s1 := s1) (s2 := s2) (s3 := s3) (u := u) (r := r) (g := g) (kK := kK) (kV := kV) (t0 := t0) (b := b) k hk
  by_cases h31 : k = 31
  · subst h31
    have z : H[u 1]? = some (arrV cL 5 (fun j => va_rf (f j))) := h 29 _ rfl
    show H[u 1]? = some (arrV cL 5 (fun j => va_rf (some (adW a a1 a2 s1 s2 s3 u r g kK kV t0 b (31 + 3 + 5 * j)))))
    rw [z]
    refine congrArg some (arrV_cg (fun j hj => ?_))
    rw [hf j hj]
    rcases (show j = 0 ∨ j = 1 ∨ j = 2 ∨ j = 3 ∨ j = 4 by omega) with rfl | rfl | rfl | rfl | rfl <;> rfl
  · have z := h _ _ h1
    rw [h2 h31] at z
    exact z
end WC
