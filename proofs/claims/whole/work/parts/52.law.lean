/-! ===== the law: its rules ===== -/
abbrev mL : Mi := (x, code, 4, ret, 2000)
abbrev lvL (t : Nat) : List (Nat × Value) := [(3, .int (nI (5 * t))), (2, .ref 66), (1, .ref 0), (0, .ref 130)]
/-- the script -/
def ScX (κ : Kx) (L : Nat) (xs : Nat → Int32) : Prop := match κ with
  | (_, _, _, _, s, _, _, _, _, _, wd, A) => va_X (wd.1 130) L xs s s.heap ∧ wd.1 130 < s.heap.size ∧ ¬ A (wd.1 130)
section VL
variable {κ : Kx} {M : Mi} {Qf : State → Prop} {n q pc L : Nat} {xs : Nat → Int32} {lv : List (Nat × Value)} {st : List Value} {μ : Mm}
theorem v_sld {j : Nat} (hX : ScX κ L xs) (hj : j < L) (hL : L ≤ 2560) (hd : decode M.2.1 pc = .ok (.iaload, 1)) (kk : V κ M Qf n q (pc + 1) lv (.int (xs j) :: st) μ) : V κ M Qf n q pc lv (.int (nI j) :: .ref 130 :: st) μ := by
  obtain ⟨p, l, e, R, s, m, args, below, meth, c, wd, A⟩ := κ
  intro hF ls H locs hl hP hD hS
  refine va_sld hF.1 hF.2.1 hX.1 hX.2.1 hX.2.2 hS (vin hj (by omega)) hd ?_
  rw [cl (n := j) (by omega)]
  exact kk hF ls H locs hl hP hD hS
theorem v_sln (hX : ScX κ L xs) (hd : decode M.2.1 pc = .ok (.arraylength, 1)) (kk : V κ M Qf n q (pc + 1) lv (.int (nI L) :: st) μ) : V κ M Qf n q pc lv (.ref 130 :: st) μ := by
  obtain ⟨p, l, e, R, s, m, args, below, meth, c, wd, A⟩ := κ
  intro hF ls H locs hl hP hD hS
  exact va_slen hF.1 hF.2.1 hX.1 hX.2.1 hX.2.2 hS hd (kk hF ls H locs hl hP hD hS)
theorem v_sarg {t : Nat} {d : Int} (k : Nat) (hX : ScX κ L xs) (hj : 5 * t + k < L) (hL : L ≤ 2560) (d0 : decode code pc = .ok (.aload_n 0, 1)) (d1 : decode code (pc + 1) = .ok (.iload_n 3, 1)) (d2 : decode code (pc + 2) = .ok (.iconst d, 1)) (hk : Int32.ofInt d = nI k) (d3 : decode code (pc + 3) = .ok (.iadd, 1)) (d4 : decode code (pc + 4) = .ok (.iaload, 1)) (kk : V κ mL Qf n q (pc + 5) (lvL t) (.int (xs (5 * t + k)) :: st) μ) : V κ mL Qf n q pc (lvL t) st μ := by
  refine v_aload_n 0 d0 rfl rfl (v_iload_n 3 d1 rfl rfl (v_iconst d2 hk (v_iadd d3 ?_)))
  rw [nI_add (5 * t) k]
  exact v_sld hX hj hL d4 kk
end VL
theorem lg_self (v : Int64) : lg_cmp v v = 0 := by
  unfold lg_cmp
  rw [if_neg (fun h => Int64.lt_irrefl h), if_pos rfl]
theorem RM.eqH {μ μ' : Mm} {s : Ln} (h : RM μ s) (e : EqH μ μ') : RM μ' s := by
  obtain ⟨h1, ⟨h2, h3⟩, h4, ⟨h5, h6⟩, h7, h8⟩ := h
  exact ⟨fun j hj => by rw [(e 67 (by omega)).1]; exact h1 j hj, ⟨fun j hj => by rw [(e 68 (by omega)).1]; exact h2 j hj, fun i hi => by rw [(e 69 (by omega)).1]; exact h3 i hi⟩, fun i hi => by rw [(e 70 (by omega)).1]; exact h4 i hi, ⟨by rw [(e 66 (by omega)).2]; exact h5, by rw [(e 66 (by omega)).2]; exact h6⟩, by rw [(e 66 (by omega)).1]; exact h7, fun j hj => by rw [(e 74 (by omega)).1]; exact h8 j hj⟩
theorem RX.eqG {n : Nat} {μ μ' : Mm} {s : Ln} (h : RX μ s) (hok : OKs n s) (e : EqG μ μ') : RX μ' s := by
  obtain ⟨⟨i0, i1, i2, i3, i4, i5, i6⟩, r, f, t⟩ := h
  obtain ⟨o1, o2, o3, -⟩ := hok
  refine ⟨⟨i0.cg o1.1.1 o1.1.2.1 o1.1.2.2.1 o1.1.2.2.2.1 (fun x _ h2 => (e x (by omega)).1) (fun _ _ => rfl), fun z => (i1 z).cg o2.1.1 o2.1.2.1 o2.1.2.2.1 o2.1.2.2.2.1 (fun x _ h2 => (e x (by omega)).1) (fun _ _ => rfl), fun z => (i2 z).cg o3.1.1 o3.1.2.1 o3.1.2.2.1 o3.1.2.2.2.1 (fun x _ h2 => (e x (by omega)).1) (fun _ _ => rfl), by rw [(e 12 (by omega)).1]; exact i3, by rw [(e 21 (by omega)).1]; exact i4, by rw [(e 12 (by omega)).1]; exact i5, by rw [(e 21 (by omega)).1]; exact i6⟩, ⟨by rw [(e 0 (by omega)).1]; exact r.1, by rw [(e 0 (by omega)).1]; exact r.2.1, by rw [(e 0 (by omega)).1]; exact r.2.2⟩, ⟨by rw [(e 0 (by omega)).2]; exact f.1, by rw [(e 0 (by omega)).2]; exact f.2⟩, by rw [(e 59 (by omega)).1]; exact t.1, fun j hj => by rw [(e 60 (by omega)).1]; exact t.2 j hj⟩
