/-! ===== read, the class's side: items ===== -/
def FX (μ0 μ : Mm) : Prop := μ.2 = μ0.2 ∧ (∀ c, c ≠ 59 → (c < 61 ∨ 65 < c) → μ.1 c = μ0.1 c) ∧ μ.1 59 1 = μ0.1 59 1
def SP (x : Tx) (μ0 μ : Mm) (p : Nat) (u : Ln) (it : Nat) : Prop := XX x μ ∧ μ.1 59 2 = nI p ∧ LX μ 61 u ∧ μ.1 61 6 = nI (u 6) ∧ μ.1 59 6 = nI it ∧ FX μ0 μ
theorem FX.tn {μ0 μ μ' : Mm} (h : FX μ0 μ) (g : TN μ μ') : FX μ0 μ' := ⟨g.1.trans h.1, fun c h1 h2 => (g.2.1 c h1).trans (h.2.1 c h1 h2), g.2.2.1.trans h.2.2⟩
theorem SP.tn {x : Tx} {μ0 μ μ' : Mm} {p it : Nat} {u : Ln} (h0 : u 0 ≤ 7) (h : SP x μ0 μ p u it) (hT : XT x μ' p) (g : TN μ μ') : SP x μ0 μ' (tE x p) u it := ⟨h.1.tn g, hT.1, h.2.2.1.cg h0 (fun z h1 h2 => g.2.1 z (by omega)) (fun _ _ => rfl), by rw [g.2.1 61 (by decide)]; exact h.2.2.2.1, by rw [g.2.2.2]; exact h.2.2.2.2.1, h.2.2.2.2.2.tn g⟩
theorem xK_4 {x : Tx} {p : Nat} : xK x p ≤ 4 := by
  have := tK_4 (x := x) (p := p)
  unfold xK; repeat' split
  all_goals omega
theorem xK_n {x : Tx} {p k : Nat} (h1 : k ≠ 1) (h4 : k ≠ 4) : xK x p = k ↔ tK x p = k := by
  unfold xK
  by_cases e : tK x p = 1
  · rw [if_pos e]
    split <;> omega
  · rw [if_neg e]
theorem kX2_sn (hW : TWC) {x : Tx} {μ : Mm} {p hi : Nat} (hx : XX x μ) (hp : p ≤ x.2) (h2 : μ.1 59 2 = nI p) (hh : hi < 100) : Con mX2_stepToNumber [.ref 59, .int (nI hi)] μ (fun r μ' => r = some (.int (bI (numb x p hi))) ∧ XT x μ' p ∧ TN μ μ') := by
  have hk := xK_4 (x := x) (p := p)
  refine Con.of pnX2 (Nat.le_of_ble_eq_true rfl) (fun κ => wX2_stepToNumber_0 _ μ ?_)
  refine (kX2_step hW hx hp h2).mono ?_
  rintro r μ1 ⟨rfl, g1, g2⟩
  refine ⟨rfl, ?_⟩
  rw [g1.2.1, nIe (by omega) (by decide)]
  refine ⟨fun z => ⟨?_, g1, g2⟩, fun z => ?_⟩
  · have e : numb x p hi = false := by unfold numb; rw [decide_eq_false (fun y => z ((xK_n (by decide) (by decide)).mpr y))]; rfl
    rw [e]
  · have k2 := (xK_n (x := x) (p := p) (k := 2) (by decide) (by decide)).mp z
    have hv := tV_b (fun j hj => (hx.2.2 j hj).2) hp k2
    rw [g1.2.2.2.2 z, nIlt (by omega) (by omega)]
    refine ⟨fun y => ⟨?_, g1, g2⟩, fun y => ⟨?_, g1, g2⟩⟩
    · have e : numb x p hi = false := by unfold numb; rw [decide_eq_false (p := tV x p ≤ hi) (by omega), Bool.and_false]
      rw [e]
    · have e : numb x p hi = true := by unfold numb; rw [decide_eq_true k2, decide_eq_true (p := tV x p ≤ hi) (by omega)]; rfl
      rw [e]
/-- the end of an item, at the token from q -/
def EP (x : Tx) (μ0 : Mm) (q : Nat) (u : Ln) (it : Nat) : Option Value → Mm → Prop := fun r μ' => (tK x q = 3 ∧ r = some (.int (bI true)) ∧ SP x μ0 μ' (tE x q) u (it + 1)) ∨ (tK x q ≠ 3 ∧ r = some (.int (bI false)) ∧ μ'.1 59 5 = nI (tS x q) ∧ FX μ0 μ')
def IX (x : Tx) (μ0 : Mm) (it : Nat) (pr : Pr) : Option Value → Mm → Prop := fun r μ' => match pr with
  | .inl e => r = some (.int (bI false)) ∧ μ'.1 59 5 = nI e ∧ FX μ0 μ'
  | .inr (q, u) => EP x μ0 q u it r μ'
theorem kX2_ends {x : Tx} {μ0 μ : Mm} {q it : Nat} {u : Ln} (h0 : u 0 ≤ 7) (hS : SP x μ0 μ (tE x q) u it) (hT : XT x μ q) : Con mX2_endsItem [.ref 59] μ (EP x μ0 q u it) := by
  have hk := xK_4 (x := x) (p := q)
  obtain ⟨a1, a2, a3, a4, a5, a6⟩ := hS
  refine Con.of pnX2 (Nat.le_of_ble_eq_true rfl) (fun κ => wX2_endsItem_0 μ ?_)
  rw [hT.2.1, nIe (by omega) (by decide), xK_n (by decide) (by decide), a5, nI_add]
  refine ⟨fun z μ1 e1 => Or.inl ⟨z, rfl, ⟨a1.1, by rw [e1, ms_col (by decide)]; exact a1.2.1, fun j hj => by rw [e1, ms_row (by decide)]; exact a1.2.2 j hj⟩, by rw [e1, ms_col (by decide)]; exact a2, a3.cg h0 (fun z h1 h2 => by rw [e1, ms_row (by omega)]) (fun _ _ => rfl), by rw [e1, ms_row (by decide)]; exact a4, by rw [e1, ms_at], by rw [e1]; exact a6.1, fun c h1 h2 => by rw [e1, ms_row h1]; exact a6.2.1 c h1 h2, by rw [e1, ms_col (by decide)]; exact a6.2.2⟩, fun z => Or.inr ⟨z, rfl, hT.2.2.1, a6⟩⟩
theorem EP.b {x : Tx} {μ0 μ' : Mm} {q it : Nat} {u : Ln} {r : Option Value} (h : EP x μ0 q u it r μ') : ∃ b : Bool, r = some (.int (bI b)) ∧ EP x μ0 q u it (some (.int (bI b))) μ' := by
  rcases h with ⟨h1, h2, h3⟩ | ⟨h1, h2, h3⟩
  · exact ⟨true, h2, Or.inl ⟨h1, rfl, h3⟩⟩
  · exact ⟨false, h2, Or.inr ⟨h1, rfl, h3⟩⟩
theorem kX2_sEnd (hW : TWC) {x : Tx} {μ0 μ : Mm} {q it : Nat} {u : Ln} (h0 : u 0 ≤ 7) (hq : q ≤ x.2) (hS : SP x μ0 μ q u it) : Con mX2_stepToEndOfItem [.ref 59] μ (EP x μ0 q u it) := by
  refine Con.of pnX2 (Nat.le_of_ble_eq_true rfl) (fun κ => wX2_stepToEndOfItem_0 μ ?_)
  refine (kX2_step hW hS.1 hq hS.2.1).mono ?_
  rintro r μ1 ⟨rfl, g1, g2⟩
  exact ⟨rfl, (kX2_ends h0 (hS.tn h0 g1 g2) g1).mono (fun r μ2 h2 => h2.b)⟩
theorem kX2_vin (hW : TWC) {x : Tx} {μ0 μ : Mm} {p it P : Nat} {u : Ln} (hp : p ≤ x.2) (hPO : PO P u) (hS : SP x μ0 μ p u it) : Con mX2_readVines [.ref 59] μ (IX x μ0 it (itV x p u)) := by
  have h0 := hPO.1.1
  refine Con.of pnX2 (Nat.le_of_ble_eq_true rfl) (fun κ => wX2_readVines_0 μ ?_)
  refine (kX2_sn hW hS.1 hp hS.2.1 (by decide)).mono ?_
  rintro r μ1 ⟨rfl, g1, t1⟩
  have S1 := hS.tn h0 g1 t1
  have p1 := tE_le hp
  refine ⟨_, rfl, fun z => ?_, fun z => ?_⟩
  · refine (kX2_sn hW S1.1 p1 S1.2.1 (by decide)).mono ?_
    rintro r μ2 ⟨rfl, g2, t2⟩
    have S2 := S1.tn h0 g2 t2
    refine ⟨_, rfl, fun y => ?_, fun y => ?_⟩
    · obtain ⟨k1, v1⟩ := numb_t z
      obtain ⟨k2, v2⟩ := numb_t y
      rw [g1.2.2.2.2 ((xK_n (by decide) (by decide)).mpr k1), g2.2.2.2.2 ((xK_n (by decide) (by decide)).mpr k2), cl (n := tV x p) (by omega)]
      refine ⟨vin (by omega) (by decide), fun μ3 e3 => ?_⟩
      obtain ⟨a1, a2, a3, a4, a5, a6⟩ := S2
      obtain ⟨b1, b2, b3, b4, b5⟩ := a3
      have S3 : SP x μ0 μ3 (tE x (tE x p)) (up u (14 + tV x p) (tV x (tE x p))) it := by
        refine ⟨⟨a1.1, by rw [e3, ms_row (by decide)]; exact a1.2.1, fun j hj => by rw [e3, ms_row (by decide)]; exact a1.2.2 j hj⟩, by rw [e3, ms_row (by decide)]; exact a2, ⟨by rw [e3, ms_row (by decide), up_ne (by omega)]; exact b1, by rw [e3, ms_row (by decide), up_ne (by omega)]; exact b2, by rw [e3, ms_row (by decide), up_ne (by omega)]; exact b3, fun i hi => ?_, fun c hc => ?_⟩, by rw [e3, ms_row (by decide), up_ne (by omega)]; exact a4, by rw [e3, ms_row (by decide)]; exact a5, by rw [e3]; exact a6.1, fun c h1 h2 => by rw [e3, ms_row (by omega)]; exact a6.2.1 c h1 h2, by rw [e3, ms_row (by decide)]; exact a6.2.2⟩
        · rw [up_ne (by omega)] at hi
          rw [e3, ms_row (by decide), ms_row (by decide), ms_row (by decide), up_ne (by omega), up_ne (by omega), up_ne (by omega)]; exact b4 i hi
        · rw [e3]
          by_cases e : c = tV x p
          · rw [e, ms_at, up_at]
          · rw [ms_col e, up_ne (by omega)]; exact b5 c hc
      have e : itV x p u = .inr (tE x (tE x p), up u (14 + tV x p) (tV x (tE x p))) := by unfold itV; rw [if_pos z, if_pos y]
      rw [e]
      exact (kX2_sEnd hW (by rw [up_ne (by omega)]; exact h0) (tE_le p1) S3).mono (fun r μ4 h4 => h4.b)
    · have e : itV x p u = .inl (tS x (tE x p)) := by unfold itV; rw [if_pos z, if_neg (by rw [y]; decide)]
      rw [e]; exact ⟨rfl, g2.2.2.1, S2.2.2.2.2.2⟩
  · have e : itV x p u = .inl (tS x p) := by unfold itV; rw [if_neg (by rw [z]; decide)]
    rw [e]; exact ⟨rfl, g1.2.2.1, S1.2.2.2.2.2⟩
theorem kX2_hil (hW : TWC) {x : Tx} {μ0 μ : Mm} {p w it P : Nat} {u : Ln} (hp : p ≤ x.2) (hPO : PO P u) (hS : SP x μ0 μ p u it) (hw : μ.1 59 5 = nI w) : Con mX2_readHill [.ref 59] μ (IX x μ0 it (itH x w p u)) := by
  have h0 := hPO.1.1
  refine Con.of pnX2 (Nat.le_of_ble_eq_true rfl) (fun κ => wX2_readHill_0 μ ?_)
  rw [hS.2.2.1.2.1, nIle (by decide) (by omega)]
  refine ⟨fun z0 => ?_, fun z0 => ?_⟩
  · have e : itH x w p u = .inl w := by unfold itH; rw [if_pos (by omega)]
    rw [e]; exact ⟨rfl, hw, hS.2.2.2.2.2⟩
  have z0' : ¬ u 0 = 7 := by omega
  refine (kX2_sn hW hS.1 hp hS.2.1 (by decide)).mono ?_
  rintro r μ1 ⟨rfl, g1, t1⟩
  have S1 := hS.tn h0 g1 t1
  have p1 := tE_le hp
  refine ⟨_, rfl, fun z => ?_, fun z => ?_⟩
  · refine (kX2_sn hW S1.1 p1 S1.2.1 (by decide)).mono ?_
    rintro r μ2 ⟨rfl, g2, t2⟩
    have S2 := S1.tn h0 g2 t2
    obtain ⟨k1, v1⟩ := numb_t z
    refine ⟨_, rfl, fun y => ?_, fun y => ?_⟩
    · have e : itH x w p u = .inl (tS x (tE x p)) := by unfold itH; rw [if_neg z0', if_pos z, if_neg (by rw [y, Bool.false_and]; decide)]
      rw [e]; exact ⟨rfl, g2.2.2.1, S2.2.2.2.2.2⟩
    · obtain ⟨k2, v2⟩ := numb_t y
      have c4 := g2.2.2.2.2 ((xK_n (by decide) (by decide)).mpr k2)
      rw [c4]
      refine (kX0_isTaken 61 _ μ2 (by unfold isL; decide) hPO.1 (by omega) S2.2.2.1).mono ?_
      rintro r μ3 ⟨rfl, rfl⟩
      refine ⟨_, rfl, fun q => ?_, fun q => ?_⟩
      · have p2 := tE_le p1
        refine (kX2_sn hW S2.1 p2 S2.2.1 (by decide)).mono ?_
        rintro r μ4 ⟨rfl, g4, t4⟩
        have S4 := S2.tn h0 g4 t4
        refine ⟨_, rfl, fun v => ?_, fun v => ?_⟩
        · obtain ⟨k3, v3⟩ := numb_t v
          rw [g1.2.2.2.2 ((xK_n (by decide) (by decide)).mpr k1), c4, g4.2.2.2.2 ((xK_n (by decide) (by decide)).mpr k3)]
          obtain ⟨a1, a2, a3, a4, a5, a6⟩ := S4
          obtain ⟨b1, b2, b3, b4, b5⟩ := id a3
          refine (kX0_raise 61 (u 0) _ _ _ μ4 (by unfold isL; decide) (by omega) b2).mono ?_
          rintro r μ5 ⟨rfl, e5⟩
          have R : ∀ c, c < 61 ∨ 64 < c → μ5.1 c = μ4.1 c := fun c hc => by rw [e5, ms_row (by omega), ms_row (by omega), ms_row (by omega), ms_row (by omega)]
          have R61 : ∀ j, j ≠ 1 → μ5.1 61 j = μ4.1 61 j := fun j hj => by rw [e5, ms_col hj, ms_row (by decide), ms_row (by decide), ms_row (by decide)]
          have o : ∀ j, j ≠ 0 → j ≠ 3 → j ≠ 7 + u 0 → j ≠ 41 + u 0 → j ≠ 34 + u 0 → hlF u (tV x p) (tV x (tE x p)) (tV x (tE x (tE x p))) j = u j := fun j d0 d3 d7 d41 d34 => hl_o d0 d3 d7 d41 d34
          have S5 : SP x μ0 μ5 (tE x (tE x (tE x p))) (hlF u (tV x p) (tV x (tE x p)) (tV x (tE x (tE x p)))) it := by
            refine ⟨⟨a1.1, by rw [R 59 (by decide)]; exact a1.2.1, fun j hj => by rw [R 60 (by decide)]; exact a1.2.2 j hj⟩, by rw [R 59 (by decide)]; exact a2, ⟨by rw [R61 0 (by decide), o 4 (by omega) (by omega) (by omega) (by omega) (by omega)]; exact b1, by rw [e5, ms_at]; rfl, by rw [R61 7 (by decide), o 5 (by omega) (by omega) (by omega) (by omega) (by omega)]; exact b3, fun i hi => ?_, fun c hc => by rw [R 65 (by decide), o _ (by omega) (by omega) (by omega) (by omega) (by omega)]; exact b5 c hc⟩, by rw [R61 6 (by decide), o 6 (by omega) (by omega) (by omega) (by omega) (by omega)]; exact a4, by rw [R 59 (by decide)]; exact a5, by rw [e5]; exact a6.1, fun c h1 h2 => by rw [R c (by omega)]; exact a6.2.1 c h1 h2, by rw [R 59 (by decide)]; exact a6.2.2⟩
            have hi' : i < u 0 + 1 := hi
            show μ5.1 62 i = _ ∧ μ5.1 63 i = _ ∧ μ5.1 64 i = _
            by_cases ei : i = u 0
            · subst ei
              unfold hlF
              refine ⟨?_, ?_, ?_⟩
              · rw [if_neg (by omega), if_neg (by omega), if_neg (by omega), if_pos rfl, e5, ms_row (by decide), ms_row (by decide), ms_row (by decide), ms_at]
              · rw [if_neg (by omega), if_neg (by omega), if_pos rfl, e5, ms_row (by decide), ms_row (by decide), ms_at]
              · rw [if_neg (by omega), if_pos rfl, e5, ms_row (by decide), ms_at]
            · rw [o _ (by omega) (by omega) (by omega) (by omega) (by omega), o _ (by omega) (by omega) (by omega) (by omega) (by omega), o _ (by omega) (by omega) (by omega) (by omega) (by omega)]
              have := b4 i (by omega)
              refine ⟨?_, ?_, ?_⟩
              · rw [e5, ms_row (by decide), ms_row (by decide), ms_row (by decide), ms_col ei]; exact this.1
              · rw [e5, ms_row (by decide), ms_row (by decide), ms_col ei, ms_row (by decide)]; exact this.2.1
              · rw [e5, ms_row (by decide), ms_col ei, ms_row (by decide), ms_row (by decide)]; exact this.2.2
          have e : itH x w p u = .inr (tE x (tE x (tE x p)), hlF u (tV x p) (tV x (tE x p)) (tV x (tE x (tE x p)))) := by unfold itH; rw [if_neg z0', if_pos z, if_pos (by rw [y, q]; rfl), if_pos v]
          rw [e]
          exact ⟨rfl, (kX2_sEnd hW (by show u 0 + 1 ≤ 7; omega) (tE_le p2) S5).mono (fun r μ6 h6 => h6.b)⟩
        · have e : itH x w p u = .inl (tS x (tE x (tE x p))) := by unfold itH; rw [if_neg z0', if_pos z, if_pos (by rw [y, q]; rfl), if_neg (by rw [v]; decide)]
          rw [e]; exact ⟨rfl, g4.2.2.1, S4.2.2.2.2.2⟩
      · have e : itH x w p u = .inl (tS x (tE x p)) := by unfold itH; rw [if_neg z0', if_pos z, if_neg (by rw [q, y]; decide)]
        rw [e]; exact ⟨rfl, g2.2.2.1, S2.2.2.2.2.2⟩
  · have e : itH x w p u = .inl (tS x p) := by unfold itH; rw [if_neg z0', if_neg (by rw [z]; decide)]
    rw [e]; exact ⟨rfl, g1.2.2.1, S1.2.2.2.2.2⟩
