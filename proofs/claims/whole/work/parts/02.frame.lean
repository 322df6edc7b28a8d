/-! ===== the memory of all cells of the two objects, by numbers: (cell, place) ===== -/
abbrev Mm : Type := (Nat → Nat → Int32) × (Nat → Nat → Int64)
def mset (μ : Mm) (k i : Nat) (x : Int32) : Mm := (fun a b => if a = k ∧ b = i then x else μ.1 a b, μ.2)
def msetL (μ : Mm) (k i : Nat) (x : Int64) : Mm := (μ.1, fun a b => if a = k ∧ b = i then x else μ.2 a b)
def mcpy (μ : Mm) (k0 k1 sp dp n : Nat) : Mm := (fun a b => if a = k1 then va_cpy (μ.1 k0) (μ.1 k1) sp dp n b else μ.1 a b, μ.2)
/-- the addresses, the classes' numbers and slots, the array classes [I, [Z, [Land -/
abbrev Wd : Type := (Nat → Nat) × va_G × ClassId × ClassId × ClassId
/-- what stands in a class's fields: 0 a number, 1 a long, 2 a cell at a distance -/
def fdT : List (List (Nat × Nat)) := [
  [(0,0),(0,0),(2,1),(2,2),(2,3),(2,4),(0,0),(0,0),(0,0)],
  [(2,1),(2,2),(2,3),(0,0),(0,0),(0,0)],
  [(2,1),(0,0),(0,0),(0,0),(0,0),(0,0),(0,0),(2,2)],
  [(2,1),(2,6),(0,0),(2,7),(0,0),(2,8),(0,0),(0,0),(0,0)],
  [(2,3),(2,12),(2,21),(2,30),(2,59),(2,1),(2,2),(1,0),(1,0),(0,0),(0,0),(0,0)],
  [(2,1),(2,2),(2,3),(2,4),(1,0),(1,0),(0,0),(2,5),(2,6),(2,7),(2,8),(0,0),(0,0),(0,0),(0,0),(0,0),(2,9),(2,10)]]
abbrev shLand : List (Nat ⊕ (Nat × Nat)) := [.inl 0, .inr (0,7), .inr (0,7), .inr (0,7), .inr (0,20)]
abbrev shState : List (Nat ⊕ (Nat × Nat)) := [.inl 3] ++ shLand ++ [.inr (0,20), .inr (0,18), .inr (0,232)]
/-- a cell's kind: an object of a class, or an array (0 of int, 1 of boolean, 2 of Land) of a length -/
def shT : List (Nat ⊕ (Nat × Nat)) := [.inl 4, .inr (0,6), .inr (0,64)] ++ shState ++ shState ++ shState ++ [.inl 1, .inr (2,5), .inr (0,4), .inr (0,4)] ++ shLand ++ shLand ++ shLand ++ shLand ++ shLand ++ [.inl 2, .inr (0,150)] ++ shLand ++ [.inl 5, .inr (0,318), .inr (0,636), .inr (1,2), .inr (0,3), .inr (0,48), .inr (0,6), .inr (0,64), .inr (0,150), .inr (0,86), .inr (0,3)]
def shp (k : Nat) : Nat ⊕ (Nat × Nat) := shT.getD k (.inl 9)
def fv (ad : Nat → Nat) (μ : Mm) (k : Nat) (q : Nat × Nat) (j : Nat) : Value := if q.1 = 0 then .int (μ.1 k j) else if q.1 = 1 then .long (μ.2 k j) else .ref (ad (k + q.2))
def flds (ad : Nat → Nat) (μ : Mm) (k c : Nat) : List Value := (fdT.getD c []).zipIdx.map (fun q => fv ad μ k q.1 q.2)
def celE (wd : Wd) (μ : Mm) (k : Nat) (h : Nat ⊕ (Nat × Nat)) : va_E := match h with
  | .inl c => .inr (c, flds wd.1 μ k c)
  | .inr (0, n) => .inl (wd.2.2.1, n, .inl (μ.1 k))
  | .inr (1, n) => .inl (wd.2.2.2.1, n, .inl (μ.1 k))
  | .inr (_, n) => .inl (wd.2.2.2.2, n, .inr (.inr (.inr (.inr (fun d => some (wd.1 (k + 3 + 5 * d)))))))
def cel (wd : Wd) (μ : Mm) (k : Nat) : Nat × va_E := (wd.1 k, celE wd μ k (shp k))
def cells (wd : Wd) (μ : Mm) : va_W := (List.range 77).map (cel wd μ)
theorem cells_get (wd : Wd) (μ : Mm) {k : Nat} (h : k < 77) : (cells wd μ)[k]? = some (cel wd μ k) := by
  unfold cells
  rw [List.getElem?_map, List.getElem?_range h]
  rfl
theorem shp_lt {k : Nat} {h : Nat ⊕ (Nat × Nat)} (e : shp k = h) (hn : h ≠ .inl 9) : k < 77 := by
  rcases Nat.lt_or_ge k 77 with q | q
  · exact q
  · exfalso
    apply hn
    rw [← e]
    unfold shp
    rw [List.getD_eq_getElem?_getD, List.getElem?_eq_none (by exact q)]
    rfl
theorem cells_at {wd : Wd} {μ : Mm} {k : Nat} {h : Nat ⊕ (Nat × Nat)} (e : shp k = h) (hn : h ≠ .inl 9) : (cells wd μ)[k]? = some (wd.1 k, celE wd μ k h) := by
  rw [cells_get wd μ (shp_lt e hn)]
  unfold cel
  rw [e]
theorem cel_congr {wd : Wd} {μ μ' : Mm} {k : Nat} (h1 : μ'.1 k = μ.1 k) (h2 : μ'.2 k = μ.2 k) : cel wd μ' k = cel wd μ k := by
  unfold cel
  congr 1
  unfold celE
  split
  · unfold flds fv
    rw [h1, h2]
  · rw [h1]
  · rw [h1]
  · rfl
theorem cells_set {wd : Wd} {μ μ' : Mm} {k : Nat} {e : va_E} (he : cel wd μ' k = (wd.1 k, e)) (ho : ∀ j, j ≠ k → μ'.1 j = μ.1 j ∧ μ'.2 j = μ.2 j) : (cells wd μ).set k (wd.1 k, e) = cells wd μ' := by
  apply List.ext_getElem?
  intro j
  rw [List.getElem?_set]
  by_cases hj : k = j
  · subst hj
    rw [if_pos rfl]
    by_cases hk : k < 77
    · rw [if_pos (by unfold cells; rw [List.length_map, List.length_range]; exact hk), cells_get wd μ' hk, he]
    · rw [if_neg (by unfold cells; rw [List.length_map, List.length_range]; exact hk)]
      unfold cells
      rw [List.getElem?_map, List.getElem?_eq_none (by rw [List.length_range]; omega)]
      rfl
  · rw [if_neg hj]
    by_cases hk : j < 77
    · rw [cells_get wd μ hk, cells_get wd μ' hk, cel_congr (ho j (Ne.symm hj)).1 (ho j (Ne.symm hj)).2]
    · unfold cells
      rw [List.getElem?_map, List.getElem?_map, List.getElem?_eq_none (by rw [List.length_range]; omega)]
      rfl
theorem cells_ad {wd : Wd} {μ μ' : Mm} {k : Nat} {q : Nat × va_E} (h : (cells wd μ)[k]? = some q) : ∃ e, (cells wd μ')[k]? = some (q.1, e) := by
  unfold cells at h ⊢
  rw [List.getElem?_map] at h ⊢
  cases hr : (List.range 77)[k]? with
  | none => rw [hr] at h; cases h
  | some j =>
    rw [hr] at h
    cases h
    exact ⟨(cel wd μ' j).2, rfl⟩
theorem va_A_cells {wd : Wd} {μ μ' : Mm} {sz q : Nat} (h : va_A (cells wd μ) sz q) : va_A (cells wd μ') sz q := by
  rcases h with ⟨k, e, h⟩ | h
  · obtain ⟨e', h'⟩ := cells_ad (μ' := μ') h
    exact Or.inl ⟨k, e', h'⟩
  · exact Or.inr h
theorem flds_at {ad : Nat → Nat} {μ : Mm} {k c j : Nat} {q : Nat × Nat} (h : (fdT.getD c [])[j]? = some q) : (flds ad μ k c)[j]? = some (fv ad μ k q j) := by
  unfold flds
  rw [List.getElem?_map, List.getElem?_zipIdx, h]
  simp
theorem flds_len {ad : Nat → Nat} {μ : Mm} {k c : Nat} : (flds ad μ k c).length = (fdT.getD c []).length := by
  unfold flds
  rw [List.length_map, List.length_zipIdx]
theorem flds_set {ad : Nat → Nat} {μ μ' : Mm} {k c j : Nat} {q : Nat × Nat} {v : Value} (h : (fdT.getD c [])[j]? = some q) (hv : fv ad μ' k q j = v) (ho : ∀ i, i ≠ j → μ'.1 k i = μ.1 k i ∧ μ'.2 k i = μ.2 k i) : (flds ad μ k c).set j v = flds ad μ' k c := by
  apply List.ext_getElem?
  intro i
  rw [List.getElem?_set]
  by_cases hi : j = i
  · subst hi
    rw [if_pos rfl, if_pos (by rw [flds_len]; exact (List.getElem?_eq_some_iff.mp h).1), flds_at h, hv]
  · rw [if_neg hi]
    unfold flds
    rw [List.getElem?_map, List.getElem?_map, List.getElem?_zipIdx]
    cases hx : (fdT.getD c [])[i]? with
    | none => simp
    | some x =>
      obtain ⟨e1, e2⟩ := ho i (Ne.symm hi)
      simp [fv, e1, e2]
/-! ===== values: a cell by its number ===== -/
def cnc (ad : Nat → Nat) (v : Value) : Value := match v with
  | .ref k => .ref (ad k)
  | v => v
theorem cnc_cat (ad : Nat → Nat) (v : Value) : (cnc ad v).category = v.category := by cases v <;> rfl
def cvl (ad : Nat → Nat) (lv : List (Nat × Value)) : List (Nat × Value) := lv.map (fun q => (q.1, cnc ad q.2))
theorem cvl_args (ad : Nat → Nat) : ∀ (as : List Value) (i : Nat), lv_args i (as.map (cnc ad)) = cvl ad (lv_args i as)
  | [], _ => rfl
  | v :: vs, i => by
    show (i, cnc ad v) :: lv_args (if (cnc ad v).category = 2 then i + 2 else i + 1) (vs.map (cnc ad)) = (i, cnc ad v) :: cvl ad (lv_args (if v.category = 2 then i + 2 else i + 1) vs)
    rw [cnc_cat, cvl_args ad vs]
theorem lg_sl_cnc (ad : Nat → Nat) : ∀ (as : List Value), (lg_sl (as.map (cnc ad))).length = (lg_sl as).length
  | [] => rfl
  | v :: vs => by
    have h := lg_sl_cnc ad vs
    unfold lg_sl at h ⊢
    rw [List.map_cons, List.flatMap_cons, List.flatMap_cons, List.length_append, List.length_append, h, cnc_cat]
    congr 1
    split <;> rfl
/-- the value of a local -/
def lkp (lv : List (Nat × Value)) (i : Nat) : Option Value := match lv with
  | [] => none
  | q :: r => match Nat.beq q.1 i with
    | true => some q.2
    | false => lkp r i
theorem lkp_mem : ∀ {lv : List (Nat × Value)} {i : Nat} {v : Value}, lkp lv i = some v → (i, v) ∈ lv
  | [], _, _, h => by cases h
  | q :: r, i, v, h => by
    unfold lkp at h
    split at h
    · next hq =>
      cases h
      have hq := Nat.eq_of_beq_eq_true hq
      subst hq
      exact List.mem_cons_self
    · exact List.mem_cons_of_mem _ (lkp_mem h)
theorem lkp_at {ad : Nat → Nat} {ls : Array Slot} {nL : Nat} {lv : List (Nat × Value)} (h : lv_has ls nL (cvl ad lv)) {i : Nat} {v : Value} (hk : lkp lv i = some v) : ls[i]? = some (.val (cnc ad v)) := h.2.2 (i, cnc ad v) (List.mem_map.mpr ⟨(i, v), lkp_mem hk, rfl⟩)
/-- the locals behind a store: of a word, of two -/
def dr1 (i : Nat) (lv : List (Nat × Value)) : List (Nat × Value) := match lv with
  | [] => []
  | q :: r => match (Nat.beq q.1 i || (Nat.beq (q.1 + 1) i && Nat.beq q.2.category 2)) with
    | true => dr1 i r
    | false => q :: dr1 i r
def dr2 (i : Nat) (lv : List (Nat × Value)) : List (Nat × Value) := match lv with
  | [] => []
  | q :: r => match (Nat.beq q.1 i || (Nat.beq q.1 (i + 1) || (Nat.beq (q.1 + 1) i && Nat.beq q.2.category 2))) with
    | true => dr2 i r
    | false => q :: dr2 i r
def st1 (lv : List (Nat × Value)) (i : Nat) (v : Value) : List (Nat × Value) := (i, v) :: dr1 i lv
def st2 (lv : List (Nat × Value)) (i : Nat) (v : Value) : List (Nat × Value) := (i, v) :: dr2 i lv
theorem beq_nb (a b : Nat) : (a == b) = Nat.beq a b := by
  cases h : Nat.beq a b with
  | true => rw [Nat.eq_of_beq_eq_true h]; exact beq_self_eq_true b
  | false => exact beq_eq_false_iff_ne.mpr (Nat.ne_of_beq_eq_false h)
theorem cvl_dr1 (ad : Nat → Nat) (i : Nat) : ∀ lv : List (Nat × Value), (cvl ad lv).filter (fun q => !(q.1 == i) && !(q.1 + 1 == i && q.2.category == 2)) = cvl ad (dr1 i lv)
  | [] => rfl
  | q :: r => by
    have ih := cvl_dr1 ad i r
    unfold dr1
    show List.filter _ ((q.1, cnc ad q.2) :: cvl ad r) = _
    rw [List.filter_cons, ih]
    dsimp only
    rw [cnc_cat, beq_nb, beq_nb, beq_nb]
    cases h : (Nat.beq q.1 i || (Nat.beq (q.1 + 1) i && Nat.beq q.2.category 2)) with
    | true =>
      rw [if_neg]
      intro hh
      cases h1 : Nat.beq q.1 i <;> cases h2 : Nat.beq (q.1 + 1) i <;> cases h3 : Nat.beq q.2.category 2 <;> simp_all
    | false =>
      rw [if_pos]
      · rfl
      · cases h1 : Nat.beq q.1 i <;> cases h2 : Nat.beq (q.1 + 1) i <;> cases h3 : Nat.beq q.2.category 2 <;> simp_all
theorem cvl_dr2 (ad : Nat → Nat) (i : Nat) : ∀ lv : List (Nat × Value), (cvl ad lv).filter (fun q => !(q.1 == i) && (!(q.1 == i + 1) && !(q.1 + 1 == i && q.2.category == 2))) = cvl ad (dr2 i lv)
  | [] => rfl
  | q :: r => by
    have ih := cvl_dr2 ad i r
    unfold dr2
    show List.filter _ ((q.1, cnc ad q.2) :: cvl ad r) = _
    rw [List.filter_cons, ih]
    dsimp only
    rw [cnc_cat, beq_nb, beq_nb, beq_nb, beq_nb]
    cases h : (Nat.beq q.1 i || (Nat.beq q.1 (i + 1) || (Nat.beq (q.1 + 1) i && Nat.beq q.2.category 2))) with
    | true =>
      rw [if_neg]
      intro hh
      cases h1 : Nat.beq q.1 i <;> cases h4 : Nat.beq q.1 (i + 1) <;> cases h2 : Nat.beq (q.1 + 1) i <;> cases h3 : Nat.beq q.2.category 2 <;> simp_all
    | false =>
      rw [if_pos]
      · rfl
      · cases h1 : Nat.beq q.1 i <;> cases h4 : Nat.beq q.1 (i + 1) <;> cases h2 : Nat.beq (q.1 + 1) i <;> cases h3 : Nat.beq q.2.category 2 <;> simp_all
theorem cvl_st1 (ad : Nat → Nat) (lv : List (Nat × Value)) (i : Nat) (v : Value) : (i, cnc ad v) :: (cvl ad lv).filter (fun q => !(q.1 == i) && !(q.1 + 1 == i && q.2.category == 2)) = cvl ad (st1 lv i v) := congrArg _ (cvl_dr1 ad i lv)
theorem cvl_st2 (ad : Nat → Nat) (lv : List (Nat × Value)) (i : Nat) (v : Value) : (i, cnc ad v) :: (cvl ad lv).filter (fun q => !(q.1 == i) && (!(q.1 == i + 1) && !(q.1 + 1 == i && q.2.category == 2))) = cvl ad (st2 lv i v) := congrArg _ (cvl_dr2 ad i lv)
/-! ===== the standing facts ===== -/
/-- the tables' words -/
abbrev TBL : List Cond := wsL_law
theorem TBL_good : GoodIn TBL TBL := fun w h => ⟨h, (wsL_good w h).2⟩
/-- the links to nest mates -/
def NWL : List (String × Nat × MethodName) := [(RX0, 56, yX4_within), (RX0, 101, yX4_holds), (RX0, 64, yX4_fall), (RX0, 74, yX4_growth), (RX3, 81, yX4_growth), (RX3, 89, yX4_fall)]
abbrev tysL (wd : Wd) : List (ClassId × FieldType) := [(wd.2.2.1, .int), (wd.2.2.2.1, .boolean), (wd.2.2.2.2, .object "SlateHills$Land")]
/-- the four words of the Reader, and what String's methods look at -/
def sbyt : List (List Int32) := [[105, 115, 108, 97, 110, 100], [118, 105, 110, 101, 115], [104, 105, 108, 108], [100, 97, 121]]
def sStr (wd : Wd) (A : Nat → Prop) (U : State) (H : Heap) : Prop := vk_S 4 [6, 5, 4, 3] sbyt (fun i => wd.1 (100 + i)) (fun i => wd.1 (110 + i)) A U H ∧ vk_R RX2 103 "island" (wd.1 100) U ∧ vk_R RX2 109 "vines" (wd.1 101) U ∧ vk_R RX2 111 "hill" (wd.1 102) U ∧ vk_R RX2 113 "day" (wd.1 103) U ∧ va_Z "java/lang/String" "COMPACT_STRINGS" "Z" (.int 1) A U H ∧ (va_Z "jdk/internal/util/Preconditions" "SIOOBE_FORMATTER" "Ljava/util/function/BiFunction;" .null A U H ∨ va_Z "jdk/internal/util/Preconditions" "SIOOBE_FORMATTER" "Ljava/util/function/BiFunction;" (.ref (wd.1 120)) A U H)
def sNest (U : State) : Prop := ∀ q ∈ NWL, va_Nw (.methodLinkNest q.1 q.2.1 q.2.2 "SlateHills") U
theorem sNest.warm {s U : State} (hW : s.WarmedH U.vm) (h : sNest s) : sNest U := fun q hq => va_Nw.warmM hW (h q hq)
theorem sNest.same {s U : State} (hv : s.vm = U.vm) (h : sNest s) : sNest U := fun q hq => va_Nw.same rfl hv (h q hq)
theorem sStr.warm {wd : Wd} {A : Nat → Prop} {s U : State} {H : Heap} (hW : s.WarmedH U.vm) (h : sStr wd A s H) : sStr wd A U H := ⟨h.1.moved hW.alike, h.2.1.warm hW, h.2.2.1.warm hW, h.2.2.2.1.warm hW, h.2.2.2.2.1.warm hW, h.2.2.2.2.2.1.moved hW.alike, h.2.2.2.2.2.2.imp (fun z => z.moved hW.alike) (fun z => z.moved hW.alike)⟩
theorem sStr.same {wd : Wd} {A : Nat → Prop} {s U : State} {H : Heap} (hv : U.vm = s.vm) (h : sStr wd A s H) : sStr wd A U H := ⟨h.1.moved (by rw [hv]; exact Vm.Alike.refl _), h.2.1.same hv, h.2.2.1.same hv, h.2.2.2.1.same hv, h.2.2.2.2.1.same hv, h.2.2.2.2.2.1.moved (by rw [hv]; exact Vm.Alike.refl _), h.2.2.2.2.2.2.imp (fun z => z.moved (by rw [hv]; exact Vm.Alike.refl _)) (fun z => z.moved (by rw [hv]; exact Vm.Alike.refl _))⟩
theorem sStr.kept {wd : Wd} {A : Nat → Prop} {U : State} {H H1 : Heap} (h : sStr wd A U H) (hq : ∀ a : Nat, a < H.size → ¬ A a → H1[a]? = H[a]?) : sStr wd A U H1 := ⟨h.1.kept hq, h.2.1, h.2.2.1, h.2.2.2.1, h.2.2.2.2.1, h.2.2.2.2.2.1.kept hq, h.2.2.2.2.2.2.imp (fun z => z.kept hq) (fun z => z.kept hq)⟩
theorem sStr.narrow {wd : Wd} {A B : Nat → Prop} {U : State} {H : Heap} (h : sStr wd A U H) (hAB : ∀ q, B q → A q) : sStr wd B U H := ⟨h.1.narrow hAB, h.2.1, h.2.2.1, h.2.2.2.1, h.2.2.2.2.1, h.2.2.2.2.2.1.narrow hAB, h.2.2.2.2.2.2.imp (fun z => z.narrow hAB) (fun z => z.narrow hAB)⟩
/-- a method: name, code, locals, answer's type, depth of its calls -/
abbrev Mi : Type := MethodName × ByteArray × Nat × Option FieldType × Nat
abbrev Kx : Type := Program × Launch × Env × Room × State × MethodId × Array Value × List Frame × Method × Code × Wd × (Nat → Prop)
def Fx (κ : Kx) (M : Mi) (n q : Nat) : Prop := match κ with
  | (p, _, _, R, s, m, args, _, meth, c, wd, A) => p.tables.exec = Jvm.exec ∧ c.code = M.2.1 ∧ c.maxLocals = M.2.2.1 ∧ s.vm.findClass M.1.cls = some m.cls ∧ (∀ w ∈ TBL, w.before args s = true) ∧ meth.sig.returnType = M.2.2.2.1 ∧ meth.locks = false ∧ va_K wd.2.1 vwCl (tysL wd) s ∧ (∀ a, s.heap.size ≤ a → A a) ∧ sStr wd A s s.heap ∧ sNest s ∧ M.2.2.2.2 ≤ R.frames ∧ 40 * M.2.2.2.2 ≤ R.locals ∧ n ≤ R.cells ∧ q ≤ R.slots
/-- the machine, at a place of a method, its locals, its stack and the memory as told, comes to an end with Qf -/
def V (κ : Kx) (M : Mi) (Qf : State → Prop) (n q : Nat) (pc : Nat) (lv : List (Nat × Value)) (st : List Value) (μ : Mm) : Prop :=
  Fx κ M n q → match κ with
  | (p, l, e, R, s, m, args, below, meth, c, wd, A) => ∀ (ls : Array Slot) (H : Heap) (locs : List Loc), lv_has ls M.2.2.1 (cvl wd.1 lv) → va_P wd.2.1 vwCl (cells wd μ) H → va_D A (cells wd μ) → va_S A s.heap H locs → W p l e R s m args below meth c H locs n q Qf (F0 m pc ls (st.map (cnc wd.1)))
/-- a method's end: an answer and a memory -/
def Qcm (wd : Wd) (Q : Option Value → Mm → Prop) (A : Nat → Prop) : Array Value → State → Outcome → State → Prop := fun _ st oc t => (∃ (r : Option Value) (μ : Mm), oc = .returned (r.map (cnc wd.1)) ∧ Q r μ ∧ va_P wd.2.1 vwCl (cells wd μ) t.heap ∧ va_D A (cells wd μ)) ∧ va_F A st t
def fin (κ : Kx) (Q : Option Value → Mm → Prop) : State → Prop := match κ with
  | (_, _, _, _, s, _, args, below, _, _, wd, A) => MQ below (Qcm wd Q A) args s 0 0 A
abbrev rmD (d : Nat) : Room := { frames := d, cells := 0, slots := 0, locals := 40 * d }
def PcM (wd : Wd) (as : List Value) (μ : Mm) (sz : Nat) : Array Value → State → Prop := va_Pc (as.map (cnc wd.1)) (fun U => U.heap.size = sz ∧ va_P wd.2.1 vwCl (cells wd μ) U.heap ∧ va_K wd.2.1 vwCl (tysL wd) U ∧ va_D (fun _ => True) (cells wd μ) ∧ sStr wd (va_A (cells wd μ) sz) U U.heap ∧ sNest U)
/-- A METHOD'S CONTRACT: called so, in such a memory, it answers r and leaves a memory with Q -/
def Con (M : Mi) (as : List Value) (μ : Mm) (Q : Option Value → Mm → Prop) : Prop := ∀ (l : Launch) (wd : Wd) (sz : Nat), Met l M.1 (.code M.1 M.2.1 M.2.2.1 M.2.2.2.1 :: TBL) (rmD M.2.2.2.2) (PcM wd as μ sz) (Qcm wd Q (va_A (cells wd μ) sz)) 0 0 (va_A (cells wd μ) sz)
theorem PcM.blind {wd : Wd} {as : List Value} {μ : Mm} {sz : Nat} : FrameBlind (PcM wd as μ sz) := by
  intro a U g mk h
  obtain ⟨h0, h1, h2, h3, h4, h5, h6⟩ := h
  exact ⟨h0, h1, h2, va_K.moved (u := U) (U := U.calling g mk a) (Vm.Alike.refl U.vm) h3, h4, sStr.same (s := U) (U := U.calling g mk a) rfl h5, sNest.same (s := U) (U := U.calling g mk a) rfl h6⟩
set_option maxHeartbeats 1000000 in
theorem Con.of {M : Mi} {as : List Value} {μ : Mm} {Q : Option Value → Mm → Prop} (hy : plainName M.1.cls = true) (hn : (lg_sl as).length ≤ M.2.2.1) (h : ∀ κ, V κ M (fin κ Q) 0 0 0 (lv_args 0 as) [] μ) : Con M as μ Q := by
  intro l wd sz
  refine Met.ofW (cc := M.2.1) (maxL := M.2.2.1) (ret := M.2.2.2.1) hy rfl ?_
  intro p e s m args below meth c s₁ B hml hv
  obtain ⟨rfl, hsz, hP, hK, hD0, hStr, hN⟩ := hv
  have hts := atoms_spec (ws := (.code M.1 M.2.1 M.2.2.1 M.2.2.2.1 :: TBL)) B.pre
  have hown : s.vm.findClass M.1.cls = some m.cls := findClass_of_methodNamed B.named
  subst hsz
  have hD := hD0.self (sz := s.heap.size)
  have hA : ∀ q : Nat, s.heap.size ≤ q → va_A (cells wd μ) s.heap.size q := fun q h => Or.inr h
  have hS : va_S (va_A (cells wd μ) s.heap.size) s.heap s.heap [] := va_S.rf
  have hl := lv_entry (as.map (cnc wd.1)) (n := M.2.2.1) (by rw [lg_sl_cnc]; exact hn)
  rw [lg_entry_eq]
  rw [cvl_args] at hl
  exact h (p, l, e, _, s, m, _, below, meth, c, wd, va_A (cells wd μ) s.heap.size) ⟨B.exec, B.bytes, hml, hown, fun w hw => hts w (List.mem_cons_of_mem _ hw), B.returns, B.notSynchronized, hK, hA, hStr, hN, Nat.le_refl _, Nat.le_refl _, Nat.zero_le _, Nat.zero_le _⟩ _ s.heap [] hl hP hD hS
theorem Qcm.mono {wd : Wd} {Q Q' : Option Value → Mm → Prop} {A : Nat → Prop} (h : ∀ r μ, Q r μ → Q' r μ) {a : Array Value} {st t : State} {oc : Outcome} (hq : Qcm wd Q A a st oc t) : Qcm wd Q' A a st oc t := by
  obtain ⟨⟨r, μ, h1, h2, h3⟩, h4⟩ := hq
  exact ⟨⟨r, μ, h1, h _ _ h2, h3⟩, h4⟩
theorem Con.mono {M : Mi} {as : List Value} {μ : Mm} {Q Q' : Option Value → Mm → Prop} (h : Con M as μ Q) (hq : ∀ r μ', Q r μ' → Q' r μ') : Con M as μ Q' := by
  intro l wd sz
  exact MetFree.mono (h l wd sz) (fun _ _ h => h) (fun _ _ _ _ _ h => h) (fun a st o t _ h => ⟨Qcm.mono hq h.1, h.2⟩)
theorem cat_sum (ad : Nat → Nat) (st : List Value) : ((st.map (cnc ad)).map fun v => v.category).sum = (st.map fun v => v.category).sum := by
  rw [List.map_map]
  congr 1
  exact List.map_congr_left (fun v _ => cnc_cat ad v)
section VR
variable {κ : Kx} {M : Mi} {Qf : State → Prop} {n q pc : Nat} {lv : List (Nat × Value)} {st : List Value} {μ : Mm}
theorem v_iconst {i : Int} {v : Int32} (hd : decode M.2.1 pc = .ok (.iconst i, 1)) (hv : Int32.ofInt i = v) (kk : V κ M Qf n q (pc + 1) lv (.int v :: st) μ) : V κ M Qf n q pc lv (st) μ := by
  obtain ⟨p, l, e, R, s, m, args, below, meth, c, wd, A⟩ := κ
  intro hF ls H locs hl hP hD hS
  exact lv_iconst hF.1 hF.2.1 hd hv (kk hF ls H locs hl hP hD hS)
theorem v_bipush {i : Int} {v : Int32} (hd : decode M.2.1 pc = .ok (.bipush i, 2)) (hv : (Int8.ofInt i).toInt32 = v) (kk : V κ M Qf n q (pc + 2) lv (.int v :: st) μ) : V κ M Qf n q pc lv (st) μ := by
  obtain ⟨p, l, e, R, s, m, args, below, meth, c, wd, A⟩ := κ
  intro hF ls H locs hl hP hD hS
  exact lv_bipush hF.1 hF.2.1 hd hv (kk hF ls H locs hl hP hD hS)
theorem v_sipush {i : Int} {v : Int32} (hd : decode M.2.1 pc = .ok (.sipush i, 3)) (hv : (Int16.ofInt i).toInt32 = v) (kk : V κ M Qf n q (pc + 3) lv (.int v :: st) μ) : V κ M Qf n q pc lv (st) μ := by
  obtain ⟨p, l, e, R, s, m, args, below, meth, c, wd, A⟩ := κ
  intro hF ls H locs hl hP hD hS
  exact lv_sipush hF.1 hF.2.1 hd hv (kk hF ls H locs hl hP hD hS)
theorem v_lconst {i : Fin 2} {v : Int64} (hd : decode M.2.1 pc = .ok (.lconst i, 1)) (hv : Int64.ofNat (i : Nat) = v) (kk : V κ M Qf n q (pc + 1) lv (.long v :: st) μ) : V κ M Qf n q pc lv (st) μ := by
  obtain ⟨p, l, e, R, s, m, args, below, meth, c, wd, A⟩ := κ
  intro hF ls H locs hl hP hD hS
  exact lv_lconst hF.1 hF.2.1 hd hv (kk hF ls H locs hl hP hD hS)
theorem v_iload_n {k : Fin 4} (i : Nat) {x : Int32} (hd : decode M.2.1 pc = .ok (.iload_n k, 1)) (hi : (k : Nat) = i) (h : lkp lv i = some (.int x)) (kk : V κ M Qf n q (pc + 1) lv (.int x :: st) μ) : V κ M Qf n q pc lv (st) μ := by
  obtain ⟨p, l, e, R, s, m, args, below, meth, c, wd, A⟩ := κ
  intro hF ls H locs hl hP hD hS
  exact lv_iload_n hF.1 hF.2.1 hd hi (lkp_at hl h) (kk hF ls H locs hl hP hD hS)
theorem v_iload {i : Nat} {x : Int32} (hd : decode M.2.1 pc = .ok (.iload i, 2)) (h : lkp lv i = some (.int x)) (kk : V κ M Qf n q (pc + 2) lv (.int x :: st) μ) : V κ M Qf n q pc lv (st) μ := by
  obtain ⟨p, l, e, R, s, m, args, below, meth, c, wd, A⟩ := κ
  intro hF ls H locs hl hP hD hS
  exact lv_iload hF.1 hF.2.1 hd (lkp_at hl h) (kk hF ls H locs hl hP hD hS)
theorem v_istore_n {k : Fin 4} (i : Nat) {x : Int32} (hd : decode M.2.1 pc = .ok (.istore_n k, 1)) (hi : (k : Nat) = i) (hn : i < M.2.2.1) (kk : V κ M Qf n q (pc + 1) (st1 lv i (.int x)) st μ) : V κ M Qf n q pc lv (.int x :: st) μ := by
  obtain ⟨p, l, e, R, s, m, args, below, meth, c, wd, A⟩ := κ
  intro hF ls H locs hl hP hD hS
  exact lv_istore_n hF.1 hF.2.1 hd hi hl hn (cvl_st1 _ _ _ (.int x)) (fun ls hl => (kk hF ls H locs hl hP hD hS))
theorem v_istore {i : Nat} {x : Int32} (hd : decode M.2.1 pc = .ok (.istore i, 2)) (hn : i < M.2.2.1) (kk : V κ M Qf n q (pc + 2) (st1 lv i (.int x)) st μ) : V κ M Qf n q pc lv (.int x :: st) μ := by
  obtain ⟨p, l, e, R, s, m, args, below, meth, c, wd, A⟩ := κ
  intro hF ls H locs hl hP hD hS
  exact lv_istore hF.1 hF.2.1 hd  hl hn (cvl_st1 _ _ _ (.int x)) (fun ls hl => (kk hF ls H locs hl hP hD hS))
theorem v_lload_n {k : Fin 4} (i : Nat) {x : Int64} (hd : decode M.2.1 pc = .ok (.lload_n k, 1)) (hi : (k : Nat) = i) (h : lkp lv i = some (.long x)) (kk : V κ M Qf n q (pc + 1) lv (.long x :: st) μ) : V κ M Qf n q pc lv (st) μ := by
  obtain ⟨p, l, e, R, s, m, args, below, meth, c, wd, A⟩ := κ
  intro hF ls H locs hl hP hD hS
  exact lv_lload_n hF.1 hF.2.1 hd hi (lkp_at hl h) (kk hF ls H locs hl hP hD hS)
theorem v_lload {i : Nat} {x : Int64} (hd : decode M.2.1 pc = .ok (.lload i, 2)) (h : lkp lv i = some (.long x)) (kk : V κ M Qf n q (pc + 2) lv (.long x :: st) μ) : V κ M Qf n q pc lv (st) μ := by
  obtain ⟨p, l, e, R, s, m, args, below, meth, c, wd, A⟩ := κ
  intro hF ls H locs hl hP hD hS
  exact lv_lload hF.1 hF.2.1 hd (lkp_at hl h) (kk hF ls H locs hl hP hD hS)
theorem v_lstore_n {k : Fin 4} (i : Nat) {x : Int64} (hd : decode M.2.1 pc = .ok (.lstore_n k, 1)) (hi : (k : Nat) = i) (hn : i + 1 < M.2.2.1) (kk : V κ M Qf n q (pc + 1) (st2 lv i (.long x)) st μ) : V κ M Qf n q pc lv (.long x :: st) μ := by
  obtain ⟨p, l, e, R, s, m, args, below, meth, c, wd, A⟩ := κ
  intro hF ls H locs hl hP hD hS
  exact lv_lstore_n hF.1 hF.2.1 hd hi hl hn (cvl_st2 _ _ _ (.long x)) (fun ls hl => (kk hF ls H locs hl hP hD hS))
theorem v_lstore {i : Nat} {x : Int64} (hd : decode M.2.1 pc = .ok (.lstore i, 2)) (hn : i + 1 < M.2.2.1) (kk : V κ M Qf n q (pc + 2) (st2 lv i (.long x)) st μ) : V κ M Qf n q pc lv (.long x :: st) μ := by
  obtain ⟨p, l, e, R, s, m, args, below, meth, c, wd, A⟩ := κ
  intro hF ls H locs hl hP hD hS
  exact lv_lstore hF.1 hF.2.1 hd  hl hn (cvl_st2 _ _ _ (.long x)) (fun ls hl => (kk hF ls H locs hl hP hD hS))
theorem v_aload_n {k : Fin 4} (i : Nat) {x : Nat} (hd : decode M.2.1 pc = .ok (.aload_n k, 1)) (hi : (k : Nat) = i) (h : lkp lv i = some (.ref x)) (kk : V κ M Qf n q (pc + 1) lv (.ref x :: st) μ) : V κ M Qf n q pc lv (st) μ := by
  obtain ⟨p, l, e, R, s, m, args, below, meth, c, wd, A⟩ := κ
  intro hF ls H locs hl hP hD hS
  exact lv_aload_n hF.1 hF.2.1 hd hi (lkp_at hl h) (kk hF ls H locs hl hP hD hS)
theorem v_aload {i : Nat} {x : Nat} (hd : decode M.2.1 pc = .ok (.aload i, 2)) (h : lkp lv i = some (.ref x)) (kk : V κ M Qf n q (pc + 2) lv (.ref x :: st) μ) : V κ M Qf n q pc lv (st) μ := by
  obtain ⟨p, l, e, R, s, m, args, below, meth, c, wd, A⟩ := κ
  intro hF ls H locs hl hP hD hS
  exact lv_aload hF.1 hF.2.1 hd (lkp_at hl h) (kk hF ls H locs hl hP hD hS)
theorem v_astore_n {k : Fin 4} (i : Nat) {x : Nat} (hd : decode M.2.1 pc = .ok (.astore_n k, 1)) (hi : (k : Nat) = i) (hn : i < M.2.2.1) (kk : V κ M Qf n q (pc + 1) (st1 lv i (.ref x)) st μ) : V κ M Qf n q pc lv (.ref x :: st) μ := by
  obtain ⟨p, l, e, R, s, m, args, below, meth, c, wd, A⟩ := κ
  intro hF ls H locs hl hP hD hS
  exact lv_astore_n hF.1 hF.2.1 hd hi hl hn (cvl_st1 _ _ _ (.ref x)) (fun ls hl => (kk hF ls H locs hl hP hD hS))
theorem v_astore {i : Nat} {x : Nat} (hd : decode M.2.1 pc = .ok (.astore i, 2)) (hn : i < M.2.2.1) (kk : V κ M Qf n q (pc + 2) (st1 lv i (.ref x)) st μ) : V κ M Qf n q pc lv (.ref x :: st) μ := by
  obtain ⟨p, l, e, R, s, m, args, below, meth, c, wd, A⟩ := κ
  intro hF ls H locs hl hP hD hS
  exact lv_astore hF.1 hF.2.1 hd  hl hn (cvl_st1 _ _ _ (.ref x)) (fun ls hl => (kk hF ls H locs hl hP hD hS))
theorem v_iinc {i : Nat} {d : Int} {x v : Int32} (hd : decode M.2.1 pc = .ok (.iinc i d, 3)) (h : lkp lv i = some (.int x)) (hv : x + Int32.ofInt d = v) (hn : i < M.2.2.1) (kk : V κ M Qf n q (pc + 3) (st1 lv i (.int v)) st μ) : V κ M Qf n q pc lv st μ := by
  obtain ⟨p, l, e, R, s, m, args, below, meth, c, wd, A⟩ := κ
  intro hF ls H locs hl hP hD hS
  obtain ⟨k, hk⟩ := List.getElem?_of_mem (List.mem_map.mpr ⟨(i, .int x), lkp_mem h, rfl⟩ : (i, cnc wd.1 (.int x)) ∈ cvl wd.1 lv)
  exact lv_iinc hF.1 hF.2.1 hd hl hk hv hn (cvl_st1 _ _ _ (.int v)) (fun ls hl => (kk hF ls H locs hl hP hD hS))
theorem v_iadd {x y : Int32} (hd : decode M.2.1 pc = .ok (.iadd, 1)) (kk : V κ M Qf n q (pc + 1) lv (.int (x + y) :: st) μ) : V κ M Qf n q pc lv (.int y :: .int x :: st) μ := by
  obtain ⟨p, l, e, R, s, m, args, below, meth, c, wd, A⟩ := κ
  intro hF ls H locs hl hP hD hS
  exact lv_iadd hF.1 hF.2.1 hd  (kk hF ls H locs hl hP hD hS)
theorem v_isub {x y : Int32} (hd : decode M.2.1 pc = .ok (.isub, 1)) (kk : V κ M Qf n q (pc + 1) lv (.int (x - y) :: st) μ) : V κ M Qf n q pc lv (.int y :: .int x :: st) μ := by
  obtain ⟨p, l, e, R, s, m, args, below, meth, c, wd, A⟩ := κ
  intro hF ls H locs hl hP hD hS
  exact lv_isub hF.1 hF.2.1 hd  (kk hF ls H locs hl hP hD hS)
theorem v_imul {x y : Int32} (hd : decode M.2.1 pc = .ok (.imul, 1)) (kk : V κ M Qf n q (pc + 1) lv (.int (x * y) :: st) μ) : V κ M Qf n q pc lv (.int y :: .int x :: st) μ := by
  obtain ⟨p, l, e, R, s, m, args, below, meth, c, wd, A⟩ := κ
  intro hF ls H locs hl hP hD hS
  exact lv_imul hF.1 hF.2.1 hd  (kk hF ls H locs hl hP hD hS)
theorem v_iand {x y : Int32} (hd : decode M.2.1 pc = .ok (.iand, 1)) (kk : V κ M Qf n q (pc + 1) lv (.int (x &&& y) :: st) μ) : V κ M Qf n q pc lv (.int y :: .int x :: st) μ := by
  obtain ⟨p, l, e, R, s, m, args, below, meth, c, wd, A⟩ := κ
  intro hF ls H locs hl hP hD hS
  exact lv_iand hF.1 hF.2.1 hd  (kk hF ls H locs hl hP hD hS)
theorem v_ior {x y : Int32} (hd : decode M.2.1 pc = .ok (.ior, 1)) (kk : V κ M Qf n q (pc + 1) lv (.int (x ||| y) :: st) μ) : V κ M Qf n q pc lv (.int y :: .int x :: st) μ := by
  obtain ⟨p, l, e, R, s, m, args, below, meth, c, wd, A⟩ := κ
  intro hF ls H locs hl hP hD hS
  exact lv_ior hF.1 hF.2.1 hd  (kk hF ls H locs hl hP hD hS)
theorem v_ixor {x y : Int32} (hd : decode M.2.1 pc = .ok (.ixor, 1)) (kk : V κ M Qf n q (pc + 1) lv (.int (x ^^^ y) :: st) μ) : V κ M Qf n q pc lv (.int y :: .int x :: st) μ := by
  obtain ⟨p, l, e, R, s, m, args, below, meth, c, wd, A⟩ := κ
  intro hF ls H locs hl hP hD hS
  exact lv_ixor hF.1 hF.2.1 hd  (kk hF ls H locs hl hP hD hS)
theorem v_ishl {x y : Int32} (hd : decode M.2.1 pc = .ok (.ishl, 1)) (kk : V κ M Qf n q (pc + 1) lv (.int (x <<< (y &&& 31)) :: st) μ) : V κ M Qf n q pc lv (.int y :: .int x :: st) μ := by
  obtain ⟨p, l, e, R, s, m, args, below, meth, c, wd, A⟩ := κ
  intro hF ls H locs hl hP hD hS
  exact lv_ishl hF.1 hF.2.1 hd  (kk hF ls H locs hl hP hD hS)
theorem v_ishr {x y : Int32} (hd : decode M.2.1 pc = .ok (.ishr, 1)) (kk : V κ M Qf n q (pc + 1) lv (.int (x >>> (y &&& 31)) :: st) μ) : V κ M Qf n q pc lv (.int y :: .int x :: st) μ := by
  obtain ⟨p, l, e, R, s, m, args, below, meth, c, wd, A⟩ := κ
  intro hF ls H locs hl hP hD hS
  exact lv_ishr hF.1 hF.2.1 hd  (kk hF ls H locs hl hP hD hS)
theorem v_idiv {x y : Int32} (hd : decode M.2.1 pc = .ok (.idiv, 1)) (hne : ¬ y = 0) (kk : V κ M Qf n q (pc + 1) lv (.int (x / y) :: st) μ) : V κ M Qf n q pc lv (.int y :: .int x :: st) μ := by
  obtain ⟨p, l, e, R, s, m, args, below, meth, c, wd, A⟩ := κ
  intro hF ls H locs hl hP hD hS
  exact lv_idiv hF.1 hF.2.1 hd hne (kk hF ls H locs hl hP hD hS)
theorem v_irem {x y : Int32} (hd : decode M.2.1 pc = .ok (.irem, 1)) (hne : ¬ y = 0) (kk : V κ M Qf n q (pc + 1) lv (.int (x - x / y * y) :: st) μ) : V κ M Qf n q pc lv (.int y :: .int x :: st) μ := by
  obtain ⟨p, l, e, R, s, m, args, below, meth, c, wd, A⟩ := κ
  intro hF ls H locs hl hP hD hS
  exact lv_irem hF.1 hF.2.1 hd hne (kk hF ls H locs hl hP hD hS)
theorem v_ladd {x y : Int64} (hd : decode M.2.1 pc = .ok (.ladd, 1)) (kk : V κ M Qf n q (pc + 1) lv (.long (x + y) :: st) μ) : V κ M Qf n q pc lv (.long y :: .long x :: st) μ := by
  obtain ⟨p, l, e, R, s, m, args, below, meth, c, wd, A⟩ := κ
  intro hF ls H locs hl hP hD hS
  exact lv_ladd hF.1 hF.2.1 hd  (kk hF ls H locs hl hP hD hS)
theorem v_lsub {x y : Int64} (hd : decode M.2.1 pc = .ok (.lsub, 1)) (kk : V κ M Qf n q (pc + 1) lv (.long (x - y) :: st) μ) : V κ M Qf n q pc lv (.long y :: .long x :: st) μ := by
  obtain ⟨p, l, e, R, s, m, args, below, meth, c, wd, A⟩ := κ
  intro hF ls H locs hl hP hD hS
  exact lv_lsub hF.1 hF.2.1 hd  (kk hF ls H locs hl hP hD hS)
theorem v_lmul {x y : Int64} (hd : decode M.2.1 pc = .ok (.lmul, 1)) (kk : V κ M Qf n q (pc + 1) lv (.long (x * y) :: st) μ) : V κ M Qf n q pc lv (.long y :: .long x :: st) μ := by
  obtain ⟨p, l, e, R, s, m, args, below, meth, c, wd, A⟩ := κ
  intro hF ls H locs hl hP hD hS
  exact lv_lmul hF.1 hF.2.1 hd  (kk hF ls H locs hl hP hD hS)
theorem v_ldiv {x y : Int64} (hd : decode M.2.1 pc = .ok (.ldiv, 1)) (hne : ¬ y = 0) (kk : V κ M Qf n q (pc + 1) lv (.long (x / y) :: st) μ) : V κ M Qf n q pc lv (.long y :: .long x :: st) μ := by
  obtain ⟨p, l, e, R, s, m, args, below, meth, c, wd, A⟩ := κ
  intro hF ls H locs hl hP hD hS
  exact lv_ldiv hF.1 hF.2.1 hd hne (kk hF ls H locs hl hP hD hS)
theorem v_lrem {x y : Int64} (hd : decode M.2.1 pc = .ok (.lrem, 1)) (hne : ¬ y = 0) (kk : V κ M Qf n q (pc + 1) lv (.long (x - x / y * y) :: st) μ) : V κ M Qf n q pc lv (.long y :: .long x :: st) μ := by
  obtain ⟨p, l, e, R, s, m, args, below, meth, c, wd, A⟩ := κ
  intro hF ls H locs hl hP hD hS
  exact lv_lrem hF.1 hF.2.1 hd hne (kk hF ls H locs hl hP hD hS)
theorem v_lcmp {x y : Int64} (hd : decode M.2.1 pc = .ok (.lcmp, 1)) (kk : V κ M Qf n q (pc + 1) lv (.int (lg_cmp x y) :: st) μ) : V κ M Qf n q pc lv (.long y :: .long x :: st) μ := by
  obtain ⟨p, l, e, R, s, m, args, below, meth, c, wd, A⟩ := κ
  intro hF ls H locs hl hP hD hS
  exact W.lcmp hF.1 hF.2.1 hd  (kk hF ls H locs hl hP hD hS)
theorem v_ineg {x : Int32} (hd : decode M.2.1 pc = .ok (.ineg, 1)) (kk : V κ M Qf n q (pc + 1) lv (.int (0 - x) :: st) μ) : V κ M Qf n q pc lv (.int x :: st) μ := by
  obtain ⟨p, l, e, R, s, m, args, below, meth, c, wd, A⟩ := κ
  intro hF ls H locs hl hP hD hS
  exact lv_ineg hF.1 hF.2.1 hd  (kk hF ls H locs hl hP hD hS)
theorem v_i2l {x : Int32} (hd : decode M.2.1 pc = .ok (.i2l, 1)) (kk : V κ M Qf n q (pc + 1) lv (.long x.toInt64 :: st) μ) : V κ M Qf n q pc lv (.int x :: st) μ := by
  obtain ⟨p, l, e, R, s, m, args, below, meth, c, wd, A⟩ := κ
  intro hF ls H locs hl hP hD hS
  exact lv_i2l hF.1 hF.2.1 hd rfl (kk hF ls H locs hl hP hD hS)
theorem v_l2i {x : Int64} (hd : decode M.2.1 pc = .ok (.l2i, 1)) (kk : V κ M Qf n q (pc + 1) lv (.int x.toInt32 :: st) μ) : V κ M Qf n q pc lv (.long x :: st) μ := by
  obtain ⟨p, l, e, R, s, m, args, below, meth, c, wd, A⟩ := κ
  intro hF ls H locs hl hP hD hS
  exact lv_l2i hF.1 hF.2.1 hd rfl (kk hF ls H locs hl hP hD hS)
theorem v_i2c {x : Int32} (hd : decode M.2.1 pc = .ok (.i2c, 1)) (kk : V κ M Qf n q (pc + 1) lv (.int (x.toUInt32 % 65536).toInt32 :: st) μ) : V κ M Qf n q pc lv (.int x :: st) μ := by
  obtain ⟨p, l, e, R, s, m, args, below, meth, c, wd, A⟩ := κ
  intro hF ls H locs hl hP hD hS
  exact lv_i2c hF.1 hF.2.1 hd rfl (kk hF ls H locs hl hP hD hS)
theorem v_dup {a : Value} (hd : decode M.2.1 pc = .ok (.dup, 1)) (ha : a.category = 1) (kk : V κ M Qf n q (pc + 1) lv (a :: a :: st) μ) : V κ M Qf n q pc lv (a :: st) μ := by
  obtain ⟨p, l, e, R, s, m, args, below, meth, c, wd, A⟩ := κ
  intro hF ls H locs hl hP hD hS
  exact lv_dup hF.1 hF.2.1 hd ((cnc_cat _ _).trans ha) (kk hF ls H locs hl hP hD hS)
theorem v_pop {a : Value} (hd : decode M.2.1 pc = .ok (.pop, 1)) (ha : a.category = 1) (kk : V κ M Qf n q (pc + 1) lv (st) μ) : V κ M Qf n q pc lv (a :: st) μ := by
  obtain ⟨p, l, e, R, s, m, args, below, meth, c, wd, A⟩ := κ
  intro hF ls H locs hl hP hD hS
  exact lv_pop hF.1 hF.2.1 hd ((cnc_cat _ _).trans ha) (kk hF ls H locs hl hP hD hS)
theorem v_dup2 {a b : Value} (hd : decode M.2.1 pc = .ok (.dup2, 1)) (ha : a.category = 1) (hb : b.category = 1) (kk : V κ M Qf n q (pc + 1) lv (a :: b :: a :: b :: st) μ) : V κ M Qf n q pc lv (a :: b :: st) μ := by
  obtain ⟨p, l, e, R, s, m, args, below, meth, c, wd, A⟩ := κ
  intro hF ls H locs hl hP hD hS
  exact lv_dup2_11 hF.1 hF.2.1 hd ((cnc_cat _ _).trans ha) ((cnc_cat _ _).trans hb) (kk hF ls H locs hl hP hD hS)
theorem v_if_eq {x : Int32} {off : Int} {tgt : Nat} (hd : decode M.2.1 pc = .ok (.ifCond .eq off, 3)) (ht : (pc : Int) + off = (tgt : Int)) (kt : x = 0 → V κ M Qf n q tgt lv st μ) (kf : ¬ x = 0 → V κ M Qf n q (pc + 3) lv st μ) : V κ M Qf n q pc lv (.int x :: st) μ := by
  obtain ⟨p, l, e, R, s, m, args, below, meth, c, wd, A⟩ := κ
  intro hF ls H locs hl hP hD hS
  exact lv_if_eq hF.1 hF.2.1 hd ht (fun hc => kt hc hF ls H locs hl hP hD hS) (fun hc => kf hc hF ls H locs hl hP hD hS)
theorem v_icmp_eq {x y : Int32} {off : Int} {tgt : Nat} (hd : decode M.2.1 pc = .ok (.if_icmp .eq off, 3)) (ht : (pc : Int) + off = (tgt : Int)) (kt : x = y → V κ M Qf n q tgt lv st μ) (kf : ¬ x = y → V κ M Qf n q (pc + 3) lv st μ) : V κ M Qf n q pc lv (.int y :: .int x :: st) μ := by
  obtain ⟨p, l, e, R, s, m, args, below, meth, c, wd, A⟩ := κ
  intro hF ls H locs hl hP hD hS
  exact lv_icmp_eq hF.1 hF.2.1 hd ht (fun hc => kt hc hF ls H locs hl hP hD hS) (fun hc => kf hc hF ls H locs hl hP hD hS)
theorem v_if_ne {x : Int32} {off : Int} {tgt : Nat} (hd : decode M.2.1 pc = .ok (.ifCond .ne off, 3)) (ht : (pc : Int) + off = (tgt : Int)) (kt : ¬ x = 0 → V κ M Qf n q tgt lv st μ) (kf : x = 0 → V κ M Qf n q (pc + 3) lv st μ) : V κ M Qf n q pc lv (.int x :: st) μ := by
  obtain ⟨p, l, e, R, s, m, args, below, meth, c, wd, A⟩ := κ
  intro hF ls H locs hl hP hD hS
  exact lv_if_ne hF.1 hF.2.1 hd ht (fun hc => kt hc hF ls H locs hl hP hD hS) (fun hc => kf hc hF ls H locs hl hP hD hS)
theorem v_icmp_ne {x y : Int32} {off : Int} {tgt : Nat} (hd : decode M.2.1 pc = .ok (.if_icmp .ne off, 3)) (ht : (pc : Int) + off = (tgt : Int)) (kt : ¬ x = y → V κ M Qf n q tgt lv st μ) (kf : x = y → V κ M Qf n q (pc + 3) lv st μ) : V κ M Qf n q pc lv (.int y :: .int x :: st) μ := by
  obtain ⟨p, l, e, R, s, m, args, below, meth, c, wd, A⟩ := κ
  intro hF ls H locs hl hP hD hS
  exact lv_icmp_ne hF.1 hF.2.1 hd ht (fun hc => kt hc hF ls H locs hl hP hD hS) (fun hc => kf hc hF ls H locs hl hP hD hS)
theorem v_if_lt {x : Int32} {off : Int} {tgt : Nat} (hd : decode M.2.1 pc = .ok (.ifCond .lt off, 3)) (ht : (pc : Int) + off = (tgt : Int)) (kt : x < 0 → V κ M Qf n q tgt lv st μ) (kf : ¬ x < 0 → V κ M Qf n q (pc + 3) lv st μ) : V κ M Qf n q pc lv (.int x :: st) μ := by
  obtain ⟨p, l, e, R, s, m, args, below, meth, c, wd, A⟩ := κ
  intro hF ls H locs hl hP hD hS
  exact lv_if_lt hF.1 hF.2.1 hd ht (fun hc => kt hc hF ls H locs hl hP hD hS) (fun hc => kf hc hF ls H locs hl hP hD hS)
theorem v_icmp_lt {x y : Int32} {off : Int} {tgt : Nat} (hd : decode M.2.1 pc = .ok (.if_icmp .lt off, 3)) (ht : (pc : Int) + off = (tgt : Int)) (kt : x < y → V κ M Qf n q tgt lv st μ) (kf : ¬ x < y → V κ M Qf n q (pc + 3) lv st μ) : V κ M Qf n q pc lv (.int y :: .int x :: st) μ := by
  obtain ⟨p, l, e, R, s, m, args, below, meth, c, wd, A⟩ := κ
  intro hF ls H locs hl hP hD hS
  exact lv_icmp_lt hF.1 hF.2.1 hd ht (fun hc => kt hc hF ls H locs hl hP hD hS) (fun hc => kf hc hF ls H locs hl hP hD hS)
theorem v_if_ge {x : Int32} {off : Int} {tgt : Nat} (hd : decode M.2.1 pc = .ok (.ifCond .ge off, 3)) (ht : (pc : Int) + off = (tgt : Int)) (kt : 0 ≤ x → V κ M Qf n q tgt lv st μ) (kf : ¬ 0 ≤ x → V κ M Qf n q (pc + 3) lv st μ) : V κ M Qf n q pc lv (.int x :: st) μ := by
  obtain ⟨p, l, e, R, s, m, args, below, meth, c, wd, A⟩ := κ
  intro hF ls H locs hl hP hD hS
  exact lv_if_ge hF.1 hF.2.1 hd ht (fun hc => kt hc hF ls H locs hl hP hD hS) (fun hc => kf hc hF ls H locs hl hP hD hS)
theorem v_icmp_ge {x y : Int32} {off : Int} {tgt : Nat} (hd : decode M.2.1 pc = .ok (.if_icmp .ge off, 3)) (ht : (pc : Int) + off = (tgt : Int)) (kt : y ≤ x → V κ M Qf n q tgt lv st μ) (kf : ¬ y ≤ x → V κ M Qf n q (pc + 3) lv st μ) : V κ M Qf n q pc lv (.int y :: .int x :: st) μ := by
  obtain ⟨p, l, e, R, s, m, args, below, meth, c, wd, A⟩ := κ
  intro hF ls H locs hl hP hD hS
  exact lv_icmp_ge hF.1 hF.2.1 hd ht (fun hc => kt hc hF ls H locs hl hP hD hS) (fun hc => kf hc hF ls H locs hl hP hD hS)
theorem v_if_gt {x : Int32} {off : Int} {tgt : Nat} (hd : decode M.2.1 pc = .ok (.ifCond .gt off, 3)) (ht : (pc : Int) + off = (tgt : Int)) (kt : 0 < x → V κ M Qf n q tgt lv st μ) (kf : ¬ 0 < x → V κ M Qf n q (pc + 3) lv st μ) : V κ M Qf n q pc lv (.int x :: st) μ := by
  obtain ⟨p, l, e, R, s, m, args, below, meth, c, wd, A⟩ := κ
  intro hF ls H locs hl hP hD hS
  exact lv_if_gt hF.1 hF.2.1 hd ht (fun hc => kt hc hF ls H locs hl hP hD hS) (fun hc => kf hc hF ls H locs hl hP hD hS)
theorem v_icmp_gt {x y : Int32} {off : Int} {tgt : Nat} (hd : decode M.2.1 pc = .ok (.if_icmp .gt off, 3)) (ht : (pc : Int) + off = (tgt : Int)) (kt : y < x → V κ M Qf n q tgt lv st μ) (kf : ¬ y < x → V κ M Qf n q (pc + 3) lv st μ) : V κ M Qf n q pc lv (.int y :: .int x :: st) μ := by
  obtain ⟨p, l, e, R, s, m, args, below, meth, c, wd, A⟩ := κ
  intro hF ls H locs hl hP hD hS
  exact lv_icmp_gt hF.1 hF.2.1 hd ht (fun hc => kt hc hF ls H locs hl hP hD hS) (fun hc => kf hc hF ls H locs hl hP hD hS)
theorem v_if_le {x : Int32} {off : Int} {tgt : Nat} (hd : decode M.2.1 pc = .ok (.ifCond .le off, 3)) (ht : (pc : Int) + off = (tgt : Int)) (kt : x ≤ 0 → V κ M Qf n q tgt lv st μ) (kf : ¬ x ≤ 0 → V κ M Qf n q (pc + 3) lv st μ) : V κ M Qf n q pc lv (.int x :: st) μ := by
  obtain ⟨p, l, e, R, s, m, args, below, meth, c, wd, A⟩ := κ
  intro hF ls H locs hl hP hD hS
  exact lv_if_le hF.1 hF.2.1 hd ht (fun hc => kt hc hF ls H locs hl hP hD hS) (fun hc => kf hc hF ls H locs hl hP hD hS)
theorem v_icmp_le {x y : Int32} {off : Int} {tgt : Nat} (hd : decode M.2.1 pc = .ok (.if_icmp .le off, 3)) (ht : (pc : Int) + off = (tgt : Int)) (kt : x ≤ y → V κ M Qf n q tgt lv st μ) (kf : ¬ x ≤ y → V κ M Qf n q (pc + 3) lv st μ) : V κ M Qf n q pc lv (.int y :: .int x :: st) μ := by
  obtain ⟨p, l, e, R, s, m, args, below, meth, c, wd, A⟩ := κ
  intro hF ls H locs hl hP hD hS
  exact lv_icmp_le hF.1 hF.2.1 hd ht (fun hc => kt hc hF ls H locs hl hP hD hS) (fun hc => kf hc hF ls H locs hl hP hD hS)
theorem v_goto {off : Int} {tgt : Nat} (hd : decode M.2.1 pc = .ok (.goto off, 3)) (ht : (pc : Int) + off = (tgt : Int)) (kk : V κ M Qf n q tgt lv st μ) : V κ M Qf n q pc lv st μ := by
  obtain ⟨p, l, e, R, s, m, args, below, meth, c, wd, A⟩ := κ
  intro hF ls H locs hl hP hD hS
  exact lv_goto hF.1 hF.2.1 hd ht (kk hF ls H locs hl hP hD hS)
theorem v_tsw_hit {dflt lo hi : Int} {offs : Array Int} {len : Nat} {x : Int32} {off : Int} {tgt : Nat} (v : Nat) (hx : x = nI v) (hv : v < 2 ^ 31) (hd : decode M.2.1 pc = .ok (.tableswitch dflt lo hi offs, len)) (h1 : ¬ (v : Int) < lo) (h2 : ¬ hi < (v : Int)) (ho : offs[((v : Int) - lo).toNat]? = some off) (ht : (pc : Int) + off = (tgt : Int)) (kk : V κ M Qf n q tgt lv st μ) : V κ M Qf n q pc lv (.int x :: st) μ := by
  obtain ⟨p, l, e, R, s, m, args, below, meth, c, wd, A⟩ := κ
  intro hF ls H locs hl hP hD hS
  have e : x.toInt = (v : Int) := by rw [hx]; exact nI_toInt hv
  exact lv_tableIn hF.1 hF.2.1 hd (by rw [e]; exact h1) (by rw [e]; exact h2) (by rw [e]; exact ho) ht (kk hF ls H locs hl hP hD hS)
theorem v_tsw_miss {dflt lo hi : Int} {offs : Array Int} {len : Nat} {x : Int32} {tgt : Nat} (hd : decode M.2.1 pc = .ok (.tableswitch dflt lo hi offs, len)) (h0 : 0 ≤ lo) (h1 : hi < 2 ^ 31) (hx : ∀ v : Nat, lo ≤ (v : Int) → (v : Int) ≤ hi → ¬ x = nI v) (ht : (pc : Int) + dflt = (tgt : Int)) (kk : V κ M Qf n q tgt lv st μ) : V κ M Qf n q pc lv (.int x :: st) μ := by
  obtain ⟨p, l, e, R, s, m, args, below, meth, c, wd, A⟩ := κ
  intro hF ls H locs hl hP hD hS
  refine lv_tableOut hF.1 hF.2.1 hd ?_ ht (kk hF ls H locs hl hP hD hS)
  rcases Int.lt_or_le x.toInt lo with h | h
  · exact Or.inl h
  · rcases Int.lt_or_le hi x.toInt with h' | h'
    · exact Or.inr h'
    · exfalso
      refine hx x.toInt.toNat (by omega) (by omega) (Int32.toInt_inj.mp ?_)
      rw [nI_toInt (by omega)]
      omega
theorem v_ldc {idx : Nat} {v : Int32} (hd : decode M.2.1 pc = .ok (.ldc idx, 2)) (hw : Cond.constant M.1.cls idx v ∈ TBL) (kk : V κ M Qf n q (pc + 2) lv (.int v :: st) μ) : V κ M Qf n q pc lv st μ := by
  obtain ⟨p, l, e, R, s, m, args, below, meth, c, wd, A⟩ := κ
  intro hF ls H locs hl hP hD hS
  exact lv_ldc hF.1 hF.2.1 hF.2.2.2.1 (hF.2.2.2.2.1 _ hw) hd (kk hF ls H locs hl hP hD hS)
theorem v_ldc2 {idx : Nat} {v : Int64} (hd : decode M.2.1 pc = .ok (.ldc2_w idx, 3)) (hw : Cond.constantLong M.1.cls idx v ∈ TBL) (kk : V κ M Qf n q (pc + 3) lv (.long v :: st) μ) : V κ M Qf n q pc lv st μ := by
  obtain ⟨p, l, e, R, s, m, args, below, meth, c, wd, A⟩ := κ
  intro hF ls H locs hl hP hD hS
  exact lv_ldc2 hF.1 hF.2.1 hF.2.2.2.1 (hF.2.2.2.2.1 _ hw) hd (kk hF ls H locs hl hP hD hS)
theorem v_pick {lv' : List (Nat × Value)} (ks : List Nat) (h : lv_pick lv ks = lv') (kk : V κ M Qf n q pc lv' st μ) : V κ M Qf n q pc lv st μ := by
  obtain ⟨p, l, e, R, s, m, args, below, meth, c, wd, A⟩ := κ
  intro hF ls H locs hl hP hD hS
  refine kk hF ls H locs ⟨hl.1, hl.2.1, fun a ha => ?_⟩ hP hD hS
  obtain ⟨b, hb, rfl⟩ := List.mem_map.mp ha
  rw [← h] at hb
  obtain ⟨k, -, hk⟩ := List.mem_filterMap.mp hb
  exact hl.2.2 _ (List.mem_map.mpr ⟨b, List.mem_of_getElem? hk, rfl⟩)
theorem v_getI {C : String} {T : u_T} {N ci j o idx k : Nat} (hs : shp k = .inl ci) (hs9 : ci ≠ 9) (hc : vwCl[ci]? = some (C, T, N)) (hin : ∀ w ∈ u_ws C T N, w ∈ TBL) (hj : j < N) (hw : Cond.fieldLink M.1.cls idx (T j).1 (T j).2.1 (T j).2.2.1 ∈ TBL) (hf : (fdT.getD ci [])[j]? = some (0, o)) (hd : decode M.2.1 pc = .ok (.getfield idx, 3)) (kk : V κ M Qf n q (pc + 3) lv (.int (μ.1 k j) :: st) μ) : V κ M Qf n q pc lv (.ref k :: st) μ := by
  obtain ⟨p, l, e, R, s, m, args, below, meth, c, wd, A⟩ := κ
  intro hF ls H locs hl hP hD hS
  exact va_get hF.1 hF.2.1 hF.2.2.2.2.1 hin hF.2.2.2.1 hF.2.2.2.2.2.2.2.1 hP k (cells_at hs (fun h => hs9 (Sum.inl.inj h))) hc j hj (hF.2.2.2.2.1 _ hw) (fun _ h => h) (flds_at hf) hd (kk hF ls H locs hl hP hD hS)
theorem v_getL {C : String} {T : u_T} {N ci j o idx k : Nat} (hs : shp k = .inl ci) (hs9 : ci ≠ 9) (hc : vwCl[ci]? = some (C, T, N)) (hin : ∀ w ∈ u_ws C T N, w ∈ TBL) (hj : j < N) (hw : Cond.fieldLink M.1.cls idx (T j).1 (T j).2.1 (T j).2.2.1 ∈ TBL) (hf : (fdT.getD ci [])[j]? = some (1, o)) (hd : decode M.2.1 pc = .ok (.getfield idx, 3)) (kk : V κ M Qf n q (pc + 3) lv (.long (μ.2 k j) :: st) μ) : V κ M Qf n q pc lv (.ref k :: st) μ := by
  obtain ⟨p, l, e, R, s, m, args, below, meth, c, wd, A⟩ := κ
  intro hF ls H locs hl hP hD hS
  exact va_get hF.1 hF.2.1 hF.2.2.2.2.1 hin hF.2.2.2.1 hF.2.2.2.2.2.2.2.1 hP k (cells_at hs (fun h => hs9 (Sum.inl.inj h))) hc j hj (hF.2.2.2.2.1 _ hw) (fun _ h => h) (flds_at hf) hd (kk hF ls H locs hl hP hD hS)
theorem v_getR {C : String} {T : u_T} {N ci j o idx k : Nat} (hs : shp k = .inl ci) (hs9 : ci ≠ 9) (hc : vwCl[ci]? = some (C, T, N)) (hin : ∀ w ∈ u_ws C T N, w ∈ TBL) (hj : j < N) (hw : Cond.fieldLink M.1.cls idx (T j).1 (T j).2.1 (T j).2.2.1 ∈ TBL) (hf : (fdT.getD ci [])[j]? = some (2, o)) (hd : decode M.2.1 pc = .ok (.getfield idx, 3)) (kk : V κ M Qf n q (pc + 3) lv (.ref (k + o) :: st) μ) : V κ M Qf n q pc lv (.ref k :: st) μ := by
  obtain ⟨p, l, e, R, s, m, args, below, meth, c, wd, A⟩ := κ
  intro hF ls H locs hl hP hD hS
  exact va_get hF.1 hF.2.1 hF.2.2.2.2.1 hin hF.2.2.2.1 hF.2.2.2.2.2.2.2.1 hP k (cells_at hs (fun h => hs9 (Sum.inl.inj h))) hc j hj (hF.2.2.2.2.1 _ hw) (fun _ h => h) (flds_at hf) hd (kk hF ls H locs hl hP hD hS)
theorem v_putI {C : String} {T : u_T} {N ci j o idx k : Nat} (hs : shp k = .inl ci) (hs9 : ci ≠ 9) (hc : vwCl[ci]? = some (C, T, N)) (hin : ∀ w ∈ u_ws C T N, w ∈ TBL) (hj : j < N) (hw : Cond.fieldLink M.1.cls idx (T j).1 (T j).2.1 (T j).2.2.1 ∈ TBL) (hf : (fdT.getD ci [])[j]? = some (0, o)) (ty0 : Nat → FieldType) (hty : ∀ k, k < N → parseFieldDescriptor (T k).2.2.1 = some (ty0 k)) (hnm : ∀ a, a < N → ∀ b, b < N → a ≠ b → (T a).2.1 ≠ (T b).2.1) (hfin : (T j).2.2.2 = false) {x : Int32} (hn : narrow (ty0 j) (.int x) = .int x) (hfit : fits (ty0 j) (.int x) = true) (hd : decode M.2.1 pc = .ok (.putfield idx, 3)) (kk : V κ M Qf n q (pc + 3) lv st (mset μ k j x)) : V κ M Qf n q pc lv (.int x :: .ref k :: st) μ := by
  obtain ⟨p, l, e, R, s, m, args, below, meth, c, wd, A⟩ := κ
  intro hF ls H locs hl hP hD hS
  have hat := cells_at (wd := wd) (μ := μ) hs (fun h => hs9 (Sum.inl.inj h))
  have hset : (flds wd.1 μ k ci).set j (.int x) = flds wd.1 (mset μ k j x) k ci := flds_set hf (by simp [fv, mset]) (fun i hi => by simp [mset, hi])
  have hcel : cel wd (mset μ k j x) k = (wd.1 k, .inr (ci, flds wd.1 (mset μ k j x) k ci)) := by unfold cel; rw [hs]; rfl
  refine va_put (v := .int x) hF.1 hF.2.1 hF.2.2.2.2.1 hin ty0 hty hnm hF.2.2.2.1 hF.2.2.2.2.2.2.2.1 hP hD hS k hat hc j hj (hF.2.2.2.2.1 _ hw) (fun _ h => h) hfin (hty j hj) hn hfit (by rw [flds_len]; exact (List.getElem?_eq_some_iff.mp hf).1) hd (fun H1 locs1 hP1 hD1 hS1 => ?_)
  rw [hset, cells_set hcel (fun i hi => by simp [mset, hi])] at hP1 hD1
  exact kk hF ls H1 locs1 hl hP1 hD1 hS1
theorem v_putL {C : String} {T : u_T} {N ci j o idx k : Nat} (hs : shp k = .inl ci) (hs9 : ci ≠ 9) (hc : vwCl[ci]? = some (C, T, N)) (hin : ∀ w ∈ u_ws C T N, w ∈ TBL) (hj : j < N) (hw : Cond.fieldLink M.1.cls idx (T j).1 (T j).2.1 (T j).2.2.1 ∈ TBL) (hf : (fdT.getD ci [])[j]? = some (1, o)) (ty0 : Nat → FieldType) (hty : ∀ k, k < N → parseFieldDescriptor (T k).2.2.1 = some (ty0 k)) (hnm : ∀ a, a < N → ∀ b, b < N → a ≠ b → (T a).2.1 ≠ (T b).2.1) (hfin : (T j).2.2.2 = false) {x : Int64} (hn : narrow (ty0 j) (.long x) = .long x) (hfit : fits (ty0 j) (.long x) = true) (hd : decode M.2.1 pc = .ok (.putfield idx, 3)) (kk : V κ M Qf n q (pc + 3) lv st (msetL μ k j x)) : V κ M Qf n q pc lv (.long x :: .ref k :: st) μ := by
  obtain ⟨p, l, e, R, s, m, args, below, meth, c, wd, A⟩ := κ
  intro hF ls H locs hl hP hD hS
  have hat := cells_at (wd := wd) (μ := μ) hs (fun h => hs9 (Sum.inl.inj h))
  have hset : (flds wd.1 μ k ci).set j (.long x) = flds wd.1 (msetL μ k j x) k ci := flds_set hf (by simp [fv, msetL]) (fun i hi => by simp [msetL, hi])
  have hcel : cel wd (msetL μ k j x) k = (wd.1 k, .inr (ci, flds wd.1 (msetL μ k j x) k ci)) := by unfold cel; rw [hs]; rfl
  refine va_put (v := .long x) hF.1 hF.2.1 hF.2.2.2.2.1 hin ty0 hty hnm hF.2.2.2.1 hF.2.2.2.2.2.2.2.1 hP hD hS k hat hc j hj (hF.2.2.2.2.1 _ hw) (fun _ h => h) hfin (hty j hj) hn hfit (by rw [flds_len]; exact (List.getElem?_eq_some_iff.mp hf).1) hd (fun H1 locs1 hP1 hD1 hS1 => ?_)
  rw [hset, cells_set hcel (fun i hi => by simp [msetL, hi])] at hP1 hD1
  exact kk hF ls H1 locs1 hl hP1 hD1 hS1
theorem v_iald {k N : Nat} {i : Int32} (hs : shp k = .inr (0, N)) (hin : vp_in i N) (hd : decode M.2.1 pc = .ok (.iaload, 1)) (kk : V κ M Qf n q (pc + 1) lv (.int (μ.1 k i.toNatClampNeg) :: st) μ) : V κ M Qf n q pc lv (.int i :: .ref k :: st) μ := by
  obtain ⟨p, l, e, R, s, m, args, below, meth, c, wd, A⟩ := κ
  intro hF ls H locs hl hP hD hS
  exact va_iald hF.1 hF.2.1 hF.2.2.2.2.2.2.2.1 hP k 0 (cells_at hs (fun h => by cases h)) rfl hin hd (kk hF ls H locs hl hP hD hS)
theorem v_zald {k N : Nat} {i : Int32} (hs : shp k = .inr (1, N)) (hin : vp_in i N) (hd : decode M.2.1 pc = .ok (.baload, 1)) (kk : V κ M Qf n q (pc + 1) lv (.int (μ.1 k i.toNatClampNeg) :: st) μ) : V κ M Qf n q pc lv (.int i :: .ref k :: st) μ := by
  obtain ⟨p, l, e, R, s, m, args, below, meth, c, wd, A⟩ := κ
  intro hF ls H locs hl hP hD hS
  exact va_zald hF.1 hF.2.1 hF.2.2.2.2.2.2.2.1 hP k 1 (cells_at hs (fun h => by cases h)) rfl hin hd (kk hF ls H locs hl hP hD hS)
theorem v_aald {k N : Nat} {i : Int32} (hs : shp k = .inr (2, N)) (hin : vp_in i N) (hd : decode M.2.1 pc = .ok (.aaload, 1)) (kk : V κ M Qf n q (pc + 1) lv (.ref (k + 3 + 5 * i.toNatClampNeg) :: st) μ) : V κ M Qf n q pc lv (.int i :: .ref k :: st) μ := by
  obtain ⟨p, l, e, R, s, m, args, below, meth, c, wd, A⟩ := κ
  intro hF ls H locs hl hP hD hS
  exact va_aldq hF.1 hF.2.1 hF.2.2.2.2.2.2.2.1 hP k 2 (cells_at hs (fun h => by cases h)) rfl hin hd (kk hF ls H locs hl hP hD hS)
theorem v_alen {k N : Nat} (hs : shp k = .inr (0, N)) (hd : decode M.2.1 pc = .ok (.arraylength, 1)) (kk : V κ M Qf n q (pc + 1) lv (.int (nI N) :: st) μ) : V κ M Qf n q pc lv (.ref k :: st) μ := by
  obtain ⟨p, l, e, R, s, m, args, below, meth, c, wd, A⟩ := κ
  intro hF ls H locs hl hP hD hS
  exact va_alen hF.1 hF.2.1 hF.2.2.2.2.2.2.2.1 hP k 0 (cells_at hs (fun h => by cases h)) rfl rfl hd (kk hF ls H locs hl hP hD hS)
theorem v_iast {k N : Nat} {i x : Int32} (hs : shp k = .inr (0, N)) (hin : vp_in i N) (hd : decode M.2.1 pc = .ok (.iastore, 1)) (kk : V κ M Qf n q (pc + 1) lv st (mset μ k i.toNatClampNeg x)) : V κ M Qf n q pc lv (.int x :: .int i :: .ref k :: st) μ := by
  obtain ⟨p, l, e, R, s, m, args, below, meth, c, wd, A⟩ := κ
  intro hF ls H locs hl hP hD hS
  have hcel : cel wd (mset μ k i.toNatClampNeg x) k = (wd.1 k, .inl (wd.2.2.1, N, .inl (upd (μ.1 k) i.toNatClampNeg x))) := by
    unfold cel
    rw [hs]
    refine congrArg (fun f => (wd.1 k, (Sum.inl (wd.2.2.1, N, Sum.inl f) : va_E))) (funext fun b => ?_)
    simp [mset, upd]
  refine va_iast hF.1 hF.2.1 hF.2.2.2.2.2.2.2.1 hP hD hS k 0 (cells_at hs (fun h => by cases h)) rfl hin hd (fun H1 locs1 hP1 hD1 hS1 => ?_)
  rw [cells_set hcel (fun a ha => by simp [mset, ha])] at hP1 hD1
  exact kk hF ls H1 locs1 hl hP1 hD1 hS1
theorem v_zast {k N : Nat} {i x : Int32} (hs : shp k = .inr (1, N)) (hin : vp_in i N) (hd : decode M.2.1 pc = .ok (.bastore, 1)) (kk : V κ M Qf n q (pc + 1) lv st (mset μ k i.toNatClampNeg (vp_nar .boolean x))) : V κ M Qf n q pc lv (.int x :: .int i :: .ref k :: st) μ := by
  obtain ⟨p, l, e, R, s, m, args, below, meth, c, wd, A⟩ := κ
  intro hF ls H locs hl hP hD hS
  have hcel : cel wd (mset μ k i.toNatClampNeg (vp_nar .boolean x)) k = (wd.1 k, .inl (wd.2.2.2.1, N, .inl (upd (μ.1 k) i.toNatClampNeg (vp_nar .boolean x)))) := by
    unfold cel
    rw [hs]
    refine congrArg (fun f => (wd.1 k, (Sum.inl (wd.2.2.2.1, N, Sum.inl f) : va_E))) (funext fun b => ?_)
    simp [mset, upd]
  refine va_zast hF.1 hF.2.1 hF.2.2.2.2.2.2.2.1 hP hD hS k 1 (cells_at hs (fun h => by cases h)) rfl hin hd (fun H1 locs1 hP1 hD1 hS1 => ?_)
  rw [cells_set hcel (fun a ha => by simp [mset, ha])] at hP1 hD1
  exact kk hF ls H1 locs1 hl hP1 hD1 hS1
theorem v_max {x y : Int32} {idx : Nat} (hw : Cond.methodLink M.1.cls idx Lib.Math.max.name ∈ TBL) (hw2 : Cond.static Lib.Math.max.name ∈ TBL) (hw3 : Cond.initialized "java/lang/Math" ∈ TBL) (hw4 : Cond.code Lib.Math.max.name Lib.Math.max.code 2 (some .int) ∈ TBL) (hdp : 1 ≤ M.2.2.2.2) (hst : (st.map fun v => v.category).sum ≤ 8) (hd : decode M.2.1 pc = .ok (.invokestatic idx, 3)) (kk : V κ M Qf n q (pc + 3) lv (.int (if x < y then y else x) :: st) μ) : V κ M Qf n q pc lv (.int y :: .int x :: st) μ := by
  obtain ⟨p, l, e, R, s, m, args, below, meth, c, wd, A⟩ := κ
  intro hF ls H locs hl hP hD hS
  have hR := hF.2.2.2.2.2.2.2.2.2.2.2
  exact va_mmax hF.1 hF.2.1 (hF.2.2.1.trans hl.1.symm) hF.2.2.2.1 (hF.2.2.2.2.1 _ hw) (hF.2.2.2.2.1 _ hw2) (hF.2.2.2.2.1 _ hw3) (hF.2.2.2.2.1 _ hw4) (Nat.le_trans hdp hR.1) (by rw [cat_sum]; omega) hR.2.2.1 hR.2.2.2 hd (kk hF ls H locs hl hP hD hS)
theorem v_min {x y : Int32} {idx : Nat} (hw : Cond.methodLink M.1.cls idx Lib.Math.min.name ∈ TBL) (hw2 : Cond.static Lib.Math.min.name ∈ TBL) (hw3 : Cond.initialized "java/lang/Math" ∈ TBL) (hw4 : Cond.code Lib.Math.min.name Lib.Math.min.code 2 (some .int) ∈ TBL) (hdp : 1 ≤ M.2.2.2.2) (hst : (st.map fun v => v.category).sum ≤ 8) (hd : decode M.2.1 pc = .ok (.invokestatic idx, 3)) (kk : V κ M Qf n q (pc + 3) lv (.int (if y < x then y else x) :: st) μ) : V κ M Qf n q pc lv (.int y :: .int x :: st) μ := by
  obtain ⟨p, l, e, R, s, m, args, below, meth, c, wd, A⟩ := κ
  intro hF ls H locs hl hP hD hS
  have hR := hF.2.2.2.2.2.2.2.2.2.2.2
  exact va_mmin hF.1 hF.2.1 (hF.2.2.1.trans hl.1.symm) hF.2.2.2.1 (hF.2.2.2.2.1 _ hw) (hF.2.2.2.2.1 _ hw2) (hF.2.2.2.2.1 _ hw3) (hF.2.2.2.2.1 _ hw4) (Nat.le_trans hdp hR.1) (by rw [cat_sum]; omega) hR.2.2.1 hR.2.2.2 hd (kk hF ls H locs hl hP hD hS)
theorem v_abs {x : Int32} {idx : Nat} (hw : Cond.methodLink M.1.cls idx Lib.Math.abs.name ∈ TBL) (hw2 : Cond.static Lib.Math.abs.name ∈ TBL) (hw3 : Cond.initialized "java/lang/Math" ∈ TBL) (hw4 : Cond.code Lib.Math.abs.name Lib.Math.abs.code 1 (some .int) ∈ TBL) (hdp : 1 ≤ M.2.2.2.2) (hst : (st.map fun v => v.category).sum ≤ 8) (hd : decode M.2.1 pc = .ok (.invokestatic idx, 3)) (kk : V κ M Qf n q (pc + 3) lv (.int (if 0 ≤ x then x else 0 - x) :: st) μ) : V κ M Qf n q pc lv (.int x :: st) μ := by
  obtain ⟨p, l, e, R, s, m, args, below, meth, c, wd, A⟩ := κ
  intro hF ls H locs hl hP hD hS
  have hR := hF.2.2.2.2.2.2.2.2.2.2.2
  exact va_mabs hF.1 hF.2.1 (hF.2.2.1.trans hl.1.symm) hF.2.2.2.1 (hF.2.2.2.2.1 _ hw) (hF.2.2.2.2.1 _ hw2) (hF.2.2.2.2.1 _ hw3) (hF.2.2.2.2.1 _ hw4) (Nat.le_trans hdp hR.1) (by rw [cat_sum]; omega) hR.2.2.1 hR.2.2.2 hd (kk hF ls H locs hl hP hD hS)
end VR
section VQ
variable {κ : Kx} {M : Mi} {Q : Option Value → Mm → Prop} {n q pc : Nat} {lv : List (Nat × Value)} {st : List Value} {μ : Mm}
theorem v_iret {x : Int32} (hr : M.2.2.2.1 = some .int) (hd : decode M.2.1 pc = .ok (.ireturn, 1)) (kk : Q (some (.int x)) μ) : V κ M (fin κ Q) 0 0 pc lv ([.int x]) μ := by
  obtain ⟨p, l, e, R, s, m, args, below, meth, c, wd, A⟩ := κ
  intro hF ls H locs hl hP hD hS
  exact W.iret hF.1 hF.2.1 (by first | exact hF.2.2.2.2.2.1.trans hr | exact hF.2.2.2.2.2.1)  (fun t ht _ => ⟨⟨some (.int x), μ, rfl, kk, by rw [ht]; exact hP, hD⟩, hS.F ht⟩) hS.2.2 hd (hlocks := hF.2.2.2.2.2.2.1)
theorem v_zret {x : Int32} (hr : M.2.2.2.1 = some .boolean) (hz : narrow .boolean (.int x) = .int x) (hd : decode M.2.1 pc = .ok (.ireturn, 1)) (kk : Q (some (.int x)) μ) : V κ M (fin κ Q) 0 0 pc lv ([.int x]) μ := by
  obtain ⟨p, l, e, R, s, m, args, below, meth, c, wd, A⟩ := κ
  intro hF ls H locs hl hP hD hS
  exact W.zret hF.1 hF.2.1 (by first | exact hF.2.2.2.2.2.1.trans hr | exact hF.2.2.2.2.2.1) hz (fun t ht _ => ⟨⟨some (.int x), μ, rfl, kk, by rw [ht]; exact hP, hD⟩, hS.F ht⟩) hS.2.2 hd (hlocks := hF.2.2.2.2.2.2.1)
theorem v_lret {x : Int64} (hr : M.2.2.2.1 = some .long) (hd : decode M.2.1 pc = .ok (.lreturn, 1)) (kk : Q (some (.long x)) μ) : V κ M (fin κ Q) 0 0 pc lv ([.long x]) μ := by
  obtain ⟨p, l, e, R, s, m, args, below, meth, c, wd, A⟩ := κ
  intro hF ls H locs hl hP hD hS
  exact W.lret hF.1 hF.2.1 (by first | exact hF.2.2.2.2.2.1.trans hr | exact hF.2.2.2.2.2.1)  (fun t ht _ => ⟨⟨some (.long x), μ, rfl, kk, by rw [ht]; exact hP, hD⟩, hS.F ht⟩) hS.2.2 hd (hlocks := hF.2.2.2.2.2.2.1)
theorem v_vret  (hr : M.2.2.2.1 = none) (hd : decode M.2.1 pc = .ok (.return_, 1)) (kk : Q (none) μ) : V κ M (fin κ Q) 0 0 pc lv ([]) μ := by
  obtain ⟨p, l, e, R, s, m, args, below, meth, c, wd, A⟩ := κ
  intro hF ls H locs hl hP hD hS
  exact W.vret hF.1 hF.2.1 (by first | exact hF.2.2.2.2.2.1.trans hr | exact hF.2.2.2.2.2.1)  (fun t ht _ => ⟨⟨none, μ, rfl, kk, by rw [ht]; exact hP, hD⟩, hS.F ht⟩) hS.2.2 hd (hlocks := hF.2.2.2.2.2.2.1)
theorem v_aret {k : Nat} {C : String} (hr : M.2.2.2.1 = some (.object C)) (hd : decode M.2.1 pc = .ok (.areturn, 1)) (kk : Q (some (.ref k)) μ) : V κ M (fin κ Q) 0 0 pc lv ([.ref k]) μ := by
  obtain ⟨p, l, e, R, s, m, args, below, meth, c, wd, A⟩ := κ
  intro hF ls H locs hl hP hD hS
  exact W.aret hF.1 hF.2.1 (by first | exact hF.2.2.2.2.2.1.trans hr | exact hF.2.2.2.2.2.1) (Or.inl ⟨C, rfl⟩) (Or.inr ⟨_, rfl⟩) (fun t ht _ => ⟨⟨some (.ref k), μ, rfl, kk, by rw [ht]; exact hP, hD⟩, hS.F ht⟩) hS.2.2 hd (hlocks := hF.2.2.2.2.2.2.1)
end VQ
section VC
variable {κ : Kx} {M M' : Mi} {Qf : State → Prop} {Q : Option Value → Mm → Prop} {n q pc na idx : Nat} {lv : List (Nat × Value)} {st st0 as : List Value} {μ : Mm}
/-- what a call needs of the one that is called -/
def CW (M' : Mi) (na : Nat) : Prop := Cond.code M'.1 M'.2.1 M'.2.2.1 M'.2.2.2.1 ∈ TBL ∧ Cond.initialized M'.1.cls ∈ TBL ∧ M'.1.cls ≠ "java/lang/invoke/MethodHandle" ∧ M'.1.cls ≠ "java/lang/invoke/VarHandle" ∧ (parseMethodDescriptor M'.1.desc).map (fun d => d.parameters.length) = some na ∧ M'.2.2.1 ≤ 21
theorem CW.good (h : CW M' na) : GoodIn TBL (.code M'.1 M'.2.1 M'.2.2.1 M'.2.2.2.1 :: TBL) := by
  intro w hw
  rcases List.mem_cons.mp hw with e | hw
  · subst e
    exact TBL_good _ h.1
  · exact TBL_good w hw
theorem opt_map (ad : Nat → Nat) (r : Option Value) (st : List Value) : (r.map (cnc ad)).toList ++ st.map (cnc ad) = (r.toList ++ st).map (cnc ad) := by
  cases r <;> simp
theorem v_calling {p : Program} {l : Launch} {e : Env} {R : Room} {s : State} {m : MethodId} {args : Array Value} {below : List Frame} {meth : Method} {c : Code} {wd : Wd} {A : Nat → Prop} {ls : Array Slot} {H : Heap} {locs : List Loc} {a : Array Value} {stk : List Value}
    (hF : Fx (p, l, e, R, s, m, args, below, meth, c, wd, A) M n q) (hl : lv_has ls M.2.2.1 (cvl wd.1 lv)) (hS : va_S A s.heap H locs) (hsub : ∀ a, va_A (cells wd μ) H.size a → A a)
    (hrun : va_Run p l e R s m args below meth c H locs n q 0 0 (F0 m pc ls stk) (st.map (cnc wd.1)) (Qcm wd Q (va_A (cells wd μ) H.size) a) (va_A (cells wd μ) H.size))
    (kk : ∀ r μ', Q r μ' → V (p, l, e, R, s, m, args, below, meth, c, wd, A) M Qf n q (pc + 3) lv (r.toList ++ st) μ') : W p l e R s m args below meth c H locs n q Qf (F0 m pc ls stk) := by
  intro T hT X
  obtain ⟨v, st₀, t, T', L, h0, X', hL, e1, e2, ⟨⟨r, μ', hv, hQ, hP', hD'⟩, hz, hk⟩, stp⟩ := hrun T hT X
  cases hv
  rw [h0] at hz hk
  rw [opt_map] at stp
  obtain ⟨t2, a1, b1⟩ := kk r μ' hQ hF ls T'.heap (locs ++ L) hl (by rw [e1]; exact hP') (hD'.weaken (fun _ _ _ h => hsub _ h))
    ⟨Nat.le_trans hS.1 (by rw [e1]; exact hz), fun x h1 h2 => by rw [e1, hk x (Nat.lt_of_lt_of_le h1 hS.1) (fun z => h2 (hsub x z))]; exact hS.2.1 x h1 h2, fun x hx => by
      rcases List.mem_append.mp hx with h | h
      · exact hS.2.2 x h
      · exact hsub _ (hL x h)⟩ T' rfl X'
  exact ⟨t2, stp t2 a1, b1⟩
theorem v_sub {s : State} {wd : Wd} {A : Nat → Prop} {H : Heap} {locs : List Loc} (hD : va_D A (cells wd μ)) (hS : va_S A s.heap H locs) (hA : ∀ a, s.heap.size ≤ a → A a) : ∀ a, va_A (cells wd μ) H.size a → A a := by
  intro a h
  rcases h with ⟨k, e, h⟩ | h
  · exact hD.2 k (a, e) h
  · exact hA a (Nat.le_trans hS.1 h)
theorem v_pre {s : State} {wd : Wd} {A : Nat → Prop} {H : Heap} {locs : List Loc} (hP : va_P wd.2.1 vwCl (cells wd μ) H) (hD : va_D A (cells wd μ)) (hS : va_S A s.heap H locs) (hA : ∀ a, s.heap.size ≤ a → A a) (hK : va_K wd.2.1 vwCl (tysL wd) s) (hStr : sStr wd A s s.heap) (hN : sNest s) :
    ∀ U : State, U.heap = H → s.WarmedH U.vm → PcM wd as μ H.size (as.map (cnc wd.1)).toArray U := by
  intro U hU hW
  refine ⟨rfl, by rw [hU], by rw [hU]; exact hP, va_K.moved hW.alike hK, hD.weaken (fun _ _ _ _ => trivial), ?_, hN.warm hW⟩
  rw [hU]
  exact ((hStr.kept hS.2.1).narrow (v_sub hD hS hA)).warm hW
set_option maxHeartbeats 1000000 in
theorem v_callS (hC : Con M' as μ Q) (hM : CW M' na) (hs : Cond.static M'.1 ∈ TBL) (hw : Cond.methodLink M.1.cls idx M'.1 ∈ TBL) (hlen : as.length = na) (hdp : M'.2.2.2.2 + 1 ≤ M.2.2.2.2) (hcat : (st.map fun v => v.category).sum ≤ 8) (hd : decode M.2.1 pc = .ok (.invokestatic idx, 3)) (hst : st0 = as.reverse ++ st) (kk : ∀ r μ', Q r μ' → V κ M Qf n q (pc + 3) lv (r.toList ++ st) μ') : V κ M Qf n q pc lv st0 μ := by
  obtain ⟨p, l, e, R, s, m, args, below, meth, c, wd, A⟩ := κ
  intro hF ls H locs hl hP hD hS
  have hF0 := hF
  obtain ⟨hx, hb, hml, hown, hts, -, -, hK, hA, hStr, hN, hr1, hr2, hr3, hr4⟩ := hF
  have hsub := v_sub hD hS hA
  refine v_calling hF0 hl hS hsub (va_runS (As := as.map (cnc wd.1)) (rest := st.map (cnc wd.1)) (Ts := TBL) (own := M.1.cls) (n := na) ⟨hx, hb, hml, hown, hts⟩ (hC l wd H.size) ⟨callB_of na hts hM.good rfl rfl rfl (hts _ hM.2.1) (hts _ hw) ⟨hM.2.2.1, hM.2.2.2.1, hM.2.2.2.2.1⟩ ⟨?_, ?_⟩, hts _ hs⟩ ⟨PcM.blind, v_pre hP hD hS hA hK hStr hN⟩ rfl ?_ hl.1 ?_ (lv_room ?_) hd ⟨hr3, hr4⟩) kk
  · show M'.2.2.2.2 + 1 ≤ R.frames
    omega
  · have := hM.2.2.2.2.2
    show 8 + (M'.2.2.1 + 11) + 40 * M'.2.2.2.2 ≤ R.locals
    omega
  · rw [List.length_map]
    exact hlen
  · show st0.map (cnc wd.1) = _
    rw [hst, List.map_append, List.map_reverse]
  · rw [cat_sum]
    exact hcat
set_option maxHeartbeats 1000000 in
theorem v_callN (hC : Con M' as μ Q) (hM : CW M' na) (hs : Cond.static M'.1 ∈ TBL) (hw : (M.1.cls, idx, M'.1) ∈ NWL) (hlen : as.length = na) (hdp : M'.2.2.2.2 + 1 ≤ M.2.2.2.2) (hcat : (st.map fun v => v.category).sum ≤ 8) (hd : decode M.2.1 pc = .ok (.invokestatic idx, 3)) (hst : st0 = as.reverse ++ st) (kk : ∀ r μ', Q r μ' → V κ M Qf n q (pc + 3) lv (r.toList ++ st) μ') : V κ M Qf n q pc lv st0 μ := by
  obtain ⟨p, l, e, R, s, m, args, below, meth, c, wd, A⟩ := κ
  intro hF ls H locs hl hP hD hS
  have hF0 := hF
  obtain ⟨hx, hb, hml, hown, hts, -, -, hK, hA, hStr, hN, hr1, hr2, hr3, hr4⟩ := hF
  have hsub := v_sub hD hS hA
  refine v_calling hF0 hl hS hsub (va_runSN (As := as.map (cnc wd.1)) (rest := st.map (cnc wd.1)) (Ts := TBL) (own := M.1.cls) (host := "SlateHills") (n := na) ⟨hx, hb, hml, hown, hts⟩ (hC l wd H.size) ⟨va_cnB na hts hM.good rfl rfl rfl (hN _ hw) (hts _ hM.2.1) ⟨hM.2.2.1, hM.2.2.2.1, hM.2.2.2.2.1⟩ ⟨?_, ?_⟩, hts _ hs, trivial⟩ ⟨PcM.blind, v_pre hP hD hS hA hK hStr hN⟩ rfl ?_ hl.1 ?_ (lv_room ?_) hd ⟨hr3, hr4⟩) kk
  · show M'.2.2.2.2 + 1 ≤ R.frames
    omega
  · have := hM.2.2.2.2.2
    show 8 + (M'.2.2.1 + 11) + 40 * M'.2.2.2.2 ≤ R.locals
    omega
  · rw [List.length_map]
    exact hlen
  · show st0.map (cnc wd.1) = _
    rw [hst, List.map_append, List.map_reverse]
  · rw [cat_sum]
    exact hcat
set_option maxHeartbeats 1000000 in
theorem v_callV {k ci : Nat} {T : u_T} {N : Nat} (hC : Con M' (.ref k :: as) μ Q) (hM : CW M' na) (hk : shp k = .inl ci) (hk9 : ci ≠ 9) (hc : vwCl[ci]? = some (M'.1.cls, T, N)) (hi : Cond.instanceMethod M'.1 ∈ TBL) (hse : Cond.selects M'.1.cls M'.1 M'.1 ∈ TBL) (hw : Cond.methodLink M.1.cls idx M'.1 ∈ TBL) (hlen : as.length = na) (hdp : M'.2.2.2.2 + 1 ≤ M.2.2.2.2) (hcat : (st.map fun v => v.category).sum ≤ 8) (hd : decode M.2.1 pc = .ok (.invokevirtual idx, 3)) (hst : st0 = as.reverse ++ .ref k :: st) (kk : ∀ r μ', Q r μ' → V κ M Qf n q (pc + 3) lv (r.toList ++ st) μ') : V κ M Qf n q pc lv st0 μ := by
  obtain ⟨p, l, e, R, s, m, args, below, meth, c, wd, A⟩ := κ
  intro hF ls H locs hl hP hD hS
  have hF0 := hF
  obtain ⟨hx, hb, hml, hown, hts, -, -, hK, hA, hStr, hN, hr1, hr2, hr3, hr4⟩ := hF
  have hsub := v_sub hD hS hA
  refine v_calling hF0 hl hS hsub (va_runV (C := M'.1.cls) (b := wd.1 k) (As := as.map (cnc wd.1)) (rest := st.map (cnc wd.1)) (Ts := TBL) (own := M.1.cls) (n := na) ⟨hx, hb, hml, hown, hts⟩ (hC l wd H.size) ⟨callB_of na hts hM.good rfl rfl rfl (hts _ hM.2.1) (hts _ hw) ⟨hM.2.2.1, hM.2.2.2.1, hM.2.2.2.2.1⟩ ⟨?_, ?_⟩, hts _ hi, hts _ hse⟩ ⟨PcM.blind, va_recv hK hP hc (cells_at hk (fun h => hk9 (Sum.inl.inj h))), v_pre hP hD hS hA hK hStr hN⟩ rfl ?_ hl.1 ?_ (lv_room ?_) hd ⟨hr3, hr4⟩) kk
  · show M'.2.2.2.2 + 1 ≤ R.frames
    omega
  · have := hM.2.2.2.2.2
    show 8 + (M'.2.2.1 + 11) + 40 * M'.2.2.2.2 ≤ R.locals
    omega
  · rw [List.length_map]
    exact hlen
  · show st0.map (cnc wd.1) = _
    rw [hst, List.map_append, List.map_reverse]
    rfl
  · rw [cat_sum]
    exact hcat
set_option maxHeartbeats 1000000 in
theorem v_copy {k0 k1 N0 N1 : Nat} {sp dp cnt : Int32} (hw : Cond.methodLink M.1.cls idx arraycopyName ∈ TBL) (hw1 : Cond.native arraycopyName ∈ TBL) (hw2 : Cond.static arraycopyName ∈ TBL) (hw3 : Cond.initialized "java/lang/System" ∈ TBL) (hs0 : shp k0 = .inr (0, N0)) (hs1 : shp k1 = .inr (0, N1)) (hdp : 1 ≤ M.2.2.2.2) (hcat : (st.map fun v => v.category).sum ≤ 8) (hd : decode M.2.1 pc = .ok (.invokestatic idx, 3)) (h1 : ¬ sp < 0) (h2 : ¬ dp < 0) (h3 : ¬ cnt < 0) (h4 : sp.toNatClampNeg + cnt.toNatClampNeg ≤ N0) (h5 : dp.toNatClampNeg + cnt.toNatClampNeg ≤ N1) (kk : V κ M Qf n q (pc + 3) lv st (mcpy μ k0 k1 sp.toNatClampNeg dp.toNatClampNeg cnt.toNatClampNeg)) : V κ M Qf n q pc lv (.int cnt :: .int dp :: .ref k1 :: .int sp :: .ref k0 :: st) μ := by
  obtain ⟨p, l, e, R, s, m, args, below, meth, c, wd, A⟩ := κ
  intro hF ls H locs hl hP hD hS
  have hR := hF.2.2.2.2.2.2.2.2.2.2.2
  have hcel : cel wd (mcpy μ k0 k1 sp.toNatClampNeg dp.toNatClampNeg cnt.toNatClampNeg) k1 = (wd.1 k1, .inl (wd.2.2.1, N1, .inl (va_cpy (μ.1 k0) (μ.1 k1) sp.toNatClampNeg dp.toNatClampNeg cnt.toNatClampNeg))) := by
    unfold cel
    rw [hs1]
    refine congrArg (fun f => (wd.1 k1, (Sum.inl (wd.2.2.1, N1, Sum.inl f) : va_E))) (funext fun b => ?_)
    simp [mcpy]
  refine va_copyi hF.1 hF.2.1 (hF.2.2.1.trans hl.1.symm) hF.2.2.2.1 (hF.2.2.2.2.1 _ hw) (hF.2.2.2.2.1 _ hw1) (hF.2.2.2.2.1 _ hw2) (hF.2.2.2.2.1 _ hw3) hF.2.2.2.2.2.2.2.1 hP hD hS k0 k1 0 0 (cells_at hs0 (fun h => by cases h)) (cells_at hs1 (fun h => by cases h)) rfl rfl rfl h1 h2 h3 h4 h5 (fun i _ => rfl) (Nat.le_trans hdp hR.1) ?_ hd (fun H1 locs1 hP1 hD1 hS1 => ?_)
  · rw [cat_sum]
    have : nativeFrameWords "java/lang/System" "arraycopy" 5 + 11 ≤ 32 := by decide +kernel
    omega
  · rw [cells_set hcel (fun a ha => by simp [mcpy, ha])] at hP1 hD1
    exact kk hF ls H1 locs1 hl hP1 hD1 hS1
end VC
