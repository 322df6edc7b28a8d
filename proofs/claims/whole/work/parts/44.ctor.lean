/-! ===== constructors: a world as a list ===== -/
abbrev Mj : Type := Mi × Nat × Nat
def wdK (κ : Kx) : Wd := κ.2.2.2.2.2.2.2.2.2.2.1
def Fy (κ : Kx) (M : Mj) : Prop := match κ with
  | (p, _, _, R, s, m, args, _, meth, c, wd, A) => p.tables.exec = Jvm.exec ∧ c.code = M.1.2.1 ∧ c.maxLocals = M.1.2.2.1 ∧ s.vm.findClass M.1.1.cls = some m.cls ∧ (∀ w ∈ TBL, w.before args s = true) ∧ meth.sig.returnType = M.1.2.2.2.1 ∧ meth.locks = false ∧ va_K wd.2.1 vwCl (tysL wd) s ∧ (∀ a, s.heap.size ≤ a → A a) ∧ va_AO RX0 s ∧ M.1.2.2.2.2 ≤ R.frames ∧ 40 * M.1.2.2.2.2 ≤ R.locals ∧ M.2.1 ≤ R.cells ∧ M.2.2 ≤ R.slots ∧ meth.name = M.1.1.name
def Y (κ : Kx) (M : Mj) (Qf : State → Prop) (n q pc : Nat) (lv : List (Nat × Value)) (st : List Value) (ws : va_W) : Prop :=
  Fy κ M → match κ with
  | (p, l, e, R, s, m, args, below, meth, c, wd, A) => ∀ (ls : Array Slot) (H : Heap) (locs : List Loc), lv_has ls M.1.2.2.1 lv → va_P wd.2.1 vwCl ws H → va_D A ws → va_S A s.heap H locs → W p l e R s m args below meth c H locs n q Qf (F0 m pc ls st)
def QcY (wd : Wd) (Q : va_W → Prop) (A : Nat → Prop) : Array Value → State → Outcome → State → Prop := va_Qv Q (fun ws t => va_P wd.2.1 vwCl ws t.heap ∧ va_D A ws) A
def finY (κ : Kx) (Q : va_W → Prop) (mc ms : Nat) : State → Prop := match κ with
  | (_, _, _, _, s, _, args, below, _, _, wd, A) => MQ below (QcY wd Q A) args s mc ms A
def PcY (wd : Wd) (as : List Value) (ws : va_W) (sz : Nat) : Array Value → State → Prop := va_Pc as (fun U => U.heap.size = sz ∧ va_P wd.2.1 vwCl ws U.heap ∧ va_K wd.2.1 vwCl (tysL wd) U ∧ va_D (fun _ => True) ws ∧ va_AO RX0 U)
def ConY (wd : Wd) (M : Mj) (as : List Value) (ws : va_W) (Q : va_W → Prop) : Prop := ∀ (l : Launch) (sz : Nat), Met l M.1.1 (.code M.1.1 M.1.2.1 M.1.2.2.1 M.1.2.2.2.1 :: TBL) { frames := M.1.2.2.2.2, cells := M.2.1, slots := M.2.2, locals := 40 * M.1.2.2.2.2 } (PcY wd as ws sz) (QcY wd Q (va_A ws sz)) M.2.1 M.2.2 (va_A ws sz)
theorem PcY.blind {wd : Wd} {as : List Value} {ws : va_W} {sz : Nat} : FrameBlind (PcY wd as ws sz) := by
  intro a U g mk h
  obtain ⟨h0, h1, h2, h3, h4, h5⟩ := h
  exact ⟨h0, h1, h2, va_K.moved (u := U) (U := U.calling g mk a) (Vm.Alike.refl U.vm) h3, h4, va_AO.moved (u := U) (U := U.calling g mk a) (Vm.Alike.refl U.vm) h5⟩
set_option maxHeartbeats 1000000 in
theorem ConY.of {wd : Wd} {M : Mj} {as : List Value} {ws : va_W} {Q : va_W → Prop} (hy : plainName M.1.1.cls = true) (hn : (lg_sl as).length ≤ M.1.2.2.1) (h : ∀ κ, wdK κ = wd → Y κ M (finY κ Q M.2.1 M.2.2) 0 0 0 (lv_args 0 as) [] ws) : ConY wd M as ws Q := by
  intro l sz
  refine Met.ofW (cc := M.1.2.1) (maxL := M.1.2.2.1) (ret := M.1.2.2.2.1) hy rfl ?_
  intro p e s m args below meth c s₁ B hml hv
  obtain ⟨rfl, hsz, hP, hK, hD0, hAO⟩ := hv
  have hts := atoms_spec (ws := (.code M.1.1 M.1.2.1 M.1.2.2.1 M.1.2.2.2.1 :: TBL)) B.pre
  have hown : s.vm.findClass M.1.1.cls = some m.cls := findClass_of_methodNamed B.named
  have hnm : meth.name = M.1.1.name := (name_of_methodNamed B.named B.method).1
  subst hsz
  have hD := hD0.self (sz := s.heap.size)
  have hA : ∀ q : Nat, s.heap.size ≤ q → va_A ws s.heap.size q := fun q h => Or.inr h
  have hS : va_S (va_A ws s.heap.size) s.heap s.heap [] := va_S.rf
  have hl := lv_entry as (n := M.1.2.2.1) hn
  rw [lg_entry_eq]
  exact h (p, l, e, _, s, m, _, below, meth, c, wd, va_A ws s.heap.size) rfl ⟨B.exec, B.bytes, hml, hown, fun w hw => hts w (List.mem_cons_of_mem _ hw), B.returns, B.notSynchronized, hK, hA, hAO, Nat.le_refl _, Nat.le_refl _, Nat.le_refl _, Nat.le_refl _, hnm⟩ _ s.heap [] hl hP hD hS
theorem lkpR {ls : Array Slot} {nL : Nat} {lv : List (Nat × Value)} (h : lv_has ls nL lv) {i : Nat} {v : Value} (hk : lkp lv i = some v) : ls[i]? = some (.val v) := h.2.2 (i, v) (lkp_mem hk)
/-- behind a call: the callee's cells stood last -/
theorem yjoin {A0 : Nat → Prop} {D : va_G} {cl : List vw_C} {w0 wc w1 : va_W} {H H1 : Heap} (hP : va_P D cl (w0 ++ wc) H) (hD : va_D A0 (w0 ++ wc)) (hk : ∀ q : Nat, q < H.size → ¬ va_A wc H.size q → H1[q]? = H[q]?) (hF : ∀ q, va_A wc H.size q → A0 q) (hP1 : va_P D cl w1 H1) (hD1 : va_D (va_A wc H.size) w1) : va_P D cl (w0 ++ w1) H1 ∧ va_D A0 (w0 ++ w1) := by
  have lft : ∀ (k : Nat) (q : Nat × va_E), w0[k]? = some q → k < w0.length ∧ (w0 ++ wc)[k]? = some q := fun k q h => by
    have hlt := (List.getElem?_eq_some_iff.mp h).1
    exact ⟨hlt, by rw [List.getElem?_append_left hlt]; exact h⟩
  have apart : ∀ (k : Nat) (q : Nat × va_E), w0[k]? = some q → q.1 < H.size ∧ ¬ va_A wc H.size q.1 := by
    intro k q hq
    obtain ⟨h1, h2⟩ := lft k q hq
    have hl := (hP k q h2).lt
    refine ⟨hl, fun h => ?_⟩
    rcases h with ⟨k2, e, h⟩ | h
    · have h4 : (w0 ++ wc)[w0.length + k2]? = some (q.1, e) := by rw [List.getElem?_append_right (by omega), Nat.add_sub_cancel_left]; exact h
      have hij := hD.1 k (w0.length + k2) q (q.1, e) h2 h4 rfl
      omega
    · omega
  refine ⟨va_P.app (fun k q hq => ?_) hP1, va_D.app ⟨fun i j x y hx hy => hD.1 i j x y (lft i x hx).2 (lft j y hy).2, fun k q hq => hD.2 k q (lft k q hq).2⟩ (hD1.weaken (fun k q _ h => hF q.1 h)) (fun i j x y hx hy hxy => ?_)⟩
  · obtain ⟨g1, g2⟩ := apart k q hq
    exact (hP k q (lft k q hq).2).kept (hk q.1 g1 g2)
  · exact (apart i x hx).2 (by rw [hxy]; exact hD1.2 j y hy)
theorem arrV_cg {cA : ClassId} {N : Nat} {f g : Nat → Value} (h : ∀ j, j < N → f j = g j) : arrV cA N f = arrV cA N g := by
  unfold arrV
  congr 1
  apply Array.ext
  · simp
  · intro i h1 h2
    simp only [Array.getElem_ofFn]
    exact h i (by simpa using h1)
/-- an array's row, told otherwise -/
theorem va_P.row {D : va_G} {cl : List vw_C} {ws : va_W} {H : Heap} {q0 a N : Nat} {cA : ClassId} {f g : Nat → Int32} (h : va_P D cl ws H) (he : ws[q0]? = some (a, .inl (cA, N, .inl f))) (hg : ∀ j, j < N → f j = g j) : va_P D cl (ws.set q0 (a, .inl (cA, N, .inl g))) H := by
  intro k x hx
  rw [List.getElem?_set] at hx
  split at hx
  · next hk =>
    subst hk
    split at hx
    · cases hx
      have z := h _ _ he
      show H[a]? = some (arrV cA N (fun j => .int (g j)))
      rw [arrV_cg (g := fun j => .int (f j)) (fun j hj => by rw [hg j hj])]
      exact z
    · cases hx
  · exact h k x hx
section YR
variable {κ : Kx} {M : Mj} {Qf : State → Prop} {n q pc : Nat} {lv : List (Nat × Value)} {st : List Value} {ws : va_W}
theorem y_iconst {i : Int} {v : Int32} (hd : decode M.1.2.1 pc = .ok (.iconst i, 1)) (hv : Int32.ofInt i = v) (kk : Y κ M Qf n q (pc + 1) lv (.int v :: st) ws) : Y κ M Qf n q pc lv (st) ws := by
  obtain ⟨p, l, e, R, s, m, args, below, meth, c, wd, A⟩ := κ
  intro hF ls H locs hl hP hD hS
  exact lv_iconst hF.1 hF.2.1 hd hv (kk hF ls H locs hl hP hD hS)
theorem y_bipush {i : Int} {v : Int32} (hd : decode M.1.2.1 pc = .ok (.bipush i, 2)) (hv : (Int8.ofInt i).toInt32 = v) (kk : Y κ M Qf n q (pc + 2) lv (.int v :: st) ws) : Y κ M Qf n q pc lv (st) ws := by
  obtain ⟨p, l, e, R, s, m, args, below, meth, c, wd, A⟩ := κ
  intro hF ls H locs hl hP hD hS
  exact lv_bipush hF.1 hF.2.1 hd hv (kk hF ls H locs hl hP hD hS)
theorem y_sipush {i : Int} {v : Int32} (hd : decode M.1.2.1 pc = .ok (.sipush i, 3)) (hv : (Int16.ofInt i).toInt32 = v) (kk : Y κ M Qf n q (pc + 3) lv (.int v :: st) ws) : Y κ M Qf n q pc lv (st) ws := by
  obtain ⟨p, l, e, R, s, m, args, below, meth, c, wd, A⟩ := κ
  intro hF ls H locs hl hP hD hS
  exact lv_sipush hF.1 hF.2.1 hd hv (kk hF ls H locs hl hP hD hS)
theorem y_lconst {i : Fin 2} {v : Int64} (hd : decode M.1.2.1 pc = .ok (.lconst i, 1)) (hv : Int64.ofNat (i : Nat) = v) (kk : Y κ M Qf n q (pc + 1) lv (.long v :: st) ws) : Y κ M Qf n q pc lv (st) ws := by
  obtain ⟨p, l, e, R, s, m, args, below, meth, c, wd, A⟩ := κ
  intro hF ls H locs hl hP hD hS
  exact lv_lconst hF.1 hF.2.1 hd hv (kk hF ls H locs hl hP hD hS)
theorem y_iload_n {k : Fin 4} (i : Nat) {x : Int32} (hd : decode M.1.2.1 pc = .ok (.iload_n k, 1)) (hi : (k : Nat) = i) (h : lkp lv i = some (.int x)) (kk : Y κ M Qf n q (pc + 1) lv (.int x :: st) ws) : Y κ M Qf n q pc lv (st) ws := by
  obtain ⟨p, l, e, R, s, m, args, below, meth, c, wd, A⟩ := κ
  intro hF ls H locs hl hP hD hS
  exact lv_iload_n hF.1 hF.2.1 hd hi (lkpR hl h) (kk hF ls H locs hl hP hD hS)
theorem y_aload_n {k : Fin 4} (i : Nat) {x : Nat} (hd : decode M.1.2.1 pc = .ok (.aload_n k, 1)) (hi : (k : Nat) = i) (h : lkp lv i = some (.ref x)) (kk : Y κ M Qf n q (pc + 1) lv (.ref x :: st) ws) : Y κ M Qf n q pc lv (st) ws := by
  obtain ⟨p, l, e, R, s, m, args, below, meth, c, wd, A⟩ := κ
  intro hF ls H locs hl hP hD hS
  exact lv_aload_n hF.1 hF.2.1 hd hi (lkpR hl h) (kk hF ls H locs hl hP hD hS)
theorem y_istore_n {k : Fin 4} (i : Nat) {x : Int32} {lv' : List (Nat × Value)} (hd : decode M.1.2.1 pc = .ok (.istore_n k, 1)) (hi : (k : Nat) = i) (hn : i < M.1.2.2.1) (hlv : (i, Value.int x) :: lv.filter (fun q => !(q.1 == i) && !(q.1 + 1 == i && q.2.category == 2)) = lv') (kk : Y κ M Qf n q (pc + 1) lv' st ws) : Y κ M Qf n q pc lv (.int x :: st) ws := by
  obtain ⟨p, l, e, R, s, m, args, below, meth, c, wd, A⟩ := κ
  intro hF ls H locs hl hP hD hS
  exact lv_istore_n hF.1 hF.2.1 hd hi hl hn hlv (fun ls hl => (kk hF ls H locs hl hP hD hS))
theorem y_astore_n {k : Fin 4} (i : Nat) {x : Nat} {lv' : List (Nat × Value)} (hd : decode M.1.2.1 pc = .ok (.astore_n k, 1)) (hi : (k : Nat) = i) (hn : i < M.1.2.2.1) (hlv : (i, Value.ref x) :: lv.filter (fun q => !(q.1 == i) && !(q.1 + 1 == i && q.2.category == 2)) = lv') (kk : Y κ M Qf n q (pc + 1) lv' st ws) : Y κ M Qf n q pc lv (.ref x :: st) ws := by
  obtain ⟨p, l, e, R, s, m, args, below, meth, c, wd, A⟩ := κ
  intro hF ls H locs hl hP hD hS
  exact lv_astore_n hF.1 hF.2.1 hd hi hl hn hlv (fun ls hl => (kk hF ls H locs hl hP hD hS))
theorem y_iinc {i : Nat} {d : Int} {x v : Int32} {lv' : List (Nat × Value)} (k : Nat) (hd : decode M.1.2.1 pc = .ok (.iinc i d, 3)) (h : lv[k]? = some (i, .int x)) (hv : x + Int32.ofInt d = v) (hn : i < M.1.2.2.1) (hlv : (i, Value.int v) :: lv.filter (fun q => !(q.1 == i) && !(q.1 + 1 == i && q.2.category == 2)) = lv') (kk : Y κ M Qf n q (pc + 3) lv' st ws) : Y κ M Qf n q pc lv st ws := by
  obtain ⟨p, l, e, R, s, m, args, below, meth, c, wd, A⟩ := κ
  intro hF ls H locs hl hP hD hS
  exact lv_iinc hF.1 hF.2.1 hd hl h hv hn hlv (fun ls hl => (kk hF ls H locs hl hP hD hS))
theorem y_iadd {x y : Int32} (hd : decode M.1.2.1 pc = .ok (.iadd, 1)) (kk : Y κ M Qf n q (pc + 1) lv (.int (x + y) :: st) ws) : Y κ M Qf n q pc lv (.int y :: .int x :: st) ws := by
  obtain ⟨p, l, e, R, s, m, args, below, meth, c, wd, A⟩ := κ
  intro hF ls H locs hl hP hD hS
  exact lv_iadd hF.1 hF.2.1 hd  (kk hF ls H locs hl hP hD hS)
theorem y_dup {a : Value} (hd : decode M.1.2.1 pc = .ok (.dup, 1)) (ha : a.category = 1) (kk : Y κ M Qf n q (pc + 1) lv (a :: a :: st) ws) : Y κ M Qf n q pc lv (a :: st) ws := by
  obtain ⟨p, l, e, R, s, m, args, below, meth, c, wd, A⟩ := κ
  intro hF ls H locs hl hP hD hS
  exact lv_dup hF.1 hF.2.1 hd ha (kk hF ls H locs hl hP hD hS)
theorem y_icmp_ge {x y : Int32} {off : Int} {tgt : Nat} (hd : decode M.1.2.1 pc = .ok (.if_icmp .ge off, 3)) (ht : (pc : Int) + off = (tgt : Int)) (kt : y ≤ x → Y κ M Qf n q tgt lv st ws) (kf : ¬ y ≤ x → Y κ M Qf n q (pc + 3) lv st ws) : Y κ M Qf n q pc lv (.int y :: .int x :: st) ws := by
  obtain ⟨p, l, e, R, s, m, args, below, meth, c, wd, A⟩ := κ
  intro hF ls H locs hl hP hD hS
  exact lv_icmp_ge hF.1 hF.2.1 hd ht (fun hc => kt hc hF ls H locs hl hP hD hS) (fun hc => kf hc hF ls H locs hl hP hD hS)
theorem y_icmp_gt {x y : Int32} {off : Int} {tgt : Nat} (hd : decode M.1.2.1 pc = .ok (.if_icmp .gt off, 3)) (ht : (pc : Int) + off = (tgt : Int)) (kt : y < x → Y κ M Qf n q tgt lv st ws) (kf : ¬ y < x → Y κ M Qf n q (pc + 3) lv st ws) : Y κ M Qf n q pc lv (.int y :: .int x :: st) ws := by
  obtain ⟨p, l, e, R, s, m, args, below, meth, c, wd, A⟩ := κ
  intro hF ls H locs hl hP hD hS
  exact lv_icmp_gt hF.1 hF.2.1 hd ht (fun hc => kt hc hF ls H locs hl hP hD hS) (fun hc => kf hc hF ls H locs hl hP hD hS)
theorem y_goto {off : Int} {tgt : Nat} (hd : decode M.1.2.1 pc = .ok (.goto off, 3)) (ht : (pc : Int) + off = (tgt : Int)) (kk : Y κ M Qf n q tgt lv st ws) : Y κ M Qf n q pc lv st ws := by
  obtain ⟨p, l, e, R, s, m, args, below, meth, c, wd, A⟩ := κ
  intro hF ls H locs hl hP hD hS
  exact lv_goto hF.1 hF.2.1 hd ht (kk hF ls H locs hl hP hD hS)
theorem y_iast (q0 : Nat) {a N : Nat} {f : Nat → Int32} {i x : Int32} (ha : ws[q0]? = some (a, .inl ((wdK κ).2.2.1, N, .inl f))) (hin : vp_in i N) (hd : decode M.1.2.1 pc = .ok (.iastore, 1)) (kk : Y κ M Qf n q (pc + 1) lv st (ws.set q0 (a, .inl ((wdK κ).2.2.1, N, .inl (upd f i.toNatClampNeg x))))) : Y κ M Qf n q pc lv (.int x :: .int i :: .ref a :: st) ws := by
  obtain ⟨p, l, e, R, s, m, args, below, meth, c, wd, A⟩ := κ
  intro hF ls H locs hl hP hD hS
  exact va_iast hF.1 hF.2.1 hF.2.2.2.2.2.2.2.1 hP hD hS q0 0 ha rfl hin hd (fun H1 locs1 hP1 hD1 hS1 => kk hF ls H1 locs1 hl hP1 hD1 hS1)
theorem y_alen (q0 : Nat) {a N : Nat} {f : Nat → Int32} (ha : ws[q0]? = some (a, .inl ((wdK κ).2.2.1, N, .inl f))) (hd : decode M.1.2.1 pc = .ok (.arraylength, 1)) (kk : Y κ M Qf n q (pc + 1) lv (.int (nI N) :: st) ws) : Y κ M Qf n q pc lv (.ref a :: st) ws := by
  obtain ⟨p, l, e, R, s, m, args, below, meth, c, wd, A⟩ := κ
  intro hF ls H locs hl hP hD hS
  exact va_alen hF.1 hF.2.1 hF.2.2.2.2.2.2.2.1 hP q0 0 ha rfl rfl hd (kk hF ls H locs hl hP hD hS)
theorem y_obj {a idx : Nat} (hw : Cond.methodLink M.1.1.cls idx objectInit ∈ TBL) (hdp : 1 ≤ M.1.2.2.2.2) (hcat : (st.map fun v => v.category).sum ≤ 8) (hd : decode M.1.2.1 pc = .ok (.invokespecial idx, 3)) (kk : Y κ M Qf n q (pc + 3) lv st ws) : Y κ M Qf n q pc lv (.ref a :: st) ws := by
  obtain ⟨p, l, e, R, s, m, args, below, meth, c, wd, A⟩ := κ
  intro hF ls H locs hl hP hD hS
  have r := hF.2.2.2.2.2.2.2.2.2.2
  exact W.objInit hF.1 hF.2.1 hF.2.2.2.1 (hF.2.2.2.2.1 _ hw) (hF.2.2.2.2.1 _ wd_10) (hF.2.2.2.2.1 _ wd_11) rfl (hl.1.trans hF.2.2.1.symm) rfl hd (Nat.le_trans hdp r.1) (by have := r.2.1; have z : 2 * (F0 m pc ls (.ref a :: st)).monitorRoom = 0 := rfl; omega) (kk hF ls H locs hl hP hD hS)
theorem y_newi {N : Nat} {nn : Int32} (hn : nn = nI N) (hN : N ≤ 1000) (h1 : n + 1 ≤ M.2.1) (h2 : q + N ≤ M.2.2) (hd : decode M.1.2.1 pc = .ok (.newarray .int, 2)) (kk : ∀ a, Y κ M Qf (n + 1) (q + N) (pc + 2) lv (.ref a :: st) (ws ++ [(a, .inl ((wdK κ).2.2.1, N, .inl (fun _ => 0)))])) : Y κ M Qf n q pc lv (.int nn :: st) ws := by
  obtain ⟨p, l, e, R, s, m, args, below, meth, c, wd, A⟩ := κ
  intro hF ls H locs hl hP hD hS
  subst hn
  have r := hF.2.2.2.2.2.2.2.2.2.2
  have hK := hF.2.2.2.2.2.2.2.1
  refine va_newa (atype := .int) (ty := .int) (N' := N) (a0 := (N, .inl (fun _ => 0))) hF.1 hF.2.1 (hF.2.2.2.2.1 _ wd_26) rfl hK hP hD hS hF.2.2.2.2.2.2.2.2.1 (fun cA => rfl) (by rw [← nI_0, nIlt (by omega) (by decide)]; omega) (cl (by omega)) (by show N * 4 ≤ _; omega) (Nat.le_trans h1 r.2.2.1) (Nat.le_trans h2 r.2.2.2.1) hd (fun a cA H1 hK1 hP1 hD1 hS1 => ?_)
  have e : cA = wd.2.2.1 := Option.some.inj ((hK1.2 3 _ rfl).2.symm.trans (hK.2 0 _ rfl).2)
  subst e
  exact kk a hF ls H1 locs hl hP1 hD1 hS1
theorem y_newz {N : Nat} {nn : Int32} (hn : nn = nI N) (hN : N ≤ 1000) (h1 : n + 1 ≤ M.2.1) (h2 : q + N ≤ M.2.2) (hd : decode M.1.2.1 pc = .ok (.newarray .boolean, 2)) (kk : ∀ a, Y κ M Qf (n + 1) (q + N) (pc + 2) lv (.ref a :: st) (ws ++ [(a, .inl ((wdK κ).2.2.2.1, N, .inl (fun _ => 0)))])) : Y κ M Qf n q pc lv (.int nn :: st) ws := by
  obtain ⟨p, l, e, R, s, m, args, below, meth, c, wd, A⟩ := κ
  intro hF ls H locs hl hP hD hS
  subst hn
  have r := hF.2.2.2.2.2.2.2.2.2.2
  have hK := hF.2.2.2.2.2.2.2.1
  refine va_newa (atype := .boolean) (ty := .boolean) (N' := N) (a0 := (N, .inl (fun _ => 0))) hF.1 hF.2.1 (hF.2.2.2.2.1 _ wd_99) rfl hK hP hD hS hF.2.2.2.2.2.2.2.2.1 (fun cA => rfl) (by rw [← nI_0, nIlt (by omega) (by decide)]; omega) (cl (by omega)) (by show N * 1 ≤ _; omega) (Nat.le_trans h1 r.2.2.1) (Nat.le_trans h2 r.2.2.2.1) hd (fun a cA H1 hK1 hP1 hD1 hS1 => ?_)
  have e : cA = wd.2.2.2.1 := Option.some.inj ((hK1.2 3 _ rfl).2.symm.trans (hK.2 1 _ rfl).2)
  subst e
  exact kk a hF ls H1 locs hl hP1 hD1 hS1
theorem y_newl {N idx : Nat} {nn : Int32} (hn : nn = nI N) (hN : N ≤ 1000) (hw : Cond.classLink M.1.1.cls idx RX0 ∈ TBL) (h1 : n + 1 ≤ M.2.1) (h2 : q + N ≤ M.2.2) (hd : decode M.1.2.1 pc = .ok (.anewarray idx, 3)) (kk : ∀ a, Y κ M Qf (n + 1) (q + N) (pc + 3) lv (.ref a :: st) (ws ++ [(a, .inl ((wdK κ).2.2.2.2, N, .inr (.inr (.inr (.inr (fun _ => none))))))])) : Y κ M Qf n q pc lv (.int nn :: st) ws := by
  obtain ⟨p, l, e, R, s, m, args, below, meth, c, wd, A⟩ := κ
  intro hF ls H locs hl hP hD hS
  subst hn
  have r := hF.2.2.2.2.2.2.2.2.2.2
  have hK := hF.2.2.2.2.2.2.2.1
  refine va_newq (C := RX0) (N' := N) hF.1 hF.2.1 hF.2.2.2.1 (hF.2.2.2.2.1 _ hw) hF.2.2.2.2.2.2.2.2.2.1 hK hP hD hS hF.2.2.2.2.2.2.2.2.1 (by rw [← nI_0, nIlt (by omega) (by decide)]; omega) (cl (by omega)) (by omega) (Nat.le_trans h1 r.2.2.1) (Nat.le_trans h2 r.2.2.2.1) hd (fun a cA H1 hK1 hP1 hD1 hS1 => ?_)
  obtain ⟨kA, comp, -, -, -, z1⟩ := (hK1.2 3 _ rfl).2
  obtain ⟨kB, comb, -, -, -, z2⟩ := (hK.2 2 _ rfl).2
  have e : cA = wd.2.2.2.2 := Option.some.inj (z1.symm.trans z2)
  subst e
  exact kk a hF ls H1 locs hl hP1 hD1 hS1
theorem y_new {C : String} {T : u_T} {N ci idx : Nat} {fs : List Value} {ty : Nat → FieldType} (hc : vwCl[ci]? = some (C, T, N)) (hin : ∀ w ∈ u_ws C T N, w ∈ TBL) (hty : ∀ k, k < N → parseFieldDescriptor (T k).2.2.1 = some (ty k)) (hw : Cond.classLink M.1.1.cls idx C ∈ TBL) (hins : Cond.instantiable C N ∈ TBL) (hini : Cond.initialized C ∈ TBL) (hfs : ∀ j, j < N → defaultValue (ty j) = vp_V fs j) (h1 : n + 1 ≤ M.2.1) (h2 : q + N ≤ M.2.2) (hd : decode M.1.2.1 pc = .ok (.new idx, 3)) (kk : ∀ a, Y κ M Qf (n + 1) (q + N) (pc + 3) lv (.ref a :: st) (ws ++ [(a, .inr (ci, fs))])) : Y κ M Qf n q pc lv st ws := by
  obtain ⟨p, l, e, R, s, m, args, below, meth, c, wd, A⟩ := κ
  intro hF ls H locs hl hP hD hS
  have r := hF.2.2.2.2.2.2.2.2.2.2
  exact va_new (ci := ci) (fs := fs) hF.1 hF.2.1 hF.2.2.2.2.1 hin ty hty hF.2.2.2.1 (hF.2.2.2.2.1 _ hw) (hF.2.2.2.2.1 _ hins) (hF.2.2.2.2.1 _ hini) hF.2.2.2.2.2.2.2.1 hP hD hS hF.2.2.2.2.2.2.2.2.1 hc hfs (Nat.le_trans h1 r.2.2.1) (Nat.le_trans h2 r.2.2.2.1) hd (fun a H1 hP1 hD1 hS1 => kk a hF ls H1 locs hl hP1 hD1 hS1)
theorem y_put {C : String} {T : u_T} {N ci idx a : Nat} {fs : List Value} {v : Value} {ws' : va_W} {ty : Nat → FieldType} (q0 k : Nat) (he : ws[q0]? = some (a, .inr (ci, fs))) (hc : vwCl[ci]? = some (C, T, N)) (hin : ∀ w ∈ u_ws C T N, w ∈ TBL) (hty : ∀ k, k < N → parseFieldDescriptor (T k).2.2.1 = some (ty k)) (hnm : ∀ a, a < N → ∀ b, b < N → a ≠ b → (T a).2.1 ≠ (T b).2.1) (hk : k < N) (hw : Cond.fieldLink M.1.1.cls idx (T k).1 (T k).2.1 (T k).2.2.1 ∈ TBL) (hfin : (T k).2.2.2 = false) (hn : narrow (ty k) v = v) (hfit : fits (ty k) v = true) (hlen : k < fs.length) (hws : ws.set q0 (a, .inr (ci, fs.set k v)) = ws') (hd : decode M.1.2.1 pc = .ok (.putfield idx, 3)) (kk : Y κ M Qf n q (pc + 3) lv st ws') : Y κ M Qf n q pc lv (v :: .ref a :: st) ws := by
  obtain ⟨p, l, e, R, s, m, args, below, meth, c, wd, A⟩ := κ
  intro hF ls H locs hl hP hD hS
  exact va_put hF.1 hF.2.1 hF.2.2.2.2.1 hin ty hty hnm hF.2.2.2.1 hF.2.2.2.2.2.2.2.1 hP hD hS q0 he hc k hk (hF.2.2.2.2.1 _ hw) (fun _ h => h) hfin (hty k hk) hn hfit hlen hd (fun H1 locs1 hP1 hD1 hS1 => kk hF ls H1 locs1 hl (hws ▸ hP1) (hws ▸ hD1) hS1)
theorem y_putF {C : String} {T : u_T} {N ci idx a : Nat} {fs : List Value} {v : Value} {ws' : va_W} {ty : Nat → FieldType} (q0 k : Nat) (he : ws[q0]? = some (a, .inr (ci, fs))) (hc : vwCl[ci]? = some (C, T, N)) (hin : ∀ w ∈ u_ws C T N, w ∈ TBL) (hty : ∀ k, k < N → parseFieldDescriptor (T k).2.2.1 = some (ty k)) (hnm : ∀ a, a < N → ∀ b, b < N → a ≠ b → (T a).2.1 ≠ (T b).2.1) (hk : k < N) (hw : Cond.fieldLink M.1.1.cls idx (T k).1 (T k).2.1 (T k).2.2.1 ∈ TBL) (hfin : (T k).2.2.2 = true) (hi : M.1.1.name = "<init>") (hdecl : (T k).1 = M.1.1.cls) (hn : narrow (ty k) v = v) (hfit : fits (ty k) v = true) (hlen : k < fs.length) (hws : ws.set q0 (a, .inr (ci, fs.set k v)) = ws') (hd : decode M.1.2.1 pc = .ok (.putfield idx, 3)) (kk : Y κ M Qf n q (pc + 3) lv st ws') : Y κ M Qf n q pc lv (v :: .ref a :: st) ws := by
  obtain ⟨p, l, e, R, s, m, args, below, meth, c, wd, A⟩ := κ
  intro hF ls H locs hl hP hD hS
  exact va_putF hF.1 hF.2.1 hF.2.2.2.2.1 hin ty hty hnm hF.2.2.2.1 hF.2.2.2.2.2.2.2.1 hP hD hS q0 he hc k hk (hF.2.2.2.2.1 _ hw) (fun _ h => h) hfin (hF.2.2.2.2.2.2.2.2.2.2.2.2.2.2.trans hi) hdecl (hty k hk) hn hfit hlen hd (fun H1 locs1 hP1 hD1 hS1 => kk hF ls H1 locs1 hl (hws ▸ hP1) (hws ▸ hD1) hS1)
theorem y_get {C : String} {T : u_T} {N ci idx a : Nat} {fs : List Value} {v : Value} (q0 k : Nat) (he : ws[q0]? = some (a, .inr (ci, fs))) (hc : vwCl[ci]? = some (C, T, N)) (hin : ∀ w ∈ u_ws C T N, w ∈ TBL) (hk : k < N) (hw : Cond.fieldLink M.1.1.cls idx (T k).1 (T k).2.1 (T k).2.2.1 ∈ TBL) (hv : fs[k]? = some v) (hd : decode M.1.2.1 pc = .ok (.getfield idx, 3)) (kk : Y κ M Qf n q (pc + 3) lv (v :: st) ws) : Y κ M Qf n q pc lv (.ref a :: st) ws := by
  obtain ⟨p, l, e, R, s, m, args, below, meth, c, wd, A⟩ := κ
  intro hF ls H locs hl hP hD hS
  exact va_get hF.1 hF.2.1 hF.2.2.2.2.1 hin hF.2.2.2.1 hF.2.2.2.2.2.2.2.1 hP q0 he hc k hk (hF.2.2.2.2.1 _ hw) (fun _ h => h) hv hd (kk hF ls H locs hl hP hD hS)
theorem y_aast (q0 qk : Nat) {a N v : Nat} {fs : List Value} {f : Nat → Option Nat} {i : Int32} {ws' : va_W} (ha : ws[q0]? = some (a, .inl ((wdK κ).2.2.2.2, N, .inr (.inr (.inr (.inr f)))))) (hv : ws[qk]? = some (v, .inr (0, fs))) (hin : vp_in i N) (hws : ws.set q0 (a, .inl ((wdK κ).2.2.2.2, N, .inr (.inr (.inr (.inr (va_up f i.toNatClampNeg (some v))))))) = ws') (hd : decode M.1.2.1 pc = .ok (.aastore, 1)) (kk : Y κ M Qf n q (pc + 1) lv st ws') : Y κ M Qf n q pc lv (.ref v :: .int i :: .ref a :: st) ws := by
  obtain ⟨p, l, e, R, s, m, args, below, meth, c, wd, A⟩ := κ
  intro hF ls H locs hl hP hD hS
  exact va_astq hF.1 hF.2.1 hF.2.2.2.2.2.2.2.1 hP hD hS q0 2 qk 0 ha rfl hv rfl hin hd (fun H1 locs1 hP1 hD1 hS1 => kk hF ls H1 locs1 hl (hws ▸ hP1) (hws ▸ hD1) hS1)
theorem y_row (q0 : Nat) {a N : Nat} {f g : Nat → Int32} {cA : ClassId} {ws' : va_W} (he : ws[q0]? = some (a, .inl (cA, N, .inl f))) (hg : ∀ j, j < N → f j = g j) (hws : ws.set q0 (a, .inl (cA, N, .inl g)) = ws') (kk : Y κ M Qf n q pc lv st ws') : Y κ M Qf n q pc lv st ws := by
  obtain ⟨p, l, e, R, s, m, args, below, meth, c, wd, A⟩ := κ
  intro hF ls H locs hl hP hD hS
  exact kk hF ls H locs hl (hws ▸ hP.row he hg) (hws ▸ hD.set he) hS
theorem y_sub {ws' : va_W} (is : List Nat) (hn : va_nd is = true) (h1 : is.filterMap (fun i => ws[i]?) = ws') (h2 : is.map (fun i => ws[i]?) = ws'.map some) (kk : Y κ M Qf n q pc lv st ws') : Y κ M Qf n q pc lv st ws := by
  obtain ⟨p, l, e, R, s, m, args, below, meth, c, wd, A⟩ := κ
  intro hF ls H locs hl hP hD hS
  exact kk hF ls H locs hl (hP.sub is h1) (hD.sub is hn h2) hS
theorem y_vret {Q : va_W → Prop} (hr : M.1.2.2.2.1 = none) (hd : decode M.1.2.1 pc = .ok (.return_, 1)) (kk : Q ws) : Y κ M (finY κ Q n q) n q pc lv [] ws := by
  obtain ⟨p, l, e, R, s, m, args, below, meth, c, wd, A⟩ := κ
  intro hF ls H locs hl hP hD hS
  exact W.vret hF.1 hF.2.1 (hF.2.2.2.2.2.1.trans hr) (fun t ht _ => ⟨⟨ws, rfl, kk, by rw [ht]; exact hP, hD⟩, hS.F ht⟩) hS.2.2 hd (hlocks := hF.2.2.2.2.2.2.1)
theorem y_pre {s : State} {wd : Wd} {A : Nat → Prop} {H : Heap} {as : List Value} {w0 wc : va_W} (hP : va_P wd.2.1 vwCl (w0 ++ wc) H) (hD : va_D A (w0 ++ wc)) (hK : va_K wd.2.1 vwCl (tysL wd) s) (hAO : va_AO RX0 s) : ∀ U : State, U.heap = H → s.WarmedH U.vm → PcY wd as wc H.size as.toArray U := by
  intro U hU hW
  have rgt : ∀ (k : Nat) (x : Nat × va_E), wc[k]? = some x → (w0 ++ wc)[w0.length + k]? = some x := fun k x h => by rw [List.getElem?_append_right (by omega), Nat.add_sub_cancel_left]; exact h
  refine ⟨rfl, by rw [hU], by rw [hU]; exact fun k x h => hP _ x (rgt k x h), va_K.moved hW.alike hK, ⟨fun i j x y hx hy e => ?_, fun _ _ _ => trivial⟩, hAO.moved hW.alike⟩
  have := hD.1 _ _ x y (rgt i x hx) (rgt j y hy) e
  omega
theorem y_free {s : State} {A : Nat → Prop} {H : Heap} {locs : List Loc} {w0 wc : va_W} (hD : va_D A (w0 ++ wc)) (hS : va_S A s.heap H locs) (hA : ∀ a, s.heap.size ≤ a → A a) : ∀ x, va_A wc H.size x → A x := by
  intro x h
  rcases h with ⟨k, e, h⟩ | h
  · exact hD.2 (w0.length + k) (x, e) (by rw [List.getElem?_append_right (by omega), Nat.add_sub_cancel_left]; exact h)
  · exact hA x (Nat.le_trans hS.1 h)
set_option maxHeartbeats 1000000 in
theorem y_init {M' : Mj} {Q : va_W → Prop} {a idx : Nat} {w0 wc : va_W} (hC : ConY (wdK κ) M' [.ref a] wc Q) (hM : CW M'.1 0) (hnm : M'.1.1.name = "<init>") (hret : M'.1.2.2.2.1 = none) (hin : Cond.instanceMethod M'.1.1 ∈ TBL) (hw : Cond.methodLink M.1.1.cls idx M'.1.1 ∈ TBL) (hdp : M'.1.2.2.2.2 + 1 ≤ M.1.2.2.2.2) (hcat : (st.map fun v => v.category).sum ≤ 8) (h1 : n + M'.2.1 ≤ M.2.1) (h2 : q + M'.2.2 ≤ M.2.2) (hd : decode M.1.2.1 pc = .ok (.invokespecial idx, 3)) (kk : ∀ w1, Q w1 → Y κ M Qf (n + M'.2.1) (q + M'.2.2) (pc + 3) lv st (w0 ++ w1)) : Y κ M Qf n q pc lv (.ref a :: st) (w0 ++ wc) := by
  obtain ⟨⟨y, cc, mL, ret, d⟩, mc, ms⟩ := M'
  simp only at hret
  subst hret
  obtain ⟨p, l, e, R, s, m, args, below, meth, c, wd, A⟩ := κ
  intro hF ls H locs hl hP hD hS
  obtain ⟨hx, hb, hml, hown, hts, -, -, hK, hA, hAO, r1, r2, r3, r4, -⟩ := id hF
  have hFc := y_free hD hS hA
  have hm := hM.2.2.2.2.2
  simp only at hm hdp h1 h2
  refine va_callv (va_runI (As := []) (rest := st) (Ts := TBL) (own := M.1.1.cls) (n := 0) ⟨hx, hb, hml, hown, hts⟩ (hC l H.size) ⟨callB_of 0 hts hM.good rfl rfl rfl (hts _ hM.2.1) (hts _ hw) ⟨hM.2.2.1, hM.2.2.2.1, hM.2.2.2.2.1⟩ ⟨?_, ?_⟩, hnm, hts _ hin⟩ ⟨PcY.blind, y_pre hP hD hK hAO⟩ rfl rfl hl.1 rfl (lv_room hcat) hd ⟨Nat.le_trans h1 r3, Nat.le_trans h2 r4⟩) hS (fun x _ h => hFc x h) hFc (fun w1 t H1 locs1 ht hvm hQ hB hz1 hk1 hS1 => ?_)
  · show d + 1 ≤ R.frames
    omega
  · show 8 + (mL + 11) + 40 * d ≤ R.locals
    omega
  · obtain ⟨hP1, hD1⟩ := hB
    rw [ht] at hP1
    obtain ⟨hP2, hD2⟩ := yjoin hP hD hk1 hFc hP1 hD1
    exact kk w1 hQ hF ls H1 locs1 hl hP2 hD2 hS1
set_option maxHeartbeats 1000000 in
theorem y_callS {M' : Mj} {Q : va_W → Prop} {na idx : Nat} {as st0 : List Value} {w0 wc : va_W} (hC : ConY (wdK κ) M' as wc Q) (hM : CW M'.1 na) (hs : Cond.static M'.1.1 ∈ TBL) (hw : Cond.methodLink M.1.1.cls idx M'.1.1 ∈ TBL) (hlen : as.length = na) (hdp : M'.1.2.2.2.2 + 1 ≤ M.1.2.2.2.2) (hcat : (st.map fun v => v.category).sum ≤ 8) (h1 : n + M'.2.1 ≤ M.2.1) (h2 : q + M'.2.2 ≤ M.2.2) (hd : decode M.1.2.1 pc = .ok (.invokestatic idx, 3)) (hst : st0 = as.reverse ++ st) (kk : ∀ w1, Q w1 → Y κ M Qf (n + M'.2.1) (q + M'.2.2) (pc + 3) lv st (w0 ++ w1)) : Y κ M Qf n q pc lv st0 (w0 ++ wc) := by
  obtain ⟨p, l, e, R, s, m, args, below, meth, c, wd, A⟩ := κ
  intro hF ls H locs hl hP hD hS
  obtain ⟨hx, hb, hml, hown, hts, -, -, hK, hA, hAO, r1, r2, r3, r4, -⟩ := id hF
  have hFc := y_free hD hS hA
  have hm := hM.2.2.2.2.2
  refine va_callv (va_runS (As := as) (rest := st) (Ts := TBL) (own := M.1.1.cls) (n := na) ⟨hx, hb, hml, hown, hts⟩ (hC l H.size) ⟨callB_of na hts hM.good rfl rfl rfl (hts _ hM.2.1) (hts _ hw) ⟨hM.2.2.1, hM.2.2.2.1, hM.2.2.2.2.1⟩ ⟨?_, ?_⟩, hts _ hs⟩ ⟨PcY.blind, y_pre hP hD hK hAO⟩ rfl hlen hl.1 hst (lv_room hcat) hd ⟨Nat.le_trans h1 r3, Nat.le_trans h2 r4⟩) hS (fun x _ h => hFc x h) hFc (fun w1 t H1 locs1 ht hvm hQ hB hz1 hk1 hS1 => ?_)
  · show M'.1.2.2.2.2 + 1 ≤ R.frames
    omega
  · show 8 + (M'.1.2.2.1 + 11) + 40 * M'.1.2.2.2.2 ≤ R.locals
    omega
  · obtain ⟨hP1, hD1⟩ := hB
    rw [ht] at hP1
    obtain ⟨hP2, hD2⟩ := yjoin hP hD hk1 hFc hP1 hD1
    exact kk w1 hQ hF ls H1 locs1 hl hP2 hD2 hS1
end YR
