/-! ===== words: a string constant's parts ===== -/
section VSS
variable {κ : Kx} {M : Mi} {Qf : State → Prop} {n q pc : Nat} {lv : List (Nat × Value)} {st : List Value} {μ : Mm} {i idx : Nat}
theorem v_sval (hi : i < 4) (hw : Cond.fieldLink M.1.cls idx "java/lang/String" "value" "[B" ∈ TBL) (hd : decode M.2.1 pc = .ok (.getfield idx, 3)) (kk : V κ M Qf n q (pc + 3) lv (.ref (110 + i) :: st) μ) : V κ M Qf n q pc lv (.ref (100 + i) :: st) μ := by
  obtain ⟨p, l, e, R, s, m, args, below, meth, c, wd, A⟩ := κ
  intro hF ls H locs hl hP hD hS
  exact vk_getf hF.1 hF.2.1 (hF.2.2.2.2.2.2.2.2.2.1.1.1 i hi).2.2.1 hS hF.2.2.2.1 (hF.2.2.2.2.1 _ hw) (fun _ h => h) hd (kk hF ls H locs hl hP hD hS)
theorem v_scod (hi : i < 4) (hw : Cond.fieldLink M.1.cls idx "java/lang/String" "coder" "B" ∈ TBL) (hd : decode M.2.1 pc = .ok (.getfield idx, 3)) (kk : V κ M Qf n q (pc + 3) lv (.int 0 :: st) μ) : V κ M Qf n q pc lv (.ref (100 + i) :: st) μ := by
  obtain ⟨p, l, e, R, s, m, args, below, meth, c, wd, A⟩ := κ
  intro hF ls H locs hl hP hD hS
  exact vk_getf hF.1 hF.2.1 (hF.2.2.2.2.2.2.2.2.2.1.1.1 i hi).2.1 hS hF.2.2.2.1 (hF.2.2.2.2.1 _ hw) (fun _ h => h) hd (kk hF ls H locs hl hP hD hS)
theorem v_slen (hi : i < 4) (hd : decode M.2.1 pc = .ok (.arraylength, 1)) (kk : V κ M Qf n q (pc + 1) lv (.int (nI ([6, 5, 4, 3].getD i 0)) :: st) μ) : V κ M Qf n q pc lv (.ref (110 + i) :: st) μ := by
  obtain ⟨p, l, e, R, s, m, args, below, meth, c, wd, A⟩ := κ
  intro hF ls H locs hl hP hD hS
  exact va_tlen hF.1 hF.2.1 (hF.2.2.2.2.2.2.2.2.2.1.1.1 i hi).2.2.2 hS rfl hd (kk hF ls H locs hl hP hD hS)
theorem v_sbal {j : Int32} {v : Int32} (hi : i < 4) (hin : vp_in j ([6, 5, 4, 3].getD i 0)) (hv : (sbyt.getD i []).getD j.toNatClampNeg 0 = v) (hd : decode M.2.1 pc = .ok (.baload, 1)) (kk : V κ M Qf n q (pc + 1) lv (.int v :: st) μ) : V κ M Qf n q pc lv (.int j :: .ref (110 + i) :: st) μ := by
  obtain ⟨p, l, e, R, s, m, args, below, meth, c, wd, A⟩ := κ
  intro hF ls H locs hl hP hD hS
  exact va_tb hF.1 hF.2.1 (hF.2.2.2.2.2.2.2.2.2.1.1.1 i hi).2.2.2 hS hin (v := .int v) (by rw [← hv]) hd (kk hF ls H locs hl hP hD hS)
theorem v_scs (hw : Cond.fieldLink M.1.cls idx "java/lang/String" "COMPACT_STRINGS" "Z" ∈ TBL) (hd : decode M.2.1 pc = .ok (.getstatic idx, 3)) (kk : V κ M Qf n q (pc + 3) lv (.int 1 :: st) μ) : V κ M Qf n q pc lv st μ := by
  obtain ⟨p, l, e, R, s, m, args, below, meth, c, wd, A⟩ := κ
  intro hF ls H locs hl hP hD hS
  exact va_gets hF.1 hF.2.1 hF.2.2.2.2.2.2.2.2.2.1.2.2.2.2.2.1 hS hF.2.2.2.1 (hF.2.2.2.2.1 _ hw) (fun _ h => h) hd (kk hF ls H locs hl hP hD hS)
theorem v_gsr (hw : Cond.fieldLink M.1.cls idx "jdk/internal/util/Preconditions" "SIOOBE_FORMATTER" "Ljava/util/function/BiFunction;" ∈ TBL) (hd : decode M.2.1 pc = .ok (.getstatic idx, 3)) (k0 : V κ M Qf n q (pc + 3) lv (.null :: st) μ) (kk : V κ M Qf n q (pc + 3) lv (.ref 120 :: st) μ) : V κ M Qf n q pc lv st μ := by
  obtain ⟨p, l, e, R, s, m, args, below, meth, c, wd, A⟩ := κ
  intro hF ls H locs hl hP hD hS
  rcases hF.2.2.2.2.2.2.2.2.2.1.2.2.2.2.2.2 with z | z
  · exact va_gets hF.1 hF.2.1 z hS hF.2.2.2.1 (hF.2.2.2.2.1 _ hw) (fun _ h => h) hd (k0 hF ls H locs hl hP hD hS)
  · exact va_gets hF.1 hF.2.1 z hS hF.2.2.2.1 (hF.2.2.2.2.1 _ hw) (fun _ h => h) hd (kk hF ls H locs hl hP hD hS)
end VSS
