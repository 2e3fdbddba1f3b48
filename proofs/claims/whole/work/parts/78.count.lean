/-! count -/
def Ans (M : Mem) (f g : Mem → Option (Int32 × Mem)) : Prop := ∃ r : Int32, (∀ M1, FS M M1 → ∃ M2, f M1 = some (r, M2) ∧ FS M1 M2) ∧ ∀ M1, FS M M1 → ∃ M2, g M1 = some (r, M2) ∧ FS M1 M2
theorem Ans.run {M : Mem} {f g : Mem → Option (Int32 × Mem)} (h : Ans M f g) : ∃ (r : Int32) (M1 M2 : Mem), f M = some (r, M1) ∧ g M1 = some (r, M2) ∧ FS M M2 := by
  obtain ⟨r, h1, h2⟩ := h
  obtain ⟨M1, e1, f1⟩ := h1 M (FS_r M)
  obtain ⟨M2, e2, f2⟩ := h2 M1 f1
  exact ⟨r, M1, M2, e1, e2, FS_t f1 f2⟩
theorem Ans_c {M : Mem} {f g : Mem → Option (Int32 × Mem)} (r : Int32) (h1 : ∀ M1, FS M M1 → f M1 = some (r, M1)) (h2 : ∀ M1, FS M M1 → g M1 = some (r, M1)) : Ans M f g := ⟨r, fun M1 f1 => ⟨M1, h1 M1 f1, FS_r M1⟩, fun M1 f1 => ⟨M1, h2 M1 f1, FS_r M1⟩⟩
theorem cnt_ans (M : Mem) (hI : Inv M) (x : Int32) : Ans M (F_X6_count x) (F_X7_count x) := by
  obtain ⟨n, kd, gp, tn, hr, ab, rd, hW⟩ := hI.1
  have hW1 := fun M1 (f : FS M M1) => IWx_E hW f.w
  unfold F_X6_count F_X7_count
  by_cases x0 : x = 0
  · simp only [if_pos x0]
    exact Ans_c (nI n) (fun M1 f => by rw [(hW1 M1 f).1.2.1]) (fun M1 f => by rw [(hW1 M1 f).1.2.2.1])
  simp only [if_neg x0]
  by_cases x1 : x = 1
  · simp only [if_pos x1]
    exact Ans_c (M.1 1) (fun M1 f => by rw [f.1 1 (by omega) (by omega)]) (fun M1 f => by rw [f.1 41 (by omega) (by omega), hW.2.2.2.2.2.2.1])
  simp only [if_neg x1]
  by_cases x2 : x = 2
  · simp only [if_pos x2]
    subst x2
    obtain ⟨z, b, r, h⟩ := hI.2.1 0 (by omega)
    exact Ans_c (nI z) (fun M1 f => by rw [(IL1_E' (by omega) h f.l).2.1.1]) (fun M1 f => by rw [ckT (by decide)]; rw [show M1.2 29 ((2 : Int32) - 2).toNatClampNeg = nI z from (IL1_E' (by omega) h f.l).2.2.1.1])
  simp only [if_neg x2]
  by_cases x3 : x = 3
  · simp only [if_pos x3]
    subst x3
    obtain ⟨z, b, r, h⟩ := hI.2.1 1 (by omega)
    exact Ans_c (nI z) (fun M1 f => by rw [(IL1_E' (by omega) h f.l).2.1.1]) (fun M1 f => by rw [ckT (by decide)]; rw [show M1.2 29 ((3 : Int32) - 2).toNatClampNeg = nI z from (IL1_E' (by omega) h f.l).2.2.1.1])
  simp only [if_neg x3]
  by_cases x4 : x = 4
  · simp only [if_pos x4]
    refine Ans_c (nI (cnt (pN rd) 36)) (fun M1 f => ?_) (fun M1 f => ?_)
    · rw [number_ok (fun k hk => ⟨((hW1 M1 f).2.1.1 k hk).1, ((hW1 M1 f).2.1.1 k hk).2.2⟩), bdS]
    · rw [roadMany_ok (fun k hk => ⟨((hW1 M1 f).2.1.1 k hk).2.1, ((hW1 M1 f).2.1.1 k hk).2.2⟩), bdS, pNM hW.2.1.2]
  simp only [if_neg x4]
  by_cases x5 : x = 5
  · simp only [if_pos x5]
    refine ⟨M.1 2, fun M1 f => ⟨M1, by show some (M1.1 2, M1) = _; rw [f.1 2 (by omega) (by omega)], FS_r M1⟩, fun M1 f => ⟨lp M1, ?_, FS_lp M1⟩⟩
    show bdv (F_X7_laysPossible M1) (fun M77 => some (M77.1 42, M77)) = _
    rw [poss_ok (hW1 M1 f), bdvS, show (lp M1).1 42 = M1.1 2 from rfl, f.1 2 (by omega) (by omega)]
  simp only [if_neg x5]
  by_cases x6 : x = 6
  · simp only [if_pos x6]
    exact Ans_c (-2) (fun M1 f => rfl) (fun M1 f => rfl)
  simp only [if_neg x6]
  by_cases x7 : x = 7
  · simp only [if_pos x7]
    exact Ans_c (-2) (fun M1 f => rfl) (fun M1 f => rfl)
  simp only [if_neg x7]
  by_cases x8 : x = 8
  · simp only [if_pos x8]
    exact Ans_c (M.1 7) (fun M1 f => by rw [f.1 7 (by omega) (by omega)]) (fun M1 f => by rw [f.1 48 (by omega) (by omega), hI.2.2.2])
  simp only [if_neg x8]
  exact Ans_c (-2) (fun M1 f => rfl) (fun M1 f => rfl)
