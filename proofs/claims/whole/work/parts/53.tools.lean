/-! arguments, fill -/
theorem n0 : (0 : Int32) = nI 0 := rfl
theorem arg3 (x : Int32) (n : Nat) (h : n < 2147483647) : x < 0 ∨ (¬ x < 0 ∧ 0 ≤ x ∧ nI n < x ∧ nI (n + 1) ≤ x ∧ ¬ x ≤ nI n ∧ ¬ x < nI (n + 1)) ∨ ∃ j, j ≤ n ∧ x = nI j := by
  rcases pk_ix x (n := n + 1) (by omega) with h1 | h1 | ⟨j, hj, rfl⟩
  · exact Or.inl h1
  · have e : (nI (n + 1)).toInt = ((n + 1 : Nat) : Int) := nI_toInt (by omega)
    have e2 : (nI n).toInt = ((n : Nat) : Int) := nI_toInt (by omega)
    have hx : (nI (n + 1)).toInt ≤ x.toInt := Int32.le_iff_toInt_le.mp h1
    have e0 : (0 : Int32).toInt = 0 := rfl
    rw [e] at hx
    refine Or.inr (Or.inl ⟨fun h => ?_, ?_, ?_, h1, fun h => ?_, fun h => ?_⟩)
    · have := Int32.lt_iff_toInt_lt.mp h
      omega
    · exact Int32.le_iff_toInt_le.mpr (by omega)
    · exact Int32.lt_iff_toInt_lt.mpr (by omega)
    · have := Int32.le_iff_toInt_le.mp h
      omega
    · have := Int32.lt_iff_toInt_lt.mp h
      omega
  · exact Or.inr (Or.inr ⟨j, by omega, rfl⟩)
theorem npos {n : Nat} (h : n < 2147483648) : (nI n < 0) = False := eq_false (nI_pos h)
theorem npos' {n : Nat} (h : n < 2147483648) : (0 ≤ nI n) = True := eq_true (nI_pos' h)
theorem ltge {x : Int32} (h : x < 0) : ¬ 0 ≤ x := fun h2 => (Int32.not_lt.mpr h2) h
theorem fill5 (a : Nat) (x : Int32) (L : Nat) (hL : al a = L) (hL2 : L < 5000) (M : Mem) : ∀ (d i n : Nat) (f : Nat → Int32), i + d = L → d < n → F_J7_fill_53178_5 a n x (nI i) (nI L) (sr M a f) = some (sr M a (fun k => if i ≤ k ∧ k < L then x else f k)) := by
  intro d
  induction d with
  | zero =>
    intro i n f hi hn
    obtain ⟨n, rfl⟩ : ∃ m, n = m + 1 := ⟨n - 1, by omega⟩
    obtain rfl : i = L := by omega
    unfold F_J7_fill_53178_5
    simp (disch := omega) only [nle, if_pos]
    congr 2
    funext k
    rw [if_neg (by omega)]
  | succ d ih =>
    intro i n f hi hn
    obtain ⟨n, rfl⟩ : ∃ m, n = m + 1 := ⟨n - 1, by omega⟩
    unfold F_J7_fill_53178_5
    rw [hL]
    simp (disch := omega) only [nlit, nle, nI_add, if_neg, ckN, ncl, sr_2, sr_1, sa_sr, sr_sr, reduceIte]
    rw [ih (i + 1) n _ (by omega) (by omega)]
    congr 2
    funext k
    by_cases h1 : k = i
    · subst h1
      rw [if_neg (by omega), if_pos (by omega), upd_s]
    · rw [upd_n h1]
      by_cases h2 : i ≤ k ∧ k < L
      · rw [if_pos (by omega), if_pos h2]
      · rw [if_neg (by omega), if_neg h2]
theorem fill_ok (a : Nat) (x : Int32) (M : Mem) (hL2 : al a < 5000) : F_J7_fill_53178 a x M = some (sr M a (fun k => if k < al a then x else M.2 a k)) := by
  unfold F_J7_fill_53178
  have h := fill5 a x (al a) rfl hL2 M (al a) 0 fu (M.2 a) (by omega) (by unfold fu; omega)
  rw [sr_self] at h
  refine Eq.trans h ?_
  congr 2
  funext k
  by_cases h2 : k < al a
  · rw [if_pos (by omega), if_pos h2]
  · rw [if_neg (by omega), if_neg h2]
/-! the model's questions -/
theorem in_lo {x a b : Int32} {M : Mem} (h : x < a) : F_X7_in x a b M = some (0, M) := by
  unfold F_X7_in F_X7_in_14
  rw [if_pos h]
theorem in_hi {x a b : Int32} {M : Mem} (h : ¬ x < a) (h2 : b < x) : F_X7_in x a b M = some (0, M) := by
  unfold F_X7_in F_X7_in_14
  rw [if_neg h, if_pos h2]
theorem in_ok {x a b : Int32} {M : Mem} (h : ¬ x < a) (h2 : ¬ b < x) : F_X7_in x a b M = some (1, M) := by
  unfold F_X7_in
  rw [if_neg h, if_neg h2]
theorem zb0 : zb 0 = true := rfl
theorem zb1 : zb 1 = true := rfl
theorem i10 : ((1 : Int32) = 0) = False := eq_false (by decide)
