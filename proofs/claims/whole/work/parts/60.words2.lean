/-! is, keep, away -/
theorem has5_lo {x : Int32} {M : Mem} (h : x < 0) : F_X5_has x M = some (0, M) := by
  unfold F_X5_has F_X5_has_16
  rw [if_pos h]
theorem has5_hi {x : Int32} {M : Mem} (h : ¬ x < 0) (h2 : M.1 0 ≤ x) : F_X5_has x M = some (0, M) := by
  unfold F_X5_has F_X5_has_16
  rw [if_neg h, if_pos h2]
theorem has5_ok {i n : Nat} {M : Mem} (h : M.1 0 = nI n) (hn : n ≤ 10) (hi : i < n) : F_X5_has (nI i) M = some (1, M) := by
  unfold F_X5_has
  rw [if_neg (nI_pos (by omega)), h, if_neg (by rw [nle (by omega) (by omega)]; omega)]
/-- a word's number or not: both say the same -/
theorem isWord_c {M : Mem} {n : Nat} (h0 : M.1 0 = nI n) (hn : n ≤ 10) (x : Int32) (M2 : Mem) (h40 : M2.1 40 = nI n) : (F_X5_has x M = some (0, M) ∧ F_X7_isWord x M2 = some (0, M2)) ∨ ∃ i, i < n ∧ x = nI i ∧ F_X5_has x M = some (1, M) ∧ F_X7_isWord x M2 = some (1, M2) := by
  unfold F_X7_isWord
  rw [h40]
  by_cases hx : x < 0
  · exact Or.inl ⟨has5_lo hx, by rw [in_lo hx, bdS, ckT zb0]⟩
  · obtain ⟨i, hi, rfl⟩ := nI_of hx
    by_cases hl : i < n
    · refine Or.inr ⟨i, hl, rfl, has5_ok h0 hn hl, ?_⟩
      rw [in_ok hx (by rw [nlit 1, psub (by omega), nlt (by omega) hi]; omega), bdS, ckT zb1]
    · refine Or.inl ⟨has5_hi hx (by rw [h0, nle (by omega) hi]; omega), ?_⟩
      have hh : nI n - 1 < nI i := by
        by_cases e0 : n = 0
        · subst e0
          have e1 : (nI 0 - 1 : Int32).toInt = -1 := rfl
          have e2 : (nI i).toInt = (i : Int) := nI_toInt hi
          exact Int32.lt_iff_toInt_lt.mpr (by rw [e1, e2]; omega)
        · rw [nlit 1, psub (by omega), nlt (by omega) hi]
          omega
      rw [in_hi hx hh, bdS, ckT zb0]
theorem op4 (M : Mem) (hI : IW M) (x1 x2 : Int32) : ∃ (r : Int32) (M2 : Mem), F_X6_is x1 x2 M = some (r, M) ∧ F_X7_is x1 x2 M = some (r, M2) ∧ (M2 = M ∨ M2 = lp M) := by
  obtain ⟨n, kd, gp, tn, hr, ab, rd, hI⟩ := hI
  have hW := hI.1
  have hn := hW.1
  unfold F_X6_is F_X7_is
  rcases isWord_c hW.2.1 hn x1 M hW.2.2.1 with ⟨e1, e2⟩ | ⟨i, hi, rfl, e1, e2⟩
  · exact ⟨-2, M, by rw [e1, bdS, if_pos rfl], by rw [e2, bdS, if_pos rfl], Or.inl rfl⟩
  simp only [e1, e2, bdS, i10, if_false]
  obtain ⟨⟨k1, k2, k3⟩, ⟨g1, g2, -⟩, ⟨t1, t2, t3⟩, ⟨h1, h2, h3⟩, ⟨a1, a2, -⟩⟩ := hW.2.2.2 i hi
  rcases arg3 x2 6 (by omega) with h | h | ⟨j, hj, rfl⟩
  · refine ⟨-2, M, ?_, by rw [in_lo h, bdS, if_pos rfl], Or.inl rfl⟩
    have hne : ∀ j : Nat, j < 7 → ¬ x2 = nI j := fun j hj e => by rw [e] at h; exact nI_pos (by omega) h
    rw [if_neg (show ¬ x2 = 0 from hne 0 (by omega)), if_neg (show ¬ x2 = 1 from hne 1 (by omega)), if_neg (show ¬ x2 = 2 from hne 2 (by omega)), if_neg (show ¬ x2 = 3 from hne 3 (by omega)), if_neg (show ¬ x2 = 4 from hne 4 (by omega)), if_neg (show ¬ x2 = 5 from hne 5 (by omega)), if_neg (show ¬ x2 = 6 from hne 6 (by omega))]
  · refine ⟨-2, M, ?_, by rw [in_hi (b := 6) h.1 h.2.2.1, bdS, if_pos rfl], Or.inl rfl⟩
    have hne : ∀ j : Nat, j < 7 → ¬ x2 = nI j := fun j hj e => by
      have h3 := h.2.2.1
      rw [e, nlt (by omega) (by omega)] at h3
      omega
    rw [if_neg (show ¬ x2 = 0 from hne 0 (by omega)), if_neg (show ¬ x2 = 1 from hne 1 (by omega)), if_neg (show ¬ x2 = 2 from hne 2 (by omega)), if_neg (show ¬ x2 = 3 from hne 3 (by omega)), if_neg (show ¬ x2 = 4 from hne 4 (by omega)), if_neg (show ¬ x2 = 5 from hne 5 (by omega)), if_neg (show ¬ x2 = 6 from hne 6 (by omega))]
  · have e3 : F_X7_in (nI j) 0 6 M = some (1, M) := in_ok (nI_pos (by omega)) (by rw [nlit 6, nlt (by omega) (by omega)]; omega)
    simp only [e3, bdS, i10, if_false, poss_ok hI, bdvS]
    unfold F_X7_isNow
    rw [show (lp M).2 24 = M.2 24 from rfl, show (lp M).2 25 = M.2 25 from rfl, show (lp M).2 26 = M.2 26 from rfl, show (lp M).2 27 = M.2 27 from rfl, show (lp M).2 28 = M.2 28 from rfl, show (lp M).1 41 = M.1 1 from hI.2.2.2.2.2.2.1.symm, show (lp M).1 42 = M.1 2 from rfl]
    simp (disch := omega) only [ckN, ncl, k1, k2, g1, g2, t1, t2, h1, h2, a1, a2]
    rcases (show j = 0 ∨ j = 1 ∨ j = 2 ∨ j = 3 ∨ j = 4 ∨ j = 5 ∨ j = 6 by omega) with rfl | rfl | rfl | rfl | rfl | rfl | rfl
    · exact ⟨_, lp M, rfl, rfl, Or.inr rfl⟩
    · exact ⟨_, lp M, rfl, rfl, Or.inr rfl⟩
    · exact ⟨_, lp M, rfl, rfl, Or.inr rfl⟩
    · exact ⟨_, lp M, rfl, rfl, Or.inr rfl⟩
    · exact ⟨_, lp M, rfl, rfl, Or.inr rfl⟩
    · exact ⟨_, lp M, rfl, rfl, Or.inr rfl⟩
    · exact ⟨_, lp M, rfl, rfl, Or.inr rfl⟩
theorem all_eq {n : Nat} (hn : n ≤ 10) : ((1 : Int32) <<< (nI n &&& 31)) - 1 = nI (2 ^ n - 1) := (by decide +kernel : ∀ n, n ≤ 10 → ((1 : Int32) <<< (nI n &&& 31)) - 1 = nI (2 ^ n - 1)) n hn
theorem all_bt {n : Nat} (hn : n ≤ 10) {i : Nat} (hi : i < 32) : bt (nI (2 ^ n - 1)) i = decide (i < n) := by
  rw [b_nI, Nat.testBit_two_pow_sub_one, decide_eq_true hi, Bool.true_and]
theorem all5_ok {M : Mem} {n : Nat} (h : M.1 0 = nI n) (hn : n ≤ 10) : F_X5_all M = some (nI (2 ^ n - 1), M) := by
  unfold F_X5_all
  rw [h, all_eq hn]
theorem all7_ok {M : Mem} {n : Nat} (h : M.1 40 = nI n) (hn : n ≤ 10) : F_X7_all M = some (nI (2 ^ n - 1), M) := by
  unfold F_X7_all
  rw [h, all_eq hn]
theorem pow_le10 {n : Nat} (hn : n ≤ 10) : 2 ^ n ≤ 1024 := (by decide : ∀ n, n ≤ 10 → 2 ^ n ≤ 1024) n hn
theorem pow_pos' (n : Nat) : 0 < 2 ^ n := Nat.pow_pos (by omega)
/-- a set of words: both say the same -/
theorem inSet {n : Nat} (hn : n ≤ 10) (x : Int32) (M : Mem) : (x &&& (nI (2 ^ n - 1) ^^^ (-1)) = 0 ↔ ∃ k, k < 2 ^ n ∧ x = nI k) ∧ (F_X7_in x 0 (nI (2 ^ n - 1)) M = some (if x &&& (nI (2 ^ n - 1) ^^^ (-1)) = 0 then 1 else 0, M)) := by
  have hp := pow_le10 hn
  have hp0 := pow_pos' n
  have key : (x &&& (nI (2 ^ n - 1) ^^^ (-1)) = 0 ↔ ∃ k, k < 2 ^ n ∧ x = nI k) := by
    constructor
    · intro h
      have hb : ∀ i, i < 32 → n ≤ i → bt x i = false := by
        intro i hi hni
        have h1 := (b_zero _).mp h i hi
        rw [b_clr _ _ hi, all_bt hn hi, decide_eq_false (by omega), Bool.not_false, Bool.and_true] at h1
        exact h1
      obtain ⟨k, hk, rfl⟩ := b_small (fun i hi h10 => hb i hi (by omega))
      refine ⟨k, ?_, rfl⟩
      apply Nat.lt_of_not_le
      intro hle
      obtain ⟨i, hi, ht⟩ := Nat.exists_ge_and_testBit_of_ge_two_pow hle
      have hi10 : i < 32 := by
        apply Nat.lt_of_not_le
        intro h32
        rw [Nat.testBit_lt_two_pow (Nat.lt_of_lt_of_le hk (show 2 ^ 10 ≤ 2 ^ i from Nat.pow_le_pow_right (by decide) (show 10 ≤ i by omega)))] at ht
        cases ht
      have h2 := hb i hi10 hi
      rw [b_nI, decide_eq_true hi10, ht] at h2
      cases h2
    · rintro ⟨k, hk, rfl⟩
      apply (b_zero _).mpr
      intro i hi
      rw [b_clr _ _ hi, all_bt hn hi]
      by_cases h : i < n
      · rw [decide_eq_true h, Bool.not_true, Bool.and_false]
      · rw [b_lt hk (by omega), Bool.false_and]
  refine ⟨key, ?_⟩
  by_cases h : x &&& (nI (2 ^ n - 1) ^^^ (-1)) = 0
  · obtain ⟨k, hk, rfl⟩ := key.mp h
    rw [if_pos h, in_ok (nI_pos (by omega)) (by rw [nlt (by omega) (by omega)]; omega)]
  · rw [if_neg h]
    by_cases hx : x < 0
    · exact in_lo hx
    · obtain ⟨k, hk, rfl⟩ := nI_of hx
      exact in_hi hx (by rw [nlt (by omega) hk]; apply Nat.lt_of_not_le; intro h2; exact h (key.mpr ⟨k, by omega, rfl⟩))
theorem op5 (M : Mem) (hI : IW M) (x1 : Int32) : ∃ (r : Int32) (M1 M2 : Mem), F_X6_keep x1 M = some (r, M1) ∧ F_X7_keep x1 M1 = some (r, M2) ∧ ((M1 = M ∧ M2 = M) ∨ (M2 = sv (sv M 1 x1) 41 x1 ∧ IW M2)) := by
  obtain ⟨n, kd, gp, tn, hr, ab, rd, hI⟩ := hI
  have hW := hI.1
  have hn := hW.1
  unfold F_X6_keep F_X7_keep
  rw [all5_ok hW.2.1 hn, bdS]
  obtain ⟨key, hin⟩ := inSet hn x1 M
  by_cases h : x1 &&& (nI (2 ^ n - 1) ^^^ (-1)) = 0
  · rw [if_pos h]
    refine ⟨M.1 1, sv M 1 x1, sv (sv M 1 x1) 41 x1, rfl, ?_, Or.inr ⟨rfl, n, kd, gp, tn, hr, ab, rd, hI.1, hI.2.1, hI.2.2.1, hI.2.2.2.1, hI.2.2.2.2.1, hI.2.2.2.2.2.1, rfl, ?_⟩⟩
    · rw [all7_ok (M := sv M 1 x1) hW.2.2.1 hn, bdS, (inSet hn x1 (sv M 1 x1)).2, if_pos h, bdS, if_neg (by decide)]
      rw [show (sv M 1 x1).1 41 = M.1 1 from hI.2.2.2.2.2.2.1.symm]
    · intro i hi hni
      obtain ⟨k, hk, rfl⟩ := key.mp h
      exact b_lt hk hni
  · rw [if_neg h]
    refine ⟨-2, M, M, rfl, ?_, Or.inl ⟨rfl, rfl⟩⟩
    rw [all7_ok hW.2.2.1 hn, bdS, hin, if_neg h, bdS, if_pos rfl]
theorem isTown6_lo {x : Int32} {M : Mem} (h : x < 0) : F_X6_isTown x M = some (0, M) ∧ F_X7_isTown x M = some (0, M) := by
  unfold F_X6_isTown F_X6_isTown_14 F_X7_isTown
  exact ⟨by rw [if_pos h], by rw [in_lo h, bdS, ckT zb0]⟩
theorem isTown6_hi {x : Int32} {M : Mem} (h : ¬ x < 0) (h1 : 5 < x) (h2 : 6 ≤ x) : F_X6_isTown x M = some (0, M) ∧ F_X7_isTown x M = some (0, M) := by
  unfold F_X6_isTown F_X6_isTown_14 F_X7_isTown
  exact ⟨by rw [if_neg h, if_pos h2], by rw [in_hi h h1, bdS, ckT zb0]⟩
theorem isTown6_ok {a : Nat} {M : Mem} (h : a < 6) : F_X6_isTown (nI a) M = some (1, M) ∧ F_X7_isTown (nI a) M = some (1, M) := by
  unfold F_X6_isTown F_X7_isTown
  exact ⟨by rw [if_neg (nI_pos (by omega)), if_neg (by rw [nlit 6, nle (by omega) (by omega)]; omega)], by rw [in_ok (b := 5) (nI_pos (by omega)) (by rw [nlit 5, nlt (by omega) (by omega)]; omega), bdS, ckT zb1]⟩
/-- a town or not: both say the same -/
theorem town_c (x : Int32) : (∀ M, F_X6_isTown x M = some (0, M) ∧ F_X7_isTown x M = some (0, M)) ∨ ∃ a, a < 6 ∧ x = nI a ∧ ∀ M, F_X6_isTown x M = some (1, M) ∧ F_X7_isTown x M = some (1, M) := by
  rcases arg3 x 5 (by omega) with h | h | ⟨a, ha, rfl⟩
  · exact Or.inl (fun M => isTown6_lo h)
  · exact Or.inl (fun M => isTown6_hi h.1 h.2.2.1 h.2.2.2.1)
  · exact Or.inr ⟨a, by omega, rfl, fun M => isTown6_ok (by omega)⟩
theorem op1 (M : Mem) (hI : IW M) (x1 x2 : Int32) : ∃ (r : Int32) (M2 : Mem), F_X6_away x1 x2 M = some (r, M) ∧ F_X7_away x1 x2 M = some (r, M2) ∧ (M2 = M ∨ M2 = sr M 23 (fw (M.2 22) (M.2 23))) := by
  obtain ⟨n, kd, gp, tn, hr, ab, rd, hI⟩ := hI
  unfold F_X6_away F_X6_away_26 F_X7_away
  rcases town_c x1 with h | ⟨a, ha, rfl, h⟩
  · exact ⟨-2, M, by rw [(h M).1, bdS, if_pos rfl], by rw [(h M).2, bdS, if_pos rfl], Or.inl rfl⟩
  rw [(h M).1, (h M).2, bdS, bdS, if_neg (by decide), if_neg (by decide)]
  rcases town_c x2 with h | ⟨b, hb, rfl, h⟩
  · exact ⟨-2, M, by rw [(h M).1, bdS, if_pos rfl], by rw [(h M).2, bdS, if_pos rfl], Or.inl rfl⟩
  rw [(h M).1, (h M).2, bdS, bdS, if_neg (by decide), if_neg (by decide), ways_ok2 hI.2.1, bdvS]
  unfold F_X3_between
  refine ⟨M.2 1 (a * 6 + b), _, ?_, ?_, Or.inr rfl⟩
  · simp (disch := omega) only [nlit 6, pk_mul, nI_add, ckN, ncl, bdS]
  · simp (disch := omega) only [nlit 6, pk_mul, nI_add, ckN, ncl, sr_2, reduceIte]
    rw [wys_m hI.2.1 _ _ (by omega), hI.2.2.1 _ (by omega), Nat.mul_comm]
