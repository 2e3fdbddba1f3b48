/-! lose, put, get -/
theorem op26 (M : Mem) (hS : IS M) (x1 : Int32) : ∃ (r : Int32) (M1 M2 : Mem), F_X6_lose x1 M = some (r, M1) ∧ F_X7_lose x1 M1 = some (r, M2) ∧ ((M1 = M ∧ M2 = M) ∨ (M2 = fnd M 1) ∨ ∃ s, s < 4 ∧ M2 = sr (sv M (22 + 3 * s) 1) 37 (upd (M.2 37) s 0)) := by
  unfold F_X6_lose F_X7_lose
  rcases arg3 x1 3 (by omega) with h | h | ⟨s, hs, rfl⟩
  · exact ⟨-2, M, M, by rw [sheetOf_lo h, bdoN], by rw [isSheet_lo h, bdS, if_pos rfl], Or.inl ⟨rfl, rfl⟩⟩
  · exact ⟨-2, M, M, by rw [sheetOf_hi h.1 h.2.2.2.1, bdoN], by rw [isSheet_hi h.1 h.2.2.1, bdS, if_pos rfl], Or.inl ⟨rfl, rfl⟩⟩
  have hs : s < 4 := by omega
  obtain ⟨h1, -, ⟨z, hz, ez, ez2⟩, -⟩ := hS s hs
  rcases h1 with ⟨a1, a2⟩ | ⟨a1, a2⟩
  · refine ⟨nI z, sv M (22 + 3 * s) 1, _, ?_, ?_, Or.inr (Or.inr ⟨s, hs, rfl⟩)⟩
    · rw [sheetOf_ok hs, bdoS, ckT (dec4 hs), if_pos a1]
      simp (disch := omega) only [sv_1, if_neg, ez]
    · rw [isSheet_ok hs, bdS, if_neg (by decide)]
      simp (disch := omega) only [ckN, ncl, sv_2, a2, sa_sr, sr_2, ez2, vnz0, i10, if_false, reduceIte, Nat.reduceEqDiff]
  · refine ⟨(-10) - 1, sv M 7 1, fnd M 1, ?_, ?_, Or.inr (Or.inl rfl)⟩
    · rw [sheetOf_ok hs, bdoS, ckT (dec4 hs), if_neg (by rw [a1]; decide), find_ok, bdS]
    · rw [isSheet_ok hs, bdS, if_neg (by decide)]
      simp (disch := omega) only [ckN, ncl, sv_2, a2, reduceIte, meets_ok, bdS]
      rfl
theorem IS_26 {M : Mem} (h : IS M) {s : Nat} (hs : s < 4) : IS (sr (sv M (22 + 3 * s) 1) 37 (upd (M.2 37) s 0)) := by
  intro t ht
  have h := h t ht
  by_cases e : t = s
  · subst e
    simp (disch := omega) only [sr_1, sv_1, sr_2, sv_2, if_neg, if_pos, reduceIte, Nat.reduceEqDiff, upd_s]
    exact ⟨Or.inr ⟨trivial, trivial⟩, h.2⟩
  · simp (disch := omega) only [sr_1, sv_1, sr_2, sv_2, if_neg, reduceIte, Nat.reduceEqDiff, upd_n]
    exact h
/-- what is found when item i of a sheet is asked for: both find the same -/
theorem lack_ok (M M1 : Mem) (hS : IS M) {s : Nat} (hs : s < 4) (x2 x3 : Int32) (h37 : M1.2 37 = M.2 37) (h38 : M1.2 38 = M.2 38) (h39 : M1.2 39 = M.2 39) : ∃ k, k < 4 ∧ F_X4_findingOf s x2 x3 M = some (nI k, M) ∧ F_X7_lacks (nI s) x2 x3 M1 = some (nI k, M1) ∧ (k = 0 → ∃ i, i < 40 ∧ x3 = nI i) := by
  obtain ⟨h1, ⟨f, hf, ef, ef2⟩, ⟨z, hz, ez, ez2⟩, -⟩ := hS s hs
  unfold F_X4_findingOf F_X4_findingOf_31 F_X7_lacks
  rcases h1 with ⟨a1, a2⟩ | ⟨a1, a2⟩
  · rw [if_pos a1, ef, ez]
    simp (disch := omega) only [ckN, ncl, h37, h38, h39, a2, ef2, ez2, i10, if_false]
    by_cases e : x2 = nI f
    · rw [if_pos e, if_pos e.symm]
      by_cases hn : x3 < 0
      · refine ⟨2, by omega, by rw [if_pos hn]; rfl, by rw [in_lo hn, bdS, if_pos rfl]; rfl, fun h => absurd h (by decide)⟩
      · rw [if_neg hn]
        obtain ⟨i, hi, rfl⟩ := nI_of hn
        by_cases hl : i < z
        · refine ⟨0, by omega, by rw [if_pos ((nI_ltI hi (by omega)).mpr hl)]; rfl, ?_, fun _ => ⟨i, by omega, rfl⟩⟩
          rw [in_ok hn (by rw [nlit 1, psub (by omega), nlt (by omega) hi]; omega), bdS, if_neg (by decide)]
          rfl
        · refine ⟨2, by omega, by rw [if_neg (fun h => hl ((nI_ltI hi (by omega)).mp h))]; rfl, ?_, fun h => absurd h (by decide)⟩
          have hh : nI z - 1 < nI i := by
            by_cases h0 : z = 0
            · subst h0
              have e1 : (nI 0 - 1 : Int32).toInt = -1 := rfl
              have e2 : (nI i).toInt = (i : Int) := nI_toInt hi
              exact Int32.lt_iff_toInt_lt.mpr (by rw [e1, e2]; omega)
            · rw [nlit 1, psub (by omega), nlt (by omega) hi]
              omega
          rw [in_hi hn hh, bdS, if_pos rfl]
          rfl
    · rw [if_neg e, if_neg (fun h => e h.symm)]
      exact ⟨3, by omega, rfl, rfl, fun h => absurd h (by decide)⟩
  · refine ⟨1, by omega, by rw [if_neg (by rw [a1]; decide)]; rfl, ?_, fun h => absurd h (by decide)⟩
    simp (disch := omega) only [ckN, ncl, h37, a2, reduceIte]
    rfl
/-- the value as a form keeps it -/
def cutv (f : Nat) (v : Int32) : Int32 := if f = 0 then v.toInt8.toInt32 else if f = 1 then v.toInt16.toInt32 else v
theorem set_ok (M : Mem) {s i f : Nat} (hs : s < 4) (hi : i < 40) (hf : f < 3) (ef : M.1 (22 + 3 * s + 1) = nI f) (v : Int32) : F_X4_set s (nI i) v M = some (sr M (18 + s) (upd (M.2 (18 + s)) i (cutv f v))) := by
  unfold F_X4_set cutv
  rw [ef, al18 hs]
  simp (disch := omega) only [ckN, ncl, n0, nlit 1, neq, sa_sr]
  by_cases h0 : f = 0
  · rw [if_pos h0, if_pos h0]
  · rw [if_neg h0, if_neg h0]
    by_cases h1 : f = 1
    · rw [if_pos h1, if_pos h1]
    · rw [if_neg h1, if_neg h1]
theorem lay_ok (M : Mem) {s i f : Nat} (hs : s < 4) (hi : i < 40) (hf : f < 3) (ef : M.2 38 s = nI f) (v : Int32) : F_X7_lay (nI s) (nI i) v M = some (sr M 40 (upd (M.2 40) (40 * s + i) (cutv f v))) := by
  unfold F_X7_lay cutv
  simp (disch := omega) only [nlit 40, pk_mul, nI_add, ckN, ncl, ef, n0, nlit 1, neq, sa_sr]
  by_cases h0 : f = 0
  · rw [if_pos h0, if_pos h0]
  · rw [if_neg h0, if_neg h0]
    by_cases h1 : f = 1
    · rw [if_pos h1, if_pos h1]
    · rw [if_neg h1, if_neg h1]
theorem IS_put {M : Mem} (h : IS M) {s i : Nat} (hs : s < 4) (hi : i < 40) (v : Int32) : IS (sr (sr M (18 + s) (upd (M.2 (18 + s)) i v)) 40 (upd (M.2 40) (40 * s + i) v)) := by
  intro t ht
  have h := h t ht
  by_cases e : t = s
  · subst e
    simp (disch := omega) only [sr_1, sr_2, if_neg, if_pos, reduceIte, Nat.reduceEqDiff]
    refine ⟨h.1, h.2.1, h.2.2.1, fun k hk => ?_⟩
    by_cases ek : k = i
    · subst ek
      rw [upd_s, upd_s]
    · rw [upd_n ek, upd_n (by omega)]
      exact h.2.2.2 k hk
  · simp (disch := omega) only [sr_1, sr_2, if_neg, reduceIte, Nat.reduceEqDiff]
    refine ⟨h.1, h.2.1, h.2.2.1, fun k hk => ?_⟩
    rw [upd_n (by omega)]
    exact h.2.2.2 k hk
theorem op27 (M : Mem) (hS : IS M) (x1 x2 x3 x4 : Int32) : ∃ (r : Int32) (M1 M2 : Mem), F_X6_put x1 x2 x3 x4 M = some (r, M1) ∧ F_X7_put x1 x2 x3 x4 M1 = some (r, M2) ∧ ((M1 = M ∧ M2 = M) ∨ (∃ k, k < 4 ∧ M2 = fnd M (nI k)) ∨ ∃ (s i : Nat) (v : Int32), s < 4 ∧ i < 40 ∧ M2 = sr (sr M (18 + s) (upd (M.2 (18 + s)) i v)) 40 (upd (M.2 40) (40 * s + i) v)) := by
  unfold F_X6_put F_X7_put
  rcases arg3 x1 3 (by omega) with h | h | ⟨s, hs, rfl⟩
  · exact ⟨-2, M, M, by rw [sheetOf_lo h, bdoN], by rw [isSheet_lo h, bdS, if_pos rfl], Or.inl ⟨rfl, rfl⟩⟩
  · exact ⟨-2, M, M, by rw [sheetOf_hi h.1 h.2.2.2.1, bdoN], by rw [isSheet_hi h.1 h.2.2.1, bdS, if_pos rfl], Or.inl ⟨rfl, rfl⟩⟩
  have hs : s < 4 := by omega
  rcases arg3 x2 2 (by omega) with h | h | ⟨f, hf, rfl⟩
  · exact ⟨-2, M, M, by rw [sheetOf_ok hs, bdoS, ckT (dec4 hs), isForm_lo h, bdS, if_pos rfl], by rw [isSheet_ok hs, bdS, if_neg (by decide), in_lo h, bdS, if_pos rfl], Or.inl ⟨rfl, rfl⟩⟩
  · exact ⟨-2, M, M, by rw [sheetOf_ok hs, bdoS, ckT (dec4 hs), isForm_hi h.1 h.2.2.2.1, bdS, if_pos rfl], by rw [isSheet_ok hs, bdS, if_neg (by decide), in_hi (b := 2) h.1 h.2.2.1, bdS, if_pos rfl], Or.inl ⟨rfl, rfl⟩⟩
  have hf : f < 3 := by omega
  obtain ⟨k, hk, e1, -, hi9⟩ := lack_ok M M hS hs (nI f) x3 rfl rfl rfl
  by_cases h0 : k = 0
  · obtain ⟨i, hi, rfl⟩ := hi9 h0
    subst h0
    obtain ⟨g, hg, eg, eg2⟩ := (hS s hs).2.1
    obtain ⟨k', hk', e1', e2', -⟩ := lack_ok M (sr M (18 + s) (upd (M.2 (18 + s)) i (cutv g x4))) hS hs (nI f) (nI i) (by simp (disch := omega) only [sr_2, if_neg]) (by simp (disch := omega) only [sr_2, if_neg]) (by simp (disch := omega) only [sr_2, if_neg])
    have ek : nI k' = nI 0 := by
      have := e1'.symm.trans e1
      simp only [Option.some.injEq, Prod.mk.injEq, and_true] at this
      exact this
    rw [ek] at e2'
    refine ⟨1, sr M (18 + s) (upd (M.2 (18 + s)) i (cutv g x4)), sr (sr M (18 + s) (upd (M.2 (18 + s)) i (cutv g x4))) 40 (upd (M.2 40) (40 * s + i) (cutv g x4)), ?_, ?_, Or.inr (Or.inr ⟨s, i, cutv g x4, hs, hi, rfl⟩)⟩
    · rw [sheetOf_ok hs, bdoS, ckT (dec4 hs), isForm_ok hf, bdS, if_neg (by decide), e1, bdS, if_pos n0.symm, set_ok M hs hi hg eg, bdvS]
    · rw [isSheet_ok hs, bdS, if_neg (by decide), inForm_ok hf, bdS, if_neg (by decide), e2', bdS, if_pos (by decide), lay_ok _ hs hi hg (by simp (disch := omega) only [sr_2, if_neg, eg2]), bdvS]
      simp (disch := omega) only [sr_2, if_neg]
  · obtain ⟨k', hk', e1', e2', -⟩ := lack_ok M (sv M 7 (nI k)) hS hs (nI f) x3 rfl rfl rfl
    have ek : nI k' = nI k := by
      have := e1'.symm.trans e1
      simp only [Option.some.injEq, Prod.mk.injEq, and_true] at this
      exact this
    rw [ek] at e2'
    refine ⟨(-10) - nI k, sv M 7 (nI k), fnd M (nI k), ?_, ?_, Or.inr (Or.inl ⟨k, hk, rfl⟩)⟩
    · rw [sheetOf_ok hs, bdoS, ckT (dec4 hs), isForm_ok hf, bdS, if_neg (by decide), e1, bdS, if_neg (by rw [n0, neq (by omega) (by omega)]; exact h0), find_ok, bdS]
    · rw [isSheet_ok hs, bdS, if_neg (by decide), inForm_ok hf, bdS, if_neg (by decide), e2', bdS, if_neg (by rw [n0, nle (by omega) (by omega)]; omega), meets_ok, bdS]
      rfl
theorem op28 (M : Mem) (hS : IS M) (x1 x2 x3 : Int32) : ∃ (r : Int32) (M1 M2 : Mem), F_X6_get x1 x2 x3 M = some (r, M1) ∧ F_X7_get x1 x2 x3 M1 = some (r, M2) ∧ ((M1 = M ∧ M2 = M) ∨ (∃ k, k < 4 ∧ M2 = fnd M (nI k))) := by
  unfold F_X6_get F_X7_get
  rcases arg3 x1 3 (by omega) with h | h | ⟨s, hs, rfl⟩
  · exact ⟨-2147483648, M, M, by rw [sheetOf_lo h, bdoN], by rw [isSheet_lo h, bdS, if_pos rfl], Or.inl ⟨rfl, rfl⟩⟩
  · exact ⟨-2147483648, M, M, by rw [sheetOf_hi h.1 h.2.2.2.1, bdoN], by rw [isSheet_hi h.1 h.2.2.1, bdS, if_pos rfl], Or.inl ⟨rfl, rfl⟩⟩
  have hs : s < 4 := by omega
  rcases arg3 x2 2 (by omega) with h | h | ⟨f, hf, rfl⟩
  · exact ⟨-2147483648, M, M, by rw [sheetOf_ok hs, bdoS, ckT (dec4 hs), isForm_lo h, bdS, if_pos rfl], by rw [isSheet_ok hs, bdS, if_neg (by decide), in_lo h, bdS, if_pos rfl], Or.inl ⟨rfl, rfl⟩⟩
  · exact ⟨-2147483648, M, M, by rw [sheetOf_ok hs, bdoS, ckT (dec4 hs), isForm_hi h.1 h.2.2.2.1, bdS, if_pos rfl], by rw [isSheet_ok hs, bdS, if_neg (by decide), in_hi (b := 2) h.1 h.2.2.1, bdS, if_pos rfl], Or.inl ⟨rfl, rfl⟩⟩
  have hf : f < 3 := by omega
  obtain ⟨k, hk, e1, e2, hi9⟩ := lack_ok M M hS hs (nI f) x3 rfl rfl rfl
  by_cases h0 : k = 0
  · obtain ⟨i, hi, rfl⟩ := hi9 h0
    subst h0
    refine ⟨M.2 (18 + s) i, M, M, ?_, ?_, Or.inl ⟨rfl, rfl⟩⟩
    · rw [sheetOf_ok hs, bdoS, ckT (dec4 hs), isForm_ok hf, bdS, if_neg (by decide), e1, bdS, if_pos n0.symm, al18 hs]
      simp (disch := omega) only [ckN, ncl]
    · rw [isSheet_ok hs, bdS, if_neg (by decide), inForm_ok hf, bdS, if_neg (by decide), e2, bdS, if_pos (by decide)]
      simp (disch := omega) only [nlit 40, pk_mul, nI_add, ckN, ncl]
      rw [(hS s hs).2.2.2 i hi]
  · obtain ⟨k', hk', e1', e2', -⟩ := lack_ok M (sv M 7 (nI k)) hS hs (nI f) x3 rfl rfl rfl
    have ek : nI k' = nI k := by
      have := e1'.symm.trans e1
      simp only [Option.some.injEq, Prod.mk.injEq, and_true] at this
      exact this
    rw [ek] at e2'
    refine ⟨-2147483648, sv M 7 (nI k), fnd M (nI k), ?_, ?_, Or.inr ⟨k, hk, rfl⟩⟩
    · rw [sheetOf_ok hs, bdoS, ckT (dec4 hs), isForm_ok hf, bdS, if_neg (by decide), e1, bdS, if_neg (by rw [n0, neq (by omega) (by omega)]; exact h0), find_ok, bdS]
    · rw [isSheet_ok hs, bdS, if_neg (by decide), inForm_ok hf, bdS, if_neg (by decide), e2', bdS, if_neg (by rw [n0, nle (by omega) (by omega)]; omega)]
      rfl
