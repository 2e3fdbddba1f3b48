/-! sheets: both systems hold the same -/
def IS (M : Mem) : Prop := ∀ s, s < 4 → ((M.1 (22 + 3 * s) = 0 ∧ M.2 37 s = 1) ∨ (M.1 (22 + 3 * s) = 1 ∧ M.2 37 s = 0)) ∧ (∃ f, f < 3 ∧ M.1 (22 + 3 * s + 1) = nI f ∧ M.2 38 s = nI f) ∧ (∃ z, z ≤ 40 ∧ M.1 (22 + 3 * s + 2) = nI z ∧ M.2 39 s = nI z) ∧ ∀ i, i < 40 → M.2 (18 + s) i = M.2 40 (40 * s + i)
theorem al18 {s : Nat} (h : s < 4) : al (18 + s) = 40 := by
  match s, h with
  | 0, _ => rfl
  | 1, _ => rfl
  | 2, _ => rfl
  | 3, _ => rfl
theorem sheetOf_lo {x : Int32} {M : Mem} (h : x < 0) : F_X6_sheetOf x M = some (none, M) := by
  unfold F_X6_sheetOf F_X6_sheetOf_18
  rw [if_pos h]
theorem sheetOf_hi {x : Int32} {M : Mem} (h : ¬ x < 0) (h2 : 4 ≤ x) : F_X6_sheetOf x M = some (none, M) := by
  unfold F_X6_sheetOf F_X6_sheetOf_18
  rw [if_neg h, if_pos h2]
theorem sheetOf_ok {s : Nat} {M : Mem} (h : s < 4) : F_X6_sheetOf (nI s) M = some (some s, M) := by
  unfold F_X6_sheetOf
  simp (disch := omega) only [npos, nlit 4, nle, if_neg, ckN, ncl, if_false]
theorem isSheet_lo {x : Int32} {M : Mem} (h : x < 0) : F_X7_isSheet x M = some (0, M) := by
  unfold F_X7_isSheet
  rw [in_lo h, bdS, ckT zb0]
theorem isSheet_hi {x : Int32} {M : Mem} (h : ¬ x < 0) (h2 : nI 3 < x) : F_X7_isSheet x M = some (0, M) := by
  unfold F_X7_isSheet
  rw [in_hi (b := 3) h h2, bdS, ckT zb0]
theorem isSheet_ok {s : Nat} {M : Mem} (h : s < 4) : F_X7_isSheet (nI s) M = some (1, M) := by
  unfold F_X7_isSheet
  rw [in_ok (nI_pos (by omega)) (by rw [nlit 3, nlt (by omega) (by omega)]; omega), bdS, ckT zb1]
theorem isForm_lo {x : Int32} {M : Mem} (h : x < 0) : F_X6_isForm x M = some (0, M) := by
  unfold F_X6_isForm F_X6_isForm_13
  rw [if_pos h]
theorem isForm_hi {x : Int32} {M : Mem} (h : ¬ x < 0) (h2 : 3 ≤ x) : F_X6_isForm x M = some (0, M) := by
  unfold F_X6_isForm F_X6_isForm_13
  rw [if_neg h, if_pos h2]
theorem isForm_ok {s : Nat} {M : Mem} (h : s < 3) : F_X6_isForm (nI s) M = some (1, M) := by
  unfold F_X6_isForm
  simp (disch := omega) only [npos, nlit 3, nle, if_neg, if_false]
theorem inForm_ok {s : Nat} {M : Mem} (h : s < 3) : F_X7_in (nI s) 0 2 M = some (1, M) := in_ok (nI_pos (by omega)) (by rw [nlit 2, nlt (by omega) (by omega)]; omega)
theorem find_ok (x : Int32) (M : Mem) : F_X6_find x M = some ((-10) - x, sv M 7 x) := rfl
theorem meets_ok (x : Int32) (M : Mem) : F_X7_meets x M = some ((-10) - x, sv M 48 x) := rfl
theorem dec4 {s : Nat} (h : s < 4) : decide (s < 4) = true := decide_eq_true h
/-- both note what they found -/
def fnd (M : Mem) (x : Int32) : Mem := sv (sv M 7 x) 48 x
theorem IS_fnd {M : Mem} (x : Int32) (h : IS M) : IS (fnd M x) := by
  intro s hs
  have h := h s hs
  unfold fnd
  simp (disch := omega) only [sv_1, sv_2, if_neg]
  exact h
theorem rn59 (M : Mem) (s : Nat) (hs : s < 4) (x3 : Int32) : ∀ (d i n : Nat) (f : Nat → Int32), i + d = 40 → d < n → F_X7_sheet_59 n (nI s) x3 (nI i) (sr M 40 f) = some (x3, sr M 40 (fun k => if 40 * s + i ≤ k ∧ k < 40 * s + 40 then 0 else f k)) := by
  intro d
  induction d with
  | zero =>
    intro i n f hi hn
    obtain ⟨n, rfl⟩ : ∃ m, n = m + 1 := ⟨n - 1, by omega⟩
    obtain rfl : i = 40 := by omega
    unfold F_X7_sheet_59
    simp (disch := omega) only [nlit 40, nle, if_pos]
    congr 3
    funext k
    rw [if_neg (by omega)]
  | succ d ih =>
    intro i n f hi hn
    obtain ⟨n, rfl⟩ : ∃ m, n = m + 1 := ⟨n - 1, by omega⟩
    unfold F_X7_sheet_59
    simp (disch := omega) only [nlit 40, nlit 1, nle, nI_add, pk_mul, if_neg, ckN, ncl, sr_2, sr_1, sa_sr, sr_sr, reduceIte]
    rw [ih (i + 1) n _ (by omega) (by omega)]
    congr 3
    funext k
    by_cases h1 : k = 40 * s + i
    · subst h1
      rw [if_neg (by omega), if_pos (by omega), upd_s]
    · rw [upd_n h1]
      by_cases h2 : 40 * s + i ≤ k ∧ k < 40 * s + 40
      · rw [if_pos (by omega), if_pos h2]
      · rw [if_neg (by omega), if_neg h2]
theorem vnz0 : vp_nar .boolean 0 = 0 := rfl
theorem vnz1 : vp_nar .boolean 1 = 1 := rfl
/-- number 25: sheet -/
theorem op25 (M : Mem) (hS : IS M) (x1 x2 x3 : Int32) : ∃ (r : Int32) (M1 M2 : Mem), F_X6_sheet x1 x2 x3 M = some (r, M1) ∧ F_X7_sheet x1 x2 x3 M1 = some (r, M2) ∧ ((M1 = M ∧ M2 = M) ∨ (M2 = fnd M 5) ∨ ∃ (s f z : Nat), s < 4 ∧ f < 3 ∧ z ≤ 40 ∧ M2 = sr (sr (sr (sr (sv (sv (sv (sr M (18 + s) (fun k => if k < 40 then 0 else M.2 (18 + s) k)) (22 + 3 * s) 0) (22 + 3 * s + 1) (nI f)) (22 + 3 * s + 2) (nI z)) 37 (upd (M.2 37) s 1)) 38 (upd (M.2 38) s (nI f))) 39 (upd (M.2 39) s (nI z))) 40 (fun k => if 40 * s ≤ k ∧ k < 40 * s + 40 then 0 else M.2 40 k)) := by
  unfold F_X6_sheet F_X7_sheet
  rcases arg3 x1 3 (by omega) with h | h | ⟨s, hs, rfl⟩
  · exact ⟨-2, M, M, by rw [sheetOf_lo h, bdoN], by rw [isSheet_lo h, bdS, if_pos rfl], Or.inl ⟨rfl, rfl⟩⟩
  · exact ⟨-2, M, M, by rw [sheetOf_hi h.1 h.2.2.2.1, bdoN], by rw [isSheet_hi h.1 h.2.2.1, bdS, if_pos rfl], Or.inl ⟨rfl, rfl⟩⟩
  have hs : s < 4 := by omega
  rcases arg3 x2 2 (by omega) with h | h | ⟨f, hf, rfl⟩
  · exact ⟨-2, M, M, by rw [sheetOf_ok hs, bdoS, ckT (dec4 hs), isForm_lo h, bdS, if_pos rfl], by rw [isSheet_ok hs, bdS, if_neg (by decide), in_lo h, bdS, if_pos rfl], Or.inl ⟨rfl, rfl⟩⟩
  · exact ⟨-2, M, M, by rw [sheetOf_ok hs, bdoS, ckT (dec4 hs), isForm_hi h.1 h.2.2.2.1, bdS, if_pos rfl], by rw [isSheet_ok hs, bdS, if_neg (by decide), in_hi (b := 2) h.1 h.2.2.1, bdS, if_pos rfl], Or.inl ⟨rfl, rfl⟩⟩
  have hf : f < 3 := by omega
  by_cases h1 : x3 ≤ 40
  · by_cases h2 : 0 ≤ x3
    · obtain ⟨z, hz, rfl⟩ := nI_of2 (x := x3) (M := 40) (n := 40) rfl (Int32.not_lt.mpr h2) h1
      refine ⟨nI z, sv (sv (sv (sr M (18 + s) (fun k => if k < 40 then 0 else M.2 (18 + s) k)) (22 + 3 * s) 0) (22 + 3 * s + 1) (nI f)) (22 + 3 * s + 2) (nI z), _, ?_, ?_, Or.inr (Or.inr ⟨s, f, z, hs, hf, hz, rfl⟩)⟩
      · rw [sheetOf_ok hs, bdoS, ckT (dec4 hs), isForm_ok hf, bdS, if_neg (by decide), if_pos h1, if_pos h2]
        unfold F_X4_renew
        rw [fill_ok _ _ _ (by rw [al18 hs]; omega), bdvS, bdvS, al18 hs]
      · rw [isSheet_ok hs, bdS, if_neg (by decide), inForm_ok hf, bdS, if_neg (by decide), if_pos h1, if_pos h2]
        simp (disch := omega) only [ckN, ncl, vnz1]
        generalize hX : sv (sv (sv (sr M (18 + s) (fun k => if k < 40 then 0 else M.2 (18 + s) k)) (22 + 3 * s) 0) (22 + 3 * s + 1) (nI f)) (22 + 3 * s + 2) (nI z) = X
        have e37 : X.2 37 = M.2 37 := by rw [← hX]; simp (disch := omega) only [sv_2, sr_2, if_neg]
        have e38 : X.2 38 = M.2 38 := by rw [← hX]; simp (disch := omega) only [sv_2, sr_2, if_neg]
        have e39 : X.2 39 = M.2 39 := by rw [← hX]; simp (disch := omega) only [sv_2, sr_2, if_neg]
        have e40 : X.2 40 = M.2 40 := by rw [← hX]; simp (disch := omega) only [sv_2, sr_2, if_neg]
        simp only [sa_sr, sr_2, reduceIte, Nat.reduceEqDiff, e37, e38, e39]
        have h9 := rn59 (sr (sr (sr X 37 (upd (M.2 37) s 1)) 38 (upd (M.2 38) s (nI f))) 39 (upd (M.2 39) s (nI z))) s hs (nI z) 40 0 fu (M.2 40) (by omega) (by decide)
        rw [show sr (sr (sr (sr X 37 (upd (M.2 37) s 1)) 38 (upd (M.2 38) s (nI f))) 39 (upd (M.2 39) s (nI z))) 40 (M.2 40) = sr (sr (sr X 37 (upd (M.2 37) s 1)) 38 (upd (M.2 38) s (nI f))) 39 (upd (M.2 39) s (nI z)) from by rw [← e40]; exact sr_self (sr (sr (sr X 37 (upd (M.2 37) s 1)) 38 (upd (M.2 38) s (nI f))) 39 (upd (M.2 39) s (nI z))) 40] at h9
        exact h9
    · exact ⟨(-10) - 5, sv M 7 5, fnd M 5, by rw [sheetOf_ok hs, bdoS, ckT (dec4 hs), isForm_ok hf, bdS, if_neg (by decide), if_pos h1, if_neg h2, find_ok, bdS], by rw [isSheet_ok hs, bdS, if_neg (by decide), inForm_ok hf, bdS, if_neg (by decide), if_pos h1, if_neg h2, meets_ok, bdS]; rfl, Or.inr (Or.inl rfl)⟩
  · exact ⟨-2, M, M, by rw [sheetOf_ok hs, bdoS, ckT (dec4 hs), isForm_ok hf, bdS, if_neg (by decide), if_neg h1], by rw [isSheet_ok hs, bdS, if_neg (by decide), inForm_ok hf, bdS, if_neg (by decide), if_neg h1], Or.inl ⟨rfl, rfl⟩⟩
theorem IS_25 {M : Mem} (h : IS M) {s f z : Nat} (hs : s < 4) (hf : f < 3) (hz : z ≤ 40) : IS (sr (sr (sr (sr (sv (sv (sv (sr M (18 + s) (fun k => if k < 40 then 0 else M.2 (18 + s) k)) (22 + 3 * s) 0) (22 + 3 * s + 1) (nI f)) (22 + 3 * s + 2) (nI z)) 37 (upd (M.2 37) s 1)) 38 (upd (M.2 38) s (nI f))) 39 (upd (M.2 39) s (nI z))) 40 (fun k => if 40 * s ≤ k ∧ k < 40 * s + 40 then 0 else M.2 40 k)) := by
  intro t ht
  by_cases e : t = s
  · subst e
    simp (disch := omega) only [sr_1, sv_1, sr_2, sv_2, if_neg, if_pos, reduceIte, Nat.reduceEqDiff, upd_s]
    refine ⟨Or.inl ⟨trivial, trivial⟩, ⟨f, hf, rfl, rfl⟩, ⟨z, hz, rfl, rfl⟩, fun i hi => ?_⟩
    rw [if_pos hi, if_pos (by omega)]
  · have h := h t ht
    simp (disch := omega) only [sr_1, sv_1, sr_2, sv_2, if_neg, reduceIte, Nat.reduceEqDiff, upd_n]
    refine ⟨h.1, h.2.1, h.2.2.1, fun i hi => ?_⟩
    rw [if_neg (by omega)]
    exact h.2.2.2 i hi
