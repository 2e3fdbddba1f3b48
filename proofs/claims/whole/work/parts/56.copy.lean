/-! copy -/
theorem lgc_lt {x y : Int64} (h : x < y) : lg_cmp x y = -1 := by
  unfold lg_cmp
  have h1 := Int64.lt_iff_toInt_lt.mp h
  rw [if_neg (fun h2 => by have := Int64.lt_iff_toInt_lt.mp h2; omega), if_neg (fun e => by rw [e] at h1; omega)]
theorem lgc_gt {x y : Int64} (h : y < x) : lg_cmp x y = 1 := by
  unfold lg_cmp
  rw [if_pos h]
theorem lgc3 (a b c : Nat) (ha : a < 2147483648) (hb : b < 2147483648) (hc : c < 2147483648) : (0 < lg_cmp ((nI a).toInt64 + (nI b).toInt64) (nI c).toInt64 ↔ c < a + b) ∧ (lg_cmp ((nI a).toInt64 + (nI b).toInt64) (nI c).toInt64 ≤ 0 ↔ a + b ≤ c) := by
  rw [nI_l ha, nI_l hb, nI_l hc, lN_add]
  rcases Nat.lt_trichotomy (a + b) c with h | h | h
  · rw [lgc_lt ((pk_lLT (by omega) (by omega)).mpr h)]
    exact ⟨⟨fun h => absurd h (by decide), fun h2 => by omega⟩, ⟨fun _ => by omega, fun _ => by decide⟩⟩
  · subst h
    rw [lgc]
    exact ⟨⟨fun h => absurd h (by decide), fun h2 => by omega⟩, ⟨fun _ => by omega, fun _ => by decide⟩⟩
  · rw [lgc_gt ((pk_lLT (by omega) (by omega)).mpr h)]
    exact ⟨⟨fun _ => h, fun _ => by decide⟩, ⟨fun h => absurd h (by decide), fun h2 => by omega⟩⟩
/-- the model's first loop: the items go out -/
theorem cp120 (M : Mem) (s t a b n : Nat) (hs : s < 4) (ha : a + n ≤ 40) : ∀ (d i m : Nat) (f : Nat → Int32), i + d = n → d < m → F_X7_copy_120 m (nI s) (nI a) (nI t) (nI b) (nI n) (nI i) (sr M 41 f) = F_X7_copy_157 fu (nI t) (nI b) (nI n) 0 (sr M 41 (fun k => if i ≤ k ∧ k < n then M.2 40 (40 * s + a + k) else f k)) := by
  intro d
  induction d with
  | zero =>
    intro i m f hi hm
    obtain ⟨m, rfl⟩ : ∃ q, m = q + 1 := ⟨m - 1, by omega⟩
    obtain rfl : i = n := by omega
    unfold F_X7_copy_120
    simp (disch := omega) only [nle, if_pos]
    congr 2
    funext k
    rw [if_neg (by omega)]
  | succ d ih =>
    intro i m f hi hm
    obtain ⟨m, rfl⟩ : ∃ q, m = q + 1 := ⟨m - 1, by omega⟩
    unfold F_X7_copy_120
    simp (disch := omega) only [nlit 40, nlit 1, nle, nI_add, pk_mul, if_neg, ckN, ncl, sr_2, sr_1, sa_sr, sr_sr, reduceIte, Nat.reduceEqDiff]
    rw [ih (i + 1) m _ (by omega) (by omega)]
    congr 2
    funext k
    by_cases h1 : k = i
    · subst h1
      rw [if_neg (by omega), if_pos (by omega), upd_s]
    · rw [upd_n h1]
      by_cases h2 : i ≤ k ∧ k < n
      · rw [if_pos (by omega), if_pos h2]
      · rw [if_neg (by omega), if_neg h2]
theorem cp157 (M : Mem) (t b n : Nat) (ht : t < 4) (hb : b + n ≤ 40) : ∀ (d i m : Nat) (f : Nat → Int32), i + d = n → d < m → F_X7_copy_157 m (nI t) (nI b) (nI n) (nI i) (sr M 40 f) = some (1, sr M 40 (fun k => if 40 * t + b + i ≤ k ∧ k < 40 * t + b + n then M.2 41 (k - (40 * t + b)) else f k)) := by
  intro d
  induction d with
  | zero =>
    intro i m f hi hm
    obtain ⟨m, rfl⟩ : ∃ q, m = q + 1 := ⟨m - 1, by omega⟩
    obtain rfl : i = n := by omega
    unfold F_X7_copy_157
    simp (disch := omega) only [nle, if_pos]
    congr 3
    funext k
    rw [if_neg (by omega)]
  | succ d ih =>
    intro i m f hi hm
    obtain ⟨m, rfl⟩ : ∃ q, m = q + 1 := ⟨m - 1, by omega⟩
    unfold F_X7_copy_157
    simp (disch := omega) only [nlit 40, nlit 1, nle, nI_add, pk_mul, if_neg, ckN, ncl, sr_2, sr_1, sa_sr, sr_sr, reduceIte, Nat.reduceEqDiff]
    rw [ih (i + 1) m _ (by omega) (by omega)]
    congr 3
    funext k
    by_cases h1 : k = 40 * t + b + i
    · subst h1
      rw [if_neg (by omega), if_pos (by omega), upd_s]
      rw [show 40 * t + b + i - (40 * t + b) = i by omega]
    · rw [upd_n h1]
      by_cases h2 : 40 * t + b + i ≤ k ∧ k < 40 * t + b + n
      · rw [if_pos (by omega), if_pos h2]
      · rw [if_neg (by omega), if_neg h2]
/-- the model's copy, as a whole -/
theorem cp_ok (M : Mem) (s t a b n : Nat) (hs : s < 4) (ht : t < 4) (ha : a + n ≤ 40) (hb : b + n ≤ 40) : F_X7_copy_120 fu (nI s) (nI a) (nI t) (nI b) (nI n) 0 M = some (1, sr (sr M 41 (fun k => if k < n then M.2 40 (40 * s + a + k) else M.2 41 k)) 40 (fun k => if 40 * t + b ≤ k ∧ k < 40 * t + b + n then M.2 40 (40 * s + a + (k - (40 * t + b))) else M.2 40 k)) := by
  have h1 := cp120 M s t a b n hs ha n 0 fu (M.2 41) (by omega) (by unfold fu; omega)
  rw [sr_self] at h1
  refine Eq.trans h1 ?_
  have h2 := cp157 (sr M 41 (fun k => if 0 ≤ k ∧ k < n then M.2 40 (40 * s + a + k) else M.2 41 k)) t b n ht hb n 0 fu (M.2 40) (by omega) (by unfold fu; omega)
  rw [show sr (sr M 41 (fun k => if 0 ≤ k ∧ k < n then M.2 40 (40 * s + a + k) else M.2 41 k)) 40 (M.2 40) = sr M 41 (fun k => if 0 ≤ k ∧ k < n then M.2 40 (40 * s + a + k) else M.2 41 k) from sr_self (sr M 41 (fun k => if 0 ≤ k ∧ k < n then M.2 40 (40 * s + a + k) else M.2 41 k)) 40] at h2
  refine Eq.trans h2 ?_
  congr 3
  · congr 1
    funext k
    by_cases h : k < n
    · rw [if_pos (by omega), if_pos h]
    · rw [if_neg (by omega), if_neg h]
  · funext k
    simp only [sr_2, reduceIte]
    by_cases h : 40 * t + b ≤ k ∧ k < 40 * t + b + n
    · rw [if_pos (by omega), if_pos h, if_pos (by omega)]
    · rw [if_neg (by omega), if_neg h]
theorem holds_ok (M : Mem) (s z : Nat) (hz : z ≤ 40) (ez : M.1 (22 + 3 * s + 2) = nI z) (x y : Int32) : (F_X4_holds s x y M = some (0, M) ∧ ¬ ∃ a n, x = nI a ∧ y = nI n ∧ a + n ≤ z) ∨ ∃ a n, x = nI a ∧ y = nI n ∧ a + n ≤ z ∧ F_X4_holds s x y M = some (1, M) := by
  unfold F_X4_holds F_X4_holds_22
  rw [ez]
  by_cases h1 : x < 0
  · refine Or.inl ⟨by rw [if_pos h1], ?_⟩
    rintro ⟨a, n, rfl, rfl, h⟩
    exact nI_pos (by omega) h1
  · rw [if_neg h1]
    by_cases h2 : y < 0
    · refine Or.inl ⟨by rw [if_pos h2], ?_⟩
      rintro ⟨a, n, rfl, rfl, h⟩
      exact nI_pos (by omega) h2
    · rw [if_neg h2]
      obtain ⟨a, ha, rfl⟩ := nI_of h1
      obtain ⟨n, hn, rfl⟩ := nI_of h2
      have e : (nI z - nI n).toInt = (z : Int) - n := by
        have e1 : (nI z).toInt = (z : Int) := nI_toInt (by omega)
        have e2 : (nI n).toInt = (n : Int) := nI_toInt hn
        have h9 := Int32.toInt_sub (nI z) (nI n)
        rw [e1, e2] at h9
        rw [h9, Int.bmod_eq_of_le (by omega) (by omega)]
      have e3 : (nI a).toInt = (a : Int) := nI_toInt ha
      by_cases h3 : a + n ≤ z
      · refine Or.inr ⟨a, n, rfl, rfl, h3, ?_⟩
        rw [if_neg (fun h => by have := Int32.lt_iff_toInt_lt.mp h; rw [e, e3] at this; omega)]
      · refine Or.inl ⟨by rw [if_pos (Int32.lt_iff_toInt_lt.mpr (by rw [e, e3]; omega))], ?_⟩
        rintro ⟨a', n', e4, e5, h⟩
        have e6 : a = a' := (nI_eq ha (by omega)).mp e4
        have e7 : n = n' := (nI_eq hn (by omega)).mp e5
        omega
theorem op29 (M : Mem) (hS : IS M) (x1 x2 x3 x4 x5 : Int32) : ∃ (r : Int32) (M1 M2 : Mem), F_X6_copy x1 x2 x3 x4 x5 M = some (r, M1) ∧ F_X7_copy x1 x2 x3 x4 x5 M1 = some (r, M2) ∧ ((M1 = M ∧ M2 = M) ∨ (∃ k, k < 6 ∧ M2 = fnd M (nI k)) ∨ ∃ (s t a b n : Nat) (f : Nat → Int32), s < 4 ∧ t < 4 ∧ a + n ≤ 40 ∧ b + n ≤ 40 ∧ M2 = sr (sr (sr M (18 + t) (va_cpy (M.2 (18 + s)) (M.2 (18 + t)) a b n)) 41 f) 40 (fun k => if 40 * t + b ≤ k ∧ k < 40 * t + b + n then M.2 40 (40 * s + a + (k - (40 * t + b))) else M.2 40 k)) := by
  unfold F_X6_copy F_X7_copy
  rcases arg3 x1 3 (by omega) with h | h | ⟨s, hs, rfl⟩
  · refine ⟨-2, M, M, ?_, by rw [isSheet_lo h, bdS, if_pos rfl], Or.inl ⟨rfl, rfl⟩⟩
    rw [sheetOf_lo h, bdoN]
    rcases arg3 x3 3 (by omega) with h | h | ⟨s, hs, rfl⟩
    · rw [sheetOf_lo h, bdoN]
    · rw [sheetOf_hi h.1 h.2.2.2.1, bdoN]
    · rw [sheetOf_ok (by omega), bdoS, ckT (dec4 (by omega))]
  · refine ⟨-2, M, M, ?_, by rw [isSheet_hi h.1 h.2.2.1, bdS, if_pos rfl], Or.inl ⟨rfl, rfl⟩⟩
    rw [sheetOf_hi h.1 h.2.2.2.1, bdoN]
    rcases arg3 x3 3 (by omega) with h | h | ⟨s, hs, rfl⟩
    · rw [sheetOf_lo h, bdoN]
    · rw [sheetOf_hi h.1 h.2.2.2.1, bdoN]
    · rw [sheetOf_ok (by omega), bdoS, ckT (dec4 (by omega))]
  have hs : s < 4 := by omega
  rw [sheetOf_ok hs, bdoS, ckT (dec4 hs)]
  rcases arg3 x3 3 (by omega) with h | h | ⟨t, ht, rfl⟩
  · exact ⟨-2, M, M, by rw [sheetOf_lo h, bdoN], by rw [isSheet_ok hs, bdS, if_neg (by decide), isSheet_lo h, bdS, if_pos rfl], Or.inl ⟨rfl, rfl⟩⟩
  · exact ⟨-2, M, M, by rw [sheetOf_hi h.1 h.2.2.2.1, bdoN], by rw [isSheet_ok hs, bdS, if_neg (by decide), isSheet_hi h.1 h.2.2.1, bdS, if_pos rfl], Or.inl ⟨rfl, rfl⟩⟩
  have ht : t < 4 := by omega
  rw [sheetOf_ok ht, bdoS, ckT (dec4 ht)]
  simp only [isSheet_ok hs, isSheet_ok ht, bdS, i10, if_false]
  obtain ⟨h1, ⟨f, hf, ef, ef2⟩, ⟨z, hz, ez, ez2⟩, -⟩ := hS s hs
  obtain ⟨h1', ⟨f', hf', ef', ef2'⟩, ⟨z', hz', ez', ez2'⟩, -⟩ := hS t ht
  unfold F_X6_copy_43 F_X7_copy_35 F_X6_copy_91 F_X7_copy_111
  have bad : ∀ k : Nat, k < 6 → ∃ (r : Int32) (M1 M2 : Mem), bd (F_X6_find (nI k) M) (fun r M => some (r, M)) = some (r, M1) ∧ M1 = sv M 7 (nI k) ∧ bd (F_X7_meets (nI k) M1) (fun r M => some (r, M)) = some (r, M2) ∧ M2 = fnd M (nI k) := fun k hk => ⟨(-10) - nI k, sv M 7 (nI k), fnd M (nI k), rfl, rfl, rfl, rfl⟩
  rcases h1 with ⟨a1, a2⟩ | ⟨a1, a2⟩
  rotate_left
  · obtain ⟨r, M1, M2, b1, b2, b3, b4⟩ := bad 1 (by omega)
    refine ⟨r, M1, M2, by rw [if_neg (by rw [a1]; decide)]; exact b1, ?_, Or.inr (Or.inl ⟨1, by omega, b4⟩)⟩
    rw [b2] at b3 ⊢
    simp (disch := omega) only [ckN, ncl, sv_2, a2, reduceIte]
    exact b3
  rcases h1' with ⟨a1', a2'⟩ | ⟨a1', a2'⟩
  rotate_left
  · obtain ⟨r, M1, M2, b1, b2, b3, b4⟩ := bad 1 (by omega)
    refine ⟨r, M1, M2, by rw [if_pos a1, if_neg (by rw [a1']; decide)]; exact b1, ?_, Or.inr (Or.inl ⟨1, by omega, b4⟩)⟩
    rw [b2] at b3 ⊢
    simp (disch := omega) only [ckN, ncl, sv_2, a2, a2', i10, if_false, reduceIte]
    exact b3
  rw [if_pos a1, if_pos a1', ef, ef']
  by_cases hff : f = f'
  rotate_left
  · obtain ⟨r, M1, M2, b1, b2, b3, b4⟩ := bad 4 (by omega)
    refine ⟨r, M1, M2, by rw [if_neg (by rw [neq (by omega) (by omega)]; exact hff)]; exact b1, ?_, Or.inr (Or.inl ⟨4, by omega, b4⟩)⟩
    rw [b2] at b3 ⊢
    simp (disch := omega) only [ckN, ncl, sv_2, a2, a2', ef2, ef2', neq, hff, i10, if_false, reduceIte]
    exact b3
  rw [if_pos (by rw [hff])]
  -- what the model does, wherever the finding is noted
  have mod : ∀ M1 : Mem, M1.2 37 = M.2 37 → M1.2 38 = M.2 38 → M1.2 39 = M.2 39 → ∀ (w : Int32) (M2 : Mem), (if x2 < 0 then bd (F_X7_meets 2 M1) (fun r M => some (r, M)) else if x4 < 0 then bd (F_X7_meets 2 M1) (fun r M => some (r, M)) else if x5 < 0 then bd (F_X7_meets 2 M1) (fun r M => some (r, M)) else if 0 < (lg_cmp ((x2.toInt64) + (x5.toInt64)) ((nI z).toInt64)) then bd (F_X7_meets 2 M1) (fun r M => some (r, M)) else if (lg_cmp ((x4.toInt64) + (x5.toInt64)) ((nI z').toInt64)) ≤ 0 then F_X7_copy_120 fu (nI s) x2 (nI t) x4 x5 0 M1 else bd (F_X7_meets 2 M1) (fun r M => some (r, M))) = some (w, M2) → (ckb (ix (nI s) 4) (if (M1.2 37 (nI s).toNatClampNeg) = 0 then bd (F_X7_meets 1 M1) (fun r37 M37 => some (r37, M37)) else ckb (ix (nI t) 4) (if (M1.2 37 (nI t).toNatClampNeg) = 0 then bd (F_X7_meets 1 M1) (fun r37 M37 => some (r37, M37)) else ckb (ix (nI s) 4) (ckb (ix (nI t) 4) (if (M1.2 38 (nI s).toNatClampNeg) = (M1.2 38 (nI t).toNatClampNeg) then if x2 < 0 then bd (F_X7_meets 2 M1) (fun r113 M113 => some (r113, M113)) else if x4 < 0 then bd (F_X7_meets 2 M1) (fun r113 M113 => some (r113, M113)) else if x5 < 0 then bd (F_X7_meets 2 M1) (fun r113 M113 => some (r113, M113)) else ckb (ix (nI s) 4) (if 0 < (lg_cmp ((x2.toInt64) + (x5.toInt64)) ((M1.2 39 (nI s).toNatClampNeg).toInt64)) then bd (F_X7_meets 2 M1) (fun r113 M113 => some (r113, M113)) else ckb (ix (nI t) 4) (if (lg_cmp ((x4.toInt64) + (x5.toInt64)) ((M1.2 39 (nI t).toNatClampNeg).toInt64)) ≤ 0 then F_X7_copy_120 fu (nI s) x2 (nI t) x4 x5 0 M1 else bd (F_X7_meets 2 M1) (fun r113 M113 => some (r113, M113)))) else bd (F_X7_meets 4 M1) (fun r58 M58 => some (r58, M58))))))) = some (w, M2) := by
    intro M1 e7 e8 e9 w M2 h
    rw [e7, e8, e9]
    simp (disch := omega) only [ckN, ncl, a2, a2', ef2, ef2', ez2, ez2', hff, i10, if_false, if_true]
    exact h
  have badA : ∀ (M1 : Mem), M1 = sv M 7 2 → (∃ w, w = ((-10) - 2 : Int32) ∧ (if x2 < 0 then bd (F_X7_meets 2 M1) (fun r M => some (r, M)) else if x4 < 0 then bd (F_X7_meets 2 M1) (fun r M => some (r, M)) else if x5 < 0 then bd (F_X7_meets 2 M1) (fun r M => some (r, M)) else if 0 < (lg_cmp ((x2.toInt64) + (x5.toInt64)) ((nI z).toInt64)) then bd (F_X7_meets 2 M1) (fun r M => some (r, M)) else if (lg_cmp ((x4.toInt64) + (x5.toInt64)) ((nI z').toInt64)) ≤ 0 then F_X7_copy_120 fu (nI s) x2 (nI t) x4 x5 0 M1 else bd (F_X7_meets 2 M1) (fun r M => some (r, M))) = some (w, fnd M 2)) → ∃ (r : Int32) (M2 : Mem), r = (-10) - 2 ∧ (ckb (ix (nI s) 4) (if (M1.2 37 (nI s).toNatClampNeg) = 0 then bd (F_X7_meets 1 M1) (fun r37 M37 => some (r37, M37)) else ckb (ix (nI t) 4) (if (M1.2 37 (nI t).toNatClampNeg) = 0 then bd (F_X7_meets 1 M1) (fun r37 M37 => some (r37, M37)) else ckb (ix (nI s) 4) (ckb (ix (nI t) 4) (if (M1.2 38 (nI s).toNatClampNeg) = (M1.2 38 (nI t).toNatClampNeg) then if x2 < 0 then bd (F_X7_meets 2 M1) (fun r113 M113 => some (r113, M113)) else if x4 < 0 then bd (F_X7_meets 2 M1) (fun r113 M113 => some (r113, M113)) else if x5 < 0 then bd (F_X7_meets 2 M1) (fun r113 M113 => some (r113, M113)) else ckb (ix (nI s) 4) (if 0 < (lg_cmp ((x2.toInt64) + (x5.toInt64)) ((M1.2 39 (nI s).toNatClampNeg).toInt64)) then bd (F_X7_meets 2 M1) (fun r113 M113 => some (r113, M113)) else ckb (ix (nI t) 4) (if (lg_cmp ((x4.toInt64) + (x5.toInt64)) ((M1.2 39 (nI t).toNatClampNeg).toInt64)) ≤ 0 then F_X7_copy_120 fu (nI s) x2 (nI t) x4 x5 0 M1 else bd (F_X7_meets 2 M1) (fun r113 M113 => some (r113, M113)))) else bd (F_X7_meets 4 M1) (fun r58 M58 => some (r58, M58))))))) = some (r, M2) ∧ M2 = fnd M (nI 2) := by
    rintro M1 rfl ⟨w, rfl, h⟩
    exact ⟨_, _, rfl, mod (sv M 7 2) rfl rfl rfl _ _ h, rfl⟩
  have meet2 : ∀ M1 : Mem, M1 = sv M 7 2 → bd (F_X7_meets 2 M1) (fun r M => some (r, M)) = some ((-10) - 2, fnd M 2) := by
    rintro M1 rfl
    rfl
  rcases holds_ok M s z hz ez x2 x5 with ⟨hh, hno⟩ | ⟨a, n, rfl, rfl, han, hh⟩
  · obtain ⟨r, M2, rfl, b1, b2⟩ := badA (sv M 7 2) rfl ⟨_, rfl, by
      by_cases h1 : x2 < 0
      · rw [if_pos h1]; rfl
      rw [if_neg h1]
      by_cases h2 : x4 < 0
      · rw [if_pos h2]; rfl
      rw [if_neg h2]
      by_cases h3 : x5 < 0
      · rw [if_pos h3]; rfl
      rw [if_neg h3]
      obtain ⟨a, ha, rfl⟩ := nI_of h1
      obtain ⟨n, hn, rfl⟩ := nI_of h3
      rw [if_pos ((lgc3 a n z ha hn (by omega)).1.mpr (Nat.lt_of_not_le (fun h => hno ⟨a, n, rfl, rfl, h⟩)))]
      rfl⟩
    exact ⟨_, sv M 7 2, M2, by rw [hh, bdS, if_pos rfl, find_ok, bdS], b1, Or.inr (Or.inl ⟨2, by omega, b2⟩)⟩
  rw [hh, bdS, if_neg (by decide)]
  rcases holds_ok M t z' hz' ez' x4 (nI n) with ⟨hh', hno⟩ | ⟨b, n', rfl, en, hbn, hh'⟩
  · obtain ⟨r, M2, rfl, b1, b2⟩ := badA (sv M 7 2) rfl ⟨_, rfl, by
      rw [if_neg (nI_pos (by omega))]
      by_cases h2 : x4 < 0
      · rw [if_pos h2]; rfl
      rw [if_neg h2, if_neg (nI_pos (by omega))]
      obtain ⟨b, hb, rfl⟩ := nI_of h2
      rw [if_neg (fun h => absurd ((lgc3 a n z (by omega) (by omega) (by omega)).1.mp h) (by omega)), if_neg (fun h => hno ⟨b, n, rfl, rfl, (lgc3 b n z' hb (by omega) (by omega)).2.mp h⟩)]
      rfl⟩
    exact ⟨_, sv M 7 2, M2, by rw [hh', bdS, if_pos rfl, find_ok, bdS], b1, Or.inr (Or.inl ⟨2, by omega, b2⟩)⟩
  by_cases hnb : n < 2147483648
  rotate_left
  · exact absurd han (by omega)
  obtain rfl : n = n' := by
    by_cases hn' : n' < 2147483648
    · exact (nI_eq hnb hn').mp en
    · exact absurd hbn (by omega)
  refine ⟨1, sr M (18 + t) (va_cpy (M.2 (18 + s)) (M.2 (18 + t)) a b n), _, ?_, mod _ ?_ ?_ ?_ 1 _ ?_, Or.inr (Or.inr ⟨s, t, a, b, n, (fun k => if k < n then M.2 40 (40 * s + a + k) else M.2 41 k), hs, ht, by omega, by omega, rfl⟩)⟩
  · rw [hh', bdS, if_neg (by decide), al18 hs, al18 ht, ckT]
    · rw [ncl (by omega), ncl (by omega), ncl (by omega)]
    · unfold cpok
      rw [ncl (by omega), ncl (by omega), ncl (by omega)]
      simp only [Bool.and_eq_true, Bool.not_eq_true', decide_eq_false_iff_not, decide_eq_true_eq]
      exact ⟨nI_pos (by omega), nI_pos (by omega), nI_pos (by omega), by omega, by omega⟩
  · simp (disch := omega) only [sr_2, if_neg]
  · simp (disch := omega) only [sr_2, if_neg]
  · simp (disch := omega) only [sr_2, if_neg]
  · rw [if_neg (nI_pos (by omega)), if_neg (nI_pos (by omega)), if_neg (nI_pos (by omega)), if_neg (fun h => absurd ((lgc3 a n z (by omega) (by omega) (by omega)).1.mp h) (by omega)), if_pos ((lgc3 b n z' (by omega) (by omega) (by omega)).2.mpr hbn), cp_ok _ s t a b n hs ht (by omega) (by omega)]
    simp (disch := omega) only [sr_2, if_neg]
theorem IS_29 {M : Mem} (h : IS M) {s t a b n : Nat} (f : Nat → Int32) (hs : s < 4) (ht : t < 4) (ha : a + n ≤ 40) (hb : b + n ≤ 40) : IS (sr (sr (sr M (18 + t) (va_cpy (M.2 (18 + s)) (M.2 (18 + t)) a b n)) 41 f) 40 (fun k => if 40 * t + b ≤ k ∧ k < 40 * t + b + n then M.2 40 (40 * s + a + (k - (40 * t + b))) else M.2 40 k)) := by
  intro w hw
  have hs9 := (h s hs).2.2.2
  have h := h w hw
  by_cases e : w = t
  · subst e
    simp (disch := omega) only [sr_1, sr_2, if_neg, if_pos, reduceIte, Nat.reduceEqDiff]
    refine ⟨h.1, h.2.1, h.2.2.1, fun k hk => ?_⟩
    unfold va_cpy
    by_cases hk2 : b ≤ k ∧ k < b + n
    · rw [if_pos hk2, if_pos (by omega), hs9 (a + (k - b)) (by omega), show 40 * s + (a + (k - b)) = 40 * s + a + (40 * w + k - (40 * w + b)) by omega]
    · rw [if_neg hk2, if_neg (by omega)]
      exact h.2.2.2 k hk
  · simp (disch := omega) only [sr_1, sr_2, if_neg, reduceIte, Nat.reduceEqDiff]
    refine ⟨h.1, h.2.1, h.2.2.1, fun k hk => ?_⟩
    rw [if_neg (by omega)]
    exact h.2.2.2 k hk
