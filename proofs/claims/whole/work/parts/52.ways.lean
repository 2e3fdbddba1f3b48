/-! the model's ways -/
theorem pdiv {a d : Nat} (ha : a < 2147483648) (h0 : 0 < d) (hd : d < 2147483648) : nI a / nI d = nI (a / d) := pk_div ha h0 hd
theorem psub {a b : Nat} (h : b ≤ a) : nI a - nI b = nI (a - b) := pk_sub h
theorem prem6 (a : Nat) : nI a - nI (a / 6 * 6) = nI (a % 6) := by
  rw [psub (by omega)]
  congr 1
  omega
theorem lw66 (k58 : Int32 → Mem → Option Mem) (M : Mem) (f : Nat → Int32) (t : Nat) (ht : t < 6) : ∀ (d k n : Nat), k + d = 36 → d < n → F_X7_laysWays_66 k58 n (nI t) (nI k) (sr M 23 (fwP t f k)) = k58 (nI (t + 1)) (sr M 23 (fwP t f 36)) := by
  intro d
  induction d with
  | zero =>
    intro k n hb hn
    obtain ⟨n, rfl⟩ : ∃ m, n = m + 1 := ⟨n - 1, by omega⟩
    obtain rfl : k = 36 := by omega
    unfold F_X7_laysWays_66
    simp (disch := omega) only [nlit, nle, nI_add, if_pos]
  | succ d ih =>
    intro k n hb hn
    obtain ⟨n, rfl⟩ : ∃ m, n = m + 1 := ⟨n - 1, by omega⟩
    unfold F_X7_laysWays_66
    simp (disch := omega) only [nlit, nle, pdiv, prem6, nI_add, pk_mul, if_neg, ckN, ncl, sr_2, sr_1, sa_sr, sr_sr, reduceIte]
    have e : fwP t f (k + 1) = fwK t k (fwP t f k) := rfl
    have ih := ih (k + 1) n (by omega) (by omega)
    rw [e] at ih
    unfold fwK at ih
    by_cases hc : fwP t f k k ≤ fwP t f k (k / 6 * 6 + t) + fwP t f k (6 * t + k % 6)
    · rw [if_pos hc]
      rw [if_neg (fun h => nltI.mpr h hc)] at ih
      exact ih
    · rw [if_neg hc]
      rw [if_pos (nltI.mp hc)] at ih
      exact ih
theorem lw58 (M : Mem) (f : Nat → Int32) : ∀ (d t n : Nat), t + d = 6 → d < n → F_X7_laysWays_58 n (nI t) (sr M 23 (fwA f t)) = some (sr M 23 (fwA f 6)) := by
  intro d
  induction d with
  | zero =>
    intro t n ha hn
    obtain ⟨n, rfl⟩ : ∃ m, n = m + 1 := ⟨n - 1, by omega⟩
    obtain rfl : t = 6 := by omega
    unfold F_X7_laysWays_58
    simp (disch := omega) only [nlit, nle, if_pos]
  | succ d ih =>
    intro t n ha hn
    obtain ⟨n, rfl⟩ : ∃ m, n = m + 1 := ⟨n - 1, by omega⟩
    unfold F_X7_laysWays_58
    simp (disch := omega) only [nlit, nle, if_neg]
    have h := lw66 (F_X7_laysWays_58 n) M (fwA f t) t (by omega) 36 0 fu (by omega) (by decide)
    refine Eq.trans h ?_
    exact ih (t + 1) n (by omega) (by omega)
theorem lw2 (M : Mem) (f : Nat → Int32) (hr : ∀ k, k < 36 → ∃ v, v < 100 ∧ M.2 22 k = nI v) : ∀ (d k n : Nat), k + d = 36 → d < n → F_X7_laysWays_2 n (nI k) (sr M 23 (fwB (M.2 22) f k)) = some (sr M 23 (fw (M.2 22) f)) := by
  intro d
  induction d with
  | zero =>
    intro k n hb hn
    obtain ⟨n, rfl⟩ : ∃ m, n = m + 1 := ⟨n - 1, by omega⟩
    obtain rfl : k = 36 := by omega
    unfold F_X7_laysWays_2
    simp (disch := omega) only [nlit, nle, nI_add, if_pos]
    exact lw58 M (fwB (M.2 22) f 36) 6 0 fu (by omega) (by decide)
  | succ d ih =>
    intro k n hb hn
    obtain ⟨n, rfl⟩ : ∃ m, n = m + 1 := ⟨n - 1, by omega⟩
    unfold F_X7_laysWays_2
    obtain ⟨v, hv, ev⟩ := hr k (by omega)
    have e : fwB (M.2 22) f (k + 1) = upd (fwB (M.2 22) f k) k (g0 (M.2 22) k) := rfl
    have ih := ih (k + 1) n (by omega) (by omega)
    rw [e] at ih
    unfold g0 at ih
    rw [ev] at ih
    simp (disch := omega) only [nlit, neq] at ih
    simp (disch := omega) only [nlit, nle, neq, pdiv, prem6, nI_add, pk_mul, if_neg, ckN, ncl, sr_2, sr_1, sa_sr, sr_sr, reduceIte, ev, Nat.reduceEqDiff, Nat.le_zero]
    by_cases h1 : k / 6 = k % 6
    · rw [if_pos h1]
      rw [if_pos h1] at ih
      exact ih
    · rw [if_neg h1]
      rw [if_neg h1] at ih
      by_cases h2 : v = 0
      · rw [if_pos h2]
        rw [if_pos h2] at ih
        exact ih
      · rw [if_neg h2]
        rw [if_neg h2] at ih
        exact ih
/-- the model's ways -/
theorem ways_ok (M : Mem) (hr : ∀ k, k < 36 → ∃ v, v < 100 ∧ M.2 22 k = nI v) : F_X7_laysWays M = some (sr M 23 (fw (M.2 22) (M.2 23))) := by
  unfold F_X7_laysWays
  have h := lw2 M (M.2 23) hr 36 0 fu (by omega) (by decide)
  have e : sr M 23 (fwB (M.2 22) (M.2 23) 0) = M := sr_self M 23
  rw [e] at h
  rw [nlit]
  exact h
