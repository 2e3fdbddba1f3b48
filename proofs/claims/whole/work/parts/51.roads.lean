/-! the quickest ways: both systems lay the same -/
def g0 (r : Nat → Int32) (k : Nat) : Int32 := if k / 6 = k % 6 then 0 else if r k = 0 then 1000 else r k
def fwB (r f : Nat → Int32) : Nat → Nat → Int32
  | 0 => f
  | m + 1 => upd (fwB r f m) m (g0 r m)
def fwK (t k : Nat) (f : Nat → Int32) : Nat → Int32 := upd f k (if f (k / 6 * 6 + t) + f (6 * t + k % 6) < f k then f (k / 6 * 6 + t) + f (6 * t + k % 6) else f k)
def fwP (t : Nat) (f : Nat → Int32) : Nat → Nat → Int32
  | 0 => f
  | m + 1 => fwK t m (fwP t f m)
def fwA (f : Nat → Int32) : Nat → Nat → Int32
  | 0 => f
  | m + 1 => fwP m (fwA f m) 36
/-- the ways by the roads r; what lies behind the row's end is g's -/
def fw (r g : Nat → Int32) : Nat → Int32 := fwA (fwB r g 36) 6
theorem fwK_hit (t a b : Nat) (hb : b < 6) (f : Nat → Int32) : fwK t (a * 6 + b) f = upd f (a * 6 + b) (if f (a * 6 + t) + f (t * 6 + b) < f (a * 6 + b) then f (a * 6 + t) + f (t * 6 + b) else f (a * 6 + b)) := by
  unfold fwK
  rw [show (a * 6 + b) / 6 * 6 + t = a * 6 + t by omega, show 6 * t + (a * 6 + b) % 6 = t * 6 + b by omega]
theorem nltI {x y : Int32} : ¬ x ≤ y ↔ y < x := Int32.not_le
theorem st10 (k2 : Int32 → Int32 → Mem → Option Mem) (M : Mem) (f : Nat → Int32) (t a : Nat) (ht : t < 6) (ha : a < 6) : ∀ (d b n : Nat), b + d = 6 → d < n → F_X3_shortenThrough_10 k2 n (nI t) (nI a) (nI b) (sr M 1 (fwP t f (a * 6 + b))) = k2 (nI t) (nI (a + 1)) (sr M 1 (fwP t f (a * 6 + 6))) := by
  intro d
  induction d with
  | zero =>
    intro b n hb hn
    obtain ⟨n, rfl⟩ : ∃ m, n = m + 1 := ⟨n - 1, by omega⟩
    obtain rfl : b = 6 := by omega
    unfold F_X3_shortenThrough_10
    simp (disch := omega) only [nlit, nle, nI_add, if_pos]
  | succ d ih =>
    intro b n hb hn
    obtain ⟨n, rfl⟩ : ∃ m, n = m + 1 := ⟨n - 1, by omega⟩
    unfold F_X3_shortenThrough_10 F_X3_shortenThrough_70
    simp (disch := omega) only [nlit, nle, nI_add, pk_mul, if_neg, ckN, ncl, sr_2, sr_1, sa_sr, sr_sr, reduceIte]
    have e : fwP t f (a * 6 + (b + 1)) = fwK t (a * 6 + b) (fwP t f (a * 6 + b)) := rfl
    have ih := ih (b + 1) n (by omega) (by omega)
    rw [e, fwK_hit t a b (by omega)] at ih
    by_cases hc : fwP t f (a * 6 + b) (a * 6 + b) ≤ fwP t f (a * 6 + b) (a * 6 + t) + fwP t f (a * 6 + b) (t * 6 + b)
    · rw [if_pos hc]
      rw [if_neg (fun h => nltI.mpr h hc), upd_self] at ih
      exact ih
    · rw [if_neg hc]
      rw [if_pos (nltI.mp hc)] at ih
      exact ih
theorem st2 (M : Mem) (f : Nat → Int32) (t : Nat) (ht : t < 6) : ∀ (d a n : Nat), a + d = 6 → d < n → F_X3_shortenThrough_2 n (nI t) (nI a) (sr M 1 (fwP t f (a * 6))) = some (sr M 1 (fwP t f 36)) := by
  intro d
  induction d with
  | zero =>
    intro a n ha hn
    obtain ⟨n, rfl⟩ : ∃ m, n = m + 1 := ⟨n - 1, by omega⟩
    obtain rfl : a = 6 := by omega
    unfold F_X3_shortenThrough_2
    simp (disch := omega) only [nlit, nle, if_pos, Nat.reduceMul]
  | succ d ih =>
    intro a n ha hn
    obtain ⟨n, rfl⟩ : ∃ m, n = m + 1 := ⟨n - 1, by omega⟩
    unfold F_X3_shortenThrough_2
    simp (disch := omega) only [nlit, nle, if_neg]
    have h := st10 (F_X3_shortenThrough_2 n) M f t a ht (by omega) 6 0 fu (by omega) (by decide)
    rw [Nat.add_zero] at h
    rw [h, show a * 6 + 6 = (a + 1) * 6 by omega]
    exact ih (a + 1) n (by omega) (by omega)
theorem st_ok (M : Mem) (f : Nat → Int32) (t : Nat) (ht : t < 6) : F_X3_shortenThrough (nI t) (sr M 1 f) = some (sr M 1 (fwP t f 36)) := by
  unfold F_X3_shortenThrough
  rw [nlit]
  exact st2 M f t ht 6 0 fu (by omega) (by decide)
theorem sq73 (M : Mem) (f : Nat → Int32) : ∀ (d t n : Nat), t + d = 6 → d < n → F_X3_seekQuickest_73 n (nI t) (sr M 1 (fwA f t)) = some (sr M 1 (fwA f 6)) := by
  intro d
  induction d with
  | zero =>
    intro t n ha hn
    obtain ⟨n, rfl⟩ : ∃ m, n = m + 1 := ⟨n - 1, by omega⟩
    obtain rfl : t = 6 := by omega
    unfold F_X3_seekQuickest_73
    simp (disch := omega) only [nlit, nle, if_pos]
  | succ d ih =>
    intro t n ha hn
    obtain ⟨n, rfl⟩ : ∃ m, n = m + 1 := ⟨n - 1, by omega⟩
    unfold F_X3_seekQuickest_73
    simp (disch := omega) only [nlit, nle, if_neg]
    rw [st_ok M (fwA f t) t (by omega), bdvS, nI_add]
    exact ih (t + 1) n (by omega) (by omega)
theorem sq10 (k2 : Int32 → Mem → Option Mem) (M : Mem) (f : Nat → Int32) (a : Nat) (ha : a < 6) : ∀ (d b n : Nat), b + d = 6 → d < n → F_X3_seekQuickest_10 k2 n (nI a) (nI b) (sr M 1 (fwB (M.2 0) f (a * 6 + b))) = k2 (nI (a + 1)) (sr M 1 (fwB (M.2 0) f (a * 6 + 6))) := by
  intro d
  induction d with
  | zero =>
    intro b n hb hn
    obtain ⟨n, rfl⟩ : ∃ m, n = m + 1 := ⟨n - 1, by omega⟩
    obtain rfl : b = 6 := by omega
    unfold F_X3_seekQuickest_10
    simp (disch := omega) only [nlit, nle, nI_add, if_pos]
  | succ d ih =>
    intro b n hb hn
    obtain ⟨n, rfl⟩ : ∃ m, n = m + 1 := ⟨n - 1, by omega⟩
    unfold F_X3_seekQuickest_10
    have hc : ¬ nI 6 ≤ nI b := by rw [nle (by omega) (by omega)]; omega
    rw [nlit, if_neg hc]
    have e : fwB (M.2 0) f (a * 6 + (b + 1)) = upd (fwB (M.2 0) f (a * 6 + b)) (a * 6 + b) (g0 (M.2 0) (a * 6 + b)) := rfl
    have ih := ih (b + 1) n (by omega) (by omega)
    rw [e] at ih
    unfold g0 at ih
    rw [show (a * 6 + b) / 6 = a by omega, show (a * 6 + b) % 6 = b by omega] at ih
    simp (disch := omega) only [nlit 6, nlit 1, neq, nI_add, pk_mul, ckN, ncl, sr_2, sr_1, sa_sr, sr_sr, reduceIte, Nat.zero_ne_one]
    by_cases h1 : a = b
    · rw [if_pos h1]
      rw [if_pos h1] at ih
      exact ih
    · rw [if_neg h1]
      rw [if_neg h1] at ih
      by_cases h2 : M.2 0 (a * 6 + b) = 0
      · rw [if_pos h2]
        rw [if_pos h2] at ih
        exact ih
      · rw [if_neg h2]
        rw [if_neg h2] at ih
        exact ih
theorem sq2 (M : Mem) (f : Nat → Int32) : ∀ (d a n : Nat), a + d = 6 → d < n → F_X3_seekQuickest_2 n (nI a) (sr M 1 (fwB (M.2 0) f (a * 6))) = some (sr M 1 (fw (M.2 0) f)) := by
  intro d
  induction d with
  | zero =>
    intro a n ha hn
    obtain ⟨n, rfl⟩ : ∃ m, n = m + 1 := ⟨n - 1, by omega⟩
    obtain rfl : a = 6 := by omega
    unfold F_X3_seekQuickest_2
    simp (disch := omega) only [nlit, nle, if_pos, Nat.reduceMul]
    exact sq73 M (fwB (M.2 0) f 36) 6 0 fu (by omega) (by decide)
  | succ d ih =>
    intro a n ha hn
    obtain ⟨n, rfl⟩ : ∃ m, n = m + 1 := ⟨n - 1, by omega⟩
    unfold F_X3_seekQuickest_2
    simp (disch := omega) only [nlit, nle, if_neg]
    have h := sq10 (F_X3_seekQuickest_2 n) M f a (by omega) 6 0 fu (by omega) (by decide)
    rw [Nat.add_zero] at h
    rw [h, show a * 6 + 6 = (a + 1) * 6 by omega]
    exact ih (a + 1) n (by omega) (by omega)
/-- the class's ways -/
theorem seek_ok (M : Mem) : F_X3_seekQuickest M = some (sr M 1 (fw (M.2 0) (M.2 1))) := by
  unfold F_X3_seekQuickest
  have h := sq2 M (M.2 1) 6 0 fu (by omega) (by decide)
  rw [Nat.zero_mul] at h
  rw [nlit]
  have e : sr M 1 (fwB (M.2 0) (M.2 1) 0) = M := sr_self M 1
  rw [e] at h
  exact h
/-! what lies behind the end doesn't matter -/
theorem fwB_eq (r f : Nat → Int32) : ∀ m k, fwB r f m k = if k < m then g0 r k else f k := by
  intro m
  induction m with
  | zero => intro k; rw [if_neg (by omega)]; rfl
  | succ m ih =>
    intro k
    show upd (fwB r f m) m (g0 r m) k = _
    by_cases h : k = m
    · subst h
      rw [upd_s, if_pos (by omega)]
    · rw [upd_n h, ih]
      by_cases h2 : k < m
      · rw [if_pos h2, if_pos (by omega)]
      · rw [if_neg h2, if_neg (by omega)]
theorem fwK_cong (t k : Nat) (ht : t < 6) (hk : k < 36) {f g : Nat → Int32} (h : ∀ i, i < 36 → f i = g i) : ∀ i, i < 36 → fwK t k f i = fwK t k g i := by
  intro i hi
  unfold fwK
  by_cases e : i = k
  · subst e
    rw [upd_s, upd_s, h i hi, h (i / 6 * 6 + t) (by omega), h (6 * t + i % 6) (by omega)]
  · rw [upd_n e, upd_n e, h i hi]
theorem fwP_cong (t : Nat) (ht : t < 6) {f g : Nat → Int32} (h : ∀ i, i < 36 → f i = g i) : ∀ m, m ≤ 36 → ∀ i, i < 36 → fwP t f m i = fwP t g m i := by
  intro m
  induction m with
  | zero => intro _ i hi; exact h i hi
  | succ m ih => intro hm i hi; exact fwK_cong t m ht (by omega) (ih (by omega)) i hi
theorem fwA_cong {f g : Nat → Int32} (h : ∀ i, i < 36 → f i = g i) : ∀ m, m ≤ 6 → ∀ i, i < 36 → fwA f m i = fwA g m i := by
  intro m
  induction m with
  | zero => intro _ i hi; exact h i hi
  | succ m ih => intro hm i hi; exact fwP_cong m (by omega) (ih (by omega)) 36 (by omega) i hi
theorem fw_cong (r f g : Nat → Int32) : ∀ i, i < 36 → fw r f i = fw r g i := fun i hi => fwA_cong (fun k hk => by rw [fwB_eq, fwB_eq, if_pos hk, if_pos hk]) 6 (by omega) i hi
/-- the same, of rows that are alike below the end -/
theorem fw_cong2 {r r2 : Nat → Int32} (h : ∀ i, i < 36 → r i = r2 i) (f g : Nat → Int32) : ∀ i, i < 36 → fw r f i = fw r2 g i := fun i hi => fwA_cong (fun k hk => by rw [fwB_eq, fwB_eq, if_pos hk, if_pos hk]; unfold g0; rw [h k hk]) 6 (by omega) i hi
