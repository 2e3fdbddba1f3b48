/-! laws: texts, what they say -/
def li (b : Nat) : Nat := if b = 103 then 0 else if b = 99 then 1 else if b = 101 then 2 else if b = 112 then 3 else 4
def los (w : Nat) : Nat := if w = 0 then 1 else 0
def his (w : Nat) : Nat := if w = 0 then 4 else if w = 1 then 2 else 1
def fit (b : Nat → Nat) (k : Nat) : Bool := if k % 4 = 0 then decide (li (b k) < 4) else if k % 4 = 1 then decide (b k = 61) else if k % 4 = 2 then decide (li (b (k - 2)) < 4) && (decide (48 + los (li (b (k - 2))) ≤ b k) && decide (b k ≤ 48 + his (li (b (k - 2))))) else decide (b k = 59)
theorem prem4 (a : Nat) : nI a - nI (a / 4 * 4) = nI (a % 4) := by
  rw [psub (by omega)]
  congr 1
  omega
theorem al12 {j : Nat} (h : j < 2) : al (12 + j) = 40 := by
  rcases (show j = 0 ∨ j = 1 by omega) with rfl | rfl <;> rfl
def ixo (x : Int32) : Int32 := if 103 = x then 0 else if 99 = x then 1 else if 101 = x then 2 else if 112 = x then 3 else -1
theorem ioc (x : Int32) (M : Mem) : F_J1_indexOfChar_4cfef_7 0 fu 4 x 0 M = some (ixo x, M) := by
  have h : ∀ n, F_J1_indexOfChar_4cfef_7 0 (n + 5) 4 x 0 M = some (ixo x, M) := by
    intro n
    unfold ixo
    unfold F_J1_indexOfChar_4cfef_7
    rw [if_neg (by decide), ckT (by decide), show ((strB.getD 0 []).getD (0 : Int32).toNatClampNeg 0) = 103 from rfl]
    by_cases h1 : 103 = x
    · rw [if_pos h1, if_pos h1]
    rw [if_neg h1, if_neg h1]
    unfold F_J1_indexOfChar_4cfef_7
    rw [if_neg (by decide), ckT (by decide), show ((strB.getD 0 []).getD (0 + 1 : Int32).toNatClampNeg 0) = 99 from rfl]
    by_cases h2 : 99 = x
    · rw [if_pos h2, if_pos h2]; rfl
    rw [if_neg h2, if_neg h2]
    unfold F_J1_indexOfChar_4cfef_7
    rw [if_neg (by decide), ckT (by decide), show ((strB.getD 0 []).getD (0 + 1 + 1 : Int32).toNatClampNeg 0) = 101 from rfl]
    by_cases h3 : 101 = x
    · rw [if_pos h3, if_pos h3]; rfl
    rw [if_neg h3, if_neg h3]
    unfold F_J1_indexOfChar_4cfef_7
    rw [if_neg (by decide), ckT (by decide), show ((strB.getD 0 []).getD (0 + 1 + 1 + 1 : Int32).toNatClampNeg 0) = 112 from rfl]
    by_cases h4 : 112 = x
    · rw [if_pos h4, if_pos h4]; rfl
    rw [if_neg h4, if_neg h4]
    unfold F_J1_indexOfChar_4cfef_7
    rw [if_pos (by decide)]
  exact h 8187
theorem ixo_k : ∀ k, k < 256 → ixo (nI k).toInt8.toInt32 = (if li k < 4 then nI (li k) else -1) ∧ ((nI k).toUInt32 % 65536).toInt32 = nI k := by decide +kernel
theorem length_ok (M : Mem) : F_J0_length_8abf5 0 M = some (4, M) := by
  unfold F_J0_length_8abf5 F_J0_coder_7d493
  rw [if_neg (by decide), ckT (by decide), bdS, show Int32.ofNat ([4, 4, 4].getD 0 0) >>> ((0 : Int32) &&& 31) = 4 by decide]
theorem indexOf_ok {k : Nat} (hk : k < 256) (M : Mem) : F_J0_indexOf_0f7a4 0 (((nI k).toUInt32 % 65536).toInt32) M = some (if li k < 4 then nI (li k) else -1, M) := by
  rw [(ixo_k k hk).2]
  unfold F_J0_indexOf_0f7a4 F_J0_indexOf_7cf53
  rw [show F_J0_isLatin1_aae02 0 M = some (1, M) from rfl, bdS, if_neg (by decide), length_ok, bdS]
  unfold F_J1_indexOf_4cfef F_J1_canEncode_9a6ad
  rw [if_neg (nI_pos (by omega)), if_neg (by rw [nlit 255, nlt (by omega) (by omega)]; omega), bdS, if_neg (by decide), if_pos (by decide)]
  unfold F_J1_indexOfChar_4cfef
  rw [show (if (0 : Int32) < 0 then (0 : Int32) else 0) = 0 from rfl, show (if Int32.ofNat ([4, 4, 4].getD 0 0) < (4 : Int32) then Int32.ofNat ([4, 4, 4].getD 0 0) else 4) = 4 from rfl, ioc, bdS, bdS, bdS, (ixo_k k hk).1]
theorem charAt_ok {w : Nat} (hw : w < 4) (M : Mem) : F_J0_charAt_5068e 1 (nI w) M = some (nI (48 + los w), M) ∧ F_J0_charAt_5068e 2 (nI w) M = some (nI (48 + his w), M) := by
  rcases (show w = 0 ∨ w = 1 ∨ w = 2 ∨ w = 3 by omega) with rfl | rfl | rfl | rfl <;> exact ⟨rfl, rfl⟩
theorem figure_ok {k w : Nat} (hw : w < 4) (hk : k < 256) (M : Mem) : F_X2_isFigureOf (nI w) (nI k) M = some (if (decide (48 + los w ≤ k) && decide (k ≤ 48 + his w)) = true then 1 else 0, M) := by
  have h1 : los w ≤ 1 := by unfold los; split <;> omega
  have h2 : his w ≤ 4 := by unfold his; split <;> (try split) <;> omega
  unfold F_X2_isFigureOf F_X2_isFigureOf_39
  rw [if_neg (nI_pos (by omega)), length_ok, bdS, if_pos (by rw [nlit 4, nlt (by omega) (by omega)]; exact hw), (charAt_ok hw M).1, bdS, (charAt_ok hw M).2, bdS]
  simp (disch := omega) only [nlt]
  by_cases c1 : k < 48 + los w
  · rw [if_pos c1, decide_eq_false (by omega)]
    rfl
  · rw [if_neg c1, decide_eq_true (by omega), Bool.true_and]
    by_cases c2 : 48 + his w < k
    · rw [if_pos c2, decide_eq_false (by omega)]
      rfl
    · rw [if_neg c2, decide_eq_true (by omega)]
      rfl
def TX (M : Mem) (j z : Nat) (b : Nat → Nat) : Prop := M.1 (10 + 6 * j) = nI z ∧ ∀ k, k < z → M.2 (12 + j) k = nI (b k) ∧ b k < 256
theorem fits_ok {M : Mem} {j z : Nat} {b : Nat → Nat} (hj : j < 2) (hz : z ≤ 40) (hT : TX M j z b) {a : Nat} (ha : a < z) : F_X2_fits j (nI a) M = some (if fit b a = true then 1 else 0, M) := by
  unfold F_X2_fits
  rw [al12 hj, nlit 4, pdiv (by omega) (by omega) (by omega), pk_mul, prem4, nlit 1, nlit 2, nlit 0]
  obtain ⟨t1, t2⟩ := hT.2 a ha
  have hm : a % 4 < 4 := Nat.mod_lt _ (by omega)
  simp (disch := omega) only [neq]
  rw [ckN (show a < 40 by omega) (by omega), ncl (show a < 2147483648 by omega), t1]
  unfold fit
  by_cases h0 : a % 4 = 0
  · rw [if_pos h0, if_pos h0, indexOf_ok t2, bdS]
    by_cases hl : li (b a) < 4
    · rw [if_pos hl, if_neg (show ¬ nI (li (b a)) < nI 0 from nI_pos (by omega)), decide_eq_true hl]
      rfl
    · rw [if_neg hl, if_pos (by decide), decide_eq_false hl]
      rfl
  rw [if_neg h0, if_neg h0]
  by_cases h1 : a % 4 = 1
  · rw [if_pos h1, if_pos h1, nlit 61]
    simp (disch := omega) only [neq]
    rw [ckN (show a < 40 by omega) (by omega)]
    by_cases hl : b a = 61
    · rw [if_pos hl, decide_eq_true hl]
      rfl
    · rw [if_neg hl, decide_eq_false hl]
      rfl
  rw [if_neg h1, if_neg h1]
  by_cases h2 : a % 4 = 2
  · obtain ⟨u1, u2⟩ := hT.2 (a - 2) (by omega)
    rw [if_pos h2, if_pos h2, psub (by omega), ckN (show a - 2 < 40 by omega) (by omega), ncl (show a - 2 < 2147483648 by omega), u1, indexOf_ok u2, bdS, ckN (show a < 40 by omega) (by omega), t1]
    by_cases hl : li (b (a - 2)) < 4
    · rw [if_pos hl, figure_ok hl t2, bdS, decide_eq_true hl, Bool.true_and]
      rw [ckT (by split <;> rfl)]
      rfl
    · rw [if_neg hl, decide_eq_false hl]
      unfold F_X2_isFigureOf
      rw [if_pos (by decide), bdS, ckT zb0]
      rfl
  · rw [if_neg h2, if_neg h2, nlit 59]
    simp (disch := omega) only [neq]
    rw [ckN (show a < 40 by omega) (by omega)]
    by_cases hl : b a = 59
    · rw [if_pos hl, decide_eq_true hl]
      rfl
    · rw [if_neg hl, decide_eq_false hl]
      rfl
/-- the first fault of a text -/
def Flt (b : Nat → Nat) (z : Nat) (r : Int32) : Prop := (∃ f, f < z ∧ (∀ k, k < f → fit b k = true) ∧ fit b f = false ∧ r = nI f) ∨ ((∀ k, k < z → fit b k = true) ∧ r = if z = 0 ∨ z % 4 = 3 then -1 else nI z)
theorem Flt_u {b : Nat → Nat} {z : Nat} {r s : Int32} (h : Flt b z r) (g : Flt b z s) : r = s := by
  rcases h with ⟨f, hf, h1, h2, rfl⟩ | ⟨h1, rfl⟩
  · rcases g with ⟨f', hf', g1, g2, rfl⟩ | ⟨g1, rfl⟩
    · have : f = f' := by
        rcases Nat.lt_trichotomy f f' with h | h | h
        · rw [g1 f h] at h2; cases h2
        · exact h
        · rw [h1 f' h] at g2; cases g2
      rw [this]
    · rw [g1 f hf] at h2; cases h2
  · rcases g with ⟨f', hf', g1, g2, rfl⟩ | ⟨g1, rfl⟩
    · rw [h1 f' hf'] at g2; cases g2
    · rfl
theorem seek_l {M : Mem} {j z : Nat} {b : Nat → Nat} (hj : j < 2) (hz : z ≤ 40) (hT : TX M j z b) : ∀ (d a m : Nat), a + d = z → d < m → (∀ k, k < a → fit b k = true) → ∃ r, F_X2_seekFault_2 j m (nI a) M = some (r, M) ∧ Flt b z r := by
  intro d
  induction d with
  | zero =>
    intro a m ha hm hf
    obtain ⟨m, rfl⟩ : ∃ x, m = x + 1 := ⟨m - 1, by omega⟩
    obtain rfl : a = z := by omega
    unfold F_X2_seekFault_2 F_X2_seekFault_43
    rw [hT.1, if_pos (by rw [nle (by omega) (by omega)]; omega), nlit 4, pdiv (by omega) (by omega) (by omega), pk_mul, prem4, nlit 3, nlit 0]
    simp (disch := omega) only [neq]
    by_cases h0 : a = 0
    · exact ⟨-1, by rw [if_pos h0], Or.inr ⟨hf, by rw [if_pos (Or.inl h0)]⟩⟩
    · by_cases h3 : a % 4 = 3
      · exact ⟨-1, by rw [if_neg h0, if_pos h3], Or.inr ⟨hf, by rw [if_pos (Or.inr h3)]⟩⟩
      · exact ⟨nI a, by rw [if_neg h0, if_neg h3], Or.inr ⟨hf, by rw [if_neg (by rintro (h | h); exact h0 h; exact h3 h)]⟩⟩
  | succ d ih =>
    intro a m ha hm hf
    obtain ⟨m, rfl⟩ : ∃ x, m = x + 1 := ⟨m - 1, by omega⟩
    unfold F_X2_seekFault_2
    rw [hT.1, if_neg (by rw [nle (by omega) (by omega)]; omega), fits_ok hj hz hT (show a < z by omega), bdS]
    cases hfa : fit b a
    · exact ⟨nI a, rfl, Or.inl ⟨a, by omega, hf, hfa, rfl⟩⟩
    · rw [if_pos rfl, if_neg (by decide), nlit 1, nI_add]
      exact ih (a + 1) m (by omega) (by omega) (fun k hk => by
        rcases Nat.lt_or_ge k a with h | h
        · exact hf k h
        · rw [show k = a by omega]; exact hfa)
theorem seekF_ok {M : Mem} {j z : Nat} {b : Nat → Nat} (hj : j < 2) (hz : z ≤ 40) (hT : TX M j z b) : ∃ r, F_X2_seekFault j M = some (r, M) ∧ Flt b z r := seek_l hj hz hT z 0 fu (by omega) (by unfold fu; omega) (fun k hk => absurd hk (by omega))
/-- what the parts say -/
def tv (b : Nat → Nat) : Nat → Nat → Nat
  | 0 => fun w => if w = 0 then 2 else 0
  | q + 1 => fun w => if w = li (b (4 * q)) then b (4 * q + 2) - 48 else tv b q w
def lvs (b : Nat → Nat) (z : Nat) (r : Int32) : Nat → Nat := if r = -1 then tv b ((z + 1) / 4) else tv b 0
