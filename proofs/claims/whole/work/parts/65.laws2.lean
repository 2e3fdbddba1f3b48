/-! laws: both systems read them -/
def sl (M : Mem) (j : Nat) (r : Int32) (f : Nat → Int32) : Mem := (fun k => if k = 10 + 6 * j + 1 then r else if 10 + 6 * j + 2 ≤ k ∧ k < 10 + 6 * j + 6 then f (k - (10 + 6 * j + 2)) else M.1 k, M.2)
theorem sl_sv (M : Mem) (j : Nat) (r : Int32) (f : Nat → Int32) {w : Nat} (hw : w < 4) (x : Int32) : sv (sl M j r f) (10 + 6 * j + 2 + w) x = sl M j r (upd f w x) := by
  unfold sv sl
  apply Prod.ext
  · funext k
    simp only [va_up]
    by_cases h : k = 10 + 6 * j + 2 + w
    · rw [if_pos h, if_neg (by omega), if_pos (by omega), show k - (10 + 6 * j + 2) = w by omega, upd_s]
    · rw [if_neg h]
      by_cases h1 : k = 10 + 6 * j + 1
      · rw [if_pos h1, if_pos h1]
      · rw [if_neg h1, if_neg h1]
        by_cases h2 : 10 + 6 * j + 2 ≤ k ∧ k < 10 + 6 * j + 6
        · rw [if_pos h2, if_pos h2, upd_n (by omega)]
        · rw [if_neg h2, if_neg h2]
  · rfl
theorem sl_0 (M : Mem) (b : Nat → Nat) (j : Nat) (r : Int32) : sv (sv (sv (sv (sv M (10 + 6 * j + 1) r) (10 + 6 * j + 2) 2) (10 + 6 * j + 3) 0) (10 + 6 * j + 4) 0) (10 + 6 * j + 5) 0 = sl M j r (fun w => nI (tv b 0 w)) := by
  unfold sv sl
  apply Prod.ext
  · funext k
    simp only [va_up]
    by_cases h5 : k = 10 + 6 * j + 5
    · rw [if_pos h5, if_neg (by omega), if_pos (by omega), show k - (10 + 6 * j + 2) = 3 by omega]; rfl
    rw [if_neg h5]
    by_cases h4 : k = 10 + 6 * j + 4
    · rw [if_pos h4, if_neg (by omega), if_pos (by omega), show k - (10 + 6 * j + 2) = 2 by omega]; rfl
    rw [if_neg h4]
    by_cases h3 : k = 10 + 6 * j + 3
    · rw [if_pos h3, if_neg (by omega), if_pos (by omega), show k - (10 + 6 * j + 2) = 1 by omega]; rfl
    rw [if_neg h3]
    by_cases h2 : k = 10 + 6 * j + 2
    · rw [if_pos h2, if_neg (by omega), if_pos (by omega), show k - (10 + 6 * j + 2) = 0 by omega]; rfl
    rw [if_neg h2]
    by_cases h1 : k = 10 + 6 * j + 1
    · rw [if_pos h1, if_pos h1]
    · rw [if_neg h1, if_neg h1, if_neg (by omega)]
  · rfl
theorem li_inv {b w : Nat} (h : li b = w) (hw : w < 4) : b = [103, 99, 101, 112].getD w 0 := by
  unfold li at h
  split at h
  · subst h; simp [*]
  · split at h
    · subst h; simp [*]
    · split at h
      · subst h; simp [*]
      · split at h
        · subst h; simp [*]
        · omega
theorem take_ok (M : Mem) (j : Nat) (r : Int32) (f : Nat → Int32) {b w : Nat} (h : li b = w) (hw : w < 4) (x : Int32) : F_X2_takePart j (nI b) x (sl M j r f) = some (sl M j r (upd f w x)) := by
  rw [← sl_sv M j r f hw x, li_inv h hw]
  rcases (show w = 0 ∨ w = 1 ∨ w = 2 ∨ w = 3 by omega) with rfl | rfl | rfl | rfl <;> rfl
theorem tv_s (b : Nat → Nat) (q : Nat) (w : Nat) (h : li (b (4 * q)) = w) : (fun v => nI (tv b (q + 1) v)) = upd (fun v => nI (tv b q v)) w (nI (b (4 * q + 2) - 48)) := by
  funext v
  show nI (if v = li (b (4 * q)) then b (4 * q + 2) - 48 else tv b q v) = _
  by_cases e : v = w
  · rw [if_pos (by rw [h]; exact e), e, upd_s]
  · rw [if_neg (by rw [h]; exact e), upd_n e]
theorem fit0 {b : Nat → Nat} {q : Nat} : fit b (4 * q) = decide (li (b (4 * q)) < 4) := by
  unfold fit
  rw [if_pos (by omega)]
theorem fit1 {b : Nat → Nat} {q : Nat} : fit b (4 * q + 1) = decide (b (4 * q + 1) = 61) := by
  unfold fit
  rw [if_neg (by omega), if_pos (by omega)]
theorem fit2 {b : Nat → Nat} {q : Nat} : fit b (4 * q + 2) = (decide (li (b (4 * q)) < 4) && (decide (48 + los (li (b (4 * q))) ≤ b (4 * q + 2)) && decide (b (4 * q + 2) ≤ 48 + his (li (b (4 * q)))))) := by
  unfold fit
  rw [if_neg (by omega), if_neg (by omega), if_pos (by omega), show 4 * q + 2 - 2 = 4 * q by omega]
theorem fit3 {b : Nat → Nat} {q : Nat} : fit b (4 * q + 3) = decide (b (4 * q + 3) = 59) := by
  unfold fit
  rw [if_neg (by omega), if_neg (by omega), if_neg (by omega)]
theorem und_l {M : Mem} {j z : Nat} {b : Nat → Nat} (hj : j < 2) (hz : z ≤ 40) (hT : TX M j z b) (hf : ∀ k, k < z → fit b k = true) (h3 : z = 0 ∨ z % 4 = 3) : ∀ (d q m : Nat), q + d = (z + 1) / 4 → d < m → F_X2_understand_38 j m (nI (4 * q)) (sl M j (-1) (fun w => nI (tv b q w))) = some (sl M j (-1) (fun w => nI (tv b ((z + 1) / 4) w))) := by
  intro d
  induction d with
  | zero =>
    intro q m hq hm
    obtain ⟨m, rfl⟩ : ∃ x, m = x + 1 := ⟨m - 1, by omega⟩
    obtain rfl : q = (z + 1) / 4 := by omega
    unfold F_X2_understand_38
    rw [show (sl M j (-1) (fun w => nI (tv b ((z + 1) / 4) w))).1 (10 + 6 * j) = M.1 (10 + 6 * j) by unfold sl; simp only []; rw [if_neg (by omega), if_neg (by omega)], hT.1, nlit 2, nI_add, if_pos (by rw [nle (by omega) (by omega)]; omega)]
  | succ d ih =>
    intro q m hq hm
    obtain ⟨m, rfl⟩ : ∃ x, m = x + 1 := ⟨m - 1, by omega⟩
    have hlt : 4 * q + 2 < z := by omega
    unfold F_X2_understand_38
    rw [show (sl M j (-1) (fun w => nI (tv b q w))).1 (10 + 6 * j) = M.1 (10 + 6 * j) by unfold sl; simp only []; rw [if_neg (by omega), if_neg (by omega)], hT.1, nlit 2, nI_add, if_neg (by rw [nle (by omega) (by omega)]; omega), al12 hj]
    rw [show (sl M j (-1) (fun w => nI (tv b q w))).2 = M.2 from rfl, ckN (by omega) (by omega), ckN (by omega) (by omega), ncl (by omega), ncl (by omega), (hT.2 _ (show 4 * q < z by omega)).1, (hT.2 _ hlt).1]
    have f0 := hf (4 * q) (by omega)
    rw [fit0, decide_eq_true_eq] at f0
    have f2 := hf (4 * q + 2) hlt
    rw [fit2, decide_eq_true f0, Bool.true_and, Bool.and_eq_true, decide_eq_true_eq, decide_eq_true_eq] at f2
    rw [take_ok M j (-1) _ rfl f0, bdvS, nlit 48, psub (by omega), nlit 4, nI_add, ← tv_s b q _ rfl]
    exact ih (q + 1) m (by omega) (by omega)
theorem und_ok {M : Mem} {j z : Nat} {b : Nat → Nat} (hj : j < 2) (hz : z ≤ 40) (hT : TX M j z b) : ∃ r, Flt b z r ∧ F_X2_understand j M = some (sl M j r (fun w => nI (lvs b z r w))) := by
  obtain ⟨r, e, hr⟩ := seekF_ok hj hz hT
  refine ⟨r, hr, ?_⟩
  unfold F_X2_understand
  rw [e, bdS, sl_0 M b]
  rw [show (sl M j r (fun w => nI (tv b 0 w))).1 (10 + 6 * j + 1) = r by unfold sl; simp only []; rw [if_pos trivial]]
  unfold lvs
  by_cases h : r = -1
  · rw [if_pos h, if_pos h]
    subst h
    have hh : (∀ k, k < z → fit b k = true) ∧ (z = 0 ∨ z % 4 = 3) := by
      rcases hr with ⟨f, hf, -, -, e⟩ | ⟨h1, e⟩
      · exact absurd e (fun e => by
          have : (0 : Int32) ≤ -1 := by rw [e]; exact nI_pos' (by omega)
          exact absurd this (by decide))
      · refine ⟨h1, ?_⟩
        by_cases hc : z = 0 ∨ z % 4 = 3
        · exact hc
        · rw [if_neg hc] at e
          exact absurd e (fun e => by
            have : (0 : Int32) ≤ -1 := by rw [e]; exact nI_pos' (by omega)
            exact absurd this (by decide))
    exact und_l hj hz hT hh.1 hh.2 ((z + 1) / 4) 0 fu (by omega) (by unfold fu; omega)
  · rw [if_neg h, if_neg h]
/-! the model -/
def TY (M : Mem) (j z : Nat) (b : Nat → Nat) : Prop := M.2 29 j = nI z ∧ ∀ k, k < z → M.2 30 (40 * j + k) = nI (b k) ∧ b k < 256
theorem byteAt_ok {M : Mem} {j z : Nat} {b : Nat → Nat} (hj : j < 2) (hz : z ≤ 40) (hT : TY M j z b) {k : Nat} (hk : k < 1000) : F_X7_byteAt (nI j) (nI k) M = some (if k < z then nI (b k) else -1, M) := by
  unfold F_X7_byteAt
  rw [ckN hj (by omega), ncl (by omega), hT.1]
  by_cases h : k < z
  · rw [if_neg (by rw [nle (by omega) (by omega)]; omega), if_pos h, nlit 40, pk_mul, nI_add, ckN (by omega) (by omega), ncl (by omega), (hT.2 k h).1]
  · rw [if_pos (by rw [nle (by omega) (by omega)]; omega), if_neg h]
def t4 (T : Nat → Int32) (j : Nat) (f : Nat → Int32) : Nat → Int32 := fun k => if 4 * j ≤ k ∧ k < 4 * j + 4 then f (k - 4 * j) else T k
theorem t4_upd (T : Nat → Int32) (j : Nat) (f : Nat → Int32) {w : Nat} (hw : w < 4) (x : Int32) : upd (t4 T j f) (4 * j + w) x = t4 T j (upd f w x) := by
  funext k
  by_cases h : k = 4 * j + w
  · subst h
    rw [upd_s]
    unfold t4
    rw [if_pos (by omega), show 4 * j + w - 4 * j = w by omega, upd_s]
  · rw [upd_n h]
    unfold t4
    by_cases h2 : 4 * j ≤ k ∧ k < 4 * j + 4
    · rw [if_pos h2, if_pos h2, upd_n (by omega)]
    · rw [if_neg h2, if_neg h2]
theorem t4_t4 (T : Nat → Int32) (j : Nat) (f g : Nat → Int32) : t4 (t4 T j f) j g = t4 T j g := by
  funext k
  unfold t4
  split <;> rfl
theorem t4_0 (T : Nat → Int32) (j : Nat) (b : Nat → Nat) : upd (upd (upd (upd T (4 * j) 2) (4 * j + 1) 0) (4 * j + 2) 0) (4 * j + 3) 0 = t4 T j (fun w => nI (tv b 0 w)) := by
  funext k
  unfold t4
  by_cases h3 : k = 4 * j + 3
  · rw [h3, upd_s, if_pos (by omega), show 4 * j + 3 - 4 * j = 3 by omega]; rfl
  rw [upd_n h3]
  by_cases h2 : k = 4 * j + 2
  · rw [h2, upd_s, if_pos (by omega), show 4 * j + 2 - 4 * j = 2 by omega]; rfl
  rw [upd_n h2]
  by_cases h1 : k = 4 * j + 1
  · rw [h1, upd_s, if_pos (by omega), show 4 * j + 1 - 4 * j = 1 by omega]; rfl
  rw [upd_n h1]
  by_cases h0 : k = 4 * j
  · rw [h0, upd_s, if_pos (by omega), show 4 * j - 4 * j = 0 by omega]; rfl
  rw [upd_n h0, if_neg (by omega)]
theorem plain_ok (M : Mem) {j : Nat} (hj : j < 2) (b : Nat → Nat) : F_X7_plain (nI j) M = some (sr M 32 (t4 (M.2 32) j (fun w => nI (tv b 0 w)))) := by
  unfold F_X7_plain
  simp (disch := omega) only [nlit 4, nlit 1, nlit 2, nlit 3, pk_mul, nI_add, ckN, ncl, sa_sr, sr_2, sr_sr, reduceIte]
  rw [← t4_0]
  rfl
theorem inv_k : ∀ w, w < 4 → ∀ b, b < 256 → (nI b - 48 < nI (los w)) = (b < 48 + los w) ∧ (nI (his w) < nI b - 48) = (48 + his w < b) := by
  have h : ∀ w, w < 4 → ∀ b, b < 256 → decide (nI b - 48 < nI (los w)) = decide (b < 48 + los w) ∧ decide (nI (his w) < nI b - 48) = decide (48 + his w < b) := by decide +kernel
  intro w hw b hb
  exact ⟨propext (decide_eq_decide.mp (h w hw b hb).1), propext (decide_eq_decide.mp (h w hw b hb).2)⟩
theorem inv_ok {w b : Nat} (hw : w < 4) (hb : b < 256) (M : Mem) : F_X7_in (nI b - 48) (nI (los w)) (nI (his w)) M = some (if (decide (48 + los w ≤ b) && decide (b ≤ 48 + his w)) = true then 1 else 0, M) := by
  obtain ⟨e1, e2⟩ := inv_k w hw b hb
  by_cases h1 : b < 48 + los w
  · rw [in_lo (by rw [e1]; exact h1), decide_eq_false (by omega)]; rfl
  · by_cases h2 : 48 + his w < b
    · rw [in_hi (by rw [e1]; exact h1) (by rw [e2]; exact h2), decide_eq_true (show 48 + los w ≤ b by omega), decide_eq_false (show ¬ b ≤ 48 + his w by omega)]; rfl
    · rw [in_ok (by rw [e1]; exact h1) (by rw [e2]; exact h2), decide_eq_true (show 48 + los w ≤ b by omega), decide_eq_true (show b ≤ 48 + his w by omega)]; rfl
theorem inv_no {w : Nat} (hw : w < 4) (M : Mem) : F_X7_in (-1 - 48) (nI (los w)) (nI (his w)) M = some (0, M) := by
  rcases (show w = 0 ∨ w = 1 ∨ w = 2 ∨ w = 3 by omega) with rfl | rfl | rfl | rfl <;> rfl
theorem f64 (k7 : Int32 → Int32 → Mem → Option (Int32 × Mem)) (x1 x2 : Int32) {w : Nat} (hw : w < 4) (M : Mem) : F_X7_faultOf_64 k7 x1 x2 (nI w) M = bd (F_X7_byteAt x1 (x2 + 1) M) (fun r M79 => if r = 61 then bd (F_X7_byteAt x1 (x2 + 2) M79) (fun r96 M96 => F_X7_faultOf_136 k7 x1 x2 (nI w) (r96 - 48) (r96 - 48) (nI (los w)) (nI (his w)) M96) else some (x2 + 1, M79)) := by
  rcases (show w = 0 ∨ w = 1 ∨ w = 2 ∨ w = 3 by omega) with rfl | rfl | rfl | rfl <;> rfl
theorem f7 (m : Nat) (x1 x2 : Int32) {b : Nat} (hb : b < 256) (M M1 : Mem) (z : Nat) (hz : 0 < z) (hz2 : z ≤ 40) {j : Nat} (hj : j < 2) (hx : x1 = nI j) (h29 : M.2 29 j = nI z) (e : F_X7_byteAt x1 x2 M = some (nI b, M)) : F_X7_faultOf_7 (m + 1) x1 x2 M = F_X7_faultOf_64 (F_X7_faultOf_7 m) x1 x2 (if li b < 4 then nI (li b) else -1) M := by
  subst hx
  rw [F_X7_faultOf_7, ckN hj (by omega), ncl (by omega), h29, if_neg (by rw [nlit 0, nle (by omega) (by omega)]; omega), e, bdS, nlit 103, nlit 99, nlit 101, nlit 112]
  unfold li
  simp (disch := omega) only [neq]
  by_cases h1 : b = 103
  · simp only [if_pos h1]; rfl
  simp only [if_neg h1]
  by_cases h2 : b = 99
  · simp only [if_pos h2]; rfl
  simp only [if_neg h2]
  by_cases h3 : b = 101
  · simp only [if_pos h3]; rfl
  simp only [if_neg h3]
  by_cases h4 : b = 112
  · simp only [if_pos h4]; rfl
  simp only [if_neg h4]
  rfl
theorem f7m (m : Nat) (x1 x2 : Int32) (M : Mem) (z : Nat) (hz : 0 < z) (hz2 : z ≤ 40) {j : Nat} (hj : j < 2) (hx : x1 = nI j) (h29 : M.2 29 j = nI z) (e : F_X7_byteAt x1 x2 M = some (-1, M)) : F_X7_faultOf_7 (m + 1) x1 x2 M = some (x2, M) := by
  subst hx
  rw [F_X7_faultOf_7, ckN hj (by omega), ncl (by omega), h29, if_neg (by rw [nlit 0, nle (by omega) (by omega)]; omega), e, bdS]
  rfl
