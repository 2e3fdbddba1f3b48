/-! the model reads a law -/
theorem m1n : ¬ (-1 : Int32) = 61 := by decide
theorem m1n' : ¬ (-1 : Int32) = 59 := by decide
theorem nIm (k : Nat) (h : k < 2147483648) : ¬ nI k = -1 := fun e => by
  have : (0 : Int32) ≤ -1 := by rw [← e]; exact nI_pos' h
  exact absurd this (by decide)
theorem fo_l {M : Mem} {j z : Nat} {b : Nat → Nat} (hj : j < 2) (hz0 : 0 < z) (hz : z ≤ 40) (hT : TY M j z b) (T : Nat → Int32) : ∀ (d q m : Nat), q + d = 10 → d < m → 4 * q ≤ z → (∀ k, k < 4 * q → fit b k = true) → ∃ (r : Int32) (f : Nat → Int32), F_X7_faultOf_7 m (nI j) (nI (4 * q)) (sr M 32 (t4 T j (fun w => nI (tv b q w)))) = some (r, sr M 32 (t4 T j f)) ∧ Flt b z r ∧ (r = -1 → f = fun w => nI (tv b ((z + 1) / 4) w)) := by
  intro d
  induction d with
  | zero =>
    intro q m hq hm hqz hf
    obtain ⟨m, rfl⟩ : ∃ x, m = x + 1 := ⟨m - 1, by omega⟩
    have hT' : ∀ g, TY (sr M 32 g) j z b := fun g => hT
    refine ⟨nI (4 * q), _, f7m m _ _ _ z hz0 hz hj rfl hT.1 (by rw [byteAt_ok hj hz (hT' _) (by omega), if_neg (by omega)]), Or.inr ⟨fun k hk => hf k (by omega), ?_⟩, fun e => absurd e (nIm _ (by omega))⟩
    rw [if_neg (by omega)]
    congr 1
    omega
  | succ d ih =>
    intro q m hq hm hqz hf
    obtain ⟨m, rfl⟩ : ∃ x, m = x + 1 := ⟨m - 1, by omega⟩
    have hT' : ∀ g, TY (sr M 32 g) j z b := fun g => hT
    by_cases h0 : 4 * q = z
    · refine ⟨nI (4 * q), _, f7m m _ _ _ z hz0 hz hj rfl hT.1 (by rw [byteAt_ok hj hz (hT' _) (by omega), if_neg (by omega)]), Or.inr ⟨fun k hk => hf k (by omega), ?_⟩, fun e => absurd e (nIm _ (by omega))⟩
      rw [if_neg (by omega), h0]
    have hlt : 4 * q < z := by omega
    have hb0 := (hT.2 _ hlt).2
    rw [f7 m (nI j) (nI (4 * q)) hb0 (sr M 32 (t4 T j (fun w => nI (tv b q w)))) M z hz0 hz hj rfl (hT' _).1 (by rw [byteAt_ok hj hz (hT' _) (by omega), if_pos hlt])]
    by_cases hl : li (b (4 * q)) < 4
    rotate_left
    · rw [if_neg hl]
      refine ⟨nI (4 * q), _, rfl, Or.inl ⟨4 * q, hlt, hf, ?_, rfl⟩, fun e => absurd e (nIm _ (by omega))⟩
      rw [fit0, decide_eq_false hl]
    have F0 : fit b (4 * q) = true := by rw [fit0, decide_eq_true hl]
    rw [if_pos hl, f64 _ _ _ hl, nlit 1, nI_add, nlit 2, nI_add, byteAt_ok hj hz (hT' _) (by omega), bdS]
    have up1 : ∀ k, k < 4 * q + 1 → fit b k = true := fun k hk => by
      rcases Nat.lt_or_ge k (4 * q) with h | h
      · exact hf k h
      · rw [show k = 4 * q by omega]; exact F0
    by_cases h1 : 4 * q + 1 < z
    rotate_left
    · rw [if_neg h1, if_neg m1n]
      refine ⟨nI (4 * q + 1), _, rfl, Or.inr ⟨fun k hk => up1 k (by omega), ?_⟩, fun e => absurd e (nIm _ (by omega))⟩
      rw [if_neg (by omega), show 4 * q + 1 = z by omega]
    have hb1 := (hT.2 _ h1).2
    rw [if_pos h1, nlit 61]
    by_cases h61 : b (4 * q + 1) = 61
    rotate_left
    · rw [if_neg (by rw [neq (by omega) (by omega)]; exact h61)]
      refine ⟨nI (4 * q + 1), _, rfl, Or.inl ⟨4 * q + 1, h1, up1, ?_, rfl⟩, fun e => absurd e (nIm _ (by omega))⟩
      rw [fit1, decide_eq_false h61]
    have F1 : fit b (4 * q + 1) = true := by rw [fit1, decide_eq_true h61]
    have up2 : ∀ k, k < 4 * q + 2 → fit b k = true := fun k hk => by
      rcases Nat.lt_or_ge k (4 * q + 1) with h | h
      · exact up1 k h
      · rw [show k = 4 * q + 1 by omega]; exact F1
    rw [if_pos (by rw [h61]), byteAt_ok hj hz (hT' _) (by omega), bdS]
    unfold F_X7_faultOf_136
    rw [nlit 2, nI_add]
    by_cases h2 : 4 * q + 2 < z
    rotate_left
    · rw [if_neg h2, inv_no hl, bdS, if_pos rfl]
      refine ⟨nI (4 * q + 2), _, rfl, Or.inr ⟨fun k hk => up2 k (by omega), ?_⟩, fun e => absurd e (nIm _ (by omega))⟩
      rw [if_neg (by omega), show 4 * q + 2 = z by omega]
    have hb2 := (hT.2 _ h2).2
    rw [if_pos h2, inv_ok hl hb2, bdS]
    have F2 : fit b (4 * q + 2) = (decide (48 + los (li (b (4 * q))) ≤ b (4 * q + 2)) && decide (b (4 * q + 2) ≤ 48 + his (li (b (4 * q))))) := by rw [fit2, decide_eq_true hl, Bool.true_and]
    by_cases hc : (decide (48 + los (li (b (4 * q))) ≤ b (4 * q + 2)) && decide (b (4 * q + 2) ≤ 48 + his (li (b (4 * q))))) = true
    rotate_left
    · rw [if_neg hc, if_pos rfl]
      refine ⟨nI (4 * q + 2), _, rfl, Or.inl ⟨4 * q + 2, h2, up2, ?_, rfl⟩, fun e => absurd e (nIm _ (by omega))⟩
      rw [F2]
      simpa using hc
    have up3 : ∀ k, k < 4 * q + 3 → fit b k = true := fun k hk => by
      rcases Nat.lt_or_ge k (4 * q + 2) with h | h
      · exact up2 k h
      · rw [show k = 4 * q + 2 by omega, F2]; exact hc
    have hge : 48 ≤ b (4 * q + 2) := by
      rw [Bool.and_eq_true, decide_eq_true_eq] at hc
      omega
    rw [if_pos hc, if_neg (by decide), nlit 4, pk_mul, nI_add, ckN (by omega) (by omega), ckN hj (by omega), ncl (by omega), ncl (show j < 2147483648 by omega), nlit 48, psub hge, nlit 3, nI_add]
    rw [show sa (sr M 32 (t4 T j fun w => nI (tv b q w))) 32 (4 * j + li (b (4 * q))) (nI (b (4 * q + 2) - 48)) = sr M 32 (t4 T j (fun w => nI (tv b (q + 1) w))) by rw [sa_sr, sr_sr, tv_s b q _ rfl, ← t4_upd T j _ hl]; rfl]
    rw [show (sr M 32 (t4 T j (fun w => nI (tv b (q + 1) w)))).2 29 = M.2 29 from rfl, hT.1]
    by_cases h3 : 4 * q + 3 = z
    · rw [if_pos (by rw [h3])]
      refine ⟨-1, _, rfl, Or.inr ⟨fun k hk => up3 k (by omega), ?_⟩, fun _ => ?_⟩
      · rw [if_pos (Or.inr (by omega))]
      · rw [show (z + 1) / 4 = q + 1 by omega]
    rw [if_neg (by rw [neq (by omega) (by omega)]; exact h3), byteAt_ok hj hz (hT' _) (by omega), bdS, if_pos (show 4 * q + 3 < z by omega), nlit 59]
    have hb3 := (hT.2 _ (show 4 * q + 3 < z by omega)).2
    by_cases h59 : b (4 * q + 3) = 59
    · rw [if_pos (by rw [h59]), nlit 1, nI_add]
      refine ih (q + 1) m (by omega) (by omega) (by omega) (fun k hk => ?_)
      rcases Nat.lt_or_ge k (4 * q + 3) with h | h
      · exact up3 k h
      · rw [show k = 4 * q + 3 by omega, fit3, decide_eq_true h59]
    · rw [if_neg (by rw [neq (by omega) (by omega)]; exact h59)]
      refine ⟨nI (4 * q + 3), _, rfl, Or.inl ⟨4 * q + 3, by omega, up3, ?_, rfl⟩, fun e => absurd e (nIm _ (by omega))⟩
      rw [fit3, decide_eq_false h59]
/-- the model's memory behind a read law -/
def rl (M : Mem) (j : Nat) (r : Int32) (f : Nat → Nat) : Mem := sr (sr M 32 (t4 (M.2 32) j (fun w => nI (f w)))) 31 (upd (M.2 31) j r)
theorem reads_ok {M : Mem} {j z : Nat} {b : Nat → Nat} (hj : j < 2) (hz : z ≤ 40) (hT : TY M j z b) {r : Int32} (hr : Flt b z r) : F_X7_reads (nI j) M = some (rl M j r (lvs b z r)) := by
  have key : ∃ (r' : Int32) (f : Nat → Int32), F_X7_faultOf (nI j) M = some (r', sr M 32 (t4 (M.2 32) j f)) ∧ Flt b z r' ∧ (r' = -1 → f = fun w => nI (tv b ((z + 1) / 4) w)) := by
    unfold F_X7_faultOf
    rw [plain_ok M hj b, bdvS]
    by_cases h0 : z = 0
    · refine ⟨-1, _, ?_, Or.inr ⟨fun k hk => absurd hk (by omega), by rw [if_pos (Or.inl h0)]⟩, fun _ => rfl⟩
      rw [show fu = 8191 + 1 from rfl, F_X7_faultOf_7, ckN hj (by omega), ncl (by omega), show (sr M 32 (t4 (M.2 32) j (fun w => nI (tv b 0 w)))).2 29 = M.2 29 from rfl, hT.1, if_pos (by rw [nlit 0, nle (by omega) (by omega)]; omega), h0]
    · exact fo_l hj (by omega) hz hT (M.2 32) 10 0 fu (by omega) (by decide) (by omega) (fun k hk => absurd hk (by omega))
  obtain ⟨r', f, e, hr', hf⟩ := key
  obtain rfl : r' = r := Flt_u hr' hr
  unfold F_X7_reads
  rw [e, bdS, ckN hj (by omega), ckN hj (by omega), ncl (by omega), sa_sr]
  rw [show (sr (sr M 32 (t4 (M.2 32) j f)) 31 (upd ((sr M 32 (t4 (M.2 32) j f)).2 31) j r')).2 31 j = r' from upd_s _ _ _]
  unfold lvs rl
  by_cases h : r' = -1
  · rw [if_pos h, if_pos h, hf h]
    rfl
  · rw [if_neg h, if_neg h, plain_ok _ hj b, bdvS]
    congr 1
    rw [show (sr (sr M 32 (t4 (M.2 32) j f)) 31 (upd ((sr M 32 (t4 (M.2 32) j f)).2 31) j r')).2 32 = t4 (M.2 32) j f from rfl, t4_t4]
    unfold sr
    apply Prod.ext
    · rfl
    · funext k
      simp only [va_up]
      by_cases h1 : k = 32
      · simp [h1]
      · simp [h1]
theorem Flt_m1 {b : Nat → Nat} {z : Nat} (hz : z ≤ 40) (hr : Flt b z (-1)) : (∀ k, k < z → fit b k = true) ∧ (z = 0 ∨ z % 4 = 3) := by
  rcases hr with ⟨f, hf, -, -, e⟩ | ⟨h1, e⟩
  · exact absurd e.symm (nIm _ (by omega))
  · refine ⟨h1, ?_⟩
    by_cases hc : z = 0 ∨ z % 4 = 3
    · exact hc
    · rw [if_neg hc] at e
      exact absurd e.symm (nIm _ (by omega))
theorem lvs_b {b : Nat → Nat} {z : Nat} {r : Int32} (hz : z ≤ 40) (hr : Flt b z r) : (1 ≤ lvs b z r 0 ∧ lvs b z r 0 ≤ 4) ∧ lvs b z r 1 ≤ 2 ∧ lvs b z r 2 ≤ 1 ∧ lvs b z r 3 ≤ 1 := by
  unfold lvs
  by_cases h : r = -1
  · rw [if_pos h]
    subst h
    have hh := Flt_m1 hz hr
    have key : ∀ q, 4 * q ≤ z + 1 → (1 ≤ tv b q 0 ∧ tv b q 0 ≤ 4) ∧ tv b q 1 ≤ 2 ∧ tv b q 2 ≤ 1 ∧ tv b q 3 ≤ 1 := by
      intro q
      induction q with
      | zero =>
        intro _
        show (1 ≤ 2 ∧ 2 ≤ 4) ∧ 0 ≤ 2 ∧ 0 ≤ 1 ∧ 0 ≤ 1
        decide
      | succ q ih =>
        intro hq
        have ih := ih (by omega)
        have f2 := hh.1 (4 * q + 2) (by omega)
        rw [fit2, Bool.and_eq_true, Bool.and_eq_true, decide_eq_true_eq, decide_eq_true_eq, decide_eq_true_eq] at f2
        obtain ⟨f0, f1, f2⟩ := f2
        unfold tv
        obtain ⟨w, hw⟩ : ∃ w, li (b (4 * q)) = w := ⟨_, rfl⟩
        rw [hw] at f0 f1 f2 ⊢
        rcases (show w = 0 ∨ w = 1 ∨ w = 2 ∨ w = 3 by omega) with rfl | rfl | rfl | rfl
        · unfold los at f1; unfold his at f2; simp at f1 f2 ⊢; omega
        · unfold los at f1; unfold his at f2; simp at f1 f2 ⊢; omega
        · unfold los at f1; unfold his at f2; simp at f1 f2 ⊢; omega
        · unfold los at f1; unfold his at f2; simp at f1 f2 ⊢; omega
    exact key _ (by omega)
  · rw [if_neg h]
    show (1 ≤ 2 ∧ 2 ≤ 4) ∧ 0 ≤ 2 ∧ 0 ≤ 1 ∧ 0 ≤ 1
    decide
