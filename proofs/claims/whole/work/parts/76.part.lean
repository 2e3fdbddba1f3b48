/-! the least case in which two laws part -/
def fst1 (c : Int32) (T : Nat → Bool) : Nat → Int32
  | 0 => -1
  | k + 1 => if (decide (nI k &&& (c ^^^ (-1)) = 0) && (decide (fst1 c T k = -1) || decide (pc (nI k) < pc (fst1 c T k))) && T k) = true then nI k else fst1 c T k
theorem fst1_f {c : Int32} {T : Nat → Bool} : ∀ k, fst1 c T k = -1 ∨ ∃ b, b < k ∧ fst1 c T k = nI b := by
  intro k
  induction k with
  | zero => exact Or.inl rfl
  | succ k ih =>
    unfold fst1
    split
    · exact Or.inr ⟨k, by omega, rfl⟩
    · rcases ih with h | ⟨b, hb, h⟩
      · exact Or.inl h
      · exact Or.inr ⟨b, by omega, h⟩
theorem sub_le {k c : Nat} (hk : k < 2147483648) (hc : c < 2147483648) (h : nI k &&& (nI c ^^^ (-1)) = 0) : k ≤ c := by
  have e : k = k &&& c := by
    apply Nat.eq_of_testBit_eq
    intro i
    rw [Nat.testBit_and]
    by_cases hi : i < 32
    · have := (b_zero _).mp h i hi
      rw [b_clr _ _ hi, b_nI, b_nI, decide_eq_true hi, Bool.true_and, Bool.true_and] at this
      cases h1 : k.testBit i
      · rfl
      · rw [h1] at this
        cases h2 : c.testBit i
        · rw [h2] at this; cases this
        · rfl
    · rw [Nat.testBit_lt_two_pow (Nat.lt_of_lt_of_le (show k < 2 ^ 31 from hk) (Nat.pow_le_pow_right (by omega) (show 31 ≤ i by omega)))]
      rfl
  rw [e]
  exact Nat.and_le_right
theorem fst1_stop {c : Nat} (hc : c < 2147483648) {T : Nat → Bool} : ∀ d, c + 1 + d < 2147483648 → fst1 (nI c) T (c + 1 + d) = fst1 (nI c) T (c + 1) := by
  intro d
  induction d with
  | zero => intro _; rfl
  | succ d ih =>
    intro hd
    show (if (decide (nI (c + 1 + d) &&& (nI c ^^^ (-1)) = 0) && (decide (fst1 (nI c) T (c + 1 + d) = -1) || decide (pc (nI (c + 1 + d)) < pc (fst1 (nI c) T (c + 1 + d)))) && T (c + 1 + d)) = true then nI (c + 1 + d) else fst1 (nI c) T (c + 1 + d)) = _
    rw [decide_eq_false (fun h => by have := sub_le (by omega) hc h; omega), Bool.false_and, Bool.false_and, if_neg (by decide)]
    exact ih (by omega)
theorem qf_cong {kd gp ab L L' : Nat → Nat} (h : L 1 = L' 1) (bef : Int32) (w : Nat) (s : Int32) : ∀ k, qf kd gp ab L bef w s k = qf kd gp ab L' bef w s k := by
  intro k
  induction k with
  | zero => rfl
  | succ k ih =>
    show qst kd gp ab L bef w k (qf kd gp ab L bef w s k) = qst kd gp ab L' bef w k (qf kd gp ab L' bef w s k)
    rw [ih]
    unfold qst
    rw [h]
theorem bnf_cong {kd gp ab L L' : Nat → Nat} {ps : Nat → Bool} {n : Nat} (h0 : L 0 = L' 0) (h1 : L 1 = L' 1) (h2 : L 2 = L' 2) (h3 : L 3 = L' 3) (set : Int32) : ∀ k, bnf kd gp ab L ps n set k = bnf kd gp ab L' ps n set k := by
  intro k
  induction k with
  | zero => rfl
  | succ k ih =>
    show (if bt set k = true then hst kd gp ab L ps n k (bnf kd gp ab L ps n set k) else bnf kd gp ab L ps n set k) = (if bt set k = true then hst kd gp ab L' ps n k (bnf kd gp ab L' ps n set k) else bnf kd gp ab L' ps n set k)
    rw [ih]
    unfold hst able bels und
    rw [h0, h2, h3, qf_cong h1]
def pT (kd gp ab : Nat → Nat) (L : Nat → Nat → Nat) (ps : Nat → Bool) (n k : Nat) : Bool := !(decide ((bnf kd gp ab (L 0) ps n (nI k) n).1 = (bnf kd gp ab (L 1) ps n (nI k) n).1))
theorem k10 {k : Nat} (h : k < 1024) : ∀ i, i < 32 → 10 ≤ i → bt (nI k) i = false := fun i _ hi => b_lt (n := 10) h hi
theorem pa28 {n : Nat} {kd gp ab : Nat → Nat} {ps : Nat → Bool} {kp : Int32} {L : Nat → Nat → Nat} {c : Nat} (hc : c < 1024) : ∀ (d k m : Nat) (M : Mem), Cx M n kd gp ab ps kp L → k + d = c + 1 → d < m → 1 ≤ k → ∃ M2, F_X6_part_28 m (nI c) (fst1 (nI c) (fun k => decide (1 ≤ k) && pT kd gp ab L ps n k) k) (nI k) M = some (fst1 (nI c) (fun k => decide (1 ≤ k) && pT kd gp ab L ps n k) (c + 1), M2) ∧ FS M M2 := by
  intro d
  induction d with
  | zero =>
    intro k m M hC hk hm h1
    obtain ⟨m, rfl⟩ : ∃ q, m = q + 1 := ⟨m - 1, by omega⟩
    obtain rfl : k = c + 1 := by omega
    refine ⟨M, ?_, FS_r M⟩
    unfold F_X6_part_28
    rw [if_pos (by rw [nlt (by omega) (by omega)]; omega)]
  | succ d ih =>
    intro k m M hC hk hm h1
    obtain ⟨m, rfl⟩ : ∃ q, m = q + 1 := ⟨m - 1, by omega⟩
    have ih := fun M hC => ih (k + 1) m M hC (by omega) (by omega) (by omega)
    obtain ⟨B, hB⟩ : ∃ B, B = fst1 (nI c) (fun k => decide (1 ≤ k) && pT kd gp ab L ps n k) k := ⟨_, rfl⟩
    have hBf := fst1_f (c := nI c) (T := fun k => decide (1 ≤ k) && pT kd gp ab L ps n k) k
    rw [show fst1 (nI c) (fun k => decide (1 ≤ k) && pT kd gp ab L ps n k) (k + 1) = if (decide (nI k &&& (nI c ^^^ (-1)) = 0) && (decide (fst1 (nI c) (fun k => decide (1 ≤ k) && pT kd gp ab L ps n k) k = -1) || decide (pc (nI k) < pc (fst1 (nI c) (fun k => decide (1 ≤ k) && pT kd gp ab L ps n k) k))) && (decide (1 ≤ k) && pT kd gp ab L ps n k)) = true then nI k else fst1 (nI c) (fun k => decide (1 ≤ k) && pT kd gp ab L ps n k) k from rfl] at ih
    rw [← hB] at ih hBf ⊢
    unfold F_X6_part_28 F_X6_part_59
    rw [if_neg (by rw [nlt (by omega) (by omega)]; omega)]
    simp only [nI_s]
    by_cases c1 : nI k &&& (nI c ^^^ (-1)) = 0
    rotate_left
    · rw [if_neg c1]
      rw [decide_eq_false c1, Bool.false_and, Bool.false_and, if_neg (by decide)] at ih
      exact ih M hC
    rw [if_pos c1]
    rw [decide_eq_true c1, Bool.true_and, decide_eq_true h1, Bool.true_and] at ih
    have hfw : F_X6_isFewer (nI k) B M = some (if (decide (B = -1) || decide (pc (nI k) < pc B)) = true then 1 else 0, M) := by
      unfold F_X6_isFewer F_X6_isFewer_16
      rcases hBf with e | ⟨b, hb, e⟩
      · rw [if_pos e, decide_eq_true e]
        rfl
      · have p1 := pc_le (nI k)
        have p2 := pc_le (nI b)
        rw [e, if_neg (nIm b (by omega)), bitCount_ok (k10 (by omega)), bdS, bitCount_ok (k10 (by omega)), bdS, decide_eq_false (nIm b (by omega)), Bool.false_or]
        by_cases h2 : pc (nI k) < pc (nI b)
        · rw [if_neg (by rw [nle (by omega) (by omega)]; omega), decide_eq_true h2]
          rfl
        · rw [if_pos (by rw [nle (by omega) (by omega)]; omega), decide_eq_false h2]
          rfl
    rw [hfw, bdS]
    simp only [ib]
    cases c2 : (decide (B = -1) || decide (pc (nI k) < pc B))
    · rw [if_pos rfl]
      rw [c2, Bool.false_and, if_neg (by decide)] at ih
      exact ih M hC
    rw [if_neg (by decide)]
    rw [c2, Bool.true_and] at ih
    unfold F_X6_isHeardUnlike
    have f1 := FS_h3 M (bnf kd gp ab (L 0) ps n (nI k) n)
    have hC1 := Cx_FS hC f1
    have f2 := FS_t f1 (FS_h3 (h3 M (bnf kd gp ab (L 0) ps n (nI k) n)) (bnf kd gp ab (L 1) ps n (nI k) n))
    obtain ⟨M2, e2, f3⟩ := ih _ (Cx_FS hC f2)
    refine ⟨M2, ?_, FS_t f2 f3⟩
    rw [byN_ok hC.1 (hC.2.2.2.1 0 (by omega)).1 (hC.2.2.2.1 0 (by omega)).2.1, bdvS, byN_ok hC1.1 (hC1.2.2.2.1 1 (by omega)).1 (hC1.2.2.2.1 1 (by omega)).2.1, bdvS, h3_3, h3_3]
    unfold pT at e2
    by_cases c3 : (bnf kd gp ab (L 0) ps n (nI k) n).1 = (bnf kd gp ab (L 1) ps n (nI k) n).1
    · rw [if_pos c3, bdS, if_pos rfl]
      rw [decide_eq_true c3, if_neg (by decide)] at e2
      exact e2
    · rw [if_neg c3, bdS, if_neg (by decide)]
      rw [decide_eq_false c3, if_pos (show (!false) = true from rfl)] at e2
      exact e2
theorem pa18 {n : Nat} {kd gp ab : Nat → Nat} {ps : Nat → Bool} {kp : Int32} {L : Nat → Nat → Nat} : ∀ (d k m : Nat) (M : Mem), Cx M n kd gp ab ps kp L → M.1 42 = M.1 2 → LY M 0 (L 0) → LY M 1 (L 1) → k + d = 2 ^ n → d < m → 1 ≤ k → ∃ M2, F_X7_part_18 m (fst1 (hon n kp) (fun k => decide (1 ≤ k) && pT kd gp ab L ps n k) k) (nI k) M = some (fst1 (hon n kp) (fun k => decide (1 ≤ k) && pT kd gp ab L ps n k) (2 ^ n), M2) ∧ FS M M2 := by
  intro d
  induction d with
  | zero =>
    intro k m M hC h42 hL0 hL1 hk hm h1
    have hn := hC.1.1
    have hp := pow_le10 hn
    obtain ⟨m, rfl⟩ : ∃ q, m = q + 1 := ⟨m - 1, by omega⟩
    obtain rfl : k = 2 ^ n := by omega
    refine ⟨M, ?_, FS_r M⟩
    unfold F_X7_part_18
    rw [all7_ok hC.2.1.1 hn, bdS, if_pos (by rw [nlt (by omega) (by omega)]; omega)]
  | succ d ih =>
    intro k m M hC h42 hL0 hL1 hk hm h1
    have hn := hC.1.1
    have hp := pow_le10 hn
    obtain ⟨m, rfl⟩ : ∃ q, m = q + 1 := ⟨m - 1, by omega⟩
    have ih := fun M hC h42 hL0 hL1 => ih (k + 1) m M hC h42 hL0 hL1 (by omega) (by omega) (by omega)
    obtain ⟨B, hB⟩ : ∃ B, B = fst1 (hon n kp) (fun k => decide (1 ≤ k) && pT kd gp ab L ps n k) k := ⟨_, rfl⟩
    have hBf := fst1_f (c := hon n kp) (T := fun k => decide (1 ≤ k) && pT kd gp ab L ps n k) k
    rw [show fst1 (hon n kp) (fun k => decide (1 ≤ k) && pT kd gp ab L ps n k) (k + 1) = if (decide (nI k &&& (hon n kp ^^^ (-1)) = 0) && (decide (fst1 (hon n kp) (fun k => decide (1 ≤ k) && pT kd gp ab L ps n k) k = -1) || decide (pc (nI k) < pc (fst1 (hon n kp) (fun k => decide (1 ≤ k) && pT kd gp ab L ps n k) k))) && (decide (1 ≤ k) && pT kd gp ab L ps n k)) = true then nI k else fst1 (hon n kp) (fun k => decide (1 ≤ k) && pT kd gp ab L ps n k) k from rfl] at ih
    rw [← hB] at ih hBf ⊢
    unfold F_X7_part_18 F_X7_part_85
    rw [all7_ok hC.2.1.1 hn, bdS, if_neg (by rw [nlt (by omega) (by omega)]; omega), hC.2.2.1.2.1]
    simp only [nI_s]
    have hsub : (nI k &&& kp = 0) = (nI k &&& (hon n kp ^^^ (-1)) = 0) := by
      apply propext
      rw [b_zero, b_zero]
      have hx : ∀ i, i < 32 → bt (nI k &&& (hon n kp ^^^ (-1))) i = bt (nI k &&& kp) i := by
        intro i hi
        rw [b_clr _ _ hi, hon_b hn kp hi, b_and]
        by_cases hin : i < n
        · rw [decide_eq_true hin]
          cases bt kp i <;> rfl
        · rw [b_lt (show k < 2 ^ n by omega) (by omega)]
          rfl
      exact ⟨fun h i hi => by rw [hx i hi]; exact h i hi, fun h i hi => by rw [← hx i hi]; exact h i hi⟩
    simp only [hsub]
    by_cases c1 : nI k &&& (hon n kp ^^^ (-1)) = 0
    rotate_left
    · rw [if_neg c1]
      rw [decide_eq_false c1, Bool.false_and, Bool.false_and, if_neg (by decide)] at ih
      exact ih M hC h42 hL0 hL1
    rw [if_pos c1]
    rw [decide_eq_true c1, Bool.true_and, decide_eq_true h1, Bool.true_and] at ih
    have h51 : ∃ M2, F_X7_part_51 (F_X7_part_18 m) B (nI k) M = F_X7_part_18 m (if pT kd gp ab L ps n k = true then nI k else B) (nI (k + 1)) M2 ∧ FS M M2 ∧ M2.1 42 = M2.1 2 ∧ LY M2 0 (L 0) ∧ LY M2 1 (L 1) := by
      obtain ⟨O, e1, hO, hh⟩ := lh_ok (j := 0) hC h42 (by omega) hL0 (nI k)
      obtain ⟨O', e1', hO', hh'⟩ := lh_ok (j := 1) hC h42 (by omega) hL1 (nI k)
      have eO : sv (sr M 33 O) 43 (nI (cnt (bt (nI k)) n)) = sv (sr M 33 O') 43 (nI (cnt (bt (nI k)) n)) := Option.some.inj (e1.symm.trans e1')
      unfold F_X7_part_51 F_X7_part_84 F_X7_part_85
      obtain ⟨Y, hY⟩ : ∃ Y, Y = sv (sr M 33 O) 43 (nI (cnt (bt (nI k)) n)) := ⟨_, rfl⟩
      rw [← eO] at hh'
      rw [← hY] at e1 hh hh'
      have e2 := hh (Y.1 44, Y.1 45, Y.1 46)
      rw [h4_self] at e2
      have e3 := hh' (bnf kd gp ab (L 0) ps n (nI k) n)
      rw [show (0 : Int32) = nI 0 from rfl, show (1 : Int32) = nI 1 from rfl, e1, bdvS, e2, bdvS, e3, bdvS, h4_3, h4_3]
      refine ⟨h4 Y (bnf kd gp ab (L 1) ps n (nI k) n), ?_, ?_, ?_, ?_, ?_⟩
      · unfold pT
        rw [← nI_s k]
        by_cases c3 : (bnf kd gp ab (L 0) ps n (nI k) n).1 = (bnf kd gp ab (L 1) ps n (nI k) n).1
        · rw [if_pos c3, decide_eq_true c3]
          rfl
        · rw [if_neg c3, decide_eq_false c3]
          rfl
      · rw [hY]
        exact FS_t (FS_t (FS_sr O (by omega)) (FS_sv _ (by omega))) (FS_h4 _ _)
      · rw [hY]
        exact h42
      · rw [hY]
        exact hL0
      · rw [hY]
        exact hL1
    obtain ⟨M2, e2, f2, g42, gL0, gL1⟩ := h51
    have hyes : (decide (B = -1) || decide (pc (nI k) < pc B)) = true → ∃ M3, F_X7_part_51 (F_X7_part_18 m) B (nI k) M = some (fst1 (hon n kp) (fun k => decide (1 ≤ k) && pT kd gp ab L ps n k) (2 ^ n), M3) ∧ FS M M3 := by
      intro hyes
      rw [hyes, Bool.true_and] at ih
      obtain ⟨M3, e3, f3⟩ := ih M2 (Cx_FS hC f2) g42 gL0 gL1
      exact ⟨M3, e2.trans e3, FS_t f2 f3⟩
    rcases hBf with e | ⟨b, hb, e⟩
    · rw [if_pos e]
      exact hyes (by rw [decide_eq_true e]; rfl)
    · have p1 := pc_le (nI k)
      have p2 := pc_le (nI b)
      rw [if_neg (by rw [e]; exact nIm b (by omega)), ones_ok, bdS, ones_ok, bdS]
      by_cases c3 : pc (nI k) < pc B
      · rw [if_neg (by rw [e] at c3 ⊢; rw [nle (by omega) (by omega)]; omega)]
        exact hyes (by rw [decide_eq_true c3, Bool.or_true])
      · rw [if_pos (by rw [e] at c3 ⊢; rw [nle (by omega) (by omega)]; omega)]
        rw [decide_eq_false c3, Bool.or_false, decide_eq_false (by rw [e]; exact nIm b (by omega)), Bool.false_and, if_neg (by decide)] at ih
        exact ih M hC h42 hL0 hL1
theorem fst1_none {c : Int32} {T : Nat → Bool} (h : ∀ k, T k = false) : ∀ k, fst1 c T k = -1 := by
  intro k
  induction k with
  | zero => rfl
  | succ k ih =>
    unfold fst1
    rw [h k, Bool.and_false, if_neg (by decide)]
    exact ih
theorem hon_nI {n : Nat} (hn : n ≤ 10) (kp : Int32) : ∃ c, c < 2 ^ n ∧ hon n kp = nI c := by
  have h : hon n kp &&& (nI (2 ^ n - 1) ^^^ (-1)) = 0 := by
    rw [b_zero]
    intro i hi
    rw [b_clr _ _ hi, hon_b hn kp hi, all_bt hn hi]
    cases decide (i < n) <;> cases bt kp i <;> rfl
  exact (inSet hn (hon n kp) Mz).1.mp h
theorem fst1_1 {c : Int32} {T : Nat → Bool} : fst1 c (fun k => decide (1 ≤ k) && T k) 1 = -1 := by
  show (if (decide (nI 0 &&& (c ^^^ (-1)) = 0) && (decide (fst1 c (fun k => decide (1 ≤ k) && T k) 0 = -1) || decide (pc (nI 0) < pc (fst1 c (fun k => decide (1 ≤ k) && T k) 0))) && (decide (1 ≤ 0) && T 0)) = true then nI 0 else fst1 c (fun k => decide (1 ≤ k) && T k) 0) = _
  rw [show decide (1 ≤ 0) = false from rfl, Bool.false_and, Bool.and_false, if_neg (by decide)]
  rfl
theorem op24 (M : Mem) (hI : Inv M) : ∃ (r : Int32) (M1 M2 : Mem), F_X6_part M = some (r, M1) ∧ F_X7_part M1 = some (r, M2) ∧ FS M M2 := by
  obtain ⟨n, kd, gp, ab, ps, kp, L, hC⟩ := Cx_of hI.1 hI.2.1
  have hn := hC.1.1
  have hp := pow_le10 hn
  have hp0 := pow_pos' n
  obtain ⟨c, hc, ec⟩ := hon_nI hn kp
  -- the model
  have hmod : ∀ M1, FS M M1 → ∃ M2, F_X7_part M1 = some (fst1 (hon n kp) (fun k => decide (1 ≤ k) && pT kd gp ab L ps n k) (2 ^ n), M2) ∧ FS M M2 := by
    intro M1 f1
    have h1 := Cx_FS hC f1
    unfold F_X7_part
    obtain ⟨r0, e0⟩ := (h1.2.2.2.1 0 (by omega)).2.2 M1 (FS_r M1).q
    have g0 := FS_rl M1 0 r0 (L 0)
    obtain ⟨r1, e1⟩ := (h1.2.2.2.1 1 (by omega)).2.2 _ g0.q
    have g1 := FS_t g0 (FS_rl (rl M1 0 r0 (L 0)) 1 r1 (L 1))
    have g2 := FS_t g1 (FS_lp _)
    rw [show (0 : Int32) = nI 0 from rfl, e0, bdvS, show (1 : Int32) = nI 1 from rfl, e1, bdvS, h1.2.2.2.2 _ g1.q, bdvS]
    obtain ⟨M2, e2, f2⟩ := pa18 (n := n) (2 ^ n - 1) 1 fu _ (Cx_FS h1 g2) rfl (fun w hw => by
      show t4 ((rl M1 0 r0 (L 0)).2 32) 1 (fun w => nI (L 1 w)) (4 * 0 + w) = _
      unfold t4
      rw [if_neg (by omega)]
      exact rl_told (r := r0) hw) (fun w hw => rl_told (r := r1) hw) (by omega) (by unfold fu; omega) (by omega)
    rw [fst1_1] at e2
    exact ⟨M2, e2, FS_t f1 (FS_t g2 f2)⟩
  have l0 := (hC.2.2.2.1 0 (by omega)).1
  have l1 := (hC.2.2.2.1 1 (by omega)).1
  have b0 := (hC.2.2.2.1 0 (by omega)).2.1
  have b1 := (hC.2.2.2.1 1 (by omega)).2.1
  have b0' := b0.1
  have b1' := b1.1
  have b0'' := b0.2
  have b1'' := b1.2
  have hsame : F_X2_saysTheSameAs 0 1 M = some (if L 0 0 = L 1 0 ∧ L 0 1 = L 1 1 ∧ L 0 2 = L 1 2 ∧ L 0 3 = L 1 3 then 1 else 0, M) := by
    unfold F_X2_saysTheSameAs F_X2_saysTheSameAs_48
    rw [show M.1 (10 + 6 * 0 + 2) = nI (L 0 0) from l0 0 (by omega), show M.1 (10 + 6 * 0 + 3) = nI (L 0 1) from l0 1 (by omega), show M.1 (10 + 6 * 0 + 4) = nI (L 0 2) from l0 2 (by omega), show M.1 (10 + 6 * 0 + 5) = nI (L 0 3) from l0 3 (by omega), show M.1 (10 + 6 * 1 + 2) = nI (L 1 0) from l1 0 (by omega), show M.1 (10 + 6 * 1 + 3) = nI (L 1 1) from l1 1 (by omega), show M.1 (10 + 6 * 1 + 4) = nI (L 1 2) from l1 2 (by omega), show M.1 (10 + 6 * 1 + 5) = nI (L 1 3) from l1 3 (by omega)]
    simp (disch := omega) only [neq]
    by_cases c0 : L 0 0 = L 1 0
    · by_cases c1 : L 0 1 = L 1 1
      · by_cases c2 : L 0 2 = L 1 2
        · by_cases c3 : L 0 3 = L 1 3
          · simp [c0, c1, c2, c3]
          · simp [c0, c1, c2, c3]
        · simp [c0, c1, c2]
      · simp [c0, c1]
    · simp [c0]
  unfold F_X6_part
  rw [hsame, bdS]
  by_cases hs : L 0 0 = L 1 0 ∧ L 0 1 = L 1 1 ∧ L 0 2 = L 1 2 ∧ L 0 3 = L 1 3
  · rw [if_pos hs, if_neg (by decide)]
    obtain ⟨M2, e2, f2⟩ := hmod M (FS_r M)
    refine ⟨-1, M, M2, rfl, ?_, f2⟩
    rw [e2, fst1_none (fun k => ?_)]
    unfold pT
    rw [bnf_cong hs.1 hs.2.1 hs.2.2.1 hs.2.2.2, decide_eq_true rfl, Bool.not_true, Bool.and_false]
  · rw [if_neg hs, if_pos rfl, hon5 hC, bdS]
    obtain ⟨M1, e1, f1⟩ := pa28 (n := n) (kd := kd) (gp := gp) (ab := ab) (ps := ps) (kp := kp) (L := L) (c := c) (by omega) c 1 fu M hC (by omega) (by unfold fu; omega) (by omega)
    obtain ⟨M2, e2, f2⟩ := hmod M1 f1
    rw [fst1_1] at e1
    rw [ec] at e2 ⊢
    refine ⟨_, M1, M2, e1, ?_, f2⟩
    rw [e2]
    have := fst1_stop (T := fun k => decide (1 ≤ k) && pT kd gp ab L ps n k) (show c < 2147483648 by omega) (2 ^ n - (c + 1)) (by omega)
    rw [show c + 1 + (2 ^ n - (c + 1)) = 2 ^ n by omega] at this
    rw [this]
