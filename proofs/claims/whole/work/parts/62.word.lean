/-! word -/
def fo8 (f : Nat → Int32) (k n a : Nat) : Nat → Int32 := if k = 1 then upd (upd f n (f n ||| one a)) a (f a ||| one n) else f
/-- the class's memory with one word more, before it is weighed -/
def tl (M : Mem) (n k g t h a : Nat) : Mem := sr (sv (sr (sr (sr (sr (sr (sr M 2 (upd (M.2 2) n (nI k))) 3 (upd (M.2 3) n (nI g))) 4 (upd (M.2 4) n (nI (pc (nI g))))) 5 (upd (M.2 5) n (nI t))) 6 (upd (M.2 6) n (nI h))) 7 (upd (M.2 7) n (nI a))) 0 (nI (n + 1))) 8 (fo8 (M.2 8) k n a)
/-- the model's -/
def tm (M : Mem) (n k g t h a : Nat) : Mem := sv (sr (sr (sr (sr (sr M 24 (upd (M.2 24) n (nI k))) 25 (upd (M.2 25) n (nI g))) 26 (upd (M.2 26) n (nI t))) 27 (upd (M.2 27) n (nI h))) 28 (upd (M.2 28) n (nI a))) 40 (nI (n + 1))
theorem gbits {g : Nat} (h : g < 1024) : ∀ i, i < 32 → 10 ≤ i → bt (nI g) i = false := fun i _ hi => b_lt (n := 10) h hi
theorem tell_ok {M : Mem} {n k g t h a : Nat} (h0 : M.1 0 = nI n) (hn : n < 10) (hg : g < 1024) (hk : k < 3) (ha : k = 1 → a < n) {p : Int32} {f g' : Nat → Int32} (hw : F_X5_weighAll (tl M n k g t h a) = some (st3 (tl M n k g t h a) p f g')) : F_X5_tell (nI k) (nI g) (nI t) (nI h) (nI a) M = some (nI n, st3 (tl M n k g t h a) p f g') := by
  unfold F_X5_tell F_X5_tell_102
  rw [h0]
  simp (disch := omega) only [ckN, ncl, bitCount_ok (gbits hg), bdS, sa_sr, sr_1, sr_2, sv_1, sv_2, reduceIte, Nat.reduceEqDiff, h0, nlit 1, nI_add]
  by_cases hk1 : k = 1
  · have ha := ha hk1
    subst hk1
    rw [if_pos rfl]
    simp (disch := omega) only [ckN, ncl, sr_sr, upd_n]
    refine Eq.trans (congrArg (fun X => bdv (F_X5_weighAll X) (fun M105 => some (nI n, M105))) (?_ : _ = tl M n 1 g t h a)) ?_
    · rfl
    · rw [hw, bdvS]
  · rw [if_neg (by rw [neq (by omega) (by omega)]; exact hk1)]
    refine Eq.trans (congrArg (fun X => bdv (F_X5_weighAll X) (fun M105 => some (nI n, M105))) (?_ : _ = tl M n k g t h a)) ?_
    · unfold tl fo8
      rw [if_neg hk1]
      exact (sr_self _ 8).symm
    · rw [hw, bdvS]
def e1u (f : Nat → Nat) (n v : Nat) : Nat → Nat := fun i => if i = n then v else f i
theorem e1u_s (f : Nat → Nat) (n v : Nat) : e1u f n v n = v := if_pos rfl
theorem e1u_n {f : Nat → Nat} {n v i : Nat} (h : i ≠ n) : e1u f n v i = f i := if_neg h
/-- what may be told: as both ask -/
def may (n k g t h a : Nat) : Prop := k < 3 ∧ 0 < g ∧ g < 1024 ∧ t < 6 ∧ h < 1000 ∧ (k = 0 → a < 100) ∧ (k ≠ 0 → a < n)
theorem WC_more {M : Mem} {n : Nat} {kd gp tn hr ab : Nat → Nat} (hW : WC M n kd gp tn hr ab) {k g t h a : Nat} (hm : may n k g t h a) (hn : n < 10) : WC (tl M n k g t h a) (n + 1) (e1u kd n k) (e1u gp n g) (e1u tn n t) (e1u hr n h) (e1u ab n a) := by
  obtain ⟨m1, m2, m3, m4, m5, m6, m7⟩ := hm
  refine ⟨by omega, rfl, trivial, fun i hi => ?_⟩
  show ((upd (M.2 2) n (nI k) i = _ ∧ True ∧ _) ∧ (upd (M.2 3) n (nI g) i = _ ∧ True ∧ _) ∧ (upd (M.2 5) n (nI t) i = _ ∧ True ∧ _) ∧ (upd (M.2 6) n (nI h) i = _ ∧ True ∧ _) ∧ (upd (M.2 7) n (nI a) i = _ ∧ True ∧ _))
  by_cases e : i = n
  · subst e
    simp only [upd_s, e1u_s]
    exact ⟨⟨trivial, trivial, m1⟩, ⟨trivial, trivial, m2, m3⟩, ⟨trivial, trivial, m4⟩, ⟨trivial, trivial, m5⟩, ⟨trivial, trivial, m6, m7⟩⟩
  · simp only [upd_n e, e1u_n e]
    exact hW.2.2.2 i (by omega)
theorem WM_more {M : Mem} {n : Nat} {kd gp tn hr ab : Nat → Nat} (hW : WM M n kd gp tn hr ab) {k g t h a : Nat} (hm : may n k g t h a) (hn : n < 10) : WM (tm M n k g t h a) (n + 1) (e1u kd n k) (e1u gp n g) (e1u tn n t) (e1u hr n h) (e1u ab n a) := by
  obtain ⟨m1, m2, m3, m4, m5, m6, m7⟩ := hm
  refine ⟨by omega, trivial, rfl, fun i hi => ?_⟩
  show ((True ∧ upd (M.2 24) n (nI k) i = _ ∧ _) ∧ (True ∧ upd (M.2 25) n (nI g) i = _ ∧ _) ∧ (True ∧ upd (M.2 26) n (nI t) i = _ ∧ _) ∧ (True ∧ upd (M.2 27) n (nI h) i = _ ∧ _) ∧ (True ∧ upd (M.2 28) n (nI a) i = _ ∧ _))
  by_cases e : i = n
  · subst e
    simp only [upd_s, e1u_s]
    exact ⟨⟨trivial, trivial, m1⟩, ⟨trivial, trivial, m2, m3⟩, ⟨trivial, trivial, m4⟩, ⟨trivial, trivial, m5⟩, ⟨trivial, trivial, m6, m7⟩⟩
  · simp only [upd_n e, e1u_n e]
    exact hW.2.2.2 i (by omega)
theorem psb_more {n : Nat} {kd tn hr ab : Nat → Nat} (hW : ∀ i, i < n → kd i ≠ 0 → ab i < i) (w : Nat → Int32) (k t h a : Nat) {i : Nat} (hi : i < n) : psb (e1u kd n k) (e1u tn n t) (e1u hr n h) (e1u ab n a) w i = psb kd tn hr ab w i := by
  unfold psb
  rw [e1u_n (show i ≠ n by omega), e1u_n (show i ≠ n by omega), e1u_n (show i ≠ n by omega), e1u_n (show i ≠ n by omega)]
  by_cases hk : kd i = 2
  · have := hW i hi (by omega)
    rw [e1u_n (show ab i ≠ n by omega), e1u_n (show ab i ≠ n by omega)]
  · rw [decide_eq_false hk, Bool.false_and, Bool.false_and]
theorem foe_more {M : Mem} {n : Nat} {kd gp tn hr ab : Nat → Nat} (hW : WC M n kd gp tn hr ab) {F : Nat → Int32} (hF : ∀ i, i < 10 → ∀ j, j < 32 → bt (F i) j = (decide (i < n) && decide (j < n) && foe kd ab i j)) {k g t h a : Nat} (hm : may n k g t h a) (hn : n < 10) : ∀ i, i < 10 → ∀ j, j < 32 → bt (fo8 F k n a i) j = (decide (i < n + 1) && decide (j < n + 1) && foe (e1u kd n k) (e1u ab n a) i j) := by
  have hab : ∀ i, i < n → kd i = 1 → ab i < i := fun i hi hk => (hW.2.2.2 i hi).2.2.2.2.2.2.2 (by omega)
  have hself : foe (e1u kd n k) (e1u ab n a) n n = false := by
    unfold foe
    rw [e1u_s, e1u_s]
    by_cases h1 : k = 1
    · have := hm.2.2.2.2.2.2 (by omega)
      rw [decide_eq_false (show ¬ a = n by omega), Bool.and_false]
      rfl
    · rw [decide_eq_false h1, Bool.false_and]
      rfl
  have hold : ∀ i j, i < n → j < n → foe (e1u kd n k) (e1u ab n a) i j = foe kd ab i j := by
    intro i j hi hj
    unfold foe
    rw [e1u_n (show i ≠ n by omega), e1u_n (show i ≠ n by omega), e1u_n (show j ≠ n by omega), e1u_n (show j ≠ n by omega)]
  have hnew : ∀ j, j < n → foe (e1u kd n k) (e1u ab n a) n j = (decide (k = 1) && decide (a = j)) := by
    intro j hj
    unfold foe
    rw [e1u_s, e1u_s, e1u_n (show j ≠ n by omega), e1u_n (show j ≠ n by omega)]
    by_cases h2 : kd j = 1
    · have := hab j hj h2
      rw [decide_eq_false (show ¬ ab j = n by omega), Bool.and_false, Bool.or_false]
    · rw [decide_eq_false h2, Bool.false_and, Bool.or_false]
  have hsym : ∀ i j, foe (e1u kd n k) (e1u ab n a) i j = foe (e1u kd n k) (e1u ab n a) j i := by
    intro i j
    unfold foe
    exact Bool.or_comm _ _
  intro i hi j hj
  have hb : ∀ j, j < 32 → bt (F n) j = false := fun j hj => by rw [hF n (by omega) j hj, decide_eq_false (show ¬ n < n by omega), Bool.false_and, Bool.false_and]
  -- the right side, by cases
  have hrhs : (decide (i < n + 1) && decide (j < n + 1) && foe (e1u kd n k) (e1u ab n a) i j) = ((decide (i < n) && decide (j < n) && foe kd ab i j) || (decide (k = 1) && ((decide (i = n) && decide (j = a)) || (decide (i = a) && decide (j = n))))) := by
    by_cases hin : i = n
    · subst hin
      by_cases hjn : j = i
      · subst hjn
        rw [hself]
        by_cases h1 : k = 1
        · have := hm.2.2.2.2.2.2 (by omega)
          simp [h1, show ¬ j = a by omega, show ¬ j < j by omega]
        · simp [h1]
      · by_cases hjl : j < i
        · rw [hnew j hjl]
          by_cases h1 : k = 1
          · by_cases h2 : a = j
            · simp [h1, h2, show j < i + 1 by omega]
            · simp [h1, h2, show ¬ j = a by omega, hjn]
          · simp [h1]
        · by_cases h1 : k = 1
          · have := hm.2.2.2.2.2.2 (by omega)
            simp [show ¬ j < i + 1 by omega, show ¬ j = a by omega, hjn]
          · simp [show ¬ j < i + 1 by omega, h1]
    · by_cases hil : i < n
      · by_cases hjn : j = n
        · subst hjn
          rw [hsym, hnew i hil]
          by_cases h1 : k = 1
          · by_cases h2 : a = i
            · simp [h1, h2, show i < j + 1 by omega]
            · simp [h1, h2, show ¬ i = a by omega, hin]
          · simp [h1]
        · by_cases hjl : j < n
          · rw [hold i j hil hjl]
            simp [hin, hjn, show i < n + 1 by omega, show j < n + 1 by omega, hil, hjl]
          · simp [hin, hjn, show ¬ j < n + 1 by omega, hjl]
      · by_cases h1 : k = 1
        · have := hm.2.2.2.2.2.2 (by omega)
          simp [hin, hil, show ¬ i < n + 1 by omega, show ¬ i = a by omega]
        · simp [hil, show ¬ i < n + 1 by omega, h1]
  rw [hrhs]
  unfold fo8
  by_cases h1 : k = 1
  · have ha := hm.2.2.2.2.2.2 (by omega)
    rw [if_pos h1, decide_eq_true h1, Bool.true_and]
    by_cases e2 : i = a
    · subst e2
      rw [upd_s, b_or, b_one (by omega) hj, hF i hi j hj]
      simp [show ¬ i = n by omega]
    · rw [upd_n e2]
      by_cases e3 : i = n
      · subst e3
        rw [upd_s, b_or, b_one (by omega) hj, hF i hi j hj]
        simp [e2]
      · rw [upd_n e3, hF i hi j hj]
        simp [e2, e3]
  · rw [if_neg h1, hF i hi j hj, decide_eq_false h1, Bool.false_and, Bool.or_false]
/-- the class's half of the words' part -/
def CWx (M : Mem) (n : Nat) (kd gp tn hr ab : Nat → Nat) : Prop := WC M n kd gp tn hr ab ∧ (∀ k, k < 36 → M.2 1 k = wys M k) ∧ PW kd tn hr ab (wys M) n (M.1 2) (M.2 9) (M.2 10) ∧ (∀ i, i < n → M.2 4 i = nI (pc (nI (gp i)))) ∧ (∀ i, i < 10 → ∀ j, j < 32 → bt (M.2 8 i) j = (decide (i < n) && decide (j < n) && foe kd ab i j))
/-- what word() is asked, as numbers, or not so -/
theorem may_c (n : Nat) (hn : n ≤ 10) (x1 x2 x3 x4 x5 : Int32) : (∀ M : Mem, M.1 0 = nI n → F_X6_mayBeTold x1 x2 x3 x4 x5 M = some (0, M)) ∧ (∀ M : Mem, M.1 40 = nI n → F_X7_adds x1 x2 x3 x4 x5 M = some (-2, M)) ∨ ∃ k g t h a, may n k g t h a ∧ x1 = nI k ∧ x2 = nI g ∧ x3 = nI t ∧ x4 = nI h ∧ x5 = nI a ∧ (∀ M : Mem, M.1 0 = nI n → F_X6_mayBeTold x1 x2 x3 x4 x5 M = some (1, M)) ∧ (∀ M : Mem, M.1 40 = nI n → F_X7_adds x1 x2 x3 x4 x5 M = if n = 10 then some (-4, M) else some (nI n, tm M n k g t h a)) := by
  sorry
