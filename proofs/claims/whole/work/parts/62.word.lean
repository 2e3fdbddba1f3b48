/-! word -/
def fo8 (f : Nat → Int32) (k n a : Nat) : Nat → Int32 := if k = 1 then upd (upd f n (f n ||| one a)) a (f a ||| one n) else f
/-- the class's memory with one word more, before it is weighed -/
def tl (M : Mem) (n k g t h a : Nat) : Mem := sr (sv (sr (sr (sr (sr (sr (sr M 2 (upd (M.2 2) n (nI k))) 3 (upd (M.2 3) n (nI g))) 4 (upd (M.2 4) n (nI (pc (nI g))))) 5 (upd (M.2 5) n (nI t))) 6 (upd (M.2 6) n (nI h))) 7 (upd (M.2 7) n (nI a))) 0 (nI (n + 1))) 8 (fo8 (M.2 8) k n a)
/-- the model's -/
def tm (M : Mem) (n k g t h a : Nat) : Mem := sv (sr (sr (sr (sr (sr M 24 (upd (M.2 24) n (nI k))) 25 (upd (M.2 25) n (nI g))) 26 (upd (M.2 26) n (nI t))) 27 (upd (M.2 27) n (nI h))) 28 (upd (M.2 28) n (nI a))) 40 (nI (n + 1))
theorem gbits {g : Nat} (h : g < 1024) : ∀ i, i < 32 → 10 ≤ i → bt (nI g) i = false := fun i _ hi => b_lt (n := 10) h hi
theorem tell_ok {M : Mem} {n k g t h a : Nat} (h0 : M.1 0 = nI n) (hn : n < 10) (hg : g < 1024) (hk : k < 3) (ha : k = 1 → a < n) {p : Int32} {f g' : Nat → Int32} (hw : F_X5_weighAll (tl M n k g t h a) = some (st3 (tl M n k g t h a) p f g')) : F_X5_tell (nI k) (nI g) (nI t) (nI h) (nI a) M = some (nI n, st3 (tl M n k g t h a) p f g') := by
  unfold F_X5_tell F_X5_tell_102
  rw [h0]
  simp (disch := omega) only [ckN, ncl, bitCount_ok (gbits hg), bdS, sa_sr, sr_1, sr_2, sv_1, sv_2, reduceIte, Nat.reduceEqDiff, h0, nlit 1, nI_add]
  by_cases hk1 : k = 1
  · have ha := ha hk1
    subst hk1
    rw [if_pos rfl]
    simp (disch := omega) only [ckN, ncl, sr_sr, upd_n]
    refine Eq.trans (congrArg (fun X => bdv (F_X5_weighAll X) (fun M105 => some (nI n, M105))) (?_ : _ = tl M n 1 g t h a)) ?_
    · rfl
    · rw [hw, bdvS]
  · rw [if_neg (by rw [neq (by omega) (by omega)]; exact hk1)]
    refine Eq.trans (congrArg (fun X => bdv (F_X5_weighAll X) (fun M105 => some (nI n, M105))) (?_ : _ = tl M n k g t h a)) ?_
    · unfold tl fo8
      rw [if_neg hk1]
      exact (sr_self _ 8).symm
    · rw [hw, bdvS]
def e1u (f : Nat → Nat) (n v : Nat) : Nat → Nat := fun i => if i = n then v else f i
theorem e1u_s (f : Nat → Nat) (n v : Nat) : e1u f n v n = v := if_pos rfl
theorem e1u_n {f : Nat → Nat} {n v i : Nat} (h : i ≠ n) : e1u f n v i = f i := if_neg h
/-- what may be told: as both ask -/
def may (n k g t h a : Nat) : Prop := k < 3 ∧ 0 < g ∧ g < 1024 ∧ t < 6 ∧ h < 1000 ∧ (k = 0 → a < 100) ∧ (k ≠ 0 → a < n)
theorem WC_more {M : Mem} {n : Nat} {kd gp tn hr ab : Nat → Nat} (hW : WC M n kd gp tn hr ab) {k g t h a : Nat} (hm : may n k g t h a) (hn : n < 10) : WC (tl M n k g t h a) (n + 1) (e1u kd n k) (e1u gp n g) (e1u tn n t) (e1u hr n h) (e1u ab n a) := by
  obtain ⟨m1, m2, m3, m4, m5, m6, m7⟩ := hm
  refine ⟨by omega, rfl, trivial, fun i hi => ?_⟩
  show ((upd (M.2 2) n (nI k) i = _ ∧ True ∧ _) ∧ (upd (M.2 3) n (nI g) i = _ ∧ True ∧ _) ∧ (upd (M.2 5) n (nI t) i = _ ∧ True ∧ _) ∧ (upd (M.2 6) n (nI h) i = _ ∧ True ∧ _) ∧ (upd (M.2 7) n (nI a) i = _ ∧ True ∧ _))
  by_cases e : i = n
  · subst e
    simp only [upd_s, e1u_s]
    exact ⟨⟨trivial, trivial, m1⟩, ⟨trivial, trivial, m2, m3⟩, ⟨trivial, trivial, m4⟩, ⟨trivial, trivial, m5⟩, ⟨trivial, trivial, m6, m7⟩⟩
  · simp only [upd_n e, e1u_n e]
    exact hW.2.2.2 i (by omega)
theorem WM_more {M : Mem} {n : Nat} {kd gp tn hr ab : Nat → Nat} (hW : WM M n kd gp tn hr ab) {k g t h a : Nat} (hm : may n k g t h a) (hn : n < 10) : WM (tm M n k g t h a) (n + 1) (e1u kd n k) (e1u gp n g) (e1u tn n t) (e1u hr n h) (e1u ab n a) := by
  obtain ⟨m1, m2, m3, m4, m5, m6, m7⟩ := hm
  refine ⟨by omega, trivial, rfl, fun i hi => ?_⟩
  show ((True ∧ upd (M.2 24) n (nI k) i = _ ∧ _) ∧ (True ∧ upd (M.2 25) n (nI g) i = _ ∧ _) ∧ (True ∧ upd (M.2 26) n (nI t) i = _ ∧ _) ∧ (True ∧ upd (M.2 27) n (nI h) i = _ ∧ _) ∧ (True ∧ upd (M.2 28) n (nI a) i = _ ∧ _))
  by_cases e : i = n
  · subst e
    simp only [upd_s, e1u_s]
    exact ⟨⟨trivial, trivial, m1⟩, ⟨trivial, trivial, m2, m3⟩, ⟨trivial, trivial, m4⟩, ⟨trivial, trivial, m5⟩, ⟨trivial, trivial, m6, m7⟩⟩
  · simp only [upd_n e, e1u_n e]
    exact hW.2.2.2 i (by omega)
theorem psb_more {n : Nat} {kd tn hr ab : Nat → Nat} (hW : ∀ i, i < n → kd i ≠ 0 → ab i < i) (w : Nat → Int32) (k t h a : Nat) {i : Nat} (hi : i < n) : psb (e1u kd n k) (e1u tn n t) (e1u hr n h) (e1u ab n a) w i = psb kd tn hr ab w i := by
  unfold psb
  rw [e1u_n (show i ≠ n by omega), e1u_n (show i ≠ n by omega), e1u_n (show i ≠ n by omega), e1u_n (show i ≠ n by omega)]
  by_cases hk : kd i = 2
  · have := hW i hi (by omega)
    rw [e1u_n (show ab i ≠ n by omega), e1u_n (show ab i ≠ n by omega)]
  · rw [decide_eq_false hk, Bool.false_and, Bool.false_and]
theorem foe_more {M : Mem} {n : Nat} {kd gp tn hr ab : Nat → Nat} (hW : WC M n kd gp tn hr ab) {F : Nat → Int32} (hF : ∀ i, i < 10 → ∀ j, j < 32 → bt (F i) j = (decide (i < n) && decide (j < n) && foe kd ab i j)) {k g t h a : Nat} (hm : may n k g t h a) (hn : n < 10) : ∀ i, i < 10 → ∀ j, j < 32 → bt (fo8 F k n a i) j = (decide (i < n + 1) && decide (j < n + 1) && foe (e1u kd n k) (e1u ab n a) i j) := by
  have hab : ∀ i, i < n → kd i = 1 → ab i < i := fun i hi hk => (hW.2.2.2 i hi).2.2.2.2.2.2.2 (by omega)
  have hself : foe (e1u kd n k) (e1u ab n a) n n = false := by
    unfold foe
    rw [e1u_s, e1u_s]
    by_cases h1 : k = 1
    · have := hm.2.2.2.2.2.2 (by omega)
      rw [decide_eq_false (show ¬ a = n by omega), Bool.and_false]
      rfl
    · rw [decide_eq_false h1, Bool.false_and]
      rfl
  have hold : ∀ i j, i < n → j < n → foe (e1u kd n k) (e1u ab n a) i j = foe kd ab i j := by
    intro i j hi hj
    unfold foe
    rw [e1u_n (show i ≠ n by omega), e1u_n (show i ≠ n by omega), e1u_n (show j ≠ n by omega), e1u_n (show j ≠ n by omega)]
  have hnew : ∀ j, j < n → foe (e1u kd n k) (e1u ab n a) n j = (decide (k = 1) && decide (a = j)) := by
    intro j hj
    unfold foe
    rw [e1u_s, e1u_s, e1u_n (show j ≠ n by omega), e1u_n (show j ≠ n by omega)]
    by_cases h2 : kd j = 1
    · have := hab j hj h2
      rw [decide_eq_false (show ¬ ab j = n by omega), Bool.and_false, Bool.or_false]
    · rw [decide_eq_false h2, Bool.false_and, Bool.or_false]
  have hsym : ∀ i j, foe (e1u kd n k) (e1u ab n a) i j = foe (e1u kd n k) (e1u ab n a) j i := by
    intro i j
    unfold foe
    exact Bool.or_comm _ _
  intro i hi j hj
  have hb : ∀ j, j < 32 → bt (F n) j = false := fun j hj => by rw [hF n (by omega) j hj, decide_eq_false (show ¬ n < n by omega), Bool.false_and, Bool.false_and]
  -- the right side, by cases
  have hrhs : (decide (i < n + 1) && decide (j < n + 1) && foe (e1u kd n k) (e1u ab n a) i j) = ((decide (i < n) && decide (j < n) && foe kd ab i j) || (decide (k = 1) && ((decide (i = n) && decide (j = a)) || (decide (i = a) && decide (j = n))))) := by
    by_cases hin : i = n
    · subst hin
      by_cases hjn : j = i
      · subst hjn
        rw [hself]
        by_cases h1 : k = 1
        · have := hm.2.2.2.2.2.2 (by omega)
          simp [h1, show ¬ j = a by omega, show ¬ j < j by omega]
        · simp [h1]
      · by_cases hjl : j < i
        · rw [hnew j hjl]
          by_cases h1 : k = 1
          · by_cases h2 : a = j
            · simp [h1, h2, show j < i + 1 by omega]
            · simp [h1, h2, show ¬ j = a by omega, hjn]
          · simp [h1]
        · by_cases h1 : k = 1
          · have := hm.2.2.2.2.2.2 (by omega)
            simp [show ¬ j < i + 1 by omega, show ¬ j = a by omega, hjn]
          · simp [show ¬ j < i + 1 by omega, h1]
    · by_cases hil : i < n
      · by_cases hjn : j = n
        · subst hjn
          rw [hsym, hnew i hil]
          by_cases h1 : k = 1
          · by_cases h2 : a = i
            · simp [h1, h2, show i < j + 1 by omega]
            · simp [h1, h2, show ¬ i = a by omega, hin]
          · simp [h1]
        · by_cases hjl : j < n
          · rw [hold i j hil hjl]
            simp [hin, hjn, show i < n + 1 by omega, show j < n + 1 by omega, hil, hjl]
          · simp [hin, hjn, show ¬ j < n + 1 by omega, hjl]
      · by_cases h1 : k = 1
        · have := hm.2.2.2.2.2.2 (by omega)
          simp [hin, hil, show ¬ i < n + 1 by omega, show ¬ i = a by omega]
        · simp [hil, show ¬ i < n + 1 by omega, h1]
  rw [hrhs]
  unfold fo8
  by_cases h1 : k = 1
  · have ha := hm.2.2.2.2.2.2 (by omega)
    rw [if_pos h1, decide_eq_true h1, Bool.true_and]
    by_cases e2 : i = a
    · subst e2
      rw [upd_s, b_or, b_one (by omega) hj, hF i hi j hj]
      simp [show ¬ i = n by omega]
    · rw [upd_n e2]
      by_cases e3 : i = n
      · subst e3
        rw [upd_s, b_or, b_one (by omega) hj, hF i hi j hj]
        simp [e2]
      · rw [upd_n e3, hF i hi j hj]
        simp [e2, e3]
  · rw [if_neg h1, hF i hi j hj, decide_eq_false h1, Bool.false_and, Bool.or_false]
/-- the class's half of the words' part -/
def CWx (M : Mem) (n : Nat) (kd gp tn hr ab : Nat → Nat) : Prop := WC M n kd gp tn hr ab ∧ (∀ k, k < 36 → M.2 1 k = wys M k) ∧ PW kd tn hr ab (wys M) n (M.1 2) (M.2 9) (M.2 10) ∧ (∀ i, i < n → M.2 4 i = nI (pc (nI (gp i)))) ∧ (∀ i, i < 10 → ∀ j, j < 32 → bt (M.2 8 i) j = (decide (i < n) && decide (j < n) && foe kd ab i j))
theorem rg (x a b : Int32) (lo hi : Nat) (ha : a = nI lo) (hb : b = nI hi) (hl : lo ≤ hi) (hh : hi < 2147483647) : (x < a ∧ ∀ M, F_X7_in x a b M = some (0, M)) ∨ (¬ x < a ∧ b < x ∧ ¬ x ≤ b ∧ ∀ M, F_X7_in x a b M = some (0, M)) ∨ ∃ j, lo ≤ j ∧ j ≤ hi ∧ x = nI j ∧ ¬ x < a ∧ ¬ b < x ∧ x ≤ b ∧ ∀ M, F_X7_in x a b M = some (1, M) := by
  subst ha hb
  rcases arg3 x hi hh with h | h | ⟨j, hj, rfl⟩
  · have hx : x < nI lo := Int32.lt_of_lt_of_le h (nI_pos' (by omega))
    exact Or.inl ⟨hx, fun M => in_lo hx⟩
  · have hx : ¬ x < nI lo := fun h2 => h.2.2.2.2.1 (Int32.le_of_lt (Int32.lt_of_lt_of_le h2 ((nI_leI (by omega) (by omega)).mpr hl)))
    exact Or.inr (Or.inl ⟨hx, h.2.2.1, h.2.2.2.2.1, fun M => in_hi hx h.2.2.1⟩)
  · by_cases hl2 : j < lo
    · have hx : nI j < nI lo := by rw [nlt (by omega) (by omega)]; exact hl2
      exact Or.inl ⟨hx, fun M => in_lo hx⟩
    · have hx : ¬ nI j < nI lo := by rw [nlt (by omega) (by omega)]; exact hl2
      have hy : ¬ nI hi < nI j := by rw [nlt (by omega) (by omega)]; omega
      exact Or.inr (Or.inr ⟨j, by omega, hj, rfl, hx, hy, by rw [nle (by omega) (by omega)]; exact hj, fun M => in_ok hx hy⟩)
/-- what word() is asked, as numbers, or not so -/
theorem may_c (n : Nat) (hn : n ≤ 10) (x1 x2 x3 x4 x5 : Int32) : (∀ M : Mem, M.1 0 = nI n → F_X6_mayBeTold x1 x2 x3 x4 x5 M = some (0, M)) ∧ (∀ M : Mem, M.1 40 = nI n → F_X7_adds x1 x2 x3 x4 x5 M = some (-2, M)) ∨ ∃ k g t h a, may n k g t h a ∧ x1 = nI k ∧ x2 = nI g ∧ x3 = nI t ∧ x4 = nI h ∧ x5 = nI a ∧ (∀ M : Mem, M.1 0 = nI n → F_X6_mayBeTold x1 x2 x3 x4 x5 M = some (1, M)) ∧ (∀ M : Mem, M.1 40 = nI n → F_X7_adds x1 x2 x3 x4 x5 M = if n = 10 then some (-4, M) else some (nI n, tm M n k g t h a)) := by
  unfold F_X6_mayBeTold F_X6_mayBeTold_65 F_X7_adds
  rcases rg x1 0 2 0 2 rfl rfl (by omega) (by omega) with ⟨h1, e1⟩ | ⟨h1, h1', -, e1⟩ | ⟨k, -, hk, rfl, h1, h1', -, e1⟩
  · exact Or.inl ⟨fun M _ => if_pos h1, fun M _ => by rw [e1, bdS, if_pos rfl]⟩
  · exact Or.inl ⟨fun M _ => by rw [if_neg h1, if_pos h1'], fun M _ => by rw [e1, bdS, if_pos rfl]⟩
  simp only [if_neg h1, if_neg h1', e1, bdS, i10, if_false]
  rcases rg x2 1 1023 1 1023 rfl rfl (by omega) (by omega) with ⟨h2, e2⟩ | ⟨h2, h2', h2'', e2⟩ | ⟨g, hg1, hg, rfl, h2, h2', h2'', e2⟩
  · exact Or.inl ⟨fun M _ => if_pos h2, fun M _ => by rw [e2, bdS, if_pos rfl]⟩
  · exact Or.inl ⟨fun M _ => by rw [if_neg h2, if_neg h2''], fun M _ => by rw [e2, bdS, if_pos rfl]⟩
  simp only [if_neg h2, if_pos h2'', e2, bdS, i10, if_false]
  rcases town_c x3 with e3 | ⟨t, ht, rfl, e3⟩
  · exact Or.inl ⟨fun M _ => by rw [(e3 M).1, bdS, if_pos rfl], fun M _ => by rw [(e3 M).2, bdS, if_pos rfl]⟩
  simp only [fun M => (e3 M).1, fun M => (e3 M).2, bdS, i10, if_false]
  rcases rg x4 0 999 0 999 rfl rfl (by omega) (by omega) with ⟨h4, e4⟩ | ⟨h4, h4', h4'', e4⟩ | ⟨h, -, hh, rfl, h4, h4', h4'', e4⟩
  · exact Or.inl ⟨fun M _ => if_pos h4, fun M _ => by rw [e4, bdS, if_pos rfl]⟩
  · exact Or.inl ⟨fun M _ => by rw [if_neg h4, if_neg h4''], fun M _ => by rw [e4, bdS, if_pos rfl]⟩
  simp only [if_neg h4, if_pos h4'', e4, bdS, i10, if_false]
  have hend : ∀ (a : Nat) (M : Mem), M.1 40 = nI n → (if M.1 40 = 10 then some (-4, M) else ckb (ix (M.1 40) 10) (some (nI n, tm M n k g t h a))) = if n = 10 then some (-4, M) else some (nI n, tm M n k g t h a) := by
    intro a M hM
    rw [hM]
    by_cases h10 : n = 10
    · rw [if_pos h10, if_pos (by rw [h10]; rfl)]
    · rw [if_neg h10, if_neg (by rw [nlit 10, neq (by omega) (by omega)]; exact h10), ckN (by omega) (by omega)]
  have hadd : ∀ (a : Nat) (t1 t2 : Int32) (M : Mem), M.1 40 = nI n → F_X7_in (nI a) t1 t2 M = some (1, M) → F_X7_adds_57 (nI k) (nI g) (nI t) (nI h) (nI a) (nI a) t1 t2 M = if n = 10 then some (-4, M) else some (nI n, tm M n k g t h a) := by
    intro a t1 t2 M hM hin
    unfold F_X7_adds_57
    rw [hin, bdS, if_neg (by decide), hM]
    by_cases h10 : n = 10
    · rw [if_pos h10, if_pos (by rw [h10]; rfl)]
    · rw [if_neg h10, if_neg (by rw [nlit 10, neq (by omega) (by omega)]; exact h10)]
      simp (disch := omega) only [ckN, ncl, sa_sr, sr_1, sr_2, sv_1, sv_2, reduceIte, Nat.reduceEqDiff, hM, nlit 1, nI_add, psub]
      rfl
  by_cases hk0 : k = 0
  · subst hk0
    have hz : nI 0 = 0 := rfl
    simp only [hz, reduceIte]
    rcases rg x5 0 99 0 99 rfl rfl (by omega) (by omega) with ⟨h5, e5⟩ | ⟨h5, h5', -, e5⟩ | ⟨a, -, ha, rfl, h5, h5', -, e5⟩
    · exact Or.inl ⟨fun M _ => if_pos h5, fun M _ => by unfold F_X7_adds_57; rw [e5, bdS, if_pos rfl]⟩
    · exact Or.inl ⟨fun M _ => by rw [if_neg h5, if_pos h5'], fun M _ => by unfold F_X7_adds_57; rw [e5, bdS, if_pos rfl]⟩
    · exact Or.inr ⟨0, g, t, h, a, ⟨by omega, by omega, by omega, ht, by omega, fun _ => by omega, fun h => absurd rfl h⟩, rfl, rfl, rfl, rfl, rfl, fun M _ => by rw [if_neg h5, if_neg h5'], fun M hM => hadd a 0 99 M hM (e5 M)⟩
  · have hne : ¬ nI k = 0 := by rw [nlit 0, neq (by omega) (by omega)]; exact hk0
    simp only [if_neg hne]
    by_cases hx : ∃ i, i < n ∧ x5 = nI i
    · obtain ⟨a, ha, rfl⟩ := hx
      refine Or.inr ⟨k, g, t, h, a, ⟨by omega, by omega, by omega, ht, by omega, fun h => absurd h hk0, fun _ => ha⟩, rfl, rfl, rfl, rfl, rfl, fun M hM => ?_, fun M hM => hadd a 0 _ M hM ?_⟩
      · rw [has5_ok hM hn ha, bdS, ckT zb1]
      · rw [hM, nlit 1, psub (by omega)]
        exact in_ok (nI_pos (by omega)) (by rw [nlt (by omega) (by omega)]; omega)
    · refine Or.inl ⟨fun M hM => ?_, fun M hM => ?_⟩
      · rcases isWord_c hM hn x5 (sv M 40 (nI n)) rfl with ⟨e, -⟩ | ⟨i, hi, e, -⟩
        · rw [e, bdS, ckT zb0]
        · exact absurd ⟨i, hi, e⟩ hx
      · rcases isWord_c (M := sv M 0 (nI n)) rfl hn x5 M hM with ⟨-, e⟩ | ⟨i, hi, e, -⟩
        · unfold F_X7_isWord at e
          unfold F_X7_adds_57
          cases hq : F_X7_in x5 0 (M.1 40 - 1) M with
          | none => rw [hq] at e; cases e
          | some y =>
            obtain ⟨r, M'⟩ := y
            rw [hq, bdS] at e
            have hr : r = 0 ∧ M' = M := by
              unfold ckb at e
              split at e
              · cases e; exact ⟨rfl, rfl⟩
              · cases e
            rw [bdS, hr.1, if_pos rfl, hr.2]
        · exact absurd ⟨i, hi, e⟩ hx
