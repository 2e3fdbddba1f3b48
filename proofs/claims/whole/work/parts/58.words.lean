/-! words: what both systems hold of them -/
def WD (M : Mem) (n : Nat) (kd gp tn hr ab : Nat → Nat) : Prop := n ≤ 10 ∧ M.1 0 = nI n ∧ M.1 40 = nI n ∧ ∀ i, i < n → (M.2 2 i = nI (kd i) ∧ M.2 24 i = nI (kd i) ∧ kd i < 3) ∧ (M.2 3 i = nI (gp i) ∧ M.2 25 i = nI (gp i) ∧ 0 < gp i ∧ gp i < 1024) ∧ (M.2 5 i = nI (tn i) ∧ M.2 26 i = nI (tn i) ∧ tn i < 6) ∧ (M.2 6 i = nI (hr i) ∧ M.2 27 i = nI (hr i) ∧ hr i < 1000) ∧ (M.2 7 i = nI (ab i) ∧ M.2 28 i = nI (ab i) ∧ (kd i = 0 → ab i < 100) ∧ (kd i ≠ 0 → ab i < i))
/-- the class's half of it, and the model's -/
def WC (M : Mem) (n : Nat) (kd gp tn hr ab : Nat → Nat) : Prop := n ≤ 10 ∧ M.1 0 = nI n ∧ True ∧ ∀ i, i < n → (M.2 2 i = nI (kd i) ∧ True ∧ kd i < 3) ∧ (M.2 3 i = nI (gp i) ∧ True ∧ 0 < gp i ∧ gp i < 1024) ∧ (M.2 5 i = nI (tn i) ∧ True ∧ tn i < 6) ∧ (M.2 6 i = nI (hr i) ∧ True ∧ hr i < 1000) ∧ (M.2 7 i = nI (ab i) ∧ True ∧ (kd i = 0 → ab i < 100) ∧ (kd i ≠ 0 → ab i < i))
def WM (M : Mem) (n : Nat) (kd gp tn hr ab : Nat → Nat) : Prop := n ≤ 10 ∧ True ∧ M.1 40 = nI n ∧ ∀ i, i < n → (True ∧ M.2 24 i = nI (kd i) ∧ kd i < 3) ∧ (True ∧ M.2 25 i = nI (gp i) ∧ 0 < gp i ∧ gp i < 1024) ∧ (True ∧ M.2 26 i = nI (tn i) ∧ tn i < 6) ∧ (True ∧ M.2 27 i = nI (hr i) ∧ hr i < 1000) ∧ (True ∧ M.2 28 i = nI (ab i) ∧ (kd i = 0 → ab i < 100) ∧ (kd i ≠ 0 → ab i < i))
theorem WD.c {M : Mem} {n : Nat} {kd gp tn hr ab : Nat → Nat} (h : WD M n kd gp tn hr ab) : WC M n kd gp tn hr ab := ⟨h.1, h.2.1, trivial, fun i hi => by
  obtain ⟨⟨a1, a2, a3⟩, ⟨b1, b2, b3⟩, ⟨c1, c2, c3⟩, ⟨d1, d2, d3⟩, ⟨e1, e2, e3⟩⟩ := h.2.2.2 i hi
  exact ⟨⟨a1, trivial, a3⟩, ⟨b1, trivial, b3⟩, ⟨c1, trivial, c3⟩, ⟨d1, trivial, d3⟩, ⟨e1, trivial, e3⟩⟩⟩
theorem WD.m {M : Mem} {n : Nat} {kd gp tn hr ab : Nat → Nat} (h : WD M n kd gp tn hr ab) : WM M n kd gp tn hr ab := ⟨h.1, trivial, h.2.2.1, fun i hi => by
  obtain ⟨⟨a1, a2, a3⟩, ⟨b1, b2, b3⟩, ⟨c1, c2, c3⟩, ⟨d1, d2, d3⟩, ⟨e1, e2, e3⟩⟩ := h.2.2.2 i hi
  exact ⟨⟨trivial, a2, a3⟩, ⟨trivial, b2, b3⟩, ⟨trivial, c2, c3⟩, ⟨trivial, d2, d3⟩, ⟨trivial, e2, e3⟩⟩⟩
theorem WD.of {M : Mem} {n : Nat} {kd gp tn hr ab : Nat → Nat} (h : WC M n kd gp tn hr ab) (g : WM M n kd gp tn hr ab) : WD M n kd gp tn hr ab := ⟨h.1, h.2.1, g.2.2.1, fun i hi => by
  obtain ⟨⟨a1, -, a3⟩, ⟨b1, -, b3⟩, ⟨c1, -, c3⟩, ⟨d1, -, d3⟩, ⟨e1, -, e3⟩⟩ := h.2.2.2 i hi
  obtain ⟨⟨-, a2, -⟩, ⟨-, b2, -⟩, ⟨-, c2, -⟩, ⟨-, d2, -⟩, ⟨-, e2, -⟩⟩ := g.2.2.2 i hi
  exact ⟨⟨a1, a2, a3⟩, ⟨b1, b2, b3⟩, ⟨c1, c2, c3⟩, ⟨d1, d2, d3⟩, ⟨e1, e2, e3⟩⟩⟩
def adf (a b : Nat) : Nat := if a < b then b - a else a - b
/-- possible: an elsewhere too far away -/
def psb (kd tn hr ab : Nat → Nat) (w : Nat → Int32) (i : Nat) : Bool := decide (kd i = 2) && !(decide (w (6 * tn i + tn (ab i)) ≤ nI (adf (hr i) (hr (ab i)))))
theorem absI {a b : Nat} (ha : a < 1000) (hb : b < 1000) : (if 0 ≤ nI a - nI b then nI a - nI b else 0 - (nI a - nI b)) = nI (adf a b) := by
  have e : (nI a - nI b).toInt = (a : Int) - b := pk_sub_toInt (by omega) (by omega)
  unfold adf
  by_cases h : a < b
  · rw [if_neg (fun h2 => by have := Int32.le_iff_toInt_le.mp h2; rw [e] at this; have e0 : (0 : Int32).toInt = 0 := rfl; omega), if_pos h]
    apply Int32.toInt_inj.mp
    have e1 : (nI (b - a)).toInt = ((b - a : Nat) : Int) := nI_toInt (by omega)
    rw [Int32.toInt_sub, e, e1]
    have e0 : (0 : Int32).toInt = 0 := rfl
    rw [e0, Int.bmod_eq_of_le (by omega) (by omega)]
    omega
  · rw [if_pos (Int32.le_iff_toInt_le.mpr (by rw [e]; have e0 : (0 : Int32).toInt = 0 := rfl; omega)), if_neg h, psub (by omega)]
theorem apart_ok {a b : Nat} (ha : a < 1000) (hb : b < 1000) (M : Mem) : F_X7_apart (nI a) (nI b) M = some (nI (adf a b), M) := by
  unfold F_X7_apart adf
  by_cases h : a ≤ b
  · rw [if_pos ((nI_leI (by omega) (by omega)).mpr h), psub h]
    by_cases h2 : a < b
    · rw [if_pos h2]
    · rw [if_neg h2]
      congr 3
      omega
  · rw [if_neg (fun h2 => h ((nI_leI (by omega) (by omega)).mp h2)), psub (by omega), if_neg (by omega)]
theorem tooFar_ok {M : Mem} {n : Nat} {kd gp tn hr ab : Nat → Nat} (hW : WC M n kd gp tn hr ab) {w : Nat → Int32} (hw : ∀ k, k < 36 → M.2 1 k = w k) {i : Nat} (hi : i < n) (hk : kd i = 2) : F_X5_isTooFar (nI i) (nI (ab i)) M = some (if psb kd tn hr ab w i = true then 1 else 0, M) := by
  obtain ⟨hn, -, -, hW⟩ := hW
  have hai : ab i < i := (hW i hi).2.2.2.2.2.2.2 (by omega)
  obtain ⟨-, -, ⟨t1, -, t3⟩, ⟨h1, -, h3⟩, -⟩ := hW i hi
  obtain ⟨-, -, ⟨u1, -, u3⟩, ⟨v1, -, v3⟩, -⟩ := hW (ab i) (by omega)
  unfold F_X5_isTooFar F_X3_between
  simp (disch := omega) only [ckN, ncl, t1, u1, h1, v1, nlit 6, pk_mul, nI_add, bdS]
  rw [absI h3 v3, hw _ (by omega)]
  unfold psb
  rw [decide_eq_true hk, Bool.true_and, Nat.mul_comm]
  by_cases hc : w (6 * tn i + tn (ab i)) ≤ nI (adf (hr i) (hr (ab i)))
  · rw [if_pos hc, decide_eq_true hc]
    rfl
  · rw [if_neg hc, decide_eq_false hc]
    rfl
/-- the memory with other possible words -/
def st3 (M : Mem) (p : Int32) (f g : Nat → Int32) : Mem := sr (sr (sv M 2 p) 9 f) 10 g
def PW (kd tn hr ab : Nat → Nat) (w : Nat → Int32) (i : Nat) (p : Int32) (f g : Nat → Int32) : Prop := (∀ j, j < 32 → bt p j = (decide (j < i) && psb kd tn hr ab w j)) ∧ (∀ a, a < 10 → ∀ j, j < 32 → bt (f a) j = (decide (a < i) && psb kd tn hr ab w a && decide (j = ab a))) ∧ (∀ a, a < 10 → ∀ j, j < 32 → bt (g a) j = (decide (j < i) && psb kd tn hr ab w j && decide (ab j = a)))
theorem st3_WD {M : Mem} {n : Nat} {kd gp tn hr ab : Nat → Nat} (h : WC M n kd gp tn hr ab) (p : Int32) (f g : Nat → Int32) : WC (st3 M p f g) n kd gp tn hr ab := h
theorem st3_step (M : Mem) (p x y z : Int32) (f g : Nat → Int32) (i a : Nat) : sa (sa (sv (st3 M p f g) 2 x) 9 i y) 10 a z = st3 M x (upd f i y) (upd g a z) := by
  unfold st3 sa sr sv
  apply Prod.ext
  · funext k
    simp only [va_up]
    split <;> rfl
  · funext k
    simp only [va_up]
    by_cases h1 : k = 10
    · simp [h1]
    · by_cases h2 : k = 9
      · simp [h2]
      · simp [h1, h2]
theorem wa23 {M : Mem} {n : Nat} {kd gp tn hr ab : Nat → Nat} (hW : WC M n kd gp tn hr ab) {w : Nat → Int32} (hw : ∀ k, k < 36 → M.2 1 k = w k) : ∀ (d i m : Nat) (p : Int32) (f g : Nat → Int32), i + d = n → d < m → PW kd tn hr ab w i p f g → ∃ (p' : Int32) (f' g' : Nat → Int32), F_X5_weighAll_23 m (nI i) (st3 M p f g) = some (st3 M p' f' g') ∧ PW kd tn hr ab w n p' f' g' := by
  have hn := hW.1
  intro d
  induction d with
  | zero =>
    intro i m p f g hi hm hP
    obtain ⟨m, rfl⟩ : ∃ q, m = q + 1 := ⟨m - 1, by omega⟩
    obtain rfl : i = n := by omega
    refine ⟨p, f, g, ?_, hP⟩
    unfold F_X5_weighAll_23
    rw [show (st3 M p f g).1 0 = nI i from hW.2.1, if_pos (by rw [nle (by omega) (by omega)]; omega)]
  | succ d ih =>
    intro i m p f g hi hm hP
    obtain ⟨m, rfl⟩ : ∃ q, m = q + 1 := ⟨m - 1, by omega⟩
    have hin : i < n := by omega
    obtain ⟨⟨k1, -, k3⟩, -, -, -, ⟨a1, -, -, a4⟩⟩ := hW.2.2.2 i hin
    unfold F_X5_weighAll_23 F_X5_weighAll_99
    rw [show (st3 M p f g).1 0 = nI n from hW.2.1, if_neg (by rw [nle (by omega) (by omega)]; omega)]
    rw [show ∀ k, (st3 M p f g).2 2 k = M.2 2 k from fun _ => rfl, show ∀ k, (st3 M p f g).2 7 k = M.2 7 k from fun _ => rfl]
    simp (disch := omega) only [ckN, ncl, k1, a1]
    by_cases hk : kd i = 2
    rotate_left
    · rw [if_neg (by rw [nlit 2, neq (by omega) (by omega)]; exact hk), nlit 1, nI_add]
      refine ih (i + 1) m p f g (by omega) (by omega) ?_
      have hp : psb kd tn hr ab w i = false := by unfold psb; rw [decide_eq_false hk, Bool.false_and]
      refine ⟨fun j hj => ?_, fun a ha j hj => ?_, fun a ha j hj => ?_⟩
      · rw [hP.1 j hj]
        by_cases e : j = i
        · subst e; rw [hp, Bool.and_false, Bool.and_false]
        · congr 1; exact decide_eq_decide.mpr (by omega)
      · rw [hP.2.1 a ha j hj]
        by_cases e : a = i
        · subst e; rw [hp, Bool.and_false, Bool.and_false]
        · congr 2; exact decide_eq_decide.mpr (by omega)
      · rw [hP.2.2 a ha j hj]
        by_cases e : j = i
        · subst e; rw [hp, Bool.and_false, Bool.and_false]
        · congr 2; exact decide_eq_decide.mpr (by omega)
    have hai : ab i < i := a4 (by omega)
    rw [if_pos (by rw [hk]; rfl), tooFar_ok (st3_WD hW p f g) (w := w) hw hin hk, bdS]
    by_cases hp : psb kd tn hr ab w i = true
    rotate_left
    · rw [if_neg hp, if_pos rfl, nlit 1, nI_add]
      refine ih (i + 1) m p f g (by omega) (by omega) ?_
      have hp : psb kd tn hr ab w i = false := by simpa using hp
      refine ⟨fun j hj => ?_, fun a ha j hj => ?_, fun a ha j hj => ?_⟩
      · rw [hP.1 j hj]
        by_cases e : j = i
        · subst e; rw [hp, Bool.and_false, Bool.and_false]
        · congr 1; exact decide_eq_decide.mpr (by omega)
      · rw [hP.2.1 a ha j hj]
        by_cases e : a = i
        · subst e; rw [hp, Bool.and_false, Bool.and_false]
        · congr 2; exact decide_eq_decide.mpr (by omega)
      · rw [hP.2.2 a ha j hj]
        by_cases e : j = i
        · subst e; rw [hp, Bool.and_false, Bool.and_false]
        · congr 2; exact decide_eq_decide.mpr (by omega)
    rw [if_pos hp, if_neg (by decide)]
    rw [show (sv (st3 M p f g) 2 ((st3 M p f g).fst 2 ||| 1 <<< (nI i &&& 31))).snd 7 i = nI (ab i) from a1]
    rw [show (sa (sv (st3 M p f g) 2 ((st3 M p f g).fst 2 ||| 1 <<< (nI i &&& 31))) 9 i (1 <<< (nI (ab i) &&& 31))).snd 7 i = nI (ab i) from a1]
    simp (disch := omega) only [ckN, ncl]
    rw [st3_step, nlit 1, nI_add]
    rw [show (sa (sv (st3 M p f g) 2 ((st3 M p f g).fst 2 ||| nI 1 <<< (nI i &&& 31))) 9 i (nI 1 <<< (nI (ab i) &&& 31))).snd 10 (ab i) = g (ab i) from rfl, show (st3 M p f g).fst 2 = p from rfl, show ∀ k, nI 1 <<< (nI k &&& 31) = one k from fun _ => rfl]
    refine ih (i + 1) m _ _ _ (by omega) (by omega) ⟨fun j hj => ?_, fun a ha j hj => ?_, fun a ha j hj => ?_⟩
    · rw [b_or, b_one (by omega) hj, hP.1 j hj]
      by_cases e : j = i
      · subst e; simp [hp]
      · rw [decide_eq_false e, Bool.or_false]
        congr 1; exact decide_eq_decide.mpr (by omega)
    · by_cases e : a = i
      · subst e
        rw [upd_s, show nI 1 <<< (nI (ab a) &&& 31) = one (ab a) from rfl, b_one (by omega) hj]
        simp [hp]
      · rw [upd_n e, hP.2.1 a ha j hj]
        congr 2; exact decide_eq_decide.mpr (by omega)
    · by_cases e2 : a = ab i
      · subst e2
        rw [upd_s, b_or, b_one (by omega) hj, hP.2.2 (ab i) ha j hj]
        by_cases e : j = i
        · subst e; simp [hp]
        · rw [decide_eq_false e, Bool.or_false]
          congr 2; exact decide_eq_decide.mpr (by omega)
      · rw [upd_n e2, hP.2.2 a ha j hj]
        by_cases e : j = i
        · subst e
          rw [show decide (ab j = a) = false from decide_eq_false (fun h => e2 h.symm), Bool.and_false, Bool.and_false]
        · congr 2; exact decide_eq_decide.mpr (by omega)
/-- the class weighs all words anew -/
theorem weigh_ok {M : Mem} {n : Nat} {kd gp tn hr ab : Nat → Nat} (hW : WC M n kd gp tn hr ab) {w : Nat → Int32} (hw : ∀ k, k < 36 → M.2 1 k = w k) : ∃ (p : Int32) (f g : Nat → Int32), F_X5_weighAll M = some (st3 M p f g) ∧ PW kd tn hr ab w n p f g := by
  unfold F_X5_weighAll
  rw [fill_ok 9 _ _ (by decide), bdvS, fill_ok 10 _ _ (by decide), bdvS]
  obtain ⟨p, f, g, e, hP⟩ := wa23 hW hw n 0 fu 0 (fun k => if k < 10 then 0 else M.2 9 k) (fun k => if k < 10 then 0 else M.2 10 k) (by omega) (by have := hW.1; unfold fu; omega) ⟨fun j hj => by rw [b_0]; simp, fun a ha j hj => by show bt (if a < 10 then 0 else M.2 9 a) j = _; rw [if_pos ha, b_0]; simp, fun a ha j hj => by show bt (if a < 10 then 0 else M.2 10 a) j = _; rw [if_pos ha, b_0]; simp⟩
  exact ⟨p, f, g, e, hP⟩
