/-! words heard at once: who strikes whom; the class -/
def am (gp L : Nat → Nat) (set : Int32) (i : Nat) : Bool := bt set i && !(decide (pc (nI (gp i)) < L 0))
def sk (kd gp ab L : Nat → Nat) (ps : Nat → Bool) (n : Nat) (set : Int32) (a b : Nat) : Bool := decide (a < n) && decide (b < n) && (am gp L set a && am gp L set b) && !(decide (a = b)) && ((ps a && decide (ab a = b)) || (foe kd ab a b && (decide (L 1 = 0) || (decide (L 1 = 1) && decide (a < b)) || (decide (L 1 = 2) && !(decide (pc (nI (gp a)) < pc (nI (gp b))))))))
def RR (f g : Nat → Int32) (P : Nat → Nat → Bool) : Prop := ∀ a, a < 10 → ∀ j, j < 32 → bt (f a) j = P a j ∧ bt (g a) j = P j a
theorem RR_e {f g : Nat → Int32} {P Q : Nat → Nat → Bool} (h : RR f g P) (e : ∀ a j, P a j = Q a j) : RR f g Q := fun a ha j hj => by
  rw [← e a j, ← e j a]
  exact h a ha j hj
theorem RR_s {f g : Nat → Int32} {P : Nat → Nat → Bool} (h : RR f g P) {s t : Nat} (hs : s < 10) (ht : t < 10) : RR (upd f s (f s ||| one t)) (upd g t (g t ||| one s)) (fun a j => P a j || (decide (a = s) && decide (j = t))) := by
  intro a ha j hj
  show bt (upd f s (f s ||| one t) a) j = (P a j || (decide (a = s) && decide (j = t))) ∧ bt (upd g t (g t ||| one s) a) j = (P j a || (decide (j = s) && decide (a = t)))
  refine ⟨?_, ?_⟩
  · by_cases e : a = s
    · subst e
      rw [upd_s, b_or, b_one (by omega) hj, (h a ha j hj).1, decide_eq_true rfl, Bool.true_and]
    · rw [upd_n e, (h a ha j hj).1, decide_eq_false e, Bool.false_and, Bool.or_false]
  · by_cases e : a = t
    · subst e
      rw [upd_s, b_or, b_one (by omega) hj, (h a ha j hj).2, show decide (a = a) = true from decide_eq_true rfl, Bool.and_true]
    · rw [upd_n e, (h a ha j hj).2, show decide (a = t) = false from decide_eq_false e, Bool.and_false, Bool.or_false]
def tk (M : Mem) (p : Int32) (f g : Nat → Int32) : Mem := sr (sr (sv M 6 p) 14 f) 15 g
theorem tk_6 (M : Mem) (p q : Int32) (f g : Nat → Int32) : sv (tk M p f g) 6 q = tk M q f g := by
  unfold tk
  rw [show sv (sr (sr (sv M 6 p) 14 f) 15 g) 6 q = sr (sr (sv (sv M 6 p) 6 q) 14 f) 15 g from rfl, sv_sv]
theorem tk_s (M : Mem) (p : Int32) (f g f' g' : Nat → Int32) : sr (sr (tk M p f g) 14 f') 15 g' = tk M p f' g' := by
  unfold tk sr sv
  apply Prod.ext
  · rfl
  · funext k
    simp only [va_up]
    by_cases h1 : k = 15
    · simp [h1]
    · by_cases h2 : k = 14
      · simp [h2]
      · simp [h1, h2]
theorem strike_ok (M : Mem) (p : Int32) (f g : Nat → Int32) {s t : Nat} (hs : s < 10) (ht : t < 10) : F_X0_strike (nI s) (nI t) (tk M p f g) = some (tk M p (upd f s (f s ||| one t)) (upd g t (g t ||| one s))) := by
  unfold F_X0_strike
  rw [ckN hs (by omega), ckN hs (by omega), ckN ht (by omega), ckN ht (by omega), ncl (by omega), ncl (by omega)]
  show some (sr (sr (tk M p f g) 14 (upd f s (f s ||| one t))) 15 (upd g t (g t ||| one s))) = _
  rw [tk_s]
theorem dif2 : ∀ a, a < 11 → ∀ b, b < 11 → (nI a - nI b < 0) = (a < b) ∧ (0 < nI a - nI b) = (b < a) := by
  have h : ∀ a, a < 11 → ∀ b, b < 11 → decide (nI a - nI b < 0) = decide (a < b) ∧ decide (0 < nI a - nI b) = decide (b < a) := by decide +kernel
  intro a ha b hb
  exact ⟨propext (decide_eq_decide.mp (h a ha b hb).1), propext (decide_eq_decide.mp (h a ha b hb).2)⟩
theorem meetFoe_ok {M : Mem} {n : Nat} {kd gp ab : Nat → Nat} {ps : Nat → Bool} (hC : CX M n kd gp ab ps) {c w o : Nat} (hc : c ≤ 2) (hw : w < n) (ho : o < n) (p : Int32) {f g : Nat → Int32} {P : Nat → Nat → Bool} (h : RR f g P) : ∃ f' g', F_X0_meetFoe (nI c) (nI w) (nI o) (tk M p f g) = some (tk M p f' g') ∧ RR f' g' (fun a j => P a j || ((decide (c = 0) || (decide (c = 2) && !(decide (pc (nI (gp w)) < pc (nI (gp o)))))) && (decide (a = w) && decide (j = o))) || ((!(decide (c = 2)) || !(decide (pc (nI (gp o)) < pc (nI (gp w))))) && (decide (a = o) && decide (j = w)))) := by
  have hn := hC.1
  obtain ⟨-, -, g1, -⟩ := hC.2.2.1 w hw
  obtain ⟨-, -, g2, -⟩ := hC.2.2.1 o ho
  have p1 := pc_le (nI (gp w))
  have p2 := pc_le (nI (gp o))
  obtain ⟨d1, d2⟩ := dif2 (pc (nI (gp w))) (by omega) (pc (nI (gp o))) (by omega)
  have e0 : (nI c = 0) = (c = 0) := by rw [nlit 0, neq (by omega) (by omega)]
  have e2 : (nI c = 2) = (c = 2) := by rw [nlit 2, neq (by omega) (by omega)]
  unfold F_X0_meetFoe F_X0_meetFoe_35 F_X0_meetFoe_41 F_X0_meetFoe_51
  rw [ckN (by omega) (by omega), ckN (by omega) (by omega), ncl (by omega), ncl (by omega), show (tk M p f g).2 4 = M.2 4 from rfl, g1, g2]
  simp only [d1, d2, e0, e2, strike_ok M p _ _ (show w < 10 by omega) (show o < 10 by omega), strike_ok M p _ _ (show o < 10 by omega) (show w < 10 by omega), bdvS]
  have R1 := RR_s h (show w < 10 by omega) (show o < 10 by omega)
  have R2 := RR_s h (show o < 10 by omega) (show w < 10 by omega)
  have R3 := RR_s R1 (show o < 10 by omega) (show w < 10 by omega)
  rcases (show c = 0 ∨ c = 1 ∨ c = 2 by omega) with rfl | rfl | rfl
  · exact ⟨_, _, rfl, RR_e R3 (fun a j => by simp)⟩
  · exact ⟨_, _, rfl, RR_e R2 (fun a j => by simp)⟩
  · simp only [Nat.reduceEqDiff, reduceIte, if_false]
    by_cases c1 : pc (nI (gp w)) < pc (nI (gp o))
    · rw [if_pos c1, if_neg (by omega)]
      exact ⟨_, _, rfl, RR_e R2 (fun a j => by simp [c1, show ¬ pc (nI (gp o)) < pc (nI (gp w)) by omega])⟩
    · rw [if_neg c1]
      by_cases c2 : pc (nI (gp o)) < pc (nI (gp w))
      · rw [if_pos c2]
        exact ⟨_, _, rfl, RR_e R1 (fun a j => by simp [c1, c2])⟩
      · rw [if_neg c2]
        exact ⟨_, _, rfl, RR_e R3 (fun a j => by simp [c1, c2])⟩
/-- what a word that is taken up brings -/
def kA (kd gp L : Nat → Nat) (ps : Nat → Bool) (w b : Nat) : Bool := (decide (kd w = 2) && ps w) || (decide (kd w = 1) && (decide (L 1 = 0) || (decide (L 1 = 2) && !(decide (pc (nI (gp w)) < pc (nI (gp b)))))))
def kB (kd gp L : Nat → Nat) (w a : Nat) : Bool := decide (kd w = 1) && (!(decide (L 1 = 2)) || !(decide (pc (nI (gp a)) < pc (nI (gp w)))))
theorem sk_new1 {kd gp ab L : Nat → Nat} {ps : Nat → Bool} {n : Nat} {set : Int32} (hk : ∀ i, i < n → kd i < 3 ∧ 0 < gp i ∧ gp i < 1024 ∧ ab i < 100 ∧ (kd i ≠ 0 → ab i < i) ∧ (ps i = true → kd i = 2)) {w : Nat} (hw : w < n) {b : Nat} (hb : b < w) : sk kd gp ab L ps n set w b = ((am gp L set w && am gp L set b) && (decide (ab w = b) && kA kd gp L ps w b)) := by
  obtain ⟨k1, -, -, -, k2, k3⟩ := hk w hw
  obtain ⟨-, -, -, -, m2, -⟩ := hk b (by omega)
  have hf : foe kd ab w b = (decide (kd w = 1) && decide (ab w = b)) := by
    unfold foe
    by_cases h1 : kd b = 1
    · have := m2 (by omega)
      rw [decide_eq_false (show ¬ ab b = w by omega), Bool.and_false, Bool.or_false]
    · rw [decide_eq_false h1, Bool.false_and, Bool.or_false]
  unfold sk kA
  rw [hf, decide_eq_true hw, decide_eq_true (show b < n by omega), decide_eq_false (show ¬ w = b by omega), decide_eq_false (show ¬ w < b by omega), Bool.and_false, Bool.or_false]
  obtain ⟨Q, hQ⟩ : ∃ Q, Q = (decide (L 1 = 0) || (decide (L 1 = 2) && !(decide (pc (nI (gp w)) < pc (nI (gp b)))))) := ⟨_, rfl⟩
  rw [← hQ]
  cases h2 : ps w
  · cases am gp L set w <;> cases am gp L set b <;> cases decide (ab w = b) <;> cases decide (kd w = 1) <;> cases decide (kd w = 2) <;> cases Q <;> rfl
  · have := k3 h2
    rw [this, show decide (2 = 1) = false from rfl, show decide (2 = 2) = true from rfl]
    cases am gp L set w <;> cases am gp L set b <;> cases decide (ab w = b) <;> cases Q <;> rfl
theorem sk_new2 {kd gp ab L : Nat → Nat} {ps : Nat → Bool} {n : Nat} {set : Int32} (hk : ∀ i, i < n → kd i < 3 ∧ 0 < gp i ∧ gp i < 1024 ∧ ab i < 100 ∧ (kd i ≠ 0 → ab i < i) ∧ (ps i = true → kd i = 2)) (hB : LB L) {w : Nat} (hw : w < n) {a : Nat} (ha : a < w) : sk kd gp ab L ps n set a w = ((am gp L set w && am gp L set a) && (decide (ab w = a) && kB kd gp L w a)) := by
  have hc := hB.2.1
  obtain ⟨-, -, -, -, m2, m3⟩ := hk a (by omega)
  have hf : foe kd ab a w = (decide (kd w = 1) && decide (ab w = a)) := by
    unfold foe
    by_cases h1 : kd a = 1
    · have := m2 (by omega)
      rw [decide_eq_false (show ¬ ab a = w by omega), Bool.and_false, Bool.false_or]
    · rw [decide_eq_false h1, Bool.false_and, Bool.false_or]
  have hp : (ps a && decide (ab a = w)) = false := by
    cases h2 : ps a
    · rfl
    · have := m2 (by have := m3 h2; omega)
      rw [decide_eq_false (show ¬ ab a = w by omega)]
      rfl
  unfold sk kB
  rw [hf, hp, decide_eq_true hw, decide_eq_true (show a < n by omega), decide_eq_false (show ¬ a = w by omega), decide_eq_true ha, Bool.and_true, Bool.false_or]
  obtain ⟨Q, hQ⟩ : ∃ Q, Q = decide (pc (nI (gp a)) < pc (nI (gp w))) := ⟨_, rfl⟩
  rw [← hQ]
  rcases (show L 1 = 0 ∨ L 1 = 1 ∨ L 1 = 2 by omega) with c | c | c
  · rw [c]; cases am gp L set w <;> cases am gp L set a <;> cases decide (ab w = a) <;> cases decide (kd w = 1) <;> cases Q <;> rfl
  · rw [c]; cases am gp L set w <;> cases am gp L set a <;> cases decide (ab w = a) <;> cases decide (kd w = 1) <;> cases Q <;> rfl
  · rw [c]; cases am gp L set w <;> cases am gp L set a <;> cases decide (ab w = a) <;> cases decide (kd w = 1) <;> cases Q <;> rfl
theorem sk_self {kd gp ab L : Nat → Nat} {ps : Nat → Bool} {n : Nat} {set : Int32} (a : Nat) : sk kd gp ab L ps n set a a = false := by
  unfold sk
  rw [decide_eq_true (show a = a from rfl), Bool.not_true, Bool.and_false, Bool.false_and]
/-- the pairs of the first words -/
def skp (kd gp ab L : Nat → Nat) (ps : Nat → Bool) (n : Nat) (set : Int32) (i a b : Nat) : Bool := decide (a < i) && decide (b < i) && sk kd gp ab L ps n set a b
theorem skp_s {kd gp ab L : Nat → Nat} {ps : Nat → Bool} {n : Nat} {set : Int32} (hk : ∀ i, i < n → kd i < 3 ∧ 0 < gp i ∧ gp i < 1024 ∧ ab i < 100 ∧ (kd i ≠ 0 → ab i < i) ∧ (ps i = true → kd i = 2)) (hB : LB L) {w : Nat} (hw : w < n) (X Y : Bool) (hX : ∀ b, b < w → ab w = b → X = ((am gp L set w && am gp L set b) && kA kd gp L ps w b)) (hY : ∀ b, b < w → ab w = b → Y = ((am gp L set w && am gp L set b) && kB kd gp L w b)) (hX0 : ¬ ab w < w → X = false) (hY0 : ¬ ab w < w → Y = false) (a j : Nat) : (skp kd gp ab L ps n set w a j || (X && (decide (a = w) && decide (j = ab w))) || (Y && (decide (a = ab w) && decide (j = w)))) = skp kd gp ab L ps n set (w + 1) a j := by
  unfold skp
  by_cases ea : a = w
  · subst ea
    by_cases ej : j = a
    · subst ej
      rw [sk_self, Bool.and_false, Bool.and_false, Bool.false_or]
      by_cases h : ab j < j
      · simp [show ¬ j = ab j by omega]
      · rw [hX0 h, hY0 h]
        rfl
    · by_cases hj : j < a
      · rw [sk_new1 hk hw hj, decide_eq_false (show ¬ a < a by omega), decide_eq_true (show a < a + 1 by omega), decide_eq_true (show j < a + 1 by omega), decide_eq_false ej, Bool.and_false, Bool.and_false, Bool.or_false, Bool.false_and, Bool.false_and, Bool.false_or, decide_eq_true (show a = a from rfl), Bool.true_and, Bool.true_and]
        by_cases e : ab a = j
        · rw [hX j hj e, e]
          simp
        · rw [decide_eq_false e, decide_eq_false (fun h => e h.symm), Bool.false_and, Bool.and_false, Bool.and_false]
          rfl
      · rw [decide_eq_false (show ¬ a < a by omega), decide_eq_false (show ¬ j < a + 1 by omega), decide_eq_false ej, Bool.and_false, Bool.and_false, Bool.or_false, Bool.false_and, Bool.false_and, Bool.false_or, Bool.and_false, Bool.false_and]
        by_cases h : ab a < a
        · rw [decide_eq_false (show ¬ j = ab a by omega), Bool.and_false, Bool.and_false]
        · rw [hX0 h]
          rfl
  · rw [decide_eq_false ea, Bool.false_and, Bool.and_false, Bool.or_false]
    by_cases ha : a < w
    · by_cases ej : j = w
      · subst ej
        rw [sk_new2 hk hB hw ha, decide_eq_false (show ¬ j < j by omega), decide_eq_true (show j < j + 1 by omega), decide_eq_true (show a < j + 1 by omega), Bool.and_false, Bool.false_and, Bool.false_or, decide_eq_true (show j = j from rfl), Bool.true_and, Bool.true_and, Bool.and_true]
        by_cases e : ab j = a
        · rw [hY a ha e, e]
          simp
        · rw [decide_eq_false e, decide_eq_false (fun h => e h.symm), Bool.false_and, Bool.and_false, Bool.and_false]
      · rw [decide_eq_false ej, Bool.and_false, Bool.and_false, Bool.or_false]
        congr 1
        rw [decide_eq_true ha, decide_eq_true (show a < w + 1 by omega)]
        congr 1
        exact decide_eq_decide.mpr (by omega)
    · rw [decide_eq_false ha, decide_eq_false (show ¬ a < w + 1 by omega), Bool.false_and, Bool.false_and, Bool.false_or, Bool.false_and, Bool.false_and]
      by_cases h : ab w < w
      · rw [decide_eq_false (show ¬ a = ab w by omega), Bool.false_and, Bool.and_false]
      · rw [hY0 h]
        rfl
theorem meetE_ok {M : Mem} {n j : Nat} {kd gp ab L : Nat → Nat} {ps : Nat → Bool} (hC : CX M n kd gp ab ps) (hL : LX M j L) (hB : LB L) {set : Int32} {w : Nat} (hw : w < n) {p : Int32} (hp : ∀ i, i < 32 → bt p i = (decide (i < w + 1) && am gp L set i)) (hwa : am gp L set w = true) {f g : Nat → Int32} (h : RR f g (skp kd gp ab L ps n set w)) : ∃ f' g', F_X0_meetEarlier j (nI w) (tk M p f g) = some (tk M p f' g') ∧ RR f' g' (skp kd gp ab L ps n set (w + 1)) := by
  have hn := hC.1
  obtain ⟨k1, -, -, a1⟩ := hC.2.2.1 w hw
  obtain ⟨k2, -, -, a2, a3, a4⟩ := hC.2.2.2.1 w hw
  have hstep := skp_s (set := set) hC.2.2.2.1 hB hw
  have hnone : kA kd gp L ps w (ab w) = false ∨ ¬ ab w < w ∨ am gp L set (ab w) = false → kB kd gp L w (ab w) = false ∨ ¬ ab w < w ∨ am gp L set (ab w) = false → RR f g (skp kd gp ab L ps n set (w + 1)) := by
    intro h1 h2
    refine RR_e h (fun a j => ?_)
    rw [← hstep false false (fun b hb e => by
      subst e
      rcases h1 with h1 | h1 | h1
      · rw [h1, Bool.and_false]
      · exact absurd hb h1
      · rw [h1, Bool.and_false, Bool.false_and]) (fun b hb e => by
      subst e
      rcases h2 with h2 | h2 | h2
      · rw [h2, Bool.and_false]
      · exact absurd hb h2
      · rw [h2, Bool.and_false, Bool.false_and]) (fun _ => rfl) (fun _ => rfl) a j]
    simp
  unfold F_X0_meetEarlier
  rw [show (tk M p f g).2 2 = M.2 2 from rfl, show (tk M p f g).2 7 = M.2 7 from rfl, show (tk M p f g).2 9 = M.2 9 from rfl, show (tk M p f g).1 6 = p from rfl, show (tk M p f g).1 (10 + 6 * j + 3) = M.1 (10 + 6 * j + 3) from sv_o _ _ (by omega), show M.1 (10 + 6 * j + 3) = nI (L 1) from hL 1 (by omega), ckN (by omega) (by omega), ckN (by omega) (by omega), ckN (by omega) (by omega), ckN (by omega) (by omega), ncl (by omega), k1, a1]
  by_cases c0 : kd w = 0
  · rw [if_pos (by rw [c0]; rfl)]
    exact ⟨f, g, rfl, hnone (Or.inl (by unfold kA; rw [c0]; rfl)) (Or.inl (by unfold kB; rw [c0]; rfl))⟩
  rw [if_neg (by rw [nlit 0, neq (by omega) (by omega)]; exact c0)]
  have haw := a3 c0
  simp only [b_tst0 _ (show ab w < 32 by omega)]
  rw [hp (ab w) (by omega), decide_eq_true (show ab w < w + 1 by omega), Bool.true_and]
  cases c1 : am gp L set (ab w)
  · rw [if_pos rfl]
    exact ⟨f, g, rfl, hnone (Or.inr (Or.inr c1)) (Or.inr (Or.inr c1))⟩
  rw [if_neg (by decide)]
  by_cases c2 : kd w = 1
  · rw [if_pos (by rw [c2]; rfl)]
    obtain ⟨f', g', e, hR⟩ := meetFoe_ok hC hB.2.1 hw (show ab w < n by omega) p h
    refine ⟨f', g', by rw [e, bdvS], RR_e hR (fun a j => ?_)⟩
    rw [← hstep (decide (L 1 = 0) || (decide (L 1 = 2) && !(decide (pc (nI (gp w)) < pc (nI (gp (ab w))))))) (!(decide (L 1 = 2)) || !(decide (pc (nI (gp (ab w))) < pc (nI (gp w))))) (fun b hb e => by
      subst e
      unfold kA
      rw [hwa, c1, c2]
      simp) (fun b hb e => by
      subst e
      unfold kB
      rw [hwa, c1, c2]
      simp) (fun h => absurd haw h) (fun h => absurd haw h) a j]
  · have c3 : kd w = 2 := by omega
    rw [if_neg (by rw [nlit 1, neq (by omega) (by omega)]; exact c2)]
    have h9 : (M.2 9 w = 0) = (ps w = false) := by
      apply propext
      rw [b_zero]
      constructor
      · intro h
        have := h (ab w) (by omega)
        rw [hC.2.2.2.2.2.1 w (by omega) (ab w) (by omega), decide_eq_true hw, decide_eq_true rfl, Bool.and_true, Bool.true_and] at this
        exact this
      · intro h i hi
        rw [hC.2.2.2.2.2.1 w (by omega) i hi, h, Bool.and_false, Bool.false_and]
    simp only [h9]
    cases c4 : ps w
    · rw [if_pos rfl]
      exact ⟨f, g, rfl, hnone (Or.inl (by unfold kA; rw [c3, c4]; rfl)) (Or.inl (by unfold kB; rw [c3]; rfl))⟩
    · rw [if_neg (by decide), strike_ok M p f g (by omega) (by omega), bdvS]
      refine ⟨_, _, rfl, RR_e (RR_s h (by omega) (by omega)) (fun a j => ?_)⟩
      rw [← hstep true false (fun b hb e => by
        subst e
        unfold kA
        rw [hwa, c1, c3, c4]
        simp) (fun b hb e => by
        subst e
        unfold kB
        rw [c3]
        simp) (fun h => absurd haw h) (fun _ => rfl) a j]
      simp
theorem tu23 {M : Mem} {n j : Nat} {kd gp ab L : Nat → Nat} {ps : Nat → Bool} (hC : CX M n kd gp ab ps) (hL : LX M j L) (hB : LB L) (set : Int32) : ∀ (d i m : Nat) (p : Int32) (f g : Nat → Int32), i + d = n → d < m → (∀ k, k < 32 → bt p k = (decide (k < i) && am gp L set k)) → RR f g (skp kd gp ab L ps n set i) → ∃ p' f' g', F_X0_takeUp_23 j m set (nI i) (tk M p f g) = some (tk M p' f' g') ∧ (∀ k, k < 32 → bt p' k = (decide (k < n) && am gp L set k)) ∧ RR f' g' (skp kd gp ab L ps n set n) := by
  have hn := hC.1
  intro d
  induction d with
  | zero =>
    intro i m p f g hi hm hp hR
    obtain ⟨m, rfl⟩ : ∃ q, m = q + 1 := ⟨m - 1, by omega⟩
    obtain rfl : i = n := by omega
    refine ⟨p, f, g, ?_, hp, hR⟩
    unfold F_X0_takeUp_23
    rw [show (tk M p f g).1 0 = M.1 0 from rfl, hC.2.1, if_pos (by rw [nle (by omega) (by omega)]; omega)]
  | succ d ih =>
    intro i m p f g hi hm hp hR
    obtain ⟨m, rfl⟩ : ∃ q, m = q + 1 := ⟨m - 1, by omega⟩
    have ih := fun p f g => ih (i + 1) m p f g (by omega) (by omega)
    have hin : i < n := by omega
    obtain ⟨-, -, g1, -⟩ := hC.2.2.1 i hin
    have p1 := pc_le (nI (gp i))
    have hB0 := hB.1
    have hno : am gp L set i = false → (∀ k, k < 32 → bt p k = (decide (k < i + 1) && am gp L set k)) ∧ RR f g (skp kd gp ab L ps n set (i + 1)) := by
      intro h0
      refine ⟨fun k hk => ?_, RR_e hR (fun a j => ?_)⟩
      · rw [hp k hk]
        by_cases e : k = i
        · subst e; rw [h0, Bool.and_false, Bool.and_false]
        · congr 1; exact decide_eq_decide.mpr (by omega)
      · have := skp_s (set := set) hC.2.2.2.1 hB hin false false (fun b _ _ => by rw [h0]; rfl) (fun b _ _ => by rw [h0]; rfl) (fun _ => rfl) (fun _ => rfl) a j
        rw [← this]
        simp
    unfold F_X0_takeUp_23 F_X0_takeUp_76
    rw [show (tk M p f g).1 0 = M.1 0 from rfl, hC.2.1, if_neg (by rw [nle (by omega) (by omega)]; omega)]
    simp only [b_tst0 _ (show i < 32 by omega), nI_s]
    cases h1 : bt set i
    · rw [if_pos rfl]
      have h0 := hno (by unfold am; rw [h1]; rfl)
      exact ih p f g h0.1 h0.2
    rw [if_neg (by decide), ckN (by omega) (by omega), ncl (by omega), show (tk M p f g).2 4 = M.2 4 from rfl, g1, show (tk M p f g).1 (10 + 6 * j + 2) = M.1 (10 + 6 * j + 2) from sv_o _ _ (by omega), show M.1 (10 + 6 * j + 2) = nI (L 0) from hL 0 (by omega)]
    by_cases h2 : pc (nI (gp i)) < L 0
    · rw [if_pos (by rw [nlt (by omega) (by omega)]; exact h2)]
      have h0 := hno (by unfold am; rw [decide_eq_true h2, Bool.not_true, Bool.and_false])
      exact ih p f g h0.1 h0.2
    rw [if_neg (by rw [nlt (by omega) (by omega)]; exact h2)]
    have hwa : am gp L set i = true := by unfold am; rw [h1, decide_eq_false h2]; rfl
    have hp' : ∀ k, k < 32 → bt (p ||| one i) k = (decide (k < i + 1) && am gp L set k) := by
      intro k hk
      rw [b_or, b_one (by omega) hk, hp k hk]
      by_cases e : k = i
      · subst e; rw [hwa]; simp
      · rw [decide_eq_false e, Bool.or_false]
        congr 1; exact decide_eq_decide.mpr (by omega)
    obtain ⟨f', g', e, hR'⟩ := meetE_ok hC hL hB hin hp' hwa hR
    rw [show (tk M p f g).1 6 = p from rfl, tk_6, show (1 : Int32) <<< (nI i &&& 31) = one i from rfl, e, bdvS]
    exact ih (p ||| one i) f' g' hp' hR'
/-- the class takes words up -/
theorem takeUp_ok {M : Mem} {n j : Nat} {kd gp ab L : Nat → Nat} {ps : Nat → Bool} (hC : CX M n kd gp ab ps) (hL : LX M j L) (hB : LB L) (set : Int32) : ∃ p f g, F_X0_takeUp j set M = some (tk M p f g) ∧ (∀ k, k < 32 → bt p k = (decide (k < n) && am gp L set k)) ∧ RR f g (sk kd gp ab L ps n set) := by
  unfold F_X0_takeUp
  rw [fill_ok 14 _ _ (by decide), bdvS, fill_ok 15 _ _ (by decide), bdvS]
  obtain ⟨p, f, g, e, h1, h2⟩ := tu23 hC hL hB set n 0 fu 0 (fun k => if k < al 14 then 0 else M.2 14 k) (fun k => if k < al 15 then 0 else M.2 15 k) (by omega) (by have := hC.1; unfold fu; omega) (fun k hk => by rw [b_0]; simp) (fun a ha j hj => by
    show bt (if a < 10 then 0 else M.2 14 a) j = _ ∧ bt (if a < 10 then 0 else M.2 15 a) j = _
    rw [if_pos ha, if_pos ha, b_0]
    unfold skp
    simp)
  refine ⟨p, f, g, e, h1, RR_e h2 (fun a j => ?_)⟩
  unfold skp sk
  cases decide (a < n) <;> cases decide (j < n) <;> rfl
