/-! sets that answer for themselves, the least set -/
def KP (n : Nat) (A : Nat → Bool) (K : Nat → Nat → Bool) : Prop := ∀ a b, K a b = true → a < n ∧ b < n ∧ A a = true ∧ A b = true
theorem KP_sk {kd gp ab L : Nat → Nat} {ps : Nat → Bool} {n : Nat} {set : Int32} : KP n (am gp L set) (sk kd gp ab L ps n set) := by
  intro a b h
  unfold sk at h
  simp only [Bool.and_eq_true, decide_eq_true_eq] at h
  exact ⟨h.1.1.1.1, h.1.1.1.2, h.1.1.2.1, h.1.1.2.2⟩
theorem anyB_f {p : Nat → Bool} {n : Nat} : anyB p n = false ↔ ∀ i, i < n → p i = false := by
  constructor
  · intro h i hi
    cases h2 : p i
    · rfl
    · rw [anyB_t.mpr ⟨i, hi, h2⟩] at h
      cases h
  · intro h
    cases h2 : anyB p n
    · rfl
    · obtain ⟨i, hi, h3⟩ := anyB_t.mp h2
      rw [h i hi] at h3
      cases h3
/-- who of the set strikes o -/
def hb (n : Nat) (K : Nat → Nat → Bool) (set : Int32) (o : Nat) : Bool := anyB (fun v => bt set v && K v o) n
def ansB (n : Nat) (K : Nat → Nat → Bool) (set : Int32) (w : Nat) : Bool := !(anyB (fun o => K o w && !(hb n K set o)) n)
def sdB (n : Nat) (A : Nat → Bool) (K : Nat → Nat → Bool) (set : Int32) : Bool := !(anyB (fun i => bt set i && !(decide (i < n) && A i)) 32) && !(anyB (fun w => bt set w && (hb n K set w || !(ansB n K set w))) n)
theorem sub_adm {n : Nat} {A : Nat → Bool} {p set : Int32} (hp : ∀ k, k < 32 → bt p k = (decide (k < n) && A k)) : (set &&& (p ^^^ (-1)) = 0) = (anyB (fun i => bt set i && !(decide (i < n) && A i)) 32 = false) := by
  apply propext
  rw [b_zero, anyB_f]
  constructor
  · intro h i hi
    have := h i hi
    rw [b_clr _ _ hi, hp i hi] at this
    exact this
  · intro h i hi
    rw [b_clr _ _ hi, hp i hi]
    exact h i hi
theorem hit_ok {M : Mem} {n : Nat} {A : Nat → Bool} {K : Nat → Nat → Bool} (h : Tc M n A K) (set : Int32) : F_X0_struckBy set M = some (un (M.2 14) set n, M) := by
  unfold F_X0_struckBy
  rw [union_ok h.1 h.2.1 rfl, bdS]
theorem anyB_c {p q : Nat → Bool} : ∀ {n : Nat}, (∀ i, i < n → p i = q i) → anyB p n = anyB q n := by
  intro n
  induction n with
  | zero => intro _; rfl
  | succ n ih =>
    intro h
    unfold anyB
    rw [ih (fun i hi => h i (by omega)), h n (by omega)]
theorem hit_b {M : Mem} {n : Nat} {A : Nat → Bool} {K : Nat → Nat → Bool} (h : Tc M n A K) (set : Int32) {o : Nat} (ho : o < 32) : bt (un (M.2 14) set n) o = hb n K set o := by
  rw [un_b]
  unfold hb
  have := h.1
  exact anyB_c (fun i hi => by rw [(h.2.2.2 i (by omega) o ho).1])
theorem stk_b {M : Mem} {n : Nat} {A : Nat → Bool} {K : Nat → Nat → Bool} (h : Tc M n A K) (set : Int32) {o : Nat} (ho : o < 32) : bt (un (M.2 15) set n) o = anyB (fun w => bt set w && K o w) n := by
  rw [un_b]
  have := h.1
  exact anyB_c (fun i hi => by rw [(h.2.2.2 i (by omega) o ho).2])
theorem afi_ok {M : Mem} {n : Nat} {A : Nat → Bool} {K : Nat → Nat → Bool} (h : Tc M n A K) (hK : KP n A K) (set : Int32) : F_X0_answersForItself set M = some (if sdB n A K set = true then 1 else 0, M) := by
  have hn := h.1
  unfold F_X0_answersForItself F_X0_answersForItself_45 sdB
  rw [hit_ok h, bdS, union_ok hn h.2.1 rfl, bdS]
  simp only [sub_adm h.2.2.1]
  cases c1 : anyB (fun i => bt set i && !(decide (i < n) && A i)) 32
  rotate_left
  · rfl
  rw [if_pos rfl, Bool.not_false, Bool.true_and]
  have hsub : ∀ i, i < 32 → bt set i = true → i < n := by
    intro i hi hb
    have := anyB_f.mp c1 i hi
    rw [hb, Bool.true_and] at this
    have h2 : (decide (i < n) && A i) = true := by
      cases hx : (decide (i < n) && A i)
      · rw [hx] at this; cases this
      · rfl
    rw [Bool.and_eq_true, decide_eq_true_eq] at h2
    exact h2.1
  by_cases c2 : un (M.2 14) set n &&& set = 0
  · rw [if_pos c2]
    have d2 : ∀ b, b < n → bt set b = true → hb n K set b = false := by
      intro b hb1 hb2
      have := (b_zero _).mp c2 b (by omega)
      rw [b_and, hit_b h set (by omega), hb2, Bool.and_true] at this
      exact this
    by_cases c3 : un (M.2 15) set n &&& (un (M.2 14) set n ^^^ (-1)) = 0
    · rw [if_pos c3, if_pos (by
        rw [Bool.not_eq_true', anyB_f]
        intro w hw
        cases hb1 : bt set w
        · rfl
        · rw [d2 w hw hb1, Bool.true_and, Bool.false_or, Bool.not_eq_false']
          unfold ansB
          rw [Bool.not_eq_true', anyB_f]
          intro o ho
          cases hk : K o w
          · rfl
          · have := (b_zero _).mp c3 o (by omega)
            rw [b_clr _ _ (by omega), hit_b h set (by omega), stk_b h set (by omega), anyB_t.mpr ⟨w, hw, by rw [hb1, hk]; rfl⟩, Bool.true_and] at this
            rw [this]
            rfl)]
    · rw [if_neg c3, if_neg (fun hc => c3 (by
        rw [Bool.not_eq_true', anyB_f] at hc
        rw [b_zero]
        intro o ho
        rw [b_clr _ _ ho, hit_b h set ho, stk_b h set ho]
        cases hx : anyB (fun w => bt set w && K o w) n
        · rfl
        · obtain ⟨w, hw, hk⟩ := anyB_t.mp hx
          rw [Bool.and_eq_true] at hk
          have h1 := hc w hw
          rw [hk.1, Bool.true_and, Bool.or_eq_false_iff, Bool.not_eq_false'] at h1
          have h2 := h1.2
          unfold ansB at h2
          rw [Bool.not_eq_true', anyB_f] at h2
          have h3 := h2 o (hK o w hk.2).1
          rw [hk.2, Bool.true_and] at h3
          exact h3))]
  · rw [if_neg c2, if_neg (fun hc => c2 (by
      rw [Bool.not_eq_true', anyB_f] at hc
      rw [b_zero]
      intro b hb1
      rw [b_and, hit_b h set hb1]
      cases hx : bt set b
      · rw [Bool.and_false]
      · have := hc b (hsub b hb1 hx)
        rw [hx, Bool.true_and, Bool.or_eq_false_iff] at this
        rw [this.1]
        rfl))]
/-! the model -/
theorem stm {M : Mem} {n : Nat} {A : Nat → Bool} {K : Nat → Nat → Bool} (h : Tm M n A K) (hK : KP n A K) (set : Int32) {o : Nat} (ho : o < n) : (M.2 34 o &&& set = 0) = (hb n K set o = false) := by
  have hn := h.1
  apply propext
  rw [b_zero]
  unfold hb
  rw [anyB_f]
  constructor
  · intro h1 v hv
    have := h1 v (by omega)
    rw [b_and, h.2.2.2 o ho v (by omega), Bool.and_comm] at this
    exact this
  · intro h1 v hv
    rw [b_and, h.2.2.2 o ho v hv]
    cases hk : K v o
    · rfl
    · have := h1 v (hK v o hk).1
      rw [hk, Bool.and_true] at this
      rw [this]
      rfl
theorem answers_ok {M : Mem} {n : Nat} {A : Nat → Bool} {K : Nat → Nat → Bool} (h : Tm M n A K) (hK : KP n A K) (set : Int32) {w : Nat} (hw : w < n) : F_X7_answers set (nI w) M = some (if ansB n K set w = true then 1 else 0, M) := by
  have hn := h.1
  have key : ∀ (d i m : Nat), i + d = n → d < m → anyB (fun o => K o w && !(hb n K set o)) i = false → F_X7_answers_2 m set (nI w) (nI i) M = some (if ansB n K set w = true then 1 else 0, M) := by
    intro d
    induction d with
    | zero =>
      intro i m hi hm ha
      obtain ⟨m, rfl⟩ : ∃ q, m = q + 1 := ⟨m - 1, by omega⟩
      obtain rfl : i = n := by omega
      unfold F_X7_answers_2 ansB
      rw [h.2.1, if_pos (by rw [nle (by omega) (by omega)]; omega), ha]
      rfl
    | succ d ih =>
      intro i m hi hm ha
      obtain ⟨m, rfl⟩ : ∃ q, m = q + 1 := ⟨m - 1, by omega⟩
      have ih := ih (i + 1) m (by omega) (by omega)
      rw [show anyB (fun o => K o w && !(hb n K set o)) (i + 1) = (anyB (fun o => K o w && !(hb n K set o)) i || (K i w && !(hb n K set i))) from rfl, ha, Bool.false_or] at ih
      unfold F_X7_answers_2 F_X7_answers_36
      rw [h.2.1, if_neg (by rw [nle (by omega) (by omega)]; omega), ckN (by omega) (by omega), ncl (by omega), has7 _ (by omega), bdS, h.2.2.2 w hw i (by omega), nI_s]
      simp only [ib]
      cases hk : K i w
      · rw [if_pos rfl]
        exact ih (by rw [hk]; rfl)
      rw [if_neg (by decide), ckN (by omega) (by omega), ncl (by omega)]
      simp only [stm h hK set (show i < n by omega)]
      cases h2 : hb n K set i
      · rw [if_pos rfl]
        unfold ansB
        rw [anyB_t.mpr ⟨i, by omega, by rw [hk, h2]; rfl⟩]
        rfl
      · rw [if_neg (by decide)]
        exact ih (by rw [hk, h2]; rfl)
  unfold F_X7_answers
  exact key n 0 fu (by omega) (by unfold fu; omega) rfl
theorem isSound_ok {M : Mem} {n : Nat} {A : Nat → Bool} {K : Nat → Nat → Bool} (h : Tm M n A K) (hK : KP n A K) (set : Int32) : F_X7_isSound set M = some (if sdB n A K set = true then 1 else 0, M) := by
  have hn := h.1
  have key : ∀ (d i m : Nat), i + d = n → d < m → anyB (fun w => bt set w && (hb n K set w || !(ansB n K set w))) i = false → F_X7_isSound_15 m set (nI i) M = some (if (!(anyB (fun w => bt set w && (hb n K set w || !(ansB n K set w))) n)) = true then 1 else 0, M) := by
    intro d
    induction d with
    | zero =>
      intro i m hi hm ha
      obtain ⟨m, rfl⟩ : ∃ q, m = q + 1 := ⟨m - 1, by omega⟩
      obtain rfl : i = n := by omega
      unfold F_X7_isSound_15
      rw [h.2.1, if_pos (by rw [nle (by omega) (by omega)]; omega), ha]
      rfl
    | succ d ih =>
      intro i m hi hm ha
      obtain ⟨m, rfl⟩ : ∃ q, m = q + 1 := ⟨m - 1, by omega⟩
      have ih := ih (i + 1) m (by omega) (by omega)
      rw [show anyB (fun w => bt set w && (hb n K set w || !(ansB n K set w))) (i + 1) = (anyB (fun w => bt set w && (hb n K set w || !(ansB n K set w))) i || (bt set i && (hb n K set i || !(ansB n K set i)))) from rfl, ha, Bool.false_or] at ih
      have hbad : (bt set i && (hb n K set i || !(ansB n K set i))) = true → anyB (fun w => bt set w && (hb n K set w || !(ansB n K set w))) n = true := fun hb => anyB_t.mpr ⟨i, by omega, hb⟩
      unfold F_X7_isSound_15 F_X7_isSound_53
      rw [h.2.1, if_neg (by rw [nle (by omega) (by omega)]; omega), has7 _ (by omega), bdS, nI_s]
      simp only [ib]
      cases h1 : bt set i
      · rw [if_pos rfl]
        exact ih (by rw [h1]; rfl)
      rw [if_neg (by decide), ckN (by omega) (by omega), ncl (by omega)]
      simp only [stm h hK set (show i < n by omega)]
      cases h2 : hb n K set i
      · rw [if_pos rfl, answers_ok h hK set (by omega), bdS]
        simp only [ib]
        cases h3 : ansB n K set i
        · rw [if_pos rfl, hbad (by rw [h1, h3, Bool.not_false, Bool.or_true]; rfl)]
          rfl
        · rw [if_neg (by decide)]
          exact ih (by rw [h1, h2, h3]; rfl)
      · rw [if_neg (by decide), hbad (by rw [h1, h2]; rfl)]
        rfl
  unfold F_X7_isSound sdB
  simp only [sub_adm h.2.2.1]
  cases c1 : anyB (fun i => bt set i && !(decide (i < n) && A i)) 32
  · rw [if_pos rfl, Bool.not_false, Bool.true_and]
    exact key n 0 fu (by omega) (by unfold fu; omega) rfl
  · rfl
/-! the least set -/
def gs (n : Nat) (A : Nat → Bool) (K : Nat → Nat → Bool) (set : Int32) : Nat → Int32
  | 0 => 0
  | k + 1 => if (A k && ansB n K set k) = true then gs n A K set k ||| one k else gs n A K set k
theorem gs_b {n : Nat} {A : Nat → Bool} {K : Nat → Nat → Bool} {set : Int32} {i : Nat} (hi : i < 32) : ∀ k, k ≤ 32 → bt (gs n A K set k) i = (decide (i < k) && (A i && ansB n K set i)) := by
  intro k
  induction k with
  | zero => intro _; rw [show gs n A K set 0 = 0 from rfl, b_0]; simp
  | succ k ih =>
    intro hk
    have ih := ih (by omega)
    rw [show gs n A K set (k + 1) = if (A k && ansB n K set k) = true then gs n A K set k ||| one k else gs n A K set k from rfl]
    by_cases e : i = k
    · subst e
      rw [decide_eq_true (show i < i + 1 by omega), Bool.true_and]
      rw [decide_eq_false (show ¬ i < i by omega), Bool.false_and] at ih
      cases h : (A i && ansB n K set i)
      · rw [if_neg (by decide), ih]
      · rw [if_pos rfl, b_or, b_one (by omega) hi, decide_eq_true rfl, Bool.or_true]
    · have e2 : decide (i < k + 1) = decide (i < k) := decide_eq_decide.mpr (by omega)
      rw [e2]
      split
      · rw [b_or, b_one (by omega) hi, decide_eq_false e, Bool.or_false, ih]
      · exact ih
theorem unstruck_ok {M : Mem} {n : Nat} {A : Nat → Bool} {K : Nat → Nat → Bool} (h : Tc M n A K) (hK : KP n A K) (set : Int32) : F_X0_unstruckBut (un (M.2 14) set n) M = some (gs n A K set n, M) := by
  have hn := h.1
  have key : ∀ (d i m : Nat), i + d = n → d < m → F_X0_unstruckBut_4 m (un (M.2 14) set n) (gs n A K set i) (nI i) M = some (gs n A K set n, M) := by
    intro d
    induction d with
    | zero =>
      intro i m hi hm
      obtain ⟨m, rfl⟩ : ∃ q, m = q + 1 := ⟨m - 1, by omega⟩
      obtain rfl : i = n := by omega
      unfold F_X0_unstruckBut_4
      rw [h.2.1, if_pos (by rw [nle (by omega) (by omega)]; omega)]
    | succ d ih =>
      intro i m hi hm
      obtain ⟨m, rfl⟩ : ∃ q, m = q + 1 := ⟨m - 1, by omega⟩
      have ih := ih (i + 1) m (by omega) (by omega)
      have hin : i < n := by omega
      rw [show gs n A K set (i + 1) = if (A i && ansB n K set i) = true then gs n A K set i ||| one i else gs n A K set i from rfl] at ih
      unfold F_X0_unstruckBut_4 F_X0_unstruckBut_45
      rw [h.2.1, if_neg (by rw [nle (by omega) (by omega)]; omega), ckN (by omega) (by omega), ncl (by omega), nI_s, show (1 : Int32) <<< (nI i &&& 31) = one i from rfl]
      simp only [b_tst0 _ (show i < 32 by omega)]
      rw [h.2.2.1 i (by omega), decide_eq_true hin, Bool.true_and]
      have h15 : (M.2 15 i &&& (un (M.2 14) set n ^^^ (-1)) = 0) = (ansB n K set i = true) := by
        apply propext
        rw [b_zero]
        unfold ansB
        rw [Bool.not_eq_true', anyB_f]
        constructor
        · intro h1 o ho
          have := h1 o (by omega)
          rw [b_clr _ _ (by omega), hit_b h set (by omega), (h.2.2.2 i (by omega) o (by omega)).2] at this
          exact this
        · intro h1 o ho
          rw [b_clr _ _ ho, hit_b h set ho, (h.2.2.2 i (by omega) o ho).2]
          cases hk : K o i
          · rfl
          · have := h1 o (hK o i hk).1
            rw [hk] at this
            exact this
      simp only [h15]
      cases h1 : A i
      · rw [if_pos rfl]
        rw [h1, Bool.false_and, if_neg (by decide)] at ih
        exact ih
      rw [if_neg (by decide)]
      rw [h1, Bool.true_and] at ih
      cases h2 : ansB n K set i
      · rw [if_neg (by decide)]
        rw [h2, if_neg (by decide)] at ih
        exact ih
      · rw [if_pos rfl]
        rw [h2, if_pos rfl] at ih
        exact ih
  unfold F_X0_unstruckBut
  exact key n 0 fu (by omega) (by unfold fu; omega)
theorem cnt_lt {p q : Nat → Bool} {n : Nat} : (∀ i, i < n → p i = true → q i = true) → (∃ i, i < n ∧ p i = false ∧ q i = true) → cnt p n < cnt q n := by
  have hle : ∀ m, (∀ i, i < m → p i = true → q i = true) → cnt p m ≤ cnt q m := by
    intro m
    induction m with
    | zero => intro _; exact Nat.le_refl _
    | succ m ih =>
      intro h
      rw [cnt_s, cnt_s]
      have := ih (fun i hi => h i (by omega))
      cases hp : p m
      · rw [if_neg (by decide)]; omega
      · rw [if_pos rfl, h m (by omega) hp, if_pos rfl]; omega
  induction n with
  | zero => intro _ ⟨i, hi, _⟩; exact absurd hi (by omega)
  | succ n ih =>
    intro h ⟨i, hi, h1, h2⟩
    rw [cnt_s, cnt_s]
    by_cases e : i = n
    · subst e
      have := hle i (fun k hk => h k (by omega))
      rw [h1, h2, if_neg (by decide), if_pos rfl]
      omega
    · have := ih (fun k hk => h k (by omega)) ⟨i, by omega, h1, h2⟩
      cases hp : p n
      · rw [if_neg (by decide)]; omega
      · rw [if_pos rfl, h n (by omega) hp, if_pos rfl]; omega
/-- sets that only grow come to an end -/
theorem grow_end {F : Int32 → Int32} {x : Nat → Int32} {n : Nat} (hx : ∀ k, x (k + 1) = F (x k)) (hup : ∀ k i, i < 32 → bt (x k) i = true → bt (x (k + 1)) i = true) (hin : ∀ k i, i < 32 → bt (x k) i = true → i < n) (hn : n ≤ 32) : x (n + 1) = x n := by
  have key : ∀ k, x (k + 1) = x k ∨ k + 1 ≤ cnt (bt (x (k + 1))) n := by
    intro k
    induction k with
    | zero =>
      by_cases h : x 1 = x 0
      · exact Or.inl h
      · right
        have := cnt_lt (p := bt (x 0)) (q := bt (x 1)) (n := n) (fun i hi => hup 0 i (by omega)) (by
          apply Classical.byContradiction
          intro hno
          exact h (b_ext (fun i hi => by
            cases h1 : bt (x 1) i
            · cases h0 : bt (x 0) i
              · rfl
              · rw [hup 0 i hi h0] at h1; cases h1
            · cases h0 : bt (x 0) i
              · exact absurd ⟨i, hin 1 i hi h1, h0, h1⟩ hno
              · rfl)))
        show 1 ≤ cnt (bt (x 1)) n
        omega
    | succ k ih =>
      by_cases h : x (k + 1 + 1) = x (k + 1)
      · exact Or.inl h
      · right
        have h2 : ¬ x (k + 1) = x k := fun e => h ((hx (k + 1)).trans ((congrArg F e).trans (hx k).symm))
        have h3 : k + 1 ≤ cnt (bt (x (k + 1))) n := by
          rcases ih with ih | ih
          · exact absurd ih h2
          · exact ih
        have := cnt_lt (p := bt (x (k + 1))) (q := bt (x (k + 1 + 1))) (n := n) (fun i hi => hup (k + 1) i (by omega)) (by
          apply Classical.byContradiction
          intro hno
          exact h (b_ext (fun i hi => by
            cases h1 : bt (x (k + 1 + 1)) i
            · cases h0 : bt (x (k + 1)) i
              · rfl
              · rw [hup (k + 1) i hi h0] at h1; cases h1
            · cases h0 : bt (x (k + 1)) i
              · exact absurd ⟨i, hin (k + 1 + 1) i hi h1, h0, h1⟩ hno
              · rfl)))
        omega
  rcases key n with h | h
  · exact h
  · have := cnt_le (bt (x (n + 1))) n
    omega
theorem grow_stay {F : Int32 → Int32} {x : Nat → Int32} (hx : ∀ k, x (k + 1) = F (x k)) {k : Nat} (h : x (k + 1) = x k) : ∀ d, x (k + d) = x k := by
  intro d
  induction d with
  | zero => rfl
  | succ d ih =>
    show x (k + d + 1) = x k
    rw [hx (k + d), ih, ← hx k, h]
def ls (n : Nat) (A : Nat → Bool) (K : Nat → Nat → Bool) : Nat → Int32
  | 0 => 0
  | k + 1 => ls n A K k ||| gs n A K (ls n A K k) n
theorem ansB_mono {n : Nat} {K : Nat → Nat → Bool} {s t : Int32} (h : ∀ i, i < n → bt s i = true → bt t i = true) {w : Nat} (hw : ansB n K s w = true) : ansB n K t w = true := by
  unfold ansB at hw ⊢
  rw [Bool.not_eq_true', anyB_f] at hw ⊢
  intro o ho
  have := hw o ho
  cases hk : K o w
  · rfl
  · rw [hk, Bool.true_and, Bool.not_eq_false'] at this
    unfold hb at this ⊢
    obtain ⟨v, hv, h1⟩ := anyB_t.mp this
    rw [Bool.and_eq_true] at h1
    rw [anyB_t.mpr ⟨v, hv, by rw [h v hv h1.1, h1.2]; rfl⟩]
    rfl
theorem ls_g {n : Nat} (hn : n ≤ 10) {A : Nat → Bool} {K : Nat → Nat → Bool} : ∀ k, gs n A K (ls n A K k) n = ls n A K (k + 1) := by
  have key : ∀ k, ∀ i, i < 32 → bt (ls n A K k) i = true → bt (gs n A K (ls n A K k) n) i = true := by
    intro k
    induction k with
    | zero => intro i hi h; rw [show ls n A K 0 = 0 from rfl, b_0] at h; cases h
    | succ k ih =>
      have e : ls n A K (k + 1) = gs n A K (ls n A K k) n := b_ext (fun i hi => by
        show bt (ls n A K k ||| gs n A K (ls n A K k) n) i = _
        rw [b_or]
        cases h : bt (ls n A K k) i
        · rfl
        · rw [ih i hi h]; rfl)
      intro i hi h
      rw [e, gs_b hi n (by omega), Bool.and_eq_true, Bool.and_eq_true] at h
      rw [gs_b hi n (by omega), h.1, h.2.1, ansB_mono (s := ls n A K k) (fun v hv hb => by rw [e]; exact ih v (by omega) hb) h.2.2]
      rfl
  intro k
  exact b_ext (fun i hi => by
    show _ = bt (ls n A K k ||| gs n A K (ls n A K k) n) i
    rw [b_or]
    cases h : bt (ls n A K k) i
    · rfl
    · rw [key k i hi h]; rfl)
theorem ls_in {n : Nat} (hn : n ≤ 10) {A : Nat → Bool} {K : Nat → Nat → Bool} : ∀ k i, i < 32 → bt (ls n A K k) i = true → i < n := by
  intro k
  cases k with
  | zero => intro i hi h; rw [show ls n A K 0 = 0 from rfl, b_0] at h; cases h
  | succ k =>
    intro i hi h
    rw [← ls_g hn, gs_b hi n (by omega), Bool.and_eq_true, decide_eq_true_eq] at h
    exact h.1
theorem ls_end {n : Nat} (hn : n ≤ 10) {A : Nat → Bool} {K : Nat → Nat → Bool} : ls n A K (n + 1) = ls n A K n := grow_end (F := fun s => s ||| gs n A K s n) (fun _ => rfl) (fun k i hi h => by show bt (ls n A K k ||| gs n A K (ls n A K k) n) i = true; rw [b_or, h]; rfl) (ls_in hn) (by omega)
theorem ls_stay {n : Nat} {A : Nat → Bool} {K : Nat → Nat → Bool} {k : Nat} (h : ls n A K (k + 1) = ls n A K k) : ∀ d, ls n A K (k + d) = ls n A K k := grow_stay (F := fun s => s ||| gs n A K s n) (fun _ => rfl) h
theorem least6 {M : Mem} {n : Nat} {A : Nat → Bool} {K : Nat → Nat → Bool} (h : Tc M n A K) (hK : KP n A K) : F_X0_leastSet M = some (ls n A K n, M) := by
  have hn := h.1
  have key : ∀ (d k m : Nat), k + d = n + 1 → d < m → F_X0_leastSet_4 m (ls n A K k) (nI k) M = some (ls n A K n, M) := by
    intro d
    induction d with
    | zero =>
      intro k m hk hm
      obtain ⟨m, rfl⟩ : ∃ q, m = q + 1 := ⟨m - 1, by omega⟩
      obtain rfl : k = n + 1 := by omega
      unfold F_X0_leastSet_4
      rw [h.2.1, if_pos (by rw [nlt (by omega) (by omega)]; omega), ls_end hn]
    | succ d ih =>
      intro k m hk hm
      obtain ⟨m, rfl⟩ : ∃ q, m = q + 1 := ⟨m - 1, by omega⟩
      unfold F_X0_leastSet_4
      rw [h.2.1, if_neg (by rw [nlt (by omega) (by omega)]; omega), hit_ok h, bdS, unstruck_ok h hK, bdS, ls_g hn, nI_s]
      by_cases e : ls n A K (k + 1) = ls n A K k
      · rw [if_pos e]
        have := ls_stay e (n - k)
        rw [show k + (n - k) = n by omega] at this
        rw [this]
      · rw [if_neg e]
        exact ih (k + 1) m (by omega) (by omega)
  unfold F_X0_leastSet
  exact key (n + 1) 0 fu (by omega) (by unfold fu; omega)
theorem ln13 {M : Mem} {n : Nat} {A : Nat → Bool} {K : Nat → Nat → Bool} (h : Tm M n A K) (hK : KP n A K) (k4 : Int32 → Int32 → Mem → Option (Int32 × Mem)) (set : Int32) : ∀ (d i m : Nat), i + d = n → d < m → F_X7_leastNow_13 k4 m set (set ||| gs n A K set i) (nI i) M = k4 (set ||| gs n A K set n) (if set ||| gs n A K set n = set then 0 else 1) M := by
  have hn := h.1
  intro d
  induction d with
  | zero =>
    intro i m hi hm
    obtain ⟨m, rfl⟩ : ∃ q, m = q + 1 := ⟨m - 1, by omega⟩
    obtain rfl : i = n := by omega
    unfold F_X7_leastNow_13 F_X7_leastNow_71
    rw [h.2.1, if_pos (by rw [nle (by omega) (by omega)]; omega)]
    split
    · rfl
    · rfl
  | succ d ih =>
    intro i m hi hm
    obtain ⟨m, rfl⟩ : ∃ q, m = q + 1 := ⟨m - 1, by omega⟩
    have ih := ih (i + 1) m (by omega) (by omega)
    have hin : i < n := by omega
    rw [show gs n A K set (i + 1) = if (A i && ansB n K set i) = true then gs n A K set i ||| one i else gs n A K set i from rfl] at ih
    unfold F_X7_leastNow_13 F_X7_leastNow_52 F_X7_leastNow_53
    rw [h.2.1, if_neg (by rw [nle (by omega) (by omega)]; omega), has7 _ (by omega), bdS, h.2.2.1 i (by omega), decide_eq_true hin, Bool.true_and, nI_s, or0, answers_ok h hK set hin, bdS, show (1 : Int32) <<< (nI i &&& 31) = one i from rfl]
    simp only [ib]
    cases h1 : A i
    · rw [if_pos rfl]
      rw [h1, Bool.false_and, if_neg (by decide)] at ih
      exact ih
    rw [if_neg (by decide)]
    rw [h1, Bool.true_and] at ih
    cases h2 : ansB n K set i
    · rw [if_pos rfl]
      rw [h2, if_neg (by decide)] at ih
      exact ih
    · rw [if_neg (by decide)]
      rw [h2, if_pos rfl] at ih
      rw [show set ||| gs n A K set i ||| one i = set ||| (gs n A K set i ||| one i) from b_ext (fun k hk => by rw [b_or, b_or, b_or, b_or, Bool.or_assoc])]
      exact ih
theorem least7 {M : Mem} {n : Nat} {A : Nat → Bool} {K : Nat → Nat → Bool} (h : Tm M n A K) (hK : KP n A K) : F_X7_leastNow M = some (ls n A K n, M) := by
  have hn := h.1
  have key : ∀ (d k m : Nat), k + d = n → d + 1 < m → F_X7_leastNow_4 m (ls n A K k) 1 M = some (ls n A K n, M) := by
    intro d
    induction d with
    | zero =>
      intro k m hk hm
      obtain ⟨m, rfl⟩ : ∃ q, m = q + 1 := ⟨m - 1, by omega⟩
      obtain ⟨m, rfl⟩ : ∃ q, m = q + 1 := ⟨m - 1, by omega⟩
      obtain rfl : k = n := by omega
      unfold F_X7_leastNow_4
      rw [if_neg (by decide)]
      have e := ln13 h hK (F_X7_leastNow_4 (m + 1)) (ls k A K k) k 0 fu (by omega) (by unfold fu; omega)
      rw [show ls k A K k ||| gs k A K (ls k A K k) 0 = ls k A K k from or0 _, show ls k A K k ||| gs k A K (ls k A K k) k = ls k A K (k + 1) from rfl, ls_end hn, if_pos rfl] at e
      refine Eq.trans e ?_
      unfold F_X7_leastNow_4
      rw [if_pos rfl]
    | succ d ih =>
      intro k m hk hm
      obtain ⟨m, rfl⟩ : ∃ q, m = q + 1 := ⟨m - 1, by omega⟩
      obtain ⟨m, rfl⟩ : ∃ q, m = q + 1 := ⟨m - 1, by omega⟩
      unfold F_X7_leastNow_4
      rw [if_neg (by decide)]
      have e := ln13 h hK (F_X7_leastNow_4 (m + 1)) (ls n A K k) n 0 fu (by omega) (by unfold fu; omega)
      rw [show ls n A K k ||| gs n A K (ls n A K k) 0 = ls n A K k from or0 _, show ls n A K k ||| gs n A K (ls n A K k) n = ls n A K (k + 1) from rfl] at e
      refine Eq.trans e ?_
      by_cases e2 : ls n A K (k + 1) = ls n A K k
      · rw [if_pos e2]
        unfold F_X7_leastNow_4
        rw [if_pos rfl, e2]
        have := ls_stay e2 (n - k)
        rw [show k + (n - k) = n by omega] at this
        rw [this]
      · rw [if_neg e2]
        exact ih (k + 1) (m + 1) (by omega) (by omega)
  unfold F_X7_leastNow
  exact key n 0 fu (by omega) (by unfold fu; omega)
