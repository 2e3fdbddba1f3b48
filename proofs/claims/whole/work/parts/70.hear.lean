/-! words heard in an order: what it says, and the class -/
theorem nI_s (i : Nat) : nI i + 1 = nI (i + 1) := nI_add ..
def able (gp L : Nat → Nat) (w : Nat) (o : Int32) : Bool := !(decide (pc (nI (gp w) &&& (o ^^^ (-1))) < L 0)) && (!(decide (L 3 = 0)) || decide (nI (gp w) &&& o = 0))
def fl (c a b w o : Nat) : Int32 := if c = 1 then one w else if c = 0 then one o ||| one w else if a = b then one o ||| one w else if a < b then one w else one o
def qst (kd gp ab L : Nat → Nat) (bef : Int32) (w o : Nat) (s : Int32) : Int32 := if (bt bef o && bt s w && foe kd ab w o) = true then s &&& (fl (L 1) (pc (nI (gp w))) (pc (nI (gp o))) w o ^^^ (-1)) else s
def qf (kd gp ab L : Nat → Nat) (bef : Int32) (w : Nat) (s : Int32) : Nat → Int32
  | 0 => s
  | k + 1 => qst kd gp ab L bef w k (qf kd gp ab L bef w s k)
def anyB (p : Nat → Bool) : Nat → Bool
  | 0 => false
  | k + 1 => anyB p k || p k
theorem anyB_t {p : Nat → Bool} : ∀ {n : Nat}, anyB p n = true ↔ ∃ i, i < n ∧ p i = true := by
  intro n
  induction n with
  | zero => exact ⟨fun h => Bool.noConfusion h, fun ⟨i, hi, _⟩ => absurd hi (by omega)⟩
  | succ n ih =>
    unfold anyB
    rw [Bool.or_eq_true, ih]
    constructor
    · rintro (⟨i, hi, h⟩ | h)
      · exact ⟨i, by omega, h⟩
      · exact ⟨n, by omega, h⟩
    · rintro ⟨i, hi, h⟩
      rcases Nat.lt_or_ge i n with h2 | h2
      · exact Or.inl ⟨i, h2, h⟩
      · exact Or.inr (by rw [show n = i by omega]; exact h)
/-- one is undone -/
def und (gp L : Nat → Nat) (v : Nat) (S : Int32 × Int32 × Int32) : Int32 × Int32 × Int32 := (S.1 &&& (one v ^^^ (-1)), S.2.1 ||| one v, if L 2 = 1 then S.2.2 ||| nI (gp v) else S.2.2)
def bels (gp ab L : Nat → Nat) (ps : Nat → Bool) (n w : Nat) (S : Int32 × Int32 × Int32) : Int32 × Int32 × Int32 := if bt S.1 w = true then (if (ps w && bt S.1 (ab w)) = true then und gp L (ab w) S else if anyB (fun o => bt S.1 o && ps o && decide (ab o = w)) n = true then und gp L w S else S) else S
def hst (kd gp ab L : Nat → Nat) (ps : Nat → Bool) (n w : Nat) (S : Int32 × Int32 × Int32) : Int32 × Int32 × Int32 := if able gp L w S.2.2 = true then bels gp ab L ps n w (qf kd gp ab L S.1 w (S.1 ||| one w) n, S.2.1, S.2.2) else S
def h3 (M : Mem) (S : Int32 × Int32 × Int32) : Mem := sv (sv (sv M 3 S.1) 4 S.2.1) 5 S.2.2
theorem h3_2 (M : Mem) (S : Int32 × Int32 × Int32) : (h3 M S).2 = M.2 := rfl
theorem h3_3 (M : Mem) (S : Int32 × Int32 × Int32) : (h3 M S).1 3 = S.1 := rfl
theorem h3_4 (M : Mem) (S : Int32 × Int32 × Int32) : (h3 M S).1 4 = S.2.1 := rfl
theorem h3_5 (M : Mem) (S : Int32 × Int32 × Int32) : (h3 M S).1 5 = S.2.2 := rfl
theorem h3_0 (M : Mem) (S : Int32 × Int32 × Int32) : (h3 M S).1 0 = M.1 0 := rfl
theorem h3_o (M : Mem) (S : Int32 × Int32 × Int32) {k : Nat} (h : 5 < k) : (h3 M S).1 k = M.1 k := by
  unfold h3
  rw [sv_o _ _ (by omega), sv_o _ _ (by omega), sv_o _ _ (by omega)]
theorem h3_s3 (M : Mem) (S : Int32 × Int32 × Int32) (x : Int32) : sv (h3 M S) 3 x = h3 M (x, S.2.1, S.2.2) := by
  unfold h3 sv
  apply Prod.ext
  · funext k
    simp only [va_up]
    by_cases h : k = 3
    · simp [h]
    · simp [h]
  · rfl
theorem h3_s4 (M : Mem) (S : Int32 × Int32 × Int32) (x : Int32) : sv (h3 M S) 4 x = h3 M (S.1, x, S.2.2) := by
  unfold h3 sv
  apply Prod.ext
  · funext k
    simp only [va_up]
    by_cases h : k = 4
    · simp [h]
    · simp [h]
  · rfl
theorem h3_s5 (M : Mem) (S : Int32 × Int32 × Int32) (x : Int32) : sv (h3 M S) 5 x = h3 M (S.1, S.2.1, x) := by
  unfold h3 sv
  apply Prod.ext
  · funext k
    simp only [va_up]
    by_cases h : k = 5
    · simp [h]
    · simp [h]
  · rfl
/-- what the class knows of its words and of a law -/
def CX (M : Mem) (n : Nat) (kd gp ab : Nat → Nat) (ps : Nat → Bool) : Prop := n ≤ 10 ∧ M.1 0 = nI n ∧ (∀ i, i < n → M.2 2 i = nI (kd i) ∧ M.2 3 i = nI (gp i) ∧ M.2 4 i = nI (pc (nI (gp i))) ∧ M.2 7 i = nI (ab i)) ∧ (∀ i, i < n → kd i < 3 ∧ 0 < gp i ∧ gp i < 1024 ∧ ab i < 100 ∧ (kd i ≠ 0 → ab i < i) ∧ (ps i = true → kd i = 2)) ∧ (∀ i, i < 10 → ∀ j, j < 32 → bt (M.2 8 i) j = (decide (i < n) && decide (j < n) && foe kd ab i j)) ∧ (∀ a, a < 10 → ∀ j, j < 32 → bt (M.2 9 a) j = (decide (a < n) && ps a && decide (j = ab a))) ∧ (∀ a, a < 10 → ∀ j, j < 32 → bt (M.2 10 a) j = (decide (j < n) && ps j && decide (ab j = a))) ∧ ∀ j, j < 32 → bt (M.1 2) j = (decide (j < n) && ps j)
theorem CX_of {M : Mem} {n : Nat} {kd gp tn hr ab : Nat → Nat} (h : CWx M n kd gp tn hr ab) : CX M n kd gp ab (psb kd tn hr ab (wys M)) := by
  obtain ⟨hW, hq, hP, hgs, hF⟩ := h
  refine ⟨hW.1, hW.2.1, fun i hi => ?_, fun i hi => ?_, hF, hP.2.1, hP.2.2, hP.1⟩
  · obtain ⟨⟨a1, -, -⟩, ⟨b1, -, -⟩, -, -, ⟨e1, -, -⟩⟩ := hW.2.2.2 i hi
    exact ⟨a1, b1, hgs i hi, e1⟩
  · obtain ⟨⟨a1, -, a2⟩, ⟨b1, -, b2, b3⟩, -, -, ⟨e1, -, e2, e3⟩⟩ := hW.2.2.2 i hi
    refine ⟨a2, b2, b3, ?_, e3, fun h => ?_⟩
    · by_cases h0 : kd i = 0
      · exact e2 h0
      · have := e3 h0
        have := hW.1
        omega
    · unfold psb at h
      rw [Bool.and_eq_true, decide_eq_true_eq] at h
      exact h.1
def LX (M : Mem) (j : Nat) (L : Nat → Nat) : Prop := ∀ w, w < 4 → M.1 (10 + 6 * j + 2 + w) = nI (L w)
def LB (L : Nat → Nat) : Prop := (1 ≤ L 0 ∧ L 0 ≤ 4) ∧ L 1 ≤ 2 ∧ L 2 ≤ 1 ∧ L 3 ≤ 1
theorem and_hi {g : Nat} (h : g < 1024) (x : Int32) : ∀ i, i < 32 → 10 ≤ i → bt (nI g &&& x) i = false := fun i hi h10 => by rw [b_and, gbits h i hi h10, Bool.false_and]
theorem able_ok {M : Mem} {n j : Nat} {kd gp ab L : Nat → Nat} {ps : Nat → Bool} (hC : CX M n kd gp ab ps) (hL : LX M j L) (hB : LB L) (S : Int32 × Int32 × Int32) {w : Nat} (hw : w < n) : F_X1_isAble j (nI w) (h3 M S) = some (if able gp L w S.2.2 = true then 1 else 0, h3 M S) := by
  have hn := hC.1
  obtain ⟨-, g1, -, -⟩ := hC.2.2.1 w hw
  obtain ⟨-, -, g2, -⟩ := hC.2.2.2.1 w hw
  have hp := pc_le (nI (gp w) &&& (S.2.2 ^^^ (-1)))
  have h28 : F_X1_isAble_28 j (nI (gp w)) (h3 M S) = some (if pc (nI (gp w) &&& (S.2.2 ^^^ (-1))) < L 0 then 0 else 1, h3 M S) := by
    unfold F_X1_isAble_28
    rw [h3_5, bitCount_ok (and_hi g2 _), bdS, h3_o M S (by omega), show M.1 (10 + 6 * j + 2) = nI (L 0) from hL 0 (by omega)]
    have := hB.1
    simp (disch := omega) only [nlt]
    split <;> rfl
  unfold F_X1_isAble able
  rw [ckN (by omega) (by omega), ncl (by omega), h3_o M S (by omega), show M.1 (10 + 6 * j + 5) = nI (L 3) from hL 3 (by omega), h3_2, g1, h28, h3_5]
  have h3' := hB.2.2.2
  obtain ⟨P, hP⟩ : ∃ P, P = pc (nI (gp w) &&& (S.2.2 ^^^ (-1))) := ⟨_, rfl⟩
  rw [← hP]
  by_cases c1 : L 3 = 0
  · rw [if_pos (by rw [c1]; rfl), decide_eq_true c1]
    by_cases c2 : nI (gp w) &&& S.2.2 = 0
    · rw [if_pos c2, decide_eq_true c2]
      by_cases c3 : P < L 0
      · rw [if_pos c3, decide_eq_true c3]; rfl
      · rw [if_neg c3, decide_eq_false c3]; rfl
    · rw [if_neg c2, decide_eq_false c2, show (!true || false) = false from rfl, Bool.and_false]
      rfl
  · rw [if_neg (by rw [nlit 0, neq (by omega) (by omega)]; exact c1), decide_eq_false c1]
    by_cases c3 : P < L 0
    · rw [if_pos c3, decide_eq_true c3]; rfl
    · rw [if_neg c3, decide_eq_false c3]; rfl
theorem dif_k : ∀ a, a < 11 → ∀ b, b < 11 → (nI b - nI a = 0) = (a = b) ∧ (nI b - nI a ≤ 0) = (b ≤ a) := by
  have h : ∀ a, a < 11 → ∀ b, b < 11 → decide (nI b - nI a = 0) = decide (a = b) ∧ decide (nI b - nI a ≤ 0) = decide (b ≤ a) := by decide +kernel
  intro a ha b hb
  exact ⟨propext (decide_eq_decide.mp (h a ha b hb).1), propext (decide_eq_decide.mp (h a ha b hb).2)⟩
theorem fallen_ok {M : Mem} {n j : Nat} {kd gp ab L : Nat → Nat} {ps : Nat → Bool} (hC : CX M n kd gp ab ps) (hL : LX M j L) (hB : LB L) (S : Int32 × Int32 × Int32) {w o : Nat} (hw : w < n) (ho : o < n) : F_X1_fallen j (nI o) (nI w) (h3 M S) = some (fl (L 1) (pc (nI (gp w))) (pc (nI (gp o))) w o, h3 M S) := by
  have hn := hC.1
  obtain ⟨-, -, gw, -⟩ := hC.2.2.1 w hw
  obtain ⟨-, -, go, -⟩ := hC.2.2.1 o ho
  have p1 := pc_le (nI (gp w))
  have p2 := pc_le (nI (gp o))
  have hc := hB.2.1
  unfold F_X1_fallen fl
  rw [h3_o M S (by omega), show M.1 (10 + 6 * j + 3) = nI (L 1) from hL 1 (by omega), ckN (by omega) (by omega), ckN (by omega) (by omega), ncl (by omega), ncl (by omega), h3_2, gw, go]
  obtain ⟨d1, d2⟩ := dif_k (pc (nI (gp w))) (by omega) (pc (nI (gp o))) (by omega)
  simp only [d1, d2]
  by_cases c1 : L 1 = 1
  · rw [if_pos (by rw [c1]; rfl), if_pos c1]
    rfl
  rw [if_neg (by rw [nlit 1, neq (by omega) (by omega)]; exact c1), if_neg c1]
  by_cases c0 : L 1 = 0
  · rw [if_pos (by rw [c0]; rfl), if_pos c0]
    rfl
  rw [if_neg (by rw [nlit 0, neq (by omega) (by omega)]; exact c0), if_neg c0]
  by_cases e1 : pc (nI (gp w)) = pc (nI (gp o))
  · rw [if_pos e1, if_pos e1]
    rfl
  rw [if_neg e1, if_neg e1]
  by_cases e2 : pc (nI (gp o)) ≤ pc (nI (gp w))
  · rw [if_pos e2, if_neg (by omega)]
    rfl
  · rw [if_neg e2, if_pos (by omega)]
    rfl
theorem qf_stop {kd gp ab L : Nat → Nat} {bef : Int32} {w : Nat} {s : Int32} {i : Nat} : ∀ {d : Nat}, (bt (qf kd gp ab L bef w s i) w = false ∨ ∀ o, i ≤ o → o < i + d → (bt bef o && foe kd ab w o) = false) → qf kd gp ab L bef w s (i + d) = qf kd gp ab L bef w s i := by
  intro d
  induction d with
  | zero => intro _; rfl
  | succ d ih =>
    intro h
    have ih := ih (by
      rcases h with h | h
      · exact Or.inl h
      · exact Or.inr (fun o h1 h2 => h o h1 (by omega)))
    show qst kd gp ab L bef w (i + d) (qf kd gp ab L bef w s (i + d)) = _
    rw [ih]
    unfold qst
    rcases h with h | h
    · rw [if_neg (by rw [h]; simp)]
    · have := h (i + d) (by omega) (by omega)
      rw [if_neg (by
        intro h2
        rw [Bool.and_eq_true, Bool.and_eq_true] at h2
        rw [h2.1.1, h2.2] at this
        cases this)]
theorem shr0 {x : Int32} {k : Nat} (hk : k < 32) (h : x >>> (nI k &&& 31) = 0) : ∀ i, k ≤ i → i < 32 → bt x i = false := by
  intro i hi hi2
  have := (b_zero _).mp h (i - k) (by omega)
  rw [b_sshr k hk x (by omega), if_pos (by omega), show k + (i - k) = i by omega] at this
  exact this
theorem foe_self {M : Mem} {n : Nat} {kd gp ab : Nat → Nat} {ps : Nat → Bool} (hC : CX M n kd gp ab ps) {w : Nat} (hw : w < n) : foe kd ab w w = false := by
  obtain ⟨-, -, -, -, h, -⟩ := hC.2.2.2.1 w hw
  unfold foe
  rw [Bool.or_self]
  by_cases h1 : kd w = 1
  · have := h (by omega)
    rw [decide_eq_false (show ¬ ab w = w by omega), Bool.and_false]
  · rw [decide_eq_false h1, Bool.false_and]
theorem qu18 {M : Mem} {n j : Nat} {kd gp ab L : Nat → Nat} {ps : Nat → Bool} (hC : CX M n kd gp ab ps) (hL : LX M j L) (hB : LB L) {w : Nat} (hw : w < n) (bef s0 u o F : Int32) (hF : ∀ i, i < 32 → bt F i = (decide (i < n) && (bt bef i && foe kd ab w i))) : ∀ (d i m : Nat), i + d = n → d < m → F_X1_quarrel_18 j m (nI w) F (nI i) (h3 M (qf kd gp ab L bef w s0 i, u, o)) = some (h3 M (qf kd gp ab L bef w s0 n, u, o)) := by
  have hn := hC.1
  intro d
  induction d with
  | zero =>
    intro i m hi hm
    obtain ⟨m, rfl⟩ : ∃ q, m = q + 1 := ⟨m - 1, by omega⟩
    obtain rfl : i = n := by omega
    unfold F_X1_quarrel_18
    rw [h3_0, hC.2.1, if_pos (by rw [nle (by omega) (by omega)]; omega)]
  | succ d ih =>
    intro i m hi hm
    obtain ⟨m, rfl⟩ : ∃ q, m = q + 1 := ⟨m - 1, by omega⟩
    unfold F_X1_quarrel_18 F_X1_quarrel_76
    rw [h3_0, hC.2.1, if_neg (by rw [nle (by omega) (by omega)]; omega), h3_3]
    by_cases c1 : F >>> (nI i &&& 31) = 0
    · rw [if_pos c1]
      have := qf_stop (kd := kd) (gp := gp) (ab := ab) (L := L) (bef := bef) (w := w) (s := s0) (i := i) (d := d + 1) (Or.inr (fun q h1 h2 => by
        have h3 := shr0 (by omega) c1 q h1 (by omega)
        rw [hF q (by omega), decide_eq_true (by omega), Bool.true_and] at h3
        exact h3))
      rw [show i + (d + 1) = n by omega] at this
      rw [this]
    rw [if_neg c1]
    simp only [b_tst0 _ (show w < 32 by omega), b_tst0 _ (show i < 32 by omega)]
    by_cases c2 : bt (qf kd gp ab L bef w s0 i) w = false
    · rw [if_pos c2]
      have := qf_stop (kd := kd) (gp := gp) (ab := ab) (L := L) (bef := bef) (w := w) (s := s0) (i := i) (d := d + 1) (Or.inl c2)
      rw [show i + (d + 1) = n by omega] at this
      rw [this]
    rw [if_neg c2, hF i (by omega), decide_eq_true (show i < n by omega), Bool.true_and]
    have c2' : bt (qf kd gp ab L bef w s0 i) w = true := by simpa using c2
    by_cases c3 : (bt bef i && foe kd ab w i) = false
    · rw [if_pos c3, nI_s]
      have e : qf kd gp ab L bef w s0 (i + 1) = qf kd gp ab L bef w s0 i := qf_stop (d := 1) (Or.inr (fun q h1 h2 => by rw [show q = i by omega]; exact c3))
      rw [← e]
      exact ih (i + 1) m (by omega) (by omega)
    · rw [if_neg c3, fallen_ok hC hL hB _ hw (show i < n by omega), bdS, h3_s3, nI_s]
      have e : qf kd gp ab L bef w s0 (i + 1) = qf kd gp ab L bef w s0 i &&& (fl (L 1) (pc (nI (gp w))) (pc (nI (gp i))) w i ^^^ (-1)) := by
        show qst kd gp ab L bef w i (qf kd gp ab L bef w s0 i) = _
        unfold qst
        rw [if_pos (by
          have : (bt bef i && foe kd ab w i) = true := by simpa using c3
          rw [Bool.and_eq_true] at this
          rw [this.1, this.2, c2']
          rfl)]
      rw [← e]
      exact ih (i + 1) m (by omega) (by omega)
theorem quarrel_ok {M : Mem} {n j : Nat} {kd gp ab L : Nat → Nat} {ps : Nat → Bool} (hC : CX M n kd gp ab ps) (hL : LX M j L) (hB : LB L) {w : Nat} (hw : w < n) (s u o : Int32) : F_X1_quarrel j (nI w) (h3 M (s ||| one w, u, o)) = some (h3 M (qf kd gp ab L s w (s ||| one w) n, u, o)) := by
  have hn := hC.1
  unfold F_X1_quarrel
  rw [ckN (by omega) (by omega), ncl (by omega), h3_2, h3_3]
  refine qu18 hC hL hB hw s (s ||| one w) u o _ (fun i hi => ?_) n 0 fu (by omega) (by unfold fu; omega)
  rw [b_and, hC.2.2.2.2.1 w (by omega) i hi, decide_eq_true hw, Bool.true_and, b_or, b_one (by omega) hi]
  by_cases e : i = w
  · subst e
    rw [foe_self hC hw]
    simp
  · rw [decide_eq_false e, Bool.or_false]
    cases decide (i < n) <;> cases foe kd ab w i <;> cases bt s i <;> rfl
theorem undo_ok {M : Mem} {n j : Nat} {kd gp ab L : Nat → Nat} {ps : Nat → Bool} (hC : CX M n kd gp ab ps) (hL : LX M j L) (hB : LB L) {v : Nat} (hv : v < n) (S : Int32 × Int32 × Int32) : F_X1_undo j (nI v) (h3 M S) = some (h3 M (und gp L v S)) := by
  have hn := hC.1
  obtain ⟨-, g1, -, -⟩ := hC.2.2.1 v hv
  have hc := hB.2.2.1
  unfold F_X1_undo und
  simp only [h3_3, h3_s3, h3_4, h3_s4, h3_5, h3_2, h3_s5]
  rw [h3_o _ _ (by omega), show M.1 (10 + 6 * j + 4) = nI (L 2) from hL 2 (by omega), ckN (by omega) (by omega), ncl (by omega), g1]
  by_cases c : L 2 = 1
  · rw [if_pos (by rw [c]; rfl), if_pos c]
    rfl
  · rw [if_neg (by rw [nlit 1, neq (by omega) (by omega)]; exact c), if_neg c]
    rfl
theorem bels_ok {M : Mem} {n j : Nat} {kd gp ab L : Nat → Nat} {ps : Nat → Bool} (hC : CX M n kd gp ab ps) (hL : LX M j L) (hB : LB L) {w : Nat} (hw : w < n) (S : Int32 × Int32 × Int32) : F_X1_beElsewhere j (nI w) (h3 M S) = some (h3 M (bels gp ab L ps n w S)) := by
  have hn := hC.1
  obtain ⟨-, -, -, a1⟩ := hC.2.2.1 w hw
  obtain ⟨-, -, -, -, a2, a3⟩ := hC.2.2.2.1 w hw
  unfold F_X1_beElsewhere bels
  rw [ckN (by omega) (by omega), ckN (by omega) (by omega), ckN (by omega) (by omega), ncl (by omega), h3_2, h3_3, a1]
  simp only [b_tst0 _ (show w < 32 by omega)]
  cases h1 : bt S.1 w
  · rfl
  rw [if_neg (by decide), if_pos rfl]
  by_cases c : (ps w && bt S.1 (ab w)) = true
  · rw [Bool.and_eq_true] at c
    have haw : ab w < w := a2 (by have := a3 c.1; omega)
    rw [if_neg (fun h => by
      have h2 := (b_zero _).mp h (ab w) (by omega)
      rw [b_and, hC.2.2.2.2.2.1 w (by omega) (ab w) (by omega), decide_eq_true hw, c.1, c.2, decide_eq_true rfl] at h2
      cases h2), undo_ok hC hL hB (show ab w < n by omega), bdvS, if_pos (by rw [c.1, c.2]; rfl)]
  · rw [if_neg c, if_pos ((b_zero _).mpr (fun i hi => by
      rw [b_and, hC.2.2.2.2.2.1 w (by omega) i hi, decide_eq_true hw, Bool.true_and]
      by_cases e : i = ab w
      · subst e
        rw [decide_eq_true rfl, Bool.and_true]
        simpa using c
      · rw [decide_eq_false e, Bool.and_false, Bool.false_and]))]
    by_cases c2 : anyB (fun o => bt S.1 o && ps o && decide (ab o = w)) n = true
    · rw [if_pos c2, if_neg (fun h => by
        obtain ⟨i, hi, h2⟩ := anyB_t.mp c2
        rw [Bool.and_eq_true, Bool.and_eq_true] at h2
        have h3 := (b_zero _).mp h i (by omega)
        rw [b_and, hC.2.2.2.2.2.2.1 w (by omega) i (by omega), decide_eq_true hi, h2.1.1, h2.1.2, h2.2] at h3
        cases h3), undo_ok hC hL hB hw, bdvS]
    · rw [if_neg c2, if_pos ((b_zero _).mpr (fun i hi => by
        rw [b_and, hC.2.2.2.2.2.2.1 w (by omega) i hi]
        by_cases hin : i < n
        · cases hx : (decide (i < n) && ps i && decide (ab i = w) && bt S.1 i)
          · rfl
          · exact absurd (anyB_t.mpr ⟨i, hin, by
              rw [Bool.and_eq_true, Bool.and_eq_true, Bool.and_eq_true] at hx
              rw [hx.2, hx.1.1.2, hx.1.2]
              rfl⟩) c2
        · rw [decide_eq_false hin]
          rfl))]
/-- the class hears a word -/
theorem hear_ok {M : Mem} {n j : Nat} {kd gp ab L : Nat → Nat} {ps : Nat → Bool} (hC : CX M n kd gp ab ps) (hL : LX M j L) (hB : LB L) {w : Nat} (hw : w < n) (S : Int32 × Int32 × Int32) : F_X1_hearNext j (nI w) (h3 M S) = some (h3 M (hst kd gp ab L ps n w S)) := by
  unfold F_X1_hearNext hst
  rw [able_ok hC hL hB S hw, bdS]
  cases h : able gp L w S.2.2
  · rfl
  · rw [if_pos rfl, if_neg (by decide), if_pos rfl, h3_3, h3_s3]
    have e := quarrel_ok hC hL hB hw S.1 S.2.1 S.2.2
    unfold one at e
    rw [e, bdvS]
    have e2 := bels_ok hC hL hB hw (qf kd gp ab L S.1 w (S.1 ||| one w) n, S.2.1, S.2.2)
    unfold one at e2
    rw [e2, bdvS]
    rfl
def bnf (kd gp ab L : Nat → Nat) (ps : Nat → Bool) (n : Nat) (set : Int32) : Nat → Int32 × Int32 × Int32
  | 0 => (0, 0, 0)
  | k + 1 => if bt set k = true then hst kd gp ab L ps n k (bnf kd gp ab L ps n set k) else bnf kd gp ab L ps n set k
theorem bn6 {M : Mem} {n j : Nat} {kd gp ab L : Nat → Nat} {ps : Nat → Bool} (hC : CX M n kd gp ab ps) (hL : LX M j L) (hB : LB L) (set : Int32) : ∀ (d i m : Nat), i + d = n → d < m → F_X1_byNumbers_6 j m set (nI i) (h3 M (bnf kd gp ab L ps n set i)) = some (h3 M (bnf kd gp ab L ps n set n)) := by
  have hn := hC.1
  intro d
  induction d with
  | zero =>
    intro i m hi hm
    obtain ⟨m, rfl⟩ : ∃ q, m = q + 1 := ⟨m - 1, by omega⟩
    obtain rfl : i = n := by omega
    unfold F_X1_byNumbers_6
    rw [h3_0, hC.2.1, if_pos (by rw [nle (by omega) (by omega)]; omega)]
  | succ d ih =>
    intro i m hi hm
    obtain ⟨m, rfl⟩ : ∃ q, m = q + 1 := ⟨m - 1, by omega⟩
    have ih := ih (i + 1) m (by omega) (by omega)
    unfold F_X1_byNumbers_6 F_X1_byNumbers_31
    rw [h3_0, hC.2.1, if_neg (by rw [nle (by omega) (by omega)]; omega)]
    simp only [b_tst0 _ (show i < 32 by omega)]
    rw [nI_s]
    rw [show bnf kd gp ab L ps n set (i + 1) = if bt set i = true then hst kd gp ab L ps n i (bnf kd gp ab L ps n set i) else bnf kd gp ab L ps n set i from rfl] at ih
    cases h : bt set i
    · rw [if_pos rfl]
      rw [h, if_neg (by decide)] at ih
      exact ih
    · rw [if_neg (by decide), hear_ok hC hL hB (by omega), bdvS]
      rw [h, if_pos rfl] at ih
      exact ih
theorem byN_ok {M : Mem} {n j : Nat} {kd gp ab L : Nat → Nat} {ps : Nat → Bool} (hC : CX M n kd gp ab ps) (hL : LX M j L) (hB : LB L) (set : Int32) : F_X1_byNumbers j set M = some (h3 M (bnf kd gp ab L ps n set n)) := by
  unfold F_X1_byNumbers F_X1_begin
  rw [bdvS]
  exact bn6 hC hL hB set n 0 fu (by omega) (by have := hC.1; unfold fu; omega)
