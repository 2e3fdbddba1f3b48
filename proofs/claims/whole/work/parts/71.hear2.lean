/-! the model hears -/
def h4 (M : Mem) (S : Int32 × Int32 × Int32) : Mem := sv (sv (sv M 44 S.1) 45 S.2.1) 46 S.2.2
theorem h4_2 (M : Mem) (S : Int32 × Int32 × Int32) : (h4 M S).2 = M.2 := rfl
theorem h4_3 (M : Mem) (S : Int32 × Int32 × Int32) : (h4 M S).1 44 = S.1 := rfl
theorem h4_4 (M : Mem) (S : Int32 × Int32 × Int32) : (h4 M S).1 45 = S.2.1 := rfl
theorem h4_5 (M : Mem) (S : Int32 × Int32 × Int32) : (h4 M S).1 46 = S.2.2 := rfl
theorem h4_40 (M : Mem) (S : Int32 × Int32 × Int32) : (h4 M S).1 40 = M.1 40 := rfl
theorem h4_42 (M : Mem) (S : Int32 × Int32 × Int32) : (h4 M S).1 42 = M.1 42 := rfl
theorem h4_43 (M : Mem) (S : Int32 × Int32 × Int32) : (h4 M S).1 43 = M.1 43 := rfl
theorem h4_s3 (M : Mem) (S : Int32 × Int32 × Int32) (x : Int32) : sv (h4 M S) 44 x = h4 M (x, S.2.1, S.2.2) := by
  unfold h4 sv
  apply Prod.ext
  · funext k
    simp only [va_up]
    by_cases h : k = 44
    · simp [h]
    · simp [h]
  · rfl
theorem h4_s4 (M : Mem) (S : Int32 × Int32 × Int32) (x : Int32) : sv (h4 M S) 45 x = h4 M (S.1, x, S.2.2) := by
  unfold h4 sv
  apply Prod.ext
  · funext k
    simp only [va_up]
    by_cases h : k = 45
    · simp [h]
    · simp [h]
  · rfl
theorem h4_s5 (M : Mem) (S : Int32 × Int32 × Int32) (x : Int32) : sv (h4 M S) 46 x = h4 M (S.1, S.2.1, x) := by
  unfold h4 sv
  apply Prod.ext
  · funext k
    simp only [va_up]
    by_cases h : k = 46
    · simp [h]
    · simp [h]
  · rfl
theorem h4_h4 (M : Mem) (S T : Int32 × Int32 × Int32) : h4 (h4 M S) T = h4 M T := by
  rw [show h4 (h4 M S) T = sv (sv (sv (h4 M S) 44 T.1) 45 T.2.1) 46 T.2.2 from rfl, h4_s3, h4_s4, h4_s5]
/-- what the model knows of its words -/
def MX (M : Mem) (n : Nat) (kd gp ab : Nat → Nat) (ps : Nat → Bool) : Prop := n ≤ 10 ∧ M.1 40 = nI n ∧ (∀ i, i < n → M.2 24 i = nI (kd i) ∧ M.2 25 i = nI (gp i) ∧ M.2 28 i = nI (ab i)) ∧ (∀ i, i < n → kd i < 3 ∧ 0 < gp i ∧ gp i < 1024 ∧ ab i < 100 ∧ (kd i ≠ 0 → ab i < i) ∧ (ps i = true → kd i = 2)) ∧ ∀ j, j < 32 → bt (M.1 42) j = (decide (j < n) && ps j)
theorem has7 (x : Int32) {k : Nat} (hk : k < 32) (M : Mem) : F_X7_has x (nI k) M = some (if bt x k = true then 1 else 0, M) := by
  unfold F_X7_has
  simp only [b_tst1 x hk]
  split <;> rfl
theorem ib {b : Bool} : ((if b = true then (1 : Int32) else 0) = 0) = (b = false) := by
  cases b <;> simp
theorem quar7 {M : Mem} {n : Nat} {kd gp ab : Nat → Nat} {ps : Nat → Bool} (hC : MX M n kd gp ab ps) {w o : Nat} (hw : w < n) (ho : o < n) (M' : Mem) (h24 : M'.2 24 = M.2 24) (h28 : M'.2 28 = M.2 28) : F_X7_quarrel (nI w) (nI o) M' = some (if foe kd ab w o = true then 1 else 0, M') := by
  have hn := hC.1
  obtain ⟨kw, -, aw⟩ := hC.2.2.1 w hw
  obtain ⟨ko, -, ao⟩ := hC.2.2.1 o ho
  obtain ⟨kw3, -, -, aw3, -⟩ := hC.2.2.2.1 w hw
  obtain ⟨ko3, -, -, ao3, -⟩ := hC.2.2.2.1 o ho
  unfold F_X7_quarrel F_X7_quarrel_20 F_X7_quarrel_40 F_X7_quarrel_44 foe
  rw [h24, h28]
  simp (disch := omega) only [ckN, ncl, kw, aw, ko, ao, nlit 1, neq]
  by_cases c1 : kd w = 1
  · by_cases c2 : ab w = o
    · simp [c1, c2]
    · by_cases c3 : kd o = 1
      · by_cases c4 : ab o = w
        · simp [c1, c2, c3, c4]
        · simp [c1, c2, c3, c4]
      · simp [c1, c2, c3]
  · by_cases c3 : kd o = 1
    · by_cases c4 : ab o = w
      · simp [c1, c3, c4]
      · simp [c1, c3, c4]
    · simp [c1, c3]
theorem undoes_ok {M : Mem} {n : Nat} {kd gp ab L : Nat → Nat} {ps : Nat → Bool} (hC : MX M n kd gp ab ps) (hB : LB L) {v : Nat} (hv : v < n) (S : Int32 × Int32 × Int32) : F_X7_undoes (nI v) (nI (L 2)) (h4 M S) = some (h4 M (und gp L v S)) := by
  have hn := hC.1
  obtain ⟨-, g1, -⟩ := hC.2.2.1 v hv
  have hc := hB.2.2.1
  unfold F_X7_undoes und
  simp only [h4_3, h4_s3, h4_4, h4_s4, h4_5, h4_2, h4_s5]
  rw [ckN (by omega) (by omega), ncl (by omega), g1]
  by_cases c : L 2 = 1
  · rw [if_neg (by rw [nlit 0, neq (by omega) (by omega)]; omega), if_pos c]
    rfl
  · rw [if_pos (by rw [show L 2 = 0 by omega]; rfl), if_neg c]
    rw [show S.2.2 ||| 0 = S.2.2 from b_ext (fun i hi => by rw [b_or, b_0, Bool.or_false])]
    rfl
theorem he386 {M : Mem} {n : Nat} {kd gp ab L : Nat → Nat} {ps : Nat → Bool} (hC : MX M n kd gp ab ps) (hB : LB L) (k80 : Int32 → Int32 → Int32 → Int32 → Int32 → Mem → Option Mem) (x2 x3 x5 x6 : Int32) {w : Nat} (hw : w < n) (S : Int32 × Int32 × Int32) : ∀ (d i m : Nat), i + d = n → d < m → F_X7_hears_386 k80 m x2 x3 (nI (L 2)) x5 x6 (nI w) (if anyB (fun o => bt S.1 o && ps o && decide (ab o = w)) i = true then 1 else 0) (nI i) (h4 M S) = k80 x2 x3 (nI (L 2)) x5 (x6 + 1) (h4 M (if anyB (fun o => bt S.1 o && ps o && decide (ab o = w)) n = true then und gp L w S else S)) := by
  have hn := hC.1
  intro d
  induction d with
  | zero =>
    intro i m hi hm
    obtain ⟨m, rfl⟩ : ∃ q, m = q + 1 := ⟨m - 1, by omega⟩
    obtain rfl : i = n := by omega
    unfold F_X7_hears_386 F_X7_hears_462
    rw [h4_40, hC.2.1, if_pos (by rw [nle (by omega) (by omega)]; omega)]
    cases anyB (fun o => bt S.1 o && ps o && decide (ab o = w)) i
    · rfl
    · rw [if_pos rfl, if_neg (by decide), undoes_ok hC hB hw, bdvS, if_pos rfl]
  | succ d ih =>
    intro i m hi hm
    obtain ⟨m, rfl⟩ : ∃ q, m = q + 1 := ⟨m - 1, by omega⟩
    have ih := ih (i + 1) m (by omega) (by omega)
    have hin : i < n := by omega
    obtain ⟨-, -, ai⟩ := hC.2.2.1 i hin
    obtain ⟨-, -, -, a3, -⟩ := hC.2.2.2.1 i hin
    unfold F_X7_hears_386 F_X7_hears_440 F_X7_hears_436 F_X7_hears_441
    rw [h4_40, hC.2.1, if_neg (by rw [nle (by omega) (by omega)]; omega)]
    rw [show anyB (fun o => bt S.1 o && ps o && decide (ab o = w)) (i + 1) = (anyB (fun o => bt S.1 o && ps o && decide (ab o = w)) i || (bt S.1 i && ps i && decide (ab i = w))) from rfl] at ih
    cases hx : anyB (fun o => bt S.1 o && ps o && decide (ab o = w)) i
    · rw [hx, Bool.false_or] at ih
      rw [if_pos (show (if false = true then (1 : Int32) else 0) = 0 from rfl), has7 _ (by omega), bdS, h4_3]
      simp only [ib]
      cases h1 : bt S.1 i
      · rw [if_pos rfl, nI_s]
        rw [h1] at ih
        exact ih
      · rw [if_neg (by decide), has7 _ (by omega), bdS, h4_42, hC.2.2.2.2 i (by omega), decide_eq_true hin, Bool.true_and]
        simp only [ib]
        cases h2 : ps i
        · rw [if_pos rfl, nI_s]
          rw [h1, h2] at ih
          exact ih
        · rw [if_neg (by decide), ckN (by omega) (by omega), ncl (by omega), h4_2, ai]
          rw [h1, h2] at ih
          by_cases h3 : ab i = w
          · rw [if_pos (by rw [h3]), nI_s]
            rw [decide_eq_true h3] at ih
            exact ih
          · rw [if_neg (by rw [neq (by omega) (by omega)]; exact h3), nI_s]
            rw [decide_eq_false h3] at ih
            exact ih
    · rw [hx, Bool.true_or] at ih
      rw [if_pos rfl, if_neg (by decide), nI_s]
      exact ih
theorem b_two (s : Int32) (w o : Nat) : s &&& (one w ^^^ (-1)) &&& (one o ^^^ (-1)) = s &&& ((one o ||| one w) ^^^ (-1)) := by
  apply b_ext
  intro i hi
  rw [b_clr _ _ hi, b_clr _ _ hi, b_clr _ _ hi, b_or]
  cases bt s i <;> cases bt (one w) i <;> cases bt (one o) i <;> rfl
/-- the model's step of a quarrel -/
theorem he246 {M : Mem} {L : Nat → Nat} (hB : LB L) (k80 : Int32 → Int32 → Int32 → Int32 → Int32 → Mem → Option Mem) (k164 : Int32 → Int32 → Int32 → Int32 → Int32 → Int32 → Int32 → Int32 → Mem → Option Mem) (x2 x4 x5 x6 x8 : Int32) (w o a b : Nat) (ha : a ≤ 10) (hb : b ≤ 10) (S : Int32 × Int32 × Int32) : (if nI (L 1) = 0 then F_X7_hears_246 k80 k164 x2 (nI (L 1)) x4 x5 x6 (nI w) x8 (nI o) (nI a) (nI b) (h4 M S) else if nI (L 1) = 2 then if nI a = nI b then F_X7_hears_246 k80 k164 x2 (nI (L 1)) x4 x5 x6 (nI w) x8 (nI o) (nI a) (nI b) (h4 M S) else F_X7_hears_250 k80 k164 x2 (nI (L 1)) x4 x5 x6 (nI w) x8 (nI o) (nI a) (nI b) (h4 M S) else F_X7_hears_250 k80 k164 x2 (nI (L 1)) x4 x5 x6 (nI w) x8 (nI o) (nI a) (nI b) (h4 M S)) = k164 x2 (nI (L 1)) x4 x5 x6 (nI w) x8 (nI (o + 1)) (h4 M (S.1 &&& (fl (L 1) a b w o ^^^ (-1)), S.2.1, S.2.2)) := by
  have hc := hB.2.1
  unfold F_X7_hears_246 F_X7_hears_250 F_X7_hears_251 F_X7_hears_270 F_X7_hears_285 F_X7_hears_302 F_X7_hears_317
  simp only [h4_3, h4_s3, nI_s]
  rw [show ∀ k : Nat, (1 : Int32) <<< (nI k &&& 31) = one k from fun _ => rfl, show ∀ k : Nat, (1 : Int32) <<< (nI k &&& 31) = one k from fun _ => rfl, b_two]
  unfold fl
  have e0 : (nI (L 1) = 0) = (L 1 = 0) := by rw [nlit 0, neq (by omega) (by omega)]
  have e1 : (nI (L 1) = 1) = (L 1 = 1) := by rw [nlit 1, neq (by omega) (by omega)]
  have e2 : (nI (L 1) = 2) = (L 1 = 2) := by rw [nlit 2, neq (by omega) (by omega)]
  have e3 : (nI a = nI b) = (a = b) := neq (by omega) (by omega)
  have e4 : (nI b ≤ nI a) = (b ≤ a) := nle (by omega) (by omega)
  have e5 : (nI a ≤ nI b) = (a ≤ b) := nle (by omega) (by omega)
  have i10' : ¬ (1 : Int32) = 0 := by decide
  simp only [e0, e1, e2, e3, e4, e5, if_neg i10', reduceIte]
  rcases (show L 1 = 0 ∨ L 1 = 1 ∨ L 1 = 2 by omega) with c | c | c
  · simp only [c, reduceIte, Nat.reduceEqDiff]
  · simp only [c, reduceIte, Nat.reduceEqDiff]
  · simp only [c, reduceIte, Nat.reduceEqDiff]
    by_cases c1 : a = b
    · simp only [c1, reduceIte]
    · by_cases c2 : a < b
      · simp only [if_neg c1, if_neg (show ¬ b ≤ a by omega), if_pos (show a ≤ b by omega), if_pos c2]
      · simp only [if_neg c1, if_pos (show b ≤ a by omega), if_neg (show ¬ a ≤ b by omega), if_neg c2]
/-- the model's quarrels and what comes behind them -/
theorem he164 {M : Mem} {n : Nat} {kd gp ab L : Nat → Nat} {ps : Nat → Bool} (hC : MX M n kd gp ab ps) (hB : LB L) (k80 : Int32 → Int32 → Int32 → Int32 → Int32 → Mem → Option Mem) (x2 x5 x6 : Int32) {w : Nat} (hw : w < n) (bef s0 u o : Int32) : ∀ (d i m : Nat), i + d = n → d < m → F_X7_hears_164 k80 m x2 (nI (L 1)) (nI (L 2)) x5 x6 (nI w) bef (nI i) (h4 M (qf kd gp ab L bef w s0 i, u, o)) = k80 x2 (nI (L 1)) (nI (L 2)) x5 (x6 + 1) (h4 M (bels gp ab L ps n w (qf kd gp ab L bef w s0 n, u, o))) := by
  have hn := hC.1
  intro d
  induction d with
  | zero =>
    intro i m hi hm
    obtain ⟨m, rfl⟩ : ∃ q, m = q + 1 := ⟨m - 1, by omega⟩
    obtain rfl : i = n := by omega
    obtain ⟨-, -, aw⟩ := hC.2.2.1 w hw
    obtain ⟨-, -, -, -, a2, a3⟩ := hC.2.2.2.1 w hw
    obtain ⟨S, hS⟩ : ∃ S, S = (qf kd gp ab L bef w s0 i, u, o) := ⟨_, rfl⟩
    rw [← hS]
    have hno : F_X7_hears_380 k80 x2 (nI (L 1)) (nI (L 2)) x5 x6 (nI w) (h4 M S) = k80 x2 (nI (L 1)) (nI (L 2)) x5 (x6 + 1) (h4 M (if anyB (fun o => bt S.1 o && ps o && decide (ab o = w)) i = true then und gp L w S else S)) := by
      unfold F_X7_hears_380
      exact he386 hC hB k80 x2 (nI (L 1)) x5 x6 hw S i 0 fu (by omega) (by unfold fu; omega)
    unfold F_X7_hears_164
    rw [h4_40, hC.2.1, if_pos (by rw [nle (by omega) (by omega)]; omega), has7 _ (by omega), bdS, h4_3]
    simp only [ib]
    unfold bels
    cases h1 : bt S.1 w
    · rw [if_pos rfl, if_neg (by decide)]
      rfl
    rw [if_neg (by decide), has7 _ (by omega), bdS, h4_42, hC.2.2.2.2 w (by omega), decide_eq_true hw, Bool.true_and, if_pos rfl]
    simp only [ib]
    cases h2 : ps w
    · rw [if_pos rfl, hno]
      rfl
    have haw : ab w < w := a2 (by have := a3 h2; omega)
    rw [if_neg (by decide), ckN (by omega) (by omega), h4_2, ncl (by omega), aw, h4_3, has7 _ (by omega), bdS]
    simp only [ib]
    rw [Bool.true_and]
    cases h3 : bt S.1 (ab w)
    · rw [if_pos rfl, hno]
      rfl
    · rw [if_neg (by decide), h4_2, aw, ckN (by omega) (by omega), undoes_ok hC hB (by omega), bdvS]
      rfl
  | succ d ih =>
    intro i m hi hm
    obtain ⟨m, rfl⟩ : ∃ q, m = q + 1 := ⟨m - 1, by omega⟩
    have ih := ih (i + 1) m (by omega) (by omega)
    have hin : i < n := by omega
    obtain ⟨-, gw, -⟩ := hC.2.2.1 w hw
    obtain ⟨-, gi, -⟩ := hC.2.2.1 i hin
    rw [show qf kd gp ab L bef w s0 (i + 1) = qst kd gp ab L bef w i (qf kd gp ab L bef w s0 i) from rfl] at ih
    unfold qst at ih
    obtain ⟨s, hs⟩ : ∃ s, s = qf kd gp ab L bef w s0 i := ⟨_, rfl⟩
    rw [← hs] at ih ⊢
    unfold F_X7_hears_164
    rw [h4_40, hC.2.1, if_neg (by rw [nle (by omega) (by omega)]; omega), has7 _ (by omega), bdS]
    simp only [ib]
    cases h1 : bt bef i
    · rw [if_pos rfl]
      unfold F_X7_hears_317
      rw [nI_s]
      rw [h1] at ih
      exact ih
    rw [if_neg (by decide), has7 _ (by omega), bdS, h4_3]
    simp only [ib]
    cases h2 : bt s w
    · rw [if_pos rfl]
      unfold F_X7_hears_317
      rw [nI_s]
      rw [h1, h2] at ih
      exact ih
    rw [if_neg (by decide), quar7 hC hw hin (h4 M (s, u, o)) rfl rfl, bdS]
    simp only [ib]
    cases h3 : foe kd ab w i
    · rw [if_pos rfl]
      unfold F_X7_hears_317
      rw [nI_s]
      rw [h1, h2, h3] at ih
      exact ih
    rw [if_neg (by decide), ckN (by omega) (by omega), ncl (by omega), h4_2, gw, ones_ok, bdS, h4_2, ckN (by omega) (by omega), ncl (by omega), gi, ones_ok, bdS]
    rw [he246 hB k80 (F_X7_hears_164 k80 m) x2 (nI (L 2)) x5 x6 bef w i _ _ (pc_le _) (pc_le _)]
    rw [h1, h2, h3, if_pos (show (true && true && true) = true from rfl)] at ih
    exact ih
/-- words of an order, heard -/
def hf (kd gp ab L : Nat → Nat) (ps : Nat → Bool) (n : Nat) (od : Nat → Nat) : Nat → Int32 × Int32 × Int32
  | 0 => (0, 0, 0)
  | k + 1 => hst kd gp ab L ps n (od k) (hf kd gp ab L ps n od k)
theorem he80 {M : Mem} {n : Nat} {kd gp ab L : Nat → Nat} {ps : Nat → Bool} (hC : MX M n kd gp ab ps) (hB : LB L) {od : Nat → Nat} {q : Nat} (hq : q ≤ 10) (h43 : M.1 43 = nI q) (hod : ∀ k, k < q → od k < n ∧ M.2 33 k = nI (od k)) : ∀ (d i m : Nat), i + d = q → d < m → F_X7_hears_80 m (nI (L 0)) (nI (L 1)) (nI (L 2)) (nI (L 3)) (nI i) (h4 M (hf kd gp ab L ps n od i)) = some (h4 M (hf kd gp ab L ps n od q)) := by
  have hn := hC.1
  intro d
  induction d with
  | zero =>
    intro i m hi hm
    obtain ⟨m, rfl⟩ : ∃ x, m = x + 1 := ⟨m - 1, by omega⟩
    obtain rfl : i = q := by omega
    unfold F_X7_hears_80
    rw [h4_43, h43, if_pos (by rw [nle (by omega) (by omega)]; omega)]
  | succ d ih =>
    intro i m hi hm
    obtain ⟨m, rfl⟩ : ∃ x, m = x + 1 := ⟨m - 1, by omega⟩
    have ih := ih (i + 1) m (by omega) (by omega)
    obtain ⟨ho, hw⟩ := hod i (by omega)
    obtain ⟨-, gw, -⟩ := hC.2.2.1 (od i) ho
    obtain ⟨-, -, gw2, -⟩ := hC.2.2.2.1 (od i) ho
    rw [show hf kd gp ab L ps n od (i + 1) = hst kd gp ab L ps n (od i) (hf kd gp ab L ps n od i) from rfl] at ih
    obtain ⟨S, hS⟩ : ∃ S, S = hf kd gp ab L ps n od i := ⟨_, rfl⟩
    rw [← hS] at ih ⊢
    obtain ⟨s, u, o⟩ := S
    have hsk : F_X7_hears_462 (F_X7_hears_80 m) (nI (L 0)) (nI (L 1)) (nI (L 2)) (nI (L 3)) (nI i) (h4 M (s, u, o)) = F_X7_hears_80 m (nI (L 0)) (nI (L 1)) (nI (L 2)) (nI (L 3)) (nI (i + 1)) (h4 M (s, u, o)) := by
      unfold F_X7_hears_462
      rw [nI_s]
    have hyes : F_X7_hears_142 (F_X7_hears_80 m) (nI (L 0)) (nI (L 1)) (nI (L 2)) (nI (L 3)) (nI i) (nI (od i)) (h4 M (s, u, o)) = F_X7_hears_80 m (nI (L 0)) (nI (L 1)) (nI (L 2)) (nI (L 3)) (nI (i + 1)) (h4 M (bels gp ab L ps n (od i) (qf kd gp ab L s (od i) (s ||| one (od i)) n, u, o))) := by
      unfold F_X7_hears_142
      rw [h4_3, h4_s3, ← nI_s i]
      exact he164 hC hB (F_X7_hears_80 m) (nI (L 0)) (nI (L 3)) (nI i) ho s (s ||| one (od i)) u o n 0 fu (by omega) (by unfold fu; omega)
    have hp := pc_le (nI (gp (od i)) &&& (o ^^^ (-1)))
    have hB0 := hB.1
    have hB3 := hB.2.2.2
    unfold F_X7_hears_80
    rw [h4_43, h43, if_neg (by rw [nle (by omega) (by omega)]; omega), ckN (by omega) (by omega), ncl (by omega), h4_2, hw, ckN (by omega) (by omega), ncl (by omega), gw, h4_5, ones_ok, bdS, hsk, hyes]
    rw [h4_2, gw, h4_5]
    unfold hst able at ih
    rw [show ((s, u, o) : Int32 × Int32 × Int32).2.2 = o from rfl] at ih ⊢
    obtain ⟨P, hP⟩ : ∃ P, P = pc (nI (gp (od i)) &&& (o ^^^ (-1))) := ⟨_, rfl⟩
    rw [← hP] at ih hp ⊢
    by_cases c1 : P < L 0
    · rw [if_pos (by rw [nlt (by omega) (by omega)]; exact c1)]
      rw [decide_eq_true c1] at ih
      exact ih
    rw [if_neg (by rw [nlt (by omega) (by omega)]; exact c1)]
    rw [decide_eq_false c1, Bool.not_false, Bool.true_and] at ih
    by_cases c2 : L 3 = 0
    · rw [if_pos (by rw [c2]; rfl), ckN (by omega) (by omega)]
      rw [decide_eq_true c2, Bool.not_true, Bool.false_or] at ih
      by_cases c3 : nI (gp (od i)) &&& o = 0
      · rw [if_pos c3]
        rw [decide_eq_true c3, if_pos rfl] at ih
        exact ih
      · rw [if_neg c3]
        rw [decide_eq_false c3, if_neg (by decide)] at ih
        exact ih
    · rw [if_neg (by rw [nlit 0, neq (by omega) (by omega)]; exact c2)]
      rw [decide_eq_false c2, Bool.not_false, Bool.true_or, if_pos rfl] at ih
      exact ih
def LY (M : Mem) (j : Nat) (L : Nat → Nat) : Prop := ∀ w, w < 4 → M.2 32 (4 * j + w) = nI (L w)
theorem hears_ok {M : Mem} {n j : Nat} {kd gp ab L : Nat → Nat} {ps : Nat → Bool} (hC : MX M n kd gp ab ps) (hj : j < 2) (hL : LY M j L) (hB : LB L) {od : Nat → Nat} {q : Nat} (hq : q ≤ 10) (h43 : M.1 43 = nI q) (hod : ∀ k, k < q → od k < n ∧ M.2 33 k = nI (od k)) : F_X7_hears (nI j) M = some (h4 M (hf kd gp ab L ps n od q)) := by
  have hB2 := hB.2.2.1
  have hB3 := hB.2.2.2
  have l0 : M.2 32 (4 * j) = nI (L 0) := hL 0 (by omega)
  have key : F_X7_hears_60 (nI (L 0)) (nI (L 1)) (nI (L 2)) (nI (L 3)) M = some (h4 M (hf kd gp ab L ps n od q)) := by
    unfold F_X7_hears_60
    exact he80 hC hB hq h43 hod q 0 fu (by omega) (by unfold fu; omega)
  have k39 : F_X7_hears_39 (nI j) (nI (L 0)) (nI (L 1)) (nI (L 2)) M = some (h4 M (hf kd gp ab L ps n od q)) := by
    unfold F_X7_hears_39
    rw [nlit 4, pk_mul, nlit 3, nI_add, ckN (by omega) (by omega), ncl (by omega), hL 3 (by omega)]
    rcases (show L 3 = 0 ∨ L 3 = 1 by omega) with c | c
    · rw [if_neg (by rw [c]; decide), show (0 : Int32) = nI (L 3) by rw [c]; rfl, key]
    · rw [if_pos (by rw [c]; rfl), show (1 : Int32) = nI (L 3) by rw [c]; rfl, key]
  unfold F_X7_hears
  rw [nlit 4, pk_mul, nlit 2, nI_add, ckN (by omega) (by omega), nI_s, ckN (by omega) (by omega), ckN (by omega) (by omega), ncl (by omega), ncl (by omega), ncl (by omega), hL 2 (by omega), hL 1 (by omega), l0]
  rcases (show L 2 = 0 ∨ L 2 = 1 by omega) with c | c
  · rw [if_neg (by rw [c]; decide), show (0 : Int32) = nI (L 2) by rw [c]; rfl, k39]
  · rw [if_pos (by rw [c]; rfl), show (1 : Int32) = nI (L 2) by rw [c]; rfl, k39]
