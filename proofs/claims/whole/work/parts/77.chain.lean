/-! chains -/
theorem nI_p {w : Nat} (h : 0 < w) (h2 : w < 2147483648) : nI w + (-1) = nI (w - 1) := by
  rw [← Int32.sub_eq_add_neg]
  exact psub h
theorem and_one {x : Int32} {w : Nat} (hw : w < 32) : (x &&& one w = 0) = (bt x w = false) := by
  apply propext
  rw [b_zero]
  constructor
  · intro h
    have := h w hw
    rw [b_and, b_one hw hw, decide_eq_true rfl, Bool.and_true] at this
    exact this
  · intro h i hi
    rw [b_and, b_one hw hi]
    by_cases e : i = w
    · subst e; rw [h]; rfl
    · rw [decide_eq_false e, Bool.and_false]
def cst (ab : Nat → Nat) (q : Nat → Bool) (n : Nat) : Nat → Nat → Int32
  | 0 => fun _ => 0
  | k + 1 => if q (n - 1 - k) = true then upd (cst ab q n k) (ab (n - 1 - k)) (if cst ab q n k (ab (n - 1 - k)) < cst ab q n k (n - 1 - k) + 1 then cst ab q n k (n - 1 - k) + 1 else cst ab q n k (ab (n - 1 - k))) else cst ab q n k
theorem cst_n {ab : Nat → Nat} {q : Nat → Bool} {n k w : Nat} (hw : w = n - 1 - k) (h : q w = false) : cst ab q n (k + 1) = cst ab q n k := by
  subst hw
  exact if_neg (by rw [h]; decide)
theorem cst_y {ab : Nat → Nat} {q : Nat → Bool} {n k w : Nat} (hw : w = n - 1 - k) (h : q w = true) : cst ab q n (k + 1) = upd (cst ab q n k) (ab w) (if cst ab q n k (ab w) < cst ab q n k w + 1 then cst ab q n k w + 1 else cst ab q n k (ab w)) := by
  subst hw
  exact if_pos h
theorem cst_stop {ab : Nat → Nat} {q : Nat → Bool} {n x : Nat} (hx : x < n) (hab : ∀ w, w < n → q w = true → ab w < w) : ∀ d, n - 1 - x + d ≤ n - 1 → cst ab q n (n - 1 - x + d) x = cst ab q n (n - 1 - x) x := by
  intro d
  induction d with
  | zero => intro _; rfl
  | succ d ih =>
    intro hd
    rw [← ih (by omega)]
    show (if q (n - 1 - (n - 1 - x + d)) = true then upd (cst ab q n (n - 1 - x + d)) (ab (n - 1 - (n - 1 - x + d))) _ else cst ab q n (n - 1 - x + d)) x = _
    split
    · next h =>
      have := hab _ (by omega) h
      rw [upd_n (by omega)]
    · rfl
theorem ch20 {M : Mem} {n x : Nat} {kd gp ab : Nat → Nat} {ps : Nat → Bool} {kp : Int32} {L : Nat → Nat → Nat} (hC : Cx M n kd gp ab ps kp L) (hx : x < n) : ∀ (d k m : Nat) (f : Nat → Int32), k + d = n - 1 - x → d < m → (∀ i, i < 10 → f i = cst ab (fun w => ps w && !(bt kp w)) n k i) → ∃ f', F_X5_longestChain_20 m (nI x) (hon n kp) (nI (n - 1 - k)) (sr M 11 f) = some (cst ab (fun w => ps w && !(bt kp w)) n (n - 1 - x) x, sr M 11 f') := by
  have hn := hC.1.1
  intro d
  induction d with
  | zero =>
    intro k m f hk hm hf
    obtain ⟨m, rfl⟩ : ∃ q, m = q + 1 := ⟨m - 1, by omega⟩
    obtain rfl : k = n - 1 - x := by omega
    refine ⟨f, ?_⟩
    unfold F_X5_longestChain_20
    rw [if_pos (by rw [nle (by omega) (by omega)]; omega), ckN (by omega) (by omega), ncl (by omega), show (sr M 11 f).2 11 = f from rfl, hf x (by omega)]
  | succ d ih =>
    intro k m f hk hm hf
    obtain ⟨m, rfl⟩ : ∃ q, m = q + 1 := ⟨m - 1, by omega⟩
    obtain ⟨w, hw⟩ : ∃ w, w = n - 1 - k := ⟨_, rfl⟩
    have hwn : w < n := by omega
    have ih := fun f => ih (k + 1) m f (by omega) (by omega)
    rw [show n - 1 - (k + 1) = w - 1 by omega] at ih
    rw [← hw]
    obtain ⟨-, -, -, a1⟩ := hC.1.2.2.1 w hwn
    obtain ⟨-, -, -, -, a2, a3⟩ := hC.1.2.2.2.1 w hwn
    unfold F_X5_longestChain_20 F_X5_longestChain_71
    rw [if_neg (by rw [nle (by omega) (by omega)]; omega), show (1 : Int32) <<< (nI w &&& 31) = one w from rfl, nI_p (by omega) (by omega)]
    simp only [and_one (show w < 32 by omega)]
    rw [b_and, show (sr M 11 f).1 2 = M.1 2 from rfl, hC.1.2.2.2.2.2.2.2 w (by omega), hon_b hn kp (by omega), decide_eq_true hwn, Bool.true_and, Bool.true_and]
    cases hq : (ps w && !(bt kp w))
    · rw [if_pos rfl]
      rw [cst_n hw hq] at ih
      exact ih f hf
    · rw [if_neg (by decide)]
      rw [cst_y hw hq] at ih
      rw [Bool.and_eq_true] at hq
      have haw : ab w < w := a2 (by have := a3 hq.1; omega)
      rw [show (sr M 11 f).2 7 = M.2 7 from rfl, ncl (show w < 2147483648 by omega), a1, ckN (show w < 10 by omega) (by omega), ckN (show w < 10 by omega) (by omega), ckN (show ab w < 10 by omega) (by omega), ckN (show w < 10 by omega) (by omega), ckN (show ab w < 10 by omega) (by omega), ncl (show ab w < 2147483648 by omega), show (sr M 11 f).2 11 = f from rfl, sa_sr, sr_sr, show (sr M 11 f).2 11 = f from rfl]
      refine ih _ (fun i hi => ?_)
      rw [hf (ab w) (by omega), hf w (by omega)]
      by_cases e : i = ab w
      · rw [e, upd_s, upd_s]
      · rw [upd_n e, upd_n e]
        exact hf i hi
theorem ch45 {M : Mem} {n x : Nat} {kd gp ab : Nat → Nat} {ps : Nat → Bool} {kp : Int32} {L : Nat → Nat → Nat} (hC : Cx M n kd gp ab ps kp L) (h42 : M.1 42 = M.1 2) (hx : x < n) : ∀ (d k m : Nat) (f : Nat → Int32), k + d = n - 1 → d < m → (∀ i, i < n → f i = cst ab (fun w => ps w && !(bt kp w)) n k i) → ∃ f', F_X7_chain_45 m (nI x) (nI (n - 1 - k)) (sr M 36 f) = some (cst ab (fun w => ps w && !(bt kp w)) n (n - 1) x, sr M 36 f') := by
  have hn := hC.1.1
  intro d
  induction d with
  | zero =>
    intro k m f hk hm hf
    obtain ⟨m, rfl⟩ : ∃ q, m = q + 1 := ⟨m - 1, by omega⟩
    obtain rfl : k = n - 1 := by omega
    refine ⟨f, ?_⟩
    unfold F_X7_chain_45
    rw [if_pos (by rw [nlit 0, nle (by omega) (by omega)]; omega), ckN (by omega) (by omega), ncl (by omega), show (sr M 36 f).2 36 = f from rfl, hf x (by omega)]
  | succ d ih =>
    intro k m f hk hm hf
    obtain ⟨m, rfl⟩ : ∃ q, m = q + 1 := ⟨m - 1, by omega⟩
    obtain ⟨w, hw⟩ : ∃ w, w = n - 1 - k := ⟨_, rfl⟩
    have hwn : w < n := by omega
    have ih := fun f => ih (k + 1) m f (by omega) (by omega)
    rw [show n - 1 - (k + 1) = w - 1 by omega] at ih
    rw [← hw]
    obtain ⟨-, -, a1⟩ := hC.2.1.2 w hwn
    obtain ⟨-, -, -, -, a2, a3⟩ := hC.1.2.2.2.1 w hwn
    unfold F_X7_chain_45 F_X7_chain_112
    rw [if_neg (by rw [nlit 0, nle (by omega) (by omega)]; omega), has7 _ (by omega), bdS, nI_p (by omega) (by omega), show (sr M 36 f).1 42 = M.1 2 from h42, hC.1.2.2.2.2.2.2.2 w (by omega), decide_eq_true hwn, Bool.true_and]
    simp only [ib]
    cases h1 : ps w
    · rw [if_pos rfl]
      rw [cst_n hw (show (ps w && !(bt kp w)) = false by rw [h1]; rfl)] at ih
      exact ih f hf
    rw [if_neg (by decide), has7 _ (by omega), bdS, show (sr M 36 f).1 41 = kp from hC.2.2.1.2.1]
    simp only [ib]
    cases h2 : bt kp w
    rotate_left
    · rw [if_neg (by decide)]
      rw [cst_n hw (show (ps w && !(bt kp w)) = false by rw [h1, h2]; rfl)] at ih
      exact ih f hf
    rw [if_pos rfl]
    rw [cst_y hw (show (ps w && !(bt kp w)) = true by rw [h1, h2]; rfl)] at ih
    have haw : ab w < w := a2 (by have := a3 h1; omega)
    rw [show (sr M 36 f).2 28 = M.2 28 from rfl, ncl (show w < 2147483648 by omega), a1, ckN (show w < 10 by omega) (by omega), ckN (show w < 10 by omega) (by omega), ckN (show ab w < 10 by omega) (by omega), ckN (show w < 10 by omega) (by omega), ckN (show w < 10 by omega) (by omega), ckN (show ab w < 10 by omega) (by omega), ncl (show ab w < 2147483648 by omega), show (sr M 36 f).2 36 = f from rfl, sa_sr, sr_sr, show (sr M 36 f).2 36 = f from rfl]
    by_cases h3 : f w + 1 ≤ f (ab w)
    · rw [if_pos h3]
      refine ih f (fun i hi => ?_)
      rw [← hf w hwn, ← hf (ab w) (by omega), if_neg (Int32.not_lt.mpr h3)]
      by_cases e : i = ab w
      · rw [e, upd_s]
      · rw [upd_n e]
        exact hf i hi
    · rw [if_neg h3]
      refine ih _ (fun i hi => ?_)
      rw [← hf w hwn, ← hf (ab w) (by omega), if_pos (Int32.not_le.mp h3)]
      by_cases e : i = ab w
      · rw [e, upd_s, upd_s]
      · rw [upd_n e, upd_n e]
        exact hf i hi
theorem ch17 {M : Mem} {n : Nat} (hn : n ≤ 10) (h40 : M.1 40 = nI n) (x1 : Int32) : ∀ (d i m : Nat) (f : Nat → Int32), i + d = n → d < m → (∀ k, k < i → f k = 0) → ∃ f', (∀ k, k < n → f' k = 0) ∧ F_X7_chain_17 m x1 (nI i) (sr M 36 f) = F_X7_chain_45 fu x1 (nI n - 1) (sr M 36 f') := by
  intro d
  induction d with
  | zero =>
    intro i m f hi hm hf
    obtain ⟨m, rfl⟩ : ∃ q, m = q + 1 := ⟨m - 1, by omega⟩
    obtain rfl : i = n := by omega
    refine ⟨f, hf, ?_⟩
    unfold F_X7_chain_17
    rw [show (sr M 36 f).1 40 = M.1 40 from rfl, h40, if_pos (by rw [nle (by omega) (by omega)]; omega)]
  | succ d ih =>
    intro i m f hi hm hf
    obtain ⟨m, rfl⟩ : ∃ q, m = q + 1 := ⟨m - 1, by omega⟩
    unfold F_X7_chain_17
    rw [show (sr M 36 f).1 40 = M.1 40 from rfl, h40, if_neg (by rw [nle (by omega) (by omega)]; omega), ckN (by omega) (by omega), ncl (by omega), nI_s, sa_sr, sr_sr]
    refine ih (i + 1) m _ (by omega) (by omega) (fun k hk => ?_)
    show upd f i 0 k = 0
    by_cases e : k = i
    · rw [e, upd_s]
    · rw [upd_n e]
      exact hf k (by omega)
theorem op20 (M : Mem) (hI : Inv M) (x1 : Int32) : ∃ (r : Int32) (M1 M2 : Mem), F_X6_chain x1 M = some (r, M1) ∧ F_X7_chain x1 M1 = some (r, M2) ∧ FS M M2 := by
  obtain ⟨n, kd, gp, ab, ps, kp, L, hC⟩ := Cx_of hI.1 hI.2.1
  have hn := hC.1.1
  unfold F_X6_chain
  rcases isWord_c hC.1.2.1 hn x1 M hC.2.1.1 with ⟨e1, e2⟩ | ⟨x, hx, rfl, e1, e2⟩
  · exact ⟨-2, M, M, by rw [e1, bdS, if_pos rfl], by unfold F_X7_chain; rw [e2, bdS, if_pos rfl], FS_r M⟩
  rw [e1, bdS, if_neg (by decide)]
  unfold F_X5_longestChain
  rw [hon5 hC, bdS, fill_ok 11 _ _ (by decide), bdvS, show (sr M 11 (fun k => if k < al 11 then 0 else M.2 11 k)).1 0 = M.1 0 from rfl, hC.1.2.1, nlit 1, psub (by omega)]
  obtain ⟨f', e3⟩ := ch20 hC hx (n - 1 - x) 0 fu (fun k => if k < al 11 then 0 else M.2 11 k) (by omega) (by unfold fu; omega) (fun i hi => if_pos hi)
  rw [Nat.sub_zero] at e3
  rw [e3, bdS]
  have f1 : FS M (sr M 11 f') := FS_sr f' (by omega)
  have hC1 := Cx_FS hC f1
  have f2 := FS_lp (sr M 11 f')
  have hC2 := Cx_FS hC1 f2
  obtain ⟨f3, hf3, e4⟩ := ch17 hn hC2.2.1.1 (nI x) n 0 fu ((lp (sr M 11 f')).2 36) (by omega) (by unfold fu; omega) (fun k hk => absurd hk (by omega))
  obtain ⟨f4, e5⟩ := ch45 hC2 rfl hx (n - 1) 0 fu f3 (by omega) (by unfold fu; omega) hf3
  rw [sr_self] at e4
  refine ⟨_, _, sr (lp (sr M 11 f')) 36 f4, rfl, ?_, FS_t f1 (FS_t f2 (FS_sr f4 (by omega)))⟩
  unfold F_X7_chain
  rcases isWord_c hC1.1.2.1 hn (nI x) (sr M 11 f') hC1.2.1.1 with ⟨e6, -⟩ | ⟨-, -, -, -, e6⟩
  · rw [has5_ok hC1.1.2.1 hn hx] at e6
    cases e6
  rw [e6, bdS, if_neg (by decide), hC1.2.2.2.2 _ (FS_r _).q, bdvS]
  refine Eq.trans e4 ?_
  rw [nlit 1, psub (by omega)]
  rw [Nat.sub_zero] at e5
  rw [e5]
  have := cst_stop (ab := ab) (q := fun w => ps w && !(bt kp w)) hx (fun w hw hq => by
    rw [Bool.and_eq_true] at hq
    obtain ⟨-, -, -, -, a2, a3⟩ := hC.1.2.2.2.1 w hw
    exact a2 (by have := a3 hq.1; omega)) x (by omega)
  rw [show n - 1 - x + x = n - 1 by omega] at this
  rw [this]
/-! count -/
def pN (rd : Nat → Nat) (k : Nat) : Bool := decide (k % 6 < k / 6) && !(decide (rd k = 0))
def pM (rd : Nat → Nat) (k : Nat) : Bool := decide (k / 6 < k % 6) && !(decide (rd k = 0))
theorem cnt_flat {p : Nat → Bool} {a : Nat} : ∀ d, (∀ k, a ≤ k → k < a + d → p k = false) → cnt p (a + d) = cnt p a := by
  intro d
  induction d with
  | zero => intro _; rfl
  | succ d ih =>
    intro h
    show cnt p (a + d + 1) = _
    rw [cnt_s, h (a + d) (by omega) (by omega), if_neg (by decide), Nat.add_zero]
    exact ih (fun k h1 h2 => h k h1 (by omega))
theorem num12 {M : Mem} {rd : Nat → Nat} (hr : ∀ k, k < 36 → M.2 0 k = nI (rd k) ∧ rd k < 100) (k4 : Int32 → Int32 → Mem → Option (Int32 × Mem)) {a : Nat} (ha : a < 6) : ∀ (d b m : Nat), b + d = a → d < m → F_X3_number_12 k4 m (nI (cnt (pN rd) (a * 6 + b))) (nI a) (nI b) M = k4 (nI (cnt (pN rd) ((a + 1) * 6))) (nI (a + 1)) M := by
  intro d
  induction d with
  | zero =>
    intro b m hb hm
    obtain ⟨m, rfl⟩ : ∃ q, m = q + 1 := ⟨m - 1, by omega⟩
    obtain rfl : b = a := by omega
    unfold F_X3_number_12
    rw [if_pos (by rw [nle (by omega) (by omega)]; omega), nI_s]
    have := cnt_flat (p := pN rd) (a := b * 6 + b) (6 - b) (fun k h1 h2 => by
      unfold pN
      rw [decide_eq_false (by omega), Bool.false_and])
    rw [show b * 6 + b + (6 - b) = (b + 1) * 6 by omega] at this
    rw [this]
  | succ d ih =>
    intro b m hb hm
    obtain ⟨m, rfl⟩ : ∃ q, m = q + 1 := ⟨m - 1, by omega⟩
    have ih := ih (b + 1) m (by omega) (by omega)
    obtain ⟨r1, r2⟩ := hr (a * 6 + b) (by omega)
    unfold F_X3_number_12 F_X3_number_34
    rw [if_neg (by rw [nle (by omega) (by omega)]; omega), nlit 6, pk_mul, nI_add, ckN (by omega) (by omega), ncl (by omega), r1, nI_s, nI_s]
    rw [← Nat.add_assoc, cnt_s] at ih
    unfold pN at ih
    have hd1 : (a * 6 + b) / 6 = a := by omega
    have hd2 : (a * 6 + b) % 6 = b := by omega
    rw [hd1, hd2, decide_eq_true (show b < a by omega), Bool.true_and] at ih
    by_cases h0 : rd (a * 6 + b) = 0
    · rw [if_pos (by rw [h0]; rfl)]
      rw [decide_eq_true h0, Bool.not_true, if_neg (by decide), Nat.add_zero] at ih
      exact ih
    · rw [if_neg (by rw [nlit 0, neq (by omega) (by omega)]; exact h0)]
      rw [decide_eq_false h0, Bool.not_false, if_pos rfl] at ih
      exact ih
theorem number_ok {M : Mem} {rd : Nat → Nat} (hr : ∀ k, k < 36 → M.2 0 k = nI (rd k) ∧ rd k < 100) : F_X3_number M = some (nI (cnt (pN rd) 36), M) := by
  have key : ∀ (d a m : Nat), a + d = 6 → d < m → F_X3_number_4 m (nI (cnt (pN rd) (a * 6))) (nI a) M = some (nI (cnt (pN rd) 36), M) := by
    intro d
    induction d with
    | zero =>
      intro a m ha hm
      obtain ⟨m, rfl⟩ : ∃ q, m = q + 1 := ⟨m - 1, by omega⟩
      obtain rfl : a = 6 := by omega
      rfl
    | succ d ih =>
      intro a m ha hm
      obtain ⟨m, rfl⟩ : ∃ q, m = q + 1 := ⟨m - 1, by omega⟩
      unfold F_X3_number_4
      rw [nlit 6, if_neg (by rw [nle (by omega) (by omega)]; omega)]
      refine Eq.trans (num12 hr (F_X3_number_4 m) (show a < 6 by omega) a 0 fu (by omega) (by unfold fu; omega)) ?_
      exact ih (a + 1) m (by omega) (by omega)
  exact key 6 0 fu (by omega) (by decide)
theorem roadMany_ok {M : Mem} {rd : Nat → Nat} (hr : ∀ k, k < 36 → M.2 22 k = nI (rd k) ∧ rd k < 100) : F_X7_roadMany M = some (nI (cnt (pM rd) 36), M) := by
  have key : ∀ (d a m : Nat), a + d = 36 → d < m → F_X7_roadMany_4 m (nI (cnt (pM rd) a)) (nI a) M = some (nI (cnt (pM rd) 36), M) := by
    intro d
    induction d with
    | zero =>
      intro a m ha hm
      obtain ⟨m, rfl⟩ : ∃ q, m = q + 1 := ⟨m - 1, by omega⟩
      obtain rfl : a = 36 := by omega
      rfl
    | succ d ih =>
      intro a m ha hm
      obtain ⟨m, rfl⟩ : ∃ q, m = q + 1 := ⟨m - 1, by omega⟩
      have ih := ih (a + 1) m (by omega) (by omega)
      obtain ⟨r1, r2⟩ := hr a (by omega)
      unfold F_X7_roadMany_4 F_X7_roadMany_35 F_X7_roadMany_36
      rw [nlit 36, if_neg (by rw [nle (by omega) (by omega)]; omega), nlit 6, pdiv (by omega) (by omega) (by omega), pk_mul, prem6, ckN (by omega) (by omega), ncl (by omega), r1, nI_s, nI_s, show nI (cnt (pM rd) a) + 0 = nI (cnt (pM rd) a) from Int32.add_zero _]
      rw [cnt_s] at ih
      unfold pM at ih
      by_cases h1 : a % 6 ≤ a / 6
      · rw [if_pos (by rw [nle (by omega) (by omega)]; exact h1)]
        rw [decide_eq_false (by omega), Bool.false_and, if_neg (by decide), Nat.add_zero] at ih
        exact ih
      · rw [if_neg (by rw [nle (by omega) (by omega)]; exact h1)]
        rw [decide_eq_true (show a / 6 < a % 6 by omega), Bool.true_and] at ih
        by_cases h0 : rd a = 0
        · rw [if_pos (by rw [h0]; decide)]
          rw [decide_eq_true h0, Bool.not_true, if_neg (by decide), Nat.add_zero] at ih
          exact ih
        · rw [if_neg (by rw [nlit 0, nle (by omega) (by omega)]; omega)]
          rw [decide_eq_false h0, Bool.not_false, if_pos rfl] at ih
          exact ih
  exact key 36 0 fu (by omega) (by decide)
theorem pNM {rd : Nat → Nat} (h : ∀ a b, a < 6 → b < 6 → rd (a * 6 + b) = rd (b * 6 + a)) : cnt (pN rd) 36 = cnt (pM rd) 36 := by
  have e10 := h 1 0 (by omega) (by omega)
  have e20 := h 2 0 (by omega) (by omega)
  have e30 := h 3 0 (by omega) (by omega)
  have e40 := h 4 0 (by omega) (by omega)
  have e50 := h 5 0 (by omega) (by omega)
  have e21 := h 2 1 (by omega) (by omega)
  have e31 := h 3 1 (by omega) (by omega)
  have e41 := h 4 1 (by omega) (by omega)
  have e51 := h 5 1 (by omega) (by omega)
  have e32 := h 3 2 (by omega) (by omega)
  have e42 := h 4 2 (by omega) (by omega)
  have e52 := h 5 2 (by omega) (by omega)
  have e43 := h 4 3 (by omega) (by omega)
  have e53 := h 5 3 (by omega) (by omega)
  have e54 := h 5 4 (by omega) (by omega)
  simp only [Nat.reduceMul, Nat.reduceAdd, Nat.zero_mul, Nat.zero_add, Nat.add_zero] at e10 e20 e30 e40 e50 e21 e31 e41 e51 e32 e42 e52 e43 e53 e54
  simp only [cnt, pN, pM, Nat.reduceMod, Nat.reduceDiv, Nat.reduceLT, decide_true, decide_false, Bool.true_and, Bool.false_and, if_false, Nat.add_zero, Nat.lt_irrefl, Bool.false_eq_true, Nat.not_lt_zero, e10, e20, e30, e40, e50, e21, e31, e41, e51, e32, e42, e52, e43, e53, e54]
  omega
