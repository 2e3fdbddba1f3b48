/-! full sets: counted, asked for; firm -/
/-- the i-th number of a kind -/
def fi (p : Nat → Bool) (i : Nat) : Nat → Option Nat
  | 0 => none
  | k + 1 => match fi p i k with
    | some r => some r
    | none => if (p k && decide (cnt p k = i)) = true then some k else none
theorem fi_stay {p : Nat → Bool} {i k r : Nat} (h : fi p i k = some r) : ∀ d, fi p i (k + d) = some r := by
  intro d
  induction d with
  | zero => exact h
  | succ d ih =>
    show (match fi p i (k + d) with
      | some r => some r
      | none => if (p (k + d) && decide (cnt p (k + d) = i)) = true then some (k + d) else none) = some r
    rw [ih]
theorem fi_flat {p : Nat → Bool} {i a : Nat} : ∀ d, (∀ k, a ≤ k → k < a + d → p k = false) → fi p i (a + d) = fi p i a := by
  intro d
  induction d with
  | zero => intro _; rfl
  | succ d ih =>
    intro h
    show (match fi p i (a + d) with
      | some r => some r
      | none => if (p (a + d) && decide (cnt p (a + d) = i)) = true then some (a + d) else none) = _
    rw [ih (fun k h1 h2 => h k h1 (by omega)), h (a + d) (by omega) (by omega)]
    cases fi p i a <;> rfl
def fie : Option Nat → Int32
  | none => -1
  | some r => nI r
theorem fs4 {M : Mem} {n c : Nat} {A : Nat → Bool} {K : Nat → Nat → Bool} (h : Fc M n c A K) : F_X0_fullSets M = some (nI (cnt (fullB n A K) (c + 1)), M) := by
  have hp := pow_le10 h.1.1
  have hc := h.2.1
  have key : ∀ (d k m : Nat), k + d = c + 1 → d < m → F_X0_fullSets_4 m (nI (cnt (fullB n A K) k)) (nI k) M = some (nI (cnt (fullB n A K) (c + 1)), M) := by
    intro d
    induction d with
    | zero =>
      intro k m hk hm
      obtain ⟨m, rfl⟩ : ∃ q, m = q + 1 := ⟨m - 1, by omega⟩
      obtain rfl : k = c + 1 := by omega
      unfold F_X0_fullSets_4
      rw [h.2.2.1, if_pos (by rw [nlt (by omega) (by omega)]; omega)]
    | succ d ih =>
      intro k m hk hm
      obtain ⟨m, rfl⟩ : ∃ q, m = q + 1 := ⟨m - 1, by omega⟩
      have ih := ih (k + 1) m (by omega) (by omega)
      rw [cnt_s] at ih
      unfold F_X0_fullSets_4 F_X0_fullSets_23
      rw [h.2.2.1, if_neg (by rw [nlt (by omega) (by omega)]; omega), isFS_ok h (by omega), bdS, nI_s, nI_s]
      simp only [ib]
      cases hf : fullB n A K k
      · rw [if_pos rfl]
        rw [hf, if_neg (by decide), Nat.add_zero] at ih
        exact ih
      · rw [if_neg (by decide)]
        rw [hf, if_pos rfl] at ih
        exact ih
  unfold F_X0_fullSets
  exact key (c + 1) 0 fu (by omega) (by unfold fu; omega)
theorem fs1 {M : Mem} {n c : Nat} {A : Nat → Bool} {K : Nat → Nat → Bool} (h : Fc M n c A K) {i : Nat} (hi : i < 2147483648) : F_X0_fullSet (nI i) M = some (fie (fi (fullB n A K) i (c + 1)), M) := by
  have hp := pow_le10 h.1.1
  have hc := h.2.1
  have key : ∀ (d k m : Nat), k + d = c + 1 → d < m → fi (fullB n A K) i k = none → cnt (fullB n A K) k ≤ i → F_X0_fullSet_4 m (nI (i - cnt (fullB n A K) k)) (nI k) M = some (fie (fi (fullB n A K) i (c + 1)), M) := by
    intro d
    induction d with
    | zero =>
      intro k m hk hm hn hle
      obtain ⟨m, rfl⟩ : ∃ q, m = q + 1 := ⟨m - 1, by omega⟩
      obtain rfl : k = c + 1 := by omega
      unfold F_X0_fullSet_4
      rw [h.2.2.1, if_pos (by rw [nlt (by omega) (by omega)]; omega), hn]
      rfl
    | succ d ih =>
      intro k m hk hm hn hle
      obtain ⟨m, rfl⟩ : ∃ q, m = q + 1 := ⟨m - 1, by omega⟩
      have ih := ih (k + 1) m (by omega) (by omega)
      have hfi : fi (fullB n A K) i (k + 1) = if (fullB n A K k && decide (cnt (fullB n A K) k = i)) = true then some k else none := by
        show (match fi (fullB n A K) i k with
          | some r => some r
          | none => if (fullB n A K k && decide (cnt (fullB n A K) k = i)) = true then some k else none) = _
        rw [hn]
      rw [cnt_s, hfi] at ih
      unfold F_X0_fullSet_4 F_X0_fullSet_29
      rw [h.2.2.1, if_neg (by rw [nlt (by omega) (by omega)]; omega), isFS_ok h (by omega), bdS, nI_s]
      simp only [ib]
      cases hf : fullB n A K k
      · rw [if_pos rfl]
        rw [hf, if_neg (show ¬ false = true by decide), Nat.add_zero] at ih
        exact ih rfl hle
      · rw [if_neg (by decide)]
        by_cases e : cnt (fullB n A K) k = i
        · rw [if_pos (by rw [e, Nat.sub_self]; rfl)]
          rw [hf, decide_eq_true e, if_pos (show (true && true) = true from rfl)] at hfi
          have := fi_stay hfi d
          rw [show k + 1 + d = c + 1 by omega] at this
          rw [this]
          rfl
        · rw [if_neg (by rw [nlit 0, neq (by omega) (by omega)]; omega), nI_p (by omega) (by omega)]
          rw [hf, decide_eq_false e, if_pos rfl] at ih
          rw [show i - cnt (fullB n A K) k - 1 = i - (cnt (fullB n A K) k + 1) by omega]
          exact ih rfl (by omega)
  unfold F_X0_fullSet
  have := key (c + 1) 0 fu (by omega) (by unfold fu; omega) rfl (by unfold cnt; omega)
  rw [show i - cnt (fullB n A K) 0 = i from Nat.sub_zero i] at this
  exact this
def fl1 (b : Bool) : Int32 := if b = true then 1 else 0
def iAl (p : Nat → Bool) (w : Nat) (k : Nat) : Bool := !(anyB (fun t => p t && !(bt (nI t) w)) k)
def iSo (p : Nat → Bool) (w : Nat) (k : Nat) : Bool := anyB (fun t => p t && bt (nI t) w) k
theorem iAl_s (p : Nat → Bool) (w k : Nat) : iAl p w (k + 1) = (iAl p w k && !(p k && !(bt (nI k) w))) := by
  show (!(anyB (fun t => p t && !(bt (nI t) w)) k || (p k && !(bt (nI k) w)))) = (!(anyB (fun t => p t && !(bt (nI t) w)) k) && !(p k && !(bt (nI k) w)))
  exact Bool.not_or _ _
theorem iSo_s (p : Nat → Bool) (w k : Nat) : iSo p w (k + 1) = (iSo p w k || (p k && bt (nI k) w)) := rfl
theorem fm7 {M : Mem} {n c : Nat} {A : Nat → Bool} {K : Nat → Nat → Bool} (h : Fc M n c A K) {w : Nat} (hw : w < 32) : F_X0_firmness (nI w) M = some (if iSo (fullB n A K) w (c + 1) = true then (if iAl (fullB n A K) w (c + 1) = true then 2 else 1) else 0, M) := by
  have hp := pow_le10 h.1.1
  have hc := h.2.1
  have key : ∀ (d k m : Nat), k + d = c + 1 → d < m → F_X0_firmness_7 m (nI w) (fl1 (iAl (fullB n A K) w k)) (fl1 (iSo (fullB n A K) w k)) (nI k) M = some (if iSo (fullB n A K) w (c + 1) = true then (if iAl (fullB n A K) w (c + 1) = true then 2 else 1) else 0, M) := by
    intro d
    induction d with
    | zero =>
      intro k m hk hm
      obtain ⟨m, rfl⟩ : ∃ q, m = q + 1 := ⟨m - 1, by omega⟩
      obtain rfl : k = c + 1 := by omega
      unfold F_X0_firmness_7
      rw [h.2.2.1, if_pos (by rw [nlt (by omega) (by omega)]; omega)]
      cases iSo (fullB n A K) w (c + 1)
      · rfl
      · cases iAl (fullB n A K) w (c + 1)
        · rfl
        · rfl
    | succ d ih =>
      intro k m hk hm
      obtain ⟨m, rfl⟩ : ∃ q, m = q + 1 := ⟨m - 1, by omega⟩
      have ih := ih (k + 1) m (by omega) (by omega)
      rw [iAl_s, iSo_s] at ih
      unfold F_X0_firmness_7 F_X0_firmness_39 F_X0_firmness_51
      rw [h.2.2.1, if_neg (by rw [nlt (by omega) (by omega)]; omega), isFS_ok h (by omega), bdS, nI_s]
      simp only [ib, b_tst0 _ hw]
      cases hf : fullB n A K k
      · rw [if_pos rfl]
        rw [hf, Bool.false_and, Bool.false_and, Bool.not_false, Bool.and_true, Bool.or_false] at ih
        exact ih
      · rw [if_neg (by decide)]
        rw [hf, Bool.true_and, Bool.true_and, Bool.not_not] at ih
        cases hb : bt (nI k) w
        · rw [if_pos rfl]
          rw [hb, Bool.and_false, Bool.or_false] at ih
          refine Eq.trans ?_ ih
          cases iAl (fullB n A K) w k <;> cases iSo (fullB n A K) w k <;> rfl
        · rw [if_neg (by decide)]
          rw [hb, Bool.and_true, Bool.or_true] at ih
          refine Eq.trans ?_ ih
          cases iAl (fullB n A K) w k <;> cases iSo (fullB n A K) w k <;> rfl
  unfold F_X0_firmness
  exact key (c + 1) 0 fu (by omega) (by unfold fu; omega)
/-! the model -/
def Fm (M : Mem) (n : Nat) (A : Nat → Bool) (K : Nat → Nat → Bool) : Prop := Tm M n A K ∧ ∀ t, t < 2 ^ n → M.2 35 t = if sdn n A K t = true then 1 else 0
theorem lays_ok {M : Mem} {n : Nat} {A : Nat → Bool} {K : Nat → Nat → Bool} (h : Tm M n A K) (hK : KP n A K) : ∃ f, F_X7_laysSounds M = some (sr M 35 f) ∧ Fm (sr M 35 f) n A K := by
  have hn := h.1
  have hp := pow_le10 hn
  have hp0 := pow_pos' n
  have key : ∀ (d k m : Nat) (f : Nat → Int32), k + d = 2 ^ n → d < m → (∀ t, t < k → f t = if sdn n A K t = true then 1 else 0) → ∃ f', F_X7_laysSounds_2 m (nI k) (sr M 35 f) = some (sr M 35 f') ∧ ∀ t, t < 2 ^ n → f' t = if sdn n A K t = true then 1 else 0 := by
    intro d
    induction d with
    | zero =>
      intro k m f hk hm hf
      obtain ⟨m, rfl⟩ : ∃ q, m = q + 1 := ⟨m - 1, by omega⟩
      obtain rfl : k = 2 ^ n := by omega
      refine ⟨f, ?_, hf⟩
      unfold F_X7_laysSounds_2
      rw [all7_ok (show (sr M 35 f).1 40 = nI n from h.2.1) hn, bdS, if_pos (by rw [nlt (by omega) (by omega)]; omega)]
    | succ d ih =>
      intro k m f hk hm hf
      obtain ⟨m, rfl⟩ : ∃ q, m = q + 1 := ⟨m - 1, by omega⟩
      have hT : Tm (sr M 35 f) n A K := h
      unfold F_X7_laysSounds_2
      rw [all7_ok (show (sr M 35 f).1 40 = nI n from h.2.1) hn, bdS, if_neg (by rw [nlt (by omega) (by omega)]; omega), isSound_ok hT hK, bdS, ckN (by omega) (by omega), ncl (by omega), nI_s, sa_sr, sr_sr, show (sr M 35 f).2 35 = f from rfl]
      refine ih (k + 1) m _ (by omega) (by omega) (fun t ht => ?_)
      by_cases e : t = k
      · subst e
        rw [upd_s]
        unfold sdn
        cases sdB n A K (nI t) <;> rfl
      · rw [upd_n e]
        exact hf t (by omega)
  obtain ⟨f, e, hf⟩ := key (2 ^ n) 0 fu (M.2 35) (by omega) (by unfold fu; omega) (fun t ht => absurd ht (by omega))
  rw [sr_self] at e
  exact ⟨f, e, h, hf⟩
theorem isFull_ok {M : Mem} {n : Nat} {A : Nat → Bool} {K : Nat → Nat → Bool} (h : Fm M n A K) {k : Nat} (hk : k < 2 ^ n) : F_X7_isFull (nI k) M = some (if fullB n A K k = true then 1 else 0, M) := by
  have hn := h.1.1
  have hp := pow_le10 hn
  have h46 : F_X7_isFull_46 (nI k) M = some (if sdn n A K k = true then 1 else 0, M) := by
    unfold F_X7_isFull_46
    rw [ckN (by omega) (by omega), ncl (by omega), h.2 k hk, ckT (by cases sdn n A K k <;> rfl)]
  have key : ∀ (d o m : Nat), o + d = 2 ^ n → d < m → anyB (fun o => decide (k < o) && (sdn n A K o && sb k o)) o = false → k < o → F_X7_isFull_4 m (nI k) (nI o) M = some (if fullB n A K k = true then 1 else 0, M) := by
    intro d
    induction d with
    | zero =>
      intro o m ho hm ha hko
      obtain ⟨m, rfl⟩ : ∃ q, m = q + 1 := ⟨m - 1, by omega⟩
      obtain rfl : o = 2 ^ n := by omega
      unfold F_X7_isFull_4 fullB hg
      rw [all7_ok h.1.2.1 hn, bdS, if_pos (by rw [nlt (by omega) (by omega)]; omega), h46, ha, Bool.not_false, Bool.and_true]
    | succ d ih =>
      intro o m ho hm ha hko
      obtain ⟨m, rfl⟩ : ∃ q, m = q + 1 := ⟨m - 1, by omega⟩
      have ih := ih (o + 1) m (by omega) (by omega)
      rw [show anyB (fun o => decide (k < o) && (sdn n A K o && sb k o)) (o + 1) = (anyB (fun o => decide (k < o) && (sdn n A K o && sb k o)) o || (decide (k < o) && (sdn n A K o && sb k o))) from rfl, ha, Bool.false_or, decide_eq_true hko, Bool.true_and] at ih
      unfold F_X7_isFull_4 F_X7_isFull_40
      rw [all7_ok h.1.2.1 hn, bdS, if_neg (by rw [nlt (by omega) (by omega)]; omega), ckN (by omega) (by omega), ncl (by omega), h.2 k hk, h46, ckN (by omega) (by omega), ncl (by omega), h.2 o (by omega), nI_s]
      simp only [ib]
      cases h1 : sdn n A K k
      · rw [if_pos rfl]
        unfold fullB
        rw [h1]
        rfl
      rw [if_neg (by decide)]
      cases h2 : sdn n A K o
      · rw [if_pos rfl]
        exact ih (by rw [h2]; rfl) (by omega)
      rw [if_neg (by decide)]
      by_cases c1 : nI k &&& (nI o ^^^ (-1)) = 0
      · rw [if_pos c1]
        unfold fullB
        rw [show hg n A K k = true from anyB_t.mpr ⟨o, by omega, by rw [decide_eq_true hko, h2]; unfold sb; rw [decide_eq_true c1]; rfl⟩, Bool.not_true, Bool.and_false]
        rfl
      · rw [if_neg c1]
        exact ih (by unfold sb; rw [decide_eq_false c1, Bool.and_false]) (by omega)
  unfold F_X7_isFull
  rw [nI_s]
  exact key (2 ^ n - (k + 1)) (k + 1) fu (by omega) (by unfold fu; omega) (anyB_f.mpr (fun i hi => by rw [decide_eq_false (by omega), Bool.false_and])) (by omega)
theorem fn18 {M : Mem} {n : Nat} {A : Nat → Bool} {K : Nat → Nat → Bool} (h : Fm M n A K) : F_X7_fullNow_18 fu (-1) 0 0 M = some (nI (cnt (fullB n A K) (2 ^ n)), M) := by
  have hn := h.1.1
  have hp := pow_le10 hn
  have hp0 := pow_pos' n
  have key : ∀ (d k m : Nat), k + d = 2 ^ n → d < m → F_X7_fullNow_18 m (-1) (nI (cnt (fullB n A K) k)) (nI k) M = some (nI (cnt (fullB n A K) (2 ^ n)), M) := by
    intro d
    induction d with
    | zero =>
      intro k m hk hm
      obtain ⟨m, rfl⟩ : ∃ q, m = q + 1 := ⟨m - 1, by omega⟩
      obtain rfl : k = 2 ^ n := by omega
      unfold F_X7_fullNow_18
      rw [all7_ok h.1.2.1 hn, bdS, if_pos (by rw [nlt (by omega) (by omega)]; omega), if_pos rfl]
    | succ d ih =>
      intro k m hk hm
      obtain ⟨m, rfl⟩ : ∃ q, m = q + 1 := ⟨m - 1, by omega⟩
      have ih := ih (k + 1) m (by omega) (by omega)
      have hcl := cnt_le (fullB n A K) k
      rw [cnt_s] at ih
      unfold F_X7_fullNow_18 F_X7_fullNow_47
      rw [all7_ok h.1.2.1 hn, bdS, if_neg (by rw [nlt (by omega) (by omega)]; omega), isFull_ok h (by omega), bdS, nI_s, nI_s, if_neg (nIm (cnt (fullB n A K) k) (by omega))]
      simp only [ib]
      cases hf : fullB n A K k
      · rw [if_pos rfl]
        rw [hf, if_neg (by decide), Nat.add_zero] at ih
        exact ih
      · rw [if_neg (by decide)]
        rw [hf, if_pos rfl] at ih
        exact ih
  exact key (2 ^ n) 0 fu (by omega) (by unfold fu; omega)
theorem fn18i {M : Mem} {n : Nat} {A : Nat → Bool} {K : Nat → Nat → Bool} (h : Fm M n A K) {i : Nat} (hi : i < 2147483648) : F_X7_fullNow_18 fu (nI i) 0 0 M = some (fie (fi (fullB n A K) i (2 ^ n)), M) := by
  have hn := h.1.1
  have hp := pow_le10 hn
  have hp0 := pow_pos' n
  have key : ∀ (d k m : Nat), k + d = 2 ^ n → d < m → fi (fullB n A K) i k = none → F_X7_fullNow_18 m (nI i) (nI (cnt (fullB n A K) k)) (nI k) M = some (fie (fi (fullB n A K) i (2 ^ n)), M) := by
    intro d
    induction d with
    | zero =>
      intro k m hk hm hno
      obtain ⟨m, rfl⟩ : ∃ q, m = q + 1 := ⟨m - 1, by omega⟩
      obtain rfl : k = 2 ^ n := by omega
      unfold F_X7_fullNow_18
      rw [all7_ok h.1.2.1 hn, bdS, if_pos (by rw [nlt (by omega) (by omega)]; omega), if_neg (nIm i hi), hno]
      rfl
    | succ d ih =>
      intro k m hk hm hno
      obtain ⟨m, rfl⟩ : ∃ q, m = q + 1 := ⟨m - 1, by omega⟩
      have ih := ih (k + 1) m (by omega) (by omega)
      have hcl := cnt_le (fullB n A K) k
      have hfi : fi (fullB n A K) i (k + 1) = if (fullB n A K k && decide (cnt (fullB n A K) k = i)) = true then some k else none := by
        show (match fi (fullB n A K) i k with
          | some r => some r
          | none => if (fullB n A K k && decide (cnt (fullB n A K) k = i)) = true then some k else none) = _
        rw [hno]
      rw [cnt_s, hfi] at ih
      unfold F_X7_fullNow_18 F_X7_fullNow_47
      rw [all7_ok h.1.2.1 hn, bdS, if_neg (by rw [nlt (by omega) (by omega)]; omega), isFull_ok h (by omega), bdS, nI_s, nI_s]
      simp only [ib]
      cases hf : fullB n A K k
      · rw [if_pos rfl]
        rw [hf, if_neg (show ¬ false = true by decide), Nat.add_zero] at ih
        exact ih rfl
      · rw [if_neg (by decide)]
        by_cases e : cnt (fullB n A K) k = i
        · rw [if_pos (by rw [e])]
          rw [hf, decide_eq_true e, if_pos (show (true && true) = true from rfl)] at hfi
          have := fi_stay hfi d
          rw [show k + 1 + d = 2 ^ n by omega] at this
          rw [this]
          rfl
        · rw [if_neg (by rw [neq (by omega) hi]; exact e)]
          rw [hf, decide_eq_false e, if_pos rfl] at ih
          exact ih rfl
  exact key (2 ^ n) 0 fu (by omega) (by unfold fu; omega) rfl
theorem fm39 {M : Mem} {n : Nat} {A : Nat → Bool} {K : Nat → Nat → Bool} (h : Fm M n A K) {w : Nat} (hw : w < 32) : F_X7_firm_39 fu (nI w) 0 1 0 M = some (if iAl (fullB n A K) w (2 ^ n) = true then 2 else (if iSo (fullB n A K) w (2 ^ n) = true then 1 else 0), M) := by
  have hn := h.1.1
  have hp := pow_le10 hn
  have hp0 := pow_pos' n
  have key : ∀ (d k m : Nat), k + d = 2 ^ n → d < m → F_X7_firm_39 m (nI w) (fl1 (iSo (fullB n A K) w k)) (fl1 (iAl (fullB n A K) w k)) (nI k) M = some (if iAl (fullB n A K) w (2 ^ n) = true then 2 else (if iSo (fullB n A K) w (2 ^ n) = true then 1 else 0), M) := by
    intro d
    induction d with
    | zero =>
      intro k m hk hm
      obtain ⟨m, rfl⟩ : ∃ q, m = q + 1 := ⟨m - 1, by omega⟩
      obtain rfl : k = 2 ^ n := by omega
      unfold F_X7_firm_39
      rw [all7_ok h.1.2.1 hn, bdS, if_pos (by rw [nlt (by omega) (by omega)]; omega)]
      cases iSo (fullB n A K) w (2 ^ n)
      · cases iAl (fullB n A K) w (2 ^ n) <;> rfl
      · cases iAl (fullB n A K) w (2 ^ n) <;> rfl
    | succ d ih =>
      intro k m hk hm
      obtain ⟨m, rfl⟩ : ∃ q, m = q + 1 := ⟨m - 1, by omega⟩
      have ih := ih (k + 1) m (by omega) (by omega)
      rw [iAl_s, iSo_s] at ih
      unfold F_X7_firm_39 F_X7_firm_70 F_X7_firm_75 F_X7_firm_94 F_X7_firm_95 F_X7_firm_97
      rw [all7_ok h.1.2.1 hn, bdS, if_neg (by rw [nlt (by omega) (by omega)]; omega), isFull_ok h (by omega), bdS, nI_s]
      simp only [has7 _ hw, bdS, ib]
      cases hf : fullB n A K k
      · rw [if_pos rfl]
        rw [hf, Bool.false_and, Bool.false_and, Bool.not_false, Bool.and_true, Bool.or_false] at ih
        exact ih
      · rw [if_neg (by decide)]
        rw [hf, Bool.true_and, Bool.true_and, Bool.not_not] at ih
        cases hb : bt (nI k) w
        · rw [hb, Bool.and_false, Bool.or_false] at ih
          refine Eq.trans ?_ ih
          cases iAl (fullB n A K) w k <;> cases iSo (fullB n A K) w k <;> rfl
        · rw [hb, Bool.and_true, Bool.or_true] at ih
          refine Eq.trans ?_ ih
          cases iAl (fullB n A K) w k <;> cases iSo (fullB n A K) w k <;> rfl
  exact key (2 ^ n) 0 fu (by omega) (by unfold fu; omega)
theorem top_of {p : Nat → Bool} : ∀ {N : Nat}, (∃ k, k < N ∧ p k = true) → ∃ k, k < N ∧ p k = true ∧ ∀ o, k < o → o < N → p o = false := by
  intro N
  induction N with
  | zero => rintro ⟨k, hk, _⟩; exact absurd hk (by omega)
  | succ N ih =>
    intro h
    cases hN : p N
    · obtain ⟨k, hk, hp⟩ := h
      have hkN : k < N := by
        rcases Nat.lt_or_ge k N with h | h
        · exact h
        · rw [show k = N by omega, hN] at hp
          cases hp
      obtain ⟨k', h1, h2, h3⟩ := ih ⟨k, hkN, hp⟩
      refine ⟨k', by omega, h2, fun o h4 h5 => ?_⟩
      by_cases e : o = N
      · rw [e]; exact hN
      · exact h3 o h4 (by omega)
    · exact ⟨N, by omega, hN, fun o h1 h2 => absurd h1 (by omega)⟩
theorem full_ex {n : Nat} {A : Nat → Bool} {K : Nat → Nat → Bool} : ∃ k, k < 2 ^ n ∧ fullB n A K k = true := by
  have h0 : sdn n A K 0 = true := by
    unfold sdn sdB
    rw [Bool.and_eq_true, Bool.not_eq_true', Bool.not_eq_true', anyB_f, anyB_f]
    refine ⟨fun i hi => ?_, fun i hi => ?_⟩
    · rw [show nI 0 = 0 from rfl, b_0, Bool.false_and]
    · rw [show nI 0 = 0 from rfl, b_0, Bool.false_and]
  obtain ⟨k, hk, h1, h2⟩ := top_of (p := sdn n A K) (N := 2 ^ n) ⟨0, pow_pos' n, h0⟩
  refine ⟨k, hk, ?_⟩
  unfold fullB hg
  rw [h1, Bool.true_and, Bool.not_eq_true', anyB_f]
  intro o ho
  by_cases h : k < o
  · rw [h2 o h ho, Bool.false_and, Bool.and_false]
  · rw [decide_eq_false h, Bool.false_and]
/-- the number of full sets, both -/
theorem full6_ok {M : Mem} {n j : Nat} {kd gp ab : Nat → Nat} {ps : Nat → Bool} {kp : Int32} {L : Nat → Nat → Nat} (hC : Cx M n kd gp ab ps kp L) (hj : j < 2) : ∃ M2 c, F_X0_takeUp j (hon n kp) M = some M2 ∧ FS M M2 ∧ ∃ f, F_X0_markFullSets M2 = some (sr M2 17 f) ∧ FS M (sr M2 17 f) ∧ Fc (sr M2 17 f) n c (am gp (L j) (hon n kp)) (sk kd gp ab (L j) ps n (hon n kp)) := by
  obtain ⟨M2, e4, f4, hT⟩ := takeUp_ok2 hC hj (hon n kp)
  obtain ⟨f, c, e5, hF⟩ := mark_ok hT KP_sk
  exact ⟨M2, c, e4, f4, f, e5, FS_t f4 (FS_sr f (by omega)), hF⟩
theorem full7_ok {M : Mem} {n j : Nat} {kd gp ab : Nat → Nat} {ps : Nat → Bool} {kp : Int32} {L : Nat → Nat → Nat} (hC : Cx M n kd gp ab ps kp L) (hj : j < 2) : ∃ M2, F_X7_meetsAll (nI j) (hon n kp) M = some M2 ∧ FS M M2 ∧ ∃ f, F_X7_laysSounds M2 = some (sr M2 35 f) ∧ FS M (sr M2 35 f) ∧ Fm (sr M2 35 f) n (am gp (L j) (hon n kp)) (sk kd gp ab (L j) ps n (hon n kp)) := by
  obtain ⟨M2, e4, f4, hT⟩ := meets_ok2 hC hj (hon n kp)
  obtain ⟨f, e5, hF⟩ := lays_ok hT KP_sk
  exact ⟨M2, e4, f4, f, e5, FS_t f4 (FS_sr f (by omega)), hF⟩
theorem Fc.flat {M : Mem} {n c : Nat} {A : Nat → Bool} {K : Nat → Nat → Bool} (h : Fc M n c A K) : ∀ k, c + 1 ≤ k → k < 2 ^ n → fullB n A K k = false := fun k h1 h2 => by
  have hp := pow_le10 h.1.1
  exact full_c h.2.1 h.1.1 (by rw [← h.2.2.1]; exact h.1.2.2.1) (by omega) (by omega)
theorem lawOf_ok {j : Nat} (hj : j < 2) (M : Mem) : F_X6_lawOf (nI j) M = some (some j, M) := by
  rcases (show j = 0 ∨ j = 1 by omega) with rfl | rfl <;> rfl
theorem fullN6 {M : Mem} {n j : Nat} {kd gp ab : Nat → Nat} {ps : Nat → Bool} {kp : Int32} {L : Nat → Nat → Nat} (hC : Cx M n kd gp ab ps kp L) (hj : j < 2) : ∃ M2, F_X6_full (nI j) (-1) M = some (nI (cnt (fullB n (am gp (L j) (hon n kp)) (sk kd gp ab (L j) ps n (hon n kp))) (2 ^ n)), M2) ∧ FS M M2 := by
  obtain ⟨M2, c, e1, f1, f, e2, f2, hF⟩ := full6_ok hC hj
  refine ⟨_, ?_, f2⟩
  unfold F_X6_full
  rw [lawOf_ok hj, bdoS, ckT (dec2 hj), if_pos (by decide), hon5 hC, bdS, e1, bdvS, e2, bdvS, if_pos rfl, fs4 hF, bdS]
  have hc := hF.2.1
  have := cnt_flat (p := fullB n (am gp (L j) (hon n kp)) (sk kd gp ab (L j) ps n (hon n kp))) (a := c + 1) (2 ^ n - (c + 1)) (fun k h1 h2 => hF.flat k h1 (by omega))
  rw [show c + 1 + (2 ^ n - (c + 1)) = 2 ^ n by omega] at this
  rw [this]
theorem fullN7 {M : Mem} {n j : Nat} {kd gp ab : Nat → Nat} {ps : Nat → Bool} {kp : Int32} {L : Nat → Nat → Nat} (hC : Cx M n kd gp ab ps kp L) (hj : j < 2) : ∃ M2, F_X7_fullNow (nI j) (-1) M = some (nI (cnt (fullB n (am gp (L j) (hon n kp)) (sk kd gp ab (L j) ps n (hon n kp))) (2 ^ n)), M2) ∧ FS M M2 := by
  obtain ⟨M2, e1, f1, f, e2, f2, hF⟩ := full7_ok hC hj
  refine ⟨_, ?_, f2⟩
  unfold F_X7_fullNow
  rw [hon7 hC, bdS, e1, bdvS, e2, bdvS, fn18 hF]
theorem lt_m1 {x : Int32} (h : x < -1 ∨ ¬ x < -1) : x < -1 ∨ x = -1 ∨ ∃ i, i < 2147483648 ∧ x = nI i := by
  rcases h with h | h
  · exact Or.inl h
  · right
    by_cases h2 : x < 0
    · left
      apply Int32.toInt_inj.mp
      have h3 := Int32.lt_iff_toInt_lt.mp h2
      have h4 : ¬ x.toInt < (-1 : Int32).toInt := fun h5 => h (Int32.lt_iff_toInt_lt.mpr h5)
      have e0 : (0 : Int32).toInt = 0 := rfl
      have e1 : (-1 : Int32).toInt = -1 := rfl
      rw [e0] at h3
      rw [e1] at h4 ⊢
      omega
    · right
      obtain ⟨i, hi, e⟩ := nI_of h2
      exact ⟨i, hi, e⟩
theorem ans17 (M : Mem) (hI : Inv M) (x1 x2 : Int32) : Ans M (F_X6_full x1 x2) (F_X7_full x1 x2) := by
  obtain ⟨n, kd, gp, ab, ps, kp, L, hC⟩ := Cx_of hI.1 hI.2.1
  rcases law_c x1 with e | ⟨j, hj, rfl, e⟩
  · exact Ans_c (-2) (fun M1 f => by unfold F_X6_full; rw [(e M1).1, bdoN]) (fun M1 f => by unfold F_X7_full; rw [(e M1).2, bdS, if_pos rfl]; rfl)
  rcases lt_m1 (Classical.em (x2 < -1)) with h | rfl | ⟨i, hi, rfl⟩
  · refine Ans_c (-2) (fun M1 f => ?_) (fun M1 f => ?_)
    · unfold F_X6_full
      rw [(e M1).1, bdoS, ckT (dec2 hj), if_neg (Int32.not_le.mpr h)]
    · unfold F_X7_full
      rw [(e M1).2, bdS, if_neg (by decide), if_pos h]
      rfl
  · refine ⟨_, fun M1 f => fullN6 (Cx_FS hC f) hj, fun M1 f => ?_⟩
    obtain ⟨M2, e2, f2⟩ := fullN7 (Cx_FS hC f) hj
    refine ⟨M2, ?_, f2⟩
    unfold F_X7_full
    rw [(e M1).2, bdS, if_neg (by decide), if_neg (by decide), e2, bdS]
  · have hm : ¬ nI i < -1 := fun h => by
      have h2 : nI i < 0 := Int32.lt_trans h (by decide)
      exact nI_pos hi h2
    refine ⟨fie (fi (fullB n (am gp (L j) (hon n kp)) (sk kd gp ab (L j) ps n (hon n kp))) i (2 ^ n)), fun M1 f => ?_, fun M1 f => ?_⟩
    · have h1 := Cx_FS hC f
      obtain ⟨M2, c, e1, f1, f', e2, f2, hF⟩ := full6_ok h1 hj
      refine ⟨_, ?_, f2⟩
      unfold F_X6_full
      rw [(e M1).1, bdoS, ckT (dec2 hj), if_pos (Int32.not_lt.mp hm), hon5 h1, bdS, e1, bdvS, e2, bdvS, if_neg (nIm i hi), fs1 hF hi, bdS]
      have hc := hF.2.1
      have := fi_flat (p := fullB n (am gp (L j) (hon n kp)) (sk kd gp ab (L j) ps n (hon n kp))) (i := i) (a := c + 1) (2 ^ n - (c + 1)) (fun k h1 h2 => hF.flat k h1 (by omega))
      rw [show c + 1 + (2 ^ n - (c + 1)) = 2 ^ n by omega] at this
      rw [this]
    · have h1 := Cx_FS hC f
      obtain ⟨M2, e1, f1, f', e2, f2, hF⟩ := full7_ok h1 hj
      refine ⟨_, ?_, f2⟩
      unfold F_X7_full F_X7_fullNow
      rw [(e M1).2, bdS, if_neg (by decide), if_neg hm, hon7 h1, bdS, e1, bdvS, e2, bdvS, fn18i hF hi, bdS]
theorem anyB_flat {p : Nat → Bool} {a b : Nat} (hab : a ≤ b) (h : ∀ k, a ≤ k → k < b → p k = false) : anyB p b = anyB p a := by
  cases h1 : anyB p a
  · rw [anyB_f] at h1 ⊢
    intro i hi
    rcases Nat.lt_or_ge i a with h2 | h2
    · exact h1 i h2
    · exact h i h2 hi
  · rw [anyB_t] at h1 ⊢
    obtain ⟨i, hi, hp⟩ := h1
    exact ⟨i, by omega, hp⟩
theorem ans18 (M : Mem) (hI : Inv M) (x1 x2 : Int32) : Ans M (F_X6_firm x1 x2) (F_X7_firm x1 x2) := by
  obtain ⟨n, kd, gp, ab, ps, kp, L, hC⟩ := Cx_of hI.1 hI.2.1
  have hn := hC.1.1
  unfold F_X6_firm F_X7_firm
  rcases law_c x1 with e | ⟨j, hj, rfl, e⟩
  · exact Ans_c (-2) (fun M1 f => by rw [(e M1).1, bdoN]) (fun M1 f => by rw [(e M1).2, bdS, if_pos rfl])
  rcases wd_c hC x2 with e2 | ⟨w, hw, rfl, e2⟩
  · exact Ans_c (-2) (fun M1 f => by rw [(e M1).1, bdoS, ckT (dec2 hj), (e2 M1 f).1, bdS, if_pos rfl]) (fun M1 f => by rw [(e M1).2, bdS, if_neg (by decide), (e2 M1 f).2, bdS, if_pos rfl])
  refine ⟨if iAl (fullB n (am gp (L j) (hon n kp)) (sk kd gp ab (L j) ps n (hon n kp))) w (2 ^ n) = true then 2 else (if iSo (fullB n (am gp (L j) (hon n kp)) (sk kd gp ab (L j) ps n (hon n kp))) w (2 ^ n) = true then 1 else 0), fun M1 f => ?_, fun M1 f => ?_⟩
  · have h1 := Cx_FS hC f
    obtain ⟨M2, c, e3, f1, f', e4, f2, hF⟩ := full6_ok h1 hj
    refine ⟨_, ?_, f2⟩
    show bdo (F_X6_lawOf (nI j) M1) _ _ = _
    rw [(e M1).1, bdoS, ckT (dec2 hj), (e2 M1 f).1, bdS, if_neg (by decide), hon5 h1, bdS, e3, bdvS, e4, bdvS, fm7 hF (by omega), bdS]
    have hc := hF.2.1
    obtain ⟨k, hk, hkf⟩ := full_ex (n := n) (A := am gp (L j) (hon n kp)) (K := sk kd gp ab (L j) ps n (hon n kp))
    obtain ⟨P, hP⟩ : ∃ P, P = fullB n (am gp (L j) (hon n kp)) (sk kd gp ab (L j) ps n (hon n kp)) := ⟨_, rfl⟩
    have hfl : ∀ k, c + 1 ≤ k → k < 2 ^ n → P k = false := by rw [hP]; exact hF.flat
    rw [← hP] at hkf ⊢
    have e5 : iAl P w (2 ^ n) = iAl P w (c + 1) := by
      unfold iAl
      rw [anyB_flat (a := c + 1) (b := 2 ^ n) (by omega) (fun k h1 h2 => by rw [hfl k h1 h2]; rfl)]
    have e6 : iSo P w (2 ^ n) = iSo P w (c + 1) := by
      unfold iSo
      rw [anyB_flat (a := c + 1) (b := 2 ^ n) (by omega) (fun k h1 h2 => by rw [hfl k h1 h2]; rfl)]
    have e7 : iAl P w (2 ^ n) = true → iSo P w (2 ^ n) = true := by
      intro h
      unfold iAl at h
      unfold iSo
      rw [Bool.not_eq_true', anyB_f] at h
      have := h k hk
      rw [hkf, Bool.true_and, Bool.not_eq_false'] at this
      exact anyB_t.mpr ⟨k, hk, by rw [hkf, this]; rfl⟩
    rw [← e5, ← e6]
    cases hA : iAl P w (2 ^ n)
    · cases iSo P w (2 ^ n) <;> rfl
    · rw [e7 hA]
      rfl
  · have h1 := Cx_FS hC f
    obtain ⟨M2, e3, f1, f', e4, f2, hF⟩ := full7_ok h1 hj
    refine ⟨_, ?_, f2⟩
    show bd (F_X7_isLaw (nI j) M1) _ = _
    rw [(e M1).2, bdS, if_neg (by decide), (e2 M1 f).2, bdS, if_neg (by decide), hon7 h1, bdS, e3, bdvS, e4, bdvS, fm39 hF (by omega)]
