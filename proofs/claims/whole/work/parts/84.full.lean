/-! full sets -/
def sb (k o : Nat) : Bool := decide (nI k &&& (nI o ^^^ (-1)) = 0)
theorem sb_t {k o : Nat} : sb k o = true ↔ ∀ i, i < 32 → bt (nI k) i = true → bt (nI o) i = true := by
  unfold sb
  rw [decide_eq_true_eq, b_zero]
  constructor
  · intro h i hi hb
    have := h i hi
    rw [b_clr _ _ hi, hb, Bool.true_and] at this
    cases h2 : bt (nI o) i
    · rw [h2] at this; cases this
    · rfl
  · intro h i hi
    rw [b_clr _ _ hi]
    cases h1 : bt (nI k) i
    · rfl
    · rw [h i hi h1]; rfl
theorem sb_le {k o : Nat} (hk : k < 2147483648) (ho : o < 2147483648) (h : sb k o = true) : k ≤ o := sub_le hk ho (by unfold sb at h; rwa [decide_eq_true_eq] at h)
theorem sb_r (k : Nat) : sb k k = true := sb_t.mpr (fun _ _ h => h)
theorem sb_tr {a b c : Nat} (h : sb a b = true) (g : sb b c = true) : sb a c = true := sb_t.mpr (fun i hi hb => sb_t.mp g i hi (sb_t.mp h i hi hb))
def sdn (n : Nat) (A : Nat → Bool) (K : Nat → Nat → Bool) (k : Nat) : Bool := sdB n A K (nI k)
def hg (n : Nat) (A : Nat → Bool) (K : Nat → Nat → Bool) (k : Nat) : Bool := anyB (fun o => decide (k < o) && (sdn n A K o && sb k o)) (2 ^ n)
def fullB (n : Nat) (A : Nat → Bool) (K : Nat → Nat → Bool) (k : Nat) : Bool := sdn n A K k && !(hg n A K k)
theorem sdn_in {n : Nat} {A : Nat → Bool} {K : Nat → Nat → Bool} {k : Nat} (h : sdn n A K k = true) : ∀ i, i < 32 → bt (nI k) i = true → i < n ∧ A i = true := by
  unfold sdn sdB at h
  rw [Bool.and_eq_true, Bool.not_eq_true', anyB_f] at h
  intro i hi hb
  have := h.1 i hi
  rw [hb, Bool.true_and, Bool.not_eq_false', Bool.and_eq_true, decide_eq_true_eq] at this
  exact this
theorem sdn_c {n c : Nat} {A : Nat → Bool} {K : Nat → Nat → Bool} (hc : ∀ k, k < 32 → bt (nI c) k = (decide (k < n) && A k)) {k : Nat} (h : sdn n A K k = true) : sb k c = true := sb_t.mpr (fun i hi hb => by
  have := sdn_in h i hi hb
  rw [hc i hi, decide_eq_true this.1, this.2]
  rfl)
def mvI (s g : Bool) : Int32 := (if s = true then 1 else 0) ||| (if g = true then 2 else 0)
theorem mvI_0 {s g : Bool} : (mvI s g = 0) = ((s || g) = false) := by cases s <;> cases g <;> decide
theorem mvI_1 {s g : Bool} : (mvI s g = 1) = ((s && !g) = true) := by cases s <;> cases g <;> decide
/-- one word more -/
theorem big1 {n c s : Nat} (hn : n ≤ 10) {A : Nat → Bool} {K : Nat → Nat → Bool} (hc1 : c < 2 ^ n) (hc : ∀ k, k < 32 → bt (nI c) k = (decide (k < n) && A k)) (hs : sb s c = true) (hs2 : s < 2147483648) {w : Nat} (hw : w < n) (hA : A w = true) (hb : bt (nI s) w = false) : ∃ g, g < 1024 ∧ nI s ||| one w = nI g ∧ s < g ∧ sb s g = true ∧ sb g c = true := by
  have hp := pow_le10 hn
  have hin : ∀ i, i < 32 → bt (nI s ||| one w) i = true → bt (nI c) i = true := by
    intro i hi h
    rw [b_or, b_one (by omega) hi, Bool.or_eq_true, decide_eq_true_eq] at h
    rcases h with h | h
    · exact sb_t.mp hs i hi h
    · rw [h, hc w (by omega), decide_eq_true hw, hA]; rfl
  obtain ⟨g, hg, eg⟩ := b_small (x := nI s ||| one w) (fun i hi h10 => by
    cases h : bt (nI s ||| one w) i
    · rfl
    · have := hin i hi h
      rw [hc i hi, Bool.and_eq_true, decide_eq_true_eq] at this
      omega)
  have h1 : sb s g = true := sb_t.mpr (fun i hi h => by rw [← eg, b_or, h]; rfl)
  refine ⟨g, hg, eg, ?_, h1, sb_t.mpr (fun i hi h => hin i hi (by rw [eg]; exact h))⟩
  have := sb_le hs2 (by omega) h1
  rcases Nat.lt_or_ge s g with h | h
  · exact h
  · have e : s = g := by omega
    rw [e, ← eg, b_or, b_one (by omega) (by omega), decide_eq_true rfl, Bool.or_true] at hb
    cases hb
theorem hg_w {n c s : Nat} (hn : n ≤ 10) {A : Nat → Bool} {K : Nat → Nat → Bool} (hc1 : c < 2 ^ n) (hc : ∀ k, k < 32 → bt (nI c) k = (decide (k < n) && A k)) (hs : sb s c = true) (hs2 : s < 2147483648) : hg n A K s = true ↔ ∃ w g, w < n ∧ A w = true ∧ bt (nI s) w = false ∧ nI s ||| one w = nI g ∧ g < 1024 ∧ (sdn n A K g || hg n A K g) = true := by
  have hp := pow_le10 hn
  constructor
  · intro h
    unfold hg at h
    obtain ⟨o, ho, h1⟩ := anyB_t.mp h
    rw [Bool.and_eq_true, Bool.and_eq_true, decide_eq_true_eq] at h1
    obtain ⟨h1, h2, h3⟩ := h1
    have hw : ∃ w, w < 32 ∧ bt (nI o) w = true ∧ bt (nI s) w = false := by
      apply Classical.byContradiction
      intro hno
      have := sb_le (k := o) (o := s) (by omega) hs2 (sb_t.mpr (fun i hi hb => by
        cases hx : bt (nI s) i
        · exact absurd ⟨i, hi, hb, hx⟩ hno
        · rfl))
      omega
    obtain ⟨w, hw1, hw2, hw3⟩ := hw
    obtain ⟨hw4, hw5⟩ := sdn_in h2 w hw1 hw2
    obtain ⟨g, hg1, eg, hsg, hsg2, hgc⟩ := big1 (K := K) hn hc1 hc hs hs2 hw4 hw5 hw3
    refine ⟨w, g, hw4, hw5, hw3, eg, hg1, ?_⟩
    have hgo : sb g o = true := sb_t.mpr (fun i hi hb => by
      rw [← eg, b_or, b_one (by omega) hi, Bool.or_eq_true, decide_eq_true_eq] at hb
      rcases hb with hb | hb
      · exact sb_t.mp h3 i hi hb
      · rw [hb]; exact hw2)
    have hle := sb_le (by omega) (by omega) hgo
    rcases Nat.lt_or_ge g o with h | h
    · rw [Bool.or_eq_true]
      right
      unfold hg
      exact anyB_t.mpr ⟨o, ho, by rw [decide_eq_true h, h2, hgo]; rfl⟩
    · rw [show g = o by omega, h2]
      rfl
  · rintro ⟨w, g, hw, hA, hb, eg, hg1, h⟩
    obtain ⟨g', hg1', eg', hsg, hsg2, hgc⟩ := big1 (K := K) hn hc1 hc hs hs2 hw hA hb
    have e : g' = g := by
      rw [eg, neq (by omega) (by omega)] at eg'
      exact eg'.symm
    subst e
    have hgc2 := sb_le (by omega) (by omega) hgc
    rw [Bool.or_eq_true] at h
    unfold hg at h ⊢
    rcases h with h | h
    · exact anyB_t.mpr ⟨g', by omega, by rw [decide_eq_true hsg, h, hsg2]; rfl⟩
    · obtain ⟨o, ho, h1⟩ := anyB_t.mp h
      rw [Bool.and_eq_true, Bool.and_eq_true, decide_eq_true_eq] at h1
      exact anyB_t.mpr ⟨o, ho, by rw [decide_eq_true (show s < o by omega), h1.2.1, sb_tr hsg2 h1.2.2]; rfl⟩
theorem hasG_ok {M : Mem} {n c s : Nat} {A : Nat → Bool} {K : Nat → Nat → Bool} (h : Tc M n A K) (hc1 : c < 2 ^ n) (h6 : M.1 6 = nI c) (hs : sb s c = true) (hs2 : s < 1024) (hm : ∀ t, s < t → t ≤ c → sb t c = true → M.2 17 t = mvI (sdn n A K t) (hg n A K t)) : F_X0_hasGreater (nI s) M = some (if hg n A K s = true then 1 else 0, M) := by
  have hn := h.1
  have hp := pow_le10 hn
  have hc : ∀ k, k < 32 → bt (nI c) k = (decide (k < n) && A k) := by rw [← h6]; exact h.2.2.1
  have key : ∀ (d i m : Nat), i + d = n → d < m → (∀ w g, w < i → A w = true → bt (nI s) w = false → nI s ||| one w = nI g → g < 1024 → (sdn n A K g || hg n A K g) = false) → F_X0_hasGreater_2 m (nI s) (nI i) M = some (if hg n A K s = true then 1 else 0, M) := by
    intro d
    induction d with
    | zero =>
      intro i m hi hm' hno
      obtain ⟨m, rfl⟩ : ∃ q, m = q + 1 := ⟨m - 1, by omega⟩
      obtain rfl : i = n := by omega
      unfold F_X0_hasGreater_2
      rw [h.2.1, if_pos (by rw [nle (by omega) (by omega)]; omega), if_neg]
      intro hg1
      obtain ⟨w, g, hw, hA, hb, eg, hg2, h3⟩ := (hg_w hn hc1 hc hs (by omega)).mp hg1
      rw [hno w g hw hA hb eg hg2] at h3
      cases h3
    | succ d ih =>
      intro i m hi hm' hno
      obtain ⟨m, rfl⟩ : ∃ q, m = q + 1 := ⟨m - 1, by omega⟩
      have ih := ih (i + 1) m (by omega) (by omega)
      have hin : i < n := by omega
      unfold F_X0_hasGreater_2 F_X0_hasGreater_45
      rw [h.2.1, if_neg (by rw [nle (by omega) (by omega)]; omega), h6, show (1 : Int32) <<< (nI i &&& 31) = one i from rfl, nI_s]
      simp only [and_one (show i < 32 by omega)]
      rw [b_clr _ _ (by omega), hc i (by omega), decide_eq_true hin, Bool.true_and]
      cases hq : (A i && !(bt (nI s) i))
      · rw [if_pos rfl]
        refine ih (fun w g hw hA hb eg hg2 => ?_)
        by_cases e : w = i
        · subst e; rw [hA, hb] at hq; cases hq
        · exact hno w g (by omega) hA hb eg hg2
      · rw [if_neg (by decide)]
        rw [Bool.and_eq_true, Bool.not_eq_true'] at hq
        obtain ⟨g, hg1, eg, hsg, hsg2, hgc⟩ := big1 (K := K) hn hc1 hc hs (by omega) hin hq.1 hq.2
        have hgc2 := sb_le (by omega) (by omega) hgc
        rw [eg, ckN hg1 (by omega), ncl (by omega), hm g hsg hgc2 hgc]
        simp only [mvI_0]
        cases h3 : (sdn n A K g || hg n A K g)
        · rw [if_pos rfl]
          refine ih (fun w g' hw hA hb eg' hg2 => ?_)
          by_cases e : w = i
          · subst e
            rw [eg, neq (by omega) (by omega)] at eg'
            rw [← eg']
            exact h3
          · exact hno w g' (by omega) hA hb eg' hg2
        · rw [if_neg (by decide), if_pos]
          exact (hg_w hn hc1 hc hs (by omega)).mpr ⟨i, g, hin, hq.1, hq.2, eg, hg1, h3⟩
  unfold F_X0_hasGreater
  exact key n 0 fu (by omega) (by unfold fu; omega) (fun w g hw => absurd hw (by omega))
theorem m1lt : (nI 0 + (-1) : Int32) < 0 := by decide
theorem mark_l {M : Mem} {n c : Nat} {A : Nat → Bool} {K : Nat → Nat → Bool} (h : Tc M n A K) (hK : KP n A K) (hc1 : c < 2 ^ n) (h6 : M.1 6 = nI c) : ∀ (s m : Nat) (f : Nat → Int32), s ≤ c → s + 1 < m → (∀ t, s < t → t ≤ c → sb t c = true → f t = mvI (sdn n A K t) (hg n A K t)) → ∃ f', F_X0_markFullSets_5 m (nI s) (sr M 17 f) = some (sr M 17 f') ∧ ∀ t, t ≤ c → sb t c = true → f' t = mvI (sdn n A K t) (hg n A K t) := by
  have hn := h.1
  have hp := pow_le10 hn
  have hcb : ∀ k, k < 32 → bt (nI c) k = (decide (k < n) && A k) := by rw [← h6]; exact h.2.2.1
  have fin : ∀ (m : Nat) (f : Nat → Int32), 0 < m → F_X0_markFullSets_5 m (nI 0 + (-1)) (sr M 17 f) = some (sr M 17 f) := by
    intro m f hm
    obtain ⟨m, rfl⟩ : ∃ q, m = q + 1 := ⟨m - 1, by omega⟩
    unfold F_X0_markFullSets_5
    rw [if_pos m1lt]
  -- one turn
  have turn : ∀ (s m : Nat) (f : Nat → Int32), s ≤ c → (∀ t, s < t → t ≤ c → sb t c = true → f t = mvI (sdn n A K t) (hg n A K t)) → ∃ f', F_X0_markFullSets_5 (m + 1) (nI s) (sr M 17 f) = F_X0_markFullSets_5 m (nI s + (-1)) (sr M 17 f') ∧ ∀ t, s ≤ t → t ≤ c → sb t c = true → f' t = mvI (sdn n A K t) (hg n A K t) := by
    intro s m f hs hf
    rw [F_X0_markFullSets_5, if_neg (nI_pos (by omega)), show (sr M 17 f).1 6 = nI c from h6]
    by_cases c1 : nI s &&& (nI c ^^^ (-1)) = 0
    rotate_left
    · rw [if_neg c1]
      refine ⟨f, rfl, fun t h1 h2 h3 => ?_⟩
      by_cases e : t = s
      · subst e; exact absurd (by unfold sb at h3; rwa [decide_eq_true_eq] at h3) c1
      · exact hf t (by omega) h2 h3
    have hsc : sb s c = true := by unfold sb; rw [decide_eq_true c1]
    have hT : Tc (sr M 17 f) n A K := h
    rw [if_pos c1, afi_ok hT hK, bdS]
    simp only [ib]
    have e33 : ∀ (q : Bool), F_X0_markFullSets_33 (F_X0_markFullSets_5 m) (nI s) (if q = true then 1 else 0) (sr M 17 f) = F_X0_markFullSets_5 m (nI s + (-1)) (sr M 17 (upd f s (mvI q (hg n A K s)))) := by
      intro q
      unfold F_X0_markFullSets_33 F_X0_markFullSets_56
      rw [hasG_ok hT hc1 h6 hsc (by omega) (fun t h1 h2 h3 => hf t h1 h2 h3), bdS]
      simp only [ib]
      rw [ckN (by omega) (by omega), ncl (by omega), sa_sr, sa_sr, sr_sr, sr_sr, show (sr M 17 f).2 17 = f from rfl]
      cases hg n A K s
      · rw [if_pos rfl]
        cases q <;> rfl
      · rw [if_neg (by decide), ckN (show s < 1024 by omega) (by omega)]
        cases q <;> rfl
    refine ⟨upd f s (mvI (sdn n A K s) (hg n A K s)), ?_, fun t h1 h2 h3 => ?_⟩
    · have := e33 (sdn n A K s)
      rw [← this]
      unfold sdn
      cases sdB n A K (nI s)
      · rfl
      · rfl
    · by_cases e : t = s
      · subst e; rw [upd_s]
      · rw [upd_n e]; exact hf t (by omega) h2 h3
  intro s
  induction s with
  | zero =>
    intro m f hs hm hf
    obtain ⟨m, rfl⟩ : ∃ q, m = q + 1 := ⟨m - 1, by omega⟩
    obtain ⟨f', e, hf'⟩ := turn 0 m f hs hf
    exact ⟨f', e.trans (fin m f' (by omega)), fun t h1 h2 => hf' t (by omega) h1 h2⟩
  | succ s ih =>
    intro m f hs hm hf
    obtain ⟨m, rfl⟩ : ∃ q, m = q + 1 := ⟨m - 1, by omega⟩
    obtain ⟨f', e, hf'⟩ := turn (s + 1) m f hs hf
    rw [nI_p (by omega) (by omega), show s + 1 - 1 = s by omega] at e
    obtain ⟨f'', e2, h2⟩ := ih m f' (by omega) (by omega) (fun t h1 h2 h3 => hf' t (by omega) h2 h3)
    exact ⟨f'', e.trans e2, h2⟩
/-- the class, with its full sets marked -/
def Fc (M : Mem) (n c : Nat) (A : Nat → Bool) (K : Nat → Nat → Bool) : Prop := Tc M n A K ∧ c < 2 ^ n ∧ M.1 6 = nI c ∧ ∀ t, t ≤ c → sb t c = true → M.2 17 t = mvI (sdn n A K t) (hg n A K t)
theorem mark_ok {M : Mem} {n : Nat} {A : Nat → Bool} {K : Nat → Nat → Bool} (h : Tc M n A K) (hK : KP n A K) : ∃ f c, F_X0_markFullSets M = some (sr M 17 f) ∧ Fc (sr M 17 f) n c A K := by
  have hn := h.1
  have hp := pow_le10 hn
  obtain ⟨c, hc, ec⟩ := kp_nI hn (kp := M.1 6) (fun i hi hni => by rw [h.2.2.1 i hi, decide_eq_false (by omega), Bool.false_and])
  obtain ⟨f, e, hf⟩ := mark_l h hK hc ec c fu (M.2 17) (by omega) (by unfold fu; omega) (fun t h1 h2 => absurd h1 (by omega))
  rw [sr_self, ← ec] at e
  exact ⟨f, c, e, h, hc, ec, hf⟩
theorem isFS_ok {M : Mem} {n c : Nat} {A : Nat → Bool} {K : Nat → Nat → Bool} (h : Fc M n c A K) {k : Nat} (hk : k < 1024) : F_X0_isFullSet (nI k) M = some (if fullB n A K k = true then 1 else 0, M) := by
  obtain ⟨hT, hc, h6, hm⟩ := h
  have hn := hT.1
  have hp := pow_le10 hn
  have hcb : ∀ k, k < 32 → bt (nI c) k = (decide (k < n) && A k) := by rw [← h6]; exact hT.2.2.1
  unfold F_X0_isFullSet F_X0_isFullSet_25 fullB
  rw [h6]
  by_cases c1 : nI k &&& (nI c ^^^ (-1)) = 0
  · have hkc : sb k c = true := by unfold sb; rw [decide_eq_true c1]
    rw [if_pos c1, ckN hk (by omega), ncl (by omega), hm k (sb_le (by omega) (by omega) hkc) hkc]
    simp only [mvI_1]
    cases (sdn n A K k && !(hg n A K k)) <;> rfl
  · rw [if_neg c1]
    cases h1 : sdn n A K k
    · rfl
    · exact absurd (by have := sdn_c hcb h1; unfold sb at this; rwa [decide_eq_true_eq] at this) c1
theorem full_c {n c : Nat} {A : Nat → Bool} {K : Nat → Nat → Bool} (hc1 : c < 2 ^ n) (hn : n ≤ 10) (hc : ∀ k, k < 32 → bt (nI c) k = (decide (k < n) && A k)) {k : Nat} (hk : c < k) (hk2 : k < 2147483648) : fullB n A K k = false := by
  have hp := pow_le10 hn
  unfold fullB
  cases h1 : sdn n A K k
  · rfl
  · have := sb_le hk2 (by omega) (sdn_c hc h1)
    omega
