/-! words heard at once: the model -/
def un (rows : Nat → Int32) (set : Int32) : Nat → Int32
  | 0 => 0
  | k + 1 => if bt set k = true then un rows set k ||| rows k else un rows set k
theorem un_b (rows : Nat → Int32) (set : Int32) (j : Nat) : ∀ k, bt (un rows set k) j = anyB (fun w => bt set w && bt (rows w) j) k := by
  intro k
  induction k with
  | zero => exact b_0 j
  | succ k ih =>
    show bt (if bt set k = true then un rows set k ||| rows k else un rows set k) j = (anyB (fun w => bt set w && bt (rows w) j) k || (bt set k && bt (rows k) j))
    rw [← ih]
    cases bt set k
    · rw [if_neg (by decide), Bool.false_and, Bool.or_false]
    · rw [if_pos rfl, b_or, Bool.true_and]
theorem union_ok {M : Mem} {n : Nat} (hn : n ≤ 10) (h0 : M.1 0 = nI n) {a : Nat} (ha : al a = 10) (set : Int32) : F_X0_unionOver a set M = some (un (M.2 a) set n, M) := by
  have key : ∀ (d i m : Nat), i + d = n → d < m → F_X0_unionOver_5 a m set (un (M.2 a) set i) (nI i) M = some (un (M.2 a) set n, M) := by
    intro d
    induction d with
    | zero =>
      intro i m hi hm
      obtain ⟨m, rfl⟩ : ∃ q, m = q + 1 := ⟨m - 1, by omega⟩
      obtain rfl : i = n := by omega
      unfold F_X0_unionOver_5
      rw [h0, if_pos (by rw [nle (by omega) (by omega)]; omega)]
    | succ d ih =>
      intro i m hi hm
      obtain ⟨m, rfl⟩ : ∃ q, m = q + 1 := ⟨m - 1, by omega⟩
      have ih := ih (i + 1) m (by omega) (by omega)
      rw [show un (M.2 a) set (i + 1) = if bt set i = true then un (M.2 a) set i ||| M.2 a i else un (M.2 a) set i from rfl] at ih
      unfold F_X0_unionOver_5 F_X0_unionOver_33
      rw [h0, if_neg (by rw [nle (by omega) (by omega)]; omega), ha, ckN (by omega) (by omega), ncl (by omega), nI_s]
      simp only [b_tst0 _ (show i < 32 by omega)]
      cases h : bt set i
      · rw [if_pos rfl]
        rw [h, if_neg (by decide)] at ih
        exact ih
      · rw [if_neg (by decide)]
        rw [h, if_pos rfl] at ih
        exact ih
  unfold F_X0_unionOver
  exact key n 0 fu (by omega) (by unfold fu; omega)
def mk (M : Mem) (p : Int32) (g : Nat → Int32) : Mem := sr (sv M 47 p) 34 g
def hit (kd gp ab L : Nat → Nat) (ps : Nat → Bool) (a b : Nat) : Bool := (ps a && decide (ab a = b)) || (foe kd ab a b && (decide (L 1 = 0) || (decide (L 1 = 1) && decide (a < b)) || (decide (L 1 = 2) && !(decide (pc (nI (gp a)) < pc (nI (gp b)))))))
theorem sk_hit {kd gp ab L : Nat → Nat} {ps : Nat → Bool} {n : Nat} {set : Int32} (a b : Nat) : sk kd gp ab L ps n set a b = (decide (a < n) && decide (b < n) && (am gp L set a && am gp L set b) && !(decide (a = b)) && hit kd gp ab L ps a b) := rfl
theorem hits_ok {M : Mem} {n : Nat} {kd gp ab L : Nat → Nat} {ps : Nat → Bool} (hC : MX M n kd gp ab ps) (hB : LB L) {a b : Nat} (ha : a < n) (hb : b < n) : F_X7_hits (nI a) (nI b) (nI (L 1)) M = some (if hit kd gp ab L ps a b = true then 1 else 0, M) := by
  have hn := hC.1
  obtain ⟨-, g1, a1⟩ := hC.2.2.1 a ha
  obtain ⟨-, g2, -⟩ := hC.2.2.1 b hb
  obtain ⟨-, -, -, a2, -⟩ := hC.2.2.2.1 a ha
  have p1 := pc_le (nI (gp a))
  have p2 := pc_le (nI (gp b))
  have hc := hB.2.1
  have e0 : (nI (L 1) = 0) = (L 1 = 0) := by rw [nlit 0, neq (by omega) (by omega)]
  have e1 : (nI (L 1) = 1) = (L 1 = 1) := by rw [nlit 1, neq (by omega) (by omega)]
  have e2 : (nI (L 1) = 2) = (L 1 = 2) := by rw [nlit 2, neq (by omega) (by omega)]
  have h23 : F_X7_hits_23 (nI a) (nI b) (nI (L 1)) M = some (if (foe kd ab a b && (decide (L 1 = 0) || (decide (L 1 = 1) && decide (a < b)) || (decide (L 1 = 2) && !(decide (pc (nI (gp a)) < pc (nI (gp b))))))) = true then 1 else 0, M) := by
    unfold F_X7_hits_23 F_X7_hits_70 F_X7_hits_82 F_X7_hits_86
    rw [quar7 hC ha hb M rfl rfl, bdS]
    simp only [ib]
    cases hf : foe kd ab a b
    · rfl
    rw [if_neg (by decide), ckN (by omega) (by omega), ncl (by omega), g1, ones_ok, bdS, ckN (by omega) (by omega), ncl (by omega), g2, ones_ok, bdS, Bool.true_and]
    simp only [e0, e1, e2, nlt (show a < 2147483648 by omega) (show b < 2147483648 by omega), nlt (show pc (nI (gp a)) < 2147483648 by omega) (show pc (nI (gp b)) < 2147483648 by omega)]
    rcases (show L 1 = 0 ∨ L 1 = 1 ∨ L 1 = 2 by omega) with c | c | c
    · simp [c]
    · by_cases h3 : a < b
      · simp [c, h3]
      · simp [c, h3]
    · by_cases h3 : pc (nI (gp a)) < pc (nI (gp b))
      · simp [c, h3]
      · simp [c, h3]
  unfold F_X7_hits hit
  rw [has7 _ (by omega), bdS, hC.2.2.2.2 a (by omega), decide_eq_true ha, Bool.true_and, h23]
  simp only [ib]
  cases h1 : ps a
  · rw [if_pos rfl, Bool.false_and, Bool.false_or]
  · rw [if_neg (by decide), ckN (by omega) (by omega), ncl (by omega), a1]
    by_cases h2 : ab a = b
    · rw [if_pos (by rw [h2]), decide_eq_true h2]
      rfl
    · rw [if_neg (by rw [neq (by omega) (by omega)]; exact h2), decide_eq_false h2, Bool.and_false, Bool.false_or]
theorem or0 (x : Int32) : x ||| 0 = x := b_ext (fun i hi => by rw [b_or, b_0, Bool.or_false])
theorem mk_s (M : Mem) (p : Int32) (g : Nat → Int32) (w : Nat) (x : Int32) : sa (mk M p g) 34 w x = mk M p (upd g w x) := by
  rw [sa_sr]
  unfold mk
  rw [sr_sr]
  rfl
theorem ma94 {M : Mem} {n j : Nat} {kd gp ab L : Nat → Nat} {ps : Nat → Bool} {set p : Int32} (hC : MX M n kd gp ab ps) (hj : j < 2) (hL : LY M j L) (hB : LB L) (hp : ∀ k, k < 32 → bt p k = (decide (k < n) && am gp L set k)) (k76 : Int32 → Int32 → Mem → Option Mem) {w : Nat} (hw : w < n) : ∀ (d i m : Nat) (g : Nat → Int32), i + d = n → d < m → (∀ k, k < 32 → bt (g w) k = (decide (k < i) && sk kd gp ab L ps n set k w)) → ∃ g', F_X7_meetsAll_94 k76 m (nI j) (nI w) (nI i) (mk M p g) = k76 (nI j) (nI (w + 1)) (mk M p g') ∧ (∀ k, k < 32 → bt (g' w) k = (decide (k < n) && sk kd gp ab L ps n set k w)) ∧ ∀ v, v ≠ w → g' v = g v := by
  have hn := hC.1
  have hB1 := hB.2.1
  intro d
  induction d with
  | zero =>
    intro i m g hi hm hg
    obtain ⟨m, rfl⟩ : ∃ q, m = q + 1 := ⟨m - 1, by omega⟩
    obtain rfl : i = n := by omega
    refine ⟨g, ?_, hg, fun _ _ => rfl⟩
    unfold F_X7_meetsAll_94
    rw [show (mk M p g).1 40 = M.1 40 from rfl, hC.2.1, if_pos (by rw [nle (by omega) (by omega)]; omega), nI_s]
  | succ d ih =>
    intro i m g hi hm hg
    obtain ⟨m, rfl⟩ : ∃ q, m = q + 1 := ⟨m - 1, by omega⟩
    have hin : i < n := by omega
    have ih := fun g => ih (i + 1) m g (by omega) (by omega)
    have hsk := sk_hit (kd := kd) (gp := gp) (ab := ab) (L := L) (ps := ps) (n := n) (set := set) i w
    rw [decide_eq_true hin, decide_eq_true hw, Bool.true_and, Bool.true_and] at hsk
    have hno : sk kd gp ab L ps n set i w = false → ∀ x, x = g w → ∃ g', F_X7_meetsAll_94 k76 m (nI j) (nI w) (nI (i + 1)) (mk M p (upd g w x)) = k76 (nI j) (nI (w + 1)) (mk M p g') ∧ (∀ k, k < 32 → bt (g' w) k = (decide (k < n) && sk kd gp ab L ps n set k w)) ∧ ∀ v, v ≠ w → g' v = g v := by
      intro h0 x hx
      rw [hx, upd_self]
      refine ih g (fun k hk => ?_)
      rw [hg k hk]
      by_cases e : k = i
      · subst e; rw [h0, Bool.and_false, Bool.and_false]
      · congr 1; exact decide_eq_decide.mpr (by omega)
    have h136 : sk kd gp ab L ps n set i w = false → ∃ g', F_X7_meetsAll_136 k76 (F_X7_meetsAll_94 k76 m) (nI j) (nI w) (nI i) (mk M p g) = k76 (nI j) (nI (w + 1)) (mk M p g') ∧ (∀ k, k < 32 → bt (g' w) k = (decide (k < n) && sk kd gp ab L ps n set k w)) ∧ ∀ v, v ≠ w → g' v = g v := by
      intro h0
      unfold F_X7_meetsAll_136 F_X7_meetsAll_137
      rw [ckN (by omega) (by omega), if_pos rfl, ckN (by omega) (by omega), ncl (by omega), show (mk M p g).2 34 = g from rfl, or0, mk_s, nI_s]
      exact hno h0 (g w) rfl
    unfold F_X7_meetsAll_94
    rw [show (mk M p g).1 40 = M.1 40 from rfl, hC.2.1, if_neg (by rw [nle (by omega) (by omega)]; omega)]
    by_cases e : i = w
    · rw [if_pos (by rw [e])]
      exact h136 (by rw [e, sk_self])
    rw [if_neg (by rw [neq (by omega) (by omega)]; exact e), has7 _ (by omega), bdS, show (mk M p g).1 47 = p from rfl, hp w (by omega), decide_eq_true hw, Bool.true_and]
    simp only [ib]
    cases h1 : am gp L set w
    · rw [if_pos rfl]
      exact h136 (by rw [hsk, h1, Bool.and_false]; rfl)
    rw [if_neg (by decide), has7 _ (by omega), bdS, hp i (by omega), decide_eq_true hin, Bool.true_and]
    simp only [ib]
    cases h2 : am gp L set i
    · rw [if_pos rfl]
      exact h136 (by rw [hsk, h2]; rfl)
    rw [if_neg (by decide)]
    rw [h1, h2, decide_eq_false e, show (true && true && !false) = true from rfl, Bool.true_and] at hsk
    unfold F_X7_meetsAll_137
    rw [ckN (by omega) (by omega), if_neg (by decide), nlit 4, pk_mul, nI_s, ckN (by omega) (by omega), ncl (show 4 * j + 1 < 2147483648 by omega), show (mk M p g).2 32 = M.2 32 from rfl, hL 1 (by omega), hits_ok (M := mk M p g) (kd := kd) (gp := gp) (ab := ab) (ps := ps) (n := n) hC hB hin hw, bdS]
    simp only [ib]
    rw [ckN (by omega) (by omega), ckN (by omega) (by omega), ncl (by omega), show (mk M p g).2 34 = g from rfl, or0, mk_s, mk_s, nI_s, show (1 : Int32) <<< (nI i &&& 31) = one i from rfl]
    cases h3 : hit kd gp ab L ps i w
    · rw [if_pos rfl]
      exact hno (by rw [hsk]; exact h3) (g w) rfl
    · rw [if_neg (by decide)]
      obtain ⟨g', e1, e2, e3⟩ := ih (upd g w (g w ||| one i)) (fun k hk => by
        rw [upd_s, b_or, b_one (by omega) hk, hg k hk]
        by_cases e : k = i
        · subst e; rw [hsk, h3]; simp
        · rw [decide_eq_false e, Bool.or_false]
          congr 1; exact decide_eq_decide.mpr (by omega))
      exact ⟨g', e1, e2, fun v hv => by rw [e3 v hv, upd_n hv]⟩
theorem ma76 {M : Mem} {n j : Nat} {kd gp ab L : Nat → Nat} {ps : Nat → Bool} {set p : Int32} (hC : MX M n kd gp ab ps) (hj : j < 2) (hL : LY M j L) (hB : LB L) (hp : ∀ k, k < 32 → bt p k = (decide (k < n) && am gp L set k)) : ∀ (d i m : Nat) (g : Nat → Int32), i + d = n → d < m → (∀ w, w < i → ∀ k, k < 32 → bt (g w) k = sk kd gp ab L ps n set k w) → ∃ g', F_X7_meetsAll_76 m (nI j) (nI i) (mk M p g) = some (mk M p g') ∧ ∀ w, w < n → ∀ k, k < 32 → bt (g' w) k = sk kd gp ab L ps n set k w := by
  have hn := hC.1
  intro d
  induction d with
  | zero =>
    intro i m g hi hm hg
    obtain ⟨m, rfl⟩ : ∃ q, m = q + 1 := ⟨m - 1, by omega⟩
    obtain rfl : i = n := by omega
    refine ⟨g, ?_, hg⟩
    unfold F_X7_meetsAll_76
    rw [show (mk M p g).1 40 = M.1 40 from rfl, hC.2.1, if_pos (by rw [nle (by omega) (by omega)]; omega)]
  | succ d ih =>
    intro i m g hi hm hg
    obtain ⟨m, rfl⟩ : ∃ q, m = q + 1 := ⟨m - 1, by omega⟩
    unfold F_X7_meetsAll_76
    rw [show (mk M p g).1 40 = M.1 40 from rfl, hC.2.1, if_neg (by rw [nle (by omega) (by omega)]; omega), ckN (by omega) (by omega), ncl (by omega), mk_s]
    obtain ⟨g', e1, e2, e3⟩ := ma94 hC hj hL hB hp (F_X7_meetsAll_76 m) (show i < n by omega) n 0 fu (upd g i 0) (by omega) (by unfold fu; omega) (fun k hk => by rw [upd_s, b_0]; simp)
    rw [show (0 : Int32) = nI 0 from rfl] at e1 ⊢
    rw [e1]
    refine ih (i + 1) m g' (by omega) (by omega) (fun w hw k hk => ?_)
    by_cases e : w = i
    · subst e
      rw [e2 k hk]
      unfold sk
      cases decide (k < n) <;> rfl
    · rw [e3 w e, upd_n e]
      exact hg w (by omega) k hk
theorem ma16 {M : Mem} {n j : Nat} {kd gp ab L : Nat → Nat} {ps : Nat → Bool} {set : Int32} (hC : MX M n kd gp ab ps) (hj : j < 2) (hL : LY M j L) (hB : LB L) : ∀ (d i m : Nat) (p : Int32), i + d = n → d < m → (∀ k, k < 32 → bt p k = (decide (k < i) && am gp L set k)) → ∃ p' g', F_X7_meetsAll_16 m (nI j) set (nI i) (sv M 47 p) = some (mk M p' g') ∧ (∀ k, k < 32 → bt p' k = (decide (k < n) && am gp L set k)) ∧ ∀ w, w < n → ∀ k, k < 32 → bt (g' w) k = sk kd gp ab L ps n set k w := by
  have hn := hC.1
  have hB0 := hB.1
  intro d
  induction d with
  | zero =>
    intro i m p hi hm hp
    obtain ⟨m, rfl⟩ : ∃ q, m = q + 1 := ⟨m - 1, by omega⟩
    obtain rfl : i = n := by omega
    obtain ⟨g', e, h⟩ := ma76 hC hj hL hB hp i 0 fu (M.2 34) (by omega) (by unfold fu; omega) (fun w hw => absurd hw (by omega))
    refine ⟨p, g', ?_, hp, h⟩
    unfold F_X7_meetsAll_16
    rw [show (sv M 47 p).1 40 = M.1 40 from rfl, hC.2.1, if_pos (by rw [nle (by omega) (by omega)]; omega)]
    unfold mk at e
    rw [show sr (sv M 47 p) 34 (M.2 34) = sv M 47 p from sr_self (sv M 47 p) 34] at e
    exact e
  | succ d ih =>
    intro i m p hi hm hp
    obtain ⟨m, rfl⟩ : ∃ q, m = q + 1 := ⟨m - 1, by omega⟩
    have hin : i < n := by omega
    have ih := fun p => ih (i + 1) m p (by omega) (by omega)
    obtain ⟨-, g1, -⟩ := hC.2.2.1 i hin
    have p1 := pc_le (nI (gp i))
    have hno : am gp L set i = false → ∀ k, k < 32 → bt p k = (decide (k < i + 1) && am gp L set k) := by
      intro h0 k hk
      rw [hp k hk]
      by_cases e : k = i
      · subst e; rw [h0, Bool.and_false, Bool.and_false]
      · congr 1; exact decide_eq_decide.mpr (by omega)
    unfold F_X7_meetsAll_16
    rw [show (sv M 47 p).1 40 = M.1 40 from rfl, hC.2.1, if_neg (by rw [nle (by omega) (by omega)]; omega), has7 _ (by omega), bdS, show (sv M 47 p).1 47 = p from rfl, or0, sv_sv, nI_s]
    simp only [ib]
    cases h1 : bt set i
    · rw [if_pos rfl]
      exact ih p (hno (by unfold am; rw [h1]; rfl))
    rw [if_neg (by decide), ckN (by omega) (by omega), ncl (by omega), show (sv M 47 p).2 25 = M.2 25 from rfl, g1, ones_ok, bdS, nlit 4, pk_mul, ckN (by omega) (by omega), ncl (by omega), show (sv M 47 p).2 32 (4 * j) = nI (L 0) from hL 0 (by omega), sv_sv, sv_sv, show (1 : Int32) <<< (nI i &&& 31) = one i from rfl]
    by_cases h2 : pc (nI (gp i)) < L 0
    · rw [if_pos (by rw [nlt (by omega) (by omega)]; exact h2)]
      exact ih p (hno (by unfold am; rw [decide_eq_true h2, Bool.not_true, Bool.and_false]))
    · rw [if_neg (by rw [nlt (by omega) (by omega)]; exact h2)]
      have hwa : am gp L set i = true := by unfold am; rw [h1, decide_eq_false h2]; rfl
      refine ih (p ||| one i) (fun k hk => ?_)
      rw [b_or, b_one (by omega) hk, hp k hk]
      by_cases e : k = i
      · subst e; rw [hwa]; simp
      · rw [decide_eq_false e, Bool.or_false]
        congr 1; exact decide_eq_decide.mpr (by omega)
/-- what the class, what the model has laid of words heard at once -/
def Tc (M : Mem) (n : Nat) (A : Nat → Bool) (K : Nat → Nat → Bool) : Prop := n ≤ 10 ∧ M.1 0 = nI n ∧ (∀ k, k < 32 → bt (M.1 6) k = (decide (k < n) && A k)) ∧ RR (M.2 14) (M.2 15) K
def Tm (M : Mem) (n : Nat) (A : Nat → Bool) (K : Nat → Nat → Bool) : Prop := n ≤ 10 ∧ M.1 40 = nI n ∧ (∀ k, k < 32 → bt (M.1 47) k = (decide (k < n) && A k)) ∧ ∀ w, w < n → ∀ k, k < 32 → bt (M.2 34 w) k = K k w
theorem meets_ok2 {M : Mem} {n j : Nat} {kd gp ab : Nat → Nat} {ps : Nat → Bool} {kp : Int32} {L : Nat → Nat → Nat} (h : Cx M n kd gp ab ps kp L) (hj : j < 2) (set : Int32) : ∃ M2, F_X7_meetsAll (nI j) set M = some M2 ∧ FS M M2 ∧ Tm M2 n (am gp (L j) set) (sk kd gp ab (L j) ps n set) := by
  obtain ⟨l1, l2, l3⟩ := h.2.2.2.1 j hj
  obtain ⟨r, er⟩ := l3 M (FS_r M).q
  have f1 := FS_rl M j r (L j)
  have f2 := FS_t f1 (FS_lp (rl M j r (L j)))
  have h2 := Cx_FS h f2
  unfold F_X7_meetsAll
  rw [er, bdvS, h.2.2.2.2 _ f1.q, bdvS]
  obtain ⟨p, g, e, g1, g2⟩ := ma16 (set := set) (h2.mx rfl) hj (fun w hw => rl_told (r := r) hw) l2 n 0 fu 0 (by omega) (by have := h.1.1; unfold fu; omega) (fun k hk => by rw [b_0]; simp)
  refine ⟨_, e, FS_t f2 (FS_t (FS_sv p (by omega)) (FS_sr g (by omega))), h.1.1, h2.2.1.1, g1, g2⟩
theorem takeUp_ok2 {M : Mem} {n j : Nat} {kd gp ab : Nat → Nat} {ps : Nat → Bool} {kp : Int32} {L : Nat → Nat → Nat} (h : Cx M n kd gp ab ps kp L) (hj : j < 2) (set : Int32) : ∃ M2, F_X0_takeUp j set M = some M2 ∧ FS M M2 ∧ Tc M2 n (am gp (L j) set) (sk kd gp ab (L j) ps n set) := by
  obtain ⟨l1, l2, -⟩ := h.2.2.2.1 j hj
  obtain ⟨p, f, g, e, h1, h2⟩ := takeUp_ok h.1 l1 l2 set
  exact ⟨_, e, FS_t (FS_sv p (by omega)) (FS_t (FS_sr f (by omega)) (FS_sr g (by omega))), h.1.1, h.1.2.1, h1, h2⟩
