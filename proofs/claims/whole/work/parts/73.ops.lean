/-! heard, head, hangs, most -/
theorem hst_up {kd gp ab L : Nat → Nat} {ps : Nat → Bool} {n w : Nat} (hw : w < 32) {S : Int32 × Int32 × Int32} {i : Nat} (hi : i < 32) (h : bt (hst kd gp ab L ps n w S).1 i = true) : bt S.1 i = true ∨ i = w := by
  have hq : ∀ k, bt (qf kd gp ab L S.1 w (S.1 ||| one w) k) i = true → bt (S.1 ||| one w) i = true := by
    intro k
    induction k with
    | zero => exact id
    | succ k ih =>
      intro h
      apply ih
      rw [show qf kd gp ab L S.1 w (S.1 ||| one w) (k + 1) = qst kd gp ab L S.1 w k (qf kd gp ab L S.1 w (S.1 ||| one w) k) from rfl] at h
      unfold qst at h
      split at h
      · rw [b_and, Bool.and_eq_true] at h
        exact h.1
      · exact h
  have hu : ∀ v (T : Int32 × Int32 × Int32), bt (und gp L v T).1 i = true → bt T.1 i = true := by
    intro v T h
    unfold und at h
    rw [b_and, Bool.and_eq_true] at h
    exact h.1
  unfold hst at h
  split at h
  · unfold bels at h
    have h2 : bt (qf kd gp ab L S.1 w (S.1 ||| one w) n) i = true := by
      split at h
      · split at h
        · exact hu _ _ h
        · split at h
          · exact hu _ _ h
          · exact h
      · exact h
    have h3 := hq n h2
    rw [b_or, b_one hw hi, Bool.or_eq_true, decide_eq_true_eq] at h3
    exact h3
  · exact Or.inl h
theorem bnf_hi {kd gp ab L : Nat → Nat} {ps : Nat → Bool} {n : Nat} {set : Int32} {i : Nat} (hi : i < 32) : ∀ {k : Nat}, k ≤ i → bt (bnf kd gp ab L ps n set k).1 i = false := by
  intro k
  induction k with
  | zero => intro _; exact b_0 i
  | succ k ih =>
    intro hk
    have ih := ih (by omega)
    rw [show bnf kd gp ab L ps n set (k + 1) = if bt set k = true then hst kd gp ab L ps n k (bnf kd gp ab L ps n set k) else bnf kd gp ab L ps n set k from rfl]
    split
    · cases h : bt (hst kd gp ab L ps n k (bnf kd gp ab L ps n set k)).1 i
      · rfl
      · rcases hst_up (by omega) hi h with h | h
        · rw [ih] at h; cases h
        · omega
    · exact ih
theorem outcome_ok {w : Nat} (hw : w < 3) (M : Mem) (S : Int32 × Int32 × Int32) (h3 : M.1 3 = S.1) (h4 : M.1 4 = S.2.1) (h5 : M.1 5 = S.2.2) : F_X1_outcome (nI w) M = some (if w = 0 then S.1 else if w = 1 then S.2.1 else S.2.2, M) := by
  unfold F_X1_outcome
  rw [h3, h4, h5]
  rcases (show w = 0 ∨ w = 1 ∨ w = 2 by omega) with rfl | rfl | rfl <;> rfl
theorem tells_ok {w : Nat} (hw : w < 3) (M : Mem) (S : Int32 × Int32 × Int32) (h3 : M.1 44 = S.1) (h4 : M.1 45 = S.2.1) (h5 : M.1 46 = S.2.2) : F_X7_tells (nI w) M = some (if w = 0 then S.1 else if w = 1 then S.2.1 else S.2.2, M) := by
  unfold F_X7_tells
  rw [h3, h4, h5]
  rcases (show w = 0 ∨ w = 1 ∨ w = 2 by omega) with rfl | rfl | rfl <;> rfl
theorem heardNow_ok {M : Mem} {n j : Nat} {kd gp ab : Nat → Nat} {ps : Nat → Bool} {kp : Int32} {L : Nat → Nat → Nat} (h : Cx M n kd gp ab ps kp L) (hj : j < 2) {w : Nat} (hw : w < 3) : ∃ M2, F_X7_heardNow (nI j) (nI w) M = some (if w = 0 then (bnf kd gp ab (L j) ps n (hon n kp) n).1 else if w = 1 then (bnf kd gp ab (L j) ps n (hon n kp) n).2.1 else (bnf kd gp ab (L j) ps n (hon n kp) n).2.2, M2) ∧ FS M M2 := by
  obtain ⟨M2, e, f, -, -, g1, g2, g3⟩ := hearsAll_ok h hj
  refine ⟨M2, ?_, f⟩
  unfold F_X7_heardNow
  rw [e, bdvS, tells_ok hw M2 _ g1 g2 g3, bdS]
theorem heard6_ok {M : Mem} {n j : Nat} {kd gp ab : Nat → Nat} {ps : Nat → Bool} {kp : Int32} {L : Nat → Nat → Nat} (h : Cx M n kd gp ab ps kp L) (hj : j < 2) {w : Nat} (hw : w < 3) : F_X6_heard (nI j) (nI w) M = some (if w = 0 then (bnf kd gp ab (L j) ps n (hon n kp) n).1 else if w = 1 then (bnf kd gp ab (L j) ps n (hon n kp) n).2.1 else (bnf kd gp ab (L j) ps n (hon n kp) n).2.2, h3 M (bnf kd gp ab (L j) ps n (hon n kp) n)) := by
  unfold F_X6_heard
  rw [show F_X6_lawOf (nI j) M = some (some j, M) by rcases (show j = 0 ∨ j = 1 by omega) with rfl | rfl <;> rfl, bdoS, ckT (dec2 hj), if_neg (nI_pos (by omega)), if_pos (by rw [nlit 2, nle (by omega) (by omega)]; omega), hon5 h, bdS, byN_ok h.1 (h.2.2.2.1 j hj).1 (h.2.2.2.1 j hj).2.1, bdvS, outcome_ok hw _ _ rfl rfl rfl, bdS]
theorem op10 (M : Mem) (hI : Inv M) (x1 x2 : Int32) : ∃ (r : Int32) (M1 M2 : Mem), F_X6_heard x1 x2 M = some (r, M1) ∧ F_X7_heard x1 x2 M1 = some (r, M2) ∧ FS M M2 := by
  obtain ⟨n, kd, gp, ab, ps, kp, L, hC⟩ := Cx_of hI.1 hI.2.1
  rcases law_c x1 with e | ⟨j, hj, rfl, e⟩
  · exact ⟨-2, M, M, by unfold F_X6_heard; rw [(e M).1, bdoN], by unfold F_X7_heard; rw [(e M).2, bdS, if_pos rfl]; rfl, FS_r M⟩
  rcases rg x2 0 2 0 2 rfl rfl (by omega) (by omega) with ⟨h, e2⟩ | ⟨h, -, h', e2⟩ | ⟨w, -, hw, rfl, h, -, h', e2⟩
  · exact ⟨-2, M, M, by unfold F_X6_heard; rw [(e M).1, bdoS, ckT (dec2 hj), if_pos h], by unfold F_X7_heard; rw [(e M).2, bdS, if_neg (by decide), e2, bdS, if_pos rfl]; rfl, FS_r M⟩
  · exact ⟨-2, M, M, by unfold F_X6_heard; rw [(e M).1, bdoS, ckT (dec2 hj), if_neg h, if_neg h'], by unfold F_X7_heard; rw [(e M).2, bdS, if_neg (by decide), e2, bdS, if_pos rfl]; rfl, FS_r M⟩
  have f1 := FS_h3 M (bnf kd gp ab (L j) ps n (hon n kp) n)
  obtain ⟨M2, e3, f2⟩ := heardNow_ok (Cx_FS hC f1) hj (show w < 3 by omega)
  refine ⟨_, _, M2, heard6_ok hC hj (by omega), ?_, FS_t f1 f2⟩
  unfold F_X7_heard
  rw [(e _).2, bdS, if_neg (by decide), e2, bdS, if_neg (by decide), e3, bdS]
/-- what falls on a head -/
def hds (kd gp ab : Nat → Nat) (u : Int32) (v : Nat) : Nat → Int32
  | 0 => 0
  | k + 1 => hds kd gp ab u v k + (if (decide (kd k = 0) && bt u k && bt (nI (gp k)) v) = true then nI (ab k) else 0)
theorem onHead_ok {M : Mem} {n : Nat} {kd gp ab : Nat → Nat} {ps : Nat → Bool} (hC : CX M n kd gp ab ps) {v : Nat} (hv : v < 10) : F_X1_onHead (nI v) M = some (hds kd gp ab (M.1 4) v n, M) := by
  have hn := hC.1
  have key : ∀ (d i m : Nat), i + d = n → d < m → F_X1_onHead_4 m (nI v) (hds kd gp ab (M.1 4) v i) (nI i) M = some (hds kd gp ab (M.1 4) v n, M) := by
    intro d
    induction d with
    | zero =>
      intro i m hi hm
      obtain ⟨m, rfl⟩ : ∃ q, m = q + 1 := ⟨m - 1, by omega⟩
      obtain rfl : i = n := by omega
      unfold F_X1_onHead_4
      rw [hC.2.1, if_pos (by rw [nle (by omega) (by omega)]; omega)]
    | succ d ih =>
      intro i m hi hm
      obtain ⟨m, rfl⟩ : ∃ q, m = q + 1 := ⟨m - 1, by omega⟩
      have ih := ih (i + 1) m (by omega) (by omega)
      obtain ⟨k1, g1, -, a1⟩ := hC.2.2.1 i (by omega)
      obtain ⟨k2, -⟩ := hC.2.2.2.1 i (by omega)
      rw [show hds kd gp ab (M.1 4) v (i + 1) = hds kd gp ab (M.1 4) v i + (if (decide (kd i = 0) && bt (M.1 4) i && bt (nI (gp i)) v) = true then nI (ab i) else 0) from rfl] at ih
      unfold F_X1_onHead_4 F_X1_onHead_66
      rw [hC.2.1, if_neg (by rw [nle (by omega) (by omega)]; omega), ckN (by omega) (by omega), ckN (by omega) (by omega), ckN (by omega) (by omega), ncl (by omega), k1, g1, a1, nI_s]
      simp only [b_tst0 _ (show i < 32 by omega), b_tst0 _ (show v < 32 by omega)]
      have hz : ∀ x : Int32, x + 0 = x := fun x => by rw [Int32.add_zero]
      by_cases c0 : kd i = 0
      · rw [if_pos (by rw [c0]; rfl)]
        rw [decide_eq_true c0, Bool.true_and] at ih
        cases c1 : bt (M.1 4) i
        · rw [if_pos rfl]
          rw [c1, Bool.false_and, if_neg (by decide), hz] at ih
          exact ih
        · rw [if_neg (by decide)]
          rw [c1, Bool.true_and] at ih
          cases c2 : bt (nI (gp i)) v
          · rw [if_pos rfl]
            rw [c2, if_neg (by decide), hz] at ih
            exact ih
          · rw [if_neg (by decide)]
            rw [c2, if_pos rfl] at ih
            exact ih
      · rw [if_neg (by rw [nlit 0, neq (by omega) (by omega)]; exact c0)]
        rw [decide_eq_false c0, Bool.false_and, Bool.false_and, if_neg (by decide), hz] at ih
        exact ih
  unfold F_X1_onHead
  exact key n 0 fu (by omega) (by unfold fu; omega)
theorem headNow_ok {M : Mem} {n : Nat} {kd gp ab : Nat → Nat} {ps : Nat → Bool} (hC : MX M n kd gp ab ps) {v : Nat} (hv : v < 10) : F_X7_headNow (nI v) M = some (hds kd gp ab (M.1 45) v n, M) := by
  have hn := hC.1
  have key : ∀ (d i m : Nat), i + d = n → d < m → F_X7_headNow_4 m (nI v) (hds kd gp ab (M.1 45) v i) (nI i) M = some (hds kd gp ab (M.1 45) v n, M) := by
    intro d
    induction d with
    | zero =>
      intro i m hi hm
      obtain ⟨m, rfl⟩ : ∃ q, m = q + 1 := ⟨m - 1, by omega⟩
      obtain rfl : i = n := by omega
      unfold F_X7_headNow_4
      rw [hC.2.1, if_pos (by rw [nle (by omega) (by omega)]; omega)]
    | succ d ih =>
      intro i m hi hm
      obtain ⟨m, rfl⟩ : ∃ q, m = q + 1 := ⟨m - 1, by omega⟩
      have ih := ih (i + 1) m (by omega) (by omega)
      obtain ⟨k1, g1, a1⟩ := hC.2.2.1 i (by omega)
      obtain ⟨k2, -⟩ := hC.2.2.2.1 i (by omega)
      rw [show hds kd gp ab (M.1 45) v (i + 1) = hds kd gp ab (M.1 45) v i + (if (decide (kd i = 0) && bt (M.1 45) i && bt (nI (gp i)) v) = true then nI (ab i) else 0) from rfl] at ih
      unfold F_X7_headNow_4 F_X7_headNow_55 F_X7_headNow_56
      rw [hC.2.1, if_neg (by rw [nle (by omega) (by omega)]; omega), ckN (by omega) (by omega), ncl (by omega), k1, nI_s, has7 _ (by omega), bdS, g1, has7 _ (by omega), bdS, a1, ckN (by omega) (by omega), ckN (by omega) (by omega)]
      simp only [ib]
      by_cases c0 : kd i = 0
      · rw [if_pos (by rw [c0]; rfl)]
        rw [decide_eq_true c0, Bool.true_and] at ih
        cases c1 : bt (M.1 45) i
        · rw [if_pos rfl]
          rw [c1, Bool.false_and, if_neg (by decide)] at ih
          exact ih
        · rw [if_neg (by decide)]
          rw [c1, Bool.true_and] at ih
          cases c2 : bt (nI (gp i)) v
          · rw [if_pos rfl]
            rw [c2, if_neg (by decide)] at ih
            exact ih
          · rw [if_neg (by decide)]
            rw [c2, if_pos rfl] at ih
            exact ih
      · rw [if_neg (by rw [nlit 0, neq (by omega) (by omega)]; exact c0)]
        rw [decide_eq_false c0, Bool.false_and, Bool.false_and, if_neg (by decide)] at ih
        exact ih
  unfold F_X7_headNow
  exact key n 0 fu (by omega) (by unfold fu; omega)
theorem op12 (M : Mem) (hI : Inv M) (x1 x2 : Int32) : ∃ (r : Int32) (M1 M2 : Mem), F_X6_head x1 x2 M = some (r, M1) ∧ F_X7_head x1 x2 M1 = some (r, M2) ∧ FS M M2 := by
  obtain ⟨n, kd, gp, ab, ps, kp, L, hC⟩ := Cx_of hI.1 hI.2.1
  unfold F_X6_head F_X7_head
  rcases law_c x1 with e | ⟨j, hj, rfl, e⟩
  · exact ⟨-2, M, M, by rw [(e M).1, bdoN], by rw [(e M).2, bdS, if_pos rfl], FS_r M⟩
  rcases rg x2 0 9 0 9 rfl rfl (by omega) (by omega) with ⟨h, e2⟩ | ⟨h, h', -, e2⟩ | ⟨w, -, hw, rfl, h, -, h', e2⟩
  · exact ⟨-2, M, M, by rw [(e M).1, bdoS, ckT (dec2 hj), if_pos h], by rw [(e M).2, bdS, if_neg (by decide), e2, bdS, if_pos rfl], FS_r M⟩
  · refine ⟨-2, M, M, ?_, by rw [(e M).2, bdS, if_neg (by decide), e2, bdS, if_pos rfl], FS_r M⟩
    rw [(e M).1, bdoS, ckT (dec2 hj), if_neg h]
    obtain ⟨k, hk, rfl⟩ := nI_of h
    rw [nlit 9, nlt (by omega) hk] at h'
    rw [if_neg (by rw [nlit 10, nlt hk (by omega)]; omega)]
  have f1 := FS_h3 M (bnf kd gp ab (L j) ps n (hon n kp) n)
  have hC1 := Cx_FS hC f1
  obtain ⟨M2, e3, f2, g42, -, -, g2, -⟩ := hearsAll_ok hC1 hj
  have hC2 := Cx_FS hC1 f2
  refine ⟨hds kd gp ab (bnf kd gp ab (L j) ps n (hon n kp) n).2.1 w n, h3 M (bnf kd gp ab (L j) ps n (hon n kp) n), M2, ?_, ?_, FS_t f1 f2⟩
  · rw [(e M).1, bdoS, ckT (dec2 hj), if_neg h, if_pos (by rw [nlit 10, nlt (by omega) (by omega)]; omega), hon5 hC, bdS, byN_ok hC.1 (hC.2.2.2.1 j hj).1 (hC.2.2.2.1 j hj).2.1, bdvS, onHead_ok hC1.1 (by omega), bdS]
    rfl
  · rw [(e _).2, bdS, if_neg (by decide), e2, bdS, if_neg (by decide), e3, bdvS, headNow_ok (hC2.mx g42) (by omega), bdS, g2]
/-! what hangs on a word -/
def hgs (kd gp ab L : Nat → Nat) (ps : Nat → Bool) (n : Nat) (set : Int32) (w : Nat) : Int32 := ((bnf kd gp ab L ps n set n).1 ^^^ (bnf kd gp ab L ps n (set &&& (one w ^^^ (-1))) n).1) &&& (one w ^^^ (-1))
theorem hgs_hi {kd gp ab L : Nat → Nat} {ps : Nat → Bool} {n : Nat} (hn : n ≤ 10) (set : Int32) (w : Nat) : ∀ i, i < 32 → 10 ≤ i → bt (hgs kd gp ab L ps n set w) i = false := by
  intro i hi h10
  unfold hgs
  rw [b_and, b_xor, bnf_hi hi (by omega), bnf_hi hi (by omega)]
  rfl
theorem hang6 {M : Mem} {n j : Nat} {kd gp ab : Nat → Nat} {ps : Nat → Bool} {kp : Int32} {L : Nat → Nat → Nat} (h : Cx M n kd gp ab ps kp L) (hj : j < 2) (set : Int32) {w : Nat} (hw : w < n) : ∃ M2, F_X1_hangingOn j set (nI w) M = some (nI (pc (hgs kd gp ab (L j) ps n set w)), M2) ∧ FS M M2 := by
  obtain ⟨l1, l2, -⟩ := h.2.2.2.1 j hj
  have f1 := FS_h3 M (bnf kd gp ab (L j) ps n set n)
  have h1 := Cx_FS h f1
  unfold F_X1_hangingOn
  rw [byN_ok h.1 l1 l2, bdvS, byN_ok h1.1 (h1.2.2.2.1 j hj).1 l2, bdvS, h3_3, h3_3]
  refine ⟨h3 (h3 M (bnf kd gp ab (L j) ps n set n)) (bnf kd gp ab (L j) ps n (set &&& ((1 : Int32) <<< (nI w &&& 31) ^^^ (-1))) n), ?_, FS_t f1 (FS_h3 _ _)⟩
  have e := bitCount_ok (hgs_hi (kd := kd) (gp := gp) (ab := ab) (L := L j) (ps := ps) h.1.1 set w) (h3 (h3 M (bnf kd gp ab (L j) ps n set n)) (bnf kd gp ab (L j) ps n (set &&& ((1 : Int32) <<< (nI w &&& 31) ^^^ (-1))) n))
  unfold hgs one at e
  rw [e, bdS]
  rfl
theorem hang7 {M : Mem} {n : Nat} {kd gp ab : Nat → Nat} {ps : Nat → Bool} {kp : Int32} {L : Nat → Nat → Nat} (h : Cx M n kd gp ab ps kp L) {w : Nat} (hw : w < n) : ∃ M2, F_X7_hangsNow (nI w) M = some (nI (pc (hgs kd gp ab (L 0) ps n (hon n kp) w)), M2) ∧ FS M M2 := by
  obtain ⟨M2, e, f, g42, gL, g1, -⟩ := hearsAll_ok (j := 0) h (by omega)
  have h2 := Cx_FS h f
  unfold F_X7_hangsNow
  rw [show (0 : Int32) = nI 0 from rfl, e, bdvS, hon7 h2, bdS]
  obtain ⟨M3, M4, e3, e4, f3, f4, -, -, g4, -⟩ := lh_ok2 (j := 0) h2 g42 (by omega) gL (hon n kp &&& (one w ^^^ (-1)))
  refine ⟨M4, ?_, FS_t f f4⟩
  unfold one at e3
  rw [e3, bdvS, e4, bdvS, g1, g4, ones_ok, bdS]
  rfl
theorem op21 (M : Mem) (hI : Inv M) (x1 : Int32) : ∃ (r : Int32) (M1 M2 : Mem), F_X6_hangs x1 M = some (r, M1) ∧ F_X7_hangs x1 M1 = some (r, M2) ∧ FS M M2 := by
  obtain ⟨n, kd, gp, ab, ps, kp, L, hC⟩ := Cx_of hI.1 hI.2.1
  unfold F_X6_hangs
  rcases isWord_c hC.1.2.1 hC.1.1 x1 M hC.2.1.1 with ⟨e1, e2⟩ | ⟨i, hi, rfl, e1, e2⟩
  · exact ⟨-2, M, M, by rw [e1, bdS, if_pos rfl], by unfold F_X7_hangs; rw [e2, bdS, if_pos rfl]; rfl, FS_r M⟩
  have hn := hC.1.1
  rw [e1, bdS, if_neg (by decide), hC.2.2.1.1]
  simp only [b_tst0 _ (show i < 32 by omega)]
  cases hk : bt kp i
  · obtain ⟨M1, e3, f1⟩ := hang6 (j := 0) hC (by omega) (hon n kp) hi
    have hC1 := Cx_FS hC f1
    obtain ⟨M2, e4, f2⟩ := hang7 hC1 hi
    refine ⟨_, M1, M2, by rw [if_pos rfl, hon5 hC, bdS, e3, bdS], ?_, FS_t f1 f2⟩
    unfold F_X7_hangs
    rcases isWord_c hC1.1.2.1 hn (nI i) M1 hC1.2.1.1 with ⟨e5, e6⟩ | ⟨i', hi', -, e5, e6⟩
    · rw [has5_ok hC1.1.2.1 hn hi] at e5
      cases e5
    · rw [e6, bdS, if_neg (by decide), has7 _ (by omega), bdS, hC1.2.2.1.2.1, hk, if_pos (show (if false = true then (1 : Int32) else 0) = 0 from rfl), e4, bdS]
  · refine ⟨-2, M, M, by rw [if_neg (by decide)], ?_, FS_r M⟩
    unfold F_X7_hangs
    rw [e2, bdS, if_neg (by decide), has7 _ (by omega), bdS, hC.2.2.1.2.1, hk, if_neg (by decide)]
    rfl
/-- the word on which most hangs, among the first ones -/
def mst (p : Nat → Bool) (g : Nat → Nat) : Nat → Option (Nat × Nat)
  | 0 => none
  | k + 1 => if p k = true then (match mst p g k with
    | none => some (k, g k)
    | some (b, m) => if m < g k then some (k, g k) else some (b, m)) else mst p g k
def mbe : Option (Nat × Nat) → Int32
  | none => -1
  | some (b, _) => nI b
def mc6 : Option (Nat × Nat) → Int32
  | none => -1
  | some (_, m) => nI m
def mc7 : Option (Nat × Nat) → Int32
  | none => 0
  | some (_, m) => nI m
theorem mst_b {p : Nat → Bool} {g : Nat → Nat} (hg : ∀ k, g k ≤ 10) : ∀ k b m, mst p g k = some (b, m) → b < k ∧ m ≤ 10 := by
  intro k
  induction k with
  | zero => intro b m h; cases h
  | succ k ih =>
    intro b m h
    unfold mst at h
    split at h
    · split at h
      · cases h
        exact ⟨by omega, hg k⟩
      · rename_i b' m' e
        have := ih b' m' e
        split at h
        · cases h
          exact ⟨by omega, hg k⟩
        · cases h
          exact ⟨by omega, this.2⟩
    · have := ih b m h
      exact ⟨by omega, this.2⟩
theorem most6 {n : Nat} {kd gp ab : Nat → Nat} {ps : Nat → Bool} {kp : Int32} {L : Nat → Nat → Nat} : ∀ (d i m : Nat) (M : Mem), Cx M n kd gp ab ps kp L → i + d = n → d < m → ∃ M2, F_X6_most_15 m (hon n kp) (mbe (mst (bt (hon n kp)) (fun w => pc (hgs kd gp ab (L 0) ps n (hon n kp) w)) i)) (mc6 (mst (bt (hon n kp)) (fun w => pc (hgs kd gp ab (L 0) ps n (hon n kp) w)) i)) (nI i) M = some (mbe (mst (bt (hon n kp)) (fun w => pc (hgs kd gp ab (L 0) ps n (hon n kp) w)) n), M2) ∧ FS M M2 := by
  intro d
  induction d with
  | zero =>
    intro i m M hC hi hm
    have hn := hC.1.1
    obtain ⟨m, rfl⟩ : ∃ q, m = q + 1 := ⟨m - 1, by omega⟩
    obtain rfl : i = n := by omega
    refine ⟨M, ?_, FS_r M⟩
    unfold F_X6_most_15
    rw [hC.1.2.1, if_pos (by rw [nle (by omega) (by omega)]; omega)]
  | succ d ih =>
    intro i m M hC hi hm
    have hn := hC.1.1
    obtain ⟨m, rfl⟩ : ∃ q, m = q + 1 := ⟨m - 1, by omega⟩
    have ih := fun M hC => ih (i + 1) m M hC (by omega) (by omega)
    unfold F_X6_most_15 F_X6_most_64
    rw [hC.1.2.1, if_neg (by rw [nle (by omega) (by omega)]; omega)]
    simp only [b_tst0 _ (show i < 32 by omega), nI_s]
    obtain ⟨g, hg⟩ : ∃ g : Nat → Nat, g = fun w => pc (hgs kd gp ab (L 0) ps n (hon n kp) w) := ⟨_, rfl⟩
    rw [← hg] at ih ⊢
    have hgb : ∀ k, g k ≤ 10 := fun k => by rw [hg]; exact pc_le _
    rw [show mst (bt (hon n kp)) g (i + 1) = if bt (hon n kp) i = true then (match mst (bt (hon n kp)) g i with
      | none => some (i, g i)
      | some (b, m) => if m < g i then some (i, g i) else some (b, m)) else mst (bt (hon n kp)) g i from rfl] at ih
    cases h : bt (hon n kp) i
    · rw [if_pos rfl]
      rw [h, if_neg (by decide)] at ih
      exact ih M hC
    · rw [if_neg (by decide)]
      rw [h, if_pos rfl] at ih
      obtain ⟨M1, e1, f1⟩ := hang6 (j := 0) hC (by omega) (hon n kp) (show i < n by omega)
      rw [show pc (hgs kd gp ab (L 0) ps n (hon n kp) i) = g i by rw [hg]] at e1
      obtain ⟨M2, e2, f2⟩ := ih M1 (Cx_FS hC f1)
      rw [e1, bdS]
      refine ⟨M2, ?_, FS_t f1 f2⟩
      have hgi := hgb i
      cases hm : mst (bt (hon n kp)) g i with
      | none =>
        rw [hm] at e2
        rw [if_neg (by
          intro h2
          exact absurd (show (0 : Int32) ≤ -1 from Int32.le_trans (nI_pos' (show g i < 2147483648 by omega)) h2) (by decide))]
        exact e2
      | some bm =>
        obtain ⟨b, c⟩ := bm
        rw [hm] at e2
        have hb := mst_b hgb i b c hm
        have hle : (nI (g i) ≤ mc6 (some (b, c))) = (g i ≤ c) := nle (by omega) (by omega)
        by_cases hlt : c < g i
        · rw [if_neg (by rw [hle]; omega)]
          simp only [if_pos hlt] at e2
          exact e2
        · rw [if_pos (by rw [hle]; omega)]
          simp only [if_neg hlt] at e2
          exact e2
