/-! strikes, sound, least, brings -/
theorem wd_c {M : Mem} {n : Nat} {kd gp ab : Nat → Nat} {ps : Nat → Bool} {kp : Int32} {L : Nat → Nat → Nat} (hC : Cx M n kd gp ab ps kp L) (x : Int32) : (∀ M1, FS M M1 → F_X5_has x M1 = some (0, M1) ∧ F_X7_isWord x M1 = some (0, M1)) ∨ ∃ i, i < n ∧ x = nI i ∧ ∀ M1, FS M M1 → F_X5_has x M1 = some (1, M1) ∧ F_X7_isWord x M1 = some (1, M1) := by
  by_cases hx : ∃ i, i < n ∧ x = nI i
  · obtain ⟨i, hi, rfl⟩ := hx
    refine Or.inr ⟨i, hi, rfl, fun M1 f => ?_⟩
    have h1 := Cx_FS hC f
    rcases isWord_c h1.1.2.1 h1.1.1 (nI i) M1 h1.2.1.1 with ⟨e, -⟩ | ⟨-, -, -, e1, e2⟩
    · rw [has5_ok h1.1.2.1 h1.1.1 hi] at e
      cases e
    · exact ⟨e1, e2⟩
  · refine Or.inl (fun M1 f => ?_)
    have h1 := Cx_FS hC f
    rcases isWord_c h1.1.2.1 h1.1.1 x M1 h1.2.1.1 with h | ⟨i, hi, e, -⟩
    · exact h
    · exact absurd ⟨i, hi, e⟩ hx
theorem bit_v {b : Bool} : (if b = true then (1 : Int32) else 0) = if b = true then 1 else 0 := rfl
theorem anyB_one {K : Nat → Nat → Bool} {n w o : Nat} (hw : w < n) (hn : n ≤ 10) : hb n K (one w) o = K w o := by
  unfold hb
  cases h : K w o
  · rw [anyB_f]
    intro i hi
    rw [b_one (by omega) (by omega)]
    by_cases e : i = w
    · rw [e, h, Bool.and_false]
    · rw [decide_eq_false e, Bool.false_and]
  · exact anyB_t.mpr ⟨w, hw, by rw [b_one (by omega) (by omega), decide_eq_true rfl, h]; rfl⟩
theorem ans14 (M : Mem) (hI : Inv M) (x1 x2 x3 : Int32) : Ans M (F_X6_strikes x1 x2 x3) (F_X7_strikes x1 x2 x3) := by
  obtain ⟨n, kd, gp, ab, ps, kp, L, hC⟩ := Cx_of hI.1 hI.2.1
  have hn := hC.1.1
  unfold F_X6_strikes F_X7_strikes
  rcases law_c x1 with e | ⟨j, hj, rfl, e⟩
  · exact Ans_c (-2) (fun M1 f => by rw [(e M1).1, bdoN]) (fun M1 f => by rw [(e M1).2, bdS, if_pos rfl])
  rcases wd_c hC x2 with e2 | ⟨a, ha, rfl, e2⟩
  · exact Ans_c (-2) (fun M1 f => by rw [(e M1).1, bdoS, ckT (dec2 hj), (e2 M1 f).1, bdS, if_pos rfl]) (fun M1 f => by rw [(e M1).2, bdS, if_neg (by decide), (e2 M1 f).2, bdS, if_pos rfl])
  rcases wd_c hC x3 with e3 | ⟨b, hb', rfl, e3⟩
  · exact Ans_c (-2) (fun M1 f => by rw [(e M1).1, bdoS, ckT (dec2 hj), (e2 M1 f).1, bdS, if_neg (by decide), (e3 M1 f).1, bdS, if_pos rfl]) (fun M1 f => by rw [(e M1).2, bdS, if_neg (by decide), (e2 M1 f).2, bdS, if_neg (by decide), (e3 M1 f).2, bdS, if_pos rfl])
  refine ⟨if sk kd gp ab (L j) ps n (hon n kp) a b = true then 1 else 0, fun M1 f => ?_, fun M1 f => ?_⟩
  · have h1 := Cx_FS hC f
    obtain ⟨M2, e4, f4, hT⟩ := takeUp_ok2 h1 hj (hon n kp)
    refine ⟨M2, ?_, f4⟩
    show bdo (F_X6_lawOf (nI j) M1) _ _ = _
    rw [(e M1).1, bdoS, ckT (dec2 hj), (e2 M1 f).1, bdS, if_neg (by decide), (e3 M1 f).1, bdS, if_neg (by decide), hon5 h1, bdS, e4, bdvS, show (1 : Int32) <<< (nI a &&& 31) = one a from rfl, hit_ok hT, bdS, b_tst _ (by omega), hit_b hT _ (by omega), anyB_one ha hn]
  · have h1 := Cx_FS hC f
    obtain ⟨M2, e4, f4, hT⟩ := meets_ok2 h1 hj (hon n kp)
    refine ⟨M2, ?_, f4⟩
    show bd (F_X7_isLaw (nI j) M1) _ = _
    rw [(e M1).2, bdS, if_neg (by decide), (e2 M1 f).2, bdS, if_neg (by decide), (e3 M1 f).2, bdS, if_neg (by decide), hon7 h1, bdS, e4, bdvS, ckN (by omega) (by omega), ncl (by omega), b_tst _ (by omega), hT.2.2.2 b hb' a (by omega)]
theorem ans15 (M : Mem) (hI : Inv M) (x1 x2 : Int32) : Ans M (F_X6_sound x1 x2) (F_X7_sound x1 x2) := by
  obtain ⟨n, kd, gp, ab, ps, kp, L, hC⟩ := Cx_of hI.1 hI.2.1
  have hn := hC.1.1
  unfold F_X6_sound F_X7_sound
  rcases law_c x1 with e | ⟨j, hj, rfl, e⟩
  · exact Ans_c (-2) (fun M1 f => by rw [(e M1).1, bdoN]) (fun M1 f => by rw [(e M1).2, bdS, if_pos rfl])
  by_cases hs : x2 &&& (nI (2 ^ n - 1) ^^^ (-1)) = 0
  rotate_left
  · exact Ans_c (-2) (fun M1 f => by rw [(e M1).1, bdoS, ckT (dec2 hj), all5_ok (Cx_FS hC f).1.2.1 hn, bdS, if_neg hs]) (fun M1 f => by rw [(e M1).2, bdS, if_neg (by decide), all7_ok (Cx_FS hC f).2.1.1 hn, bdS, (inSet hn x2 M1).2, if_neg hs, bdS, if_pos rfl])
  refine ⟨if sdB n (am gp (L j) (hon n kp)) (sk kd gp ab (L j) ps n (hon n kp)) x2 = true then 1 else 0, fun M1 f => ?_, fun M1 f => ?_⟩
  · have h1 := Cx_FS hC f
    obtain ⟨M2, e4, f4, hT⟩ := takeUp_ok2 h1 hj (hon n kp)
    refine ⟨M2, ?_, f4⟩
    show bdo (F_X6_lawOf (nI j) M1) _ _ = _
    rw [(e M1).1, bdoS, ckT (dec2 hj), all5_ok h1.1.2.1 hn, bdS, if_pos hs, hon5 h1, bdS, e4, bdvS, afi_ok hT KP_sk, bdS]
    simp only [ib]
    cases sdB n (am gp (L j) (hon n kp)) (sk kd gp ab (L j) ps n (hon n kp)) x2 <;> rfl
  · have h1 := Cx_FS hC f
    obtain ⟨M2, e4, f4, hT⟩ := meets_ok2 h1 hj (hon n kp)
    refine ⟨M2, ?_, f4⟩
    show bd (F_X7_isLaw (nI j) M1) _ = _
    rw [(e M1).2, bdS, if_neg (by decide), all7_ok h1.2.1.1 hn, bdS, (inSet hn x2 M1).2, if_pos hs, bdS, if_neg (by decide), hon7 h1, bdS, e4, bdvS, isSound_ok hT KP_sk, bdS]
    simp only [ib]
    cases sdB n (am gp (L j) (hon n kp)) (sk kd gp ab (L j) ps n (hon n kp)) x2 <;> rfl
/-- the least set of a law, of words -/
def lsv (kd gp ab L : Nat → Nat) (ps : Nat → Bool) (n : Nat) (set : Int32) : Int32 := ls n (am gp L set) (sk kd gp ab L ps n set) n
theorem least6_ok {M : Mem} {n j : Nat} {kd gp ab : Nat → Nat} {ps : Nat → Bool} {kp : Int32} {L : Nat → Nat → Nat} (hC : Cx M n kd gp ab ps kp L) (hj : j < 2) : ∃ M2, F_X6_least (nI j) M = some (lsv kd gp ab (L j) ps n (hon n kp), M2) ∧ FS M M2 := by
  obtain ⟨M2, e4, f4, hT⟩ := takeUp_ok2 hC hj (hon n kp)
  refine ⟨M2, ?_, f4⟩
  unfold F_X6_least
  rw [show F_X6_lawOf (nI j) M = some (some j, M) by rcases (show j = 0 ∨ j = 1 by omega) with rfl | rfl <;> rfl, bdoS, ckT (dec2 hj), hon5 hC, bdS, e4, bdvS, least6 hT KP_sk, bdS]
  rfl
theorem least7_ok {M : Mem} {n j : Nat} {kd gp ab : Nat → Nat} {ps : Nat → Bool} {kp : Int32} {L : Nat → Nat → Nat} (hC : Cx M n kd gp ab ps kp L) (hj : j < 2) : ∃ M2, F_X7_leastOf (nI j) M = some (lsv kd gp ab (L j) ps n (hon n kp), M2) ∧ FS M M2 := by
  obtain ⟨M2, e4, f4, hT⟩ := meets_ok2 hC hj (hon n kp)
  refine ⟨M2, ?_, f4⟩
  unfold F_X7_leastOf
  rw [hon7 hC, bdS, e4, bdvS, least7 hT KP_sk, bdS]
  rfl
theorem ans16 (M : Mem) (hI : Inv M) (x1 : Int32) : Ans M (F_X6_least x1) (F_X7_least x1) := by
  obtain ⟨n, kd, gp, ab, ps, kp, L, hC⟩ := Cx_of hI.1 hI.2.1
  rcases law_c x1 with e | ⟨j, hj, rfl, e⟩
  · exact Ans_c (-2) (fun M1 f => by unfold F_X6_least; rw [(e M1).1, bdoN]) (fun M1 f => by unfold F_X7_least; rw [(e M1).2, bdS, if_pos rfl])
  refine ⟨lsv kd gp ab (L j) ps n (hon n kp), fun M1 f => least6_ok (Cx_FS hC f) hj, fun M1 f => ?_⟩
  obtain ⟨M2, e2, f2⟩ := least7_ok (Cx_FS hC f) hj
  refine ⟨M2, ?_, f2⟩
  unfold F_X7_least
  rw [(e M1).2, bdS, if_neg (by decide), e2, bdS]
/-! brings -/
def bT (kd gp ab L : Nat → Nat) (ps : Nat → Bool) (n : Nat) (kp : Int32) (w u k : Nat) : Bool := bt (lsv kd gp ab L ps n (hon n kp ||| nI k)) w == decide (u = 1)
theorem tst_u {x : Int32} {w u : Nat} (hw : w < 32) (hu : u ≤ 1) : ((x >>> (nI w &&& 31)) &&& 1 = nI u) = ((bt x w == decide (u = 1)) = true) := by
  rw [b_tst x hw]
  rcases (show u = 0 ∨ u = 1 by omega) with rfl | rfl
  · cases bt x w <;> decide
  · cases bt x w <;> decide
theorem kp_nI {n : Nat} (hn : n ≤ 10) {kp : Int32} (h : ∀ i, i < 32 → n ≤ i → bt kp i = false) : ∃ c, c < 2 ^ n ∧ kp = nI c := by
  have h : kp &&& (nI (2 ^ n - 1) ^^^ (-1)) = 0 := by
    rw [b_zero]
    intro i hi
    rw [b_clr _ _ hi, all_bt hn hi]
    by_cases e : i < n
    · rw [decide_eq_true e, Bool.not_true, Bool.and_false]
    · rw [h i hi (by omega)]
      rfl
  exact (inSet hn kp Mz).1.mp h
theorem fewer_ok {k B : Int32} (hk : ∀ i, i < 32 → 10 ≤ i → bt k i = false) (hB : B = -1 ∨ ∃ b, b < 1024 ∧ B = nI b) (M : Mem) : F_X6_isFewer k B M = some (if (decide (B = -1) || decide (pc k < pc B)) = true then 1 else 0, M) := by
  unfold F_X6_isFewer F_X6_isFewer_16
  rcases hB with e | ⟨b, hb, e⟩
  · rw [if_pos e, decide_eq_true e]
    rfl
  · have p1 := pc_le k
    have p2 := pc_le (nI b)
    rw [e, if_neg (nIm b (by omega)), bitCount_ok hk, bdS, bitCount_ok (k10 (by omega)), bdS, decide_eq_false (nIm b (by omega)), Bool.false_or]
    by_cases h2 : pc k < pc (nI b)
    · rw [if_neg (by rw [nle (by omega) (by omega)]; omega), decide_eq_true h2]
      rfl
    · rw [if_pos (by rw [nle (by omega) (by omega)]; omega), decide_eq_false h2]
      rfl
theorem fst1_s (c : Int32) (T : Nat → Bool) (k : Nat) : fst1 c T (k + 1) = if (decide (nI k &&& (c ^^^ (-1)) = 0) && (decide (fst1 c T k = -1) || decide (pc (nI k) < pc (fst1 c T k))) && T k) = true then nI k else fst1 c T k := rfl
theorem br57 {n : Nat} {kd gp ab : Nat → Nat} {ps : Nat → Bool} {L : Nat → Nat → Nat} {c w u : Nat} (hc : c < 1024) (hw : w < 32) (hu : u ≤ 1) : ∀ (d k m : Nat) (M : Mem), Cx M n kd gp ab ps (nI c) L → k + d = c + 1 → d < m → ∃ M2, F_X6_brings_57 m (nI w) (nI u) (fst1 (nI c) (bT kd gp ab (L 0) ps n (nI c) w u) k) (nI k) M = some (fst1 (nI c) (bT kd gp ab (L 0) ps n (nI c) w u) (c + 1), M2) ∧ FS M M2 := by
  intro d
  induction d with
  | zero =>
    intro k m M hC hk hm
    obtain ⟨m, rfl⟩ : ∃ q, m = q + 1 := ⟨m - 1, by omega⟩
    obtain rfl : k = c + 1 := by omega
    refine ⟨M, ?_, FS_r M⟩
    unfold F_X6_brings_57
    rw [hC.2.2.1.1, if_pos (by rw [nlt (by omega) (by omega)]; omega)]
  | succ d ih =>
    intro k m M hC hk hm
    obtain ⟨m, rfl⟩ : ∃ q, m = q + 1 := ⟨m - 1, by omega⟩
    have ih := fun M hC => ih (k + 1) m M hC (by omega) (by omega)
    obtain ⟨B, hB⟩ : ∃ B, B = fst1 (nI c) (bT kd gp ab (L 0) ps n (nI c) w u) k := ⟨_, rfl⟩
    have hBf := fst1_f (c := nI c) (T := bT kd gp ab (L 0) ps n (nI c) w u) k
    rw [fst1_s] at ih
    rw [← hB] at ih hBf ⊢
    unfold F_X6_brings_57 F_X6_brings_132
    rw [hC.2.2.1.1, if_neg (by rw [nlt (by omega) (by omega)]; omega)]
    simp only [nI_s]
    by_cases c1 : nI k &&& (nI c ^^^ (-1)) = 0
    rotate_left
    · rw [if_neg c1]
      rw [decide_eq_false c1, Bool.false_and, Bool.false_and, if_neg (by decide)] at ih
      exact ih M hC
    rw [if_pos c1]
    rw [decide_eq_true c1, Bool.true_and] at ih
    rw [fewer_ok (k10 (show k < 1024 by omega)) (by rcases hBf with h | ⟨b, hb, h⟩; exact Or.inl h; exact Or.inr ⟨b, by omega, h⟩), bdS]
    simp only [ib]
    cases c2 : (decide (B = -1) || decide (pc (nI k) < pc B))
    · rw [if_pos rfl]
      rw [c2, Bool.false_and, if_neg (by decide)] at ih
      exact ih M hC
    rw [if_neg (by decide), hon5 hC, bdS]
    rw [c2, Bool.true_and] at ih
    obtain ⟨M2, e4, f4, hT⟩ := takeUp_ok2 (j := 0) hC (by omega) (hon n (nI c) ||| nI k)
    obtain ⟨M3, e5, f5⟩ := ih M2 (Cx_FS hC f4)
    refine ⟨M3, ?_, FS_t f4 f5⟩
    rw [e4, bdvS, least6 hT KP_sk, bdS]
    simp only [tst_u hw hu]
    unfold bT lsv at e5
    split at e5
    · next h => rw [if_pos h]; exact e5
    · next h => rw [if_neg h]; exact e5
theorem br45 {n : Nat} {kd gp ab : Nat → Nat} {ps : Nat → Bool} {L : Nat → Nat → Nat} {kp : Int32} {w u : Nat} (hw : w < 32) (hu : u ≤ 1) : ∀ (d k m : Nat) (M : Mem), Cx M n kd gp ab ps kp L → k + d = 2 ^ n → d < m → ∃ M2, F_X7_brings_45 m (nI w) (nI u) (fst1 kp (bT kd gp ab (L 0) ps n kp w u) k) (nI k) M = some (fst1 kp (bT kd gp ab (L 0) ps n kp w u) (2 ^ n), M2) ∧ FS M M2 := by
  intro d
  induction d with
  | zero =>
    intro k m M hC hk hm
    have hn := hC.1.1
    have hp := pow_le10 hn
    obtain ⟨m, rfl⟩ : ∃ q, m = q + 1 := ⟨m - 1, by omega⟩
    obtain rfl : k = 2 ^ n := by omega
    refine ⟨M, ?_, FS_r M⟩
    unfold F_X7_brings_45
    have := pow_pos' n
    rw [all7_ok hC.2.1.1 hn, bdS, if_pos (by rw [nlt (by omega) (by omega)]; omega)]
  | succ d ih =>
    intro k m M hC hk hm
    have hn := hC.1.1
    have hp := pow_le10 hn
    obtain ⟨m, rfl⟩ : ∃ q, m = q + 1 := ⟨m - 1, by omega⟩
    have ih := fun M hC => ih (k + 1) m M hC (by omega) (by omega)
    obtain ⟨B, hB⟩ : ∃ B, B = fst1 kp (bT kd gp ab (L 0) ps n kp w u) k := ⟨_, rfl⟩
    have hBf := fst1_f (c := kp) (T := bT kd gp ab (L 0) ps n kp w u) k
    rw [fst1_s] at ih
    rw [← hB] at ih hBf ⊢
    unfold F_X7_brings_45 F_X7_brings_114
    rw [all7_ok hC.2.1.1 hn, bdS, if_neg (by rw [nlt (by omega) (by omega)]; omega), hC.2.2.1.2.1]
    simp only [nI_s]
    by_cases c1 : nI k &&& (kp ^^^ (-1)) = 0
    rotate_left
    · rw [if_neg c1]
      rw [decide_eq_false c1, Bool.false_and, Bool.false_and, if_neg (by decide)] at ih
      exact ih M hC
    rw [if_pos c1]
    rw [decide_eq_true c1, Bool.true_and] at ih
    have hyes : (decide (B = -1) || decide (pc (nI k) < pc B)) = true → ∃ M3, F_X7_brings_83 (F_X7_brings_45 m) (nI w) (nI u) B (nI k) M = some (fst1 kp (bT kd gp ab (L 0) ps n kp w u) (2 ^ n), M3) ∧ FS M M3 := by
      intro hyes
      rw [hyes, Bool.true_and] at ih
      obtain ⟨M2, e4, f4, hT⟩ := meets_ok2 (j := 0) hC (by omega) (hon n kp ||| nI k)
      obtain ⟨M3, e5, f5⟩ := ih M2 (Cx_FS hC f4)
      refine ⟨M3, ?_, FS_t f4 f5⟩
      unfold F_X7_brings_83 F_X7_brings_113 F_X7_brings_114
      rw [hon7 hC, bdS, show (0 : Int32) = nI 0 from rfl, e4, bdvS, least7 hT KP_sk, bdS, nI_s]
      simp only [tst_u hw hu]
      unfold bT lsv at e5
      split at e5
      · next h => rw [if_pos h]; exact e5
      · next h => rw [if_neg h]; exact e5
    rcases hBf with e | ⟨b, hb, e⟩
    · rw [if_pos e]
      exact hyes (by rw [decide_eq_true e]; rfl)
    · have p1 := pc_le (nI k)
      have p2 := pc_le (nI b)
      rw [if_neg (by rw [e]; exact nIm b (by omega)), ones_ok, bdS, ones_ok, bdS]
      by_cases c3 : pc (nI k) < pc B
      · rw [if_neg (by rw [e] at c3 ⊢; rw [nle (by omega) (by omega)]; omega)]
        exact hyes (by rw [decide_eq_true c3, Bool.or_true])
      · rw [if_pos (by rw [e] at c3 ⊢; rw [nle (by omega) (by omega)]; omega)]
        rw [decide_eq_false c3, Bool.or_false, decide_eq_false (by rw [e]; exact nIm b (by omega)), Bool.false_and, if_neg (by decide)] at ih
        exact ih M hC
theorem op23 (M : Mem) (hI : Inv M) (x1 x2 : Int32) : ∃ (r : Int32) (M1 M2 : Mem), F_X6_brings x1 x2 M = some (r, M1) ∧ F_X7_brings x1 x2 M1 = some (r, M2) ∧ FS M M2 := by
  obtain ⟨n, kd, gp, ab, ps, kp, L, hC⟩ := Cx_of hI.1 hI.2.1
  have hn := hC.1.1
  have hp := pow_le10 hn
  obtain ⟨c, hc, ec⟩ := kp_nI hn hC.2.2.1.2.2
  rcases wd_c hC x1 with e | ⟨w, hw, rfl, e⟩
  · exact ⟨-2, M, M, by unfold F_X6_brings; rw [(e M (FS_r M)).1, bdS, if_pos rfl], by unfold F_X7_brings; rw [(e M (FS_r M)).2, bdS, if_pos rfl], FS_r M⟩
  obtain ⟨k1, -⟩ := hC.1.2.2.1 w hw
  obtain ⟨k2, -⟩ := hC.2.1.2 w hw
  obtain ⟨k3, -⟩ := hC.1.2.2.2.1 w hw
  have h6 : F_X6_brings (nI w) x2 M = if kd w = 0 then (if bt kp w = false then (if x2 = 0 then F_X6_brings_52 (nI w) x2 M else if x2 = 1 then F_X6_brings_52 (nI w) x2 M else some (-2, M)) else some (-2, M)) else some (-2, M) := by
    unfold F_X6_brings
    rw [(e M (FS_r M)).1, bdS, if_neg (by decide), ckN (by omega) (by omega), ncl (by omega), k1, hC.2.2.1.1]
    simp only [b_tst0 _ (show w < 32 by omega)]
    rw [nlit 0]
    simp (disch := omega) only [neq]
  have h7 : ∀ M1, FS M M1 → F_X7_brings (nI w) x2 M1 = if kd w = 0 then (if bt kp w = false then bd (F_X7_in x2 0 1 M1) (fun r31 M31 => if r31 = 0 then some ((-2), M31) else F_X7_brings_45 fu (nI w) x2 (-1) 0 M31) else some (-2, M1)) else some (-2, M1) := by
    intro M1 f
    have hC1 := Cx_FS hC f
    obtain ⟨k2, -⟩ := hC1.2.1.2 w hw
    unfold F_X7_brings
    rw [(e M1 f).2, bdS, if_neg (by decide), ckN (by omega) (by omega), ncl (by omega), k2, has7 _ (by omega), bdS, hC1.2.2.1.2.1]
    simp only [ib]
    by_cases h0 : kd w = 0
    · rw [if_pos (by rw [h0]; rfl), if_pos h0]
    · rw [if_neg (by rw [nlit 0, neq (by omega) (by omega)]; exact h0), if_neg h0]
  by_cases h0 : kd w = 0
  rotate_left
  · exact ⟨-2, M, M, by rw [h6, if_neg h0], by rw [h7 M (FS_r M), if_neg h0], FS_r M⟩
  by_cases h1 : bt kp w = false
  rotate_left
  · exact ⟨-2, M, M, by rw [h6, if_pos h0, if_neg h1], by rw [h7 M (FS_r M), if_pos h0, if_neg h1], FS_r M⟩
  rcases rg x2 0 1 0 1 rfl rfl (by omega) (by omega) with ⟨h, e2⟩ | ⟨-, h, -, e2⟩ | ⟨u, -, hu, rfl, -, -, -, e2⟩
  · refine ⟨-2, M, M, ?_, by rw [h7 M (FS_r M), if_pos h0, if_pos h1, e2, bdS, if_pos rfl], FS_r M⟩
    rw [h6, if_pos h0, if_pos h1, if_neg (fun h2 => by rw [h2] at h; exact absurd h (by decide)), if_neg (fun h2 => by rw [h2] at h; exact absurd h (by decide))]
  · refine ⟨-2, M, M, ?_, by rw [h7 M (FS_r M), if_pos h0, if_pos h1, e2, bdS, if_pos rfl], FS_r M⟩
    rw [h6, if_pos h0, if_pos h1, if_neg (fun h2 => by rw [h2] at h; exact absurd h (by decide)), if_neg (fun h2 => by rw [h2] at h; exact absurd h (by decide))]
  · subst ec
    obtain ⟨M1, e3, f3⟩ := br57 (w := w) (u := u) (show c < 1024 by omega) (by omega) hu (c + 1) 0 fu M hC (by omega) (by unfold fu; omega)
    obtain ⟨M2, e4, f4⟩ := br45 (w := w) (u := u) (by omega) hu (2 ^ n) 0 fu M1 (Cx_FS hC f3) (by omega) (by unfold fu; omega)
    refine ⟨fst1 (nI c) (bT kd gp ab (L 0) ps n (nI c) w u) (c + 1), M1, M2, ?_, ?_, FS_t f3 f4⟩
    · rw [h6, if_pos h0, if_pos h1]
      unfold F_X6_brings_52
      rcases (show u = 0 ∨ u = 1 by omega) with rfl | rfl
      · rw [if_pos (show nI 0 = 0 from rfl)]
        exact e3
      · rw [if_neg (by decide), if_pos (show nI 1 = 1 from rfl)]
        exact e3
    · rw [h7 M1 f3, if_pos h0, if_pos h1, e2, bdS, if_neg (by decide)]
      refine Eq.trans e4 ?_
      have := fst1_stop (T := bT kd gp ab (L 0) ps n (nI c) w u) (show c < 2147483648 by omega) (2 ^ n - (c + 1)) (by omega)
      rw [show c + 1 + (2 ^ n - (c + 1)) = 2 ^ n by omega] at this
      rw [this]
