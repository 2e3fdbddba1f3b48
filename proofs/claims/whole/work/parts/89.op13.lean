theorem fact_ok {q : Nat} (hq : q ≤ 7) (M : Mem) : F_X6_factorial (nI q) M = some (nI (fa q), M) := by
  have key : ∀ (d i m : Nat), i + d = q + 1 → d < m → 1 ≤ i → F_X6_factorial_4 m (nI q) (nI (fa (i - 1))) (nI i) M = some (nI (fa q), M) := by
    intro d
    induction d with
    | zero =>
      intro i m hi hm h1
      obtain ⟨m, rfl⟩ : ∃ q, m = q + 1 := ⟨m - 1, by omega⟩
      obtain rfl : i = q + 1 := by omega
      unfold F_X6_factorial_4
      rw [if_pos (by rw [nlt (by omega) (by omega)]; omega), Nat.add_sub_cancel]
    | succ d ih =>
      intro i m hi hm h1
      obtain ⟨m, rfl⟩ : ∃ q, m = q + 1 := ⟨m - 1, by omega⟩
      unfold F_X6_factorial_4
      rw [if_neg (by rw [nlt (by omega) (by omega)]; omega), pk_mul, nI_s]
      have := ih (i + 1) m (by omega) (by omega) (by omega)
      obtain ⟨i', rfl⟩ : ∃ i', i = i' + 1 := ⟨i - 1, by omega⟩
      rw [Nat.add_sub_cancel] at this ⊢
      rw [Nat.mul_comm]
      exact this
  unfold F_X6_factorial
  by_cases h0 : q = 0
  · subst h0
    rw [show fu = 8191 + 1 from rfl]
    unfold F_X6_factorial_4
    rw [if_pos (by decide)]
    rfl
  · exact key (q - 1) 2 fu (by omega) (by unfold fu; omega) (by omega)
theorem fa_le : ∀ q, q ≤ 7 → fa q ≤ 5040 := by decide
theorem cnt_cg {p r : Nat → Bool} : ∀ n, (∀ i, i < n → p i = r i) → cnt p n = cnt r n := by
  intro n
  induction n with
  | zero => intro _; rfl
  | succ n ih =>
    intro h
    rw [cnt_s, cnt_s, ih (fun i hi => h i (by omega)), h n (by omega)]
theorem op13 (M : Mem) (hI : Inv M) (x1 x2 : Int32) : ∃ (r : Int32) (M1 M2 : Mem), F_X6_orders x1 x2 M = some (r, M1) ∧ F_X7_orders x1 x2 M1 = some (r, M2) ∧ FS M M2 := by
  obtain ⟨n, kd, gp, ab, ps, kp, L, hC⟩ := Cx_of hI.1 hI.2.1
  have hn := hC.1.1
  have hp := pow_le10 hn
  rcases law_c x1 with e | ⟨j, hj, rfl, e⟩
  · exact ⟨-2, M, M, by unfold F_X6_orders; rw [(e M).1, bdoN], by unfold F_X7_orders; rw [(e M).2, bdS, if_pos rfl], FS_r M⟩
  obtain ⟨c, hc, ec⟩ := hon_nI hn kp
  obtain ⟨c1, c2, -, -, -, -, c7⟩ := ck_and (show c < 1024 by omega)
  obtain ⟨q, hq⟩ : ∃ q, q = (elsN c).length := ⟨_, rfl⟩
  have hbt : ∀ i, i < 32 → bt (hon n kp) i = c.testBit i := fun i hi => by rw [ec, b_nI, decide_eq_true hi, Bool.true_and]
  have hq10 : pc (hon n kp) = q := by
    unfold pc
    rw [hq, c1]
    exact cnt_cg 10 (fun i hi => hbt i (by omega))
  have hqn : cnt (bt (hon n kp)) n = q := by
    rw [← hq10]
    unfold pc
    have := cnt_flat (p := bt (hon n kp)) (a := n) (10 - n) (fun k h1 h2 => by rw [hon_b hn kp (by omega), decide_eq_false (by omega), Bool.false_and])
    rw [show n + (10 - n) = 10 by omega] at this
    exact this.symm
  have hqb : q ≤ 10 := by rw [← hq10]; exact pc_le _
  obtain ⟨lx, lb, -⟩ := hC.2.2.2.1 j hj
  -- the words asked for
  have hmain : ∀ wd : Option Nat, (∀ w, wd = some w → w < n) → ∃ (r : Int32) (M1 M2 : Mem), F_X6_orders_29 j (encw wd) M = some (r, M1) ∧ F_X7_orders_23 (nI j) (encw wd) M1 = some (r, M2) ∧ FS M M1 ∧ FS M1 M2 := by
    intro wd hwd
    -- the model
    have hmod : ∀ M1, FS M M1 → ∃ M2, F_X7_orders_23 (nI j) (encw wd) M1 = some (if q ≤ 7 then nI (spm (ind kd gp ab (L j) ps n wd) q [] c) else -4, M2) ∧ FS M1 M2 := by
      intro M1 f1
      have h1 := Cx_FS hC f1
      obtain ⟨r, er⟩ := (h1.2.2.2.1 j hj).2.2 M1 (FS_r M1).q
      have g1 := FS_rl M1 j r (L j)
      have g2 := FS_t g1 (FS_lp (rl M1 j r (L j)))
      have h2 := Cx_FS h1 g2
      obtain ⟨X, hX⟩ : ∃ X, X = lp (rl M1 j r (L j)) := ⟨_, rfl⟩
      have hLX : LY X j (L j) := by rw [hX]; exact fun w hw => rl_told (r := r) hw
      have h42 : X.1 42 = X.1 2 := by rw [hX]; rfl
      unfold F_X7_orders_23
      rw [er, bdvS, h1.2.2.2.2 _ g1.q, bdvS, hon7 h2, bdS]
      rw [← hX] at g2 h2 ⊢
      obtain ⟨O, e2, hO⟩ := lines_ok hn h2.2.1.1 (hon n kp)
      have g3 : FS M1 (sv (sr X 33 O) 43 (nI (cnt (bt (hon n kp)) n))) := FS_t g2 (FS_t (FS_sr O (by omega)) (FS_sv _ (by omega)))
      rw [e2, bdvS]
      rw [hqn] at g3 ⊢
      rw [show (sv (sr X 33 O) 43 (nI q)).1 43 = nI q from rfl]
      by_cases h7 : q ≤ 7
      rotate_left
      · rw [if_neg (by rw [nlit 7, nle (by omega) (by omega)]; exact h7), if_neg h7]
        exact ⟨_, rfl, g3⟩
      rw [if_pos (by rw [nlit 7, nle (by omega) (by omega)]; exact h7), if_pos h7]
      -- the first order
      have hrow : rwl O q (elsN c) = O := by
        funext k
        unfold rwl
        split
        · next hk =>
          obtain ⟨i, hi, hb, hk2⟩ := cnt_surj (bt (hon n kp)) (show k < cnt (bt (hon n kp)) n by omega)
          have hcc : cnt (fun i => c.testBit i) i = k := by
            rw [← hk2]
            exact (cnt_cg i (fun i' hi' => hbt i' (by omega))).symm
          have h3 := c2 i (by omega) (by rw [← hbt i (by omega)]; exact hb)
          rw [hcc] at h3
          rw [h3, ← hk2, hO i hi hb]
        · rfl
      have hst : sv (sr X 33 O) 43 (nI q) = st X O q (elsN c) ((sv (sr X 33 O) 43 (nI q)).1 44, (sv (sr X 33 O) 43 (nI q)).1 45, (sv (sr X 33 O) 43 (nI q)).1 46) := by
        unfold st
        rw [hrow, h4_self]
      have hfa := fa_le q h7
      obtain ⟨S0, hS0⟩ : ∃ S0, S0 = ((sv (sr X 33 O) 43 (nI q)).1 44, (sv (sr X 33 O) 43 (nI q)).1 45, (sv (sr X 33 O) 43 (nI q)).1 46) := ⟨_, rfl⟩
      rw [← hS0] at hst
      have hE := Eall (M := X) (n := n) (j := j) (q := q) (kd := kd) (gp := gp) (ab := ab) (L := L j) (ps := ps) (h2.mx h42) hj hLX lb hqb O (wd := wd) (fun w hw => by have := hwd w hw; omega) q c [] (fu - fa q) 0 S0 hq.symm hc (by rw [List.length_nil]; omega) (fun y hy => by cases hy)
      rw [List.nil_append, List.nil_append, show fu - fa q + fa q = fu by unfold fu; omega, ← hst] at hE
      rw [turn_n X O hqb _ (by rw [List.length_reverse]; exact hq.symm) (fun y hy => by rw [List.mem_reverse] at hy; have := (els_lt hc hy).1; omega) (fun i hi => c7 i (by omega)), bdS] at hE
      obtain ⟨m, hm⟩ : ∃ m, fu - fa q = m + 1 := ⟨fu - fa q - 1, by unfold fu; omega⟩
      rw [hm, F_X7_orders_57, if_pos rfl, Nat.zero_add] at hE
      refine ⟨_, hE, FS_t g2 (FS_t (FS_t (FS_sr _ (by omega)) (FS_sv _ (by omega))) (FS_h4 _ _))⟩
    unfold F_X6_orders_29
    rw [hon5 hC, bdS, bitCount_ok (fun i hi h10 => by rw [hon_b hn kp hi, decide_eq_false (by omega), Bool.false_and]), bdS, hq10]
    by_cases h7 : q ≤ 7
    rotate_left
    · rw [if_neg (by rw [nlit 7, nle (by omega) (by omega)]; exact h7)]
      obtain ⟨M2, e2, f2⟩ := hmod M (FS_r M)
      rw [if_neg h7] at e2
      exact ⟨-4, M, M2, rfl, e2, FS_r M, f2⟩
    rw [if_pos (by rw [nlit 7, nle (by omega) (by omega)]; exact h7)]
    cases wd with
    | none =>
      rw [if_pos (show encw none = -1 from rfl), bitCount_ok (fun i hi h10 => by rw [hon_b hn kp hi, decide_eq_false (by omega), Bool.false_and]), bdS, hq10, fact_ok h7, bdS]
      obtain ⟨M2, e2, f2⟩ := hmod M (FS_r M)
      rw [if_pos h7, spm_one n kd gp ab (L j) ps q c [] hq.symm (by omega)] at e2
      exact ⟨nI (fa q), M, M2, rfl, e2, FS_r M, f2⟩
    | some w =>
      have hw := hwd w rfl
      rw [if_neg (show ¬ encw (some w) = -1 from nIm w (by omega)), show encw (some w) = nI w from rfl]
      simp only [b_tst0 _ (show w < 32 by omega)]
      rw [hbt w (by omega)]
      cases hb : c.testBit w
      · rw [if_pos rfl]
        obtain ⟨M2, e2, f2⟩ := hmod M (FS_r M)
        rw [if_pos h7, gone (by omega) q c [] hq.symm (by omega) (b_0 w) hb] at e2
        exact ⟨0, M, M2, rfl, e2, FS_r M, f2⟩
      · rw [if_neg (by decide)]
        unfold F_X1_begin
        rw [bdvS]
        have e3 := Cord hC.1 lx lb hw q c [] 0 10 hq.symm hc (by omega) (by omega) (by rw [hb, Bool.or_true])
        have f3 := FS_h3 M (hl kd gp ab (L j) ps n [])
        obtain ⟨M2, e2, f2⟩ := hmod _ f3
        rw [if_pos h7] at e2
        refine ⟨_, _, M2, ?_, e2, f3, f2⟩
        rw [ec]
        refine Eq.trans (congrArg (fun Y => bd Y (fun r92 M92 => some (r92, M92))) (?_ : _ = some (nI (spm (ind kd gp ab (L j) ps n (some w)) q [] c), h3 M (hl kd gp ab (L j) ps n [])))) rfl
        exact e3
  by_cases hx : x2 = -1
  · subst hx
    obtain ⟨r, M1, M2, e1, e2, f1, f2⟩ := hmain none (fun w h => by cases h)
    refine ⟨r, M1, M2, ?_, ?_, FS_t f1 f2⟩
    · unfold F_X6_orders
      rw [(e M).1, bdoS, ckT (dec2 hj), if_pos rfl]
      exact e1
    · unfold F_X7_orders
      rw [(e M1).2, bdS, if_neg (by decide), if_pos rfl]
      exact e2
  · rcases wd_c hC x2 with e' | ⟨w, hw, rfl, e'⟩
    · refine ⟨-2, M, M, ?_, ?_, FS_r M⟩
      · unfold F_X6_orders
        rw [(e M).1, bdoS, ckT (dec2 hj), if_neg hx, (e' M (FS_r M)).1, bdS, if_pos rfl]
      · unfold F_X7_orders
        rw [(e M).2, bdS, if_neg (by decide), if_neg hx, (e' M (FS_r M)).2, bdS, if_pos rfl]
    · obtain ⟨r, M1, M2, e1, e2, f1, f2⟩ := hmain (some w) (fun w' h => by cases h; exact hw)
      refine ⟨r, M1, M2, ?_, ?_, FS_t f1 f2⟩
      · unfold F_X6_orders
        rw [(e M).1, bdoS, ckT (dec2 hj), if_neg hx, (e' M (FS_r M)).1, bdS, if_neg (by decide)]
        exact e1
      · unfold F_X7_orders
        rw [(e M1).2, bdS, if_neg (by decide), if_neg hx, (e' M1 f1).2, bdS, if_neg (by decide)]
        exact e2
