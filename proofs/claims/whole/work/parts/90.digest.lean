/-! digest -/
def dg (y : Int64) (x : Int32) : Int64 := 31 * y + x.toInt64
def acc (v : Nat → Int32) (y : Int64) : Nat → Int64
  | 0 => y
  | k + 1 => dg (acc v y k) (v k)
/-- what a heard law tells -/
def hv (S : Int32 × Int32 × Int32) (w : Nat) : Int32 := if w = 0 then S.1 else if w = 1 then S.2.1 else S.2.2
theorem dl17 {n j : Nat} {kd gp ab : Nat → Nat} {ps : Nat → Bool} {kp : Int32} {L : Nat → Nat → Nat} (hj : j < 2) (y : Int64) {M : Mem} (hC : Cx M n kd gp ab ps kp L) : F_X6_digestOfLaw_17 fu (nI j) y 0 M = F_X6_digestOfLaw_49 fu (nI j) (acc (fun w => nI (L j w)) y 4) 0 M := by
  have key : ∀ (d k m : Nat), k + d = 4 → d < m → F_X6_digestOfLaw_17 m (nI j) (acc (fun w => nI (L j w)) y k) (nI k) M = F_X6_digestOfLaw_49 fu (nI j) (acc (fun w => nI (L j w)) y 4) 0 M := by
    intro d
    induction d with
    | zero =>
      intro k m hk hm
      obtain ⟨m, rfl⟩ : ∃ q, m = q + 1 := ⟨m - 1, by omega⟩
      obtain rfl : k = 4 := by omega
      unfold F_X6_digestOfLaw_17
      rw [if_pos (by decide)]
    | succ d ih =>
      intro k m hk hm
      obtain ⟨m, rfl⟩ : ∃ q, m = q + 1 := ⟨m - 1, by omega⟩
      have hl : F_X6_law (nI j) (nI k) M = some (nI (L j k), M) := by
        have := (hC.2.2.2.1 j hj).1 k (by omega)
        unfold F_X6_law
        rw [lawOf_ok hj, bdoS, ckT (dec2 hj)]
        rcases (show k = 0 ∨ k = 1 ∨ k = 2 ∨ k = 3 by omega) with rfl | rfl | rfl | rfl
        · rw [← this]; rfl
        · rw [← this]; rfl
        · rw [← this]; rfl
        · rw [← this]; rfl
      unfold F_X6_digestOfLaw_17
      rw [if_neg (by rw [nlit 3, nlt (by omega) (by omega)]; omega), hl, bdS, nI_s]
      exact ih (k + 1) m (by omega) (by omega)
  exact key 4 0 fu (by omega) (by decide)
/-- all that is told of a law -/
def dlw (kd gp ab L : Nat → Nat) (ps : Nat → Bool) (n : Nat) (set : Int32) (f : Int32) (y : Int64) : Int64 := dg (dg (acc (hv (bnf kd gp ab L ps n set n)) (acc (fun w => nI (L w)) (dg y f) 4) 3) (lsv kd gp ab L ps n set)) (nI (cnt (fullB n (am gp L set) (sk kd gp ab L ps n set)) (2 ^ n)))
theorem dl6 {n j : Nat} {kd gp ab : Nat → Nat} {ps : Nat → Bool} {kp : Int32} {L : Nat → Nat → Nat} (hj : j < 2) (y : Int64) {M : Mem} (hC : Cx M n kd gp ab ps kp L) : ∃ M2, F_X6_digestOfLaw y (nI j) M = some (dlw kd gp ab (L j) ps n (hon n kp) (M.1 (10 + 6 * j + 1)) y, M2) ∧ FS M M2 := by
  have key : ∀ (d k m : Nat) (y : Int64) (M : Mem), Cx M n kd gp ab ps kp L → k + d = 3 → d < m → ∃ M2, F_X6_digestOfLaw_49 m (nI j) (acc (hv (bnf kd gp ab (L j) ps n (hon n kp) n)) y k) (nI k) M = some (dg (dg (acc (hv (bnf kd gp ab (L j) ps n (hon n kp) n)) y 3) (lsv kd gp ab (L j) ps n (hon n kp))) (nI (cnt (fullB n (am gp (L j) (hon n kp)) (sk kd gp ab (L j) ps n (hon n kp))) (2 ^ n))), M2) ∧ FS M M2 := by
    intro d
    induction d with
    | zero =>
      intro k m y M hC hk hm
      obtain ⟨m, rfl⟩ : ∃ q, m = q + 1 := ⟨m - 1, by omega⟩
      obtain rfl : k = 3 := by omega
      obtain ⟨M1, e1, f1⟩ := least6_ok hC hj
      obtain ⟨M2, e2, f2⟩ := fullN6 (Cx_FS hC f1) hj
      refine ⟨M2, ?_, FS_t f1 f2⟩
      unfold F_X6_digestOfLaw_49
      rw [if_pos (by decide), e1, bdS, e2, bdS]
      rfl
    | succ d ih =>
      intro k m y M hC hk hm
      obtain ⟨m, rfl⟩ : ∃ q, m = q + 1 := ⟨m - 1, by omega⟩
      have f1 := FS_h3 M (bnf kd gp ab (L j) ps n (hon n kp) n)
      obtain ⟨M2, e2, f2⟩ := ih (k + 1) m y _ (Cx_FS hC f1) (by omega) (by omega)
      refine ⟨M2, ?_, FS_t f1 f2⟩
      unfold F_X6_digestOfLaw_49
      rw [if_neg (by rw [nlit 2, nlt (by omega) (by omega)]; omega), heard6_ok hC hj (show k < 3 by omega), bdS, nI_s]
      exact e2
  unfold F_X6_digestOfLaw
  have hf : F_X6_fault (nI j) M = some (M.1 (10 + 6 * j + 1), M) := by
    unfold F_X6_fault
    rw [lawOf_ok hj, bdoS, ckT (dec2 hj)]
  obtain ⟨M2, e2, f2⟩ := key 3 0 fu (acc (fun w => nI (L j w)) (dg y (M.1 (10 + 6 * j + 1))) 4) M hC (by omega) (by decide)
  refine ⟨M2, ?_, f2⟩
  rw [hf, bdS]
  refine Eq.trans (dl17 hj _ hC) ?_
  exact e2
theorem reads_v {n j : Nat} {kd gp ab : Nat → Nat} {ps : Nat → Bool} {kp : Int32} {L : Nat → Nat → Nat} (hj : j < 2) {M : Mem} (hC : Cx M n kd gp ab ps kp L) (hI : IL M) : F_X7_reads (nI j) M = some (rl M j (M.1 (10 + 6 * j + 1)) (L j)) := by
  obtain ⟨r, er⟩ := (hC.2.2.2.1 j hj).2.2 M (FS_r M).q
  obtain ⟨z, b, r', h⟩ := hI j hj
  have e2 := reads_ok hj h.1 h.2.2.1 h.2.2.2.1
  rw [er] at e2
  have e3 := congrArg (fun X : Mem => X.2 31 j) (Option.some.inj e2)
  have e4 : r = r' := by
    have a1 : (rl M j r (L j)).2 31 j = r := upd_s _ _ _
    have a2 : (rl M j r' (lvs b z r')).2 31 j = r' := upd_s _ _ _
    rw [← a1, ← a2]
    exact e3
  rw [er, h.2.2.2.2.1, e4]
theorem dl7 {n j : Nat} {kd gp ab : Nat → Nat} {ps : Nat → Bool} {kp : Int32} {L : Nat → Nat → Nat} (hj : j < 2) (y : Int64) {M : Mem} (hC : Cx M n kd gp ab ps kp L) (hI : IL M) (m : Nat) : ∃ M2, F_X7_digest_80 (m + 1) y (nI j) M = F_X7_digest_80 m (dlw kd gp ab (L j) ps n (hon n kp) (M.1 (10 + 6 * j + 1)) y) (nI (j + 1)) M2 ∧ FS M M2 := by
  obtain ⟨X, hX⟩ : ∃ X, X = rl M j (M.1 (10 + 6 * j + 1)) (L j) := ⟨_, rfl⟩
  have f1 : FS M X := by rw [hX]; exact FS_rl _ _ _ _
  have hC1 := Cx_FS hC f1
  have hLX : LY X j (L j) := by rw [hX]; exact fun w hw => rl_told (r := M.1 (10 + 6 * j + 1)) hw
  obtain ⟨Y, eY, fY, -, -, g1, g2, g3⟩ := hearsAll_ok hC1 hj
  have hC2 := Cx_FS hC1 fY
  obtain ⟨M3, e3, f3⟩ := least7_ok hC2 hj
  obtain ⟨M4, e4, f4⟩ := fullN7 (Cx_FS hC2 f3) hj
  have k107 : ∀ (d k q : Nat) (y : Int64), k + d = 4 → d < q → F_X7_digest_107 (F_X7_digest_80 m) q (acc (fun w => nI (L j w)) y k) (nI j) (nI k) X = F_X7_digest_146 (F_X7_digest_80 m) fu (acc (fun w => nI (L j w)) y 4) (nI j) 0 Y := by
    intro d
    induction d with
    | zero =>
      intro k q y hk hq
      obtain ⟨q, rfl⟩ : ∃ x, q = x + 1 := ⟨q - 1, by omega⟩
      obtain rfl : k = 4 := by omega
      unfold F_X7_digest_107
      rw [if_pos (by decide), eY, bdvS]
    | succ d ih =>
      intro k q y hk hq
      obtain ⟨q, rfl⟩ : ∃ x, q = x + 1 := ⟨q - 1, by omega⟩
      unfold F_X7_digest_107
      rw [if_neg (by rw [nlit 4, nle (by omega) (by omega)]; omega), nlit 4, pk_mul, nI_add, ckN (by omega) (by omega), ncl (by omega), hLX k (by omega), nI_s]
      exact ih (k + 1) q y (by omega) (by omega)
  have k146 : ∀ (d k q : Nat) (y : Int64), k + d = 3 → d < q → F_X7_digest_146 (F_X7_digest_80 m) q (acc (hv (bnf kd gp ab (L j) ps n (hon n kp) n)) y k) (nI j) (nI k) Y = F_X7_digest_80 m (dg (dg (acc (hv (bnf kd gp ab (L j) ps n (hon n kp) n)) y 3) (lsv kd gp ab (L j) ps n (hon n kp))) (nI (cnt (fullB n (am gp (L j) (hon n kp)) (sk kd gp ab (L j) ps n (hon n kp))) (2 ^ n)))) (nI (j + 1)) M4 := by
    intro d
    induction d with
    | zero =>
      intro k q y hk hq
      obtain ⟨q, rfl⟩ : ∃ x, q = x + 1 := ⟨q - 1, by omega⟩
      obtain rfl : k = 3 := by omega
      unfold F_X7_digest_146
      rw [if_pos (by decide), e3, bdS, e4, bdS, nI_s]
      rfl
    | succ d ih =>
      intro k q y hk hq
      obtain ⟨q, rfl⟩ : ∃ x, q = x + 1 := ⟨q - 1, by omega⟩
      unfold F_X7_digest_146
      rw [if_neg (by rw [nlit 3, nle (by omega) (by omega)]; omega), tells_ok (show k < 3 by omega) Y _ g1 g2 g3, bdS, nI_s]
      exact ih (k + 1) q y (by omega) (by omega)
  refine ⟨M4, ?_, FS_t f1 (FS_t fY (FS_t f3 f4))⟩
  rw [F_X7_digest_80, if_neg (by rw [nlit 2, nle (by omega) (by omega)]; omega), reads_v hj hC hI, bdvS, ckN hj (by omega), ncl (by omega), show (rl M j (M.1 (10 + 6 * j + 1)) (L j)).2 31 j = M.1 (10 + 6 * j + 1) from upd_s _ _ _, ← hX]
  refine Eq.trans (k107 4 0 fu _ (by omega) (by decide)) ?_
  exact k146 3 0 fu _ (by omega) (by decide)
/-- what is told of a word -/
def iv (M : Mem) (w k : Nat) : Int32 := if k = 0 then M.2 2 w else if k = 1 then M.2 3 w else if k = 2 then M.2 5 w else if k = 3 then M.2 6 w else if k = 4 then M.2 7 w else if k = 5 then (M.1 1 >>> (nI w &&& 31)) &&& 1 else (M.1 2 >>> (nI w &&& 31)) &&& 1
theorem iv_FS {M M1 : Mem} (f : FS M M1) (w k : Nat) : iv M1 w k = iv M w k := by
  unfold iv
  rw [f.w.1 1 (by omega), f.w.1 2 (by omega), f.w.2.2.2.1 2 (by omega), f.w.2.2.2.1 3 (by omega), f.w.2.2.2.1 5 (by omega), f.w.2.2.2.1 6 (by omega), f.w.2.2.2.1 7 (by omega)]
theorem is6 {M : Mem} {n : Nat} (h0 : M.1 0 = nI n) (hn : n ≤ 10) {w k : Nat} (hw : w < n) (hk : k < 7) : F_X6_is (nI w) (nI k) M = some (iv M w k, M) := by
  unfold F_X6_is iv
  rw [has5_ok h0 hn hw, bdS, if_neg (by decide)]
  simp (disch := omega) only [ckN, ncl]
  rcases (show k = 0 ∨ k = 1 ∨ k = 2 ∨ k = 3 ∨ k = 4 ∨ k = 5 ∨ k = 6 by omega) with rfl | rfl | rfl | rfl | rfl | rfl | rfl <;> rfl
theorem is7 {M : Mem} {n : Nat} {kd gp tn hr ab rd : Nat → Nat} (hW : IWx M n kd gp tn hr ab rd) (h42 : M.1 42 = M.1 2) {w k : Nat} (hw : w < n) (hk : k < 7) : F_X7_isNow (nI w) (nI k) M = some (iv M w k, M) := by
  have hn := hW.1.1
  obtain ⟨⟨k1, k2, k3⟩, ⟨g1, g2, -⟩, ⟨t1, t2, t3⟩, ⟨h1, h2, h3⟩, ⟨a1, a2, -⟩⟩ := hW.1.2.2.2 w hw
  unfold F_X7_isNow iv
  rw [show M.1 41 = M.1 1 from hW.2.2.2.2.2.2.1.symm, h42]
  simp (disch := omega) only [ckN, ncl, k1, k2, g1, g2, t1, t2, h1, h2, a1, a2]
  rcases (show k = 0 ∨ k = 1 ∨ k = 2 ∨ k = 3 ∨ k = 4 ∨ k = 5 ∨ k = 6 by omega) with rfl | rfl | rfl | rfl | rfl | rfl | rfl <;> rfl
/-- all words -/
def aw (M : Mem) (y : Int64) : Nat → Int64
  | 0 => y
  | w + 1 => acc (iv M w) (aw M y w) 7
theorem dw6 {M : Mem} {n : Nat} (h0 : M.1 0 = nI n) (hn : n ≤ 10) (y : Int64) (q : Nat) (hq : n < q) : ∃ q', 0 < q' ∧ F_X6_digest_32 q y 0 M = F_X6_digest_32 q' (aw M y n) (nI n) M := by
  have k46 : ∀ (k32 : Int64 → Int32 → Mem → Option (Int64 × Mem)) (w : Nat), w < n → ∀ (d k m : Nat) (y : Int64), k + d = 7 → d < m → F_X6_digest_46 k32 m (acc (iv M w) y k) (nI w) (nI k) M = k32 (acc (iv M w) y 7) (nI (w + 1)) M := by
    intro k32 w hw d
    induction d with
    | zero =>
      intro k m y hk hm
      obtain ⟨m, rfl⟩ : ∃ x, m = x + 1 := ⟨m - 1, by omega⟩
      obtain rfl : k = 7 := by omega
      unfold F_X6_digest_46
      rw [if_pos (by decide), nI_s]
    | succ d ih =>
      intro k m y hk hm
      obtain ⟨m, rfl⟩ : ∃ x, m = x + 1 := ⟨m - 1, by omega⟩
      unfold F_X6_digest_46
      rw [if_neg (by rw [nlit 6, nlt (by omega) (by omega)]; omega), is6 h0 hn hw (by omega), bdS, nI_s]
      exact ih (k + 1) m y (by omega) (by omega)
  have key : ∀ (d w m : Nat), w + d = n → d < m → ∃ q', 0 < q' ∧ F_X6_digest_32 m (aw M y w) (nI w) M = F_X6_digest_32 q' (aw M y n) (nI n) M := by
    intro d
    induction d with
    | zero =>
      intro w m hw hm
      obtain rfl : w = n := by omega
      exact ⟨m, by omega, rfl⟩
    | succ d ih =>
      intro w m hw hm
      obtain ⟨m, rfl⟩ : ∃ x, m = x + 1 := ⟨m - 1, by omega⟩
      obtain ⟨q', h1, h2⟩ := ih (w + 1) m (by omega) (by omega)
      refine ⟨q', h1, ?_⟩
      rw [← h2, F_X6_digest_32, h0, if_neg (by rw [nle (by omega) (by omega)]; omega)]
      exact k46 (F_X6_digest_32 m) w (by omega) 7 0 fu (aw M y w) (by omega) (by decide)
  exact key n 0 q (by omega) hq
theorem dw7 {M : Mem} {n : Nat} {kd gp tn hr ab rd : Nat → Nat} (hW : IWx M n kd gp tn hr ab rd) (h42 : M.1 42 = M.1 2) (y : Int64) (q : Nat) (hq : n < q) : F_X7_digest_33 q y 0 M = F_X7_digest_80 fu (aw M y n) 0 M := by
  have hn := hW.1.1
  have h0 := hW.1.2.2.1
  have k44 : ∀ (k33 : Int64 → Int32 → Mem → Option (Int64 × Mem)) (w : Nat), w < n → ∀ (d k m : Nat) (y : Int64), k + d = 7 → d < m → F_X7_digest_44 k33 m (acc (iv M w) y k) (nI w) (nI k) M = k33 (acc (iv M w) y 7) (nI (w + 1)) M := by
    intro k33 w hw d
    induction d with
    | zero =>
      intro k m y hk hm
      obtain ⟨m, rfl⟩ : ∃ x, m = x + 1 := ⟨m - 1, by omega⟩
      obtain rfl : k = 7 := by omega
      unfold F_X7_digest_44
      rw [if_pos (by decide), nI_s]
    | succ d ih =>
      intro k m y hk hm
      obtain ⟨m, rfl⟩ : ∃ x, m = x + 1 := ⟨m - 1, by omega⟩
      unfold F_X7_digest_44
      rw [if_neg (by rw [nlit 7, nle (by omega) (by omega)]; omega), is7 hW h42 hw (by omega), bdS, nI_s]
      exact ih (k + 1) m y (by omega) (by omega)
  have key : ∀ (d w m : Nat), w + d = n → d < m → F_X7_digest_33 m (aw M y w) (nI w) M = F_X7_digest_80 fu (aw M y n) 0 M := by
    intro d
    induction d with
    | zero =>
      intro w m hw hm
      obtain ⟨m, rfl⟩ : ∃ x, m = x + 1 := ⟨m - 1, by omega⟩
      obtain rfl : w = n := by omega
      unfold F_X7_digest_33
      rw [h0, if_pos (by rw [nle (by omega) (by omega)]; omega)]
    | succ d ih =>
      intro w m hw hm
      obtain ⟨m, rfl⟩ : ∃ x, m = x + 1 := ⟨m - 1, by omega⟩
      have ih := ih (w + 1) m (by omega) (by omega)
      rw [F_X7_digest_33, h0, if_neg (by rw [nle (by omega) (by omega)]; omega)]
      refine Eq.trans (k44 (F_X7_digest_33 m) w (by omega) 7 0 fu (aw M y w) (by omega) (by decide)) ?_
      exact ih
  exact key n 0 q (by omega) hq
theorem aw_FS {M M1 : Mem} (f : FS M M1) (y : Int64) : ∀ n, aw M1 y n = aw M y n := by
  intro n
  induction n with
  | zero => rfl
  | succ n ih =>
    show acc (iv M1 n) (aw M1 y n) 7 = acc (iv M n) (aw M y n) 7
    rw [ih, show iv M1 n = iv M n from funext (fun k => iv_FS f n k)]
theorem op32 (M : Mem) (hI : Inv M) : ∃ (r : Int64) (M1 M2 : Mem), F_X6_digest M = some (r, M1) ∧ F_X7_digest M1 = some (r, M2) ∧ FS M M2 := by
  obtain ⟨n, kd, gp, ab, ps, kp, L, hC⟩ := Cx_of hI.1 hI.2.1
  have hn := hC.1.1
  obtain ⟨v, hv⟩ : ∃ v : Nat → Int32, ∀ k, k < 6 → (∀ M1, FS M M1 → ∃ M2, F_X6_count (nI k) M1 = some (v k, M2) ∧ FS M1 M2) ∧ ∀ M1, FS M M1 → ∃ M2, F_X7_count (nI k) M1 = some (v k, M2) ∧ FS M1 M2 := ⟨fun k => (cnt_ans M hI (nI k)).choose, fun k _ => (cnt_ans M hI (nI k)).choose_spec⟩
  -- the class's counts
  have c6 : ∀ (d k m : Nat) (M1 : Mem), FS M M1 → k + d = 6 → d < m → ∃ M2, F_X6_digest_6 m (acc v 17 k) (nI k) M1 = F_X6_digest_32 fu (acc v 17 6) 0 M2 ∧ FS M M2 := by
    intro d
    induction d with
    | zero =>
      intro k m M1 f1 hk hm
      obtain ⟨m, rfl⟩ : ∃ x, m = x + 1 := ⟨m - 1, by omega⟩
      obtain rfl : k = 6 := by omega
      refine ⟨M1, ?_, f1⟩
      unfold F_X6_digest_6
      rw [if_pos (by decide)]
    | succ d ih =>
      intro k m M1 f1 hk hm
      obtain ⟨m, rfl⟩ : ∃ x, m = x + 1 := ⟨m - 1, by omega⟩
      obtain ⟨M2, e2, f2⟩ := (hv k (by omega)).1 M1 f1
      obtain ⟨M3, e3, f3⟩ := ih (k + 1) m M2 (FS_t f1 f2) (by omega) (by omega)
      refine ⟨M3, ?_, f3⟩
      unfold F_X6_digest_6
      rw [if_neg (by rw [nlit 5, nlt (by omega) (by omega)]; omega), e2, bdS, nI_s]
      exact e3
  have c7 : ∀ (d k m : Nat) (M1 : Mem), FS M M1 → k + d = 5 → d + 1 < m → ∃ M2, F_X7_digest_6 m (acc v 17 k) (nI k) M1 = F_X7_digest_33 fu (acc v 17 6) 0 M2 ∧ FS M M2 ∧ M2.1 42 = M2.1 2 := by
    intro d
    induction d with
    | zero =>
      intro k m M1 f1 hk hm
      obtain ⟨m, rfl⟩ : ∃ x, m = x + 1 := ⟨m - 1, by omega⟩
      obtain ⟨m, rfl⟩ : ∃ x, m = x + 1 := ⟨m - 1, by omega⟩
      obtain rfl : k = 5 := by omega
      obtain ⟨M2, e2, f2⟩ := (hv 5 (by omega)).2 M1 f1
      have e5 : F_X7_count (nI 5) M1 = some (M1.1 2, lp M1) := by
        unfold F_X7_count
        rw [if_neg (by decide), if_neg (by decide), if_neg (by decide), if_neg (by decide), if_neg (by decide), if_pos (by decide), hC.2.2.2.2 M1 f1.q, bdvS]
        rfl
      have hM2 : M2 = lp M1 := (congrArg Prod.snd (Option.some.inj (e5.symm.trans e2))).symm
      refine ⟨M2, ?_, FS_t f1 f2, by rw [hM2]; rfl⟩
      rw [F_X7_digest_6, if_neg (by decide), e2, bdS, nI_s, F_X7_digest_6, if_pos (by decide)]
      rfl
    | succ d ih =>
      intro k m M1 f1 hk hm
      obtain ⟨m, rfl⟩ : ∃ x, m = x + 1 := ⟨m - 1, by omega⟩
      obtain ⟨M2, e2, f2⟩ := (hv k (by omega)).2 M1 f1
      obtain ⟨M3, e3, f3⟩ := ih (k + 1) m M2 (FS_t f1 f2) (by omega) (by omega)
      refine ⟨M3, ?_, f3⟩
      rw [F_X7_digest_6, if_neg (by rw [nlit 6, nle (by omega) (by omega)]; omega), e2, bdS, nI_s]
      exact e3
  -- the class
  obtain ⟨A1, a1, fA1⟩ := c6 6 0 fu M (FS_r M) (by omega) (by decide)
  have hA1 := Cx_FS hC fA1
  obtain ⟨q, hq, a2⟩ := dw6 hA1.1.2.1 hn (acc v 17 6) fu (by unfold fu; omega)
  obtain ⟨q, rfl⟩ : ∃ x, q = x + 1 := ⟨q - 1, by omega⟩
  obtain ⟨A2, a3, fA2⟩ := dl6 (j := 0) (by omega) (aw A1 (acc v 17 6) n) hA1
  obtain ⟨A3, a4, fA3⟩ := dl6 (j := 1) (by omega) (dlw kd gp ab (L 0) ps n (hon n kp) (A1.1 (10 + 6 * 0 + 1)) (aw A1 (acc v 17 6) n)) (Cx_FS hA1 fA2)
  obtain ⟨A4, a5, fA4⟩ := ring6_ok (Cx_FS hA1 (FS_t fA2 fA3))
  obtain ⟨A5, a6, fA5⟩ := most6_ok (Cx_FS hA1 (FS_t fA2 (FS_t fA3 fA4)))
  have fA : FS M A5 := FS_t fA1 (FS_t fA2 (FS_t fA3 (FS_t fA4 fA5)))
  have hIA := Inv_FS hI fA
  have hCA := Cx_FS hC fA
  -- the model
  obtain ⟨B1, b1, fB1, h42⟩ := c7 5 0 fu A5 fA (by omega) (by decide)
  have hIB := Inv_FS hI fB1
  have hCB := Cx_FS hC fB1
  obtain ⟨n', kd', gp', tn', hr', ab', rd', hWB⟩ := hIB.1
  have hnn : n' = n := by
    have h1 := hWB.1.2.1
    have h1' := hWB.1.1
    rw [hCB.1.2.1, neq (by omega) (by omega)] at h1
    exact h1.symm
  subst hnn
  have b2 := dw7 hWB h42 (acc v 17 6) fu (by unfold fu; omega)
  obtain ⟨B2, b3, fB2⟩ := dl7 (j := 0) (by omega) (aw B1 (acc v 17 6) n') hCB hIB.2.1 8191
  obtain ⟨B3, b4, fB3⟩ := dl7 (j := 1) (by omega) (dlw kd gp ab (L 0) ps n' (hon n' kp) (B1.1 (10 + 6 * 0 + 1)) (aw B1 (acc v 17 6) n')) (Cx_FS hCB fB2) (Inv_FS hIB fB2).2.1 8190
  obtain ⟨B4, b5, fB4⟩ := ring7_ok (Cx_FS hCB (FS_t fB2 fB3))
  obtain ⟨B5, b6, fB5⟩ := most7_ok (Cx_FS hCB (FS_t fB2 (FS_t fB3 fB4)))
  have eaw : aw A1 (acc v 17 6) n' = aw M (acc v 17 6) n' := aw_FS fA1 _ _
  have ebw : aw B1 (acc v 17 6) n' = aw M (acc v 17 6) n' := aw_FS fB1 _ _
  have ea0 : A1.1 (10 + 6 * 0 + 1) = M.1 (10 + 6 * 0 + 1) := fA1.1 _ (by omega) (by omega)
  have eb0 : B1.1 (10 + 6 * 0 + 1) = M.1 (10 + 6 * 0 + 1) := fB1.1 _ (by omega) (by omega)
  have ea1 : A2.1 (10 + 6 * 1 + 1) = M.1 (10 + 6 * 1 + 1) := (FS_t fA1 fA2).1 _ (by omega) (by omega)
  have eb1 : B2.1 (10 + 6 * 1 + 1) = M.1 (10 + 6 * 1 + 1) := (FS_t fB1 fB2).1 _ (by omega) (by omega)
  rw [eaw, ea0] at a3 a4
  rw [ea1] at a4
  rw [ebw, eb0] at b3 b4
  rw [eb1] at b4
  rw [eaw] at a2
  rw [ebw] at b2
  refine ⟨dg (dg (dlw kd gp ab (L 1) ps n' (hon n' kp) (M.1 (10 + 6 * 1 + 1)) (dlw kd gp ab (L 0) ps n' (hon n' kp) (M.1 (10 + 6 * 0 + 1)) (aw M (acc v 17 6) n'))) (rgv kd gp ab (L 0) ps n' (hon n' kp))) (mbe (mst (bt (hon n' kp)) (fun w => pc (hgs kd gp ab (L 0) ps n' (hon n' kp) w)) n')), A5, B5, ?_, ?_, FS_t fB1 (FS_t fB2 (FS_t fB3 (FS_t fB4 fB5)))⟩
  · unfold F_X6_digest
    refine Eq.trans a1 (Eq.trans a2 ?_)
    rw [F_X6_digest_32, hA1.1.2.1, if_pos (by rw [nle (by omega) (by omega)]; omega), show (0 : Int32) = nI 0 from rfl, a3, bdS, show (1 : Int32) = nI 1 from rfl, a4, bdS, a5, bdS, a6, bdS]
    rfl
  · unfold F_X7_digest
    refine Eq.trans b1 (Eq.trans b2 (Eq.trans b3 (Eq.trans b4 ?_)))
    rw [show (8190 : Nat) = 8189 + 1 from rfl, F_X7_digest_80, if_pos (by decide), b5, bdS, b6, bdS]
    rfl
