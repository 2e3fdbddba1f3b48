/-! what both systems know, kept while questions are asked -/
def MW (M : Mem) (n : Nat) (kd gp ab : Nat → Nat) : Prop := M.1 40 = nI n ∧ ∀ i, i < n → M.2 24 i = nI (kd i) ∧ M.2 25 i = nI (gp i) ∧ M.2 28 i = nI (ab i)
def FQ (M M1 : Mem) : Prop := EW M M1 ∧ EL M M1
theorem FS.q {M M1 : Mem} (h : FS M M1) : FQ M M1 := ⟨h.w, h.l⟩
theorem FQ_t {M M1 M2 : Mem} (h : FQ M M1) (g : FQ M1 M2) : FQ M M2 := by
  obtain ⟨⟨a1, a2, a3, a4, a5⟩, b1, b2, b3, b4, b5⟩ := h
  obtain ⟨⟨c1, c2, c3, c4, c5⟩, d1, d2, d3, d4, d5⟩ := g
  exact ⟨⟨fun k hk => (c1 k hk).trans (a1 k hk), c2.trans a2, c3.trans a3, fun a ha => (c4 a ha).trans (a4 a ha), fun a h1 h2 h3 => (c5 a h1 h2 h3).trans (a5 a h1 h2 h3)⟩, fun k h1 h2 => (d1 k h1 h2).trans (b1 k h1 h2), d2.trans b2, d3.trans b3, d4.trans b4, d5.trans b5⟩
def Cx (M : Mem) (n : Nat) (kd gp ab : Nat → Nat) (ps : Nat → Bool) (kp : Int32) (L : Nat → Nat → Nat) : Prop := CX M n kd gp ab ps ∧ MW M n kd gp ab ∧ (M.1 1 = kp ∧ M.1 41 = kp ∧ ∀ i, i < 32 → n ≤ i → bt kp i = false) ∧ (∀ j, j < 2 → LX M j (L j) ∧ LB (L j) ∧ ∀ M', FQ M M' → ∃ r, F_X7_reads (nI j) M' = some (rl M' j r (L j))) ∧ ∀ M', FQ M M' → F_X7_laysPossible M' = some (lp M')
theorem CX_E {M M1 : Mem} {n : Nat} {kd gp ab : Nat → Nat} {ps : Nat → Bool} (h : CX M n kd gp ab ps) (e : EW M M1) : CX M1 n kd gp ab ps := by
  obtain ⟨e1, e2, e3, e4, e5⟩ := e
  unfold CX
  rw [e1 0 (by omega), e1 2 (by omega), e4 2 (by omega), e4 3 (by omega), e4 4 (by omega), e4 7 (by omega), e4 8 (by omega), e4 9 (by omega), e4 10 (by omega)]
  exact h
theorem Cx_FQ {M M1 : Mem} {n : Nat} {kd gp ab : Nat → Nat} {ps : Nat → Bool} {kp : Int32} {L : Nat → Nat → Nat} (h : Cx M n kd gp ab ps kp L) (f : FQ M M1) : Cx M1 n kd gp ab ps kp L := by
  obtain ⟨h1, h2, h3, h4, h5⟩ := h
  obtain ⟨e1, e2, e3, e4, e5⟩ := f.1
  refine ⟨CX_E h1 f.1, ?_, ?_, fun j hj => ?_, fun M' f' => h5 M' (FQ_t f f')⟩
  · unfold MW
    rw [e2, e5 24 (by omega) (by omega) (by omega), e5 25 (by omega) (by omega) (by omega), e5 28 (by omega) (by omega) (by omega)]
    exact h2
  · rw [e1 1 (by omega), e3]
    exact h3
  · obtain ⟨l1, l2, l3⟩ := h4 j hj
    exact ⟨fun w hw => (f.2.1 _ (by omega) (by omega)).trans (l1 w hw), l2, fun M' f' => l3 M' (FQ_t f f')⟩
theorem Cx_FS {M M1 : Mem} {n : Nat} {kd gp ab : Nat → Nat} {ps : Nat → Bool} {kp : Int32} {L : Nat → Nat → Nat} (h : Cx M n kd gp ab ps kp L) (f : FS M M1) : Cx M1 n kd gp ab ps kp L := Cx_FQ h f.q
theorem Cx_of {M : Mem} (hW : IW M) (hL : IL M) : ∃ (n : Nat) (kd gp ab : Nat → Nat) (ps : Nat → Bool) (kp : Int32) (L : Nat → Nat → Nat), Cx M n kd gp ab ps kp L := by
  obtain ⟨n, kd, gp, tn, hr, ab, rd, hW⟩ := hW
  obtain ⟨z0, b0, r0, h0⟩ := hL 0 (by omega)
  obtain ⟨z1, b1, r1, h1⟩ := hL 1 (by omega)
  refine ⟨n, kd, gp, ab, psb kd tn hr ab (wys M), M.1 1, fun j => if j = 0 then lvs b0 z0 r0 else lvs b1 z1 r1, CX_of hW.cw, ⟨hW.1.2.2.1, fun i hi => ?_⟩, ⟨rfl, hW.2.2.2.2.2.2.1.symm, hW.2.2.2.2.2.2.2⟩, fun j hj => ?_, fun M' f => poss_ok (IWx_E hW f.1)⟩
  · obtain ⟨⟨-, a1, -⟩, ⟨-, b1, -⟩, -, -, ⟨-, e1, -⟩⟩ := hW.1.2.2.2 i hi
    exact ⟨a1, b1, e1⟩
  · rcases (show j = 0 ∨ j = 1 by omega) with rfl | rfl
    · refine ⟨h0.2.2.2.2.2, lvs_b h0.1 h0.2.2.2.1, fun M' f => ?_⟩
      have h' := IL1_E' hj h0 f.2
      exact ⟨r0, reads_ok hj h'.1 h'.2.2.1 h'.2.2.2.1⟩
    · refine ⟨h1.2.2.2.2.2, lvs_b h1.1 h1.2.2.2.1, fun M' f => ?_⟩
      have h' := IL1_E' hj h1 f.2
      exact ⟨r1, reads_ok hj h'.1 h'.2.2.1 h'.2.2.2.1⟩
theorem Cx.mx {M : Mem} {n : Nat} {kd gp ab : Nat → Nat} {ps : Nat → Bool} {kp : Int32} {L : Nat → Nat → Nat} (h : Cx M n kd gp ab ps kp L) (h42 : M.1 42 = M.1 2) : MX M n kd gp ab ps := ⟨h.1.1, h.2.1.1, h.2.1.2, h.1.2.2.2.1, by rw [h42]; exact h.1.2.2.2.2.2.2.2⟩
/-- the words that are heard -/
def hon (n : Nat) (kp : Int32) : Int32 := nI (2 ^ n - 1) &&& (kp ^^^ (-1))
theorem hon_b {n : Nat} (hn : n ≤ 10) (kp : Int32) {i : Nat} (hi : i < 32) : bt (hon n kp) i = (decide (i < n) && !(bt kp i)) := by
  unfold hon
  rw [b_clr _ _ hi, all_bt hn hi]
theorem hon5 {M : Mem} {n : Nat} {kd gp ab : Nat → Nat} {ps : Nat → Bool} {kp : Int32} {L : Nat → Nat → Nat} (h : Cx M n kd gp ab ps kp L) : F_X5_heardOnes M = some (hon n kp, M) := by
  unfold F_X5_heardOnes
  rw [all5_ok h.1.2.1 h.1.1, bdS, h.2.2.1.1]
  rfl
theorem hon7 {M : Mem} {n : Nat} {kd gp ab : Nat → Nat} {ps : Nat → Bool} {kp : Int32} {L : Nat → Nat → Nat} (h : Cx M n kd gp ab ps kp L) : F_X7_heardOnes M = some (hon n kp, M) := by
  unfold F_X7_heardOnes
  rw [all7_ok h.2.1.1 h.1.1, bdS, h.2.2.1.2.1]
  rfl
theorem cnt_s (p : Nat → Bool) (n : Nat) : cnt p (n + 1) = cnt p n + (if p n = true then 1 else 0) := rfl
theorem cnt_mono (p : Nat → Bool) {m : Nat} : ∀ {n : Nat}, m ≤ n → cnt p m ≤ cnt p n := by
  intro n
  induction n with
  | zero => intro h; rw [show m = 0 by omega]; exact Nat.le_refl _
  | succ n ih =>
    intro h
    rcases Nat.lt_or_ge m (n + 1) with h2 | h2
    · have := ih (by omega)
      rw [cnt_s]
      omega
    · rw [show m = n + 1 by omega]
      exact Nat.le_refl _
theorem cnt_surj (p : Nat → Bool) {k : Nat} : ∀ {n : Nat}, k < cnt p n → ∃ i, i < n ∧ p i = true ∧ cnt p i = k := by
  intro n
  induction n with
  | zero => intro h; exact absurd h (by unfold cnt; omega)
  | succ n ih =>
    intro h
    rw [cnt_s] at h
    by_cases h2 : k < cnt p n
    · obtain ⟨i, hi, h3⟩ := ih h2
      exact ⟨i, by omega, h3⟩
    · cases hp : p n
      · rw [hp, if_neg (by decide)] at h
        omega
      · rw [hp, if_pos rfl] at h
        exact ⟨n, by omega, hp, by omega⟩
theorem li7 {M : Mem} {n : Nat} (hn : n ≤ 10) (h40 : M.1 40 = nI n) (set : Int32) : ∀ (d i m : Nat) (O : Nat → Int32), i + d = n → d < m → (∀ k, k < i → bt set k = true → O (cnt (bt set) k) = nI k) → ∃ O', F_X7_lines_7 m set (nI i) (sv (sr M 33 O) 43 (nI (cnt (bt set) i))) = some (sv (sr M 33 O') 43 (nI (cnt (bt set) n))) ∧ ∀ k, k < n → bt set k = true → O' (cnt (bt set) k) = nI k := by
  intro d
  induction d with
  | zero =>
    intro i m O hi hm hO
    obtain ⟨m, rfl⟩ : ∃ q, m = q + 1 := ⟨m - 1, by omega⟩
    obtain rfl : i = n := by omega
    refine ⟨O, ?_, hO⟩
    unfold F_X7_lines_7
    rw [show (sv (sr M 33 O) 43 (nI (cnt (bt set) i))).1 40 = M.1 40 from rfl, h40, if_pos (by rw [nle (by omega) (by omega)]; omega)]
  | succ d ih =>
    intro i m O hi hm hO
    obtain ⟨m, rfl⟩ : ∃ q, m = q + 1 := ⟨m - 1, by omega⟩
    have hc := cnt_le (bt set) i
    unfold F_X7_lines_7 F_X7_lines_43
    rw [show (sv (sr M 33 O) 43 (nI (cnt (bt set) i))).1 40 = M.1 40 from rfl, h40, if_neg (by rw [nle (by omega) (by omega)]; omega), has7 _ (by omega), bdS]
    simp only [ib, nI_s]
    have ih := ih (i + 1) m
    rw [cnt_s] at ih
    cases h : bt set i
    · rw [if_pos rfl]
      rw [h, if_neg (by decide), Nat.add_zero] at ih
      refine ih O (by omega) (by omega) (fun k hk hb => hO k ?_ hb)
      by_cases e : k = i
      · subst e; rw [h] at hb; cases hb
      · omega
    · rw [if_neg (by decide)]
      rw [h, if_pos rfl] at ih
      rw [show (sv (sr M 33 O) 43 (nI (cnt (bt set) i))).1 43 = nI (cnt (bt set) i) from rfl, ckN (by omega) (by omega), ncl (by omega)]
      rw [show (sa (sv (sr M 33 O) 43 (nI (cnt (bt set) i))) 33 (cnt (bt set) i) (nI i)).1 43 = nI (cnt (bt set) i) from rfl, nI_s]
      have e : sv (sa (sv (sr M 33 O) 43 (nI (cnt (bt set) i))) 33 (cnt (bt set) i) (nI i)) 43 (nI (cnt (bt set) i + 1)) = sv (sr M 33 (upd O (cnt (bt set) i) (nI i))) 43 (nI (cnt (bt set) i + 1)) := by
        have e1 : sa (sv (sr M 33 O) 43 (nI (cnt (bt set) i))) 33 (cnt (bt set) i) (nI i) = sv (sr M 33 (upd O (cnt (bt set) i) (nI i))) 43 (nI (cnt (bt set) i)) := by
          rw [sa_sr]
          show sv (sr (sr M 33 O) 33 (upd O (cnt (bt set) i) (nI i))) 43 (nI (cnt (bt set) i)) = _
          rw [sr_sr]
        rw [e1, sv_sv]
      rw [e]
      refine ih _ (by omega) (by omega) (fun k hk hb => ?_)
      by_cases e2 : k = i
      · subst e2; rw [upd_s]
      · have h2 := cnt_mono (bt set) (show k + 1 ≤ i by omega)
        rw [cnt_s, hb, if_pos rfl] at h2
        rw [upd_n (by omega)]
        exact hO k (by omega) hb
/-- the model lays the words of a set in a line -/
theorem lines_ok {M : Mem} {n : Nat} (hn : n ≤ 10) (h40 : M.1 40 = nI n) (set : Int32) : ∃ O, F_X7_lines set M = some (sv (sr M 33 O) 43 (nI (cnt (bt set) n))) ∧ ∀ k, k < n → bt set k = true → O (cnt (bt set) k) = nI k := by
  unfold F_X7_lines
  have h := li7 hn h40 set n 0 fu (M.2 33) (by omega) (by unfold fu; omega) (fun k hk => absurd hk (by omega))
  rw [sr_self] at h
  exact h
theorem hf_bnf {kd gp ab L : Nat → Nat} {ps : Nat → Bool} {n : Nat} {set : Int32} {od : Nat → Nat} (hod : ∀ k, k < n → bt set k = true → od (cnt (bt set) k) = k) : ∀ k, k ≤ n → hf kd gp ab L ps n od (cnt (bt set) k) = bnf kd gp ab L ps n set k := by
  intro k
  induction k with
  | zero => intro _; rfl
  | succ k ih =>
    intro hk
    have ih := ih (by omega)
    rw [cnt_s]
    show _ = if bt set k = true then hst kd gp ab L ps n k (bnf kd gp ab L ps n set k) else bnf kd gp ab L ps n set k
    cases h : bt set k
    · rw [if_neg (by decide), if_neg (by decide), Nat.add_zero]
      exact ih
    · rw [if_pos rfl, if_pos rfl]
      show hst kd gp ab L ps n (od (cnt (bt set) k)) (hf kd gp ab L ps n od (cnt (bt set) k)) = _
      rw [ih, hod k (by omega) h]
theorem FS_h3 (M : Mem) (S : Int32 × Int32 × Int32) : FS M (h3 M S) := FS_t (FS_t (FS_sv S.1 (by omega)) (FS_sv S.2.1 (by omega))) (FS_sv S.2.2 (by omega))
theorem FS_h4 (M : Mem) (S : Int32 × Int32 × Int32) : FS M (h4 M S) := FS_t (FS_t (FS_sv S.1 (by omega)) (FS_sv S.2.1 (by omega))) (FS_sv S.2.2 (by omega))
/-- the model lines a set up and hears it -/
theorem lh_ok {M : Mem} {n j : Nat} {kd gp ab : Nat → Nat} {ps : Nat → Bool} {kp : Int32} {L : Nat → Nat → Nat} (h : Cx M n kd gp ab ps kp L) (h42 : M.1 42 = M.1 2) (hj : j < 2) (hL : LY M j (L j)) (set : Int32) : ∃ O, F_X7_lines set M = some (sv (sr M 33 O) 43 (nI (cnt (bt set) n))) ∧ (∀ k, k < n → bt set k = true → O (cnt (bt set) k) = nI k) ∧ ∀ S, F_X7_hears (nI j) (h4 (sv (sr M 33 O) 43 (nI (cnt (bt set) n))) S) = some (h4 (sv (sr M 33 O) 43 (nI (cnt (bt set) n))) (bnf kd gp ab (L j) ps n set n)) := by
  obtain ⟨O, e, hO⟩ := lines_ok h.1.1 h.2.1.1 set
  refine ⟨O, e, hO, fun S => ?_⟩
  have hn := h.1.1
  have hX : MX (h4 (sv (sr M 33 O) 43 (nI (cnt (bt set) n))) S) n kd gp ab ps := h.mx h42
  have hod : ∀ k, k < n → bt set k = true → (fun c => (O c).toNatClampNeg) (cnt (bt set) k) = k := fun k hk hb => by
    show (O (cnt (bt set) k)).toNatClampNeg = k
    rw [hO k hk hb, ncl (by omega)]
  have hc := cnt_le (bt set) n
  have e2 := hears_ok (od := fun c => (O c).toNatClampNeg) (q := cnt (bt set) n) hX hj (show LY (h4 (sv (sr M 33 O) 43 (nI (cnt (bt set) n))) S) j (L j) from hL) (h.2.2.2.1 j hj).2.1 (by omega) rfl (fun k hk => by
    obtain ⟨i, hi, hb, hk2⟩ := cnt_surj (bt set) hk
    have e3 := hO i hi hb
    rw [hk2] at e3
    show (O k).toNatClampNeg < n ∧ O k = nI (O k).toNatClampNeg
    rw [e3, ncl (by omega)]
    exact ⟨hi, rfl⟩)
  rw [e2, hf_bnf hod n (by omega), h4_h4]
theorem h4_self (M : Mem) : h4 M (M.1 44, M.1 45, M.1 46) = M := by
  unfold h4 sv
  apply Prod.ext
  · funext k
    simp only [va_up]
    by_cases h1 : k = 46
    · simp [h1]
    · by_cases h2 : k = 45
      · simp [h2]
      · by_cases h3 : k = 44
        · simp [h3]
        · simp [h1, h2, h3]
  · rfl
theorem lh_ok2 {M : Mem} {n j : Nat} {kd gp ab : Nat → Nat} {ps : Nat → Bool} {kp : Int32} {L : Nat → Nat → Nat} (h : Cx M n kd gp ab ps kp L) (h42 : M.1 42 = M.1 2) (hj : j < 2) (hL : LY M j (L j)) (set : Int32) : ∃ M1 M2, F_X7_lines set M = some M1 ∧ F_X7_hears (nI j) M1 = some M2 ∧ FS M M1 ∧ FS M M2 ∧ M2.1 42 = M2.1 2 ∧ M2.2 32 = M.2 32 ∧ M2.1 44 = (bnf kd gp ab (L j) ps n set n).1 ∧ M2.1 45 = (bnf kd gp ab (L j) ps n set n).2.1 ∧ M2.1 46 = (bnf kd gp ab (L j) ps n set n).2.2 := by
  obtain ⟨O, e, hO, hh⟩ := lh_ok h h42 hj hL set
  have f1 : FS M (sv (sr M 33 O) 43 (nI (cnt (bt set) n))) := FS_t (FS_sr O (by omega)) (FS_sv _ (by omega))
  have e2 := hh ((sv (sr M 33 O) 43 (nI (cnt (bt set) n))).1 44, (sv (sr M 33 O) 43 (nI (cnt (bt set) n))).1 45, (sv (sr M 33 O) 43 (nI (cnt (bt set) n))).1 46)
  rw [h4_self] at e2
  exact ⟨_, _, e, e2, f1, FS_t f1 (FS_h4 _ _), h42, rfl, rfl, rfl, rfl⟩
theorem hearsAll_ok {M : Mem} {n j : Nat} {kd gp ab : Nat → Nat} {ps : Nat → Bool} {kp : Int32} {L : Nat → Nat → Nat} (h : Cx M n kd gp ab ps kp L) (hj : j < 2) : ∃ M2, F_X7_hearsAll (nI j) M = some M2 ∧ FS M M2 ∧ M2.1 42 = M2.1 2 ∧ LY M2 j (L j) ∧ M2.1 44 = (bnf kd gp ab (L j) ps n (hon n kp) n).1 ∧ M2.1 45 = (bnf kd gp ab (L j) ps n (hon n kp) n).2.1 ∧ M2.1 46 = (bnf kd gp ab (L j) ps n (hon n kp) n).2.2 := by
  obtain ⟨l1, l2, l3⟩ := h.2.2.2.1 j hj
  obtain ⟨r, er⟩ := l3 M (FS_r M).q
  have f1 := FS_rl M j r (L j)
  have f2 := FS_t f1 (FS_lp (rl M j r (L j)))
  have h2 := Cx_FS h f2
  unfold F_X7_hearsAll
  rw [er, bdvS, h.2.2.2.2 _ f1.q, bdvS, hon7 h2, bdS]
  obtain ⟨M1, M2, e1, e2, f3, f4, g1, g2, g3⟩ := lh_ok2 h2 rfl hj (fun w hw => rl_told (r := r) hw) (hon n kp)
  rw [e1, bdvS, e2, bdvS]
  refine ⟨M2, rfl, FS_t f2 f4, g1, fun w hw => ?_, g3⟩
  rw [g2]
  exact rl_told (r := r) hw
