/-! the words' part of what both systems hold -/
theorem sv_sv (M : Mem) (k : Nat) (x y : Int32) : sv (sv M k x) k y = sv M k y := by
  unfold sv
  apply Prod.ext
  · funext j
    simp only [va_up]
    split <;> rfl
  · rfl
def foe (kd ab : Nat → Nat) (i j : Nat) : Bool := (decide (kd i = 1) && decide (ab i = j)) || (decide (kd j = 1) && decide (ab j = i))
def RD (M : Mem) (rd : Nat → Nat) : Prop := (∀ k, k < 36 → M.2 0 k = nI (rd k) ∧ M.2 22 k = nI (rd k) ∧ rd k < 100) ∧ ∀ a b, a < 6 → b < 6 → rd (a * 6 + b) = rd (b * 6 + a)
/-- the ways of a memory -/
def wys (M : Mem) : Nat → Int32 := fw (M.2 0) (fun _ => 0)
def IWx (M : Mem) (n : Nat) (kd gp tn hr ab rd : Nat → Nat) : Prop := WD M n kd gp tn hr ab ∧ RD M rd ∧ (∀ k, k < 36 → M.2 1 k = wys M k) ∧ PW kd tn hr ab (wys M) n (M.1 2) (M.2 9) (M.2 10) ∧ (∀ i, i < n → M.2 4 i = nI (pc (nI (gp i)))) ∧ (∀ i, i < 10 → ∀ j, j < 32 → bt (M.2 8 i) j = (decide (i < n) && decide (j < n) && foe kd ab i j)) ∧ M.1 1 = M.1 41 ∧ ∀ i, i < 32 → n ≤ i → bt (M.1 1) i = false
def IW (M : Mem) : Prop := ∃ (n : Nat) (kd gp tn hr ab rd : Nat → Nat), IWx M n kd gp tn hr ab rd
/-- the model's ways and possible words, laid anew -/
def lp (M : Mem) : Mem := sv (sr M 23 (fw (M.2 22) (M.2 23))) 42 (M.1 2)
theorem wys_m {M : Mem} {rd : Nat → Nat} (h : RD M rd) (f : Nat → Int32) : ∀ k, k < 36 → fw (M.2 22) f k = wys M k := fw_cong2 (fun i hi => by rw [(h.1 i hi).1, (h.1 i hi).2.1]) _ _
theorem ways_ok2 {M : Mem} {rd : Nat → Nat} (h : RD M rd) : F_X7_laysWays M = some (sr M 23 (fw (M.2 22) (M.2 23))) := ways_ok M (fun k hk => ⟨rd k, (h.1 k hk).2.2, (h.1 k hk).2.1⟩)
theorem lpo11 {M : Mem} {n : Nat} {kd gp tn hr ab rd : Nat → Nat} (hI : IWx M n kd gp tn hr ab rd) (W : Nat → Int32) (hWv : ∀ k, k < 36 → W k = wys M k) : ∀ (d i m : Nat) (p : Int32), i + d = n → d < m → (∀ j, j < 32 → bt p j = (decide (j < i) && psb kd tn hr ab (wys M) j)) → F_X7_laysPossible_11 m (nI i) (sv (sr M 23 W) 42 p) = some (sv (sr M 23 W) 42 (M.1 2)) := by
  have hW := hI.1
  have hn := hW.1
  intro d
  induction d with
  | zero =>
    intro i m p hi hm hP
    obtain ⟨m, rfl⟩ : ∃ q, m = q + 1 := ⟨m - 1, by omega⟩
    obtain rfl : i = n := by omega
    unfold F_X7_laysPossible_11
    rw [show (sv (sr M 23 W) 42 p).1 40 = nI i from hW.2.2.1, if_pos (by rw [nle (by omega) (by omega)]; omega)]
    rw [show p = M.1 2 from b_ext (fun j hj => by rw [hP j hj, hI.2.2.2.1.1 j hj])]
  | succ d ih =>
    intro i m p hi hm hP
    obtain ⟨m, rfl⟩ : ∃ q, m = q + 1 := ⟨m - 1, by omega⟩
    have hin : i < n := by omega
    obtain ⟨⟨-, k1, k3⟩, -, ⟨-, t1, t3⟩, ⟨-, h1, h3⟩, ⟨-, a1, -, a4⟩⟩ := hW.2.2.2 i hin
    have hno : psb kd tn hr ab (wys M) i = false → ∀ j, j < 32 → bt p j = (decide (j < i + 1) && psb kd tn hr ab (wys M) j) := by
      intro hp j hj
      rw [hP j hj]
      by_cases e : j = i
      · subst e; rw [hp, Bool.and_false, Bool.and_false]
      · congr 1; exact decide_eq_decide.mpr (by omega)
    unfold F_X7_laysPossible_11 F_X7_laysPossible_90
    rw [show (sv (sr M 23 W) 42 p).1 40 = nI n from hW.2.2.1, if_neg (by rw [nle (by omega) (by omega)]; omega)]
    rw [show (sv (sr M 23 W) 42 p).2 24 = M.2 24 from rfl, show (sv (sr M 23 W) 42 p).2 26 = M.2 26 from rfl, show (sv (sr M 23 W) 42 p).2 27 = M.2 27 from rfl, show (sv (sr M 23 W) 42 p).2 28 = M.2 28 from rfl, show (sv (sr M 23 W) 42 p).2 23 = W from rfl]
    simp (disch := omega) only [ckN, ncl, k1, t1, h1, a1]
    by_cases hk : kd i = 2
    rotate_left
    · rw [if_neg (by rw [nlit 2, neq (by omega) (by omega)]; exact hk), nlit 1, nI_add]
      exact ih (i + 1) m p (by omega) (by omega) (hno (by unfold psb; rw [decide_eq_false hk, Bool.false_and]))
    have hai : ab i < i := a4 (by omega)
    obtain ⟨-, -, ⟨-, u1, u3⟩, ⟨-, v1, v3⟩, -⟩ := hW.2.2.2 (ab i) (by omega)
    rw [if_pos (by rw [hk]; rfl)]
    simp (disch := omega) only [ckN, ncl, u1, v1, nlit 6, pk_mul, nI_add]
    rw [apart_ok h3 v3, bdS, hWv _ (by omega)]
    by_cases hc : wys M (6 * tn i + tn (ab i)) ≤ nI (adf (hr i) (hr (ab i)))
    · rw [if_pos hc, nlit 1, nI_add]
      exact ih (i + 1) m p (by omega) (by omega) (hno (by unfold psb; rw [decide_eq_true hc, Bool.not_true, Bool.and_false]))
    · rw [if_neg hc]
      have hp : psb kd tn hr ab (wys M) i = true := by unfold psb; rw [decide_eq_false hc, decide_eq_true hk]; rfl
      rw [sv_sv, show (sv (sr M 23 W) 42 p).1 42 = p from rfl, nlit 1, nI_add]
      refine ih (i + 1) m _ (by omega) (by omega) (fun j hj => ?_)
      rw [show nI 1 <<< (nI i &&& 31) = one i from rfl, b_or, b_one (by omega) hj, hP j hj]
      by_cases e : j = i
      · subst e; simp [hp]
      · rw [decide_eq_false e, Bool.or_false]
        congr 1; exact decide_eq_decide.mpr (by omega)
/-- the model lays what is possible -/
theorem poss_ok {M : Mem} {n : Nat} {kd gp tn hr ab rd : Nat → Nat} (hI : IWx M n kd gp tn hr ab rd) : F_X7_laysPossible M = some (lp M) := by
  unfold F_X7_laysPossible lp
  rw [ways_ok2 hI.2.1, bdvS]
  exact lpo11 hI _ (wys_m hI.2.1 _) n 0 fu 0 (by omega) (by have := hI.1.1; unfold fu; omega) (fun j hj => by rw [b_0]; simp)
