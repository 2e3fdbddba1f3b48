/-! write -/
def wrw (f : Nat) (v : Nat → Int32) (it : Nat → Int32) (b k : Nat) : Nat → Int32 := fun i => if b ≤ i ∧ i < b + k then cutv f (v (i - b)) else it i
theorem wrw_s (f : Nat) (v it : Nat → Int32) (b k : Nat) : upd (wrw f v it b k) (b + k) (cutv f (v k)) = wrw f v it b (k + 1) := by
  funext i
  by_cases e : i = b + k
  · subst e
    rw [upd_s]
    unfold wrw
    rw [if_pos (by omega), show b + k - b = k by omega]
  · rw [upd_n e]
    unfold wrw
    by_cases h : b ≤ i ∧ i < b + k
    · rw [if_pos h, if_pos (by omega)]
    · rw [if_neg h, if_neg (by omega)]
theorem wrw_0 (f : Nat) (v it : Nat → Int32) (b : Nat) : wrw f v it b 0 = it := by
  funext i
  unfold wrw
  rw [if_neg (by omega)]
theorem EW_sr {M : Mem} {a : Nat} (f : Nat → Int32) (h : 10 < a) (h2 : a < 22 ∨ 28 < a ∨ a = 23) : EW M (sr M a f) := ⟨fun _ _ => rfl, rfl, rfl, fun b hb => sr_o _ _ (by omega), fun b h1 h2 h3 => sr_o _ _ (by omega)⟩
theorem EL_sr {M : Mem} {a : Nat} (f : Nat → Int32) (h : a ≠ 12 ∧ a ≠ 13 ∧ a ≠ 29 ∧ a ≠ 30) : EL M (sr M a f) := ⟨fun _ _ _ => rfl, sr_o _ _ (by omega), sr_o _ _ (by omega), sr_o _ _ (by omega), sr_o _ _ (by omega)⟩
theorem wr57 {X : Mem} {n s f z : Nat} {kd gp ab : Nat → Nat} {ps : Nat → Bool} (hC : CX X n kd gp ab ps) (hs : s < 4) (hf : f < 3) (ef : X.1 (22 + 3 * s + 1) = nI f) (hz : z ≤ 10) (it : Nat → Int32) : ∀ (d i m : Nat), i + d = z → d < m → F_X6_write_57 s m (nI z) (nI i) (sr X (18 + s) (wrw f (fun v => hds kd gp ab (X.1 4) v n) it 0 i)) = some (nI z, sr X (18 + s) (wrw f (fun v => hds kd gp ab (X.1 4) v n) it 0 z)) := by
  intro d
  induction d with
  | zero =>
    intro i m hi hm
    obtain ⟨m, rfl⟩ : ∃ q, m = q + 1 := ⟨m - 1, by omega⟩
    obtain rfl : i = z := by omega
    unfold F_X6_write_57
    rw [if_pos (by rw [nle (by omega) (by omega)]; omega)]
  | succ d ih =>
    intro i m hi hm
    obtain ⟨m, rfl⟩ : ∃ q, m = q + 1 := ⟨m - 1, by omega⟩
    unfold F_X6_write_57
    rw [if_neg (by rw [nle (by omega) (by omega)]; omega), onHead_ok (CX_E hC (EW_sr _ (by omega) (by omega))) (by omega), bdS]
    rw [set_ok (sr X (18 + s) (wrw f (fun v => hds kd gp ab (X.1 4) v n) it 0 i)) hs (show i < 40 by omega) hf ef, bdvS, sr_sr, show (sr X (18 + s) (wrw f (fun v => hds kd gp ab (X.1 4) v n) it 0 i)).2 (18 + s) = wrw f (fun v => hds kd gp ab (X.1 4) v n) it 0 i from if_pos rfl, sr_1, nI_s]
    have e := wrw_s f (fun v => hds kd gp ab (X.1 4) v n) it 0 i
    rw [Nat.zero_add] at e
    rw [e]
    exact ih (i + 1) m (by omega) (by omega)
theorem wr32 {X : Mem} {n s f y z : Nat} {kd gp ab : Nat → Nat} {ps : Nat → Bool} (hC : MX X n kd gp ab ps) (hs : s < 4) (hf : f < 3) (ef : X.2 38 s = nI f) (hy : y ≤ 40) (h39 : X.2 39 s = nI y) (hz : z = if 10 < y then 10 else y) (it : Nat → Int32) : ∀ (d i m : Nat), i + d = z → d < m → F_X7_write_32 m (nI s) (nI i) (sr X 40 (wrw f (fun v => hds kd gp ab (X.1 45) v n) it (40 * s) i)) = some (nI z, sr X 40 (wrw f (fun v => hds kd gp ab (X.1 45) v n) it (40 * s) z)) := by
  have hz10 : z ≤ 10 ∧ z ≤ y ∧ (z = 10 ∨ z = y) := by rw [hz]; split <;> omega
  intro d
  induction d with
  | zero =>
    intro i m hi hm
    obtain ⟨m, rfl⟩ : ∃ q, m = q + 1 := ⟨m - 1, by omega⟩
    obtain rfl : i = z := by omega
    unfold F_X7_write_32
    rw [nlit 10]
    by_cases h10 : i = 10
    · rw [if_pos (by rw [nle (by omega) (by omega)]; omega)]
    · rw [if_neg (by rw [nle (by omega) (by omega)]; omega), ckN hs (by omega), ncl (by omega), show (sr X 40 (wrw f (fun v => hds kd gp ab (X.1 45) v n) it (40 * s) i)).2 39 = X.2 39 from rfl, h39, if_pos (by rw [nle (by omega) (by omega)]; omega)]
  | succ d ih =>
    intro i m hi hm
    obtain ⟨m, rfl⟩ : ∃ q, m = q + 1 := ⟨m - 1, by omega⟩
    unfold F_X7_write_32
    rw [nlit 10, if_neg (by rw [nle (by omega) (by omega)]; omega), ckN hs (by omega), ncl (by omega), show (sr X 40 (wrw f (fun v => hds kd gp ab (X.1 45) v n) it (40 * s) i)).2 39 = X.2 39 from rfl, h39, if_neg (by rw [nle (by omega) (by omega)]; omega)]
    rw [headNow_ok (M := sr X 40 (wrw f (fun v => hds kd gp ab (X.1 45) v n) it (40 * s) i)) (kd := kd) (gp := gp) (ab := ab) (ps := ps) (n := n) hC (by omega), bdS, lay_ok (sr X 40 (wrw f (fun v => hds kd gp ab (X.1 45) v n) it (40 * s) i)) hs (show i < 40 by omega) hf ef, bdvS, sr_sr, show (sr X 40 (wrw f (fun v => hds kd gp ab (X.1 45) v n) it (40 * s) i)).2 40 = wrw f (fun v => hds kd gp ab (X.1 45) v n) it (40 * s) i from rfl, sr_1, nI_s]
    have e := wrw_s f (fun v => hds kd gp ab (X.1 45) v n) it (40 * s) i
    rw [e]
    exact ih (i + 1) m (by omega) (by omega)
theorem op30 (M : Mem) (hI : Inv M) (x1 : Int32) : ∃ (r : Int32) (M1 M2 : Mem), F_X6_write x1 M = some (r, M1) ∧ F_X7_write x1 M1 = some (r, M2) ∧ (M2 = fnd M 1 ∨ Inv M2) := by
  obtain ⟨n, kd, gp, ab, ps, kp, L, hC⟩ := Cx_of hI.1 hI.2.1
  unfold F_X6_write F_X7_write
  rcases sheet_c x1 with e | ⟨s, hs, rfl, e⟩
  · exact ⟨-2, M, M, by rw [(e M).1, bdoN], by rw [(e M).2, bdS, if_pos rfl], Or.inr hI⟩
  obtain ⟨hl, ⟨f, hf, hf1, hf2⟩, ⟨y, hy, hy1, hy2⟩, hit⟩ := hI.2.2.1 s hs
  simp only [fun M => (e M).1, fun M => (e M).2, bdoS, bdS, i10, if_false, ckT (dec4 hs), ckN hs (show s < 2147483648 by omega), ncl (show s < 2147483648 by omega)]
  rcases hl with ⟨l1, l2⟩ | ⟨l1, l2⟩
  rotate_left
  · rw [if_neg (by rw [l1]; decide), find_ok, bdS]
    refine ⟨_, _, fnd M 1, rfl, ?_, Or.inl rfl⟩
    rw [show (sv M 7 1).2 37 = M.2 37 from rfl, l2, if_pos rfl, meets_ok, bdS]
    rfl
  rw [if_pos l1, hon5 hC, bdS, byN_ok hC.1 (hC.2.2.2.1 0 (by omega)).1 (hC.2.2.2.1 0 (by omega)).2.1, bdvS]
  obtain ⟨X, hX⟩ : ∃ X, X = h3 M (bnf kd gp ab (L 0) ps n (hon n kp) n) := ⟨_, rfl⟩
  have f1 : FS M X := by rw [hX]; exact FS_h3 _ _
  have hCX := Cx_FS hC f1
  have hIX := Inv_FS hI f1
  have hu : X.1 4 = (bnf kd gp ab (L 0) ps n (hon n kp) n).2.1 := by rw [hX]; rfl
  rw [← hX]
  obtain ⟨z, hz⟩ : ∃ z, z = if 10 < y then 10 else y := ⟨_, rfl⟩
  have hz10 : z ≤ 10 ∧ z ≤ y := by rw [hz]; split <;> omega
  have ez : (if 10 < X.1 (22 + 3 * s + 2) then 10 else X.1 (22 + 3 * s + 2)) = nI z := by
    rw [f1.1 _ (by omega) (by omega), hy1, hz, nlit 10]
    simp (disch := omega) only [nlt]
    split <;> rfl
  rw [ez]
  have e1 := wr57 hCX.1 hs hf ((f1.1 _ (by omega) (by omega)).trans hf1) hz10.1 (X.2 (18 + s)) z 0 fu (by omega) (by unfold fu; omega)
  rw [wrw_0, sr_self] at e1
  obtain ⟨W, hW⟩ : ∃ W, W = wrw f (fun v => hds kd gp ab (X.1 4) v n) (X.2 (18 + s)) 0 z := ⟨_, rfl⟩
  rw [← hW] at e1
  have q1 : FQ X (sr X (18 + s) W) := ⟨EW_sr W (by omega) (by omega), EL_sr W (by omega)⟩
  have hC1 := Cx_FQ hCX q1
  obtain ⟨Y, e2, f2, g42, -, -, g2, -⟩ := hearsAll_ok (j := 0) hC1 (by omega)
  have hCY := Cx_FS hC1 f2
  have o38 : Y.2 38 = M.2 38 := by rw [f2.2 38 (by omega) (by omega) (by omega) (by omega), sr_o _ _ (by omega), f1.2 38 (by omega) (by omega) (by omega) (by omega)]
  have o39 : Y.2 39 = M.2 39 := by rw [f2.2 39 (by omega) (by omega) (by omega) (by omega), sr_o _ _ (by omega), f1.2 39 (by omega) (by omega) (by omega) (by omega)]
  have o40 : Y.2 40 = X.2 40 := by rw [f2.2 40 (by omega) (by omega) (by omega) (by omega), sr_o _ _ (by omega)]
  have e3 := wr32 (f := f) (hCY.mx g42) hs hf (by rw [o38]; exact hf2) hy (by rw [o39]; exact hy2) hz (Y.2 40) z 0 fu (by omega) (by unfold fu; omega)
  rw [wrw_0, sr_self] at e3
  refine ⟨nI z, _, sr Y 40 (wrw f (fun v => hds kd gp ab (Y.1 45) v n) (Y.2 40) (40 * s) z), e1, ?_, Or.inr ?_⟩
  · rw [show (sr X (18 + s) W).2 37 = M.2 37 by rw [sr_o _ _ (by omega), f1.2 37 (by omega) (by omega) (by omega) (by omega)], l2, if_neg (by decide), show (0 : Int32) = nI 0 from rfl, e2, bdvS]
    exact e3
  · have q2 : FQ M (sr Y 40 (wrw f (fun v => hds kd gp ab (Y.1 45) v n) (Y.2 40) (40 * s) z)) := FQ_t f1.q (FQ_t q1 (FQ_t f2.q ⟨EW_sr _ (by omega) (by omega), EL_sr _ (by omega)⟩))
    refine ⟨IW_E hI.1 q2.1, IL_E hI.2.1 q2.2, fun s' hs' => ?_, ?_⟩
    · have hV : ∀ k, (22 ≤ k ∧ k ≤ 33) → (sr Y 40 (wrw f (fun v => hds kd gp ab (Y.1 45) v n) (Y.2 40) (40 * s) z)).1 k = X.1 k := fun k hk => by
        rw [sr_1, f2.1 k (by omega) (by omega)]
        rfl
      have hR : ∀ a, (18 ≤ a ∧ a ≤ 21) → (sr Y 40 (wrw f (fun v => hds kd gp ab (Y.1 45) v n) (Y.2 40) (40 * s) z)).2 a = (sr X (18 + s) W).2 a := fun a ha => by
        rw [sr_o _ _ (by omega), f2.2 a (by omega) (by omega) (by omega) (by omega)]
      have hT : ∀ a, (37 ≤ a ∧ a ≤ 39) → (sr Y 40 (wrw f (fun v => hds kd gp ab (Y.1 45) v n) (Y.2 40) (40 * s) z)).2 a = X.2 a := fun a ha => by
        rw [sr_o _ _ (by omega), f2.2 a (by omega) (by omega) (by omega) (by omega), sr_o _ _ (by omega)]
      rw [hV _ (by omega), hV _ (by omega), hV _ (by omega), hR (18 + s') (by omega), hT 37 (by omega), hT 38 (by omega), hT 39 (by omega)]
      obtain ⟨i1, i2, i3, i4⟩ := hIX.2.2.1 s' hs'
      refine ⟨i1, i2, i3, fun i hi => ?_⟩
      show _ = wrw f (fun v => hds kd gp ab (Y.1 45) v n) (Y.2 40) (40 * s) z (40 * s' + i)
      rw [g2, o40]
      by_cases es : s' = s
      · subst es
        rw [show (sr X (18 + s') W).2 (18 + s') = W from if_pos rfl, hW, hu]
        unfold wrw
        by_cases hiz : i < z
        · rw [if_pos (by omega), if_pos (by omega), show 40 * s' + i - 40 * s' = i - 0 by omega]
        · rw [if_neg (by omega), if_neg (by omega)]
          exact i4 i hi
      · rw [sr_o _ _ (by omega), i4 i hi]
        unfold wrw
        rw [if_neg (by omega)]
    · rw [sr_1, f2.1 7 (by omega) (by omega), f2.1 48 (by omega) (by omega), sr_1]
      exact hIX.2.2.2
