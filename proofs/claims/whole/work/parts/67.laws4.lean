/-! what stays, and the laws' calls -/
def EW (M M1 : Mem) : Prop := (∀ k, k ≤ 2 → M1.1 k = M.1 k) ∧ M1.1 40 = M.1 40 ∧ M1.1 41 = M.1 41 ∧ (∀ a, a ≤ 10 → M1.2 a = M.2 a) ∧ (∀ a, 22 ≤ a → a ≤ 28 → a ≠ 23 → M1.2 a = M.2 a)
theorem IWx_E {M M1 : Mem} {n : Nat} {kd gp tn hr ab rd : Nat → Nat} (h : IWx M n kd gp tn hr ab rd) (e : EW M M1) : IWx M1 n kd gp tn hr ab rd := by
  obtain ⟨e1, e2, e3, e4, e5⟩ := e
  have ew : wys M1 = wys M := by unfold wys; rw [e4 0 (by omega)]
  refine ⟨WD.of (WC_F h.1.c (e1 0 (by omega)) (fun a _ _ => e4 a (by omega))) (WM_F h.1.m e2 (fun a _ _ => e5 a (by omega) (by omega) (by omega))), ?_, ?_, ?_, ?_, ?_, ?_, ?_⟩
  · unfold RD
    rw [e4 0 (by omega), e5 22 (by omega) (by omega) (by omega)]
    exact h.2.1
  · rw [ew, e4 1 (by omega)]
    exact h.2.2.1
  · rw [ew, e1 2 (by omega), e4 9 (by omega), e4 10 (by omega)]
    exact h.2.2.2.1
  · rw [e4 4 (by omega)]
    exact h.2.2.2.2.1
  · rw [e4 8 (by omega)]
    exact h.2.2.2.2.2.1
  · rw [e1 1 (by omega), e3]
    exact h.2.2.2.2.2.2.1
  · rw [e1 1 (by omega)]
    exact h.2.2.2.2.2.2.2
theorem IW_E {M M1 : Mem} (h : IW M) (e : EW M M1) : IW M1 := by
  obtain ⟨n, kd, gp, tn, hr, ab, rd, h⟩ := h
  exact ⟨n, kd, gp, tn, hr, ab, rd, IWx_E h e⟩
def ES (M M1 : Mem) : Prop := (∀ k, 22 ≤ k → k ≤ 33 → M1.1 k = M.1 k) ∧ (∀ a, 18 ≤ a → a ≤ 21 → M1.2 a = M.2 a) ∧ (∀ a, 37 ≤ a → a ≤ 40 → M1.2 a = M.2 a)
theorem IS_E {M M1 : Mem} (h : IS M) (e : ES M M1) : IS M1 := by
  intro s hs
  rw [e.1 (22 + 3 * s) (by omega) (by omega), e.1 (22 + 3 * s + 1) (by omega) (by omega), e.1 (22 + 3 * s + 2) (by omega) (by omega), e.2.1 (18 + s) (by omega) (by omega), e.2.2 37 (by omega) (by omega), e.2.2 38 (by omega) (by omega), e.2.2 39 (by omega) (by omega), e.2.2 40 (by omega) (by omega)]
  exact h s hs
def IL1 (M : Mem) (j z : Nat) (b : Nat → Nat) (r : Int32) : Prop := z ≤ 40 ∧ TX M j z b ∧ TY M j z b ∧ Flt b z r ∧ M.1 (10 + 6 * j + 1) = r ∧ ∀ w, w < 4 → M.1 (10 + 6 * j + 2 + w) = nI (lvs b z r w)
def IL (M : Mem) : Prop := ∀ j, j < 2 → ∃ z b r, IL1 M j z b r
theorem IL1_E {M M1 : Mem} {j z : Nat} {b : Nat → Nat} {r : Int32} (h : IL1 M j z b r) (e1 : ∀ k, 10 + 6 * j ≤ k → k < 10 + 6 * j + 6 → M1.1 k = M.1 k) (e2 : M1.2 (12 + j) = M.2 (12 + j)) (e3 : M1.2 29 j = M.2 29 j) (e4 : ∀ k, k < 40 → M1.2 30 (40 * j + k) = M.2 30 (40 * j + k)) : IL1 M1 j z b r := by
  obtain ⟨h1, h2, h3, h4, h5, h6⟩ := h
  refine ⟨h1, ⟨(e1 _ (by omega) (by omega)).trans h2.1, fun k hk => ?_⟩, ⟨e3.trans h3.1, fun k hk => ?_⟩, h4, (e1 _ (by omega) (by omega)).trans h5, fun w hw => (e1 _ (by omega) (by omega)).trans (h6 w hw)⟩
  · rw [e2]
    exact h2.2 k hk
  · rw [e4 k (by omega)]
    exact h3.2 k hk
def EL (M M1 : Mem) : Prop := (∀ k, 10 ≤ k → k ≤ 21 → M1.1 k = M.1 k) ∧ M1.2 12 = M.2 12 ∧ M1.2 13 = M.2 13 ∧ M1.2 29 = M.2 29 ∧ M1.2 30 = M.2 30
theorem IL1_E' {M M1 : Mem} {j z : Nat} {b : Nat → Nat} {r : Int32} (hj : j < 2) (h : IL1 M j z b r) (e : EL M M1) : IL1 M1 j z b r := by
  refine IL1_E h (fun k _ _ => e.1 k (by omega) (by omega)) ?_ (by rw [e.2.2.2.1]) (fun k _ => by rw [e.2.2.2.2])
  rcases (show j = 0 ∨ j = 1 by omega) with rfl | rfl
  · exact e.2.1
  · exact e.2.2.1
theorem IL_E {M M1 : Mem} (h : IL M) (e : EL M M1) : IL M1 := by
  intro j hj
  obtain ⟨z, b, r, h⟩ := h j hj
  exact ⟨z, b, r, IL1_E' hj h e⟩
/-- only what the questions lay has changed -/
def FS (M M1 : Mem) : Prop := (∀ k, (k < 3 ∨ 6 < k) → (k < 42 ∨ 47 < k) → M1.1 k = M.1 k) ∧ ∀ a, a ≠ 11 → (a < 14 ∨ 17 < a) → a ≠ 23 → (a < 31 ∨ 36 < a) → M1.2 a = M.2 a
theorem FS_r (M : Mem) : FS M M := ⟨fun _ _ _ => rfl, fun _ _ _ _ _ => rfl⟩
theorem FS_t {M M1 M2 : Mem} (h : FS M M1) (g : FS M1 M2) : FS M M2 := ⟨fun k a b => (g.1 k a b).trans (h.1 k a b), fun k a b c d => (g.2 k a b c d).trans (h.2 k a b c d)⟩
theorem FS.w {M M1 : Mem} (h : FS M M1) : EW M M1 := ⟨fun k _ => h.1 k (by omega) (by omega), h.1 40 (by omega) (by omega), h.1 41 (by omega) (by omega), fun a _ => h.2 a (by omega) (by omega) (by omega) (by omega), fun a _ _ _ => h.2 a (by omega) (by omega) (by omega) (by omega)⟩
theorem FS.s {M M1 : Mem} (h : FS M M1) : ES M M1 := ⟨fun k _ _ => h.1 k (by omega) (by omega), fun a _ _ => h.2 a (by omega) (by omega) (by omega) (by omega), fun a _ _ => h.2 a (by omega) (by omega) (by omega) (by omega)⟩
theorem FS.l {M M1 : Mem} (h : FS M M1) : EL M M1 := ⟨fun k _ _ => h.1 k (by omega) (by omega), h.2 12 (by omega) (by omega) (by omega) (by omega), h.2 13 (by omega) (by omega) (by omega) (by omega), h.2 29 (by omega) (by omega) (by omega) (by omega), h.2 30 (by omega) (by omega) (by omega) (by omega)⟩
def Inv (M : Mem) : Prop := IW M ∧ IL M ∧ IS M ∧ M.1 7 = M.1 48
theorem Inv_FS {M M1 : Mem} (h : Inv M) (f : FS M M1) : Inv M1 := ⟨IW_E h.1 f.w, IL_E h.2.1 f.l, IS_E h.2.2.1 f.s, by rw [f.1 7 (by omega) (by omega), f.1 48 (by omega) (by omega)]; exact h.2.2.2⟩
theorem FS_rl (M : Mem) (j : Nat) (r : Int32) (f : Nat → Nat) : FS M (rl M j r f) := ⟨fun _ _ _ => rfl, fun a h1 h2 h3 h4 => by unfold rl; rw [sr_o _ _ (by omega), sr_o _ _ (by omega)]⟩
theorem FS_lp (M : Mem) : FS M (lp M) := ⟨fun k h1 h2 => by unfold lp; rw [sv_o _ _ (by omega), sr_1], fun a h1 h2 h3 h4 => by unfold lp; rw [sv_2, sr_o _ _ (by omega)]⟩
theorem FS_sv {M : Mem} {k : Nat} (x : Int32) (h : (3 ≤ k ∧ k ≤ 6) ∨ (42 ≤ k ∧ k ≤ 47)) : FS M (sv M k x) := ⟨fun j h1 h2 => sv_o _ _ (by omega), fun _ _ _ _ _ => rfl⟩
theorem FS_sr {M : Mem} {a : Nat} (f : Nat → Int32) (h : a = 11 ∨ (14 ≤ a ∧ a ≤ 17) ∨ a = 23 ∨ (31 ≤ a ∧ a ≤ 36)) : FS M (sr M a f) := ⟨fun _ _ _ => rfl, fun c h1 h2 h3 h4 => sr_o _ _ (by omega)⟩
theorem dec2 {j : Nat} (h : j < 2) : decide (j < 2) = true := decide_eq_true h
theorem law_c (x : Int32) : (∀ M, F_X6_lawOf x M = some (none, M) ∧ F_X7_isLaw x M = some (0, M)) ∨ ∃ j, j < 2 ∧ x = nI j ∧ ∀ M, F_X6_lawOf x M = some (some j, M) ∧ F_X7_isLaw x M = some (1, M) := by
  unfold F_X6_lawOf F_X7_isLaw
  rcases rg x 0 1 0 1 rfl rfl (by omega) (by omega) with ⟨h, e⟩ | ⟨-, h, -, e⟩ | ⟨j, -, hj, rfl, -, -, -, e⟩
  · refine Or.inl (fun M => ⟨?_, by rw [e, bdS, ckT zb0]⟩)
    rw [if_neg (fun h2 => by rw [h2] at h; exact absurd h (by decide)), if_neg (fun h2 => by rw [h2] at h; exact absurd h (by decide))]
  · refine Or.inl (fun M => ⟨?_, by rw [e, bdS, ckT zb0]⟩)
    rw [if_neg (fun h2 => by rw [h2] at h; exact absurd h (by decide)), if_neg (fun h2 => by rw [h2] at h; exact absurd h (by decide))]
  · refine Or.inr ⟨j, by omega, rfl, fun M => ⟨?_, by rw [e, bdS, ckT zb1]⟩⟩
    rcases (show j = 0 ∨ j = 1 by omega) with rfl | rfl <;> rfl
theorem op8 (M : Mem) (hI : IL M) (x1 : Int32) : ∃ (r : Int32) (M2 : Mem), F_X6_fault x1 M = some (r, M) ∧ F_X7_fault x1 M = some (r, M2) ∧ FS M M2 := by
  unfold F_X6_fault F_X7_fault
  rcases law_c x1 with e | ⟨j, hj, rfl, e⟩
  · exact ⟨-2, M, by rw [(e M).1, bdoN], by rw [(e M).2, bdS, if_pos rfl], FS_r M⟩
  obtain ⟨z, b, r, h⟩ := hI j hj
  obtain ⟨hz, hx, hy, hr, hr1, hl⟩ := h
  refine ⟨r, rl M j r (lvs b z r), ?_, ?_, FS_rl _ _ _ _⟩
  · rw [(e M).1, bdoS, ckT (dec2 hj), hr1]
  · rw [(e M).2, bdS, if_neg (by decide), reads_ok hj hz hy hr, bdvS, ckN hj (by omega), ncl (by omega)]
    rw [show (rl M j r (lvs b z r)).2 31 j = r from upd_s _ _ _]
theorem rl_told {M : Mem} {j : Nat} {r : Int32} {f : Nat → Nat} {w : Nat} (hw : w < 4) : (rl M j r f).2 32 (4 * j + w) = nI (f w) := by
  show t4 (M.2 32) j (fun w => nI (f w)) (4 * j + w) = _
  unfold t4
  rw [if_pos (by omega), show 4 * j + w - 4 * j = w by omega]
theorem op9 (M : Mem) (hI : IL M) (x1 x2 : Int32) : ∃ (r : Int32) (M2 : Mem), F_X6_law x1 x2 M = some (r, M) ∧ F_X7_law x1 x2 M = some (r, M2) ∧ FS M M2 := by
  unfold F_X6_law F_X7_law
  rcases law_c x1 with e | ⟨j, hj, rfl, e⟩
  · exact ⟨-2, M, by rw [(e M).1, bdoN], by rw [(e M).2, bdS, if_pos rfl], FS_r M⟩
  obtain ⟨z, b, r, h⟩ := hI j hj
  obtain ⟨hz, hx, hy, hr, hr1, hl⟩ := h
  simp only [fun M => (e M).1, fun M => (e M).2, bdoS, bdS, i10, if_false, ckT (dec2 hj)]
  rcases rg x2 0 3 0 3 rfl rfl (by omega) (by omega) with ⟨h, e2⟩ | ⟨-, h, -, e2⟩ | ⟨w, -, hw, rfl, -, -, -, e2⟩
  · refine ⟨-2, M, ?_, by rw [e2, bdS, if_pos rfl], FS_r M⟩
    have hne : ∀ v : Int32, ¬ v < 0 → ¬ x2 = v := fun v hv h2 => hv (by rw [← h2]; exact h)
    rw [if_neg (hne 0 (by decide)), if_neg (hne 1 (by decide)), if_neg (hne 2 (by decide)), if_neg (hne 3 (by decide))]
  · refine ⟨-2, M, ?_, by rw [e2, bdS, if_pos rfl], FS_r M⟩
    have hne : ∀ v : Int32, ¬ 3 < v → ¬ x2 = v := fun v hv h2 => hv (by rw [← h2]; exact h)
    rw [if_neg (hne 0 (by decide)), if_neg (hne 1 (by decide)), if_neg (hne 2 (by decide)), if_neg (hne 3 (by decide))]
  · refine ⟨nI (lvs b z r w), rl M j r (lvs b z r), ?_, ?_, FS_rl _ _ _ _⟩
    · have := hl w (by omega)
      rcases (show w = 0 ∨ w = 1 ∨ w = 2 ∨ w = 3 by omega) with rfl | rfl | rfl | rfl
      · rw [← this]; rfl
      · rw [← this]; rfl
      · rw [← this]; rfl
      · rw [← this]; rfl
    · rw [e2, bdS, if_neg (by decide), reads_ok hj hz hy hr, bdvS, nlit 4, pk_mul, nI_add, ckN (by omega) (by omega), ncl (by omega), rl_told (by omega)]
/-- a law's text has changed -/
def FT (M M1 : Mem) : Prop := (∀ k, (k < 10 ∨ 21 < k) → M1.1 k = M.1 k) ∧ ∀ a, (a < 12 ∨ 13 < a) → a ≠ 29 → a ≠ 30 → M1.2 a = M.2 a
theorem FT_r (M : Mem) : FT M M := ⟨fun _ _ => rfl, fun _ _ _ _ => rfl⟩
theorem sl_o {M : Mem} {j : Nat} {r : Int32} {f : Nat → Int32} {k : Nat} (h : k ≤ 10 + 6 * j ∨ 10 + 6 * j + 6 ≤ k) : (sl M j r f).1 k = M.1 k := by
  show (if k = 10 + 6 * j + 1 then r else if 10 + 6 * j + 2 ≤ k ∧ k < 10 + 6 * j + 6 then f (k - (10 + 6 * j + 2)) else M.1 k) = _
  rw [if_neg (by omega), if_neg (by omega)]
theorem IL_new {M M1 M2 : Mem} (hI : IL M) {j z : Nat} {b : Nat → Nat} (hj : j < 2) (hz : z ≤ 40) (hT : TX M1 j z b) {r : Int32} (hr : Flt b z r) (hy : TY M2 j z b) (e1 : M2.1 = (sl M1 j r (fun w => nI (lvs b z r w))).1) (e2 : M2.2 (12 + j) = M1.2 (12 + j)) (o1 : ∀ k, (k < 10 + 6 * j ∨ 10 + 6 * j + 6 ≤ k) → M1.1 k = M.1 k) (o2 : ∀ i, i ≠ j → i < 2 → M2.2 (12 + i) = M.2 (12 + i)) (o3 : ∀ i, i ≠ j → M2.2 29 i = M.2 29 i) (o4 : ∀ i k, i ≠ j → k < 40 → i < 2 → M2.2 30 (40 * i + k) = M.2 30 (40 * i + k)) : IL M2 := by
  intro i hi
  by_cases h : i = j
  · subst h
    refine ⟨z, b, r, hz, ⟨?_, fun k hk => by rw [e2]; exact hT.2 k hk⟩, hy, hr, ?_, fun w hw => ?_⟩
    · rw [e1, sl_o (by omega)]
      exact hT.1
    · rw [e1]
      exact if_pos rfl
    · rw [e1]
      show (if 10 + 6 * i + 2 + w = 10 + 6 * i + 1 then r else if 10 + 6 * i + 2 ≤ 10 + 6 * i + 2 + w ∧ 10 + 6 * i + 2 + w < 10 + 6 * i + 6 then nI (lvs b z r (10 + 6 * i + 2 + w - (10 + 6 * i + 2))) else M1.1 (10 + 6 * i + 2 + w)) = _
      rw [if_neg (by omega), if_pos (by omega), show 10 + 6 * i + 2 + w - (10 + 6 * i + 2) = w by omega]
  · obtain ⟨z', b', r', h'⟩ := hI i hi
    exact ⟨z', b', r', IL1_E h' (fun k _ _ => by rw [e1, sl_o (by omega), o1 k (by omega)]) (o2 i h hi) (o3 i h) (fun k hk => o4 i k h hk hi)⟩
theorem op7 (M : Mem) (hI : IL M) (x1 : Int32) : ∃ (r : Int32) (M1 M2 : Mem), F_X6_wipe x1 M = some (r, M1) ∧ F_X7_wipe x1 M1 = some (r, M2) ∧ IL M2 ∧ FT M M2 := by
  unfold F_X6_wipe F_X7_wipe
  rcases law_c x1 with e | ⟨j, hj, rfl, e⟩
  · exact ⟨-2, M, M, by rw [(e M).1, bdoN], by rw [(e M).2, bdS, if_pos rfl], hI, FT_r M⟩
  obtain ⟨z, b, r, h⟩ := hI j hj
  obtain ⟨hz, hx, hy, hr, hr1, hl⟩ := h
  simp only [fun M => (e M).1, fun M => (e M).2, bdoS, bdS, i10, if_false, ckT (dec2 hj), ckN hj (show j < 2147483648 by omega), ncl (show j < 2147483648 by omega)]
  unfold F_X2_empty
  have hT : TX (sv M (10 + 6 * j) 0) j 0 b := ⟨if_pos rfl, fun k hk => absurd hk (by omega)⟩
  obtain ⟨r', hr', eu⟩ := und_ok hj (by omega) hT
  rw [eu, bdvS, bdvS]
  refine ⟨_, _, sa (sl (sv M (10 + 6 * j) 0) j r' (fun w => nI (lvs b 0 r' w))) 29 j 0, rfl, ?_, ?_⟩
  · rw [hx.1, show (sl (sv M (10 + 6 * j) 0) j r' (fun w => nI (lvs b 0 r' w))).2 = M.2 from rfl, hy.1]
  · refine ⟨IL_new hI hj (by omega) hT hr' ⟨upd_s _ _ _, fun k hk => absurd hk (by omega)⟩ rfl ?_ (fun k hk => sv_o _ _ (by omega)) (fun i hi hi2 => ?_) (fun i hi => ?_) (fun i k hi _ _ => rfl), fun k hk => ?_, fun a h1 h2 h3 => ?_⟩
    · rw [sa_sr, sr_o _ _ (by omega)]
      rfl
    · rw [sa_sr, sr_o _ _ (by omega)]
      rfl
    · exact upd_n hi
    · show (sl (sv M (10 + 6 * j) 0) j r' (fun w => nI (lvs b 0 r' w))).1 k = _
      rw [sl_o (by omega), sv_o _ _ (by omega)]
    · rw [sa_sr, sr_o _ _ h2]
      rfl
theorem op6 (M : Mem) (hI : IL M) (x1 x2 : Int32) : ∃ (r : Int32) (M1 M2 : Mem), F_X6_type x1 x2 M = some (r, M1) ∧ F_X7_type x1 x2 M1 = some (r, M2) ∧ IL M2 ∧ FT M M2 := by
  unfold F_X6_type F_X7_type
  rcases law_c x1 with e | ⟨j, hj, rfl, e⟩
  · exact ⟨-2, M, M, by rw [(e M).1, bdoN], by rw [(e M).2, bdS, if_pos rfl], hI, FT_r M⟩
  obtain ⟨z, b, r, h⟩ := hI j hj
  obtain ⟨hz, hx, hy, hr, hr1, hl⟩ := h
  simp only [fun M => (e M).1, fun M => (e M).2, bdoS, bdS, i10, if_false, ckT (dec2 hj), ckN hj (show j < 2147483648 by omega), ncl (show j < 2147483648 by omega)]
  rcases rg x2 0 255 0 255 rfl rfl (by omega) (by omega) with ⟨h, e2⟩ | ⟨h, -, h', e2⟩ | ⟨c, -, hc, rfl, h, -, h', e2⟩
  · exact ⟨-2, M, M, by rw [if_pos h], by rw [e2, bdS, if_pos rfl], hI, FT_r M⟩
  · exact ⟨-2, M, M, by rw [if_neg h, if_neg h'], by rw [e2, bdS, if_pos rfl], hI, FT_r M⟩
  rw [if_neg h, if_pos h', hx.1]
  by_cases h40 : z = 40
  · refine ⟨-4, M, M, by rw [if_neg (by rw [nlit 40, nlt (by omega) (by omega)]; omega)], ?_, hI, FT_r M⟩
    rw [e2, bdS, if_neg (by decide), hy.1, if_pos (by rw [h40]; rfl)]
  rw [if_pos (by rw [nlit 40, nlt (by omega) (by omega)]; omega)]
  unfold F_X2_append
  rw [hx.1, al12 hj, ckN (by omega) (by omega), ncl (by omega), sa_sr, sr_1, hx.1, nlit 1, nI_add]
  have hT : TX (sv (sr M (12 + j) (upd (M.2 (12 + j)) z (nI c))) (10 + 6 * j) (nI (z + 1))) j (z + 1) (e1u b z c) := by
    refine ⟨if_pos rfl, fun k hk => ?_⟩
    rw [sv_2, show (sr M (12 + j) (upd (M.2 (12 + j)) z (nI c))).2 (12 + j) = upd (M.2 (12 + j)) z (nI c) from if_pos rfl]
    by_cases e : k = z
    · subst e
      rw [upd_s, e1u_s]
      exact ⟨rfl, by omega⟩
    · rw [upd_n e, e1u_n e]
      exact hx.2 k (by omega)
  obtain ⟨r', hr', eu⟩ := und_ok hj (by omega) hT
  rw [eu, bdvS, bdvS]
  have h29 : (sl (sv (sr M (12 + j) (upd (M.2 (12 + j)) z (nI c))) (10 + 6 * j) (nI (z + 1))) j r' (fun w => nI (lvs (e1u b z c) (z + 1) r' w))).2 29 = M.2 29 := by
    show (sr M (12 + j) (upd (M.2 (12 + j)) z (nI c))).2 29 = _
    rw [sr_o _ _ (by omega)]
  have h30 : (sl (sv (sr M (12 + j) (upd (M.2 (12 + j)) z (nI c))) (10 + 6 * j) (nI (z + 1))) j r' (fun w => nI (lvs (e1u b z c) (z + 1) r' w))).2 30 = M.2 30 := by
    show (sr M (12 + j) (upd (M.2 (12 + j)) z (nI c))).2 30 = _
    rw [sr_o _ _ (by omega)]
  obtain ⟨X, hX⟩ : ∃ X, X = sl (sv (sr M (12 + j) (upd (M.2 (12 + j)) z (nI c))) (10 + 6 * j) (nI (z + 1))) j r' (fun w => nI (lvs (e1u b z c) (z + 1) r' w)) := ⟨_, rfl⟩
  rw [← hX] at h29 h30 ⊢
  have hs : X.1 (10 + 6 * j) = nI (z + 1) := by
    rw [hX, sl_o (by omega)]
    exact if_pos rfl
  refine ⟨_, _, sr (sr X 30 (upd (M.2 30) (40 * j + z) (nI c))) 29 (upd (M.2 29) j (nI (z + 1))), rfl, ?_, ?_⟩
  · rw [e2, bdS, if_neg (by decide), h29, hy.1, if_neg (by rw [nlit 40, neq (by omega) (by omega)]; exact h40), nlit 40, pk_mul, nI_add, ckN (by omega) (by omega), ncl (by omega), hs, sa_sr, sa_sr, h30]
    rw [show (sr X 30 (upd (M.2 30) (40 * j + z) (nI c))).2 29 = X.2 29 from rfl, h29, hy.1, nI_add]
    rw [show (sr (sr X 30 (upd (M.2 30) (40 * j + z) (nI c))) 29 (upd (M.2 29) j (nI (z + 1)))).2 29 j = nI (z + 1) from upd_s _ _ _]
  · have hX2 : ∀ a, a ≠ 12 + j → X.2 a = M.2 a := fun a ha => by
      rw [hX]
      exact sr_o _ _ ha
    refine ⟨IL_new hI hj (by omega) hT hr' ⟨upd_s _ _ _, fun k hk => ?_⟩ (by rw [← hX]; rfl) ?_ (fun k hk => sv_o _ _ (by omega)) (fun i hi hi2 => ?_) (fun i hi => upd_n hi) (fun i k hi _ _ => ?_), fun k hk => ?_, fun a h1 h2 h3 => ?_⟩
    · show upd (M.2 30) (40 * j + z) (nI c) (40 * j + k) = _ ∧ _
      by_cases e : k = z
      · subst e
        rw [upd_s, e1u_s]
        exact ⟨rfl, by omega⟩
      · rw [upd_n (by omega), e1u_n e]
        exact hy.2 k (by omega)
    · rw [sr_o _ _ (by omega), sr_o _ _ (by omega), hX]
      rfl
    · rw [sr_o _ _ (by omega), sr_o _ _ (by omega), hX2 _ (by omega)]
    · exact upd_n (by omega)
    · show X.1 k = _
      rw [hX, sl_o (by omega), sv_o _ _ (by omega)]
      rfl
    · rw [sr_o _ _ h2, sr_o _ _ h3, hX2 _ (by omega)]
