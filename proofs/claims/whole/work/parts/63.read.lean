/-! word, read -/
def FC (M M1 : Mem) : Prop := (∀ k, k ≠ 0 → k ≠ 2 → M1.1 k = M.1 k) ∧ ∀ a, (a < 2 ∨ 10 < a) → M1.2 a = M.2 a
def FM (M M1 : Mem) : Prop := (∀ k, k ≠ 40 → M1.1 k = M.1 k) ∧ ∀ a, (a < 24 ∨ 28 < a) → M1.2 a = M.2 a
theorem FC_r (M : Mem) : FC M M := ⟨fun _ _ _ => rfl, fun _ _ => rfl⟩
theorem FM_r (M : Mem) : FM M M := ⟨fun _ _ => rfl, fun _ _ => rfl⟩
theorem FC_t {M M1 M2 : Mem} (h : FC M M1) (g : FC M1 M2) : FC M M2 := ⟨fun k h0 h2 => (g.1 k h0 h2).trans (h.1 k h0 h2), fun a ha => (g.2 a ha).trans (h.2 a ha)⟩
theorem FM_t {M M1 M2 : Mem} (h : FM M M1) (g : FM M1 M2) : FM M M2 := ⟨fun k h0 => (g.1 k h0).trans (h.1 k h0), fun a ha => (g.2 a ha).trans (h.2 a ha)⟩
theorem sr_o (M : Mem) {a b : Nat} (f : Nat → Int32) (h : a ≠ b) : (sr M b f).2 a = M.2 a := if_neg h
theorem sv_o (M : Mem) {k j : Nat} (x : Int32) (h : k ≠ j) : (sv M j x).1 k = M.1 k := if_neg h
theorem FC_tl (M : Mem) (n k g t h a : Nat) (p : Int32) (f g' : Nat → Int32) : FC M (st3 (tl M n k g t h a) p f g') := by
  refine ⟨fun j h0 h2 => ?_, fun b hb => ?_⟩
  · show (sv (sv M 0 (nI (n + 1))) 2 p).1 j = _
    rw [sv_o _ _ h2, sv_o _ _ h0]
  · unfold st3 tl
    rw [sr_o _ _ (by omega), sr_o _ _ (by omega), sv_2, sr_o _ _ (by omega), sv_2, sr_o _ _ (by omega), sr_o _ _ (by omega), sr_o _ _ (by omega), sr_o _ _ (by omega), sr_o _ _ (by omega), sr_o _ _ (by omega)]
theorem FM_tm (M : Mem) (n k g t h a : Nat) : FM M (tm M n k g t h a) := by
  refine ⟨fun j h0 => ?_, fun b hb => ?_⟩
  · show (sv M 40 (nI (n + 1))).1 j = _
    rw [sv_o _ _ h0]
  · unfold tm
    rw [sv_2, sr_o _ _ (by omega), sr_o _ _ (by omega), sr_o _ _ (by omega), sr_o _ _ (by omega), sr_o _ _ (by omega)]
/-- the class tells a word -/
theorem word_c {M : Mem} {n : Nat} {kd gp tn hr ab : Nat → Nat} (hC : CWx M n kd gp tn hr ab) (x1 x2 x3 x4 x5 : Int32) : (F_X6_word x1 x2 x3 x4 x5 M = some (-2, M) ∧ ∀ M' : Mem, M'.1 40 = nI n → F_X7_adds x1 x2 x3 x4 x5 M' = some (-2, M')) ∨ (F_X6_word x1 x2 x3 x4 x5 M = some (-4, M) ∧ ∀ M' : Mem, M'.1 40 = nI n → F_X7_adds x1 x2 x3 x4 x5 M' = some (-4, M')) ∨ (n < 10 ∧ ∃ (k g t h a : Nat) (p : Int32) (f g' : Nat → Int32), may n k g t h a ∧ F_X6_word x1 x2 x3 x4 x5 M = some (nI n, st3 (tl M n k g t h a) p f g') ∧ CWx (st3 (tl M n k g t h a) p f g') (n + 1) (e1u kd n k) (e1u gp n g) (e1u tn n t) (e1u hr n h) (e1u ab n a) ∧ ∀ M' : Mem, M'.1 40 = nI n → F_X7_adds x1 x2 x3 x4 x5 M' = some (nI n, tm M' n k g t h a)) := by
  obtain ⟨hW, hq, hP, hgs, hF⟩ := hC
  have hn := hW.1
  unfold F_X6_word
  rcases may_c n hn x1 x2 x3 x4 x5 with ⟨e1, e2⟩ | ⟨k, g, t, h, a, hm, rfl, rfl, rfl, rfl, rfl, e1, e2⟩
  · exact Or.inl ⟨by rw [e1 M hW.2.1, bdS, if_pos rfl], e2⟩
  by_cases h10 : n = 10
  · refine Or.inr (Or.inl ⟨?_, fun M' h' => by rw [e2 M' h', if_pos h10]⟩)
    rw [e1 M hW.2.1, bdS, if_neg (by decide), hW.2.1, if_neg (by rw [nlit 10, nlt (by omega) (by omega)]; omega)]
  · have hn' : n < 10 := by omega
    have hWm := WC_more hW hm hn'
    obtain ⟨p, f, g', ew, hPW⟩ := weigh_ok hWm (w := wys M) hq
    refine Or.inr (Or.inr ⟨hn', k, g, t, h, a, p, f, g', hm, ?_, ⟨hWm, hq, hPW, fun i hi => ?_, foe_more hW hF hm hn'⟩, fun M' h' => by rw [e2 M' h', if_neg h10]⟩)
    · rw [e1 M hW.2.1, bdS, if_neg (by decide), hW.2.1, if_pos (by rw [nlit 10, nlt (by omega) (by omega)]; omega)]
      rw [tell_ok hW.2.1 hn' hm.2.2.1 hm.1 (fun h1 => hm.2.2.2.2.2.2 (by omega)) ew, bdS]
    · show upd (M.2 4) n (nI (pc (nI g))) i = _
      by_cases e : i = n
      · subst e
        rw [upd_s, e1u_s]
      · rw [upd_n e, e1u_n e]
        exact hgs i (by omega)
theorem IWx.cw {M : Mem} {n : Nat} {kd gp tn hr ab rd : Nat → Nat} (h : IWx M n kd gp tn hr ab rd) : CWx M n kd gp tn hr ab := ⟨h.1.c, h.2.2.1, h.2.2.2.1, h.2.2.2.2.1, h.2.2.2.2.2.1⟩
/-- places of the words, moved -/
theorem WC_F {M M1 : Mem} {n : Nat} {kd gp tn hr ab : Nat → Nat} (h : WC M n kd gp tn hr ab) (h0 : M1.1 0 = M.1 0) (h2 : ∀ a, 2 ≤ a → a ≤ 7 → M1.2 a = M.2 a) : WC M1 n kd gp tn hr ab := by
  unfold WC
  rw [h0, h2 2 (by omega) (by omega), h2 3 (by omega) (by omega), h2 5 (by omega) (by omega), h2 6 (by omega) (by omega), h2 7 (by omega) (by omega)]
  exact h
theorem WM_F {M M1 : Mem} {n : Nat} {kd gp tn hr ab : Nat → Nat} (h : WM M n kd gp tn hr ab) (h0 : M1.1 40 = M.1 40) (h2 : ∀ a, 24 ≤ a → a ≤ 28 → M1.2 a = M.2 a) : WM M1 n kd gp tn hr ab := by
  unfold WM
  rw [h0, h2 24 (by omega) (by omega), h2 25 (by omega) (by omega), h2 26 (by omega) (by omega), h2 27 (by omega) (by omega), h2 28 (by omega) (by omega)]
  exact h
/-- behind new words -/
theorem IW_new {M M1 M2 : Mem} {n n' : Nat} {kd gp tn hr ab rd kd' gp' tn' hr' ab' : Nat → Nat} (h : IWx M n kd gp tn hr ab rd) (hnn : n ≤ n') (hc : CWx M1 n' kd' gp' tn' hr' ab') (fc : FC M M1) (hm : WM M2 n' kd' gp' tn' hr' ab') (fm : FM M1 M2) : IW M2 := by
  have e1 : M2.2 0 = M.2 0 := (fm.2 0 (by omega)).trans (fc.2 0 (by omega))
  have e2 : M2.2 22 = M.2 22 := (fm.2 22 (by omega)).trans (fc.2 22 (by omega))
  have e3 : M2.1 1 = M.1 1 := (fm.1 1 (by omega)).trans (fc.1 1 (by omega) (by omega))
  have e4 : M2.1 41 = M.1 41 := (fm.1 41 (by omega)).trans (fc.1 41 (by omega) (by omega))
  have e5 : wys M2 = wys M1 := by unfold wys; rw [fm.2 0 (by omega)]
  refine ⟨n', kd', gp', tn', hr', ab', rd, WD.of (WC_F hc.1 (fm.1 0 (by omega)) (fun a _ _ => fm.2 a (by omega))) hm, ?_, ?_, ?_, ?_, ?_, ?_, ?_⟩
  · unfold RD
    rw [e1, e2]
    exact h.2.1
  · rw [e5, fm.2 1 (by omega)]
    exact hc.2.1
  · rw [e5, fm.1 2 (by omega), fm.2 9 (by omega), fm.2 10 (by omega)]
    exact hc.2.2.1
  · rw [fm.2 4 (by omega)]
    exact hc.2.2.2.1
  · rw [fm.2 8 (by omega)]
    exact hc.2.2.2.2
  · rw [e3, e4]
    exact h.2.2.2.2.2.2.1
  · rw [e3]
    exact fun i hi hni => h.2.2.2.2.2.2.2 i hi (by omega)
theorem op2 (M : Mem) (hI : IW M) (x1 x2 x3 x4 x5 : Int32) : ∃ (r : Int32) (M1 M2 : Mem), F_X6_word x1 x2 x3 x4 x5 M = some (r, M1) ∧ F_X7_word x1 x2 x3 x4 x5 M1 = some (r, M2) ∧ IW M2 ∧ FC M M1 ∧ FM M1 M2 := by
  obtain ⟨n, kd, gp, tn, hr, ab, rd, hI⟩ := hI
  have hI0 : IW M := ⟨n, kd, gp, tn, hr, ab, rd, hI⟩
  unfold F_X7_word
  rcases word_c hI.cw x1 x2 x3 x4 x5 with ⟨e1, e2⟩ | ⟨e1, e2⟩ | ⟨hn, k, g, t, h, a, p, f, g', hm, e1, hc, e2⟩
  · exact ⟨-2, M, M, e1, by rw [e2 M hI.1.2.2.1, bdS], hI0, FC_r M, FM_r M⟩
  · exact ⟨-4, M, M, e1, by rw [e2 M hI.1.2.2.1, bdS], hI0, FC_r M, FM_r M⟩
  · have fc := FC_tl M n k g t h a p f g'
    have hm1 : WM (st3 (tl M n k g t h a) p f g') n kd gp tn hr ab := WM_F hI.1.m (fc.1 40 (by omega) (by omega)) (fun a _ _ => fc.2 a (by omega))
    exact ⟨nI n, _, _, e1, by rw [e2 _ hm1.2.2.1, bdS], IW_new hI (by omega) hc fc (WM_more hm1 hm hn) (FM_tm _ n k g t h a), fc, FM_tm _ n k g t h a⟩
theorem sheet_c (x : Int32) : (∀ M, F_X6_sheetOf x M = some (none, M) ∧ F_X7_isSheet x M = some (0, M)) ∨ ∃ s, s < 4 ∧ x = nI s ∧ ∀ M, F_X6_sheetOf x M = some (some s, M) ∧ F_X7_isSheet x M = some (1, M) := by
  rcases arg3 x 3 (by omega) with h | h | ⟨j, hj, rfl⟩
  · exact Or.inl (fun M => ⟨sheetOf_lo h, isSheet_lo h⟩)
  · exact Or.inl (fun M => ⟨sheetOf_hi h.1 h.2.2.2.1, isSheet_hi h.1 h.2.2.1⟩)
  · exact Or.inr ⟨j, by omega, rfl, fun M => ⟨sheetOf_ok (by omega), isSheet_ok (by omega)⟩⟩
theorem m2n : ¬ (0 : Int32) ≤ -2 := by decide
theorem m4n : ¬ (0 : Int32) ≤ -4 := by decide
/-- both read -/
theorem read_l (j z : Nat) (hj : j < 4) (hz : z ≤ 40) (it : Nat → Int32) : ∀ (d q m : Nat) (M : Mem) (n : Nat) (kd gp tn hr ab : Nat → Nat), q + d = 8 → d < m → CWx M n kd gp tn hr ab → M.1 (22 + 3 * j + 2) = nI z → M.2 (18 + j) = it → ∃ (r n' : Nat) (M1 : Mem) (kd' gp' tn' hr' ab' : Nat → Nat), F_X6_read_31 j m (nI q) (nI (5 * q)) M = some (nI r, M1) ∧ n ≤ n' ∧ CWx M1 n' kd' gp' tn' hr' ab' ∧ FC M M1 ∧ ∀ (m' : Nat) (Mm : Mem), d < m' → WM Mm n kd gp tn hr ab → Mm.2 39 j = nI z → (∀ i, i < 40 → it i = Mm.2 40 (40 * j + i)) → ∃ Mm1, F_X7_read_27 m' (nI j) (nI q) Mm = some (nI r, Mm1) ∧ WM Mm1 n' kd' gp' tn' hr' ab' ∧ FM Mm Mm1 := by
  intro d
  induction d with
  | zero =>
    intro q m M n kd gp tn hr ab hq hm hC hsz hit
    obtain ⟨m, rfl⟩ : ∃ x, m = x + 1 := ⟨m - 1, by omega⟩
    have hlt : z < 5 * q + 5 := by omega
    unfold F_X6_read_31
    rw [hsz, hit, al18 hj]
    refine ⟨q, n, M, kd, gp, tn, hr, ab, ?_, by omega, hC, FC_r M, fun m' Mm hm' hWM h39 h40 => ⟨Mm, ?_, hWM, FM_r Mm⟩⟩
    · rw [nlit 5, nI_add, if_pos (by rw [nlt (by omega) (by omega)]; exact hlt)]
    · obtain ⟨m', rfl⟩ : ∃ x, m' = x + 1 := ⟨m' - 1, by omega⟩
      unfold F_X7_read_27
      rw [ckN (by omega) (by omega), ncl (by omega), h39, nlit 5, nlit 4, pk_mul, nI_add, if_pos (by rw [nle (by omega) (by omega)]; omega)]
  | succ d ih =>
    intro q m M n kd gp tn hr ab hq hm hC hsz hit
    obtain ⟨m, rfl⟩ : ∃ x, m = x + 1 := ⟨m - 1, by omega⟩
    unfold F_X6_read_31
    rw [hsz, hit, al18 hj]
    by_cases hlt : z < 5 * q + 5
    · refine ⟨q, n, M, kd, gp, tn, hr, ab, ?_, by omega, hC, FC_r M, fun m' Mm hm' hWM h39 h40 => ⟨Mm, ?_, hWM, FM_r Mm⟩⟩
      · rw [nlit 5, nI_add, if_pos (by rw [nlt (by omega) (by omega)]; exact hlt)]
      · obtain ⟨m', rfl⟩ : ∃ x, m' = x + 1 := ⟨m' - 1, by omega⟩
        unfold F_X7_read_27
        rw [ckN (by omega) (by omega), ncl (by omega), h39, nlit 5, nlit 4, pk_mul, nI_add, if_pos (by rw [nle (by omega) (by omega)]; omega)]
    · rw [nlit 5, nI_add, if_neg (by rw [nlt (by omega) (by omega)]; exact hlt)]
      simp (disch := omega) only [nlit 1, nlit 2, nlit 3, nlit 4, nI_add, ckN, ncl]
      have hmod : ∀ (m' : Nat) (Mm : Mem), d + 1 < m' → WM Mm n kd gp tn hr ab → Mm.2 39 j = nI z → (∀ i, i < 40 → it i = Mm.2 40 (40 * j + i)) → ∃ m'', d < m'' ∧ F_X7_read_27 m' (nI j) (nI q) Mm = bd (F_X7_adds (it (5 * q)) (it (5 * q + 1)) (it (5 * q + 2)) (it (5 * q + 3)) (it (5 * q + 4)) Mm) (fun r89 M89 => if 0 ≤ r89 then F_X7_read_27 m'' (nI j) (nI (q + 1)) M89 else some (nI q, M89)) := by
        intro m' Mm hm' hWM h39 h40
        obtain ⟨m', rfl⟩ : ∃ x, m' = x + 1 := ⟨m' - 1, by omega⟩
        refine ⟨m', by omega, ?_⟩
        rw [F_X7_read_27]
        rw [ckN (by omega) (by omega), ncl (by omega), h39, nlit 5, nlit 4, pk_mul, nI_add, if_neg (by rw [nle (by omega) (by omega)]; omega)]
        simp (disch := omega) only [nlit 1, nlit 2, nlit 3, nlit 40, pk_mul, nI_add, ckN, ncl]
        rw [h40 _ (by omega), h40 _ (by omega), h40 _ (by omega), h40 _ (by omega), h40 _ (by omega)]
        simp only [Nat.add_assoc]
      rcases word_c hC (it (5 * q)) (it (5 * q + 1)) (it (5 * q + 2)) (it (5 * q + 3)) (it (5 * q + 4)) with ⟨e1, e2⟩ | ⟨e1, e2⟩ | ⟨hn, k, g, t, h, a, p, f, g', hma, e1, hc, e2⟩
      · refine ⟨q, n, M, kd, gp, tn, hr, ab, ?_, by omega, hC, FC_r M, fun m' Mm hm' hWM h39 h40 => ⟨Mm, ?_, hWM, FM_r Mm⟩⟩
        · rw [e1, bdS, if_neg m2n]
        · obtain ⟨m'', -, e3⟩ := hmod m' Mm hm' hWM h39 h40
          rw [e3, e2 Mm hWM.2.2.1, bdS, if_neg m2n]
      · refine ⟨q, n, M, kd, gp, tn, hr, ab, ?_, by omega, hC, FC_r M, fun m' Mm hm' hWM h39 h40 => ⟨Mm, ?_, hWM, FM_r Mm⟩⟩
        · rw [e1, bdS, if_neg m4n]
        · obtain ⟨m'', -, e3⟩ := hmod m' Mm hm' hWM h39 h40
          rw [e3, e2 Mm hWM.2.2.1, bdS, if_neg m4n]
      · have fc := FC_tl M n k g t h a p f g'
        obtain ⟨r, n', M1, kd', gp', tn', hr', ab', e4, hnn, hC1, fc1, hrest⟩ := ih (q + 1) m _ _ _ _ _ _ _ (by omega) (by omega) hc ((fc.1 _ (by omega) (by omega)).trans hsz) ((fc.2 _ (by omega)).trans hit)
        refine ⟨r, n', M1, kd', gp', tn', hr', ab', ?_, by omega, hC1, FC_t fc fc1, fun m' Mm hm' hWM h39 h40 => ?_⟩
        · rw [e1, bdS, if_pos (nI_pos' (by omega))]
          exact e4
        · obtain ⟨m'', hm'', e3⟩ := hmod m' Mm hm' hWM h39 h40
          have fm := FM_tm Mm n k g t h a
          obtain ⟨Mm1, e5, hw5, f5⟩ := hrest m'' (tm Mm n k g t h a) (by omega) (WM_more hWM hma hn) (by rw [fm.2 39 (by omega)]; exact h39) (by rw [fm.2 40 (by omega)]; exact h40)
          refine ⟨Mm1, ?_, hw5, FM_t fm f5⟩
          rw [e3, e2 Mm hWM.2.2.1, bdS, if_pos (nI_pos' (by omega))]
          exact e5
theorem op3 (M : Mem) (hI : IW M) (hS : IS M) (x1 : Int32) : ∃ (r : Int32) (M1 M2 : Mem), F_X6_read x1 M = some (r, M1) ∧ F_X7_read x1 M1 = some (r, M2) ∧ ((M2 = fnd M 1) ∨ (IW M2 ∧ FC M M1 ∧ FM M1 M2)) := by
  have hI0 := hI
  obtain ⟨n, kd, gp, tn, hr, ab, rd, hI⟩ := hI
  unfold F_X6_read F_X7_read
  rcases sheet_c x1 with e | ⟨s, hs, rfl, e⟩
  · exact ⟨-2, M, M, by rw [(e M).1, bdoN], by rw [(e M).2, bdS, if_pos rfl], Or.inr ⟨hI0, FC_r M, FM_r M⟩⟩
  obtain ⟨hl, -, ⟨z, hz, hz1, hz2⟩, hit⟩ := hS s hs
  simp only [fun M => (e M).1, fun M => (e M).2, bdoS, bdS, i10, if_false, ckT (dec4 hs), ckN hs (show s < 2147483648 by omega), ncl (show s < 2147483648 by omega)]
  rcases hl with ⟨l1, l2⟩ | ⟨l1, l2⟩
  · rw [if_pos l1]
    obtain ⟨r, n', M1, kd', gp', tn', hr', ab', e4, hnn, hC1, fc1, hrest⟩ := read_l s z hs hz (M.2 (18 + s)) 8 0 fu M n kd gp tn hr ab (by omega) (by decide) hI.cw hz1 rfl
    obtain ⟨Mm1, e5, hw5, f5⟩ := hrest fu M1 (by decide) (WM_F hI.1.m (fc1.1 40 (by omega) (by omega)) (fun a _ _ => fc1.2 a (by omega))) (by rw [fc1.2 39 (by omega)]; exact hz2) (by rw [fc1.2 40 (by omega)]; exact hit)
    refine ⟨nI r, M1, Mm1, e4, ?_, Or.inr ⟨IW_new hI hnn hC1 fc1 hw5 f5, fc1, f5⟩⟩
    rw [fc1.2 37 (by omega), l2, if_neg (by decide)]
    exact e5
  · rw [if_neg (by rw [l1]; decide), find_ok, bdS]
    refine ⟨_, _, fnd M 1, rfl, ?_, Or.inl rfl⟩
    rw [show (sv M 7 1).2 37 = M.2 37 from rfl, l2, if_pos rfl, meets_ok, bdS]
    rfl
