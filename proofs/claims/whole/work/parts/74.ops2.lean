/-! most, ordered, write -/
theorem most7 {n : Nat} {kd gp ab : Nat → Nat} {ps : Nat → Bool} {kp : Int32} {L : Nat → Nat → Nat} : ∀ (d i m : Nat) (M : Mem), Cx M n kd gp ab ps kp L → i + d = n → d < m → ∃ M2, F_X7_mostNow_6 m (mbe (mst (bt (hon n kp)) (fun w => pc (hgs kd gp ab (L 0) ps n (hon n kp) w)) i)) (mc7 (mst (bt (hon n kp)) (fun w => pc (hgs kd gp ab (L 0) ps n (hon n kp) w)) i)) (nI i) M = some (mbe (mst (bt (hon n kp)) (fun w => pc (hgs kd gp ab (L 0) ps n (hon n kp) w)) n), M2) ∧ FS M M2 := by
  intro d
  induction d with
  | zero =>
    intro i m M hC hi hm
    have hn := hC.1.1
    obtain ⟨m, rfl⟩ : ∃ q, m = q + 1 := ⟨m - 1, by omega⟩
    obtain rfl : i = n := by omega
    refine ⟨M, ?_, FS_r M⟩
    unfold F_X7_mostNow_6
    rw [hC.2.1.1, if_pos (by rw [nle (by omega) (by omega)]; omega)]
  | succ d ih =>
    intro i m M hC hi hm
    have hn := hC.1.1
    obtain ⟨m, rfl⟩ : ∃ q, m = q + 1 := ⟨m - 1, by omega⟩
    have ih := fun M hC => ih (i + 1) m M hC (by omega) (by omega)
    unfold F_X7_mostNow_6 F_X7_mostNow_43 F_X7_mostNow_48
    rw [hC.2.1.1, if_neg (by rw [nle (by omega) (by omega)]; omega), has7 _ (by omega), bdS, hC.2.2.1.2.1]
    simp only [ib, nI_s]
    have hb := hon_b hn kp (show i < 32 by omega)
    rw [decide_eq_true (show i < n by omega), Bool.true_and] at hb
    obtain ⟨g, hg⟩ : ∃ g : Nat → Nat, g = fun w => pc (hgs kd gp ab (L 0) ps n (hon n kp) w) := ⟨_, rfl⟩
    rw [← hg] at ih ⊢
    have hgb : ∀ k, g k ≤ 10 := fun k => by rw [hg]; exact pc_le _
    rw [show mst (bt (hon n kp)) g (i + 1) = if bt (hon n kp) i = true then (match mst (bt (hon n kp)) g i with
      | none => some (i, g i)
      | some (b, m) => if m < g i then some (i, g i) else some (b, m)) else mst (bt (hon n kp)) g i from rfl] at ih
    cases h : bt kp i
    rotate_left
    · rw [if_neg (by decide)]
      rw [h] at hb
      rw [hb, if_neg (by decide)] at ih
      exact ih M hC
    · rw [if_pos rfl]
      rw [h] at hb
      rw [hb, if_pos (show (!false) = true from rfl)] at ih
      obtain ⟨M1, e1, f1⟩ := hang7 hC (show i < n by omega)
      rw [show pc (hgs kd gp ab (L 0) ps n (hon n kp) i) = g i by rw [hg]] at e1
      obtain ⟨M2, e2, f2⟩ := ih M1 (Cx_FS hC f1)
      rw [e1, bdS]
      refine ⟨M2, ?_, FS_t f1 f2⟩
      have hgi := hgb i
      cases hm : mst (bt (hon n kp)) g i with
      | none =>
        rw [hm] at e2
        rw [if_pos (show mbe none = -1 from rfl)]
        exact e2
      | some bm =>
        obtain ⟨b, c⟩ := bm
        rw [hm] at e2
        have hb := mst_b hgb i b c hm
        rw [if_neg (show ¬ mbe (some (b, c)) = -1 from nIm b (by omega))]
        have hle : (nI (g i) ≤ mc7 (some (b, c))) = (g i ≤ c) := nle (by omega) (by omega)
        by_cases hlt : c < g i
        · rw [if_neg (by rw [hle]; omega)]
          simp only [if_pos hlt] at e2
          exact e2
        · rw [if_pos (by rw [hle]; omega)]
          simp only [if_neg hlt] at e2
          exact e2
theorem most6_ok {M : Mem} {n : Nat} {kd gp ab : Nat → Nat} {ps : Nat → Bool} {kp : Int32} {L : Nat → Nat → Nat} (hC : Cx M n kd gp ab ps kp L) : ∃ M2, F_X6_most M = some (mbe (mst (bt (hon n kp)) (fun w => pc (hgs kd gp ab (L 0) ps n (hon n kp) w)) n), M2) ∧ FS M M2 := by
  unfold F_X6_most
  rw [hon5 hC, bdS]
  exact most6 n 0 fu M hC (by omega) (by have := hC.1.1; unfold fu; omega)
theorem most7_ok {M : Mem} {n : Nat} {kd gp ab : Nat → Nat} {ps : Nat → Bool} {kp : Int32} {L : Nat → Nat → Nat} (hC : Cx M n kd gp ab ps kp L) : ∃ M2, F_X7_mostNow M = some (mbe (mst (bt (hon n kp)) (fun w => pc (hgs kd gp ab (L 0) ps n (hon n kp) w)) n), M2) ∧ FS M M2 := by
  unfold F_X7_mostNow
  exact most7 n 0 fu M hC (by omega) (by have := hC.1.1; unfold fu; omega)
theorem op22 (M : Mem) (hI : Inv M) : ∃ (r : Int32) (M1 M2 : Mem), F_X6_most M = some (r, M1) ∧ F_X7_most M1 = some (r, M2) ∧ FS M M2 := by
  obtain ⟨n, kd, gp, ab, ps, kp, L, hC⟩ := Cx_of hI.1 hI.2.1
  obtain ⟨M1, e1, f1⟩ := most6_ok hC
  obtain ⟨M2, e2, f2⟩ := most7_ok (Cx_FS hC f1)
  refine ⟨_, M1, M2, e1, ?_, FS_t f1 f2⟩
  unfold F_X7_most
  rw [e2, bdS]
/-! ordered -/
/-- both look whether a sheet is an order -/
theorem ord_l {n s z : Nat} {kp : Int32} (hs : s < 4) (hz : z ≤ 40) (it : Nat → Int32) (hn : n ≤ 10) : ∀ (d i m m' : Nat) (left used : Int32) (M Mm : Mem) (O : Nat → Int32), i + d = z → d < m → d < m' → i ≤ 10 → M.1 0 = nI n → M.1 (22 + 3 * s + 2) = nI z → M.2 (18 + s) = it → (∀ k, k < 32 → bt left k = (decide (k < n) && !(bt kp k) && !(bt used k))) → cnt (bt used) n = i → Mm.1 40 = nI n → Mm.1 41 = kp → Mm.2 39 s = nI z → (∀ k, k < 40 → it k = Mm.2 40 (40 * s + k)) → ∀ (od : Nat → Nat), (∀ k, k < i → od k < n ∧ it k = nI (od k) ∧ O k = nI (od k)) → (F_X6_isOrder_10 s m left (nI i) M = some (0, M) ∧ ∀ x1 x3, ∃ O', F_X7_ordered_47 m' x1 (nI s) x3 used (nI i) (sr Mm 33 O) = some (-3, sr Mm 33 O')) ∨ (z ≤ 10 ∧ F_X6_isOrder_10 s m left (nI i) M = some (1, M) ∧ ∃ (od' : Nat → Nat) (O' : Nat → Int32), (∀ k, k < z → od' k < n ∧ it k = nI (od' k) ∧ O' k = nI (od' k)) ∧ ∀ x1 x3, F_X7_ordered_47 m' x1 (nI s) x3 used (nI i) (sr Mm 33 O) = bdv (F_X7_reads x1 (sv (sr Mm 33 O') 43 (nI z))) (fun M142 => bdv (F_X7_laysPossible M142) (fun M146 => bdv (F_X7_hears x1 M146) (fun M151 => bd (F_X7_tells x3 M151) (fun r156 M156 => some (r156, M156)))))) := by
  intro d
  induction d with
  | zero =>
    intro i m m' left used M Mm O hi hm hm' h10 h0 hsz hit hleft hcnt h40 h41 h39 hit2 od hod
    obtain ⟨m, rfl⟩ : ∃ q, m = q + 1 := ⟨m - 1, by omega⟩
    obtain ⟨m', rfl⟩ : ∃ q, m' = q + 1 := ⟨m' - 1, by omega⟩
    obtain rfl : i = z := by omega
    refine Or.inr ⟨h10, ?_, od, O, hod, fun x1 x3 => ?_⟩
    · unfold F_X6_isOrder_10
      rw [hsz, if_pos (by rw [nle (by omega) (by omega)]; omega)]
    · unfold F_X7_ordered_47
      rw [ckN hs (by omega), ncl (by omega), show (sr Mm 33 O).2 39 = Mm.2 39 from rfl, h39, if_pos (by rw [nle (by omega) (by omega)]; omega), ckN hs (by omega)]
  | succ d ih =>
    intro i m m' left used M Mm O hi hm hm' h10 h0 hsz hit hleft hcnt h40 h41 h39 hit2 od hod
    obtain ⟨m, rfl⟩ : ∃ q, m = q + 1 := ⟨m - 1, by omega⟩
    obtain ⟨m', rfl⟩ : ∃ q, m' = q + 1 := ⟨m' - 1, by omega⟩
    unfold F_X6_isOrder_10
    rw [hsz, if_neg (by rw [nle (by omega) (by omega)]; omega), al18 hs, ckN (by omega) (by omega), ncl (by omega), hit]
    have hmod : ∀ x1 x3, F_X7_ordered_47 (m' + 1) x1 (nI s) x3 used (nI i) (sr Mm 33 O) = bd (F_X7_isWord (it i) (sr Mm 33 O)) (fun r75 M75 => if r75 = 0 then some ((-3), M75) else bd (F_X7_has (M75.1 41) (it i) M75) (fun r87 M87 => if r87 = 0 then bd (F_X7_has used (it i) M87) (fun r97 M97 => if r97 = 0 then ckb (ix (nI i) 10) (F_X7_ordered_47 m' x1 (nI s) x3 (used ||| ((1 : Int32) <<< ((it i) &&& 31))) (nI i + 1) (sa M97 33 i (it i))) else some ((-3), M97)) else some ((-3), M87))) := by
      intro x1 x3
      rw [F_X7_ordered_47]
      rw [ckN hs (by omega), ncl (by omega), ncl (by omega), show (sr Mm 33 O).2 39 = Mm.2 39 from rfl, h39, if_neg (by rw [nle (by omega) (by omega)]; omega), nlit 40, pk_mul, nI_add, ckN (by omega) (by omega), ncl (by omega), show (sr Mm 33 O).2 40 = Mm.2 40 from rfl, ← hit2 i (by omega)]
    rcases isWord_c h0 hn (it i) (sr Mm 33 O) h40 with ⟨e1, e2⟩ | ⟨w, hw, ew, e1, e2⟩
    · refine Or.inl ⟨by rw [e1, bdS, if_pos rfl], fun x1 x3 => ⟨O, ?_⟩⟩
      rw [hmod, e2, bdS, if_pos rfl]
    rw [e1, bdS, if_neg (by decide), ew]
    simp only [b_tst0 _ (show w < 32 by omega)]
    have hl := hleft w (by omega)
    rw [decide_eq_true hw, Bool.true_and] at hl
    have hno : bt left w = false → ∀ x1 x3, ∃ O', F_X7_ordered_47 (m' + 1) x1 (nI s) x3 used (nI i) (sr Mm 33 O) = some (-3, sr Mm 33 O') := by
      intro hb x1 x3
      refine ⟨O, ?_⟩
      rw [hmod, e2, bdS, if_neg (by decide), show (sr Mm 33 O).1 41 = kp from h41, ew, has7 _ (by omega), bdS]
      simp only [ib]
      rw [hl] at hb
      cases h1 : bt kp w
      · rw [if_pos rfl, has7 _ (by omega), bdS]
        simp only [ib]
        rw [h1] at hb
        cases h2 : bt used w
        · rw [h2] at hb; cases hb
        · rw [if_neg (by decide)]
      · rw [if_neg (by decide)]
    cases hb : bt left w
    · exact Or.inl ⟨by rw [if_pos rfl], hno hb⟩
    rw [if_neg (by decide), nI_s]
    rw [hl] at hb
    have h1 : bt kp w = false := by cases h : bt kp w; rfl; rw [h] at hb; cases hb
    have h2 : bt used w = false := by cases h : bt used w; rfl; rw [h, Bool.not_true, Bool.and_false] at hb; cases hb
    have hin : i < 10 := by
      have hlt : cnt (bt used) n < n := by
        have hle : ∀ k, k ≤ n → cnt (bt used) k ≤ k ∧ (w < k → cnt (bt used) k < k) := by
          intro k
          induction k with
          | zero => intro _; exact ⟨by unfold cnt; omega, fun h => absurd h (by omega)⟩
          | succ k ihk =>
            intro hk
            obtain ⟨i1, i2⟩ := ihk (by omega)
            rw [cnt_s]
            refine ⟨by split <;> omega, fun h => ?_⟩
            by_cases e : k = w
            · subst e
              rw [h2, if_neg (by decide)]
              omega
            · have := i2 (by omega)
              split <;> omega
        exact (hle n (by omega)).2 hw
      omega
    have hcnt' : cnt (bt (used ||| one w)) n = i + 1 := by
      have key : ∀ k, k ≤ n → cnt (bt (used ||| one w)) k = cnt (bt used) k + (if w < k then 1 else 0) := by
        intro k
        induction k with
        | zero => intro _; rfl
        | succ k ihk =>
          intro hk
          rw [cnt_s, cnt_s, ihk (by omega), b_or, b_one (by omega) (by omega)]
          by_cases e : k = w
          · subst e
            rw [h2, if_neg (by omega), if_pos (show k < k + 1 by omega), decide_eq_true rfl, if_pos (show (false || true) = true from rfl), if_neg (by decide)]
          · rw [decide_eq_false e, Bool.or_false]
            by_cases h3 : w < k
            · rw [if_pos h3, if_pos (show w < k + 1 by omega)]
              omega
            · rw [if_neg h3, if_neg (show ¬ w < k + 1 by omega)]
              omega
      rw [key n (by omega), if_pos hw, hcnt]
    have hod' : ∀ k, k < i + 1 → e1u od i w k < n ∧ it k = nI (e1u od i w k) ∧ upd O i (nI w) k = nI (e1u od i w k) := by
      intro k hk
      by_cases e : k = i
      · subst e
        rw [e1u_s, upd_s]
        exact ⟨hw, ew, rfl⟩
      · rw [e1u_n e, upd_n e]
        exact hod k (by omega)
    have hleft' : ∀ k, k < 32 → bt (left &&& (one w ^^^ (-1))) k = (decide (k < n) && !(bt kp k) && !(bt (used ||| one w) k)) := by
      intro k hk
      rw [b_clr _ _ hk, hleft k hk, b_or]
      cases bt (one w) k <;> cases bt used k <;> cases decide (k < n) <;> cases bt kp k <;> rfl
    have hmod2 : ∀ x1 x3, F_X7_ordered_47 (m' + 1) x1 (nI s) x3 used (nI i) (sr Mm 33 O) = F_X7_ordered_47 m' x1 (nI s) x3 (used ||| one w) (nI (i + 1)) (sr Mm 33 (upd O i (nI w))) := by
      intro x1 x3
      rw [hmod, e2, bdS, if_neg (by decide), show (sr Mm 33 O).1 41 = kp from h41, ew, has7 _ (by omega), bdS, h1, if_pos (show (if false = true then (1 : Int32) else 0) = 0 from rfl), has7 _ (by omega), bdS, h2, if_pos (show (if false = true then (1 : Int32) else 0) = 0 from rfl), ckN hin (by omega), nI_s, sa_sr, sr_sr]
      rfl
    rcases ih (i + 1) m m' (left &&& (one w ^^^ (-1))) (used ||| one w) M Mm (upd O i (nI w)) (by omega) (by omega) (by omega) (by omega) h0 hsz hit hleft' hcnt' h40 h41 h39 hit2 (e1u od i w) hod' with ⟨g1, g2⟩ | ⟨g0, g1, od', O', g2, g3⟩
    · refine Or.inl ⟨g1, fun x1 x3 => ?_⟩
      rw [hmod2]
      exact g2 x1 x3
    · refine Or.inr ⟨g0, g1, od', O', g2, fun x1 x3 => ?_⟩
      rw [hmod2]
      exact g3 x1 x3
theorem or72 {M : Mem} {n j s z : Nat} {kd gp ab L : Nat → Nat} {ps : Nat → Bool} (hC : CX M n kd gp ab ps) (hL : LX M j L) (hB : LB L) (hs : s < 4) (hz : z ≤ 10) (hsz : M.1 (22 + 3 * s + 2) = nI z) {od : Nat → Nat} (hod : ∀ k, k < z → od k < n ∧ M.2 (18 + s) k = nI (od k)) (x3 : Int32) : ∀ (d i m : Nat), i + d = z → d < m → F_X6_ordered_72 j s m x3 (nI i) (h3 M (hf kd gp ab L ps n od i)) = bd (F_X1_outcome x3 (h3 M (hf kd gp ab L ps n od z))) (fun r110 M110 => some (r110, M110)) := by
  intro d
  induction d with
  | zero =>
    intro i m hi hm
    obtain ⟨m, rfl⟩ : ∃ q, m = q + 1 := ⟨m - 1, by omega⟩
    obtain rfl : i = z := by omega
    unfold F_X6_ordered_72
    rw [h3_o _ _ (by omega), hsz, if_pos (by rw [nle (by omega) (by omega)]; omega)]
  | succ d ih =>
    intro i m hi hm
    obtain ⟨m, rfl⟩ : ∃ q, m = q + 1 := ⟨m - 1, by omega⟩
    obtain ⟨h1, h2⟩ := hod i (by omega)
    unfold F_X6_ordered_72
    rw [h3_o _ _ (by omega), hsz, if_neg (by rw [nle (by omega) (by omega)]; omega), al18 hs, ckN (by omega) (by omega), ncl (by omega), h3_2, h2, hear_ok hC hL hB h1, bdvS, nI_s]
    exact ih (i + 1) m (by omega) (by omega)
theorem op11 (M : Mem) (hI : Inv M) (x1 x2 x3 : Int32) : ∃ (r : Int32) (M1 M2 : Mem), F_X6_ordered x1 x2 x3 M = some (r, M1) ∧ F_X7_ordered x1 x2 x3 M1 = some (r, M2) ∧ (M2 = fnd M 1 ∨ FS M M2) := by
  obtain ⟨n, kd, gp, ab, ps, kp, L, hC⟩ := Cx_of hI.1 hI.2.1
  have hn := hC.1.1
  unfold F_X6_ordered F_X7_ordered
  rcases law_c x1 with e | ⟨j, hj, rfl, e⟩
  · rcases sheet_c x2 with e' | ⟨s, hs, rfl, e'⟩
    · exact ⟨-2, M, M, by rw [(e M).1, bdoN, (e' M).1, bdoN], by rw [(e M).2, bdS, if_pos rfl], Or.inr (FS_r M)⟩
    · exact ⟨-2, M, M, by rw [(e M).1, bdoN, (e' M).1, bdoS, ckT (dec4 hs)], by rw [(e M).2, bdS, if_pos rfl], Or.inr (FS_r M)⟩
  rcases sheet_c x2 with e' | ⟨s, hs, rfl, e'⟩
  · exact ⟨-2, M, M, by rw [(e M).1, bdoS, ckT (dec2 hj), (e' M).1, bdoN], by rw [(e M).2, bdS, if_neg (by decide), (e' M).2, bdS, if_pos rfl], Or.inr (FS_r M)⟩
  obtain ⟨hl, -, ⟨z, hz, hz1, hz2⟩, hit⟩ := hI.2.2.1 s hs
  simp only [fun M => (e M).1, fun M => (e M).2, fun M => (e' M).1, fun M => (e' M).2, bdoS, bdS, i10, if_false, ckT (dec2 hj), ckT (dec4 hs), ckN hs (show s < 2147483648 by omega), ncl (show s < 2147483648 by omega)]
  rcases rg x3 0 2 0 2 rfl rfl (by omega) (by omega) with ⟨h, e2⟩ | ⟨h, -, h', e2⟩ | ⟨w, -, hw, rfl, h, -, h', e2⟩
  · exact ⟨-2, M, M, by rw [if_pos h], by rw [e2, bdS, if_pos rfl], Or.inr (FS_r M)⟩
  · exact ⟨-2, M, M, by rw [if_neg h, if_neg h'], by rw [e2, bdS, if_pos rfl], Or.inr (FS_r M)⟩
  simp only [if_neg h, if_pos h', e2, bdS, i10, if_false]
  rcases hl with ⟨l1, l2⟩ | ⟨l1, l2⟩
  rotate_left
  · rw [if_neg (by rw [l1]; decide), find_ok, bdS]
    refine ⟨_, _, fnd M 1, rfl, ?_, Or.inl rfl⟩
    rw [show (sv M 7 1).2 37 = M.2 37 from rfl, l2, if_pos rfl, meets_ok, bdS]
    rfl
  rw [if_pos l1]
  unfold F_X6_isOrder
  rw [hon5 hC, bdS]
  have key := fun (Mm : Mem) (f : FS M Mm) => ord_l (n := n) (kp := kp) hs hz (M.2 (18 + s)) hn z 0 fu fu (hon n kp) 0 M Mm (Mm.2 33) (by omega) (by unfold fu; omega) (by unfold fu; omega) (by omega) hC.1.2.1 hz1 rfl (fun k hk => by rw [hon_b hn kp hk, b_0, Bool.not_false, Bool.and_true]) (by
    have : ∀ k, cnt (bt 0) k = 0 := by
      intro k
      induction k with
      | zero => rfl
      | succ k ih => rw [cnt_s, ih, b_0, if_neg (by decide)]
    exact this n) ((f.1 40 (by omega) (by omega)).trans hC.2.1.1) ((f.1 41 (by omega) (by omega)).trans hC.2.2.1.2.1) (by rw [f.2 39 (by omega) (by omega) (by omega) (by omega)]; exact hz2) (by rw [f.2 40 (by omega) (by omega) (by omega) (by omega)]; exact hit) (fun _ => 0) (fun k hk => absurd hk (by omega))
  rcases key M (FS_r M) with ⟨g1, g2⟩ | ⟨g0, g1, od, O, g2, g3⟩
  · obtain ⟨O', g3⟩ := g2 (nI j) (nI w)
    rw [sr_self] at g3
    refine ⟨-3, M, sr M 33 O', ?_, ?_, Or.inr (FS_sr O' (by omega))⟩
    · rw [show (0 : Int32) = nI 0 from rfl, g1, bdS, if_pos (show (0 : Int32) = nI 0 from rfl)]
    · rw [l2, if_neg (by decide)]
      exact g3
  · obtain ⟨k1, k2, -⟩ := hC.2.2.2.1 j hj
    have f1 := FS_h3 M (hf kd gp ab (L j) ps n od z)
    rcases key (h3 M (hf kd gp ab (L j) ps n od z)) f1 with ⟨g1', -⟩ | ⟨-, -, od', O', g4, g5⟩
    · rw [g1] at g1'; cases g1'
    rw [sr_self] at g5
    have hodd : ∀ k, k < z → od' k = od k := by
      intro k hk
      have h1 := (g2 k hk).2.1
      have h2 := (g4 k hk).2.1
      have h3 := (g2 k hk).1
      have h4 := (g4 k hk).1
      rw [h1, neq (by omega) (by omega)] at h2
      exact h2.symm
    obtain ⟨X, hX⟩ : ∃ X, X = h3 M (hf kd gp ab (L j) ps n od z) := ⟨_, rfl⟩
    rw [← hX] at f1 g5
    have f2 : FS X (sv (sr X 33 O') 43 (nI z)) := FS_t (FS_sr O' (by omega)) (FS_sv _ (by omega))
    have hCX := Cx_FS hC f1
    obtain ⟨rr, er⟩ := (hCX.2.2.2.1 j hj).2.2 _ f2.q
    have f3 := FS_t f2 (FS_rl (sv (sr X 33 O') 43 (nI z)) j rr (L j))
    have f4 := FS_t f3 (FS_lp _)
    have hC4 := Cx_FS hCX f4
    have eh := hears_ok (od := od) (q := z) (hC4.mx rfl) hj (show LY (lp (rl (sv (sr X 33 O') 43 (nI z)) j rr (L j))) j (L j) from fun w hw => rl_told (r := rr) hw) k2 g0 rfl (fun k hk => ⟨(g2 k hk).1, by rw [← hodd k hk]; exact (g4 k hk).2.2⟩)
    refine ⟨if w = 0 then (hf kd gp ab (L j) ps n od z).1 else if w = 1 then (hf kd gp ab (L j) ps n od z).2.1 else (hf kd gp ab (L j) ps n od z).2.2, X, _, ?_, ?_, Or.inr (FS_t f1 (FS_t f4 (FS_h4 _ (hf kd gp ab (L j) ps n od z))))⟩
    · rw [show (0 : Int32) = nI 0 from rfl, g1, bdS, if_neg (by decide)]
      unfold F_X1_begin
      rw [bdvS]
      have := or72 hC.1 k1 k2 hs g0 hz1 (fun k hk => ⟨(g2 k hk).1, (g2 k hk).2.1⟩) (nI w) z 0 fu (by omega) (by unfold fu; omega)
      refine Eq.trans this ?_
      rw [outcome_ok (by omega) _ _ rfl rfl rfl, bdS, hX]
    · rw [f1.2 37 (by omega) (by omega) (by omega) (by omega), l2, if_neg (by decide)]
      refine Eq.trans (g5 (nI j) (nI w)) ?_
      rw [er, bdvS, hCX.2.2.2.2 _ f3.q, bdvS, eh, bdvS, tells_ok (by omega) _ _ rfl rfl rfl, bdS]
