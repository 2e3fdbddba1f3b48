/-! all calls -/
theorem FQ_r (M : Mem) : FQ M M := (FS_r M).q
theorem FQ_sv {M : Mem} {k : Nat} (x : Int32) (h : 2 < k ∧ k ≠ 40 ∧ k ≠ 41 ∧ (k < 10 ∨ 21 < k)) : FQ M (sv M k x) := ⟨⟨fun j hj => sv_o _ _ (by omega), sv_o _ _ (by omega), sv_o _ _ (by omega), fun _ _ => rfl, fun _ _ _ _ => rfl⟩, ⟨fun j h1 h2 => sv_o _ _ (by omega), rfl, rfl, rfl, rfl⟩⟩
theorem FQ_sr {M : Mem} {a : Nat} (f : Nat → Int32) (h : 13 < a ∧ (a < 22 ∨ 30 < a ∨ a = 23)) : FQ M (sr M a f) := ⟨EW_sr f (by omega) (by omega), EL_sr f (by omega)⟩
theorem Inv_q {M M2 : Mem} (hI : Inv M) (q : FQ M M2) (hS : IS M2) (h7 : M2.1 7 = M2.1 48) : Inv M2 := ⟨IW_E hI.1 q.1, IL_E hI.2.1 q.2, hS, h7⟩
theorem Inv_fnd {M : Mem} (hI : Inv M) (x : Int32) : Inv (fnd M x) := Inv_q hI (FQ_t (FQ_sv x (by omega)) (FQ_sv x (by omega))) (IS_fnd x hI.2.2.1) rfl
theorem Inv_w {M M2 : Mem} (hI : Inv M) (hW : IW M2) (eL : EL M M2) (eS : ES M M2) (e7 : M2.1 7 = M.1 7) (e48 : M2.1 48 = M.1 48) : Inv M2 := ⟨hW, IL_E hI.2.1 eL, IS_E hI.2.2.1 eS, by rw [e7, e48]; exact hI.2.2.2⟩
theorem Inv_CM {M M1 M2 : Mem} (hI : Inv M) (hW : IW M2) (fc : FC M M1) (fm : FM M1 M2) : Inv M2 := by
  have hv : ∀ k, k ≠ 0 → k ≠ 2 → k ≠ 40 → M2.1 k = M.1 k := fun k h0 h2 h4 => (fm.1 k h4).trans (fc.1 k h0 h2)
  have ha : ∀ a, (a < 2 ∨ 10 < a) → (a < 24 ∨ 28 < a) → M2.2 a = M.2 a := fun a h1 h2 => (fm.2 a h2).trans (fc.2 a h1)
  exact Inv_w hI hW ⟨fun k h1 h2 => hv k (by omega) (by omega) (by omega), ha 12 (by omega) (by omega), ha 13 (by omega) (by omega), ha 29 (by omega) (by omega), ha 30 (by omega) (by omega)⟩ ⟨fun k h1 h2 => hv k (by omega) (by omega) (by omega), fun a h1 h2 => ha a (by omega) (by omega), fun a h1 h2 => ha a (by omega) (by omega)⟩ (hv 7 (by omega) (by omega) (by omega)) (hv 48 (by omega) (by omega) (by omega))
theorem Inv_FT {M M2 : Mem} (hI : Inv M) (hL : IL M2) (f : FT M M2) : Inv M2 := by
  refine ⟨IW_E hI.1 ⟨fun k _ => f.1 k (by omega), f.1 40 (by omega), f.1 41 (by omega), fun a _ => f.2 a (by omega) (by omega) (by omega), fun a _ _ _ => f.2 a (by omega) (by omega) (by omega)⟩, hL, IS_E hI.2.2.1 ⟨fun k _ _ => f.1 k (by omega), fun a _ _ => f.2 a (by omega) (by omega) (by omega), fun a _ _ => f.2 a (by omega) (by omega) (by omega)⟩, ?_⟩
  rw [f.1 7 (by omega), f.1 48 (by omega)]
  exact hI.2.2.2
theorem Inv_0 : ∀ M2, F_X3_seekQuickest Mz = some M2 → Inv (mC M2) := by
  intro M2 h
  rw [seek_ok] at h
  cases h
  refine ⟨⟨0, fun _ => 0, fun _ => 0, fun _ => 0, fun _ => 0, fun _ => 0, fun _ => 0, ⟨by omega, rfl, rfl, fun i hi => absurd hi (by omega)⟩, ⟨fun k hk => ⟨rfl, rfl, Nat.succ_pos 99⟩, fun _ _ _ _ => rfl⟩, fun k hk => rfl, ⟨fun j hj => ?_, fun a ha j hj => ?_, fun a ha j hj => ?_⟩, fun i hi => absurd hi (by omega), fun i hi j hj => ?_, rfl, fun i hi _ => ?_⟩, fun j hj => ?_, fun s hs => ?_, rfl⟩
  · show bt 0 j = _
    rw [b_0]; rfl
  · show bt 0 j = _
    rw [b_0]; rfl
  · show bt 0 j = _
    rw [b_0]; rfl
  · show bt 0 j = _
    rw [b_0]; rfl
  · show bt 0 i = _
    rw [b_0]
  · rcases (show j = 0 ∨ j = 1 by omega) with rfl | rfl
    · refine ⟨0, fun _ => 0, -1, by omega, ⟨rfl, fun k hk => absurd hk (by omega)⟩, ⟨rfl, fun k hk => absurd hk (by omega)⟩, Or.inr ⟨fun k hk => absurd hk (by omega), rfl⟩, rfl, fun w hw => ?_⟩
      rcases (show w = 0 ∨ w = 1 ∨ w = 2 ∨ w = 3 by omega) with rfl | rfl | rfl | rfl <;> rfl
    · refine ⟨0, fun _ => 0, -1, by omega, ⟨rfl, fun k hk => absurd hk (by omega)⟩, ⟨rfl, fun k hk => absurd hk (by omega)⟩, Or.inr ⟨fun k hk => absurd hk (by omega), rfl⟩, rfl, fun w hw => ?_⟩
      rcases (show w = 0 ∨ w = 1 ∨ w = 2 ∨ w = 3 by omega) with rfl | rfl | rfl | rfl <;> rfl
  · rcases (show s = 0 ∨ s = 1 ∨ s = 2 ∨ s = 3 by omega) with rfl | rfl | rfl | rfl
    · exact ⟨Or.inr ⟨rfl, rfl⟩, ⟨0, by omega, rfl, rfl⟩, ⟨0, by omega, rfl, rfl⟩, fun i hi => rfl⟩
    · exact ⟨Or.inr ⟨rfl, rfl⟩, ⟨0, by omega, rfl, rfl⟩, ⟨0, by omega, rfl, rfl⟩, fun i hi => rfl⟩
    · exact ⟨Or.inr ⟨rfl, rfl⟩, ⟨0, by omega, rfl, rfl⟩, ⟨0, by omega, rfl, rfl⟩, fun i hi => rfl⟩
    · exact ⟨Or.inr ⟨rfl, rfl⟩, ⟨0, by omega, rfl, rfl⟩, ⟨0, by omega, rfl, rfl⟩, fun i hi => rfl⟩
theorem step0 (a1 a2 a3 a4 a5 : Int32) (M : Mem) (hI : Inv M) : ∃ M2, Inv M2 ∧ RunOp 0 a1 a2 a3 a4 a5 M M2 := by
  obtain ⟨r, M1, M2, e1, e2, h⟩ := op0 M hI.1 a1 a2 a3
  refine ⟨M2, ?_, r, M1, e1, e2⟩
  rcases h with ⟨-, rfl⟩ | ⟨hW, r0, r1, p, f, g, r22, rfl⟩
  · exact hI
  · exact Inv_w hI hW ⟨fun k h1 h2 => sv_o _ _ (by omega), rfl, rfl, rfl, rfl⟩ ⟨fun k h1 h2 => sv_o _ _ (by omega), fun a h1 h2 => by
      unfold st3
      rw [sr_o _ _ (by omega), sr_o _ _ (by omega), sr_o _ _ (by omega), sv_2, sr_o _ _ (by omega), sr_o _ _ (by omega)], fun a h1 h2 => by
      unfold st3
      rw [sr_o _ _ (by omega), sr_o _ _ (by omega), sr_o _ _ (by omega), sv_2, sr_o _ _ (by omega), sr_o _ _ (by omega)]⟩ rfl rfl
theorem step25 (a1 a2 a3 a4 a5 : Int32) (M : Mem) (hI : Inv M) : ∃ M2, Inv M2 ∧ RunOp 25 a1 a2 a3 a4 a5 M M2 := by
  obtain ⟨r, M1, M2, e1, e2, h⟩ := op25 M hI.2.2.1 a1 a2 a3
  refine ⟨M2, ?_, r, M1, e1, e2⟩
  rcases h with ⟨-, rfl⟩ | rfl | ⟨s, f, z, hs, hf, hz, rfl⟩
  · exact hI
  · exact Inv_fnd hI 5
  · refine Inv_q hI (FQ_t (FQ_sr _ (by omega)) (FQ_t (FQ_sv _ (by omega)) (FQ_t (FQ_sv _ (by omega)) (FQ_t (FQ_sv _ (by omega)) (FQ_t (FQ_sr _ (by omega)) (FQ_t (FQ_sr _ (by omega)) (FQ_t (FQ_sr _ (by omega)) (FQ_sr _ (by omega))))))))) (IS_25 hI.2.2.1 hs hf hz) ?_
    show (sv (sv (sv (sr M (18 + s) (fun k => if k < 40 then 0 else M.2 (18 + s) k)) (22 + 3 * s) 0) (22 + 3 * s + 1) (nI f)) (22 + 3 * s + 2) (nI z)).1 7 = (sv (sv (sv (sr M (18 + s) (fun k => if k < 40 then 0 else M.2 (18 + s) k)) (22 + 3 * s) 0) (22 + 3 * s + 1) (nI f)) (22 + 3 * s + 2) (nI z)).1 48
    rw [sv_o _ _ (by omega), sv_o _ _ (by omega), sv_o _ _ (by omega), sv_o _ _ (by omega), sv_o _ _ (by omega), sv_o _ _ (by omega), sr_1]
    exact hI.2.2.2
theorem step26 (a1 a2 a3 a4 a5 : Int32) (M : Mem) (hI : Inv M) : ∃ M2, Inv M2 ∧ RunOp 26 a1 a2 a3 a4 a5 M M2 := by
  obtain ⟨r, M1, M2, e1, e2, h⟩ := op26 M hI.2.2.1 a1
  refine ⟨M2, ?_, r, M1, e1, e2⟩
  rcases h with ⟨-, rfl⟩ | rfl | ⟨s, hs, rfl⟩
  · exact hI
  · exact Inv_fnd hI 1
  · refine Inv_q hI (FQ_t (FQ_sv _ (by omega)) (FQ_sr _ (by omega))) (IS_26 hI.2.2.1 hs) ?_
    rw [sr_1, sv_o _ _ (by omega), sv_o _ _ (by omega)]
    exact hI.2.2.2
theorem step27 (a1 a2 a3 a4 a5 : Int32) (M : Mem) (hI : Inv M) : ∃ M2, Inv M2 ∧ RunOp 27 a1 a2 a3 a4 a5 M M2 := by
  obtain ⟨r, M1, M2, e1, e2, h⟩ := op27 M hI.2.2.1 a1 a2 a3 a4
  refine ⟨M2, ?_, r, M1, e1, e2⟩
  rcases h with ⟨-, rfl⟩ | ⟨k, hk, rfl⟩ | ⟨s, i, v, hs, hi, rfl⟩
  · exact hI
  · exact Inv_fnd hI _
  · exact Inv_q hI (FQ_t (FQ_sr _ (by omega)) (FQ_sr _ (by omega))) (IS_put hI.2.2.1 hs hi v) hI.2.2.2
theorem step28 (a1 a2 a3 a4 a5 : Int32) (M : Mem) (hI : Inv M) : ∃ M2, Inv M2 ∧ RunOp 28 a1 a2 a3 a4 a5 M M2 := by
  obtain ⟨r, M1, M2, e1, e2, h⟩ := op28 M hI.2.2.1 a1 a2 a3
  refine ⟨M2, ?_, r, M1, e1, e2⟩
  rcases h with ⟨-, rfl⟩ | ⟨k, hk, rfl⟩
  · exact hI
  · exact Inv_fnd hI _
theorem step29 (a1 a2 a3 a4 a5 : Int32) (M : Mem) (hI : Inv M) : ∃ M2, Inv M2 ∧ RunOp 29 a1 a2 a3 a4 a5 M M2 := by
  obtain ⟨r, M1, M2, e1, e2, h⟩ := op29 M hI.2.2.1 a1 a2 a3 a4 a5
  refine ⟨M2, ?_, r, M1, e1, e2⟩
  rcases h with ⟨-, rfl⟩ | ⟨k, hk, rfl⟩ | ⟨s, t, a, b, n, f, hs, ht, ha, hb, rfl⟩
  · exact hI
  · exact Inv_fnd hI _
  · exact Inv_q hI (FQ_t (FQ_sr _ (by omega)) (FQ_t (FQ_sr _ (by omega)) (FQ_sr _ (by omega)))) (IS_29 hI.2.2.1 f hs ht ha hb) hI.2.2.2
theorem stepFS {M : Mem} (hI : Inv M) {P : Mem → Prop} (h : ∃ M2, FS M M2 ∧ P M2) : ∃ M2, Inv M2 ∧ P M2 := by
  obtain ⟨M2, f, p⟩ := h
  exact ⟨M2, Inv_FS hI f, p⟩
theorem runFS {α : Type} {M : Mem} {f g : Mem → Option (α × Mem)} (h : ∃ (r : α) (M1 M2 : Mem), f M = some (r, M1) ∧ g M1 = some (r, M2) ∧ FS M M2) : ∃ M2, FS M M2 ∧ ∃ (r : α) (M1 : Mem), f M = some (r, M1) ∧ g M1 = some (r, M2) := by
  obtain ⟨r, M1, M2, e1, e2, f⟩ := h
  exact ⟨M2, f, r, M1, e1, e2⟩
theorem runFS1 {α : Type} {M : Mem} {f g : Mem → Option (α × Mem)} (h : ∃ (r : α) (M2 : Mem), f M = some (r, M) ∧ g M = some (r, M2) ∧ FS M M2) : ∃ M2, FS M M2 ∧ ∃ (r : α) (M1 : Mem), f M = some (r, M1) ∧ g M1 = some (r, M2) := by
  obtain ⟨r, M2, e1, e2, f⟩ := h
  exact ⟨M2, f, r, M, e1, e2⟩
theorem step1 (a1 a2 a3 a4 a5 : Int32) (M : Mem) (hI : Inv M) : ∃ M2, Inv M2 ∧ RunOp 1 a1 a2 a3 a4 a5 M M2 := by
  obtain ⟨r, M2, e1, e2, h⟩ := op1 M hI.1 a1 a2
  refine ⟨M2, ?_, r, M, e1, e2⟩
  rcases h with rfl | rfl
  · exact hI
  · exact Inv_FS hI (FS_sr _ (by omega))
theorem step2 (a1 a2 a3 a4 a5 : Int32) (M : Mem) (hI : Inv M) : ∃ M2, Inv M2 ∧ RunOp 2 a1 a2 a3 a4 a5 M M2 := by
  obtain ⟨r, M1, M2, e1, e2, hW, fc, fm⟩ := op2 M hI.1 a1 a2 a3 a4 a5
  exact ⟨M2, Inv_CM hI hW fc fm, r, M1, e1, e2⟩
theorem step3 (a1 a2 a3 a4 a5 : Int32) (M : Mem) (hI : Inv M) : ∃ M2, Inv M2 ∧ RunOp 3 a1 a2 a3 a4 a5 M M2 := by
  obtain ⟨r, M1, M2, e1, e2, h⟩ := op3 M hI.1 hI.2.2.1 a1
  refine ⟨M2, ?_, r, M1, e1, e2⟩
  rcases h with rfl | ⟨hW, fc, fm⟩
  · exact Inv_fnd hI 1
  · exact Inv_CM hI hW fc fm
theorem step4 (a1 a2 a3 a4 a5 : Int32) (M : Mem) (hI : Inv M) : ∃ M2, Inv M2 ∧ RunOp 4 a1 a2 a3 a4 a5 M M2 := by
  obtain ⟨r, M2, e1, e2, h⟩ := op4 M hI.1 a1 a2
  refine ⟨M2, ?_, r, M, e1, e2⟩
  rcases h with rfl | rfl
  · exact hI
  · exact Inv_FS hI (FS_lp M)
theorem step5 (a1 a2 a3 a4 a5 : Int32) (M : Mem) (hI : Inv M) : ∃ M2, Inv M2 ∧ RunOp 5 a1 a2 a3 a4 a5 M M2 := by
  obtain ⟨r, M1, M2, e1, e2, h⟩ := op5 M hI.1 a1
  refine ⟨M2, ?_, r, M1, e1, e2⟩
  rcases h with ⟨-, rfl⟩ | ⟨rfl, hW⟩
  · exact hI
  · exact Inv_w hI hW ⟨fun k h1 h2 => (sv_o _ _ (by omega)).trans (sv_o _ _ (by omega)), rfl, rfl, rfl, rfl⟩ ⟨fun k h1 h2 => (sv_o _ _ (by omega)).trans (sv_o _ _ (by omega)), fun _ _ _ => rfl, fun _ _ _ => rfl⟩ rfl rfl
theorem step6 (a1 a2 a3 a4 a5 : Int32) (M : Mem) (hI : Inv M) : ∃ M2, Inv M2 ∧ RunOp 6 a1 a2 a3 a4 a5 M M2 := by
  obtain ⟨r, M1, M2, e1, e2, hL, f⟩ := op6 M hI.2.1 a1 a2
  exact ⟨M2, Inv_FT hI hL f, r, M1, e1, e2⟩
theorem step7 (a1 a2 a3 a4 a5 : Int32) (M : Mem) (hI : Inv M) : ∃ M2, Inv M2 ∧ RunOp 7 a1 a2 a3 a4 a5 M M2 := by
  obtain ⟨r, M1, M2, e1, e2, hL, f⟩ := op7 M hI.2.1 a1
  exact ⟨M2, Inv_FT hI hL f, r, M1, e1, e2⟩
theorem step11 (a1 a2 a3 a4 a5 : Int32) (M : Mem) (hI : Inv M) : ∃ M2, Inv M2 ∧ RunOp 11 a1 a2 a3 a4 a5 M M2 := by
  obtain ⟨r, M1, M2, e1, e2, h⟩ := op11 M hI a1 a2 a3
  refine ⟨M2, ?_, r, M1, e1, e2⟩
  rcases h with rfl | f
  · exact Inv_fnd hI 1
  · exact Inv_FS hI f
theorem step30 (a1 a2 a3 a4 a5 : Int32) (M : Mem) (hI : Inv M) : ∃ M2, Inv M2 ∧ RunOp 30 a1 a2 a3 a4 a5 M M2 := by
  obtain ⟨r, M1, M2, e1, e2, h⟩ := op30 M hI a1
  refine ⟨M2, ?_, r, M1, e1, e2⟩
  rcases h with rfl | f
  · exact Inv_fnd hI 1
  · exact f
theorem pure_all : ∃ (I : Mem → Prop) (M2 : Mem), F_X3_seekQuickest Mz = some M2 ∧ I (mC M2) ∧ ∀ (k : Nat) (a1 a2 a3 a4 a5 : Int32) (M : Mem), I M → ∃ M2, I M2 ∧ RunOp k a1 a2 a3 a4 a5 M M2 := by
  refine ⟨Inv, _, seek_ok Mz, Inv_0 _ (seek_ok Mz), fun k a1 a2 a3 a4 a5 M hI => ?_⟩
  match k with
  | 0 => exact step0 a1 a2 a3 a4 a5 M hI
  | 1 => exact step1 a1 a2 a3 a4 a5 M hI
  | 2 => exact step2 a1 a2 a3 a4 a5 M hI
  | 3 => exact step3 a1 a2 a3 a4 a5 M hI
  | 4 => exact step4 a1 a2 a3 a4 a5 M hI
  | 5 => exact step5 a1 a2 a3 a4 a5 M hI
  | 6 => exact step6 a1 a2 a3 a4 a5 M hI
  | 7 => exact step7 a1 a2 a3 a4 a5 M hI
  | 8 => exact stepFS hI (runFS1 (op8 M hI.2.1 a1))
  | 9 => exact stepFS hI (runFS1 (op9 M hI.2.1 a1 a2))
  | 10 => exact stepFS hI (runFS (op10 M hI a1 a2))
  | 11 => exact step11 a1 a2 a3 a4 a5 M hI
  | 12 => exact stepFS hI (runFS (op12 M hI a1 a2))
  | 13 => exact stepFS hI (runFS (op13 M hI a1 a2))
  | 14 => exact stepFS hI (runFS (ans14 M hI a1 a2 a3).run)
  | 15 => exact stepFS hI (runFS (ans15 M hI a1 a2).run)
  | 16 => exact stepFS hI (runFS (ans16 M hI a1).run)
  | 17 => exact stepFS hI (runFS (ans17 M hI a1 a2).run)
  | 18 => exact stepFS hI (runFS (ans18 M hI a1 a2).run)
  | 19 => exact stepFS hI (runFS (ans19 M hI).run)
  | 20 => exact stepFS hI (runFS (op20 M hI a1))
  | 21 => exact stepFS hI (runFS (op21 M hI a1))
  | 22 => exact stepFS hI (runFS (op22 M hI))
  | 23 => exact stepFS hI (runFS (op23 M hI a1 a2))
  | 24 => exact stepFS hI (runFS (op24 M hI))
  | 25 => exact step25 a1 a2 a3 a4 a5 M hI
  | 26 => exact step26 a1 a2 a3 a4 a5 M hI
  | 27 => exact step27 a1 a2 a3 a4 a5 M hI
  | 28 => exact step28 a1 a2 a3 a4 a5 M hI
  | 29 => exact step29 a1 a2 a3 a4 a5 M hI
  | 30 => exact step30 a1 a2 a3 a4 a5 M hI
  | 31 => exact stepFS hI (runFS (cnt_ans M hI a1).run)
  | 32 => exact stepFS hI (runFS (op32 M hI))
  | k + 33 => exact ⟨M, hI, rfl⟩
