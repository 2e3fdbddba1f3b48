/-! road, word -/
def up2 (rd : Nat → Nat) (i j v : Nat) : Nat → Nat := fun k => if k = j then v else if k = i then v else rd k
theorem op0 (M : Mem) (hI : IW M) (x1 x2 x3 : Int32) : ∃ (r : Int32) (M1 M2 : Mem), F_X6_road x1 x2 x3 M = some (r, M1) ∧ F_X7_road x1 x2 x3 M1 = some (r, M2) ∧ ((M1 = M ∧ M2 = M) ∨ (IW M2 ∧ ∃ r0 r1 p f g r22, M2 = sr (st3 (sr (sr M 0 r0) 1 r1) p f g) 22 r22)) := by
  obtain ⟨n, kd, gp, tn, hr, ab, rd, hI⟩ := hI
  unfold F_X6_road F_X7_road
  rcases town_c x1 with h | ⟨a, ha, rfl, h⟩
  · exact ⟨-2, M, M, by rw [(h M).1, bdS, if_pos rfl], by rw [(h M).2, bdS, if_pos rfl], Or.inl ⟨rfl, rfl⟩⟩
  rcases town_c x2 with h' | ⟨b, hb, rfl, h'⟩
  · exact ⟨-2, M, M, by simp only [(h M).1, (h' M).1, bdS, i10, if_false, reduceIte], by simp only [(h M).2, (h' M).2, bdS, i10, if_false, reduceIte], Or.inl ⟨rfl, rfl⟩⟩
  by_cases hab : a = b
  · subst hab
    exact ⟨-2, M, M, by simp only [(h M).1, bdS, i10, if_false, reduceIte], by simp only [(h M).2, bdS, i10, if_false, reduceIte], Or.inl ⟨rfl, rfl⟩⟩
  have hne : ¬ nI a = nI b := by rw [neq (by omega) (by omega)]; exact hab
  rcases arg3 x3 99 (by omega) with h3 | h3 | ⟨v, hv, rfl⟩
  · exact ⟨-2, M, M, by simp only [(h M).1, (h' M).1, bdS, i10, if_false, hne, h3, if_true], by simp only [(h M).2, (h' M).2, bdS, i10, if_false, hne, in_lo h3, reduceIte], Or.inl ⟨rfl, rfl⟩⟩
  · exact ⟨-2, M, M, by simp only [(h M).1, (h' M).1, bdS, i10, if_false, hne, h3.1, show ¬ x3 ≤ 99 from h3.2.2.2.2.1], by simp only [(h M).2, (h' M).2, bdS, i10, if_false, hne, in_hi (b := 99) h3.1 h3.2.2.1, reduceIte], Or.inl ⟨rfl, rfl⟩⟩
  have hv0 : ¬ nI v < 0 := nI_pos (by omega)
  have hv9 : nI v ≤ 99 := by rw [nlit 99, nle (by omega) (by omega)]; omega
  simp only [fun M => (h M).1, fun M => (h M).2, fun M => (h' M).1, fun M => (h' M).2, bdS, i10, if_false, hne, hv0, if_pos hv9]
  unfold F_X3_build
  simp (disch := omega) only [nlit 6, pk_mul, nI_add, ckN, ncl, sa_sr, sr_2, sr_sr, reduceIte, seek_ok, bdvS, bdS, sr_1]
  obtain ⟨r0, er0⟩ : ∃ r0, r0 = upd (upd (M.2 0) (a * 6 + b) (nI v)) (b * 6 + a) (nI v) := ⟨_, rfl⟩
  rw [← er0]
  have hr0 : ∀ k, k < 36 → r0 k = nI (up2 rd (a * 6 + b) (b * 6 + a) v k) := by
    intro k hk
    rw [er0]
    unfold up2
    by_cases e1 : k = b * 6 + a
    · rw [if_pos e1, e1, upd_s]
    · rw [upd_n e1, if_neg e1]
      by_cases e2 : k = a * 6 + b
      · rw [if_pos e2, e2, upd_s]
      · rw [upd_n e2, if_neg e2, (hI.2.1.1 k hk).1]
  have hW' : WC (sr (sr M 0 r0) 1 (fw r0 (M.2 1))) n kd gp tn hr ab := hI.1.c
  obtain ⟨p, f, g, ew, hPW⟩ := weigh_ok hW' (w := fw r0 (fun _ => 0)) (fun k hk => fw_cong r0 (M.2 1) (fun _ => 0) k hk)
  rw [show (if (1 : Nat) = 0 then r0 else M.2 1) = M.2 1 from rfl]
  rw [ew, bdvS]
  have hin : F_X7_in (nI v) 0 99 (st3 (sr (sr M 0 r0) 1 (fw r0 (M.2 1))) p f g) = some (1, st3 (sr (sr M 0 r0) 1 (fw r0 (M.2 1))) p f g) := in_ok hv0 (by rw [nlit 99, nlt (by omega) (by omega)]; omega)
  refine ⟨_, _, sr (st3 (sr (sr M 0 r0) 1 (fw r0 (M.2 1))) p f g) 22 (upd (upd (M.2 22) (6 * a + b) (nI v)) (6 * b + a) (nI v)), rfl, ?_, Or.inr ⟨⟨n, kd, gp, tn, hr, ab, up2 rd (a * 6 + b) (b * 6 + a) v, hI.1, ⟨fun k hk => ⟨hr0 k hk, ?_, ?_⟩, fun c d hc hd => ?_⟩, fun k hk => fw_cong r0 (M.2 1) (fun _ => 0) k hk, hPW, hI.2.2.2.2⟩, r0, _, p, f, g, _, rfl⟩⟩
  · simp only [hin, bdS, i10, if_false, hne]
    rw [show (st3 (sr (sr M 0 r0) 1 (fw r0 (M.2 1))) p f g).2 22 = M.2 22 from rfl]
    rw [(hI.2.1.1 (6 * a + b) (by omega)).2.1, (hI.2.1.1 (a * 6 + b) (by omega)).1, Nat.mul_comm 6 a]
  · show upd (upd (M.2 22) (6 * a + b) (nI v)) (6 * b + a) (nI v) k = _
    unfold up2
    rw [Nat.mul_comm 6 a, Nat.mul_comm 6 b]
    by_cases e1 : k = b * 6 + a
    · rw [if_pos e1, e1, upd_s]
    · rw [upd_n e1, if_neg e1]
      by_cases e2 : k = a * 6 + b
      · rw [if_pos e2, e2, upd_s]
      · rw [upd_n e2, if_neg e2, (hI.2.1.1 k hk).2.1]
  · unfold up2
    split
    · omega
    · split
      · omega
      · exact (hI.2.1.1 k hk).2.2
  · unfold up2
    have := hI.2.1.2 c d hc hd
    by_cases e1 : c * 6 + d = b * 6 + a
    · rw [if_pos e1, if_neg (by omega), if_pos (by omega)]
    · rw [if_neg e1]
      by_cases e2 : c * 6 + d = a * 6 + b
      · rw [if_pos e2, if_pos (by omega)]
      · rw [if_neg e2, if_neg (by omega), if_neg (by omega)]
        exact this
