section
variable {p : Program} {l : Launch} {e : Env} {s : State} {m : MethodId} {args : Array Value} {below : List Frame} {meth : Method} {c : Code} {G : GT}
def F_X7_sheet_59 : Nat → Int32 → Int32 → Int32 → Mem → Option (Int32 × Mem)
  | 0, _, _, _, _ => none
  | n + 1, x1, x3, x4, M => if 40 ≤ x4 then some (x3, M) else ckb (ix ((40 * x1) + x4) 160) (F_X7_sheet_59 n x1 x3 (x4 + 1) (sa M 40 ((40 * x1) + x4).toNatClampNeg 0))
def F_X7_sheet (x1 : Int32) (x2 : Int32) (x3 : Int32) (M : Mem) : Option (Int32 × Mem) := bd (F_X7_isSheet x1 M) (fun r1 M1 => if r1 = 0 then some ((-2), M1) else bd (F_X7_in x2 0 2 M1) (fun r10 M10 => if r10 = 0 then some ((-2), M10) else if x3 ≤ 40 then if 0 ≤ x3 then ckb (ix x1 4) (ckb (ix x1 4) (ckb (ix x1 4) (F_X7_sheet_59 fu x1 x3 0 (sa (sa (sa M10 37 x1.toNatClampNeg (vp_nar .boolean 1)) 38 x1.toNatClampNeg x2) 39 x1.toNatClampNeg x3)))) else bd (F_X7_meets 5 M10) (fun r31 M31 => some (r31, M31)) else some ((-2), M10)))
set_option maxHeartbeats 4000000 in
set_option maxRecDepth 100000 in
theorem b_X7_sheet_59 {M0 : Mem} {r0 : Int32} (hC : SX p m c s args cX7_sheet 5 RX7 G (AG G)) (hr : meth.sig.returnType = (some .int)) (hlk : meth.locks = false) (hn : ∀ i ∈ LsF, i ∈ gL G) : ∀ (n : Nat) (x1 : Int32) (x3 : Int32) (x4 : Int32) (M : Mem) (H : Heap) (locs : List Loc) (ls : Array Slot), F_X7_sheet_59 n x1 x3 x4 M = some (r0, M0) → ST G (AG G) s M H locs → lv_has ls 5 [(0, .ref (G.1 61)), (1, .int x1), (3, .int x3), (4, .int x4)] → W p l e (RM 2 42) s m args below meth c H locs 0 0 (MQ below (QV G (some (.int r0)) M0) args s 0 0 (AG G)) (F0 m 59 ls []) := by
  obtain ⟨⟨hx, hb, hml, hown, hts⟩, hK, hG, hA⟩ := id hC
  intro n
  induction n with
  | zero =>
    intro x1 x3 x4 M H locs ls hF
    cases hF
  | succ n ih =>
    intro x1 x3 x4 M H locs ls hF hS hl
    unfold F_X7_sheet_59 at hF
    refine lv_iload hx hb dX7_sheet_59 (lv_at hl 3 rfl) ?_
    refine lv_bipush (v := 40) hx hb dX7_sheet_61 (by decide) ?_
    refine lv_icmp_ge (tgt := 85) hx hb dX7_sheet_63 (by decide) (fun hc => ?_) (fun hc => ?_)
    · rw [if_pos hc] at hF
      refine lv_iload_n hx hb dX7_sheet_85 rfl (lv_at hl 2 rfl) ?_
      exact retI hC hS hr hlk hF dX7_sheet_86
    · rw [if_neg hc] at hF
      refine lv_aload_n hx hb dX7_sheet_66 rfl (lv_at hl 0 rfl) ?_
      refine gx (ci := 7) (k := 26) (v := .ref (G.1 40)) (C := RX7) (T := TX7) (N := 29) hC hS (hn _ (by decide)) rfl rfl in_X7 (by decide) rfl rfl lf_X7_65 dX7_sheet_67 ?_
      refine lv_bipush (v := 40) hx hb dX7_sheet_70 (by decide) ?_
      refine lv_iload_n hx hb dX7_sheet_72 rfl (lv_at hl 1 rfl) ?_
      refine lv_imul hx hb dX7_sheet_73 ?_
      refine lv_iload hx hb dX7_sheet_74 (lv_at hl 3 rfl) ?_
      refine lv_iadd hx hb dX7_sheet_76 ?_
      refine lv_iconst (v := 0) hx hb dX7_sheet_77 (by decide) ?_
      obtain ⟨hi, hF⟩ := ckb_some hF
      refine ast hC hS (hn _ (by decide)) (by decide) rfl hi dX7_sheet_78 (fun H locs hS => ?_)
      refine lv_iinc (v := x4 + 1) (lv' := [(4, .int (x4 + 1)), (0, .ref (G.1 61)), (1, .int x1), (3, .int x3)]) hx hb dX7_sheet_79 hl (k := 3) rfl rfl (by decide) rfl (fun ls hl => ?_)
      refine lv_goto (tgt := 59) hx hb dX7_sheet_82 (by decide) ?_
      exact ih _ _ _ _ _ _ _ hF hS (lv_sub hl [1, 2, 3, 0] rfl)
set_option maxHeartbeats 4000000 in
set_option maxRecDepth 100000 in
theorem b_X7_sheet {M0 : Mem} {r0 : Int32} (hC : SX p m c s args cX7_sheet 5 RX7 G (AG G)) (hr : meth.sig.returnType = (some .int)) (hlk : meth.locks = false) (hn : ∀ i ∈ LsF, i ∈ gL G) : ∀ (x1 : Int32) (x2 : Int32) (x3 : Int32) (M : Mem) (H : Heap) (locs : List Loc) (ls : Array Slot), F_X7_sheet x1 x2 x3 M = some (r0, M0) → ST G (AG G) s M H locs → lv_has ls 5 [(0, .ref (G.1 61)), (1, .int x1), (2, .int x2), (3, .int x3)] → W p l e (RM 2 42) s m args below meth c H locs 0 0 (MQ below (QV G (some (.int r0)) M0) args s 0 0 (AG G)) (F0 m 0 ls []) := by
  obtain ⟨⟨hx, hb, hml, hown, hts⟩, hK, hG, hA⟩ := id hC
  intro x1 x2 x3 M H locs ls hF hS hl
  unfold F_X7_sheet at hF
  refine lv_iload_n hx hb dX7_sheet_0 rfl (lv_at hl 1 rfl) ?_
  obtain ⟨r1, M1, h1, hF⟩ := bd_some hF
  refine cS_ (As := [.int x1]) (v := some (.int r1)) (rest := []) (st1 := [.int r1]) hC hS (c_X7_isSheet l G hn x1 M _ _ h1) kS_X7_isSheet lm_X7_90 ⟨Nat.le_of_ble_eq_true rfl, Nat.le_of_ble_eq_true rfl⟩ rfl hl.1 (Nat.le_of_ble_eq_true rfl) dX7_sheet_1 ⟨Nat.le_refl _, Nat.le_refl _⟩ rfl (fun H locs hS => ?_)
  refine lv_if_eq (tgt := 22) hx hb dX7_sheet_4 (by decide) (fun hc => ?_) (fun hc => ?_)
  · rw [if_pos hc] at hF
    refine lv_bipush (v := (-2)) hx hb dX7_sheet_22 (by decide) ?_
    exact retI hC hS hr hlk hF dX7_sheet_24
  · rw [if_neg hc] at hF
    refine lv_iload_n hx hb dX7_sheet_7 rfl (lv_at hl 2 rfl) ?_
    refine lv_iconst (v := 0) hx hb dX7_sheet_8 (by decide) ?_
    refine lv_iconst (v := 2) hx hb dX7_sheet_9 (by decide) ?_
    obtain ⟨r10, M10, h10, hF⟩ := bd_some hF
    refine cS_ (As := [.int x2, .int 0, .int 2]) (v := some (.int r10)) (rest := []) (st1 := [.int r10]) hC hS (c_X7_in l G hn x2 0 2 M1 _ _ h10) kS_X7_in lm_X7_71 ⟨Nat.le_of_ble_eq_true rfl, Nat.le_of_ble_eq_true rfl⟩ rfl hl.1 (Nat.le_of_ble_eq_true rfl) dX7_sheet_10 ⟨Nat.le_refl _, Nat.le_refl _⟩ rfl (fun H locs hS => ?_)
    refine lv_if_eq (tgt := 22) hx hb dX7_sheet_13 (by decide) (fun hc => ?_) (fun hc => ?_)
    · rw [if_pos hc] at hF
      refine lv_bipush (v := (-2)) hx hb dX7_sheet_22 (by decide) ?_
      exact retI hC hS hr hlk hF dX7_sheet_24
    · rw [if_neg hc] at hF
      refine lv_iload_n hx hb dX7_sheet_16 rfl (lv_at hl 3 rfl) ?_
      refine lv_bipush (v := 40) hx hb dX7_sheet_17 (by decide) ?_
      refine lv_icmp_le (tgt := 25) hx hb dX7_sheet_19 (by decide) (fun hc => ?_) (fun hc => ?_)
      · rw [if_pos hc] at hF
        refine lv_iload_n hx hb dX7_sheet_25 rfl (lv_at hl 3 rfl) ?_
        refine lv_if_ge (tgt := 35) hx hb dX7_sheet_26 (by decide) (fun hc => ?_) (fun hc => ?_)
        · rw [if_pos hc] at hF
          refine lv_aload_n hx hb dX7_sheet_35 rfl (lv_at hl 0 rfl) ?_
          refine gx (ci := 7) (k := 23) (v := .ref (G.1 37)) (C := RX7) (T := TX7) (N := 29) hC hS (hn _ (by decide)) rfl rfl in_X7 (by decide) rfl rfl lf_X7_56 dX7_sheet_36 ?_
          refine lv_iload_n hx hb dX7_sheet_39 rfl (lv_at hl 1 rfl) ?_
          refine lv_iconst (v := 1) hx hb dX7_sheet_40 (by decide) ?_
          obtain ⟨hi, hF⟩ := ckb_some hF
          refine zst hC hS (hn _ (by decide)) (by decide) rfl hi dX7_sheet_41 (fun H locs hS => ?_)
          refine lv_aload_n hx hb dX7_sheet_42 rfl (lv_at hl 0 rfl) ?_
          refine gx (ci := 7) (k := 24) (v := .ref (G.1 38)) (C := RX7) (T := TX7) (N := 29) hC hS (hn _ (by decide)) rfl rfl in_X7 (by decide) rfl rfl lf_X7_59 dX7_sheet_43 ?_
          refine lv_iload_n hx hb dX7_sheet_46 rfl (lv_at hl 1 rfl) ?_
          refine lv_iload_n hx hb dX7_sheet_47 rfl (lv_at hl 2 rfl) ?_
          obtain ⟨hi, hF⟩ := ckb_some hF
          refine ast hC hS (hn _ (by decide)) (by decide) rfl hi dX7_sheet_48 (fun H locs hS => ?_)
          refine lv_aload_n hx hb dX7_sheet_49 rfl (lv_at hl 0 rfl) ?_
          refine gx (ci := 7) (k := 25) (v := .ref (G.1 39)) (C := RX7) (T := TX7) (N := 29) hC hS (hn _ (by decide)) rfl rfl in_X7 (by decide) rfl rfl lf_X7_62 dX7_sheet_50 ?_
          refine lv_iload_n hx hb dX7_sheet_53 rfl (lv_at hl 1 rfl) ?_
          refine lv_iload_n hx hb dX7_sheet_54 rfl (lv_at hl 3 rfl) ?_
          obtain ⟨hi, hF⟩ := ckb_some hF
          refine ast hC hS (hn _ (by decide)) (by decide) rfl hi dX7_sheet_55 (fun H locs hS => ?_)
          refine lv_iconst (v := 0) hx hb dX7_sheet_56 (by decide) ?_
          refine lv_istore (lv' := [(4, .int 0), (0, .ref (G.1 61)), (1, .int x1), (2, .int x2), (3, .int x3)]) hx hb dX7_sheet_57 hl (by decide) rfl (fun ls hl => ?_)
          exact b_X7_sheet_59 hC hr hlk hn fu _ _ _ _ _ _ _ hF hS (lv_sub hl [1, 2, 4, 0] rfl)
        · rw [if_neg hc] at hF
          refine lv_aload_n hx hb dX7_sheet_29 rfl (lv_at hl 0 rfl) ?_
          refine lv_iconst (v := 5) hx hb dX7_sheet_30 (by decide) ?_
          obtain ⟨r31, M31, h31, hF⟩ := bd_some hF
          refine cV_ (ci := 7) (i := 61) (C := RX7) (T := TX7) (N := 29) (As := [.int 5]) (v := some (.int r31)) (rest := []) (st1 := [.int r31]) hC hS (hn _ (by decide)) rfl rfl (c_X7_meets l G hn 5 M10 _ _ h31) kV_X7_meets lm_X7_93 ⟨Nat.le_of_ble_eq_true rfl, Nat.le_of_ble_eq_true rfl⟩ rfl hl.1 (Nat.le_of_ble_eq_true rfl) dX7_sheet_31 ⟨Nat.le_refl _, Nat.le_refl _⟩ rfl (fun H locs hS => ?_)
          exact retI hC hS hr hlk hF dX7_sheet_34
      · rw [if_neg hc] at hF
        refine lv_bipush (v := (-2)) hx hb dX7_sheet_22 (by decide) ?_
        exact retI hC hS hr hlk hF dX7_sheet_24
set_option maxRecDepth 100000 in
theorem c_X7_sheet (l : Launch) (G : GT) (hn : ∀ i ∈ LsF, i ∈ gL G) (x1 : Int32) (x2 : Int32) (x3 : Int32) (M : Mem) (r0 : Int32) (M0 : Mem) (hF : F_X7_sheet x1 x2 x3 M = some (r0, M0)) : MetG l G yX7_sheet cX7_sheet 5 (some .int) 2 42 [.ref (G.1 61), .int x1, .int x2, .int x3] M (some (.int r0)) M0 := by
  refine MetG.of (by decide) (Nat.le_of_ble_eq_true rfl) ?_
  intro p e s m args below meth c hC hr hlk hnm ls hS hl
  exact b_X7_sheet hC hr hlk hn _ _ _ _ _ _ _ hF hS hl
def F_X7_lose (x1 : Int32) (M : Mem) : Option (Int32 × Mem) := bd (F_X7_isSheet x1 M) (fun r1 M1 => if r1 = 0 then some ((-2), M1) else ckb (ix x1 4) (if (M1.2 37 x1.toNatClampNeg) = 0 then bd (F_X7_meets 1 M1) (fun r21 M21 => some (r21, M21)) else ckb (ix x1 4) (ckb (ix x1 4) (some ((sa M1 37 x1.toNatClampNeg (vp_nar .boolean 0)).2 39 x1.toNatClampNeg, sa M1 37 x1.toNatClampNeg (vp_nar .boolean 0))))))
set_option maxHeartbeats 4000000 in
set_option maxRecDepth 100000 in
theorem b_X7_lose {M0 : Mem} {r0 : Int32} (hC : SX p m c s args cX7_lose 2 RX7 G (AG G)) (hr : meth.sig.returnType = (some .int)) (hlk : meth.locks = false) (hn : ∀ i ∈ LsF, i ∈ gL G) : ∀ (x1 : Int32) (M : Mem) (H : Heap) (locs : List Loc) (ls : Array Slot), F_X7_lose x1 M = some (r0, M0) → ST G (AG G) s M H locs → lv_has ls 2 [(0, .ref (G.1 61)), (1, .int x1)] → W p l e (RM 2 42) s m args below meth c H locs 0 0 (MQ below (QV G (some (.int r0)) M0) args s 0 0 (AG G)) (F0 m 0 ls []) := by
  obtain ⟨⟨hx, hb, hml, hown, hts⟩, hK, hG, hA⟩ := id hC
  intro x1 M H locs ls hF hS hl
  unfold F_X7_lose at hF
  refine lv_iload_n hx hb dX7_lose_0 rfl (lv_at hl 1 rfl) ?_
  obtain ⟨r1, M1, h1, hF⟩ := bd_some hF
  refine cS_ (As := [.int x1]) (v := some (.int r1)) (rest := []) (st1 := [.int r1]) hC hS (c_X7_isSheet l G hn x1 M _ _ h1) kS_X7_isSheet lm_X7_90 ⟨Nat.le_of_ble_eq_true rfl, Nat.le_of_ble_eq_true rfl⟩ rfl hl.1 (Nat.le_of_ble_eq_true rfl) dX7_lose_1 ⟨Nat.le_refl _, Nat.le_refl _⟩ rfl (fun H locs hS => ?_)
  refine lv_if_ne (tgt := 10) hx hb dX7_lose_4 (by decide) (fun hc => ?_) (fun hc => ?_)
  · rw [if_neg hc] at hF
    refine lv_aload_n hx hb dX7_lose_10 rfl (lv_at hl 0 rfl) ?_
    refine gx (ci := 7) (k := 23) (v := .ref (G.1 37)) (C := RX7) (T := TX7) (N := 29) hC hS (hn _ (by decide)) rfl rfl in_X7 (by decide) rfl rfl lf_X7_56 dX7_lose_11 ?_
    refine lv_iload_n hx hb dX7_lose_14 rfl (lv_at hl 1 rfl) ?_
    obtain ⟨hi, hF⟩ := ckb_some hF
    refine zld hC hS (hn _ (by decide)) (by decide) rfl hi dX7_lose_15 ?_
    refine lv_if_ne (tgt := 25) hx hb dX7_lose_16 (by decide) (fun hc => ?_) (fun hc => ?_)
    · rw [if_neg hc] at hF
      refine lv_aload_n hx hb dX7_lose_25 rfl (lv_at hl 0 rfl) ?_
      refine gx (ci := 7) (k := 23) (v := .ref (G.1 37)) (C := RX7) (T := TX7) (N := 29) hC hS (hn _ (by decide)) rfl rfl in_X7 (by decide) rfl rfl lf_X7_56 dX7_lose_26 ?_
      refine lv_iload_n hx hb dX7_lose_29 rfl (lv_at hl 1 rfl) ?_
      refine lv_iconst (v := 0) hx hb dX7_lose_30 (by decide) ?_
      obtain ⟨hi, hF⟩ := ckb_some hF
      refine zst hC hS (hn _ (by decide)) (by decide) rfl hi dX7_lose_31 (fun H locs hS => ?_)
      refine lv_aload_n hx hb dX7_lose_32 rfl (lv_at hl 0 rfl) ?_
      refine gx (ci := 7) (k := 25) (v := .ref (G.1 39)) (C := RX7) (T := TX7) (N := 29) hC hS (hn _ (by decide)) rfl rfl in_X7 (by decide) rfl rfl lf_X7_62 dX7_lose_33 ?_
      refine lv_iload_n hx hb dX7_lose_36 rfl (lv_at hl 1 rfl) ?_
      obtain ⟨hi, hF⟩ := ckb_some hF
      refine ald hC hS (hn _ (by decide)) (by decide) rfl hi dX7_lose_37 ?_
      exact retI hC hS hr hlk hF dX7_lose_38
    · rw [if_pos hc] at hF
      refine lv_aload_n hx hb dX7_lose_19 rfl (lv_at hl 0 rfl) ?_
      refine lv_iconst (v := 1) hx hb dX7_lose_20 (by decide) ?_
      obtain ⟨r21, M21, h21, hF⟩ := bd_some hF
      refine cV_ (ci := 7) (i := 61) (C := RX7) (T := TX7) (N := 29) (As := [.int 1]) (v := some (.int r21)) (rest := []) (st1 := [.int r21]) hC hS (hn _ (by decide)) rfl rfl (c_X7_meets l G hn 1 M1 _ _ h21) kV_X7_meets lm_X7_93 ⟨Nat.le_of_ble_eq_true rfl, Nat.le_of_ble_eq_true rfl⟩ rfl hl.1 (Nat.le_of_ble_eq_true rfl) dX7_lose_21 ⟨Nat.le_refl _, Nat.le_refl _⟩ rfl (fun H locs hS => ?_)
      exact retI hC hS hr hlk hF dX7_lose_24
  · rw [if_pos hc] at hF
    refine lv_bipush (v := (-2)) hx hb dX7_lose_7 (by decide) ?_
    exact retI hC hS hr hlk hF dX7_lose_9
set_option maxRecDepth 100000 in
theorem c_X7_lose (l : Launch) (G : GT) (hn : ∀ i ∈ LsF, i ∈ gL G) (x1 : Int32) (M : Mem) (r0 : Int32) (M0 : Mem) (hF : F_X7_lose x1 M = some (r0, M0)) : MetG l G yX7_lose cX7_lose 2 (some .int) 2 42 [.ref (G.1 61), .int x1] M (some (.int r0)) M0 := by
  refine MetG.of (by decide) (Nat.le_of_ble_eq_true rfl) ?_
  intro p e s m args below meth c hC hr hlk hnm ls hS hl
  exact b_X7_lose hC hr hlk hn _ _ _ _ _ hF hS hl
def F_X7_lacks (x1 : Int32) (x2 : Int32) (x3 : Int32) (M : Mem) : Option (Int32 × Mem) := ckb (ix x1 4) (if (M.2 37 x1.toNatClampNeg) = 0 then some (1, M) else ckb (ix x1 4) (if (M.2 38 x1.toNatClampNeg) = x2 then ckb (ix x1 4) (bd (F_X7_in x3 0 ((M.2 39 x1.toNatClampNeg) - 1) M) (fun r37 M37 => if r37 = 0 then some (2, M37) else some (0, M37))) else some (3, M)))
set_option maxHeartbeats 4000000 in
set_option maxRecDepth 100000 in
theorem b_X7_lacks {M0 : Mem} {r0 : Int32} (hC : SX p m c s args cX7_lacks 4 RX7 G (AG G)) (hr : meth.sig.returnType = (some .int)) (hlk : meth.locks = false) (hn : ∀ i ∈ LsF, i ∈ gL G) : ∀ (x1 : Int32) (x2 : Int32) (x3 : Int32) (M : Mem) (H : Heap) (locs : List Loc) (ls : Array Slot), F_X7_lacks x1 x2 x3 M = some (r0, M0) → ST G (AG G) s M H locs → lv_has ls 4 [(0, .ref (G.1 61)), (1, .int x1), (2, .int x2), (3, .int x3)] → W p l e (RM 1 22) s m args below meth c H locs 0 0 (MQ below (QV G (some (.int r0)) M0) args s 0 0 (AG G)) (F0 m 0 ls []) := by
  obtain ⟨⟨hx, hb, hml, hown, hts⟩, hK, hG, hA⟩ := id hC
  intro x1 x2 x3 M H locs ls hF hS hl
  unfold F_X7_lacks at hF
  refine lv_aload_n hx hb dX7_lacks_0 rfl (lv_at hl 0 rfl) ?_
  refine gx (ci := 7) (k := 23) (v := .ref (G.1 37)) (C := RX7) (T := TX7) (N := 29) hC hS (hn _ (by decide)) rfl rfl in_X7 (by decide) rfl rfl lf_X7_56 dX7_lacks_1 ?_
  refine lv_iload_n hx hb dX7_lacks_4 rfl (lv_at hl 1 rfl) ?_
  obtain ⟨hi, hF⟩ := ckb_some hF
  refine zld hC hS (hn _ (by decide)) (by decide) rfl hi dX7_lacks_5 ?_
  refine lv_if_ne (tgt := 13) hx hb dX7_lacks_6 (by decide) (fun hc => ?_) (fun hc => ?_)
  · rw [if_neg hc] at hF
    refine lv_aload_n hx hb dX7_lacks_13 rfl (lv_at hl 0 rfl) ?_
    refine gx (ci := 7) (k := 24) (v := .ref (G.1 38)) (C := RX7) (T := TX7) (N := 29) hC hS (hn _ (by decide)) rfl rfl in_X7 (by decide) rfl rfl lf_X7_59 dX7_lacks_14 ?_
    refine lv_iload_n hx hb dX7_lacks_17 rfl (lv_at hl 1 rfl) ?_
    obtain ⟨hi, hF⟩ := ckb_some hF
    refine ald hC hS (hn _ (by decide)) (by decide) rfl hi dX7_lacks_18 ?_
    refine lv_iload_n hx hb dX7_lacks_19 rfl (lv_at hl 2 rfl) ?_
    refine lv_icmp_eq (tgt := 27) hx hb dX7_lacks_20 (by decide) (fun hc => ?_) (fun hc => ?_)
    · rw [if_pos hc] at hF
      refine lv_iload_n hx hb dX7_lacks_27 rfl (lv_at hl 3 rfl) ?_
      refine lv_iconst (v := 0) hx hb dX7_lacks_28 (by decide) ?_
      refine lv_aload_n hx hb dX7_lacks_29 rfl (lv_at hl 0 rfl) ?_
      refine gx (ci := 7) (k := 25) (v := .ref (G.1 39)) (C := RX7) (T := TX7) (N := 29) hC hS (hn _ (by decide)) rfl rfl in_X7 (by decide) rfl rfl lf_X7_62 dX7_lacks_30 ?_
      refine lv_iload_n hx hb dX7_lacks_33 rfl (lv_at hl 1 rfl) ?_
      obtain ⟨hi, hF⟩ := ckb_some hF
      refine ald hC hS (hn _ (by decide)) (by decide) rfl hi dX7_lacks_34 ?_
      refine lv_iconst (v := 1) hx hb dX7_lacks_35 (by decide) ?_
      refine lv_isub hx hb dX7_lacks_36 ?_
      obtain ⟨r37, M37, h37, hF⟩ := bd_some hF
      refine cS_ (As := [.int x3, .int 0, .int ((M.2 39 x1.toNatClampNeg) - 1)]) (v := some (.int r37)) (rest := []) (st1 := [.int r37]) hC hS (c_X7_in l G hn x3 0 ((M.2 39 x1.toNatClampNeg) - 1) M _ _ h37) kS_X7_in lm_X7_71 ⟨Nat.le_of_ble_eq_true rfl, Nat.le_of_ble_eq_true rfl⟩ rfl hl.1 (Nat.le_of_ble_eq_true rfl) dX7_lacks_37 ⟨Nat.le_refl _, Nat.le_refl _⟩ rfl (fun H locs hS => ?_)
      refine lv_if_eq (tgt := 47) hx hb dX7_lacks_40 (by decide) (fun hc => ?_) (fun hc => ?_)
      · rw [if_pos hc] at hF
        refine lv_iconst (v := 2) hx hb dX7_lacks_47 (by decide) ?_
        exact retI hC hS hr hlk hF dX7_lacks_48
      · rw [if_neg hc] at hF
        refine lv_iconst (v := 0) hx hb dX7_lacks_43 (by decide) ?_
        refine lv_goto (tgt := 48) hx hb dX7_lacks_44 (by decide) ?_
        exact retI hC hS hr hlk hF dX7_lacks_48
    · rw [if_neg hc] at hF
      refine lv_iconst (v := 3) hx hb dX7_lacks_23 (by decide) ?_
      refine lv_goto (tgt := 48) hx hb dX7_lacks_24 (by decide) ?_
      exact retI hC hS hr hlk hF dX7_lacks_48
  · rw [if_pos hc] at hF
    refine lv_iconst (v := 1) hx hb dX7_lacks_9 (by decide) ?_
    refine lv_goto (tgt := 48) hx hb dX7_lacks_10 (by decide) ?_
    exact retI hC hS hr hlk hF dX7_lacks_48
set_option maxRecDepth 100000 in
theorem c_X7_lacks (l : Launch) (G : GT) (hn : ∀ i ∈ LsF, i ∈ gL G) (x1 : Int32) (x2 : Int32) (x3 : Int32) (M : Mem) (r0 : Int32) (M0 : Mem) (hF : F_X7_lacks x1 x2 x3 M = some (r0, M0)) : MetG l G yX7_lacks cX7_lacks 4 (some .int) 1 22 [.ref (G.1 61), .int x1, .int x2, .int x3] M (some (.int r0)) M0 := by
  refine MetG.of (by decide) (Nat.le_of_ble_eq_true rfl) ?_
  intro p e s m args below meth c hC hr hlk hnm ls hS hl
  exact b_X7_lacks hC hr hlk hn _ _ _ _ _ _ _ hF hS hl
def F_X7_lay (x1 : Int32) (x2 : Int32) (x3 : Int32) (M : Mem) : Option Mem := ckb (ix x1 4) (if (M.2 38 x1.toNatClampNeg) = 0 then ckb (ix ((40 * x1) + x2) 160) (some (sa M 40 ((40 * x1) + x2).toNatClampNeg (x3.toInt8.toInt32))) else ckb (ix x1 4) (if (M.2 38 x1.toNatClampNeg) = 1 then ckb (ix ((40 * x1) + x2) 160) (some (sa M 40 ((40 * x1) + x2).toNatClampNeg (x3.toInt16.toInt32))) else ckb (ix ((40 * x1) + x2) 160) (some (sa M 40 ((40 * x1) + x2).toNatClampNeg x3))))
set_option maxHeartbeats 4000000 in
set_option maxRecDepth 100000 in
theorem b_X7_lay {M0 : Mem} (hC : SX p m c s args cX7_lay 4 RX7 G (AG G)) (hr : meth.sig.returnType = none) (hlk : meth.locks = false) (hn : ∀ i ∈ LsF, i ∈ gL G) : ∀ (x1 : Int32) (x2 : Int32) (x3 : Int32) (M : Mem) (H : Heap) (locs : List Loc) (ls : Array Slot), F_X7_lay x1 x2 x3 M = some M0 → ST G (AG G) s M H locs → lv_has ls 4 [(0, .ref (G.1 61)), (1, .int x1), (2, .int x2), (3, .int x3)] → W p l e (RM 0 0) s m args below meth c H locs 0 0 (MQ below (QV G none M0) args s 0 0 (AG G)) (F0 m 0 ls []) := by
  obtain ⟨⟨hx, hb, hml, hown, hts⟩, hK, hG, hA⟩ := id hC
  intro x1 x2 x3 M H locs ls hF hS hl
  unfold F_X7_lay at hF
  refine lv_aload_n hx hb dX7_lay_0 rfl (lv_at hl 0 rfl) ?_
  refine gx (ci := 7) (k := 26) (v := .ref (G.1 40)) (C := RX7) (T := TX7) (N := 29) hC hS (hn _ (by decide)) rfl rfl in_X7 (by decide) rfl rfl lf_X7_65 dX7_lay_1 ?_
  refine lv_bipush (v := 40) hx hb dX7_lay_4 (by decide) ?_
  refine lv_iload_n hx hb dX7_lay_6 rfl (lv_at hl 1 rfl) ?_
  refine lv_imul hx hb dX7_lay_7 ?_
  refine lv_iload_n hx hb dX7_lay_8 rfl (lv_at hl 2 rfl) ?_
  refine lv_iadd hx hb dX7_lay_9 ?_
  refine lv_aload_n hx hb dX7_lay_10 rfl (lv_at hl 0 rfl) ?_
  refine gx (ci := 7) (k := 24) (v := .ref (G.1 38)) (C := RX7) (T := TX7) (N := 29) hC hS (hn _ (by decide)) rfl rfl in_X7 (by decide) rfl rfl lf_X7_59 dX7_lay_11 ?_
  refine lv_iload_n hx hb dX7_lay_14 rfl (lv_at hl 1 rfl) ?_
  obtain ⟨hi, hF⟩ := ckb_some hF
  refine ald hC hS (hn _ (by decide)) (by decide) rfl hi dX7_lay_15 ?_
  refine lv_if_ne (tgt := 24) hx hb dX7_lay_16 (by decide) (fun hc => ?_) (fun hc => ?_)
  · rw [if_neg hc] at hF
    refine lv_aload_n hx hb dX7_lay_24 rfl (lv_at hl 0 rfl) ?_
    refine gx (ci := 7) (k := 24) (v := .ref (G.1 38)) (C := RX7) (T := TX7) (N := 29) hC hS (hn _ (by decide)) rfl rfl in_X7 (by decide) rfl rfl lf_X7_59 dX7_lay_25 ?_
    refine lv_iload_n hx hb dX7_lay_28 rfl (lv_at hl 1 rfl) ?_
    obtain ⟨hi, hF⟩ := ckb_some hF
    refine ald hC hS (hn _ (by decide)) (by decide) rfl hi dX7_lay_29 ?_
    refine lv_iconst (v := 1) hx hb dX7_lay_30 (by decide) ?_
    refine lv_icmp_ne (tgt := 39) hx hb dX7_lay_31 (by decide) (fun hc => ?_) (fun hc => ?_)
    · rw [if_neg hc] at hF
      refine lv_iload_n hx hb dX7_lay_39 rfl (lv_at hl 3 rfl) ?_
      obtain ⟨hi, hF⟩ := ckb_some hF
      refine ast hC hS (hn _ (by decide)) (by decide) rfl hi dX7_lay_40 (fun H locs hS => ?_)
      exact retV hC hS hr hlk hF dX7_lay_41
    · rw [if_pos hc] at hF
      refine lv_iload_n hx hb dX7_lay_34 rfl (lv_at hl 3 rfl) ?_
      refine lv_i2s hx hb dX7_lay_35 rfl ?_
      refine lv_goto (tgt := 40) hx hb dX7_lay_36 (by decide) ?_
      obtain ⟨hi, hF⟩ := ckb_some hF
      refine ast hC hS (hn _ (by decide)) (by decide) rfl hi dX7_lay_40 (fun H locs hS => ?_)
      exact retV hC hS hr hlk hF dX7_lay_41
  · rw [if_pos hc] at hF
    refine lv_iload_n hx hb dX7_lay_19 rfl (lv_at hl 3 rfl) ?_
    refine lv_i2b hx hb dX7_lay_20 rfl ?_
    refine lv_goto (tgt := 40) hx hb dX7_lay_21 (by decide) ?_
    obtain ⟨hi, hF⟩ := ckb_some hF
    refine ast hC hS (hn _ (by decide)) (by decide) rfl hi dX7_lay_40 (fun H locs hS => ?_)
    exact retV hC hS hr hlk hF dX7_lay_41
set_option maxRecDepth 100000 in
theorem c_X7_lay (l : Launch) (G : GT) (hn : ∀ i ∈ LsF, i ∈ gL G) (x1 : Int32) (x2 : Int32) (x3 : Int32) (M : Mem) (M0 : Mem) (hF : F_X7_lay x1 x2 x3 M = some M0) : MetG l G yX7_lay cX7_lay 4 none 0 0 [.ref (G.1 61), .int x1, .int x2, .int x3] M none M0 := by
  refine MetG.of (by decide) (Nat.le_of_ble_eq_true rfl) ?_
  intro p e s m args below meth c hC hr hlk hnm ls hS hl
  exact b_X7_lay hC hr hlk hn _ _ _ _ _ _ _ hF hS hl
def F_X7_put (x1 : Int32) (x2 : Int32) (x3 : Int32) (x4 : Int32) (M : Mem) : Option (Int32 × Mem) := bd (F_X7_isSheet x1 M) (fun r1 M1 => if r1 = 0 then some ((-2), M1) else bd (F_X7_in x2 0 2 M1) (fun r10 M10 => if r10 = 0 then some ((-2), M10) else bd (F_X7_lacks x1 x2 x3 M10) (fun r23 M23 => if r23 ≤ 0 then bdv (F_X7_lay x1 x3 x4 M23) (fun M45 => some (1, M45)) else bd (F_X7_meets r23 M23) (fun r36 M36 => some (r36, M36)))))
set_option maxHeartbeats 4000000 in
set_option maxRecDepth 100000 in
theorem b_X7_put {M0 : Mem} {r0 : Int32} (hC : SX p m c s args cX7_put 6 RX7 G (AG G)) (hr : meth.sig.returnType = (some .int)) (hlk : meth.locks = false) (hn : ∀ i ∈ LsF, i ∈ gL G) : ∀ (x1 : Int32) (x2 : Int32) (x3 : Int32) (x4 : Int32) (M : Mem) (H : Heap) (locs : List Loc) (ls : Array Slot), F_X7_put x1 x2 x3 x4 M = some (r0, M0) → ST G (AG G) s M H locs → lv_has ls 6 [(0, .ref (G.1 61)), (1, .int x1), (2, .int x2), (3, .int x3), (4, .int x4)] → W p l e (RM 2 45) s m args below meth c H locs 0 0 (MQ below (QV G (some (.int r0)) M0) args s 0 0 (AG G)) (F0 m 0 ls []) := by
  obtain ⟨⟨hx, hb, hml, hown, hts⟩, hK, hG, hA⟩ := id hC
  intro x1 x2 x3 x4 M H locs ls hF hS hl
  unfold F_X7_put at hF
  refine lv_iload_n hx hb dX7_put_0 rfl (lv_at hl 1 rfl) ?_
  obtain ⟨r1, M1, h1, hF⟩ := bd_some hF
  refine cS_ (As := [.int x1]) (v := some (.int r1)) (rest := []) (st1 := [.int r1]) hC hS (c_X7_isSheet l G hn x1 M _ _ h1) kS_X7_isSheet lm_X7_90 ⟨Nat.le_of_ble_eq_true rfl, Nat.le_of_ble_eq_true rfl⟩ rfl hl.1 (Nat.le_of_ble_eq_true rfl) dX7_put_1 ⟨Nat.le_refl _, Nat.le_refl _⟩ rfl (fun H locs hS => ?_)
  refine lv_if_eq (tgt := 16) hx hb dX7_put_4 (by decide) (fun hc => ?_) (fun hc => ?_)
  · rw [if_pos hc] at hF
    refine lv_bipush (v := (-2)) hx hb dX7_put_16 (by decide) ?_
    exact retI hC hS hr hlk hF dX7_put_18
  · rw [if_neg hc] at hF
    refine lv_iload_n hx hb dX7_put_7 rfl (lv_at hl 2 rfl) ?_
    refine lv_iconst (v := 0) hx hb dX7_put_8 (by decide) ?_
    refine lv_iconst (v := 2) hx hb dX7_put_9 (by decide) ?_
    obtain ⟨r10, M10, h10, hF⟩ := bd_some hF
    refine cS_ (As := [.int x2, .int 0, .int 2]) (v := some (.int r10)) (rest := []) (st1 := [.int r10]) hC hS (c_X7_in l G hn x2 0 2 M1 _ _ h10) kS_X7_in lm_X7_71 ⟨Nat.le_of_ble_eq_true rfl, Nat.le_of_ble_eq_true rfl⟩ rfl hl.1 (Nat.le_of_ble_eq_true rfl) dX7_put_10 ⟨Nat.le_refl _, Nat.le_refl _⟩ rfl (fun H locs hS => ?_)
    refine lv_if_ne (tgt := 19) hx hb dX7_put_13 (by decide) (fun hc => ?_) (fun hc => ?_)
    · rw [if_neg hc] at hF
      refine lv_aload_n hx hb dX7_put_19 rfl (lv_at hl 0 rfl) ?_
      refine lv_iload_n hx hb dX7_put_20 rfl (lv_at hl 1 rfl) ?_
      refine lv_iload_n hx hb dX7_put_21 rfl (lv_at hl 2 rfl) ?_
      refine lv_iload_n hx hb dX7_put_22 rfl (lv_at hl 3 rfl) ?_
      obtain ⟨r23, M23, h23, hF⟩ := bd_some hF
      refine cV_ (ci := 7) (i := 61) (C := RX7) (T := TX7) (N := 29) (As := [.int x1, .int x2, .int x3]) (v := some (.int r23)) (rest := []) (st1 := [.int r23]) hC hS (hn _ (by decide)) rfl rfl (c_X7_lacks l G hn x1 x2 x3 M10 _ _ h23) kV_X7_lacks lm_X7_230 ⟨Nat.le_of_ble_eq_true rfl, Nat.le_of_ble_eq_true rfl⟩ rfl hl.1 (Nat.le_of_ble_eq_true rfl) dX7_put_23 ⟨Nat.le_refl _, Nat.le_refl _⟩ rfl (fun H locs hS => ?_)
      refine lv_istore (lv' := [(5, .int r23), (0, .ref (G.1 61)), (1, .int x1), (2, .int x2), (3, .int x3), (4, .int x4)]) hx hb dX7_put_26 hl (by decide) rfl (fun ls hl => ?_)
      refine lv_iload hx hb dX7_put_28 (lv_at hl 0 rfl) ?_
      refine lv_if_le (tgt := 40) hx hb dX7_put_30 (by decide) (fun hc => ?_) (fun hc => ?_)
      · rw [if_pos hc] at hF
        refine lv_aload_n hx hb dX7_put_40 rfl (lv_at hl 1 rfl) ?_
        refine lv_iload_n hx hb dX7_put_41 rfl (lv_at hl 2 rfl) ?_
        refine lv_iload_n hx hb dX7_put_42 rfl (lv_at hl 4 rfl) ?_
        refine lv_iload hx hb dX7_put_43 (lv_at hl 5 rfl) ?_
        obtain ⟨M45, h45, hF⟩ := bdv_some hF
        refine cV_ (ci := 7) (i := 61) (C := RX7) (T := TX7) (N := 29) (As := [.int x1, .int x3, .int x4]) (v := none) (rest := []) (st1 := []) hC hS (hn _ (by decide)) rfl rfl (c_X7_lay l G hn x1 x3 x4 M23 _ h45) kV_X7_lay lm_X7_234 ⟨Nat.le_of_ble_eq_true rfl, Nat.le_of_ble_eq_true rfl⟩ rfl hl.1 (Nat.le_of_ble_eq_true rfl) dX7_put_45 ⟨Nat.le_refl _, Nat.le_refl _⟩ rfl (fun H locs hS => ?_)
        refine lv_iconst (v := 1) hx hb dX7_put_48 (by decide) ?_
        exact retI hC hS hr hlk hF dX7_put_49
      · rw [if_neg hc] at hF
        refine lv_aload_n hx hb dX7_put_33 rfl (lv_at hl 1 rfl) ?_
        refine lv_iload hx hb dX7_put_34 (lv_at hl 0 rfl) ?_
        obtain ⟨r36, M36, h36, hF⟩ := bd_some hF
        refine cV_ (ci := 7) (i := 61) (C := RX7) (T := TX7) (N := 29) (As := [.int r23]) (v := some (.int r36)) (rest := []) (st1 := [.int r36]) hC hS (hn _ (by decide)) rfl rfl (c_X7_meets l G hn r23 M23 _ _ h36) kV_X7_meets lm_X7_93 ⟨Nat.le_of_ble_eq_true rfl, Nat.le_of_ble_eq_true rfl⟩ rfl hl.1 (Nat.le_of_ble_eq_true rfl) dX7_put_36 ⟨Nat.le_refl _, Nat.le_refl _⟩ rfl (fun H locs hS => ?_)
        exact retI hC hS hr hlk hF dX7_put_39
    · rw [if_pos hc] at hF
      refine lv_bipush (v := (-2)) hx hb dX7_put_16 (by decide) ?_
      exact retI hC hS hr hlk hF dX7_put_18
set_option maxRecDepth 100000 in
theorem c_X7_put (l : Launch) (G : GT) (hn : ∀ i ∈ LsF, i ∈ gL G) (x1 : Int32) (x2 : Int32) (x3 : Int32) (x4 : Int32) (M : Mem) (r0 : Int32) (M0 : Mem) (hF : F_X7_put x1 x2 x3 x4 M = some (r0, M0)) : MetG l G yX7_put cX7_put 6 (some .int) 2 45 [.ref (G.1 61), .int x1, .int x2, .int x3, .int x4] M (some (.int r0)) M0 := by
  refine MetG.of (by decide) (Nat.le_of_ble_eq_true rfl) ?_
  intro p e s m args below meth c hC hr hlk hnm ls hS hl
  exact b_X7_put hC hr hlk hn _ _ _ _ _ _ _ _ hF hS hl
def F_X7_get (x1 : Int32) (x2 : Int32) (x3 : Int32) (M : Mem) : Option (Int32 × Mem) := bd (F_X7_isSheet x1 M) (fun r1 M1 => if r1 = 0 then some ((-2147483648), M1) else bd (F_X7_in x2 0 2 M1) (fun r10 M10 => if r10 = 0 then some ((-2147483648), M10) else bd (F_X7_lacks x1 x2 x3 M10) (fun r23 M23 => if r23 ≤ 0 then ckb (ix ((40 * x1) + x3) 160) (some (M23.2 40 ((40 * x1) + x3).toNatClampNeg, M23)) else some ((-2147483648), sv M23 48 r23))))
set_option maxHeartbeats 4000000 in
set_option maxRecDepth 100000 in
theorem b_X7_get {M0 : Mem} {r0 : Int32} (hC : SX p m c s args cX7_get 5 RX7 G (AG G)) (hr : meth.sig.returnType = (some .int)) (hlk : meth.locks = false) (hn : ∀ i ∈ LsF, i ∈ gL G) : ∀ (x1 : Int32) (x2 : Int32) (x3 : Int32) (M : Mem) (H : Heap) (locs : List Loc) (ls : Array Slot), F_X7_get x1 x2 x3 M = some (r0, M0) → ST G (AG G) s M H locs → lv_has ls 5 [(0, .ref (G.1 61)), (1, .int x1), (2, .int x2), (3, .int x3)] → W p l e (RM 2 45) s m args below meth c H locs 0 0 (MQ below (QV G (some (.int r0)) M0) args s 0 0 (AG G)) (F0 m 0 ls []) := by
  obtain ⟨⟨hx, hb, hml, hown, hts⟩, hK, hG, hA⟩ := id hC
  intro x1 x2 x3 M H locs ls hF hS hl
  unfold F_X7_get at hF
  refine lv_iload_n hx hb dX7_get_0 rfl (lv_at hl 1 rfl) ?_
  obtain ⟨r1, M1, h1, hF⟩ := bd_some hF
  refine cS_ (As := [.int x1]) (v := some (.int r1)) (rest := []) (st1 := [.int r1]) hC hS (c_X7_isSheet l G hn x1 M _ _ h1) kS_X7_isSheet lm_X7_90 ⟨Nat.le_of_ble_eq_true rfl, Nat.le_of_ble_eq_true rfl⟩ rfl hl.1 (Nat.le_of_ble_eq_true rfl) dX7_get_1 ⟨Nat.le_refl _, Nat.le_refl _⟩ rfl (fun H locs hS => ?_)
  refine lv_if_eq (tgt := 16) hx hb dX7_get_4 (by decide) (fun hc => ?_) (fun hc => ?_)
  · rw [if_pos hc] at hF
    refine lv_ldc (v := (-2147483648)) hx hb hown (hts _ lc_X7_238) dX7_get_16 ?_
    exact retI hC hS hr hlk hF dX7_get_18
  · rw [if_neg hc] at hF
    refine lv_iload_n hx hb dX7_get_7 rfl (lv_at hl 2 rfl) ?_
    refine lv_iconst (v := 0) hx hb dX7_get_8 (by decide) ?_
    refine lv_iconst (v := 2) hx hb dX7_get_9 (by decide) ?_
    obtain ⟨r10, M10, h10, hF⟩ := bd_some hF
    refine cS_ (As := [.int x2, .int 0, .int 2]) (v := some (.int r10)) (rest := []) (st1 := [.int r10]) hC hS (c_X7_in l G hn x2 0 2 M1 _ _ h10) kS_X7_in lm_X7_71 ⟨Nat.le_of_ble_eq_true rfl, Nat.le_of_ble_eq_true rfl⟩ rfl hl.1 (Nat.le_of_ble_eq_true rfl) dX7_get_10 ⟨Nat.le_refl _, Nat.le_refl _⟩ rfl (fun H locs hS => ?_)
    refine lv_if_ne (tgt := 19) hx hb dX7_get_13 (by decide) (fun hc => ?_) (fun hc => ?_)
    · rw [if_neg hc] at hF
      refine lv_aload_n hx hb dX7_get_19 rfl (lv_at hl 0 rfl) ?_
      refine lv_iload_n hx hb dX7_get_20 rfl (lv_at hl 1 rfl) ?_
      refine lv_iload_n hx hb dX7_get_21 rfl (lv_at hl 2 rfl) ?_
      refine lv_iload_n hx hb dX7_get_22 rfl (lv_at hl 3 rfl) ?_
      obtain ⟨r23, M23, h23, hF⟩ := bd_some hF
      refine cV_ (ci := 7) (i := 61) (C := RX7) (T := TX7) (N := 29) (As := [.int x1, .int x2, .int x3]) (v := some (.int r23)) (rest := []) (st1 := [.int r23]) hC hS (hn _ (by decide)) rfl rfl (c_X7_lacks l G hn x1 x2 x3 M10 _ _ h23) kV_X7_lacks lm_X7_230 ⟨Nat.le_of_ble_eq_true rfl, Nat.le_of_ble_eq_true rfl⟩ rfl hl.1 (Nat.le_of_ble_eq_true rfl) dX7_get_23 ⟨Nat.le_refl _, Nat.le_refl _⟩ rfl (fun H locs hS => ?_)
      refine lv_istore (lv' := [(4, .int r23), (0, .ref (G.1 61)), (1, .int x1), (2, .int x2), (3, .int x3)]) hx hb dX7_get_26 hl (by decide) rfl (fun ls hl => ?_)
      refine lv_iload hx hb dX7_get_28 (lv_at hl 0 rfl) ?_
      refine lv_if_le (tgt := 42) hx hb dX7_get_30 (by decide) (fun hc => ?_) (fun hc => ?_)
      · rw [if_pos hc] at hF
        refine lv_aload_n hx hb dX7_get_42 rfl (lv_at hl 1 rfl) ?_
        refine gx (ci := 7) (k := 26) (v := .ref (G.1 40)) (C := RX7) (T := TX7) (N := 29) hC hS (hn _ (by decide)) rfl rfl in_X7 (by decide) rfl rfl lf_X7_65 dX7_get_43 ?_
        refine lv_bipush (v := 40) hx hb dX7_get_46 (by decide) ?_
        refine lv_iload_n hx hb dX7_get_48 rfl (lv_at hl 2 rfl) ?_
        refine lv_imul hx hb dX7_get_49 ?_
        refine lv_iload_n hx hb dX7_get_50 rfl (lv_at hl 4 rfl) ?_
        refine lv_iadd hx hb dX7_get_51 ?_
        obtain ⟨hi, hF⟩ := ckb_some hF
        refine ald hC hS (hn _ (by decide)) (by decide) rfl hi dX7_get_52 ?_
        exact retI hC hS hr hlk hF dX7_get_53
      · rw [if_neg hc] at hF
        refine lv_aload_n hx hb dX7_get_33 rfl (lv_at hl 1 rfl) ?_
        refine lv_iload hx hb dX7_get_34 (lv_at hl 0 rfl) ?_
        refine px (ci := 7) (k := 28) (n := 48) (ty := .int) (C := RX7) (T := TX7) (N := 29) hC hS (hn _ (by decide)) rfl rfl in_X7 tyX7_ok nmX7 (by decide) rfl rfl (by decide +kernel) rfl rfl (Nat.le_of_ble_eq_true rfl) rfl se_X7_28 lf_X7_227 dX7_get_36 (fun H locs hS => ?_)
        refine lv_ldc (v := (-2147483648)) hx hb hown (hts _ lc_X7_238) dX7_get_39 ?_
        exact retI hC hS hr hlk hF dX7_get_41
    · rw [if_pos hc] at hF
      refine lv_ldc (v := (-2147483648)) hx hb hown (hts _ lc_X7_238) dX7_get_16 ?_
      exact retI hC hS hr hlk hF dX7_get_18
set_option maxRecDepth 100000 in
theorem c_X7_get (l : Launch) (G : GT) (hn : ∀ i ∈ LsF, i ∈ gL G) (x1 : Int32) (x2 : Int32) (x3 : Int32) (M : Mem) (r0 : Int32) (M0 : Mem) (hF : F_X7_get x1 x2 x3 M = some (r0, M0)) : MetG l G yX7_get cX7_get 5 (some .int) 2 45 [.ref (G.1 61), .int x1, .int x2, .int x3] M (some (.int r0)) M0 := by
  refine MetG.of (by decide) (Nat.le_of_ble_eq_true rfl) ?_
  intro p e s m args below meth c hC hr hlk hnm ls hS hl
  exact b_X7_get hC hr hlk hn _ _ _ _ _ _ _ hF hS hl
def F_X7_copy_35 (M : Mem) : Option (Int32 × Mem) := bd (F_X7_meets 1 M) (fun r37 M37 => some (r37, M37))
def F_X7_copy_111 (M : Mem) : Option (Int32 × Mem) := bd (F_X7_meets 2 M) (fun r113 M113 => some (r113, M113))
def F_X7_copy_157 : Nat → Int32 → Int32 → Int32 → Int32 → Mem → Option (Int32 × Mem)
  | 0, _, _, _, _, _ => none
  | n + 1, x3, x4, x5, x6, M => if x5 ≤ x6 then some (1, M) else ckb (ix x6 40) (ckb (ix (((40 * x3) + x4) + x6) 160) (F_X7_copy_157 n x3 x4 x5 (x6 + 1) (sa M 40 (((40 * x3) + x4) + x6).toNatClampNeg (M.2 41 x6.toNatClampNeg))))
def F_X7_copy_120 : Nat → Int32 → Int32 → Int32 → Int32 → Int32 → Int32 → Mem → Option (Int32 × Mem)
  | 0, _, _, _, _, _, _, _ => none
  | n + 1, x1, x2, x3, x4, x5, x6, M => if x5 ≤ x6 then F_X7_copy_157 fu x3 x4 x5 0 M else ckb (ix (((40 * x1) + x2) + x6) 160) (ckb (ix x6 40) (F_X7_copy_120 n x1 x2 x3 x4 x5 (x6 + 1) (sa M 41 x6.toNatClampNeg (M.2 40 (((40 * x1) + x2) + x6).toNatClampNeg))))
def F_X7_copy (x1 : Int32) (x2 : Int32) (x3 : Int32) (x4 : Int32) (x5 : Int32) (M : Mem) : Option (Int32 × Mem) := bd (F_X7_isSheet x1 M) (fun r1 M1 => if r1 = 0 then some ((-2), M1) else bd (F_X7_isSheet x3 M1) (fun r8 M8 => if r8 = 0 then some ((-2), M8) else ckb (ix x1 4) (if (M8.2 37 x1.toNatClampNeg) = 0 then F_X7_copy_35 M8 else ckb (ix x3 4) (if (M8.2 37 x3.toNatClampNeg) = 0 then F_X7_copy_35 M8 else ckb (ix x1 4) (ckb (ix x3 4) (if (M8.2 38 x1.toNatClampNeg) = (M8.2 38 x3.toNatClampNeg) then if x2 < 0 then F_X7_copy_111 M8 else if x4 < 0 then F_X7_copy_111 M8 else if x5 < 0 then F_X7_copy_111 M8 else ckb (ix x1 4) (if 0 < (lg_cmp ((x2.toInt64) + (x5.toInt64)) ((M8.2 39 x1.toNatClampNeg).toInt64)) then F_X7_copy_111 M8 else ckb (ix x3 4) (if (lg_cmp ((x4.toInt64) + (x5.toInt64)) ((M8.2 39 x3.toNatClampNeg).toInt64)) ≤ 0 then F_X7_copy_120 fu x1 x2 x3 x4 x5 0 M8 else F_X7_copy_111 M8)) else bd (F_X7_meets 4 M8) (fun r58 M58 => some (r58, M58))))))))
set_option maxHeartbeats 4000000 in
set_option maxRecDepth 100000 in
theorem b_X7_copy_35 {M0 : Mem} {r0 : Int32} (hC : SX p m c s args cX7_copy 7 RX7 G (AG G)) (hr : meth.sig.returnType = (some .int)) (hlk : meth.locks = false) (hn : ∀ i ∈ LsF, i ∈ gL G) : ∀ (M : Mem) (H : Heap) (locs : List Loc) (ls : Array Slot), F_X7_copy_35 M = some (r0, M0) → ST G (AG G) s M H locs → lv_has ls 7 [(0, .ref (G.1 61))] → W p l e (RM 2 42) s m args below meth c H locs 0 0 (MQ below (QV G (some (.int r0)) M0) args s 0 0 (AG G)) (F0 m 35 ls []) := by
  obtain ⟨⟨hx, hb, hml, hown, hts⟩, hK, hG, hA⟩ := id hC
  intro M H locs ls hF hS hl
  unfold F_X7_copy_35 at hF
  refine lv_aload_n hx hb dX7_copy_35 rfl (lv_at hl 0 rfl) ?_
  refine lv_iconst (v := 1) hx hb dX7_copy_36 (by decide) ?_
  obtain ⟨r37, M37, h37, hF⟩ := bd_some hF
  refine cV_ (ci := 7) (i := 61) (C := RX7) (T := TX7) (N := 29) (As := [.int 1]) (v := some (.int r37)) (rest := []) (st1 := [.int r37]) hC hS (hn _ (by decide)) rfl rfl (c_X7_meets l G hn 1 M _ _ h37) kV_X7_meets lm_X7_93 ⟨Nat.le_of_ble_eq_true rfl, Nat.le_of_ble_eq_true rfl⟩ rfl hl.1 (Nat.le_of_ble_eq_true rfl) dX7_copy_37 ⟨Nat.le_refl _, Nat.le_refl _⟩ rfl (fun H locs hS => ?_)
  exact retI hC hS hr hlk hF dX7_copy_40
set_option maxHeartbeats 4000000 in
set_option maxRecDepth 100000 in
theorem b_X7_copy_111 {M0 : Mem} {r0 : Int32} (hC : SX p m c s args cX7_copy 7 RX7 G (AG G)) (hr : meth.sig.returnType = (some .int)) (hlk : meth.locks = false) (hn : ∀ i ∈ LsF, i ∈ gL G) : ∀ (M : Mem) (H : Heap) (locs : List Loc) (ls : Array Slot), F_X7_copy_111 M = some (r0, M0) → ST G (AG G) s M H locs → lv_has ls 7 [(0, .ref (G.1 61))] → W p l e (RM 2 42) s m args below meth c H locs 0 0 (MQ below (QV G (some (.int r0)) M0) args s 0 0 (AG G)) (F0 m 111 ls []) := by
  obtain ⟨⟨hx, hb, hml, hown, hts⟩, hK, hG, hA⟩ := id hC
  intro M H locs ls hF hS hl
  unfold F_X7_copy_111 at hF
  refine lv_aload_n hx hb dX7_copy_111 rfl (lv_at hl 0 rfl) ?_
  refine lv_iconst (v := 2) hx hb dX7_copy_112 (by decide) ?_
  obtain ⟨r113, M113, h113, hF⟩ := bd_some hF
  refine cV_ (ci := 7) (i := 61) (C := RX7) (T := TX7) (N := 29) (As := [.int 2]) (v := some (.int r113)) (rest := []) (st1 := [.int r113]) hC hS (hn _ (by decide)) rfl rfl (c_X7_meets l G hn 2 M _ _ h113) kV_X7_meets lm_X7_93 ⟨Nat.le_of_ble_eq_true rfl, Nat.le_of_ble_eq_true rfl⟩ rfl hl.1 (Nat.le_of_ble_eq_true rfl) dX7_copy_113 ⟨Nat.le_refl _, Nat.le_refl _⟩ rfl (fun H locs hS => ?_)
  exact retI hC hS hr hlk hF dX7_copy_116
set_option maxHeartbeats 4000000 in
set_option maxRecDepth 100000 in
theorem b_X7_copy_157 {M0 : Mem} {r0 : Int32} (hC : SX p m c s args cX7_copy 7 RX7 G (AG G)) (hr : meth.sig.returnType = (some .int)) (hlk : meth.locks = false) (hn : ∀ i ∈ LsF, i ∈ gL G) : ∀ (n : Nat) (x3 : Int32) (x4 : Int32) (x5 : Int32) (x6 : Int32) (M : Mem) (H : Heap) (locs : List Loc) (ls : Array Slot), F_X7_copy_157 n x3 x4 x5 x6 M = some (r0, M0) → ST G (AG G) s M H locs → lv_has ls 7 [(0, .ref (G.1 61)), (3, .int x3), (4, .int x4), (5, .int x5), (6, .int x6)] → W p l e (RM 2 42) s m args below meth c H locs 0 0 (MQ below (QV G (some (.int r0)) M0) args s 0 0 (AG G)) (F0 m 157 ls []) := by
  obtain ⟨⟨hx, hb, hml, hown, hts⟩, hK, hG, hA⟩ := id hC
  intro n
  induction n with
  | zero =>
    intro x3 x4 x5 x6 M H locs ls hF
    cases hF
  | succ n ih =>
    intro x3 x4 x5 x6 M H locs ls hF hS hl
    unfold F_X7_copy_157 at hF
    refine lv_iload hx hb dX7_copy_157 (lv_at hl 4 rfl) ?_
    refine lv_iload hx hb dX7_copy_159 (lv_at hl 3 rfl) ?_
    refine lv_icmp_ge (tgt := 192) hx hb dX7_copy_161 (by decide) (fun hc => ?_) (fun hc => ?_)
    · rw [if_pos hc] at hF
      refine lv_iconst (v := 1) hx hb dX7_copy_192 (by decide) ?_
      exact retI hC hS hr hlk hF dX7_copy_193
    · rw [if_neg hc] at hF
      refine lv_aload_n hx hb dX7_copy_164 rfl (lv_at hl 0 rfl) ?_
      refine gx (ci := 7) (k := 26) (v := .ref (G.1 40)) (C := RX7) (T := TX7) (N := 29) hC hS (hn _ (by decide)) rfl rfl in_X7 (by decide) rfl rfl lf_X7_65 dX7_copy_165 ?_
      refine lv_bipush (v := 40) hx hb dX7_copy_168 (by decide) ?_
      refine lv_iload_n hx hb dX7_copy_170 rfl (lv_at hl 1 rfl) ?_
      refine lv_imul hx hb dX7_copy_171 ?_
      refine lv_iload hx hb dX7_copy_172 (lv_at hl 2 rfl) ?_
      refine lv_iadd hx hb dX7_copy_174 ?_
      refine lv_iload hx hb dX7_copy_175 (lv_at hl 4 rfl) ?_
      refine lv_iadd hx hb dX7_copy_177 ?_
      refine lv_aload_n hx hb dX7_copy_178 rfl (lv_at hl 0 rfl) ?_
      refine gx (ci := 7) (k := 27) (v := .ref (G.1 41)) (C := RX7) (T := TX7) (N := 29) hC hS (hn _ (by decide)) rfl rfl in_X7 (by decide) rfl rfl lf_X7_68 dX7_copy_179 ?_
      refine lv_iload hx hb dX7_copy_182 (lv_at hl 4 rfl) ?_
      obtain ⟨hi, hF⟩ := ckb_some hF
      refine ald hC hS (hn _ (by decide)) (by decide) rfl hi dX7_copy_184 ?_
      obtain ⟨hi, hF⟩ := ckb_some hF
      refine ast hC hS (hn _ (by decide)) (by decide) rfl hi dX7_copy_185 (fun H locs hS => ?_)
      refine lv_iinc (v := x6 + 1) (lv' := [(6, .int (x6 + 1)), (0, .ref (G.1 61)), (3, .int x3), (4, .int x4), (5, .int x5)]) hx hb dX7_copy_186 hl (k := 4) rfl rfl (by decide) rfl (fun ls hl => ?_)
      refine lv_goto (tgt := 157) hx hb dX7_copy_189 (by decide) ?_
      exact ih _ _ _ _ _ _ _ _ hF hS (lv_sub hl [1, 2, 3, 4, 0] rfl)
set_option maxHeartbeats 4000000 in
set_option maxRecDepth 100000 in
theorem b_X7_copy_120 {M0 : Mem} {r0 : Int32} (hC : SX p m c s args cX7_copy 7 RX7 G (AG G)) (hr : meth.sig.returnType = (some .int)) (hlk : meth.locks = false) (hn : ∀ i ∈ LsF, i ∈ gL G) : ∀ (n : Nat) (x1 : Int32) (x2 : Int32) (x3 : Int32) (x4 : Int32) (x5 : Int32) (x6 : Int32) (M : Mem) (H : Heap) (locs : List Loc) (ls : Array Slot), F_X7_copy_120 n x1 x2 x3 x4 x5 x6 M = some (r0, M0) → ST G (AG G) s M H locs → lv_has ls 7 [(0, .ref (G.1 61)), (1, .int x1), (2, .int x2), (3, .int x3), (4, .int x4), (5, .int x5), (6, .int x6)] → W p l e (RM 2 42) s m args below meth c H locs 0 0 (MQ below (QV G (some (.int r0)) M0) args s 0 0 (AG G)) (F0 m 120 ls []) := by
  obtain ⟨⟨hx, hb, hml, hown, hts⟩, hK, hG, hA⟩ := id hC
  intro n
  induction n with
  | zero =>
    intro x1 x2 x3 x4 x5 x6 M H locs ls hF
    cases hF
  | succ n ih =>
    intro x1 x2 x3 x4 x5 x6 M H locs ls hF hS hl
    unfold F_X7_copy_120 at hF
    refine lv_iload hx hb dX7_copy_120 (lv_at hl 6 rfl) ?_
    refine lv_iload hx hb dX7_copy_122 (lv_at hl 5 rfl) ?_
    refine lv_icmp_ge (tgt := 154) hx hb dX7_copy_124 (by decide) (fun hc => ?_) (fun hc => ?_)
    · rw [if_pos hc] at hF
      refine lv_iconst (v := 0) hx hb dX7_copy_154 (by decide) ?_
      refine lv_istore (lv' := [(6, .int 0), (0, .ref (G.1 61)), (1, .int x1), (2, .int x2), (3, .int x3), (4, .int x4), (5, .int x5)]) hx hb dX7_copy_155 hl (by decide) rfl (fun ls hl => ?_)
      exact b_X7_copy_157 hC hr hlk hn fu _ _ _ _ _ _ _ _ hF hS (lv_sub hl [1, 4, 5, 6, 0] rfl)
    · rw [if_neg hc] at hF
      refine lv_aload_n hx hb dX7_copy_127 rfl (lv_at hl 0 rfl) ?_
      refine gx (ci := 7) (k := 27) (v := .ref (G.1 41)) (C := RX7) (T := TX7) (N := 29) hC hS (hn _ (by decide)) rfl rfl in_X7 (by decide) rfl rfl lf_X7_68 dX7_copy_128 ?_
      refine lv_iload hx hb dX7_copy_131 (lv_at hl 6 rfl) ?_
      refine lv_aload_n hx hb dX7_copy_133 rfl (lv_at hl 0 rfl) ?_
      refine gx (ci := 7) (k := 26) (v := .ref (G.1 40)) (C := RX7) (T := TX7) (N := 29) hC hS (hn _ (by decide)) rfl rfl in_X7 (by decide) rfl rfl lf_X7_65 dX7_copy_134 ?_
      refine lv_bipush (v := 40) hx hb dX7_copy_137 (by decide) ?_
      refine lv_iload_n hx hb dX7_copy_139 rfl (lv_at hl 1 rfl) ?_
      refine lv_imul hx hb dX7_copy_140 ?_
      refine lv_iload_n hx hb dX7_copy_141 rfl (lv_at hl 2 rfl) ?_
      refine lv_iadd hx hb dX7_copy_142 ?_
      refine lv_iload hx hb dX7_copy_143 (lv_at hl 6 rfl) ?_
      refine lv_iadd hx hb dX7_copy_145 ?_
      obtain ⟨hi, hF⟩ := ckb_some hF
      refine ald hC hS (hn _ (by decide)) (by decide) rfl hi dX7_copy_146 ?_
      obtain ⟨hi, hF⟩ := ckb_some hF
      refine ast hC hS (hn _ (by decide)) (by decide) rfl hi dX7_copy_147 (fun H locs hS => ?_)
      refine lv_iinc (v := x6 + 1) (lv' := [(6, .int (x6 + 1)), (0, .ref (G.1 61)), (1, .int x1), (2, .int x2), (3, .int x3), (4, .int x4), (5, .int x5)]) hx hb dX7_copy_148 hl (k := 6) rfl rfl (by decide) rfl (fun ls hl => ?_)
      refine lv_goto (tgt := 120) hx hb dX7_copy_151 (by decide) ?_
      exact ih _ _ _ _ _ _ _ _ _ _ hF hS (lv_sub hl [1, 2, 3, 4, 5, 6, 0] rfl)
set_option maxHeartbeats 4000000 in
set_option maxRecDepth 100000 in
theorem b_X7_copy {M0 : Mem} {r0 : Int32} (hC : SX p m c s args cX7_copy 7 RX7 G (AG G)) (hr : meth.sig.returnType = (some .int)) (hlk : meth.locks = false) (hn : ∀ i ∈ LsF, i ∈ gL G) : ∀ (x1 : Int32) (x2 : Int32) (x3 : Int32) (x4 : Int32) (x5 : Int32) (M : Mem) (H : Heap) (locs : List Loc) (ls : Array Slot), F_X7_copy x1 x2 x3 x4 x5 M = some (r0, M0) → ST G (AG G) s M H locs → lv_has ls 7 [(0, .ref (G.1 61)), (1, .int x1), (2, .int x2), (3, .int x3), (4, .int x4), (5, .int x5)] → W p l e (RM 2 42) s m args below meth c H locs 0 0 (MQ below (QV G (some (.int r0)) M0) args s 0 0 (AG G)) (F0 m 0 ls []) := by
  obtain ⟨⟨hx, hb, hml, hown, hts⟩, hK, hG, hA⟩ := id hC
  intro x1 x2 x3 x4 x5 M H locs ls hF hS hl
  unfold F_X7_copy at hF
  refine lv_iload_n hx hb dX7_copy_0 rfl (lv_at hl 1 rfl) ?_
  obtain ⟨r1, M1, h1, hF⟩ := bd_some hF
  refine cS_ (As := [.int x1]) (v := some (.int r1)) (rest := []) (st1 := [.int r1]) hC hS (c_X7_isSheet l G hn x1 M _ _ h1) kS_X7_isSheet lm_X7_90 ⟨Nat.le_of_ble_eq_true rfl, Nat.le_of_ble_eq_true rfl⟩ rfl hl.1 (Nat.le_of_ble_eq_true rfl) dX7_copy_1 ⟨Nat.le_refl _, Nat.le_refl _⟩ rfl (fun H locs hS => ?_)
  refine lv_if_eq (tgt := 14) hx hb dX7_copy_4 (by decide) (fun hc => ?_) (fun hc => ?_)
  · rw [if_pos hc] at hF
    refine lv_bipush (v := (-2)) hx hb dX7_copy_14 (by decide) ?_
    exact retI hC hS hr hlk hF dX7_copy_16
  · rw [if_neg hc] at hF
    refine lv_iload_n hx hb dX7_copy_7 rfl (lv_at hl 3 rfl) ?_
    obtain ⟨r8, M8, h8, hF⟩ := bd_some hF
    refine cS_ (As := [.int x3]) (v := some (.int r8)) (rest := []) (st1 := [.int r8]) hC hS (c_X7_isSheet l G hn x3 M1 _ _ h8) kS_X7_isSheet lm_X7_90 ⟨Nat.le_of_ble_eq_true rfl, Nat.le_of_ble_eq_true rfl⟩ rfl hl.1 (Nat.le_of_ble_eq_true rfl) dX7_copy_8 ⟨Nat.le_refl _, Nat.le_refl _⟩ rfl (fun H locs hS => ?_)
    refine lv_if_ne (tgt := 17) hx hb dX7_copy_11 (by decide) (fun hc => ?_) (fun hc => ?_)
    · rw [if_neg hc] at hF
      refine lv_aload_n hx hb dX7_copy_17 rfl (lv_at hl 0 rfl) ?_
      refine gx (ci := 7) (k := 23) (v := .ref (G.1 37)) (C := RX7) (T := TX7) (N := 29) hC hS (hn _ (by decide)) rfl rfl in_X7 (by decide) rfl rfl lf_X7_56 dX7_copy_18 ?_
      refine lv_iload_n hx hb dX7_copy_21 rfl (lv_at hl 1 rfl) ?_
      obtain ⟨hi, hF⟩ := ckb_some hF
      refine zld hC hS (hn _ (by decide)) (by decide) rfl hi dX7_copy_22 ?_
      refine lv_if_eq (tgt := 35) hx hb dX7_copy_23 (by decide) (fun hc => ?_) (fun hc => ?_)
      · rw [if_pos hc] at hF
        exact b_X7_copy_35 hC hr hlk hn _ _ _ _ hF hS (lv_sub hl [0] rfl)
      · rw [if_neg hc] at hF
        refine lv_aload_n hx hb dX7_copy_26 rfl (lv_at hl 0 rfl) ?_
        refine gx (ci := 7) (k := 23) (v := .ref (G.1 37)) (C := RX7) (T := TX7) (N := 29) hC hS (hn _ (by decide)) rfl rfl in_X7 (by decide) rfl rfl lf_X7_56 dX7_copy_27 ?_
        refine lv_iload_n hx hb dX7_copy_30 rfl (lv_at hl 3 rfl) ?_
        obtain ⟨hi, hF⟩ := ckb_some hF
        refine zld hC hS (hn _ (by decide)) (by decide) rfl hi dX7_copy_31 ?_
        refine lv_if_ne (tgt := 41) hx hb dX7_copy_32 (by decide) (fun hc => ?_) (fun hc => ?_)
        · rw [if_neg hc] at hF
          refine lv_aload_n hx hb dX7_copy_41 rfl (lv_at hl 0 rfl) ?_
          refine gx (ci := 7) (k := 24) (v := .ref (G.1 38)) (C := RX7) (T := TX7) (N := 29) hC hS (hn _ (by decide)) rfl rfl in_X7 (by decide) rfl rfl lf_X7_59 dX7_copy_42 ?_
          refine lv_iload_n hx hb dX7_copy_45 rfl (lv_at hl 1 rfl) ?_
          obtain ⟨hi, hF⟩ := ckb_some hF
          refine ald hC hS (hn _ (by decide)) (by decide) rfl hi dX7_copy_46 ?_
          refine lv_aload_n hx hb dX7_copy_47 rfl (lv_at hl 0 rfl) ?_
          refine gx (ci := 7) (k := 24) (v := .ref (G.1 38)) (C := RX7) (T := TX7) (N := 29) hC hS (hn _ (by decide)) rfl rfl in_X7 (by decide) rfl rfl lf_X7_59 dX7_copy_48 ?_
          refine lv_iload_n hx hb dX7_copy_51 rfl (lv_at hl 3 rfl) ?_
          obtain ⟨hi, hF⟩ := ckb_some hF
          refine ald hC hS (hn _ (by decide)) (by decide) rfl hi dX7_copy_52 ?_
          refine lv_icmp_eq (tgt := 62) hx hb dX7_copy_53 (by decide) (fun hc => ?_) (fun hc => ?_)
          · rw [if_pos hc] at hF
            refine lv_iload_n hx hb dX7_copy_62 rfl (lv_at hl 2 rfl) ?_
            refine lv_if_lt (tgt := 111) hx hb dX7_copy_63 (by decide) (fun hc => ?_) (fun hc => ?_)
            · rw [if_pos hc] at hF
              exact b_X7_copy_111 hC hr hlk hn _ _ _ _ hF hS (lv_sub hl [0] rfl)
            · rw [if_neg hc] at hF
              refine lv_iload hx hb dX7_copy_66 (lv_at hl 4 rfl) ?_
              refine lv_if_lt (tgt := 111) hx hb dX7_copy_68 (by decide) (fun hc => ?_) (fun hc => ?_)
              · rw [if_pos hc] at hF
                exact b_X7_copy_111 hC hr hlk hn _ _ _ _ hF hS (lv_sub hl [0] rfl)
              · rw [if_neg hc] at hF
                refine lv_iload hx hb dX7_copy_71 (lv_at hl 5 rfl) ?_
                refine lv_if_lt (tgt := 111) hx hb dX7_copy_73 (by decide) (fun hc => ?_) (fun hc => ?_)
                · rw [if_pos hc] at hF
                  exact b_X7_copy_111 hC hr hlk hn _ _ _ _ hF hS (lv_sub hl [0] rfl)
                · rw [if_neg hc] at hF
                  refine lv_iload_n hx hb dX7_copy_76 rfl (lv_at hl 2 rfl) ?_
                  refine lv_i2l hx hb dX7_copy_77 rfl ?_
                  refine lv_iload hx hb dX7_copy_78 (lv_at hl 5 rfl) ?_
                  refine lv_i2l hx hb dX7_copy_80 rfl ?_
                  refine lv_ladd hx hb dX7_copy_81 ?_
                  refine lv_aload_n hx hb dX7_copy_82 rfl (lv_at hl 0 rfl) ?_
                  refine gx (ci := 7) (k := 25) (v := .ref (G.1 39)) (C := RX7) (T := TX7) (N := 29) hC hS (hn _ (by decide)) rfl rfl in_X7 (by decide) rfl rfl lf_X7_62 dX7_copy_83 ?_
                  refine lv_iload_n hx hb dX7_copy_86 rfl (lv_at hl 1 rfl) ?_
                  obtain ⟨hi, hF⟩ := ckb_some hF
                  refine ald hC hS (hn _ (by decide)) (by decide) rfl hi dX7_copy_87 ?_
                  refine lv_i2l hx hb dX7_copy_88 rfl ?_
                  refine W.lcmp hx hb dX7_copy_89 ?_
                  refine lv_if_gt (tgt := 111) hx hb dX7_copy_90 (by decide) (fun hc => ?_) (fun hc => ?_)
                  · rw [if_pos hc] at hF
                    exact b_X7_copy_111 hC hr hlk hn _ _ _ _ hF hS (lv_sub hl [0] rfl)
                  · rw [if_neg hc] at hF
                    refine lv_iload hx hb dX7_copy_93 (lv_at hl 4 rfl) ?_
                    refine lv_i2l hx hb dX7_copy_95 rfl ?_
                    refine lv_iload hx hb dX7_copy_96 (lv_at hl 5 rfl) ?_
                    refine lv_i2l hx hb dX7_copy_98 rfl ?_
                    refine lv_ladd hx hb dX7_copy_99 ?_
                    refine lv_aload_n hx hb dX7_copy_100 rfl (lv_at hl 0 rfl) ?_
                    refine gx (ci := 7) (k := 25) (v := .ref (G.1 39)) (C := RX7) (T := TX7) (N := 29) hC hS (hn _ (by decide)) rfl rfl in_X7 (by decide) rfl rfl lf_X7_62 dX7_copy_101 ?_
                    refine lv_iload_n hx hb dX7_copy_104 rfl (lv_at hl 3 rfl) ?_
                    obtain ⟨hi, hF⟩ := ckb_some hF
                    refine ald hC hS (hn _ (by decide)) (by decide) rfl hi dX7_copy_105 ?_
                    refine lv_i2l hx hb dX7_copy_106 rfl ?_
                    refine W.lcmp hx hb dX7_copy_107 ?_
                    refine lv_if_le (tgt := 117) hx hb dX7_copy_108 (by decide) (fun hc => ?_) (fun hc => ?_)
                    · rw [if_pos hc] at hF
                      refine lv_iconst (v := 0) hx hb dX7_copy_117 (by decide) ?_
                      refine lv_istore (lv' := [(6, .int 0), (0, .ref (G.1 61)), (1, .int x1), (2, .int x2), (3, .int x3), (4, .int x4), (5, .int x5)]) hx hb dX7_copy_118 hl (by decide) rfl (fun ls hl => ?_)
                      exact b_X7_copy_120 hC hr hlk hn fu _ _ _ _ _ _ _ _ _ _ hF hS (lv_sub hl [1, 2, 3, 4, 5, 6, 0] rfl)
                    · rw [if_neg hc] at hF
                      exact b_X7_copy_111 hC hr hlk hn _ _ _ _ hF hS (lv_sub hl [0] rfl)
          · rw [if_neg hc] at hF
            refine lv_aload_n hx hb dX7_copy_56 rfl (lv_at hl 0 rfl) ?_
            refine lv_iconst (v := 4) hx hb dX7_copy_57 (by decide) ?_
            obtain ⟨r58, M58, h58, hF⟩ := bd_some hF
            refine cV_ (ci := 7) (i := 61) (C := RX7) (T := TX7) (N := 29) (As := [.int 4]) (v := some (.int r58)) (rest := []) (st1 := [.int r58]) hC hS (hn _ (by decide)) rfl rfl (c_X7_meets l G hn 4 M8 _ _ h58) kV_X7_meets lm_X7_93 ⟨Nat.le_of_ble_eq_true rfl, Nat.le_of_ble_eq_true rfl⟩ rfl hl.1 (Nat.le_of_ble_eq_true rfl) dX7_copy_58 ⟨Nat.le_refl _, Nat.le_refl _⟩ rfl (fun H locs hS => ?_)
            exact retI hC hS hr hlk hF dX7_copy_61
        · rw [if_pos hc] at hF
          exact b_X7_copy_35 hC hr hlk hn _ _ _ _ hF hS (lv_sub hl [0] rfl)
    · rw [if_pos hc] at hF
      refine lv_bipush (v := (-2)) hx hb dX7_copy_14 (by decide) ?_
      exact retI hC hS hr hlk hF dX7_copy_16
set_option maxRecDepth 100000 in
theorem c_X7_copy (l : Launch) (G : GT) (hn : ∀ i ∈ LsF, i ∈ gL G) (x1 : Int32) (x2 : Int32) (x3 : Int32) (x4 : Int32) (x5 : Int32) (M : Mem) (r0 : Int32) (M0 : Mem) (hF : F_X7_copy x1 x2 x3 x4 x5 M = some (r0, M0)) : MetG l G yX7_copy cX7_copy 7 (some .int) 2 42 [.ref (G.1 61), .int x1, .int x2, .int x3, .int x4, .int x5] M (some (.int r0)) M0 := by
  refine MetG.of (by decide) (Nat.le_of_ble_eq_true rfl) ?_
  intro p e s m args below meth c hC hr hlk hnm ls hS hl
  exact b_X7_copy hC hr hlk hn _ _ _ _ _ _ _ _ _ hF hS hl
def F_X7_write_32 : Nat → Int32 → Int32 → Mem → Option (Int32 × Mem)
  | 0, _, _, _ => none
  | n + 1, x1, x2, M => if 10 ≤ x2 then some (x2, M) else ckb (ix x1 4) (if (M.2 39 x1.toNatClampNeg) ≤ x2 then some (x2, M) else bd (F_X7_headNow x2 M) (fun r53 M53 => bdv (F_X7_lay x1 x2 r53 M53) (fun M56 => F_X7_write_32 n x1 (x2 + 1) M56)))
def F_X7_write (x1 : Int32) (M : Mem) : Option (Int32 × Mem) := bd (F_X7_isSheet x1 M) (fun r1 M1 => if r1 = 0 then some ((-2), M1) else ckb (ix x1 4) (if (M1.2 37 x1.toNatClampNeg) = 0 then bd (F_X7_meets 1 M1) (fun r21 M21 => some (r21, M21)) else bdv (F_X7_hearsAll 0 M1) (fun M27 => F_X7_write_32 fu x1 0 M27)))
set_option maxHeartbeats 4000000 in
set_option maxRecDepth 100000 in
theorem b_X7_write_32 {M0 : Mem} {r0 : Int32} (hC : SX p m c s args cX7_write 3 RX7 G (AG G)) (hr : meth.sig.returnType = (some .int)) (hlk : meth.locks = false) (hn : ∀ i ∈ LsF, i ∈ gL G) : ∀ (n : Nat) (x1 : Int32) (x2 : Int32) (M : Mem) (H : Heap) (locs : List Loc) (ls : Array Slot), F_X7_write_32 n x1 x2 M = some (r0, M0) → ST G (AG G) s M H locs → lv_has ls 3 [(0, .ref (G.1 61)), (1, .int x1), (2, .int x2)] → W p l e (RM 4 89) s m args below meth c H locs 0 0 (MQ below (QV G (some (.int r0)) M0) args s 0 0 (AG G)) (F0 m 32 ls []) := by
  obtain ⟨⟨hx, hb, hml, hown, hts⟩, hK, hG, hA⟩ := id hC
  intro n
  induction n with
  | zero =>
    intro x1 x2 M H locs ls hF
    cases hF
  | succ n ih =>
    intro x1 x2 M H locs ls hF hS hl
    unfold F_X7_write_32 at hF
    refine lv_iload_n hx hb dX7_write_32 rfl (lv_at hl 2 rfl) ?_
    refine lv_bipush (v := 10) hx hb dX7_write_33 (by decide) ?_
    refine lv_icmp_ge (tgt := 65) hx hb dX7_write_35 (by decide) (fun hc => ?_) (fun hc => ?_)
    · rw [if_pos hc] at hF
      refine lv_iload_n hx hb dX7_write_65 rfl (lv_at hl 2 rfl) ?_
      exact retI hC hS hr hlk hF dX7_write_66
    · rw [if_neg hc] at hF
      refine lv_iload_n hx hb dX7_write_38 rfl (lv_at hl 2 rfl) ?_
      refine lv_aload_n hx hb dX7_write_39 rfl (lv_at hl 0 rfl) ?_
      refine gx (ci := 7) (k := 25) (v := .ref (G.1 39)) (C := RX7) (T := TX7) (N := 29) hC hS (hn _ (by decide)) rfl rfl in_X7 (by decide) rfl rfl lf_X7_62 dX7_write_40 ?_
      refine lv_iload_n hx hb dX7_write_43 rfl (lv_at hl 1 rfl) ?_
      obtain ⟨hi, hF⟩ := ckb_some hF
      refine ald hC hS (hn _ (by decide)) (by decide) rfl hi dX7_write_44 ?_
      refine lv_icmp_ge (tgt := 65) hx hb dX7_write_45 (by decide) (fun hc => ?_) (fun hc => ?_)
      · rw [if_pos hc] at hF
        refine lv_iload_n hx hb dX7_write_65 rfl (lv_at hl 2 rfl) ?_
        exact retI hC hS hr hlk hF dX7_write_66
      · rw [if_neg hc] at hF
        refine lv_aload_n hx hb dX7_write_48 rfl (lv_at hl 0 rfl) ?_
        refine lv_iload_n hx hb dX7_write_49 rfl (lv_at hl 1 rfl) ?_
        refine lv_iload_n hx hb dX7_write_50 rfl (lv_at hl 2 rfl) ?_
        refine lv_aload_n hx hb dX7_write_51 rfl (lv_at hl 0 rfl) ?_
        refine lv_iload_n hx hb dX7_write_52 rfl (lv_at hl 2 rfl) ?_
        obtain ⟨r53, M53, h53, hF⟩ := bd_some hF
        refine cV_ (ci := 7) (i := 61) (C := RX7) (T := TX7) (N := 29) (As := [.int x2]) (v := some (.int r53)) (rest := [.int x2, .int x1, .ref (G.1 61)]) (st1 := [.int r53, .int x2, .int x1, .ref (G.1 61)]) hC hS (hn _ (by decide)) rfl rfl (c_X7_headNow l G hn x2 M _ _ h53) kV_X7_headNow lm_X7_180 ⟨Nat.le_of_ble_eq_true rfl, Nat.le_of_ble_eq_true rfl⟩ rfl hl.1 (Nat.le_of_ble_eq_true rfl) dX7_write_53 ⟨Nat.le_refl _, Nat.le_refl _⟩ rfl (fun H locs hS => ?_)
        obtain ⟨M56, h56, hF⟩ := bdv_some hF
        refine cV_ (ci := 7) (i := 61) (C := RX7) (T := TX7) (N := 29) (As := [.int x1, .int x2, .int r53]) (v := none) (rest := []) (st1 := []) hC hS (hn _ (by decide)) rfl rfl (c_X7_lay l G hn x1 x2 r53 M53 _ h56) kV_X7_lay lm_X7_234 ⟨Nat.le_of_ble_eq_true rfl, Nat.le_of_ble_eq_true rfl⟩ rfl hl.1 (Nat.le_of_ble_eq_true rfl) dX7_write_56 ⟨Nat.le_refl _, Nat.le_refl _⟩ rfl (fun H locs hS => ?_)
        refine lv_iinc (v := x2 + 1) (lv' := [(2, .int (x2 + 1)), (0, .ref (G.1 61)), (1, .int x1)]) hx hb dX7_write_59 hl (k := 2) rfl rfl (by decide) rfl (fun ls hl => ?_)
        refine lv_goto (tgt := 32) hx hb dX7_write_62 (by decide) ?_
        exact ih _ _ _ _ _ _ hF hS (lv_sub hl [1, 2, 0] rfl)
set_option maxHeartbeats 4000000 in
set_option maxRecDepth 100000 in
theorem b_X7_write {M0 : Mem} {r0 : Int32} (hC : SX p m c s args cX7_write 3 RX7 G (AG G)) (hr : meth.sig.returnType = (some .int)) (hlk : meth.locks = false) (hn : ∀ i ∈ LsF, i ∈ gL G) : ∀ (x1 : Int32) (M : Mem) (H : Heap) (locs : List Loc) (ls : Array Slot), F_X7_write x1 M = some (r0, M0) → ST G (AG G) s M H locs → lv_has ls 3 [(0, .ref (G.1 61)), (1, .int x1)] → W p l e (RM 4 89) s m args below meth c H locs 0 0 (MQ below (QV G (some (.int r0)) M0) args s 0 0 (AG G)) (F0 m 0 ls []) := by
  obtain ⟨⟨hx, hb, hml, hown, hts⟩, hK, hG, hA⟩ := id hC
  intro x1 M H locs ls hF hS hl
  unfold F_X7_write at hF
  refine lv_iload_n hx hb dX7_write_0 rfl (lv_at hl 1 rfl) ?_
  obtain ⟨r1, M1, h1, hF⟩ := bd_some hF
  refine cS_ (As := [.int x1]) (v := some (.int r1)) (rest := []) (st1 := [.int r1]) hC hS (c_X7_isSheet l G hn x1 M _ _ h1) kS_X7_isSheet lm_X7_90 ⟨Nat.le_of_ble_eq_true rfl, Nat.le_of_ble_eq_true rfl⟩ rfl hl.1 (Nat.le_of_ble_eq_true rfl) dX7_write_1 ⟨Nat.le_refl _, Nat.le_refl _⟩ rfl (fun H locs hS => ?_)
  refine lv_if_ne (tgt := 10) hx hb dX7_write_4 (by decide) (fun hc => ?_) (fun hc => ?_)
  · rw [if_neg hc] at hF
    refine lv_aload_n hx hb dX7_write_10 rfl (lv_at hl 0 rfl) ?_
    refine gx (ci := 7) (k := 23) (v := .ref (G.1 37)) (C := RX7) (T := TX7) (N := 29) hC hS (hn _ (by decide)) rfl rfl in_X7 (by decide) rfl rfl lf_X7_56 dX7_write_11 ?_
    refine lv_iload_n hx hb dX7_write_14 rfl (lv_at hl 1 rfl) ?_
    obtain ⟨hi, hF⟩ := ckb_some hF
    refine zld hC hS (hn _ (by decide)) (by decide) rfl hi dX7_write_15 ?_
    refine lv_if_ne (tgt := 25) hx hb dX7_write_16 (by decide) (fun hc => ?_) (fun hc => ?_)
    · rw [if_neg hc] at hF
      refine lv_aload_n hx hb dX7_write_25 rfl (lv_at hl 0 rfl) ?_
      refine lv_iconst (v := 0) hx hb dX7_write_26 (by decide) ?_
      obtain ⟨M27, h27, hF⟩ := bdv_some hF
      refine cV_ (ci := 7) (i := 61) (C := RX7) (T := TX7) (N := 29) (As := [.int 0]) (v := none) (rest := []) (st1 := []) hC hS (hn _ (by decide)) rfl rfl (c_X7_hearsAll l G hn 0 M1 _ h27) kV_X7_hearsAll lm_X7_171 ⟨Nat.le_of_ble_eq_true rfl, Nat.le_of_ble_eq_true rfl⟩ rfl hl.1 (Nat.le_of_ble_eq_true rfl) dX7_write_27 ⟨Nat.le_refl _, Nat.le_refl _⟩ rfl (fun H locs hS => ?_)
      refine lv_iconst (v := 0) hx hb dX7_write_30 (by decide) ?_
      refine lv_istore_n (lv' := [(2, .int 0), (0, .ref (G.1 61)), (1, .int x1)]) hx hb dX7_write_31 rfl hl (by decide) rfl (fun ls hl => ?_)
      exact b_X7_write_32 hC hr hlk hn fu _ _ _ _ _ _ hF hS (lv_sub hl [1, 2, 0] rfl)
    · rw [if_pos hc] at hF
      refine lv_aload_n hx hb dX7_write_19 rfl (lv_at hl 0 rfl) ?_
      refine lv_iconst (v := 1) hx hb dX7_write_20 (by decide) ?_
      obtain ⟨r21, M21, h21, hF⟩ := bd_some hF
      refine cV_ (ci := 7) (i := 61) (C := RX7) (T := TX7) (N := 29) (As := [.int 1]) (v := some (.int r21)) (rest := []) (st1 := [.int r21]) hC hS (hn _ (by decide)) rfl rfl (c_X7_meets l G hn 1 M1 _ _ h21) kV_X7_meets lm_X7_93 ⟨Nat.le_of_ble_eq_true rfl, Nat.le_of_ble_eq_true rfl⟩ rfl hl.1 (Nat.le_of_ble_eq_true rfl) dX7_write_21 ⟨Nat.le_refl _, Nat.le_refl _⟩ rfl (fun H locs hS => ?_)
      exact retI hC hS hr hlk hF dX7_write_24
  · rw [if_pos hc] at hF
    refine lv_bipush (v := (-2)) hx hb dX7_write_7 (by decide) ?_
    exact retI hC hS hr hlk hF dX7_write_9
set_option maxRecDepth 100000 in
theorem c_X7_write (l : Launch) (G : GT) (hn : ∀ i ∈ LsF, i ∈ gL G) (x1 : Int32) (M : Mem) (r0 : Int32) (M0 : Mem) (hF : F_X7_write x1 M = some (r0, M0)) : MetG l G yX7_write cX7_write 3 (some .int) 4 89 [.ref (G.1 61), .int x1] M (some (.int r0)) M0 := by
  refine MetG.of (by decide) (Nat.le_of_ble_eq_true rfl) ?_
  intro p e s m args below meth c hC hr hlk hnm ls hS hl
  exact b_X7_write hC hr hlk hn _ _ _ _ _ hF hS hl
def F_X7_roadMany_36 (k4 : Int32 → Int32 → Mem → Option (Int32 × Mem)) (x2 : Int32) (t0 : Int32) (t1 : Int32) (M : Mem) : Option (Int32 × Mem) := k4 (t0 + t1) (x2 + 1) M
def F_X7_roadMany_35 (k4 : Int32 → Int32 → Mem → Option (Int32 × Mem)) (x2 : Int32) (t0 : Int32) (M : Mem) : Option (Int32 × Mem) := F_X7_roadMany_36 k4 x2 t0 0 M
def F_X7_roadMany_4 : Nat → Int32 → Int32 → Mem → Option (Int32 × Mem)
  | 0, _, _, _ => none
  | n + 1, x1, x2, M => if 36 ≤ x2 then some (x1, M) else if (x2 - x2 / 6 * 6) ≤ (x2 / 6) then F_X7_roadMany_35 (F_X7_roadMany_4 n) x2 x1 M else ckb (ix x2 36) (if (M.2 22 x2.toNatClampNeg) ≤ 0 then F_X7_roadMany_35 (F_X7_roadMany_4 n) x2 x1 M else F_X7_roadMany_36 (F_X7_roadMany_4 n) x2 x1 1 M)
def F_X7_roadMany (M : Mem) : Option (Int32 × Mem) := F_X7_roadMany_4 fu 0 0 M
set_option maxHeartbeats 4000000 in
set_option maxRecDepth 100000 in
theorem b_X7_roadMany_36 {k4 : Int32 → Int32 → Mem → Option (Int32 × Mem)} {M0 : Mem} {r0 : Int32} (hC : SX p m c s args cX7_roadMany 3 RX7 G (AG G)) (hr : meth.sig.returnType = (some .int)) (hlk : meth.locks = false) (hn : ∀ i ∈ LsF, i ∈ gL G) (hk4 : ∀ (x1 : Int32) (x2 : Int32) (M : Mem) (H : Heap) (locs : List Loc) (ls : Array Slot), k4 x1 x2 M = some (r0, M0) → ST G (AG G) s M H locs → lv_has ls 3 [(0, .ref (G.1 61)), (1, .int x1), (2, .int x2)] → W p l e (RM 0 0) s m args below meth c H locs 0 0 (MQ below (QV G (some (.int r0)) M0) args s 0 0 (AG G)) (F0 m 4 ls [])) : ∀ (x2 : Int32) (t0 : Int32) (t1 : Int32) (M : Mem) (H : Heap) (locs : List Loc) (ls : Array Slot), F_X7_roadMany_36 k4 x2 t0 t1 M = some (r0, M0) → ST G (AG G) s M H locs → lv_has ls 3 [(0, .ref (G.1 61)), (2, .int x2)] → W p l e (RM 0 0) s m args below meth c H locs 0 0 (MQ below (QV G (some (.int r0)) M0) args s 0 0 (AG G)) (F0 m 36 ls [.int t1, .int t0]) := by
  obtain ⟨⟨hx, hb, hml, hown, hts⟩, hK, hG, hA⟩ := id hC
  intro x2 t0 t1 M H locs ls hF hS hl
  unfold F_X7_roadMany_36 at hF
  refine lv_iadd hx hb dX7_roadMany_36 ?_
  refine lv_istore_n (lv' := [(1, .int (t0 + t1)), (0, .ref (G.1 61)), (2, .int x2)]) hx hb dX7_roadMany_37 rfl hl (by decide) rfl (fun ls hl => ?_)
  refine lv_iinc (v := x2 + 1) (lv' := [(2, .int (x2 + 1)), (1, .int (t0 + t1)), (0, .ref (G.1 61))]) hx hb dX7_roadMany_38 hl (k := 2) rfl rfl (by decide) rfl (fun ls hl => ?_)
  refine lv_goto (tgt := 4) hx hb dX7_roadMany_41 (by decide) ?_
  exact hk4 _ _ _ _ _ _ hF hS (lv_sub hl [2, 1, 0] rfl)
set_option maxHeartbeats 4000000 in
set_option maxRecDepth 100000 in
theorem b_X7_roadMany_35 {k4 : Int32 → Int32 → Mem → Option (Int32 × Mem)} {M0 : Mem} {r0 : Int32} (hC : SX p m c s args cX7_roadMany 3 RX7 G (AG G)) (hr : meth.sig.returnType = (some .int)) (hlk : meth.locks = false) (hn : ∀ i ∈ LsF, i ∈ gL G) (hk4 : ∀ (x1 : Int32) (x2 : Int32) (M : Mem) (H : Heap) (locs : List Loc) (ls : Array Slot), k4 x1 x2 M = some (r0, M0) → ST G (AG G) s M H locs → lv_has ls 3 [(0, .ref (G.1 61)), (1, .int x1), (2, .int x2)] → W p l e (RM 0 0) s m args below meth c H locs 0 0 (MQ below (QV G (some (.int r0)) M0) args s 0 0 (AG G)) (F0 m 4 ls [])) : ∀ (x2 : Int32) (t0 : Int32) (M : Mem) (H : Heap) (locs : List Loc) (ls : Array Slot), F_X7_roadMany_35 k4 x2 t0 M = some (r0, M0) → ST G (AG G) s M H locs → lv_has ls 3 [(0, .ref (G.1 61)), (2, .int x2)] → W p l e (RM 0 0) s m args below meth c H locs 0 0 (MQ below (QV G (some (.int r0)) M0) args s 0 0 (AG G)) (F0 m 35 ls [.int t0]) := by
  obtain ⟨⟨hx, hb, hml, hown, hts⟩, hK, hG, hA⟩ := id hC
  intro x2 t0 M H locs ls hF hS hl
  unfold F_X7_roadMany_35 at hF
  refine lv_iconst (v := 0) hx hb dX7_roadMany_35 (by decide) ?_
  exact b_X7_roadMany_36 hC hr hlk hn hk4 _ _ _ _ _ _ _ hF hS (lv_sub hl [0, 1] rfl)
set_option maxHeartbeats 4000000 in
set_option maxRecDepth 100000 in
theorem b_X7_roadMany_4 {M0 : Mem} {r0 : Int32} (hC : SX p m c s args cX7_roadMany 3 RX7 G (AG G)) (hr : meth.sig.returnType = (some .int)) (hlk : meth.locks = false) (hn : ∀ i ∈ LsF, i ∈ gL G) : ∀ (n : Nat) (x1 : Int32) (x2 : Int32) (M : Mem) (H : Heap) (locs : List Loc) (ls : Array Slot), F_X7_roadMany_4 n x1 x2 M = some (r0, M0) → ST G (AG G) s M H locs → lv_has ls 3 [(0, .ref (G.1 61)), (1, .int x1), (2, .int x2)] → W p l e (RM 0 0) s m args below meth c H locs 0 0 (MQ below (QV G (some (.int r0)) M0) args s 0 0 (AG G)) (F0 m 4 ls []) := by
  obtain ⟨⟨hx, hb, hml, hown, hts⟩, hK, hG, hA⟩ := id hC
  intro n
  induction n with
  | zero =>
    intro x1 x2 M H locs ls hF
    cases hF
  | succ n ih =>
    intro x1 x2 M H locs ls hF hS hl
    unfold F_X7_roadMany_4 at hF
    refine lv_iload_n hx hb dX7_roadMany_4 rfl (lv_at hl 2 rfl) ?_
    refine lv_bipush (v := 36) hx hb dX7_roadMany_5 (by decide) ?_
    refine lv_icmp_ge (tgt := 44) hx hb dX7_roadMany_7 (by decide) (fun hc => ?_) (fun hc => ?_)
    · rw [if_pos hc] at hF
      refine lv_iload_n hx hb dX7_roadMany_44 rfl (lv_at hl 1 rfl) ?_
      exact retI hC hS hr hlk hF dX7_roadMany_45
    · rw [if_neg hc] at hF
      refine lv_iload_n hx hb dX7_roadMany_10 rfl (lv_at hl 1 rfl) ?_
      refine lv_iload_n hx hb dX7_roadMany_11 rfl (lv_at hl 2 rfl) ?_
      refine lv_bipush (v := 6) hx hb dX7_roadMany_12 (by decide) ?_
      refine lv_idiv hx hb dX7_roadMany_14 (by decide) ?_
      refine lv_iload_n hx hb dX7_roadMany_15 rfl (lv_at hl 2 rfl) ?_
      refine lv_bipush (v := 6) hx hb dX7_roadMany_16 (by decide) ?_
      refine lv_irem hx hb dX7_roadMany_18 (by decide) ?_
      refine lv_icmp_ge (tgt := 35) hx hb dX7_roadMany_19 (by decide) (fun hc => ?_) (fun hc => ?_)
      · rw [if_pos hc] at hF
        exact b_X7_roadMany_35 hC hr hlk hn ih _ _ _ _ _ _ hF hS (lv_sub hl [0, 2] rfl)
      · rw [if_neg hc] at hF
        refine lv_aload_n hx hb dX7_roadMany_22 rfl (lv_at hl 0 rfl) ?_
        refine gx (ci := 7) (k := 0) (v := .ref (G.1 22)) (C := RX7) (T := TX7) (N := 29) hC hS (hn _ (by decide)) rfl rfl in_X7 (by decide) rfl rfl lf_X7_7 dX7_roadMany_23 ?_
        refine lv_iload_n hx hb dX7_roadMany_26 rfl (lv_at hl 2 rfl) ?_
        obtain ⟨hi, hF⟩ := ckb_some hF
        refine ald hC hS (hn _ (by decide)) (by decide) rfl hi dX7_roadMany_27 ?_
        refine lv_if_le (tgt := 35) hx hb dX7_roadMany_28 (by decide) (fun hc => ?_) (fun hc => ?_)
        · rw [if_pos hc] at hF
          exact b_X7_roadMany_35 hC hr hlk hn ih _ _ _ _ _ _ hF hS (lv_sub hl [0, 2] rfl)
        · rw [if_neg hc] at hF
          refine lv_iconst (v := 1) hx hb dX7_roadMany_31 (by decide) ?_
          refine lv_goto (tgt := 36) hx hb dX7_roadMany_32 (by decide) ?_
          exact b_X7_roadMany_36 hC hr hlk hn ih _ _ _ _ _ _ _ hF hS (lv_sub hl [0, 2] rfl)
set_option maxHeartbeats 4000000 in
set_option maxRecDepth 100000 in
theorem b_X7_roadMany {M0 : Mem} {r0 : Int32} (hC : SX p m c s args cX7_roadMany 3 RX7 G (AG G)) (hr : meth.sig.returnType = (some .int)) (hlk : meth.locks = false) (hn : ∀ i ∈ LsF, i ∈ gL G) : ∀ (M : Mem) (H : Heap) (locs : List Loc) (ls : Array Slot), F_X7_roadMany M = some (r0, M0) → ST G (AG G) s M H locs → lv_has ls 3 [(0, .ref (G.1 61))] → W p l e (RM 0 0) s m args below meth c H locs 0 0 (MQ below (QV G (some (.int r0)) M0) args s 0 0 (AG G)) (F0 m 0 ls []) := by
  obtain ⟨⟨hx, hb, hml, hown, hts⟩, hK, hG, hA⟩ := id hC
  intro M H locs ls hF hS hl
  unfold F_X7_roadMany at hF
  refine lv_iconst (v := 0) hx hb dX7_roadMany_0 (by decide) ?_
  refine lv_istore_n (lv' := [(1, .int 0), (0, .ref (G.1 61))]) hx hb dX7_roadMany_1 rfl hl (by decide) rfl (fun ls hl => ?_)
  refine lv_iconst (v := 0) hx hb dX7_roadMany_2 (by decide) ?_
  refine lv_istore_n (lv' := [(2, .int 0), (1, .int 0), (0, .ref (G.1 61))]) hx hb dX7_roadMany_3 rfl hl (by decide) rfl (fun ls hl => ?_)
  exact b_X7_roadMany_4 hC hr hlk hn fu _ _ _ _ _ _ hF hS (lv_sub hl [2, 1, 0] rfl)
set_option maxRecDepth 100000 in
theorem c_X7_roadMany (l : Launch) (G : GT) (hn : ∀ i ∈ LsF, i ∈ gL G) (M : Mem) (r0 : Int32) (M0 : Mem) (hF : F_X7_roadMany M = some (r0, M0)) : MetG l G yX7_roadMany cX7_roadMany 3 (some .int) 0 0 [.ref (G.1 61)] M (some (.int r0)) M0 := by
  refine MetG.of (by decide) (Nat.le_of_ble_eq_true rfl) ?_
  intro p e s m args below meth c hC hr hlk hnm ls hS hl
  exact b_X7_roadMany hC hr hlk hn _ _ _ _ hF hS hl
def F_X7_count (x1 : Int32) (M : Mem) : Option (Int32 × Mem) := if x1 = 0 then some (M.1 40, M) else if x1 = 1 then some (M.1 41, M) else if x1 = 2 then ckb (ix (x1 - 2) 2) (some (M.2 29 (x1 - 2).toNatClampNeg, M)) else if x1 = 3 then ckb (ix (x1 - 2) 2) (some (M.2 29 (x1 - 2).toNatClampNeg, M)) else if x1 = 4 then bd (F_X7_roadMany M) (fun r72 M72 => some (r72, M72)) else if x1 = 5 then bdv (F_X7_laysPossible M) (fun M77 => some (M77.1 42, M77)) else if x1 = 6 then some ((-2), M) else if x1 = 7 then some ((-2), M) else if x1 = 8 then some (M.1 48, M) else some ((-2), M)
set_option maxHeartbeats 4000000 in
set_option maxRecDepth 100000 in
theorem b_X7_count {M0 : Mem} {r0 : Int32} (hC : SX p m c s args cX7_count 2 RX7 G (AG G)) (hr : meth.sig.returnType = (some .int)) (hlk : meth.locks = false) (hn : ∀ i ∈ LsF, i ∈ gL G) : ∀ (x1 : Int32) (M : Mem) (H : Heap) (locs : List Loc) (ls : Array Slot), F_X7_count x1 M = some (r0, M0) → ST G (AG G) s M H locs → lv_has ls 2 [(0, .ref (G.1 61)), (1, .int x1)] → W p l e (RM 2 44) s m args below meth c H locs 0 0 (MQ below (QV G (some (.int r0)) M0) args s 0 0 (AG G)) (F0 m 0 ls []) := by
  obtain ⟨⟨hx, hb, hml, hown, hts⟩, hK, hG, hA⟩ := id hC
  intro x1 M H locs ls hF hS hl
  unfold F_X7_count at hF
  refine lv_iload_n hx hb dX7_count_0 rfl (lv_at hl 1 rfl) ?_
  by_cases hc0 : x1 = 0
  · rw [if_pos hc0] at hF
    refine lv_tableIn (off := 51) (tgt := 52) hx hb dX7_count_1 (by rw [hc0]; decide) (by rw [hc0]; decide) (by rw [hc0]; rfl) (by decide) ?_
    refine lv_aload_n hx hb dX7_count_52 rfl (lv_at hl 0 rfl) ?_
    refine gx (ci := 7) (k := 2) (v := .int (M.1 40)) (C := RX7) (T := TX7) (N := 29) hC hS (hn _ (by decide)) rfl rfl in_X7 (by decide) rfl rfl lf_X7_82 dX7_count_53 ?_
    exact retI hC hS hr hlk hF dX7_count_56
  rw [if_neg hc0] at hF
  by_cases hc1 : x1 = 1
  · rw [if_pos hc1] at hF
    refine lv_tableIn (off := 56) (tgt := 57) hx hb dX7_count_1 (by rw [hc1]; decide) (by rw [hc1]; decide) (by rw [hc1]; rfl) (by decide) ?_
    refine lv_aload_n hx hb dX7_count_57 rfl (lv_at hl 0 rfl) ?_
    refine gx (ci := 7) (k := 8) (v := .int (M.1 41)) (C := RX7) (T := TX7) (N := 29) hC hS (hn _ (by decide)) rfl rfl in_X7 (by decide) rfl rfl lf_X7_101 dX7_count_58 ?_
    exact retI hC hS hr hlk hF dX7_count_61
  rw [if_neg hc1] at hF
  by_cases hc2 : x1 = 2
  · rw [if_pos hc2] at hF
    refine lv_tableIn (off := 61) (tgt := 62) hx hb dX7_count_1 (by rw [hc2]; decide) (by rw [hc2]; decide) (by rw [hc2]; rfl) (by decide) ?_
    refine lv_aload_n hx hb dX7_count_62 rfl (lv_at hl 0 rfl) ?_
    refine gx (ci := 7) (k := 10) (v := .ref (G.1 29)) (C := RX7) (T := TX7) (N := 29) hC hS (hn _ (by decide)) rfl rfl in_X7 (by decide) rfl rfl lf_X7_31 dX7_count_63 ?_
    refine lv_iload_n hx hb dX7_count_66 rfl (lv_at hl 1 rfl) ?_
    refine lv_iconst (v := 2) hx hb dX7_count_67 (by decide) ?_
    refine lv_isub hx hb dX7_count_68 ?_
    obtain ⟨hi, hF⟩ := ckb_some hF
    refine ald hC hS (hn _ (by decide)) (by decide) rfl hi dX7_count_69 ?_
    exact retI hC hS hr hlk hF dX7_count_70
  rw [if_neg hc2] at hF
  by_cases hc3 : x1 = 3
  · rw [if_pos hc3] at hF
    refine lv_tableIn (off := 61) (tgt := 62) hx hb dX7_count_1 (by rw [hc3]; decide) (by rw [hc3]; decide) (by rw [hc3]; rfl) (by decide) ?_
    refine lv_aload_n hx hb dX7_count_62 rfl (lv_at hl 0 rfl) ?_
    refine gx (ci := 7) (k := 10) (v := .ref (G.1 29)) (C := RX7) (T := TX7) (N := 29) hC hS (hn _ (by decide)) rfl rfl in_X7 (by decide) rfl rfl lf_X7_31 dX7_count_63 ?_
    refine lv_iload_n hx hb dX7_count_66 rfl (lv_at hl 1 rfl) ?_
    refine lv_iconst (v := 2) hx hb dX7_count_67 (by decide) ?_
    refine lv_isub hx hb dX7_count_68 ?_
    obtain ⟨hi, hF⟩ := ckb_some hF
    refine ald hC hS (hn _ (by decide)) (by decide) rfl hi dX7_count_69 ?_
    exact retI hC hS hr hlk hF dX7_count_70
  rw [if_neg hc3] at hF
  by_cases hc4 : x1 = 4
  · rw [if_pos hc4] at hF
    refine lv_tableIn (off := 70) (tgt := 71) hx hb dX7_count_1 (by rw [hc4]; decide) (by rw [hc4]; decide) (by rw [hc4]; rfl) (by decide) ?_
    refine lv_aload_n hx hb dX7_count_71 rfl (lv_at hl 0 rfl) ?_
    obtain ⟨r72, M72, h72, hF⟩ := bd_some hF
    refine cV_ (ci := 7) (i := 61) (C := RX7) (T := TX7) (N := 29) (As := []) (v := some (.int r72)) (rest := []) (st1 := [.int r72]) hC hS (hn _ (by decide)) rfl rfl (c_X7_roadMany l G hn M _ _ h72) kV_X7_roadMany lm_X7_239 ⟨Nat.le_of_ble_eq_true rfl, Nat.le_of_ble_eq_true rfl⟩ rfl hl.1 (Nat.le_of_ble_eq_true rfl) dX7_count_72 ⟨Nat.le_refl _, Nat.le_refl _⟩ rfl (fun H locs hS => ?_)
    exact retI hC hS hr hlk hF dX7_count_75
  rw [if_neg hc4] at hF
  by_cases hc5 : x1 = 5
  · rw [if_pos hc5] at hF
    refine lv_tableIn (off := 75) (tgt := 76) hx hb dX7_count_1 (by rw [hc5]; decide) (by rw [hc5]; decide) (by rw [hc5]; rfl) (by decide) ?_
    refine lv_aload_n hx hb dX7_count_76 rfl (lv_at hl 0 rfl) ?_
    obtain ⟨M77, h77, hF⟩ := bdv_some hF
    refine cV_ (ci := 7) (i := 61) (C := RX7) (T := TX7) (N := 29) (As := []) (v := none) (rest := []) (st1 := []) hC hS (hn _ (by decide)) rfl rfl (c_X7_laysPossible l G hn M _ h77) kV_X7_laysPossible lm_X7_114 ⟨Nat.le_of_ble_eq_true rfl, Nat.le_of_ble_eq_true rfl⟩ rfl hl.1 (Nat.le_of_ble_eq_true rfl) dX7_count_77 ⟨Nat.le_refl _, Nat.le_refl _⟩ rfl (fun H locs hS => ?_)
    refine lv_aload_n hx hb dX7_count_80 rfl (lv_at hl 0 rfl) ?_
    refine gx (ci := 7) (k := 9) (v := .int (M77.1 42)) (C := RX7) (T := TX7) (N := 29) hC hS (hn _ (by decide)) rfl rfl in_X7 (by decide) rfl rfl lf_X7_104 dX7_count_81 ?_
    exact retI hC hS hr hlk hF dX7_count_84
  rw [if_neg hc5] at hF
  by_cases hc6 : x1 = 6
  · rw [if_pos hc6] at hF
    refine lv_tableIn (off := 89) (tgt := 90) hx hb dX7_count_1 (by rw [hc6]; decide) (by rw [hc6]; decide) (by rw [hc6]; rfl) (by decide) ?_
    refine lv_bipush (v := (-2)) hx hb dX7_count_90 (by decide) ?_
    exact retI hC hS hr hlk hF dX7_count_92
  rw [if_neg hc6] at hF
  by_cases hc7 : x1 = 7
  · rw [if_pos hc7] at hF
    refine lv_tableIn (off := 89) (tgt := 90) hx hb dX7_count_1 (by rw [hc7]; decide) (by rw [hc7]; decide) (by rw [hc7]; rfl) (by decide) ?_
    refine lv_bipush (v := (-2)) hx hb dX7_count_90 (by decide) ?_
    exact retI hC hS hr hlk hF dX7_count_92
  rw [if_neg hc7] at hF
  by_cases hc8 : x1 = 8
  · rw [if_pos hc8] at hF
    refine lv_tableIn (off := 84) (tgt := 85) hx hb dX7_count_1 (by rw [hc8]; decide) (by rw [hc8]; decide) (by rw [hc8]; rfl) (by decide) ?_
    refine lv_aload_n hx hb dX7_count_85 rfl (lv_at hl 0 rfl) ?_
    refine gx (ci := 7) (k := 28) (v := .int (M.1 48)) (C := RX7) (T := TX7) (N := 29) hC hS (hn _ (by decide)) rfl rfl in_X7 (by decide) rfl rfl lf_X7_227 dX7_count_86 ?_
    exact retI hC hS hr hlk hF dX7_count_89
  rw [if_neg hc8] at hF
  have hc0 := neI hc0
  have hc1 := neI hc1
  have hc2 := neI hc2
  have hc3 := neI hc3
  have hc4 := neI hc4
  have hc5 := neI hc5
  have hc6 := neI hc6
  have hc7 := neI hc7
  have hc8 := neI hc8
  refine lv_tableOut (tgt := 90) hx hb dX7_count_1 (tOut0_8 hc0 hc1 hc2 hc3 hc4 hc5 hc6 hc7 hc8) (by decide) ?_
  refine lv_bipush (v := (-2)) hx hb dX7_count_90 (by decide) ?_
  exact retI hC hS hr hlk hF dX7_count_92
set_option maxRecDepth 100000 in
theorem c_X7_count (l : Launch) (G : GT) (hn : ∀ i ∈ LsF, i ∈ gL G) (x1 : Int32) (M : Mem) (r0 : Int32) (M0 : Mem) (hF : F_X7_count x1 M = some (r0, M0)) : MetG l G yX7_count cX7_count 2 (some .int) 2 44 [.ref (G.1 61), .int x1] M (some (.int r0)) M0 := by
  refine MetG.of (by decide) (Nat.le_of_ble_eq_true rfl) ?_
  intro p e s m args below meth c hC hr hlk hnm ls hS hl
  exact b_X7_count hC hr hlk hn _ _ _ _ _ hF hS hl
def F_X7_digest_146 (k80 : Int64 → Int32 → Mem → Option (Int64 × Mem)) : Nat → Int64 → Int32 → Int32 → Mem → Option (Int64 × Mem)
  | 0, _, _, _, _ => none
  | n + 1, y1, x3, x4, M => if 3 ≤ x4 then bd (F_X7_leastOf x3 M) (fun r179 M179 => bd (F_X7_fullNow x3 (-1) M179) (fun r193 M193 => k80 ((31 * ((31 * y1) + (r179.toInt64))) + (r193.toInt64)) (x3 + 1) M193)) else bd (F_X7_tells x4 M) (fun r160 M160 => F_X7_digest_146 k80 n ((31 * y1) + (r160.toInt64)) x3 (x4 + 1) M160)
def F_X7_digest_107 (k80 : Int64 → Int32 → Mem → Option (Int64 × Mem)) : Nat → Int64 → Int32 → Int32 → Mem → Option (Int64 × Mem)
  | 0, _, _, _, _ => none
  | n + 1, y1, x3, x4, M => if 4 ≤ x4 then bdv (F_X7_hearsAll x3 M) (fun M140 => F_X7_digest_146 k80 fu y1 x3 0 M140) else ckb (ix ((4 * x3) + x4) 8) (F_X7_digest_107 k80 n ((31 * y1) + ((M.2 32 ((4 * x3) + x4).toNatClampNeg).toInt64)) x3 (x4 + 1) M)
def F_X7_digest_80 : Nat → Int64 → Int32 → Mem → Option (Int64 × Mem)
  | 0, _, _, _ => none
  | n + 1, y1, x3, M => if 2 ≤ x3 then bd (F_X7_ringNow M) (fun r211 M211 => bd (F_X7_mostNow M211) (fun r223 M223 => some ((31 * ((31 * y1) + (r211.toInt64))) + (r223.toInt64), M223))) else bdv (F_X7_reads x3 M) (fun M87 => ckb (ix x3 2) (F_X7_digest_107 (F_X7_digest_80 n) fu ((31 * y1) + ((M87.2 31 x3.toNatClampNeg).toInt64)) x3 0 M87))
def F_X7_digest_44 (k33 : Int64 → Int32 → Mem → Option (Int64 × Mem)) : Nat → Int64 → Int32 → Int32 → Mem → Option (Int64 × Mem)
  | 0, _, _, _, _ => none
  | n + 1, y1, x3, x4, M => if 7 ≤ x4 then k33 y1 (x3 + 1) M else bd (F_X7_isNow x3 x4 M) (fun r60 M60 => F_X7_digest_44 k33 n ((31 * y1) + (r60.toInt64)) x3 (x4 + 1) M60)
def F_X7_digest_33 : Nat → Int64 → Int32 → Mem → Option (Int64 × Mem)
  | 0, _, _, _ => none
  | n + 1, y1, x3, M => if (M.1 40) ≤ x3 then F_X7_digest_80 fu y1 0 M else F_X7_digest_44 (F_X7_digest_33 n) fu y1 x3 0 M
def F_X7_digest_6 : Nat → Int64 → Int32 → Mem → Option (Int64 × Mem)
  | 0, _, _, _ => none
  | n + 1, y1, x3, M => if 6 ≤ x3 then F_X7_digest_33 fu y1 0 M else bd (F_X7_count x3 M) (fun r19 M19 => F_X7_digest_6 n ((31 * y1) + (r19.toInt64)) (x3 + 1) M19)
def F_X7_digest (M : Mem) : Option (Int64 × Mem) := F_X7_digest_6 fu 17 0 M
set_option maxHeartbeats 4000000 in
set_option maxRecDepth 100000 in
theorem b_X7_digest_146 {k80 : Int64 → Int32 → Mem → Option (Int64 × Mem)} {M0 : Mem} {r0 : Int64} (hC : SX p m c s args cX7_digest 5 RX7 G (AG G)) (hr : meth.sig.returnType = (some .long)) (hlk : meth.locks = false) (hn : ∀ i ∈ LsF, i ∈ gL G) (hk80 : ∀ (y1 : Int64) (x3 : Int32) (M : Mem) (H : Heap) (locs : List Loc) (ls : Array Slot), k80 y1 x3 M = some (r0, M0) → ST G (AG G) s M H locs → lv_has ls 5 [(0, .ref (G.1 61)), (1, .long y1), (3, .int x3)] → W p l e (RM 6 135) s m args below meth c H locs 0 0 (MQ below (QV G (some (.long r0)) M0) args s 0 0 (AG G)) (F0 m 80 ls [])) : ∀ (n : Nat) (y1 : Int64) (x3 : Int32) (x4 : Int32) (M : Mem) (H : Heap) (locs : List Loc) (ls : Array Slot), F_X7_digest_146 k80 n y1 x3 x4 M = some (r0, M0) → ST G (AG G) s M H locs → lv_has ls 5 [(0, .ref (G.1 61)), (1, .long y1), (3, .int x3), (4, .int x4)] → W p l e (RM 6 135) s m args below meth c H locs 0 0 (MQ below (QV G (some (.long r0)) M0) args s 0 0 (AG G)) (F0 m 146 ls []) := by
  obtain ⟨⟨hx, hb, hml, hown, hts⟩, hK, hG, hA⟩ := id hC
  intro n
  induction n with
  | zero =>
    intro y1 x3 x4 M H locs ls hF
    cases hF
  | succ n ih =>
    intro y1 x3 x4 M H locs ls hF hS hl
    unfold F_X7_digest_146 at hF
    refine lv_iload hx hb dX7_digest_146 (lv_at hl 3 rfl) ?_
    refine lv_iconst (v := 3) hx hb dX7_digest_148 (by decide) ?_
    refine lv_icmp_ge (tgt := 172) hx hb dX7_digest_149 (by decide) (fun hc => ?_) (fun hc => ?_)
    · rw [if_pos hc] at hF
      refine lv_ldc2 (v := 31) hx hb hown (hts _ lc_X7_244) dX7_digest_172 ?_
      refine lv_lload_n hx hb dX7_digest_175 rfl (lv_at hl 1 rfl) ?_
      refine lv_lmul hx hb dX7_digest_176 ?_
      refine lv_aload_n hx hb dX7_digest_177 rfl (lv_at hl 0 rfl) ?_
      refine lv_iload_n hx hb dX7_digest_178 rfl (lv_at hl 2 rfl) ?_
      obtain ⟨r179, M179, h179, hF⟩ := bd_some hF
      refine cV_ (ci := 7) (i := 61) (C := RX7) (T := TX7) (N := 29) (As := [.int x3]) (v := some (.int r179)) (rest := [.long (31 * y1)]) (st1 := [.int r179, .long (31 * y1)]) hC hS (hn _ (by decide)) rfl rfl (c_X7_leastOf l G hn x3 M _ _ h179) kV_X7_leastOf lm_X7_206 ⟨Nat.le_of_ble_eq_true rfl, Nat.le_of_ble_eq_true rfl⟩ rfl hl.1 (Nat.le_of_ble_eq_true rfl) dX7_digest_179 ⟨Nat.le_refl _, Nat.le_refl _⟩ rfl (fun H locs hS => ?_)
      refine lv_i2l hx hb dX7_digest_182 rfl ?_
      refine lv_ladd hx hb dX7_digest_183 ?_
      refine lv_lstore_n (lv' := [(1, .long ((31 * y1) + (r179.toInt64))), (0, .ref (G.1 61)), (3, .int x3), (4, .int x4)]) hx hb dX7_digest_184 rfl hl (by decide) rfl (fun ls hl => ?_)
      refine lv_ldc2 (v := 31) hx hb hown (hts _ lc_X7_244) dX7_digest_185 ?_
      refine lv_lload_n hx hb dX7_digest_188 rfl (lv_at hl 0 rfl) ?_
      refine lv_lmul hx hb dX7_digest_189 ?_
      refine lv_aload_n hx hb dX7_digest_190 rfl (lv_at hl 1 rfl) ?_
      refine lv_iload_n hx hb dX7_digest_191 rfl (lv_at hl 2 rfl) ?_
      refine lv_iconst (v := (-1)) hx hb dX7_digest_192 (by decide) ?_
      obtain ⟨r193, M193, h193, hF⟩ := bd_some hF
      refine cV_ (ci := 7) (i := 61) (C := RX7) (T := TX7) (N := 29) (As := [.int x3, .int ((-1))]) (v := some (.int r193)) (rest := [.long (31 * ((31 * y1) + (r179.toInt64)))]) (st1 := [.int r193, .long (31 * ((31 * y1) + (r179.toInt64)))]) hC hS (hn _ (by decide)) rfl rfl (c_X7_fullNow l G hn x3 (-1) M179 _ _ h193) kV_X7_fullNow lm_X7_215 ⟨Nat.le_of_ble_eq_true rfl, Nat.le_of_ble_eq_true rfl⟩ rfl hl.1 (Nat.le_of_ble_eq_true rfl) dX7_digest_193 ⟨Nat.le_refl _, Nat.le_refl _⟩ rfl (fun H locs hS => ?_)
      refine lv_i2l hx hb dX7_digest_196 rfl ?_
      refine lv_ladd hx hb dX7_digest_197 ?_
      refine lv_lstore_n (lv' := [(1, .long ((31 * ((31 * y1) + (r179.toInt64))) + (r193.toInt64))), (0, .ref (G.1 61)), (3, .int x3), (4, .int x4)]) hx hb dX7_digest_198 rfl hl (by decide) rfl (fun ls hl => ?_)
      refine lv_iinc (v := x3 + 1) (lv' := [(3, .int (x3 + 1)), (1, .long ((31 * ((31 * y1) + (r179.toInt64))) + (r193.toInt64))), (0, .ref (G.1 61)), (4, .int x4)]) hx hb dX7_digest_199 hl (k := 2) rfl rfl (by decide) rfl (fun ls hl => ?_)
      refine lv_goto (tgt := 80) hx hb dX7_digest_202 (by decide) ?_
      exact hk80 _ _ _ _ _ _ hF hS (lv_sub hl [2, 1, 0] rfl)
    · rw [if_neg hc] at hF
      refine lv_ldc2 (v := 31) hx hb hown (hts _ lc_X7_244) dX7_digest_152 ?_
      refine lv_lload_n hx hb dX7_digest_155 rfl (lv_at hl 1 rfl) ?_
      refine lv_lmul hx hb dX7_digest_156 ?_
      refine lv_aload_n hx hb dX7_digest_157 rfl (lv_at hl 0 rfl) ?_
      refine lv_iload hx hb dX7_digest_158 (lv_at hl 3 rfl) ?_
      obtain ⟨r160, M160, h160, hF⟩ := bd_some hF
      refine cV_ (ci := 7) (i := 61) (C := RX7) (T := TX7) (N := 29) (As := [.int x4]) (v := some (.int r160)) (rest := [.long (31 * y1)]) (st1 := [.int r160, .long (31 * y1)]) hC hS (hn _ (by decide)) rfl rfl (c_X7_tells l G hn x4 M _ _ h160) kV_X7_tells lm_X7_174 ⟨Nat.le_of_ble_eq_true rfl, Nat.le_of_ble_eq_true rfl⟩ rfl hl.1 (Nat.le_of_ble_eq_true rfl) dX7_digest_160 ⟨Nat.le_refl _, Nat.le_refl _⟩ rfl (fun H locs hS => ?_)
      refine lv_i2l hx hb dX7_digest_163 rfl ?_
      refine lv_ladd hx hb dX7_digest_164 ?_
      refine lv_lstore_n (lv' := [(1, .long ((31 * y1) + (r160.toInt64))), (0, .ref (G.1 61)), (3, .int x3), (4, .int x4)]) hx hb dX7_digest_165 rfl hl (by decide) rfl (fun ls hl => ?_)
      refine lv_iinc (v := x4 + 1) (lv' := [(4, .int (x4 + 1)), (1, .long ((31 * y1) + (r160.toInt64))), (0, .ref (G.1 61)), (3, .int x3)]) hx hb dX7_digest_166 hl (k := 3) rfl rfl (by decide) rfl (fun ls hl => ?_)
      refine lv_goto (tgt := 146) hx hb dX7_digest_169 (by decide) ?_
      exact ih _ _ _ _ _ _ _ hF hS (lv_sub hl [2, 1, 3, 0] rfl)
set_option maxHeartbeats 4000000 in
set_option maxRecDepth 100000 in
theorem b_X7_digest_107 {k80 : Int64 → Int32 → Mem → Option (Int64 × Mem)} {M0 : Mem} {r0 : Int64} (hC : SX p m c s args cX7_digest 5 RX7 G (AG G)) (hr : meth.sig.returnType = (some .long)) (hlk : meth.locks = false) (hn : ∀ i ∈ LsF, i ∈ gL G) (hk80 : ∀ (y1 : Int64) (x3 : Int32) (M : Mem) (H : Heap) (locs : List Loc) (ls : Array Slot), k80 y1 x3 M = some (r0, M0) → ST G (AG G) s M H locs → lv_has ls 5 [(0, .ref (G.1 61)), (1, .long y1), (3, .int x3)] → W p l e (RM 6 135) s m args below meth c H locs 0 0 (MQ below (QV G (some (.long r0)) M0) args s 0 0 (AG G)) (F0 m 80 ls [])) : ∀ (n : Nat) (y1 : Int64) (x3 : Int32) (x4 : Int32) (M : Mem) (H : Heap) (locs : List Loc) (ls : Array Slot), F_X7_digest_107 k80 n y1 x3 x4 M = some (r0, M0) → ST G (AG G) s M H locs → lv_has ls 5 [(0, .ref (G.1 61)), (1, .long y1), (3, .int x3), (4, .int x4)] → W p l e (RM 6 135) s m args below meth c H locs 0 0 (MQ below (QV G (some (.long r0)) M0) args s 0 0 (AG G)) (F0 m 107 ls []) := by
  obtain ⟨⟨hx, hb, hml, hown, hts⟩, hK, hG, hA⟩ := id hC
  intro n
  induction n with
  | zero =>
    intro y1 x3 x4 M H locs ls hF
    cases hF
  | succ n ih =>
    intro y1 x3 x4 M H locs ls hF hS hl
    unfold F_X7_digest_107 at hF
    refine lv_iload hx hb dX7_digest_107 (lv_at hl 3 rfl) ?_
    refine lv_iconst (v := 4) hx hb dX7_digest_109 (by decide) ?_
    refine lv_icmp_ge (tgt := 138) hx hb dX7_digest_110 (by decide) (fun hc => ?_) (fun hc => ?_)
    · rw [if_pos hc] at hF
      refine lv_aload_n hx hb dX7_digest_138 rfl (lv_at hl 0 rfl) ?_
      refine lv_iload_n hx hb dX7_digest_139 rfl (lv_at hl 2 rfl) ?_
      obtain ⟨M140, h140, hF⟩ := bdv_some hF
      refine cV_ (ci := 7) (i := 61) (C := RX7) (T := TX7) (N := 29) (As := [.int x3]) (v := none) (rest := []) (st1 := []) hC hS (hn _ (by decide)) rfl rfl (c_X7_hearsAll l G hn x3 M _ h140) kV_X7_hearsAll lm_X7_171 ⟨Nat.le_of_ble_eq_true rfl, Nat.le_of_ble_eq_true rfl⟩ rfl hl.1 (Nat.le_of_ble_eq_true rfl) dX7_digest_140 ⟨Nat.le_refl _, Nat.le_refl _⟩ rfl (fun H locs hS => ?_)
      refine lv_iconst (v := 0) hx hb dX7_digest_143 (by decide) ?_
      refine lv_istore (lv' := [(4, .int 0), (0, .ref (G.1 61)), (1, .long y1), (3, .int x3)]) hx hb dX7_digest_144 hl (by decide) rfl (fun ls hl => ?_)
      exact b_X7_digest_146 hC hr hlk hn hk80 fu _ _ _ _ _ _ _ hF hS (lv_sub hl [1, 2, 3, 0] rfl)
    · rw [if_neg hc] at hF
      refine lv_ldc2 (v := 31) hx hb hown (hts _ lc_X7_244) dX7_digest_113 ?_
      refine lv_lload_n hx hb dX7_digest_116 rfl (lv_at hl 1 rfl) ?_
      refine lv_lmul hx hb dX7_digest_117 ?_
      refine lv_aload_n hx hb dX7_digest_118 rfl (lv_at hl 0 rfl) ?_
      refine gx (ci := 7) (k := 13) (v := .ref (G.1 32)) (C := RX7) (T := TX7) (N := 29) hC hS (hn _ (by decide)) rfl rfl in_X7 (by decide) rfl rfl lf_X7_40 dX7_digest_119 ?_
      refine lv_iconst (v := 4) hx hb dX7_digest_122 (by decide) ?_
      refine lv_iload_n hx hb dX7_digest_123 rfl (lv_at hl 2 rfl) ?_
      refine lv_imul hx hb dX7_digest_124 ?_
      refine lv_iload hx hb dX7_digest_125 (lv_at hl 3 rfl) ?_
      refine lv_iadd hx hb dX7_digest_127 ?_
      obtain ⟨hi, hF⟩ := ckb_some hF
      refine ald hC hS (hn _ (by decide)) (by decide) rfl hi dX7_digest_128 ?_
      refine lv_i2l hx hb dX7_digest_129 rfl ?_
      refine lv_ladd hx hb dX7_digest_130 ?_
      refine lv_lstore_n (lv' := [(1, .long ((31 * y1) + ((M.2 32 ((4 * x3) + x4).toNatClampNeg).toInt64))), (0, .ref (G.1 61)), (3, .int x3), (4, .int x4)]) hx hb dX7_digest_131 rfl hl (by decide) rfl (fun ls hl => ?_)
      refine lv_iinc (v := x4 + 1) (lv' := [(4, .int (x4 + 1)), (1, .long ((31 * y1) + ((M.2 32 ((4 * x3) + x4).toNatClampNeg).toInt64))), (0, .ref (G.1 61)), (3, .int x3)]) hx hb dX7_digest_132 hl (k := 3) rfl rfl (by decide) rfl (fun ls hl => ?_)
      refine lv_goto (tgt := 107) hx hb dX7_digest_135 (by decide) ?_
      exact ih _ _ _ _ _ _ _ hF hS (lv_sub hl [2, 1, 3, 0] rfl)
set_option maxHeartbeats 4000000 in
set_option maxRecDepth 100000 in
theorem b_X7_digest_80 {M0 : Mem} {r0 : Int64} (hC : SX p m c s args cX7_digest 5 RX7 G (AG G)) (hr : meth.sig.returnType = (some .long)) (hlk : meth.locks = false) (hn : ∀ i ∈ LsF, i ∈ gL G) : ∀ (n : Nat) (y1 : Int64) (x3 : Int32) (M : Mem) (H : Heap) (locs : List Loc) (ls : Array Slot), F_X7_digest_80 n y1 x3 M = some (r0, M0) → ST G (AG G) s M H locs → lv_has ls 5 [(0, .ref (G.1 61)), (1, .long y1), (3, .int x3)] → W p l e (RM 6 135) s m args below meth c H locs 0 0 (MQ below (QV G (some (.long r0)) M0) args s 0 0 (AG G)) (F0 m 80 ls []) := by
  obtain ⟨⟨hx, hb, hml, hown, hts⟩, hK, hG, hA⟩ := id hC
  intro n
  induction n with
  | zero =>
    intro y1 x3 M H locs ls hF
    cases hF
  | succ n ih =>
    intro y1 x3 M H locs ls hF hS hl
    unfold F_X7_digest_80 at hF
    refine lv_iload_n hx hb dX7_digest_80 rfl (lv_at hl 2 rfl) ?_
    refine lv_iconst (v := 2) hx hb dX7_digest_81 (by decide) ?_
    refine lv_icmp_ge (tgt := 205) hx hb dX7_digest_82 (by decide) (fun hc => ?_) (fun hc => ?_)
    · rw [if_pos hc] at hF
      refine lv_ldc2 (v := 31) hx hb hown (hts _ lc_X7_244) dX7_digest_205 ?_
      refine lv_lload_n hx hb dX7_digest_208 rfl (lv_at hl 1 rfl) ?_
      refine lv_lmul hx hb dX7_digest_209 ?_
      refine lv_aload_n hx hb dX7_digest_210 rfl (lv_at hl 0 rfl) ?_
      obtain ⟨r211, M211, h211, hF⟩ := bd_some hF
      refine cV_ (ci := 7) (i := 61) (C := RX7) (T := TX7) (N := 29) (As := []) (v := some (.int r211)) (rest := [.long (31 * y1)]) (st1 := [.int r211, .long (31 * y1)]) hC hS (hn _ (by decide)) rfl rfl (c_X7_ringNow l G hn M _ _ h211) kV_X7_ringNow lm_X7_218 ⟨Nat.le_of_ble_eq_true rfl, Nat.le_of_ble_eq_true rfl⟩ rfl hl.1 (Nat.le_of_ble_eq_true rfl) dX7_digest_211 ⟨Nat.le_refl _, Nat.le_refl _⟩ rfl (fun H locs hS => ?_)
      refine lv_i2l hx hb dX7_digest_214 rfl ?_
      refine lv_ladd hx hb dX7_digest_215 ?_
      refine lv_lstore_n (lv' := [(1, .long ((31 * y1) + (r211.toInt64))), (0, .ref (G.1 61)), (3, .int x3)]) hx hb dX7_digest_216 rfl hl (by decide) rfl (fun ls hl => ?_)
      refine lv_ldc2 (v := 31) hx hb hown (hts _ lc_X7_244) dX7_digest_217 ?_
      refine lv_lload_n hx hb dX7_digest_220 rfl (lv_at hl 0 rfl) ?_
      refine lv_lmul hx hb dX7_digest_221 ?_
      refine lv_aload_n hx hb dX7_digest_222 rfl (lv_at hl 1 rfl) ?_
      obtain ⟨r223, M223, h223, hF⟩ := bd_some hF
      refine cV_ (ci := 7) (i := 61) (C := RX7) (T := TX7) (N := 29) (As := []) (v := some (.int r223)) (rest := [.long (31 * ((31 * y1) + (r211.toInt64)))]) (st1 := [.int r223, .long (31 * ((31 * y1) + (r211.toInt64)))]) hC hS (hn _ (by decide)) rfl rfl (c_X7_mostNow l G hn M211 _ _ h223) kV_X7_mostNow lm_X7_224 ⟨Nat.le_of_ble_eq_true rfl, Nat.le_of_ble_eq_true rfl⟩ rfl hl.1 (Nat.le_of_ble_eq_true rfl) dX7_digest_223 ⟨Nat.le_refl _, Nat.le_refl _⟩ rfl (fun H locs hS => ?_)
      refine lv_i2l hx hb dX7_digest_226 rfl ?_
      refine lv_ladd hx hb dX7_digest_227 ?_
      exact retL hC hS hr hlk hF dX7_digest_228
    · rw [if_neg hc] at hF
      refine lv_aload_n hx hb dX7_digest_85 rfl (lv_at hl 0 rfl) ?_
      refine lv_iload_n hx hb dX7_digest_86 rfl (lv_at hl 2 rfl) ?_
      obtain ⟨M87, h87, hF⟩ := bdv_some hF
      refine cV_ (ci := 7) (i := 61) (C := RX7) (T := TX7) (N := 29) (As := [.int x3]) (v := none) (rest := []) (st1 := []) hC hS (hn _ (by decide)) rfl rfl (c_X7_reads l G hn x3 M _ h87) kV_X7_reads lm_X7_133 ⟨Nat.le_of_ble_eq_true rfl, Nat.le_of_ble_eq_true rfl⟩ rfl hl.1 (Nat.le_of_ble_eq_true rfl) dX7_digest_87 ⟨Nat.le_refl _, Nat.le_refl _⟩ rfl (fun H locs hS => ?_)
      refine lv_ldc2 (v := 31) hx hb hown (hts _ lc_X7_244) dX7_digest_90 ?_
      refine lv_lload_n hx hb dX7_digest_93 rfl (lv_at hl 1 rfl) ?_
      refine lv_lmul hx hb dX7_digest_94 ?_
      refine lv_aload_n hx hb dX7_digest_95 rfl (lv_at hl 0 rfl) ?_
      refine gx (ci := 7) (k := 12) (v := .ref (G.1 31)) (C := RX7) (T := TX7) (N := 29) hC hS (hn _ (by decide)) rfl rfl in_X7 (by decide) rfl rfl lf_X7_37 dX7_digest_96 ?_
      refine lv_iload_n hx hb dX7_digest_99 rfl (lv_at hl 2 rfl) ?_
      obtain ⟨hi, hF⟩ := ckb_some hF
      refine ald hC hS (hn _ (by decide)) (by decide) rfl hi dX7_digest_100 ?_
      refine lv_i2l hx hb dX7_digest_101 rfl ?_
      refine lv_ladd hx hb dX7_digest_102 ?_
      refine lv_lstore_n (lv' := [(1, .long ((31 * y1) + ((M87.2 31 x3.toNatClampNeg).toInt64))), (0, .ref (G.1 61)), (3, .int x3)]) hx hb dX7_digest_103 rfl hl (by decide) rfl (fun ls hl => ?_)
      refine lv_iconst (v := 0) hx hb dX7_digest_104 (by decide) ?_
      refine lv_istore (lv' := [(4, .int 0), (1, .long ((31 * y1) + ((M87.2 31 x3.toNatClampNeg).toInt64))), (0, .ref (G.1 61)), (3, .int x3)]) hx hb dX7_digest_105 hl (by decide) rfl (fun ls hl => ?_)
      exact b_X7_digest_107 hC hr hlk hn ih fu _ _ _ _ _ _ _ hF hS (lv_sub hl [2, 1, 3, 0] rfl)
set_option maxHeartbeats 4000000 in
set_option maxRecDepth 100000 in
theorem b_X7_digest_44 {k33 : Int64 → Int32 → Mem → Option (Int64 × Mem)} {M0 : Mem} {r0 : Int64} (hC : SX p m c s args cX7_digest 5 RX7 G (AG G)) (hr : meth.sig.returnType = (some .long)) (hlk : meth.locks = false) (hn : ∀ i ∈ LsF, i ∈ gL G) (hk33 : ∀ (y1 : Int64) (x3 : Int32) (M : Mem) (H : Heap) (locs : List Loc) (ls : Array Slot), k33 y1 x3 M = some (r0, M0) → ST G (AG G) s M H locs → lv_has ls 5 [(0, .ref (G.1 61)), (1, .long y1), (3, .int x3)] → W p l e (RM 6 135) s m args below meth c H locs 0 0 (MQ below (QV G (some (.long r0)) M0) args s 0 0 (AG G)) (F0 m 33 ls [])) : ∀ (n : Nat) (y1 : Int64) (x3 : Int32) (x4 : Int32) (M : Mem) (H : Heap) (locs : List Loc) (ls : Array Slot), F_X7_digest_44 k33 n y1 x3 x4 M = some (r0, M0) → ST G (AG G) s M H locs → lv_has ls 5 [(0, .ref (G.1 61)), (1, .long y1), (3, .int x3), (4, .int x4)] → W p l e (RM 6 135) s m args below meth c H locs 0 0 (MQ below (QV G (some (.long r0)) M0) args s 0 0 (AG G)) (F0 m 44 ls []) := by
  obtain ⟨⟨hx, hb, hml, hown, hts⟩, hK, hG, hA⟩ := id hC
  intro n
  induction n with
  | zero =>
    intro y1 x3 x4 M H locs ls hF
    cases hF
  | succ n ih =>
    intro y1 x3 x4 M H locs ls hF hS hl
    unfold F_X7_digest_44 at hF
    refine lv_iload hx hb dX7_digest_44 (lv_at hl 3 rfl) ?_
    refine lv_bipush (v := 7) hx hb dX7_digest_46 (by decide) ?_
    refine lv_icmp_ge (tgt := 72) hx hb dX7_digest_48 (by decide) (fun hc => ?_) (fun hc => ?_)
    · rw [if_pos hc] at hF
      refine lv_iinc (v := x3 + 1) (lv' := [(3, .int (x3 + 1)), (0, .ref (G.1 61)), (1, .long y1), (4, .int x4)]) hx hb dX7_digest_72 hl (k := 2) rfl rfl (by decide) rfl (fun ls hl => ?_)
      refine lv_goto (tgt := 33) hx hb dX7_digest_75 (by decide) ?_
      exact hk33 _ _ _ _ _ _ hF hS (lv_sub hl [1, 2, 0] rfl)
    · rw [if_neg hc] at hF
      refine lv_ldc2 (v := 31) hx hb hown (hts _ lc_X7_244) dX7_digest_51 ?_
      refine lv_lload_n hx hb dX7_digest_54 rfl (lv_at hl 1 rfl) ?_
      refine lv_lmul hx hb dX7_digest_55 ?_
      refine lv_aload_n hx hb dX7_digest_56 rfl (lv_at hl 0 rfl) ?_
      refine lv_iload_n hx hb dX7_digest_57 rfl (lv_at hl 2 rfl) ?_
      refine lv_iload hx hb dX7_digest_58 (lv_at hl 3 rfl) ?_
      obtain ⟨r60, M60, h60, hF⟩ := bd_some hF
      refine cV_ (ci := 7) (i := 61) (C := RX7) (T := TX7) (N := 29) (As := [.int x3, .int x4]) (v := some (.int r60)) (rest := [.long (31 * y1)]) (st1 := [.int r60, .long (31 * y1)]) hC hS (hn _ (by decide)) rfl rfl (c_X7_isNow l G hn x3 x4 M _ _ h60) kV_X7_isNow lm_X7_117 ⟨Nat.le_of_ble_eq_true rfl, Nat.le_of_ble_eq_true rfl⟩ rfl hl.1 (Nat.le_of_ble_eq_true rfl) dX7_digest_60 ⟨Nat.le_refl _, Nat.le_refl _⟩ rfl (fun H locs hS => ?_)
      refine lv_i2l hx hb dX7_digest_63 rfl ?_
      refine lv_ladd hx hb dX7_digest_64 ?_
      refine lv_lstore_n (lv' := [(1, .long ((31 * y1) + (r60.toInt64))), (0, .ref (G.1 61)), (3, .int x3), (4, .int x4)]) hx hb dX7_digest_65 rfl hl (by decide) rfl (fun ls hl => ?_)
      refine lv_iinc (v := x4 + 1) (lv' := [(4, .int (x4 + 1)), (1, .long ((31 * y1) + (r60.toInt64))), (0, .ref (G.1 61)), (3, .int x3)]) hx hb dX7_digest_66 hl (k := 3) rfl rfl (by decide) rfl (fun ls hl => ?_)
      refine lv_goto (tgt := 44) hx hb dX7_digest_69 (by decide) ?_
      exact ih _ _ _ _ _ _ _ hF hS (lv_sub hl [2, 1, 3, 0] rfl)
set_option maxHeartbeats 4000000 in
set_option maxRecDepth 100000 in
theorem b_X7_digest_33 {M0 : Mem} {r0 : Int64} (hC : SX p m c s args cX7_digest 5 RX7 G (AG G)) (hr : meth.sig.returnType = (some .long)) (hlk : meth.locks = false) (hn : ∀ i ∈ LsF, i ∈ gL G) : ∀ (n : Nat) (y1 : Int64) (x3 : Int32) (M : Mem) (H : Heap) (locs : List Loc) (ls : Array Slot), F_X7_digest_33 n y1 x3 M = some (r0, M0) → ST G (AG G) s M H locs → lv_has ls 5 [(0, .ref (G.1 61)), (1, .long y1), (3, .int x3)] → W p l e (RM 6 135) s m args below meth c H locs 0 0 (MQ below (QV G (some (.long r0)) M0) args s 0 0 (AG G)) (F0 m 33 ls []) := by
  obtain ⟨⟨hx, hb, hml, hown, hts⟩, hK, hG, hA⟩ := id hC
  intro n
  induction n with
  | zero =>
    intro y1 x3 M H locs ls hF
    cases hF
  | succ n ih =>
    intro y1 x3 M H locs ls hF hS hl
    unfold F_X7_digest_33 at hF
    refine lv_iload_n hx hb dX7_digest_33 rfl (lv_at hl 2 rfl) ?_
    refine lv_aload_n hx hb dX7_digest_34 rfl (lv_at hl 0 rfl) ?_
    refine gx (ci := 7) (k := 2) (v := .int (M.1 40)) (C := RX7) (T := TX7) (N := 29) hC hS (hn _ (by decide)) rfl rfl in_X7 (by decide) rfl rfl lf_X7_82 dX7_digest_35 ?_
    refine lv_icmp_ge (tgt := 78) hx hb dX7_digest_38 (by decide) (fun hc => ?_) (fun hc => ?_)
    · rw [if_pos hc] at hF
      refine lv_iconst (v := 0) hx hb dX7_digest_78 (by decide) ?_
      refine lv_istore_n (lv' := [(3, .int 0), (0, .ref (G.1 61)), (1, .long y1)]) hx hb dX7_digest_79 rfl hl (by decide) rfl (fun ls hl => ?_)
      exact b_X7_digest_80 hC hr hlk hn fu _ _ _ _ _ _ hF hS (lv_sub hl [1, 2, 0] rfl)
    · rw [if_neg hc] at hF
      refine lv_iconst (v := 0) hx hb dX7_digest_41 (by decide) ?_
      refine lv_istore (lv' := [(4, .int 0), (0, .ref (G.1 61)), (1, .long y1), (3, .int x3)]) hx hb dX7_digest_42 hl (by decide) rfl (fun ls hl => ?_)
      exact b_X7_digest_44 hC hr hlk hn ih fu _ _ _ _ _ _ _ hF hS (lv_sub hl [1, 2, 3, 0] rfl)
set_option maxHeartbeats 4000000 in
set_option maxRecDepth 100000 in
theorem b_X7_digest_6 {M0 : Mem} {r0 : Int64} (hC : SX p m c s args cX7_digest 5 RX7 G (AG G)) (hr : meth.sig.returnType = (some .long)) (hlk : meth.locks = false) (hn : ∀ i ∈ LsF, i ∈ gL G) : ∀ (n : Nat) (y1 : Int64) (x3 : Int32) (M : Mem) (H : Heap) (locs : List Loc) (ls : Array Slot), F_X7_digest_6 n y1 x3 M = some (r0, M0) → ST G (AG G) s M H locs → lv_has ls 5 [(0, .ref (G.1 61)), (1, .long y1), (3, .int x3)] → W p l e (RM 6 135) s m args below meth c H locs 0 0 (MQ below (QV G (some (.long r0)) M0) args s 0 0 (AG G)) (F0 m 6 ls []) := by
  obtain ⟨⟨hx, hb, hml, hown, hts⟩, hK, hG, hA⟩ := id hC
  intro n
  induction n with
  | zero =>
    intro y1 x3 M H locs ls hF
    cases hF
  | succ n ih =>
    intro y1 x3 M H locs ls hF hS hl
    unfold F_X7_digest_6 at hF
    refine lv_iload_n hx hb dX7_digest_6 rfl (lv_at hl 2 rfl) ?_
    refine lv_bipush (v := 6) hx hb dX7_digest_7 (by decide) ?_
    refine lv_icmp_ge (tgt := 31) hx hb dX7_digest_9 (by decide) (fun hc => ?_) (fun hc => ?_)
    · rw [if_pos hc] at hF
      refine lv_iconst (v := 0) hx hb dX7_digest_31 (by decide) ?_
      refine lv_istore_n (lv' := [(3, .int 0), (0, .ref (G.1 61)), (1, .long y1)]) hx hb dX7_digest_32 rfl hl (by decide) rfl (fun ls hl => ?_)
      exact b_X7_digest_33 hC hr hlk hn fu _ _ _ _ _ _ hF hS (lv_sub hl [1, 2, 0] rfl)
    · rw [if_neg hc] at hF
      refine lv_ldc2 (v := 31) hx hb hown (hts _ lc_X7_244) dX7_digest_12 ?_
      refine lv_lload_n hx hb dX7_digest_15 rfl (lv_at hl 1 rfl) ?_
      refine lv_lmul hx hb dX7_digest_16 ?_
      refine lv_aload_n hx hb dX7_digest_17 rfl (lv_at hl 0 rfl) ?_
      refine lv_iload_n hx hb dX7_digest_18 rfl (lv_at hl 2 rfl) ?_
      obtain ⟨r19, M19, h19, hF⟩ := bd_some hF
      refine cV_ (ci := 7) (i := 61) (C := RX7) (T := TX7) (N := 29) (As := [.int x3]) (v := some (.int r19)) (rest := [.long (31 * y1)]) (st1 := [.int r19, .long (31 * y1)]) hC hS (hn _ (by decide)) rfl rfl (c_X7_count l G hn x3 M _ _ h19) kV_X7_count lm_X7_246 ⟨Nat.le_of_ble_eq_true rfl, Nat.le_of_ble_eq_true rfl⟩ rfl hl.1 (Nat.le_of_ble_eq_true rfl) dX7_digest_19 ⟨Nat.le_refl _, Nat.le_refl _⟩ rfl (fun H locs hS => ?_)
      refine lv_i2l hx hb dX7_digest_22 rfl ?_
      refine lv_ladd hx hb dX7_digest_23 ?_
      refine lv_lstore_n (lv' := [(1, .long ((31 * y1) + (r19.toInt64))), (0, .ref (G.1 61)), (3, .int x3)]) hx hb dX7_digest_24 rfl hl (by decide) rfl (fun ls hl => ?_)
      refine lv_iinc (v := x3 + 1) (lv' := [(3, .int (x3 + 1)), (1, .long ((31 * y1) + (r19.toInt64))), (0, .ref (G.1 61))]) hx hb dX7_digest_25 hl (k := 2) rfl rfl (by decide) rfl (fun ls hl => ?_)
      refine lv_goto (tgt := 6) hx hb dX7_digest_28 (by decide) ?_
      exact ih _ _ _ _ _ _ hF hS (lv_sub hl [2, 1, 0] rfl)
set_option maxHeartbeats 4000000 in
set_option maxRecDepth 100000 in
theorem b_X7_digest {M0 : Mem} {r0 : Int64} (hC : SX p m c s args cX7_digest 5 RX7 G (AG G)) (hr : meth.sig.returnType = (some .long)) (hlk : meth.locks = false) (hn : ∀ i ∈ LsF, i ∈ gL G) : ∀ (M : Mem) (H : Heap) (locs : List Loc) (ls : Array Slot), F_X7_digest M = some (r0, M0) → ST G (AG G) s M H locs → lv_has ls 5 [(0, .ref (G.1 61))] → W p l e (RM 6 135) s m args below meth c H locs 0 0 (MQ below (QV G (some (.long r0)) M0) args s 0 0 (AG G)) (F0 m 0 ls []) := by
  obtain ⟨⟨hx, hb, hml, hown, hts⟩, hK, hG, hA⟩ := id hC
  intro M H locs ls hF hS hl
  unfold F_X7_digest at hF
  refine lv_ldc2 (v := 17) hx hb hown (hts _ lc_X7_242) dX7_digest_0 ?_
  refine lv_lstore_n (lv' := [(1, .long 17), (0, .ref (G.1 61))]) hx hb dX7_digest_3 rfl hl (by decide) rfl (fun ls hl => ?_)
  refine lv_iconst (v := 0) hx hb dX7_digest_4 (by decide) ?_
  refine lv_istore_n (lv' := [(3, .int 0), (1, .long 17), (0, .ref (G.1 61))]) hx hb dX7_digest_5 rfl hl (by decide) rfl (fun ls hl => ?_)
  exact b_X7_digest_6 hC hr hlk hn fu _ _ _ _ _ _ hF hS (lv_sub hl [2, 1, 0] rfl)
set_option maxRecDepth 100000 in
theorem c_X7_digest (l : Launch) (G : GT) (hn : ∀ i ∈ LsF, i ∈ gL G) (M : Mem) (r0 : Int64) (M0 : Mem) (hF : F_X7_digest M = some (r0, M0)) : MetG l G yX7_digest cX7_digest 5 (some .long) 6 135 [.ref (G.1 61)] M (some (.long r0)) M0 := by
  refine MetG.of (by decide) (Nat.le_of_ble_eq_true rfl) ?_
  intro p e s m args below meth c hC hr hlk hnm ls hS hl
  exact b_X7_digest hC hr hlk hn _ _ _ _ hF hS hl
end
