section
variable {p : Program} {l : Launch} {e : Env} {s : State} {m : MethodId} {args : Array Value} {below : List Frame} {meth : Method} {c : Code} {G : GT}
def F_X6_isOrder_10 (j1 : Nat) : Nat → Int32 → Int32 → Mem → Option (Int32 × Mem)
  | 0, _, _, _ => none
  | n + 1, x2, x3, M => if (M.1 (22 + 3 * j1 + 2)) ≤ x3 then some (1, M) else ckb (ix x3 (al (18 + j1))) (bd (F_X5_has (M.2 (18 + j1) x3.toNatClampNeg) M) (fun r32 M32 => if r32 = 0 then some (0, M32) else if ((x2 >>> ((M.2 (18 + j1) x3.toNatClampNeg) &&& 31)) &&& 1) = 0 then some (0, M32) else F_X6_isOrder_10 j1 n (x2 &&& (((1 : Int32) <<< ((M.2 (18 + j1) x3.toNatClampNeg) &&& 31)) ^^^ (-1))) (x3 + 1) M32))
def F_X6_isOrder (j1 : Nat) (M : Mem) : Option (Int32 × Mem) := bd (F_X5_heardOnes M) (fun r4 M4 => F_X6_isOrder_10 j1 fu r4 0 M4)
set_option maxHeartbeats 4000000 in
set_option maxRecDepth 100000 in
theorem b_X6_isOrder_10 {j1 : Nat} {M0 : Mem} {r0 : Int32} (hC : SX p m c s args cX6_isOrder 5 RX6 G (AG G)) (hr : meth.sig.returnType = (some .boolean)) (hlk : meth.locks = false) (hn : ∀ i ∈ LsF, i ∈ gL G) (hj1 : j1 < 4) : ∀ (n : Nat) (x2 : Int32) (x3 : Int32) (M : Mem) (H : Heap) (locs : List Loc) (ls : Array Slot), F_X6_isOrder_10 j1 n x2 x3 M = some (r0, M0) → ST G (AG G) s M H locs → lv_has ls 5 [(0, .ref (G.1 50)), (1, .ref (G.1 (57 + j1))), (2, .int x2), (3, .int x3)] → W p l e (RM 2 40) s m args below meth c H locs 0 0 (MQ below (QV G (some (.int r0)) M0) args s 0 0 (AG G)) (F0 m 10 ls []) := by
  obtain ⟨⟨hx, hb, hml, hown, hts⟩, hK, hG, hA⟩ := id hC
  intro n
  induction n with
  | zero =>
    intro x2 x3 M H locs ls hF
    cases hF
  | succ n ih =>
    intro x2 x3 M H locs ls hF hS hl
    unfold F_X6_isOrder_10 at hF
    refine lv_iload_n hx hb dX6_isOrder_10 rfl (lv_at hl 3 rfl) ?_
    refine lv_aload_n hx hb dX6_isOrder_11 rfl (lv_at hl 1 rfl) ?_
    refine gxN (ci := 4) (k := 3) (v := .int (M.1 (22 + 3 * j1 + 2))) (C := RX4) (T := TX4) (N := 4) hC hS (hn _ (mS hj1)) (ceS hj1) rfl in_X4 (by decide) rfl rfl ln_X6_99 dX6_isOrder_12 ?_
    refine lv_icmp_ge (tgt := 64) hx hb dX6_isOrder_15 (by decide) (fun hc => ?_) (fun hc => ?_)
    · rw [if_pos hc] at hF
      refine lv_iconst (v := 1) hx hb dX6_isOrder_64 (by decide) ?_
      exact retZ hC hS hr hlk rfl hF dX6_isOrder_65
    · rw [if_neg hc] at hF
      refine lv_aload_n hx hb dX6_isOrder_18 rfl (lv_at hl 1 rfl) ?_
      refine gxN (ci := 4) (k := 0) (v := .ref (G.1 (18 + j1))) (C := RX4) (T := TX4) (N := 4) hC hS (hn _ (mS hj1)) (ceS hj1) rfl in_X4 (by decide) rfl rfl ln_X6_100 dX6_isOrder_19 ?_
      refine lv_iload_n hx hb dX6_isOrder_22 rfl (lv_at hl 3 rfl) ?_
      obtain ⟨hi, hF⟩ := ckb_some hF
      refine ald hC hS (hn _ (mI hj1)) (kI hj1).1 (kI hj1).2 hi dX6_isOrder_23 ?_
      refine lv_istore (lv' := [(4, .int (M.2 (18 + j1) x3.toNatClampNeg)), (0, .ref (G.1 50)), (1, .ref (G.1 (57 + j1))), (2, .int x2), (3, .int x3)]) hx hb dX6_isOrder_24 hl (by decide) rfl (fun ls hl => ?_)
      refine lv_aload_n hx hb dX6_isOrder_26 rfl (lv_at hl 1 rfl) ?_
      refine gx (ci := 6) (k := 1) (v := .ref (G.1 52)) (C := RX6) (T := TX6) (N := 8) hC hS (hn _ (by decide)) rfl rfl in_X6 (by decide) rfl rfl lf_X6_19 dX6_isOrder_27 ?_
      refine lv_iload hx hb dX6_isOrder_30 (lv_at hl 0 rfl) ?_
      obtain ⟨r32, M32, h32, hF⟩ := bd_some hF
      refine cV_ (ci := 5) (i := 52) (C := RX5) (T := TX5) (N := 13) (As := [.int (M.2 (18 + j1) x3.toNatClampNeg)]) (v := some (.int r32)) (rest := []) (st1 := [.int r32]) hC hS (hn _ (by decide)) rfl rfl (c_X5_has l G hn (M.2 (18 + j1) x3.toNatClampNeg) M _ _ h32) kV_X5_has lm_X6_108 ⟨Nat.le_of_ble_eq_true rfl, Nat.le_of_ble_eq_true rfl⟩ rfl hl.1 (Nat.le_of_ble_eq_true rfl) dX6_isOrder_32 ⟨Nat.le_refl _, Nat.le_refl _⟩ rfl (fun H locs hS => ?_)
      refine lv_if_eq (tgt := 47) hx hb dX6_isOrder_35 (by decide) (fun hc => ?_) (fun hc => ?_)
      · rw [if_pos hc] at hF
        refine lv_iconst (v := 0) hx hb dX6_isOrder_47 (by decide) ?_
        exact retZ hC hS hr hlk rfl hF dX6_isOrder_48
      · rw [if_neg hc] at hF
        refine lv_iload_n hx hb dX6_isOrder_38 rfl (lv_at hl 3 rfl) ?_
        refine lv_iload hx hb dX6_isOrder_39 (lv_at hl 0 rfl) ?_
        refine lv_ishr hx hb dX6_isOrder_41 ?_
        refine lv_iconst (v := 1) hx hb dX6_isOrder_42 (by decide) ?_
        refine lv_iand hx hb dX6_isOrder_43 ?_
        refine lv_if_ne (tgt := 49) hx hb dX6_isOrder_44 (by decide) (fun hc => ?_) (fun hc => ?_)
        · rw [if_neg hc] at hF
          refine lv_iload_n hx hb dX6_isOrder_49 rfl (lv_at hl 3 rfl) ?_
          refine lv_iconst (v := 1) hx hb dX6_isOrder_50 (by decide) ?_
          refine lv_iload hx hb dX6_isOrder_51 (lv_at hl 0 rfl) ?_
          refine lv_ishl hx hb dX6_isOrder_53 ?_
          refine lv_iconst (v := (-1)) hx hb dX6_isOrder_54 (by decide) ?_
          refine lv_ixor hx hb dX6_isOrder_55 ?_
          refine lv_iand hx hb dX6_isOrder_56 ?_
          refine lv_istore_n (lv' := [(2, .int (x2 &&& (((1 : Int32) <<< ((M.2 (18 + j1) x3.toNatClampNeg) &&& 31)) ^^^ (-1)))), (4, .int (M.2 (18 + j1) x3.toNatClampNeg)), (0, .ref (G.1 50)), (1, .ref (G.1 (57 + j1))), (3, .int x3)]) hx hb dX6_isOrder_57 rfl hl (by decide) rfl (fun ls hl => ?_)
          refine lv_iinc (v := x3 + 1) (lv' := [(3, .int (x3 + 1)), (2, .int (x2 &&& (((1 : Int32) <<< ((M.2 (18 + j1) x3.toNatClampNeg) &&& 31)) ^^^ (-1)))), (4, .int (M.2 (18 + j1) x3.toNatClampNeg)), (0, .ref (G.1 50)), (1, .ref (G.1 (57 + j1)))]) hx hb dX6_isOrder_58 hl (k := 4) rfl rfl (by decide) rfl (fun ls hl => ?_)
          refine lv_goto (tgt := 10) hx hb dX6_isOrder_61 (by decide) ?_
          exact ih _ _ _ _ _ _ hF hS (lv_sub hl [3, 4, 1, 0] rfl)
        · rw [if_pos hc] at hF
          refine lv_iconst (v := 0) hx hb dX6_isOrder_47 (by decide) ?_
          exact retZ hC hS hr hlk rfl hF dX6_isOrder_48
set_option maxHeartbeats 4000000 in
set_option maxRecDepth 100000 in
theorem b_X6_isOrder {j1 : Nat} {M0 : Mem} {r0 : Int32} (hC : SX p m c s args cX6_isOrder 5 RX6 G (AG G)) (hr : meth.sig.returnType = (some .boolean)) (hlk : meth.locks = false) (hn : ∀ i ∈ LsF, i ∈ gL G) (hj1 : j1 < 4) : ∀ (M : Mem) (H : Heap) (locs : List Loc) (ls : Array Slot), F_X6_isOrder j1 M = some (r0, M0) → ST G (AG G) s M H locs → lv_has ls 5 [(0, .ref (G.1 50)), (1, .ref (G.1 (57 + j1)))] → W p l e (RM 2 40) s m args below meth c H locs 0 0 (MQ below (QV G (some (.int r0)) M0) args s 0 0 (AG G)) (F0 m 0 ls []) := by
  obtain ⟨⟨hx, hb, hml, hown, hts⟩, hK, hG, hA⟩ := id hC
  intro M H locs ls hF hS hl
  unfold F_X6_isOrder at hF
  refine lv_aload_n hx hb dX6_isOrder_0 rfl (lv_at hl 0 rfl) ?_
  refine gx (ci := 6) (k := 1) (v := .ref (G.1 52)) (C := RX6) (T := TX6) (N := 8) hC hS (hn _ (by decide)) rfl rfl in_X6 (by decide) rfl rfl lf_X6_19 dX6_isOrder_1 ?_
  obtain ⟨r4, M4, h4, hF⟩ := bd_some hF
  refine cV_ (ci := 5) (i := 52) (C := RX5) (T := TX5) (N := 13) (As := []) (v := some (.int r4)) (rest := []) (st1 := [.int r4]) hC hS (hn _ (by decide)) rfl rfl (c_X5_heardOnes l G hn M _ _ h4) kV_X5_heardOnes lm_X6_163 ⟨Nat.le_of_ble_eq_true rfl, Nat.le_of_ble_eq_true rfl⟩ rfl hl.1 (Nat.le_of_ble_eq_true rfl) dX6_isOrder_4 ⟨Nat.le_refl _, Nat.le_refl _⟩ rfl (fun H locs hS => ?_)
  refine lv_istore_n (lv' := [(2, .int r4), (0, .ref (G.1 50)), (1, .ref (G.1 (57 + j1)))]) hx hb dX6_isOrder_7 rfl hl (by decide) rfl (fun ls hl => ?_)
  refine lv_iconst (v := 0) hx hb dX6_isOrder_8 (by decide) ?_
  refine lv_istore_n (lv' := [(3, .int 0), (2, .int r4), (0, .ref (G.1 50)), (1, .ref (G.1 (57 + j1)))]) hx hb dX6_isOrder_9 rfl hl (by decide) rfl (fun ls hl => ?_)
  exact b_X6_isOrder_10 hC hr hlk hn hj1 fu _ _ _ _ _ _ hF hS (lv_sub hl [2, 3, 1, 0] rfl)
set_option maxRecDepth 100000 in
theorem c_X6_isOrder (l : Launch) (G : GT) (hn : ∀ i ∈ LsF, i ∈ gL G) (j1 : Nat) (hj1 : j1 < 4) (M : Mem) (r0 : Int32) (M0 : Mem) (hF : F_X6_isOrder j1 M = some (r0, M0)) : MetG l G yX6_isOrder cX6_isOrder 5 (some .boolean) 2 40 [.ref (G.1 50), .ref (G.1 (57 + j1))] M (some (.int r0)) M0 := by
  refine MetG.of (by decide) (Nat.le_of_ble_eq_true rfl) ?_
  intro p e s m args below meth c hC hr hlk hnm ls hS hl
  exact b_X6_isOrder hC hr hlk hn hj1 _ _ _ _ hF hS hl
def F_X6_ordered_72 (j2 : Nat) (j9 : Nat) : Nat → Int32 → Int32 → Mem → Option (Int32 × Mem)
  | 0, _, _, _ => none
  | n + 1, x3, x6, M => if (M.1 (22 + 3 * j9 + 2)) ≤ x6 then bd (F_X1_outcome x3 M) (fun r110 M110 => some (r110, M110)) else ckb (ix x6 (al (18 + j9))) (bdv (F_X1_hearNext j2 (M.2 (18 + j9) x6.toNatClampNeg) M) (fun M96 => F_X6_ordered_72 j2 j9 n x3 (x6 + 1) M96))
def F_X6_ordered (x1 : Int32) (x2 : Int32) (x3 : Int32) (M : Mem) : Option (Int32 × Mem) := bdo (F_X6_lawOf x1 M) (fun M2 => bdo (F_X6_sheetOf x2 M2) (fun M9 => some ((-2), M9)) (fun j9 M9 => ckb (decide (j9 < 4)) (some ((-2), M9)))) (fun j2 M2 => ckb (decide (j2 < 2)) (bdo (F_X6_sheetOf x2 M2) (fun M9 => some ((-2), M9)) (fun j9 M9 => ckb (decide (j9 < 4)) (if x3 < 0 then some ((-2), M9) else if x3 ≤ 2 then if (M9.1 (22 + 3 * j9)) = 0 then bd (F_X6_isOrder j9 M9) (fun r53 M53 => if r53 = 0 then some ((-3), M53) else bdv (F_X1_begin M53) (fun M66 => F_X6_ordered_72 j2 j9 fu x3 0 M66)) else bd (F_X6_find 1 M9) (fun r46 M46 => some (r46, M46)) else some ((-2), M9)))))
set_option maxHeartbeats 4000000 in
set_option maxRecDepth 100000 in
theorem b_X6_ordered_72 {j2 : Nat} {j9 : Nat} {M0 : Mem} {r0 : Int32} (hC : SX p m c s args cX6_ordered 7 RX6 G (AG G)) (hr : meth.sig.returnType = (some .int)) (hlk : meth.locks = false) (hn : ∀ i ∈ LsF, i ∈ gL G) (hj2 : j2 < 2) (hj9 : j9 < 4) : ∀ (n : Nat) (x3 : Int32) (x6 : Int32) (M : Mem) (H : Heap) (locs : List Loc) (ls : Array Slot), F_X6_ordered_72 j2 j9 n x3 x6 M = some (r0, M0) → ST G (AG G) s M H locs → lv_has ls 7 [(0, .ref (G.1 50)), (3, .int x3), (4, .ref (G.1 (53 + j2))), (5, .ref (G.1 (57 + j9))), (6, .int x6)] → W p l e (RM 3 71) s m args below meth c H locs 0 0 (MQ below (QV G (some (.int r0)) M0) args s 0 0 (AG G)) (F0 m 72 ls []) := by
  obtain ⟨⟨hx, hb, hml, hown, hts⟩, hK, hG, hA⟩ := id hC
  intro n
  induction n with
  | zero =>
    intro x3 x6 M H locs ls hF
    cases hF
  | succ n ih =>
    intro x3 x6 M H locs ls hF hS hl
    unfold F_X6_ordered_72 at hF
    refine lv_iload hx hb dX6_ordered_72 (lv_at hl 4 rfl) ?_
    refine lv_aload hx hb dX6_ordered_74 (lv_at hl 3 rfl) ?_
    refine gxN (ci := 4) (k := 3) (v := .int (M.1 (22 + 3 * j9 + 2))) (C := RX4) (T := TX4) (N := 4) hC hS (hn _ (mS hj9)) (ceS hj9) rfl in_X4 (by decide) rfl rfl ln_X6_99 dX6_ordered_76 ?_
    refine lv_icmp_ge (tgt := 105) hx hb dX6_ordered_79 (by decide) (fun hc => ?_) (fun hc => ?_)
    · rw [if_pos hc] at hF
      refine lv_aload_n hx hb dX6_ordered_105 rfl (lv_at hl 0 rfl) ?_
      refine gx (ci := 6) (k := 5) (v := .ref (G.1 55)) (C := RX6) (T := TX6) (N := 8) hC hS (hn _ (by decide)) rfl rfl in_X6 (by decide) rfl rfl lf_X6_44 dX6_ordered_106 ?_
      refine lv_iload_n hx hb dX6_ordered_109 rfl (lv_at hl 1 rfl) ?_
      obtain ⟨r110, M110, h110, hF⟩ := bd_some hF
      refine cV_ (ci := 1) (i := 55) (C := RX1) (T := TX1) (N := 4) (As := [.int x3]) (v := some (.int r110)) (rest := []) (st1 := [.int r110]) hC hS (hn _ (by decide)) rfl rfl (c_X1_outcome l G hn x3 M _ _ h110) kV_X1_outcome lm_X6_170 ⟨Nat.le_of_ble_eq_true rfl, Nat.le_of_ble_eq_true rfl⟩ rfl hl.1 (Nat.le_of_ble_eq_true rfl) dX6_ordered_110 ⟨Nat.le_refl _, Nat.le_refl _⟩ rfl (fun H locs hS => ?_)
      exact retI hC hS hr hlk hF dX6_ordered_113
    · rw [if_neg hc] at hF
      refine lv_aload_n hx hb dX6_ordered_82 rfl (lv_at hl 0 rfl) ?_
      refine gx (ci := 6) (k := 5) (v := .ref (G.1 55)) (C := RX6) (T := TX6) (N := 8) hC hS (hn _ (by decide)) rfl rfl in_X6 (by decide) rfl rfl lf_X6_44 dX6_ordered_83 ?_
      refine lv_aload hx hb dX6_ordered_86 (lv_at hl 2 rfl) ?_
      refine lv_aload hx hb dX6_ordered_88 (lv_at hl 3 rfl) ?_
      refine gxN (ci := 4) (k := 0) (v := .ref (G.1 (18 + j9))) (C := RX4) (T := TX4) (N := 4) hC hS (hn _ (mS hj9)) (ceS hj9) rfl in_X4 (by decide) rfl rfl ln_X6_100 dX6_ordered_90 ?_
      refine lv_iload hx hb dX6_ordered_93 (lv_at hl 4 rfl) ?_
      obtain ⟨hi, hF⟩ := ckb_some hF
      refine ald hC hS (hn _ (mI hj9)) (kI hj9).1 (kI hj9).2 hi dX6_ordered_95 ?_
      obtain ⟨M96, h96, hF⟩ := bdv_some hF
      refine cV_ (ci := 1) (i := 55) (C := RX1) (T := TX1) (N := 4) (As := [.ref (G.1 (53 + j2)), .int (M.2 (18 + j9) x6.toNatClampNeg)]) (v := none) (rest := []) (st1 := []) hC hS (hn _ (by decide)) rfl rfl (c_X1_hearNext l G hn j2 hj2 (M.2 (18 + j9) x6.toNatClampNeg) M _ h96) kV_X1_hearNext lm_X6_180 ⟨Nat.le_of_ble_eq_true rfl, Nat.le_of_ble_eq_true rfl⟩ rfl hl.1 (Nat.le_of_ble_eq_true rfl) dX6_ordered_96 ⟨Nat.le_refl _, Nat.le_refl _⟩ rfl (fun H locs hS => ?_)
      refine lv_iinc (v := x6 + 1) (lv' := [(6, .int (x6 + 1)), (0, .ref (G.1 50)), (3, .int x3), (4, .ref (G.1 (53 + j2))), (5, .ref (G.1 (57 + j9)))]) hx hb dX6_ordered_99 hl (k := 4) rfl rfl (by decide) rfl (fun ls hl => ?_)
      refine lv_goto (tgt := 72) hx hb dX6_ordered_102 (by decide) ?_
      exact ih _ _ _ _ _ _ hF hS (lv_sub hl [1, 2, 3, 4, 0] rfl)
set_option maxHeartbeats 4000000 in
set_option maxRecDepth 100000 in
theorem b_X6_ordered {M0 : Mem} {r0 : Int32} (hC : SX p m c s args cX6_ordered 7 RX6 G (AG G)) (hr : meth.sig.returnType = (some .int)) (hlk : meth.locks = false) (hn : ∀ i ∈ LsF, i ∈ gL G) : ∀ (x1 : Int32) (x2 : Int32) (x3 : Int32) (M : Mem) (H : Heap) (locs : List Loc) (ls : Array Slot), F_X6_ordered x1 x2 x3 M = some (r0, M0) → ST G (AG G) s M H locs → lv_has ls 7 [(0, .ref (G.1 50)), (1, .int x1), (2, .int x2), (3, .int x3)] → W p l e (RM 3 71) s m args below meth c H locs 0 0 (MQ below (QV G (some (.int r0)) M0) args s 0 0 (AG G)) (F0 m 0 ls []) := by
  obtain ⟨⟨hx, hb, hml, hown, hts⟩, hK, hG, hA⟩ := id hC
  intro x1 x2 x3 M H locs ls hF hS hl
  unfold F_X6_ordered at hF
  refine lv_aload_n hx hb dX6_ordered_0 rfl (lv_at hl 0 rfl) ?_
  refine lv_iload_n hx hb dX6_ordered_1 rfl (lv_at hl 1 rfl) ?_
  rcases bdo_some hF with ⟨M2, h2, hF⟩ | ⟨j2, M2, h2, hF⟩
  · refine cV_ (ci := 6) (i := 50) (C := RX6) (T := TX6) (N := 8) (As := [.int x1]) (v := some (rfv G 53 none)) (rest := []) (st1 := [.null]) hC hS (hn _ (by decide)) rfl rfl (c_X6_lawOf l G hn x1 M _ _ h2) kV_X6_lawOf lm_X6_136 ⟨Nat.le_of_ble_eq_true rfl, Nat.le_of_ble_eq_true rfl⟩ rfl hl.1 (Nat.le_of_ble_eq_true rfl) dX6_ordered_2 ⟨Nat.le_refl _, Nat.le_refl _⟩ rfl (fun H locs hS => ?_)
    refine lv_astoreN (lv' := [(4, .null), (0, .ref (G.1 50)), (1, .int x1), (2, .int x2), (3, .int x3)]) hx hb dX6_ordered_5 hl (by decide) rfl (fun ls hl => ?_)
    refine lv_aload_n hx hb dX6_ordered_7 rfl (lv_at hl 1 rfl) ?_
    refine lv_iload_n hx hb dX6_ordered_8 rfl (lv_at hl 3 rfl) ?_
    rcases bdo_some hF with ⟨M9, h9, hF⟩ | ⟨j9, M9, h9, hF⟩
    · refine cV_ (ci := 6) (i := 50) (C := RX6) (T := TX6) (N := 8) (As := [.int x2]) (v := some (rfv G 57 none)) (rest := []) (st1 := [.null]) hC hS (hn _ (by decide)) rfl rfl (c_X6_sheetOf l G hn x2 M2 _ _ h9) kV_X6_sheetOf lm_X6_87 ⟨Nat.le_of_ble_eq_true rfl, Nat.le_of_ble_eq_true rfl⟩ rfl hl.1 (Nat.le_of_ble_eq_true rfl) dX6_ordered_9 ⟨Nat.le_refl _, Nat.le_refl _⟩ rfl (fun H locs hS => ?_)
      refine lv_astoreN (lv' := [(5, .null), (4, .null), (0, .ref (G.1 50)), (1, .int x1), (2, .int x2), (3, .int x3)]) hx hb dX6_ordered_12 hl (by decide) rfl (fun ls hl => ?_)
      refine lv_aloadN hx hb dX6_ordered_14 (lv_at hl 1 rfl) ?_
      refine lv_ifnullN (tgt := 33) hx hb dX6_ordered_16 (by decide) ?_
      refine lv_bipush (v := (-2)) hx hb dX6_ordered_33 (by decide) ?_
      exact retI hC hS hr hlk hF dX6_ordered_35
    · obtain ⟨hj9, hF⟩ := ckb_some hF
      replace hj9 := of_decide_eq_true hj9
      refine cV_ (ci := 6) (i := 50) (C := RX6) (T := TX6) (N := 8) (As := [.int x2]) (v := some (rfv G 57 (some j9))) (rest := []) (st1 := [.ref (G.1 (57 + j9))]) hC hS (hn _ (by decide)) rfl rfl (c_X6_sheetOf l G hn x2 M2 _ _ h9) kV_X6_sheetOf lm_X6_87 ⟨Nat.le_of_ble_eq_true rfl, Nat.le_of_ble_eq_true rfl⟩ rfl hl.1 (Nat.le_of_ble_eq_true rfl) dX6_ordered_9 ⟨Nat.le_refl _, Nat.le_refl _⟩ rfl (fun H locs hS => ?_)
      refine lv_astore (lv' := [(5, .ref (G.1 (57 + j9))), (4, .null), (0, .ref (G.1 50)), (1, .int x1), (2, .int x2), (3, .int x3)]) hx hb dX6_ordered_12 hl (by decide) rfl (fun ls hl => ?_)
      refine lv_aloadN hx hb dX6_ordered_14 (lv_at hl 1 rfl) ?_
      refine lv_ifnullN (tgt := 33) hx hb dX6_ordered_16 (by decide) ?_
      refine lv_bipush (v := (-2)) hx hb dX6_ordered_33 (by decide) ?_
      exact retI hC hS hr hlk hF dX6_ordered_35
  · obtain ⟨hj2, hF⟩ := ckb_some hF
    replace hj2 := of_decide_eq_true hj2
    refine cV_ (ci := 6) (i := 50) (C := RX6) (T := TX6) (N := 8) (As := [.int x1]) (v := some (rfv G 53 (some j2))) (rest := []) (st1 := [.ref (G.1 (53 + j2))]) hC hS (hn _ (by decide)) rfl rfl (c_X6_lawOf l G hn x1 M _ _ h2) kV_X6_lawOf lm_X6_136 ⟨Nat.le_of_ble_eq_true rfl, Nat.le_of_ble_eq_true rfl⟩ rfl hl.1 (Nat.le_of_ble_eq_true rfl) dX6_ordered_2 ⟨Nat.le_refl _, Nat.le_refl _⟩ rfl (fun H locs hS => ?_)
    refine lv_astore (lv' := [(4, .ref (G.1 (53 + j2))), (0, .ref (G.1 50)), (1, .int x1), (2, .int x2), (3, .int x3)]) hx hb dX6_ordered_5 hl (by decide) rfl (fun ls hl => ?_)
    refine lv_aload_n hx hb dX6_ordered_7 rfl (lv_at hl 1 rfl) ?_
    refine lv_iload_n hx hb dX6_ordered_8 rfl (lv_at hl 3 rfl) ?_
    rcases bdo_some hF with ⟨M9, h9, hF⟩ | ⟨j9, M9, h9, hF⟩
    · refine cV_ (ci := 6) (i := 50) (C := RX6) (T := TX6) (N := 8) (As := [.int x2]) (v := some (rfv G 57 none)) (rest := []) (st1 := [.null]) hC hS (hn _ (by decide)) rfl rfl (c_X6_sheetOf l G hn x2 M2 _ _ h9) kV_X6_sheetOf lm_X6_87 ⟨Nat.le_of_ble_eq_true rfl, Nat.le_of_ble_eq_true rfl⟩ rfl hl.1 (Nat.le_of_ble_eq_true rfl) dX6_ordered_9 ⟨Nat.le_refl _, Nat.le_refl _⟩ rfl (fun H locs hS => ?_)
      refine lv_astoreN (lv' := [(5, .null), (4, .ref (G.1 (53 + j2))), (0, .ref (G.1 50)), (1, .int x1), (2, .int x2), (3, .int x3)]) hx hb dX6_ordered_12 hl (by decide) rfl (fun ls hl => ?_)
      refine lv_aload hx hb dX6_ordered_14 (lv_at hl 1 rfl) ?_
      refine lv_ifnull hx hb dX6_ordered_16 ?_
      refine lv_aloadN hx hb dX6_ordered_19 (lv_at hl 0 rfl) ?_
      refine lv_ifnullN (tgt := 33) hx hb dX6_ordered_21 (by decide) ?_
      refine lv_bipush (v := (-2)) hx hb dX6_ordered_33 (by decide) ?_
      exact retI hC hS hr hlk hF dX6_ordered_35
    · obtain ⟨hj9, hF⟩ := ckb_some hF
      replace hj9 := of_decide_eq_true hj9
      refine cV_ (ci := 6) (i := 50) (C := RX6) (T := TX6) (N := 8) (As := [.int x2]) (v := some (rfv G 57 (some j9))) (rest := []) (st1 := [.ref (G.1 (57 + j9))]) hC hS (hn _ (by decide)) rfl rfl (c_X6_sheetOf l G hn x2 M2 _ _ h9) kV_X6_sheetOf lm_X6_87 ⟨Nat.le_of_ble_eq_true rfl, Nat.le_of_ble_eq_true rfl⟩ rfl hl.1 (Nat.le_of_ble_eq_true rfl) dX6_ordered_9 ⟨Nat.le_refl _, Nat.le_refl _⟩ rfl (fun H locs hS => ?_)
      refine lv_astore (lv' := [(5, .ref (G.1 (57 + j9))), (4, .ref (G.1 (53 + j2))), (0, .ref (G.1 50)), (1, .int x1), (2, .int x2), (3, .int x3)]) hx hb dX6_ordered_12 hl (by decide) rfl (fun ls hl => ?_)
      refine lv_aload hx hb dX6_ordered_14 (lv_at hl 1 rfl) ?_
      refine lv_ifnull hx hb dX6_ordered_16 ?_
      refine lv_aload hx hb dX6_ordered_19 (lv_at hl 0 rfl) ?_
      refine lv_ifnull hx hb dX6_ordered_21 ?_
      refine lv_iload_n hx hb dX6_ordered_24 rfl (lv_at hl 5 rfl) ?_
      refine lv_if_lt (tgt := 33) hx hb dX6_ordered_25 (by decide) (fun hc => ?_) (fun hc => ?_)
      · rw [if_pos hc] at hF
        refine lv_bipush (v := (-2)) hx hb dX6_ordered_33 (by decide) ?_
        exact retI hC hS hr hlk hF dX6_ordered_35
      · rw [if_neg hc] at hF
        refine lv_iload_n hx hb dX6_ordered_28 rfl (lv_at hl 5 rfl) ?_
        refine lv_iconst (v := 2) hx hb dX6_ordered_29 (by decide) ?_
        refine lv_icmp_le (tgt := 36) hx hb dX6_ordered_30 (by decide) (fun hc => ?_) (fun hc => ?_)
        · rw [if_pos hc] at hF
          refine lv_aload hx hb dX6_ordered_36 (lv_at hl 0 rfl) ?_
          refine gxN (ci := 4) (k := 1) (v := .int (M9.1 (22 + 3 * j9))) (C := RX4) (T := TX4) (N := 4) hC hS (hn _ (mS hj9)) (ceS hj9) rfl in_X4 (by decide) rfl rfl ln_X6_91 dX6_ordered_38 ?_
          refine lv_if_eq (tgt := 50) hx hb dX6_ordered_41 (by decide) (fun hc => ?_) (fun hc => ?_)
          · rw [if_pos hc] at hF
            refine lv_aload_n hx hb dX6_ordered_50 rfl (lv_at hl 2 rfl) ?_
            refine lv_aload hx hb dX6_ordered_51 (lv_at hl 0 rfl) ?_
            obtain ⟨r53, M53, h53, hF⟩ := bd_some hF
            refine cV_ (ci := 6) (i := 50) (C := RX6) (T := TX6) (N := 8) (As := [.ref (G.1 (57 + j9))]) (v := some (.int r53)) (rest := []) (st1 := [.int r53]) hC hS (hn _ (by decide)) rfl rfl (c_X6_isOrder l G hn j9 hj9 M9 _ _ h53) kV_X6_isOrder lm_X6_173 ⟨Nat.le_of_ble_eq_true rfl, Nat.le_of_ble_eq_true rfl⟩ rfl hl.1 (Nat.le_of_ble_eq_true rfl) dX6_ordered_53 ⟨Nat.le_refl _, Nat.le_refl _⟩ rfl (fun H locs hS => ?_)
            refine lv_if_ne (tgt := 62) hx hb dX6_ordered_56 (by decide) (fun hc => ?_) (fun hc => ?_)
            · rw [if_neg hc] at hF
              refine lv_aload_n hx hb dX6_ordered_62 rfl (lv_at hl 2 rfl) ?_
              refine gx (ci := 6) (k := 5) (v := .ref (G.1 55)) (C := RX6) (T := TX6) (N := 8) hC hS (hn _ (by decide)) rfl rfl in_X6 (by decide) rfl rfl lf_X6_44 dX6_ordered_63 ?_
              obtain ⟨M66, h66, hF⟩ := bdv_some hF
              refine cV_ (ci := 1) (i := 55) (C := RX1) (T := TX1) (N := 4) (As := []) (v := none) (rest := []) (st1 := []) hC hS (hn _ (by decide)) rfl rfl (c_X1_begin l G hn M53 _ h66) kV_X1_begin lm_X6_177 ⟨Nat.le_of_ble_eq_true rfl, Nat.le_of_ble_eq_true rfl⟩ rfl hl.1 (Nat.le_of_ble_eq_true rfl) dX6_ordered_66 ⟨Nat.le_refl _, Nat.le_refl _⟩ rfl (fun H locs hS => ?_)
              refine lv_iconst (v := 0) hx hb dX6_ordered_69 (by decide) ?_
              refine lv_istore (lv' := [(6, .int 0), (5, .ref (G.1 (57 + j9))), (4, .ref (G.1 (53 + j2))), (0, .ref (G.1 50)), (1, .int x1), (2, .int x2), (3, .int x3)]) hx hb dX6_ordered_70 hl (by decide) rfl (fun ls hl => ?_)
              exact b_X6_ordered_72 hC hr hlk hn hj2 hj9 fu _ _ _ _ _ _ hF hS (lv_sub hl [3, 6, 2, 1, 0] rfl)
            · rw [if_pos hc] at hF
              refine lv_bipush (v := (-3)) hx hb dX6_ordered_59 (by decide) ?_
              exact retI hC hS hr hlk hF dX6_ordered_61
          · rw [if_neg hc] at hF
            refine lv_aload_n hx hb dX6_ordered_44 rfl (lv_at hl 2 rfl) ?_
            refine lv_iconst (v := 1) hx hb dX6_ordered_45 (by decide) ?_
            obtain ⟨r46, M46, h46, hF⟩ := bd_some hF
            refine cV_ (ci := 6) (i := 50) (C := RX6) (T := TX6) (N := 8) (As := [.int 1]) (v := some (.int r46)) (rest := []) (st1 := [.int r46]) hC hS (hn _ (by decide)) rfl rfl (c_X6_find l G hn 1 M9 _ _ h46) kV_X6_find lm_X6_95 ⟨Nat.le_of_ble_eq_true rfl, Nat.le_of_ble_eq_true rfl⟩ rfl hl.1 (Nat.le_of_ble_eq_true rfl) dX6_ordered_46 ⟨Nat.le_refl _, Nat.le_refl _⟩ rfl (fun H locs hS => ?_)
            exact retI hC hS hr hlk hF dX6_ordered_49
        · rw [if_neg hc] at hF
          refine lv_bipush (v := (-2)) hx hb dX6_ordered_33 (by decide) ?_
          exact retI hC hS hr hlk hF dX6_ordered_35
set_option maxRecDepth 100000 in
theorem c_X6_ordered (l : Launch) (G : GT) (hn : ∀ i ∈ LsF, i ∈ gL G) (x1 : Int32) (x2 : Int32) (x3 : Int32) (M : Mem) (r0 : Int32) (M0 : Mem) (hF : F_X6_ordered x1 x2 x3 M = some (r0, M0)) : MetG l G yX6_ordered cX6_ordered 7 (some .int) 3 71 [.ref (G.1 50), .int x1, .int x2, .int x3] M (some (.int r0)) M0 := by
  refine MetG.of (by decide) (Nat.le_of_ble_eq_true rfl) ?_
  intro p e s m args below meth c hC hr hlk hnm ls hS hl
  exact b_X6_ordered hC hr hlk hn _ _ _ _ _ _ _ hF hS hl
def F_X6_head (x1 : Int32) (x2 : Int32) (M : Mem) : Option (Int32 × Mem) := bdo (F_X6_lawOf x1 M) (fun M2 => some ((-2), M2)) (fun j2 M2 => ckb (decide (j2 < 2)) (if x2 < 0 then some ((-2), M2) else if x2 < 10 then bd (F_X5_heardOnes M2) (fun r32 M32 => bdv (F_X1_byNumbers j2 r32 M32) (fun M35 => bd (F_X1_onHead x2 M35) (fun r43 M43 => some (r43, M43)))) else some ((-2), M2)))
set_option maxHeartbeats 4000000 in
set_option maxRecDepth 100000 in
theorem b_X6_head {M0 : Mem} {r0 : Int32} (hC : SX p m c s args cX6_head 4 RX6 G (AG G)) (hr : meth.sig.returnType = (some .int)) (hlk : meth.locks = false) (hn : ∀ i ∈ LsF, i ∈ gL G) : ∀ (x1 : Int32) (x2 : Int32) (M : Mem) (H : Heap) (locs : List Loc) (ls : Array Slot), F_X6_head x1 x2 M = some (r0, M0) → ST G (AG G) s M H locs → lv_has ls 4 [(0, .ref (G.1 50)), (1, .int x1), (2, .int x2)] → W p l e (RM 4 94) s m args below meth c H locs 0 0 (MQ below (QV G (some (.int r0)) M0) args s 0 0 (AG G)) (F0 m 0 ls []) := by
  obtain ⟨⟨hx, hb, hml, hown, hts⟩, hK, hG, hA⟩ := id hC
  intro x1 x2 M H locs ls hF hS hl
  unfold F_X6_head at hF
  refine lv_aload_n hx hb dX6_head_0 rfl (lv_at hl 0 rfl) ?_
  refine lv_iload_n hx hb dX6_head_1 rfl (lv_at hl 1 rfl) ?_
  rcases bdo_some hF with ⟨M2, h2, hF⟩ | ⟨j2, M2, h2, hF⟩
  · refine cV_ (ci := 6) (i := 50) (C := RX6) (T := TX6) (N := 8) (As := [.int x1]) (v := some (rfv G 53 none)) (rest := []) (st1 := [.null]) hC hS (hn _ (by decide)) rfl rfl (c_X6_lawOf l G hn x1 M _ _ h2) kV_X6_lawOf lm_X6_136 ⟨Nat.le_of_ble_eq_true rfl, Nat.le_of_ble_eq_true rfl⟩ rfl hl.1 (Nat.le_of_ble_eq_true rfl) dX6_head_2 ⟨Nat.le_refl _, Nat.le_refl _⟩ rfl (fun H locs hS => ?_)
    refine lv_astore_nN (lv' := [(3, .null), (0, .ref (G.1 50)), (1, .int x1), (2, .int x2)]) hx hb dX6_head_5 rfl hl (by decide) rfl (fun ls hl => ?_)
    refine lv_aload_nN hx hb dX6_head_6 rfl (lv_at hl 0 rfl) ?_
    refine lv_ifnullN (tgt := 20) hx hb dX6_head_7 (by decide) ?_
    refine lv_bipush (v := (-2)) hx hb dX6_head_20 (by decide) ?_
    exact retI hC hS hr hlk hF dX6_head_22
  · obtain ⟨hj2, hF⟩ := ckb_some hF
    replace hj2 := of_decide_eq_true hj2
    refine cV_ (ci := 6) (i := 50) (C := RX6) (T := TX6) (N := 8) (As := [.int x1]) (v := some (rfv G 53 (some j2))) (rest := []) (st1 := [.ref (G.1 (53 + j2))]) hC hS (hn _ (by decide)) rfl rfl (c_X6_lawOf l G hn x1 M _ _ h2) kV_X6_lawOf lm_X6_136 ⟨Nat.le_of_ble_eq_true rfl, Nat.le_of_ble_eq_true rfl⟩ rfl hl.1 (Nat.le_of_ble_eq_true rfl) dX6_head_2 ⟨Nat.le_refl _, Nat.le_refl _⟩ rfl (fun H locs hS => ?_)
    refine lv_astore_n (lv' := [(3, .ref (G.1 (53 + j2))), (0, .ref (G.1 50)), (1, .int x1), (2, .int x2)]) hx hb dX6_head_5 rfl hl (by decide) rfl (fun ls hl => ?_)
    refine lv_aload_n hx hb dX6_head_6 rfl (lv_at hl 0 rfl) ?_
    refine lv_ifnull hx hb dX6_head_7 ?_
    refine lv_iload_n hx hb dX6_head_10 rfl (lv_at hl 3 rfl) ?_
    refine lv_if_lt (tgt := 20) hx hb dX6_head_11 (by decide) (fun hc => ?_) (fun hc => ?_)
    · rw [if_pos hc] at hF
      refine lv_bipush (v := (-2)) hx hb dX6_head_20 (by decide) ?_
      exact retI hC hS hr hlk hF dX6_head_22
    · rw [if_neg hc] at hF
      refine lv_iload_n hx hb dX6_head_14 rfl (lv_at hl 3 rfl) ?_
      refine lv_bipush (v := 10) hx hb dX6_head_15 (by decide) ?_
      refine lv_icmp_lt (tgt := 23) hx hb dX6_head_17 (by decide) (fun hc => ?_) (fun hc => ?_)
      · rw [if_pos hc] at hF
        refine lv_aload_n hx hb dX6_head_23 rfl (lv_at hl 1 rfl) ?_
        refine gx (ci := 6) (k := 5) (v := .ref (G.1 55)) (C := RX6) (T := TX6) (N := 8) hC hS (hn _ (by decide)) rfl rfl in_X6 (by decide) rfl rfl lf_X6_44 dX6_head_24 ?_
        refine lv_aload_n hx hb dX6_head_27 rfl (lv_at hl 0 rfl) ?_
        refine lv_aload_n hx hb dX6_head_28 rfl (lv_at hl 1 rfl) ?_
        refine gx (ci := 6) (k := 1) (v := .ref (G.1 52)) (C := RX6) (T := TX6) (N := 8) hC hS (hn _ (by decide)) rfl rfl in_X6 (by decide) rfl rfl lf_X6_19 dX6_head_29 ?_
        obtain ⟨r32, M32, h32, hF⟩ := bd_some hF
        refine cV_ (ci := 5) (i := 52) (C := RX5) (T := TX5) (N := 13) (As := []) (v := some (.int r32)) (rest := [.ref (G.1 (53 + j2)), .ref (G.1 55)]) (st1 := [.int r32, .ref (G.1 (53 + j2)), .ref (G.1 55)]) hC hS (hn _ (by decide)) rfl rfl (c_X5_heardOnes l G hn M2 _ _ h32) kV_X5_heardOnes lm_X6_163 ⟨Nat.le_of_ble_eq_true rfl, Nat.le_of_ble_eq_true rfl⟩ rfl hl.1 (Nat.le_of_ble_eq_true rfl) dX6_head_32 ⟨Nat.le_refl _, Nat.le_refl _⟩ rfl (fun H locs hS => ?_)
        obtain ⟨M35, h35, hF⟩ := bdv_some hF
        refine cV_ (ci := 1) (i := 55) (C := RX1) (T := TX1) (N := 4) (As := [.ref (G.1 (53 + j2)), .int r32]) (v := none) (rest := []) (st1 := []) hC hS (hn _ (by decide)) rfl rfl (c_X1_byNumbers l G hn j2 hj2 r32 M32 _ h35) kV_X1_byNumbers lm_X6_166 ⟨Nat.le_of_ble_eq_true rfl, Nat.le_of_ble_eq_true rfl⟩ rfl hl.1 (Nat.le_of_ble_eq_true rfl) dX6_head_35 ⟨Nat.le_refl _, Nat.le_refl _⟩ rfl (fun H locs hS => ?_)
        refine lv_aload_n hx hb dX6_head_38 rfl (lv_at hl 1 rfl) ?_
        refine gx (ci := 6) (k := 5) (v := .ref (G.1 55)) (C := RX6) (T := TX6) (N := 8) hC hS (hn _ (by decide)) rfl rfl in_X6 (by decide) rfl rfl lf_X6_44 dX6_head_39 ?_
        refine lv_iload_n hx hb dX6_head_42 rfl (lv_at hl 3 rfl) ?_
        obtain ⟨r43, M43, h43, hF⟩ := bd_some hF
        refine cV_ (ci := 1) (i := 55) (C := RX1) (T := TX1) (N := 4) (As := [.int x2]) (v := some (.int r43)) (rest := []) (st1 := [.int r43]) hC hS (hn _ (by decide)) rfl rfl (c_X1_onHead l G hn x2 M35 _ _ h43) kV_X1_onHead lm_X6_183 ⟨Nat.le_of_ble_eq_true rfl, Nat.le_of_ble_eq_true rfl⟩ rfl hl.1 (Nat.le_of_ble_eq_true rfl) dX6_head_43 ⟨Nat.le_refl _, Nat.le_refl _⟩ rfl (fun H locs hS => ?_)
        exact retI hC hS hr hlk hF dX6_head_46
      · rw [if_neg hc] at hF
        refine lv_bipush (v := (-2)) hx hb dX6_head_20 (by decide) ?_
        exact retI hC hS hr hlk hF dX6_head_22
set_option maxRecDepth 100000 in
theorem c_X6_head (l : Launch) (G : GT) (hn : ∀ i ∈ LsF, i ∈ gL G) (x1 : Int32) (x2 : Int32) (M : Mem) (r0 : Int32) (M0 : Mem) (hF : F_X6_head x1 x2 M = some (r0, M0)) : MetG l G yX6_head cX6_head 4 (some .int) 4 94 [.ref (G.1 50), .int x1, .int x2] M (some (.int r0)) M0 := by
  refine MetG.of (by decide) (Nat.le_of_ble_eq_true rfl) ?_
  intro p e s m args below meth c hC hr hlk hnm ls hS hl
  exact b_X6_head hC hr hlk hn _ _ _ _ _ _ hF hS hl
def F_X6_factorial_4 : Nat → Int32 → Int32 → Int32 → Mem → Option (Int32 × Mem)
  | 0, _, _, _, _ => none
  | n + 1, x0, x1, x2, M => if x0 < x2 then some (x1, M) else F_X6_factorial_4 n x0 (x1 * x2) (x2 + 1) M
def F_X6_factorial (x0 : Int32) (M : Mem) : Option (Int32 × Mem) := F_X6_factorial_4 fu x0 1 2 M
set_option maxHeartbeats 4000000 in
set_option maxRecDepth 100000 in
theorem b_X6_factorial_4 {M0 : Mem} {r0 : Int32} (hC : SX p m c s args cX6_factorial 3 RX6 G (AG G)) (hr : meth.sig.returnType = (some .int)) (hlk : meth.locks = false) (hn : ∀ i ∈ LsF, i ∈ gL G) : ∀ (n : Nat) (x0 : Int32) (x1 : Int32) (x2 : Int32) (M : Mem) (H : Heap) (locs : List Loc) (ls : Array Slot), F_X6_factorial_4 n x0 x1 x2 M = some (r0, M0) → ST G (AG G) s M H locs → lv_has ls 3 [(0, .int x0), (1, .int x1), (2, .int x2)] → W p l e (RM 0 0) s m args below meth c H locs 0 0 (MQ below (QV G (some (.int r0)) M0) args s 0 0 (AG G)) (F0 m 4 ls []) := by
  obtain ⟨⟨hx, hb, hml, hown, hts⟩, hK, hG, hA⟩ := id hC
  intro n
  induction n with
  | zero =>
    intro x0 x1 x2 M H locs ls hF
    cases hF
  | succ n ih =>
    intro x0 x1 x2 M H locs ls hF hS hl
    unfold F_X6_factorial_4 at hF
    refine lv_iload_n hx hb dX6_factorial_4 rfl (lv_at hl 2 rfl) ?_
    refine lv_iload_n hx hb dX6_factorial_5 rfl (lv_at hl 0 rfl) ?_
    refine lv_icmp_gt (tgt := 19) hx hb dX6_factorial_6 (by decide) (fun hc => ?_) (fun hc => ?_)
    · rw [if_pos hc] at hF
      refine lv_iload_n hx hb dX6_factorial_19 rfl (lv_at hl 1 rfl) ?_
      exact retI hC hS hr hlk hF dX6_factorial_20
    · rw [if_neg hc] at hF
      refine lv_iload_n hx hb dX6_factorial_9 rfl (lv_at hl 1 rfl) ?_
      refine lv_iload_n hx hb dX6_factorial_10 rfl (lv_at hl 2 rfl) ?_
      refine lv_imul hx hb dX6_factorial_11 ?_
      refine lv_istore_n (lv' := [(1, .int (x1 * x2)), (0, .int x0), (2, .int x2)]) hx hb dX6_factorial_12 rfl hl (by decide) rfl (fun ls hl => ?_)
      refine lv_iinc (v := x2 + 1) (lv' := [(2, .int (x2 + 1)), (1, .int (x1 * x2)), (0, .int x0)]) hx hb dX6_factorial_13 hl (k := 2) rfl rfl (by decide) rfl (fun ls hl => ?_)
      refine lv_goto (tgt := 4) hx hb dX6_factorial_16 (by decide) ?_
      exact ih _ _ _ _ _ _ _ hF hS (lv_sub hl [2, 1, 0] rfl)
set_option maxHeartbeats 4000000 in
set_option maxRecDepth 100000 in
theorem b_X6_factorial {M0 : Mem} {r0 : Int32} (hC : SX p m c s args cX6_factorial 3 RX6 G (AG G)) (hr : meth.sig.returnType = (some .int)) (hlk : meth.locks = false) (hn : ∀ i ∈ LsF, i ∈ gL G) : ∀ (x0 : Int32) (M : Mem) (H : Heap) (locs : List Loc) (ls : Array Slot), F_X6_factorial x0 M = some (r0, M0) → ST G (AG G) s M H locs → lv_has ls 3 [(0, .int x0)] → W p l e (RM 0 0) s m args below meth c H locs 0 0 (MQ below (QV G (some (.int r0)) M0) args s 0 0 (AG G)) (F0 m 0 ls []) := by
  obtain ⟨⟨hx, hb, hml, hown, hts⟩, hK, hG, hA⟩ := id hC
  intro x0 M H locs ls hF hS hl
  unfold F_X6_factorial at hF
  refine lv_iconst (v := 1) hx hb dX6_factorial_0 (by decide) ?_
  refine lv_istore_n (lv' := [(1, .int 1), (0, .int x0)]) hx hb dX6_factorial_1 rfl hl (by decide) rfl (fun ls hl => ?_)
  refine lv_iconst (v := 2) hx hb dX6_factorial_2 (by decide) ?_
  refine lv_istore_n (lv' := [(2, .int 2), (1, .int 1), (0, .int x0)]) hx hb dX6_factorial_3 rfl hl (by decide) rfl (fun ls hl => ?_)
  exact b_X6_factorial_4 hC hr hlk hn fu _ _ _ _ _ _ _ hF hS (lv_sub hl [2, 1, 0] rfl)
set_option maxRecDepth 100000 in
theorem c_X6_factorial (l : Launch) (G : GT) (hn : ∀ i ∈ LsF, i ∈ gL G) (x0 : Int32) (M : Mem) (r0 : Int32) (M0 : Mem) (hF : F_X6_factorial x0 M = some (r0, M0)) : MetG l G yX6_factorial cX6_factorial 3 (some .int) 0 0 [.int x0] M (some (.int r0)) M0 := by
  refine MetG.of (by decide) (Nat.le_of_ble_eq_true rfl) ?_
  intro p e s m args below meth c hC hr hlk hnm ls hS hl
  exact b_X6_factorial hC hr hlk hn _ _ _ _ _ hF hS hl
def F_X6_orders_29 (j2 : Nat) (x2 : Int32) (M : Mem) : Option (Int32 × Mem) := bd (F_X5_heardOnes M) (fun r33 M33 => bd (F_J6_bitCount_0f7a4 r33 M33) (fun r40 M40 => if r40 ≤ 7 then if x2 = (-1) then bd (F_J6_bitCount_0f7a4 r33 M40) (fun r58 M58 => bd (F_X6_factorial r58 M58) (fun r61 M61 => some (r61, M61))) else if ((r33 >>> (x2 &&& 31)) &&& 1) = 0 then some (0, M40) else bdv (F_X1_begin M40) (fun M80 => bd (F_X1_ordersWith 10 j2 r33 x2 0 M80) (fun r92 M92 => some (r92, M92))) else some ((-4), M40)))
def F_X6_orders (x1 : Int32) (x2 : Int32) (M : Mem) : Option (Int32 × Mem) := bdo (F_X6_lawOf x1 M) (fun M2 => some ((-2), M2)) (fun j2 M2 => ckb (decide (j2 < 2)) (if x2 = (-1) then F_X6_orders_29 j2 x2 M2 else bd (F_X5_has x2 M2) (fun r20 M20 => if r20 = 0 then some ((-2), M20) else F_X6_orders_29 j2 x2 M20)))
set_option maxHeartbeats 4000000 in
set_option maxRecDepth 100000 in
theorem b_X6_orders_29 {j2 : Nat} {M0 : Mem} {r0 : Int32} (hC : SX p m c s args cX6_orders 5 RX6 G (AG G)) (hr : meth.sig.returnType = (some .int)) (hlk : meth.locks = false) (hn : ∀ i ∈ LsF, i ∈ gL G) (hj2 : j2 < 2) : ∀ (x2 : Int32) (M : Mem) (H : Heap) (locs : List Loc) (ls : Array Slot), F_X6_orders_29 j2 x2 M = some (r0, M0) → ST G (AG G) s M H locs → lv_has ls 5 [(0, .ref (G.1 50)), (2, .int x2), (3, .ref (G.1 (53 + j2)))] → W p l e (RM 14 401) s m args below meth c H locs 0 0 (MQ below (QV G (some (.int r0)) M0) args s 0 0 (AG G)) (F0 m 29 ls []) := by
  obtain ⟨⟨hx, hb, hml, hown, hts⟩, hK, hG, hA⟩ := id hC
  intro x2 M H locs ls hF hS hl
  unfold F_X6_orders_29 at hF
  refine lv_aload_n hx hb dX6_orders_29 rfl (lv_at hl 0 rfl) ?_
  refine gx (ci := 6) (k := 1) (v := .ref (G.1 52)) (C := RX6) (T := TX6) (N := 8) hC hS (hn _ (by decide)) rfl rfl in_X6 (by decide) rfl rfl lf_X6_19 dX6_orders_30 ?_
  obtain ⟨r33, M33, h33, hF⟩ := bd_some hF
  refine cV_ (ci := 5) (i := 52) (C := RX5) (T := TX5) (N := 13) (As := []) (v := some (.int r33)) (rest := []) (st1 := [.int r33]) hC hS (hn _ (by decide)) rfl rfl (c_X5_heardOnes l G hn M _ _ h33) kV_X5_heardOnes lm_X6_163 ⟨Nat.le_of_ble_eq_true rfl, Nat.le_of_ble_eq_true rfl⟩ rfl hl.1 (Nat.le_of_ble_eq_true rfl) dX6_orders_33 ⟨Nat.le_refl _, Nat.le_refl _⟩ rfl (fun H locs hS => ?_)
  refine lv_istore (lv' := [(4, .int r33), (0, .ref (G.1 50)), (2, .int x2), (3, .ref (G.1 (53 + j2)))]) hx hb dX6_orders_36 hl (by decide) rfl (fun ls hl => ?_)
  refine lv_iload hx hb dX6_orders_38 (lv_at hl 0 rfl) ?_
  obtain ⟨r40, M40, h40, hF⟩ := bd_some hF
  refine cS_ (As := [.int r33]) (v := some (.int r40)) (rest := []) (st1 := [.int r40]) hC hS (c_J6_bitCount_0f7a4 l G r33 M33 _ _ h40) kS_J6_bitCount_0f7a4 lm_X6_186 ⟨Nat.le_of_ble_eq_true rfl, Nat.le_of_ble_eq_true rfl⟩ rfl hl.1 (Nat.le_of_ble_eq_true rfl) dX6_orders_40 ⟨Nat.le_refl _, Nat.le_refl _⟩ rfl (fun H locs hS => ?_)
  refine lv_bipush (v := 7) hx hb dX6_orders_43 (by decide) ?_
  refine lv_icmp_le (tgt := 51) hx hb dX6_orders_45 (by decide) (fun hc => ?_) (fun hc => ?_)
  · rw [if_pos hc] at hF
    refine lv_iload_n hx hb dX6_orders_51 rfl (lv_at hl 2 rfl) ?_
    refine lv_iconst (v := (-1)) hx hb dX6_orders_52 (by decide) ?_
    refine lv_icmp_ne (tgt := 65) hx hb dX6_orders_53 (by decide) (fun hc => ?_) (fun hc => ?_)
    · rw [if_neg hc] at hF
      refine lv_iload hx hb dX6_orders_65 (lv_at hl 0 rfl) ?_
      refine lv_iload_n hx hb dX6_orders_67 rfl (lv_at hl 2 rfl) ?_
      refine lv_ishr hx hb dX6_orders_68 ?_
      refine lv_iconst (v := 1) hx hb dX6_orders_69 (by decide) ?_
      refine lv_iand hx hb dX6_orders_70 ?_
      refine lv_if_ne (tgt := 76) hx hb dX6_orders_71 (by decide) (fun hc => ?_) (fun hc => ?_)
      · rw [if_neg hc] at hF
        refine lv_aload_n hx hb dX6_orders_76 rfl (lv_at hl 1 rfl) ?_
        refine gx (ci := 6) (k := 5) (v := .ref (G.1 55)) (C := RX6) (T := TX6) (N := 8) hC hS (hn _ (by decide)) rfl rfl in_X6 (by decide) rfl rfl lf_X6_44 dX6_orders_77 ?_
        obtain ⟨M80, h80, hF⟩ := bdv_some hF
        refine cV_ (ci := 1) (i := 55) (C := RX1) (T := TX1) (N := 4) (As := []) (v := none) (rest := []) (st1 := []) hC hS (hn _ (by decide)) rfl rfl (c_X1_begin l G hn M40 _ h80) kV_X1_begin lm_X6_177 ⟨Nat.le_of_ble_eq_true rfl, Nat.le_of_ble_eq_true rfl⟩ rfl hl.1 (Nat.le_of_ble_eq_true rfl) dX6_orders_80 ⟨Nat.le_refl _, Nat.le_refl _⟩ rfl (fun H locs hS => ?_)
        refine lv_aload_n hx hb dX6_orders_83 rfl (lv_at hl 1 rfl) ?_
        refine gx (ci := 6) (k := 5) (v := .ref (G.1 55)) (C := RX6) (T := TX6) (N := 8) hC hS (hn _ (by decide)) rfl rfl in_X6 (by decide) rfl rfl lf_X6_44 dX6_orders_84 ?_
        refine lv_aload_n hx hb dX6_orders_87 rfl (lv_at hl 3 rfl) ?_
        refine lv_iload hx hb dX6_orders_88 (lv_at hl 0 rfl) ?_
        refine lv_iload_n hx hb dX6_orders_90 rfl (lv_at hl 2 rfl) ?_
        refine lv_iconst (v := 0) hx hb dX6_orders_91 (by decide) ?_
        obtain ⟨r92, M92, h92, hF⟩ := bd_some hF
        refine cN_ (ci := 1) (i := 55) (C := RX1) (T := TX1) (N := 4) (As := [.ref (G.1 (53 + j2)), .int r33, .int x2, .int 0]) (v := some (.int r92)) (rest := []) (st1 := [.int r92]) hC hS (hn _ (by decide)) rfl rfl (c_X1_ordersWith l G hn 10 j2 hj2 r33 x2 0 M80 _ _ h92) kV_X1_ordersWith lk_X6_194 ⟨Nat.le_of_ble_eq_true rfl, Nat.le_of_ble_eq_true rfl⟩ rfl hl.1 (Nat.le_of_ble_eq_true rfl) dX6_orders_92 ⟨Nat.le_refl _, Nat.le_refl _⟩ rfl (fun H locs hS => ?_)
        exact retI hC hS hr hlk hF dX6_orders_95
      · rw [if_pos hc] at hF
        refine lv_iconst (v := 0) hx hb dX6_orders_74 (by decide) ?_
        exact retI hC hS hr hlk hF dX6_orders_75
    · rw [if_pos hc] at hF
      refine lv_iload hx hb dX6_orders_56 (lv_at hl 0 rfl) ?_
      obtain ⟨r58, M58, h58, hF⟩ := bd_some hF
      refine cS_ (As := [.int r33]) (v := some (.int r58)) (rest := []) (st1 := [.int r58]) hC hS (c_J6_bitCount_0f7a4 l G r33 M40 _ _ h58) kS_J6_bitCount_0f7a4 lm_X6_186 ⟨Nat.le_of_ble_eq_true rfl, Nat.le_of_ble_eq_true rfl⟩ rfl hl.1 (Nat.le_of_ble_eq_true rfl) dX6_orders_58 ⟨Nat.le_refl _, Nat.le_refl _⟩ rfl (fun H locs hS => ?_)
      obtain ⟨r61, M61, h61, hF⟩ := bd_some hF
      refine cS_ (As := [.int r58]) (v := some (.int r61)) (rest := []) (st1 := [.int r61]) hC hS (c_X6_factorial l G hn r58 M58 _ _ h61) kS_X6_factorial lm_X6_191 ⟨Nat.le_of_ble_eq_true rfl, Nat.le_of_ble_eq_true rfl⟩ rfl hl.1 (Nat.le_of_ble_eq_true rfl) dX6_orders_61 ⟨Nat.le_refl _, Nat.le_refl _⟩ rfl (fun H locs hS => ?_)
      exact retI hC hS hr hlk hF dX6_orders_64
  · rw [if_neg hc] at hF
    refine lv_bipush (v := (-4)) hx hb dX6_orders_48 (by decide) ?_
    exact retI hC hS hr hlk hF dX6_orders_50
set_option maxHeartbeats 4000000 in
set_option maxRecDepth 100000 in
theorem b_X6_orders {M0 : Mem} {r0 : Int32} (hC : SX p m c s args cX6_orders 5 RX6 G (AG G)) (hr : meth.sig.returnType = (some .int)) (hlk : meth.locks = false) (hn : ∀ i ∈ LsF, i ∈ gL G) : ∀ (x1 : Int32) (x2 : Int32) (M : Mem) (H : Heap) (locs : List Loc) (ls : Array Slot), F_X6_orders x1 x2 M = some (r0, M0) → ST G (AG G) s M H locs → lv_has ls 5 [(0, .ref (G.1 50)), (1, .int x1), (2, .int x2)] → W p l e (RM 14 401) s m args below meth c H locs 0 0 (MQ below (QV G (some (.int r0)) M0) args s 0 0 (AG G)) (F0 m 0 ls []) := by
  obtain ⟨⟨hx, hb, hml, hown, hts⟩, hK, hG, hA⟩ := id hC
  intro x1 x2 M H locs ls hF hS hl
  unfold F_X6_orders at hF
  refine lv_aload_n hx hb dX6_orders_0 rfl (lv_at hl 0 rfl) ?_
  refine lv_iload_n hx hb dX6_orders_1 rfl (lv_at hl 1 rfl) ?_
  rcases bdo_some hF with ⟨M2, h2, hF⟩ | ⟨j2, M2, h2, hF⟩
  · refine cV_ (ci := 6) (i := 50) (C := RX6) (T := TX6) (N := 8) (As := [.int x1]) (v := some (rfv G 53 none)) (rest := []) (st1 := [.null]) hC hS (hn _ (by decide)) rfl rfl (c_X6_lawOf l G hn x1 M _ _ h2) kV_X6_lawOf lm_X6_136 ⟨Nat.le_of_ble_eq_true rfl, Nat.le_of_ble_eq_true rfl⟩ rfl hl.1 (Nat.le_of_ble_eq_true rfl) dX6_orders_2 ⟨Nat.le_refl _, Nat.le_refl _⟩ rfl (fun H locs hS => ?_)
    refine lv_astore_nN (lv' := [(3, .null), (0, .ref (G.1 50)), (1, .int x1), (2, .int x2)]) hx hb dX6_orders_5 rfl hl (by decide) rfl (fun ls hl => ?_)
    refine lv_aload_nN hx hb dX6_orders_6 rfl (lv_at hl 0 rfl) ?_
    refine lv_ifnullN (tgt := 26) hx hb dX6_orders_7 (by decide) ?_
    refine lv_bipush (v := (-2)) hx hb dX6_orders_26 (by decide) ?_
    exact retI hC hS hr hlk hF dX6_orders_28
  · obtain ⟨hj2, hF⟩ := ckb_some hF
    replace hj2 := of_decide_eq_true hj2
    refine cV_ (ci := 6) (i := 50) (C := RX6) (T := TX6) (N := 8) (As := [.int x1]) (v := some (rfv G 53 (some j2))) (rest := []) (st1 := [.ref (G.1 (53 + j2))]) hC hS (hn _ (by decide)) rfl rfl (c_X6_lawOf l G hn x1 M _ _ h2) kV_X6_lawOf lm_X6_136 ⟨Nat.le_of_ble_eq_true rfl, Nat.le_of_ble_eq_true rfl⟩ rfl hl.1 (Nat.le_of_ble_eq_true rfl) dX6_orders_2 ⟨Nat.le_refl _, Nat.le_refl _⟩ rfl (fun H locs hS => ?_)
    refine lv_astore_n (lv' := [(3, .ref (G.1 (53 + j2))), (0, .ref (G.1 50)), (1, .int x1), (2, .int x2)]) hx hb dX6_orders_5 rfl hl (by decide) rfl (fun ls hl => ?_)
    refine lv_aload_n hx hb dX6_orders_6 rfl (lv_at hl 0 rfl) ?_
    refine lv_ifnull hx hb dX6_orders_7 ?_
    refine lv_iload_n hx hb dX6_orders_10 rfl (lv_at hl 3 rfl) ?_
    refine lv_iconst (v := (-1)) hx hb dX6_orders_11 (by decide) ?_
    refine lv_icmp_eq (tgt := 29) hx hb dX6_orders_12 (by decide) (fun hc => ?_) (fun hc => ?_)
    · rw [if_pos hc] at hF
      exact b_X6_orders_29 hC hr hlk hn hj2 _ _ _ _ _ hF hS (lv_sub hl [1, 3, 0] rfl)
    · rw [if_neg hc] at hF
      refine lv_aload_n hx hb dX6_orders_15 rfl (lv_at hl 1 rfl) ?_
      refine gx (ci := 6) (k := 1) (v := .ref (G.1 52)) (C := RX6) (T := TX6) (N := 8) hC hS (hn _ (by decide)) rfl rfl in_X6 (by decide) rfl rfl lf_X6_19 dX6_orders_16 ?_
      refine lv_iload_n hx hb dX6_orders_19 rfl (lv_at hl 3 rfl) ?_
      obtain ⟨r20, M20, h20, hF⟩ := bd_some hF
      refine cV_ (ci := 5) (i := 52) (C := RX5) (T := TX5) (N := 13) (As := [.int x2]) (v := some (.int r20)) (rest := []) (st1 := [.int r20]) hC hS (hn _ (by decide)) rfl rfl (c_X5_has l G hn x2 M2 _ _ h20) kV_X5_has lm_X6_108 ⟨Nat.le_of_ble_eq_true rfl, Nat.le_of_ble_eq_true rfl⟩ rfl hl.1 (Nat.le_of_ble_eq_true rfl) dX6_orders_20 ⟨Nat.le_refl _, Nat.le_refl _⟩ rfl (fun H locs hS => ?_)
      refine lv_if_ne (tgt := 29) hx hb dX6_orders_23 (by decide) (fun hc => ?_) (fun hc => ?_)
      · rw [if_neg hc] at hF
        exact b_X6_orders_29 hC hr hlk hn hj2 _ _ _ _ _ hF hS (lv_sub hl [1, 3, 0] rfl)
      · rw [if_pos hc] at hF
        refine lv_bipush (v := (-2)) hx hb dX6_orders_26 (by decide) ?_
        exact retI hC hS hr hlk hF dX6_orders_28
set_option maxRecDepth 100000 in
theorem c_X6_orders (l : Launch) (G : GT) (hn : ∀ i ∈ LsF, i ∈ gL G) (x1 : Int32) (x2 : Int32) (M : Mem) (r0 : Int32) (M0 : Mem) (hF : F_X6_orders x1 x2 M = some (r0, M0)) : MetG l G yX6_orders cX6_orders 5 (some .int) 14 401 [.ref (G.1 50), .int x1, .int x2] M (some (.int r0)) M0 := by
  refine MetG.of (by decide) (Nat.le_of_ble_eq_true rfl) ?_
  intro p e s m args below meth c hC hr hlk hnm ls hS hl
  exact b_X6_orders hC hr hlk hn _ _ _ _ _ _ hF hS hl
def F_X6_strikes (x1 : Int32) (x2 : Int32) (x3 : Int32) (M : Mem) : Option (Int32 × Mem) := bdo (F_X6_lawOf x1 M) (fun M2 => some ((-2), M2)) (fun j2 M2 => ckb (decide (j2 < 2)) (bd (F_X5_has x2 M2) (fun r17 M17 => if r17 = 0 then some ((-2), M17) else bd (F_X5_has x3 M17) (fun r28 M28 => if r28 = 0 then some ((-2), M28) else bd (F_X5_heardOnes M28) (fun r47 M47 => bdv (F_X0_takeUp j2 r47 M47) (fun M50 => bd (F_X0_struckBy ((1 : Int32) <<< (x2 &&& 31)) M50) (fun r60 M60 => some ((r60 >>> (x3 &&& 31)) &&& 1, M60))))))))
set_option maxHeartbeats 4000000 in
set_option maxRecDepth 100000 in
theorem b_X6_strikes {M0 : Mem} {r0 : Int32} (hC : SX p m c s args cX6_strikes 5 RX6 G (AG G)) (hr : meth.sig.returnType = (some .int)) (hlk : meth.locks = false) (hn : ∀ i ∈ LsF, i ∈ gL G) : ∀ (x1 : Int32) (x2 : Int32) (x3 : Int32) (M : Mem) (H : Heap) (locs : List Loc) (ls : Array Slot), F_X6_strikes x1 x2 x3 M = some (r0, M0) → ST G (AG G) s M H locs → lv_has ls 5 [(0, .ref (G.1 50)), (1, .int x1), (2, .int x2), (3, .int x3)] → W p l e (RM 4 92) s m args below meth c H locs 0 0 (MQ below (QV G (some (.int r0)) M0) args s 0 0 (AG G)) (F0 m 0 ls []) := by
  obtain ⟨⟨hx, hb, hml, hown, hts⟩, hK, hG, hA⟩ := id hC
  intro x1 x2 x3 M H locs ls hF hS hl
  unfold F_X6_strikes at hF
  refine lv_aload_n hx hb dX6_strikes_0 rfl (lv_at hl 0 rfl) ?_
  refine lv_iload_n hx hb dX6_strikes_1 rfl (lv_at hl 1 rfl) ?_
  rcases bdo_some hF with ⟨M2, h2, hF⟩ | ⟨j2, M2, h2, hF⟩
  · refine cV_ (ci := 6) (i := 50) (C := RX6) (T := TX6) (N := 8) (As := [.int x1]) (v := some (rfv G 53 none)) (rest := []) (st1 := [.null]) hC hS (hn _ (by decide)) rfl rfl (c_X6_lawOf l G hn x1 M _ _ h2) kV_X6_lawOf lm_X6_136 ⟨Nat.le_of_ble_eq_true rfl, Nat.le_of_ble_eq_true rfl⟩ rfl hl.1 (Nat.le_of_ble_eq_true rfl) dX6_strikes_2 ⟨Nat.le_refl _, Nat.le_refl _⟩ rfl (fun H locs hS => ?_)
    refine lv_astoreN (lv' := [(4, .null), (0, .ref (G.1 50)), (1, .int x1), (2, .int x2), (3, .int x3)]) hx hb dX6_strikes_5 hl (by decide) rfl (fun ls hl => ?_)
    refine lv_aloadN hx hb dX6_strikes_7 (lv_at hl 0 rfl) ?_
    refine lv_ifnullN (tgt := 34) hx hb dX6_strikes_9 (by decide) ?_
    refine lv_bipush (v := (-2)) hx hb dX6_strikes_34 (by decide) ?_
    exact retI hC hS hr hlk hF dX6_strikes_36
  · obtain ⟨hj2, hF⟩ := ckb_some hF
    replace hj2 := of_decide_eq_true hj2
    refine cV_ (ci := 6) (i := 50) (C := RX6) (T := TX6) (N := 8) (As := [.int x1]) (v := some (rfv G 53 (some j2))) (rest := []) (st1 := [.ref (G.1 (53 + j2))]) hC hS (hn _ (by decide)) rfl rfl (c_X6_lawOf l G hn x1 M _ _ h2) kV_X6_lawOf lm_X6_136 ⟨Nat.le_of_ble_eq_true rfl, Nat.le_of_ble_eq_true rfl⟩ rfl hl.1 (Nat.le_of_ble_eq_true rfl) dX6_strikes_2 ⟨Nat.le_refl _, Nat.le_refl _⟩ rfl (fun H locs hS => ?_)
    refine lv_astore (lv' := [(4, .ref (G.1 (53 + j2))), (0, .ref (G.1 50)), (1, .int x1), (2, .int x2), (3, .int x3)]) hx hb dX6_strikes_5 hl (by decide) rfl (fun ls hl => ?_)
    refine lv_aload hx hb dX6_strikes_7 (lv_at hl 0 rfl) ?_
    refine lv_ifnull hx hb dX6_strikes_9 ?_
    refine lv_aload_n hx hb dX6_strikes_12 rfl (lv_at hl 1 rfl) ?_
    refine gx (ci := 6) (k := 1) (v := .ref (G.1 52)) (C := RX6) (T := TX6) (N := 8) hC hS (hn _ (by decide)) rfl rfl in_X6 (by decide) rfl rfl lf_X6_19 dX6_strikes_13 ?_
    refine lv_iload_n hx hb dX6_strikes_16 rfl (lv_at hl 3 rfl) ?_
    obtain ⟨r17, M17, h17, hF⟩ := bd_some hF
    refine cV_ (ci := 5) (i := 52) (C := RX5) (T := TX5) (N := 13) (As := [.int x2]) (v := some (.int r17)) (rest := []) (st1 := [.int r17]) hC hS (hn _ (by decide)) rfl rfl (c_X5_has l G hn x2 M2 _ _ h17) kV_X5_has lm_X6_108 ⟨Nat.le_of_ble_eq_true rfl, Nat.le_of_ble_eq_true rfl⟩ rfl hl.1 (Nat.le_of_ble_eq_true rfl) dX6_strikes_17 ⟨Nat.le_refl _, Nat.le_refl _⟩ rfl (fun H locs hS => ?_)
    refine lv_if_eq (tgt := 34) hx hb dX6_strikes_20 (by decide) (fun hc => ?_) (fun hc => ?_)
    · rw [if_pos hc] at hF
      refine lv_bipush (v := (-2)) hx hb dX6_strikes_34 (by decide) ?_
      exact retI hC hS hr hlk hF dX6_strikes_36
    · rw [if_neg hc] at hF
      refine lv_aload_n hx hb dX6_strikes_23 rfl (lv_at hl 1 rfl) ?_
      refine gx (ci := 6) (k := 1) (v := .ref (G.1 52)) (C := RX6) (T := TX6) (N := 8) hC hS (hn _ (by decide)) rfl rfl in_X6 (by decide) rfl rfl lf_X6_19 dX6_strikes_24 ?_
      refine lv_iload_n hx hb dX6_strikes_27 rfl (lv_at hl 4 rfl) ?_
      obtain ⟨r28, M28, h28, hF⟩ := bd_some hF
      refine cV_ (ci := 5) (i := 52) (C := RX5) (T := TX5) (N := 13) (As := [.int x3]) (v := some (.int r28)) (rest := []) (st1 := [.int r28]) hC hS (hn _ (by decide)) rfl rfl (c_X5_has l G hn x3 M17 _ _ h28) kV_X5_has lm_X6_108 ⟨Nat.le_of_ble_eq_true rfl, Nat.le_of_ble_eq_true rfl⟩ rfl hl.1 (Nat.le_of_ble_eq_true rfl) dX6_strikes_28 ⟨Nat.le_refl _, Nat.le_refl _⟩ rfl (fun H locs hS => ?_)
      refine lv_if_ne (tgt := 37) hx hb dX6_strikes_31 (by decide) (fun hc => ?_) (fun hc => ?_)
      · rw [if_neg hc] at hF
        refine lv_aload_n hx hb dX6_strikes_37 rfl (lv_at hl 1 rfl) ?_
        refine gx (ci := 6) (k := 6) (v := .ref (G.1 56)) (C := RX6) (T := TX6) (N := 8) hC hS (hn _ (by decide)) rfl rfl in_X6 (by decide) rfl rfl lf_X6_51 dX6_strikes_38 ?_
        refine lv_aload hx hb dX6_strikes_41 (lv_at hl 0 rfl) ?_
        refine lv_aload_n hx hb dX6_strikes_43 rfl (lv_at hl 1 rfl) ?_
        refine gx (ci := 6) (k := 1) (v := .ref (G.1 52)) (C := RX6) (T := TX6) (N := 8) hC hS (hn _ (by decide)) rfl rfl in_X6 (by decide) rfl rfl lf_X6_19 dX6_strikes_44 ?_
        obtain ⟨r47, M47, h47, hF⟩ := bd_some hF
        refine cV_ (ci := 5) (i := 52) (C := RX5) (T := TX5) (N := 13) (As := []) (v := some (.int r47)) (rest := [.ref (G.1 (53 + j2)), .ref (G.1 56)]) (st1 := [.int r47, .ref (G.1 (53 + j2)), .ref (G.1 56)]) hC hS (hn _ (by decide)) rfl rfl (c_X5_heardOnes l G hn M28 _ _ h47) kV_X5_heardOnes lm_X6_163 ⟨Nat.le_of_ble_eq_true rfl, Nat.le_of_ble_eq_true rfl⟩ rfl hl.1 (Nat.le_of_ble_eq_true rfl) dX6_strikes_47 ⟨Nat.le_refl _, Nat.le_refl _⟩ rfl (fun H locs hS => ?_)
        obtain ⟨M50, h50, hF⟩ := bdv_some hF
        refine cV_ (ci := 0) (i := 56) (C := RX0) (T := TX0) (N := 6) (As := [.ref (G.1 (53 + j2)), .int r47]) (v := none) (rest := []) (st1 := []) hC hS (hn _ (by decide)) rfl rfl (c_X0_takeUp l G hn j2 hj2 r47 M47 _ h50) kV_X0_takeUp lm_X6_198 ⟨Nat.le_of_ble_eq_true rfl, Nat.le_of_ble_eq_true rfl⟩ rfl hl.1 (Nat.le_of_ble_eq_true rfl) dX6_strikes_50 ⟨Nat.le_refl _, Nat.le_refl _⟩ rfl (fun H locs hS => ?_)
        refine lv_aload_n hx hb dX6_strikes_53 rfl (lv_at hl 1 rfl) ?_
        refine gx (ci := 6) (k := 6) (v := .ref (G.1 56)) (C := RX6) (T := TX6) (N := 8) hC hS (hn _ (by decide)) rfl rfl in_X6 (by decide) rfl rfl lf_X6_51 dX6_strikes_54 ?_
        refine lv_iconst (v := 1) hx hb dX6_strikes_57 (by decide) ?_
        refine lv_iload_n hx hb dX6_strikes_58 rfl (lv_at hl 3 rfl) ?_
        refine lv_ishl hx hb dX6_strikes_59 ?_
        obtain ⟨r60, M60, h60, hF⟩ := bd_some hF
        refine cV_ (ci := 0) (i := 56) (C := RX0) (T := TX0) (N := 6) (As := [.int ((1 : Int32) <<< (x2 &&& 31))]) (v := some (.int r60)) (rest := []) (st1 := [.int r60]) hC hS (hn _ (by decide)) rfl rfl (c_X0_struckBy l G hn ((1 : Int32) <<< (x2 &&& 31)) M50 _ _ h60) kV_X0_struckBy lm_X6_201 ⟨Nat.le_of_ble_eq_true rfl, Nat.le_of_ble_eq_true rfl⟩ rfl hl.1 (Nat.le_of_ble_eq_true rfl) dX6_strikes_60 ⟨Nat.le_refl _, Nat.le_refl _⟩ rfl (fun H locs hS => ?_)
        refine lv_iload_n hx hb dX6_strikes_63 rfl (lv_at hl 4 rfl) ?_
        refine lv_ishr hx hb dX6_strikes_64 ?_
        refine lv_iconst (v := 1) hx hb dX6_strikes_65 (by decide) ?_
        refine lv_iand hx hb dX6_strikes_66 ?_
        exact retI hC hS hr hlk hF dX6_strikes_67
      · rw [if_pos hc] at hF
        refine lv_bipush (v := (-2)) hx hb dX6_strikes_34 (by decide) ?_
        exact retI hC hS hr hlk hF dX6_strikes_36
set_option maxRecDepth 100000 in
theorem c_X6_strikes (l : Launch) (G : GT) (hn : ∀ i ∈ LsF, i ∈ gL G) (x1 : Int32) (x2 : Int32) (x3 : Int32) (M : Mem) (r0 : Int32) (M0 : Mem) (hF : F_X6_strikes x1 x2 x3 M = some (r0, M0)) : MetG l G yX6_strikes cX6_strikes 5 (some .int) 4 92 [.ref (G.1 50), .int x1, .int x2, .int x3] M (some (.int r0)) M0 := by
  refine MetG.of (by decide) (Nat.le_of_ble_eq_true rfl) ?_
  intro p e s m args below meth c hC hr hlk hnm ls hS hl
  exact b_X6_strikes hC hr hlk hn _ _ _ _ _ _ _ hF hS hl
def F_X6_sound (x1 : Int32) (x2 : Int32) (M : Mem) : Option (Int32 × Mem) := bdo (F_X6_lawOf x1 M) (fun M2 => some ((-2), M2)) (fun j2 M2 => ckb (decide (j2 < 2)) (bd (F_X5_all M2) (fun r15 M15 => if (x2 &&& (r15 ^^^ (-1))) = 0 then bd (F_X5_heardOnes M15) (fun r36 M36 => bdv (F_X0_takeUp j2 r36 M36) (fun M39 => bd (F_X0_answersForItself x2 M39) (fun r47 M47 => if r47 = 0 then some (0, M47) else some (1, M47)))) else some ((-2), M15))))
set_option maxHeartbeats 4000000 in
set_option maxRecDepth 100000 in
theorem b_X6_sound {M0 : Mem} {r0 : Int32} (hC : SX p m c s args cX6_sound 4 RX6 G (AG G)) (hr : meth.sig.returnType = (some .int)) (hlk : meth.locks = false) (hn : ∀ i ∈ LsF, i ∈ gL G) : ∀ (x1 : Int32) (x2 : Int32) (M : Mem) (H : Heap) (locs : List Loc) (ls : Array Slot), F_X6_sound x1 x2 M = some (r0, M0) → ST G (AG G) s M H locs → lv_has ls 4 [(0, .ref (G.1 50)), (1, .int x1), (2, .int x2)] → W p l e (RM 4 92) s m args below meth c H locs 0 0 (MQ below (QV G (some (.int r0)) M0) args s 0 0 (AG G)) (F0 m 0 ls []) := by
  obtain ⟨⟨hx, hb, hml, hown, hts⟩, hK, hG, hA⟩ := id hC
  intro x1 x2 M H locs ls hF hS hl
  unfold F_X6_sound at hF
  refine lv_aload_n hx hb dX6_sound_0 rfl (lv_at hl 0 rfl) ?_
  refine lv_iload_n hx hb dX6_sound_1 rfl (lv_at hl 1 rfl) ?_
  rcases bdo_some hF with ⟨M2, h2, hF⟩ | ⟨j2, M2, h2, hF⟩
  · refine cV_ (ci := 6) (i := 50) (C := RX6) (T := TX6) (N := 8) (As := [.int x1]) (v := some (rfv G 53 none)) (rest := []) (st1 := [.null]) hC hS (hn _ (by decide)) rfl rfl (c_X6_lawOf l G hn x1 M _ _ h2) kV_X6_lawOf lm_X6_136 ⟨Nat.le_of_ble_eq_true rfl, Nat.le_of_ble_eq_true rfl⟩ rfl hl.1 (Nat.le_of_ble_eq_true rfl) dX6_sound_2 ⟨Nat.le_refl _, Nat.le_refl _⟩ rfl (fun H locs hS => ?_)
    refine lv_astore_nN (lv' := [(3, .null), (0, .ref (G.1 50)), (1, .int x1), (2, .int x2)]) hx hb dX6_sound_5 rfl hl (by decide) rfl (fun ls hl => ?_)
    refine lv_aload_nN hx hb dX6_sound_6 rfl (lv_at hl 0 rfl) ?_
    refine lv_ifnullN (tgt := 24) hx hb dX6_sound_7 (by decide) ?_
    refine lv_bipush (v := (-2)) hx hb dX6_sound_24 (by decide) ?_
    exact retI hC hS hr hlk hF dX6_sound_26
  · obtain ⟨hj2, hF⟩ := ckb_some hF
    replace hj2 := of_decide_eq_true hj2
    refine cV_ (ci := 6) (i := 50) (C := RX6) (T := TX6) (N := 8) (As := [.int x1]) (v := some (rfv G 53 (some j2))) (rest := []) (st1 := [.ref (G.1 (53 + j2))]) hC hS (hn _ (by decide)) rfl rfl (c_X6_lawOf l G hn x1 M _ _ h2) kV_X6_lawOf lm_X6_136 ⟨Nat.le_of_ble_eq_true rfl, Nat.le_of_ble_eq_true rfl⟩ rfl hl.1 (Nat.le_of_ble_eq_true rfl) dX6_sound_2 ⟨Nat.le_refl _, Nat.le_refl _⟩ rfl (fun H locs hS => ?_)
    refine lv_astore_n (lv' := [(3, .ref (G.1 (53 + j2))), (0, .ref (G.1 50)), (1, .int x1), (2, .int x2)]) hx hb dX6_sound_5 rfl hl (by decide) rfl (fun ls hl => ?_)
    refine lv_aload_n hx hb dX6_sound_6 rfl (lv_at hl 0 rfl) ?_
    refine lv_ifnull hx hb dX6_sound_7 ?_
    refine lv_iload_n hx hb dX6_sound_10 rfl (lv_at hl 3 rfl) ?_
    refine lv_aload_n hx hb dX6_sound_11 rfl (lv_at hl 1 rfl) ?_
    refine gx (ci := 6) (k := 1) (v := .ref (G.1 52)) (C := RX6) (T := TX6) (N := 8) hC hS (hn _ (by decide)) rfl rfl in_X6 (by decide) rfl rfl lf_X6_19 dX6_sound_12 ?_
    obtain ⟨r15, M15, h15, hF⟩ := bd_some hF
    refine cV_ (ci := 5) (i := 52) (C := RX5) (T := TX5) (N := 13) (As := []) (v := some (.int r15)) (rest := [.int x2]) (st1 := [.int r15, .int x2]) hC hS (hn _ (by decide)) rfl rfl (c_X5_all l G hn M2 _ _ h15) kV_X5_all lm_X6_132 ⟨Nat.le_of_ble_eq_true rfl, Nat.le_of_ble_eq_true rfl⟩ rfl hl.1 (Nat.le_of_ble_eq_true rfl) dX6_sound_15 ⟨Nat.le_refl _, Nat.le_refl _⟩ rfl (fun H locs hS => ?_)
    refine lv_iconst (v := (-1)) hx hb dX6_sound_18 (by decide) ?_
    refine lv_ixor hx hb dX6_sound_19 ?_
    refine lv_iand hx hb dX6_sound_20 ?_
    refine lv_if_eq (tgt := 27) hx hb dX6_sound_21 (by decide) (fun hc => ?_) (fun hc => ?_)
    · rw [if_pos hc] at hF
      refine lv_aload_n hx hb dX6_sound_27 rfl (lv_at hl 1 rfl) ?_
      refine gx (ci := 6) (k := 6) (v := .ref (G.1 56)) (C := RX6) (T := TX6) (N := 8) hC hS (hn _ (by decide)) rfl rfl in_X6 (by decide) rfl rfl lf_X6_51 dX6_sound_28 ?_
      refine lv_aload_n hx hb dX6_sound_31 rfl (lv_at hl 0 rfl) ?_
      refine lv_aload_n hx hb dX6_sound_32 rfl (lv_at hl 1 rfl) ?_
      refine gx (ci := 6) (k := 1) (v := .ref (G.1 52)) (C := RX6) (T := TX6) (N := 8) hC hS (hn _ (by decide)) rfl rfl in_X6 (by decide) rfl rfl lf_X6_19 dX6_sound_33 ?_
      obtain ⟨r36, M36, h36, hF⟩ := bd_some hF
      refine cV_ (ci := 5) (i := 52) (C := RX5) (T := TX5) (N := 13) (As := []) (v := some (.int r36)) (rest := [.ref (G.1 (53 + j2)), .ref (G.1 56)]) (st1 := [.int r36, .ref (G.1 (53 + j2)), .ref (G.1 56)]) hC hS (hn _ (by decide)) rfl rfl (c_X5_heardOnes l G hn M15 _ _ h36) kV_X5_heardOnes lm_X6_163 ⟨Nat.le_of_ble_eq_true rfl, Nat.le_of_ble_eq_true rfl⟩ rfl hl.1 (Nat.le_of_ble_eq_true rfl) dX6_sound_36 ⟨Nat.le_refl _, Nat.le_refl _⟩ rfl (fun H locs hS => ?_)
      obtain ⟨M39, h39, hF⟩ := bdv_some hF
      refine cV_ (ci := 0) (i := 56) (C := RX0) (T := TX0) (N := 6) (As := [.ref (G.1 (53 + j2)), .int r36]) (v := none) (rest := []) (st1 := []) hC hS (hn _ (by decide)) rfl rfl (c_X0_takeUp l G hn j2 hj2 r36 M36 _ h39) kV_X0_takeUp lm_X6_198 ⟨Nat.le_of_ble_eq_true rfl, Nat.le_of_ble_eq_true rfl⟩ rfl hl.1 (Nat.le_of_ble_eq_true rfl) dX6_sound_39 ⟨Nat.le_refl _, Nat.le_refl _⟩ rfl (fun H locs hS => ?_)
      refine lv_aload_n hx hb dX6_sound_42 rfl (lv_at hl 1 rfl) ?_
      refine gx (ci := 6) (k := 6) (v := .ref (G.1 56)) (C := RX6) (T := TX6) (N := 8) hC hS (hn _ (by decide)) rfl rfl in_X6 (by decide) rfl rfl lf_X6_51 dX6_sound_43 ?_
      refine lv_iload_n hx hb dX6_sound_46 rfl (lv_at hl 3 rfl) ?_
      obtain ⟨r47, M47, h47, hF⟩ := bd_some hF
      refine cV_ (ci := 0) (i := 56) (C := RX0) (T := TX0) (N := 6) (As := [.int x2]) (v := some (.int r47)) (rest := []) (st1 := [.int r47]) hC hS (hn _ (by decide)) rfl rfl (c_X0_answersForItself l G hn x2 M39 _ _ h47) kV_X0_answersForItself lm_X6_204 ⟨Nat.le_of_ble_eq_true rfl, Nat.le_of_ble_eq_true rfl⟩ rfl hl.1 (Nat.le_of_ble_eq_true rfl) dX6_sound_47 ⟨Nat.le_refl _, Nat.le_refl _⟩ rfl (fun H locs hS => ?_)
      refine lv_if_eq (tgt := 57) hx hb dX6_sound_50 (by decide) (fun hc => ?_) (fun hc => ?_)
      · rw [if_pos hc] at hF
        refine lv_iconst (v := 0) hx hb dX6_sound_57 (by decide) ?_
        exact retI hC hS hr hlk hF dX6_sound_58
      · rw [if_neg hc] at hF
        refine lv_iconst (v := 1) hx hb dX6_sound_53 (by decide) ?_
        refine lv_goto (tgt := 58) hx hb dX6_sound_54 (by decide) ?_
        exact retI hC hS hr hlk hF dX6_sound_58
    · rw [if_neg hc] at hF
      refine lv_bipush (v := (-2)) hx hb dX6_sound_24 (by decide) ?_
      exact retI hC hS hr hlk hF dX6_sound_26
set_option maxRecDepth 100000 in
theorem c_X6_sound (l : Launch) (G : GT) (hn : ∀ i ∈ LsF, i ∈ gL G) (x1 : Int32) (x2 : Int32) (M : Mem) (r0 : Int32) (M0 : Mem) (hF : F_X6_sound x1 x2 M = some (r0, M0)) : MetG l G yX6_sound cX6_sound 4 (some .int) 4 92 [.ref (G.1 50), .int x1, .int x2] M (some (.int r0)) M0 := by
  refine MetG.of (by decide) (Nat.le_of_ble_eq_true rfl) ?_
  intro p e s m args below meth c hC hr hlk hnm ls hS hl
  exact b_X6_sound hC hr hlk hn _ _ _ _ _ _ hF hS hl
def F_X6_least (x1 : Int32) (M : Mem) : Option (Int32 × Mem) := bdo (F_X6_lawOf x1 M) (fun M2 => some ((-2), M2)) (fun j2 M2 => ckb (decide (j2 < 2)) (bd (F_X5_heardOnes M2) (fun r22 M22 => bdv (F_X0_takeUp j2 r22 M22) (fun M25 => bd (F_X0_leastSet M25) (fun r32 M32 => some (r32, M32))))))
set_option maxHeartbeats 4000000 in
set_option maxRecDepth 100000 in
theorem b_X6_least {M0 : Mem} {r0 : Int32} (hC : SX p m c s args cX6_least 3 RX6 G (AG G)) (hr : meth.sig.returnType = (some .int)) (hlk : meth.locks = false) (hn : ∀ i ∈ LsF, i ∈ gL G) : ∀ (x1 : Int32) (M : Mem) (H : Heap) (locs : List Loc) (ls : Array Slot), F_X6_least x1 M = some (r0, M0) → ST G (AG G) s M H locs → lv_has ls 3 [(0, .ref (G.1 50)), (1, .int x1)] → W p l e (RM 4 92) s m args below meth c H locs 0 0 (MQ below (QV G (some (.int r0)) M0) args s 0 0 (AG G)) (F0 m 0 ls []) := by
  obtain ⟨⟨hx, hb, hml, hown, hts⟩, hK, hG, hA⟩ := id hC
  intro x1 M H locs ls hF hS hl
  unfold F_X6_least at hF
  refine lv_aload_n hx hb dX6_least_0 rfl (lv_at hl 0 rfl) ?_
  refine lv_iload_n hx hb dX6_least_1 rfl (lv_at hl 1 rfl) ?_
  rcases bdo_some hF with ⟨M2, h2, hF⟩ | ⟨j2, M2, h2, hF⟩
  · refine cV_ (ci := 6) (i := 50) (C := RX6) (T := TX6) (N := 8) (As := [.int x1]) (v := some (rfv G 53 none)) (rest := []) (st1 := [.null]) hC hS (hn _ (by decide)) rfl rfl (c_X6_lawOf l G hn x1 M _ _ h2) kV_X6_lawOf lm_X6_136 ⟨Nat.le_of_ble_eq_true rfl, Nat.le_of_ble_eq_true rfl⟩ rfl hl.1 (Nat.le_of_ble_eq_true rfl) dX6_least_2 ⟨Nat.le_refl _, Nat.le_refl _⟩ rfl (fun H locs hS => ?_)
    refine lv_astore_nN (lv' := [(2, .null), (0, .ref (G.1 50)), (1, .int x1)]) hx hb dX6_least_5 rfl hl (by decide) rfl (fun ls hl => ?_)
    refine lv_aload_nN hx hb dX6_least_6 rfl (lv_at hl 0 rfl) ?_
    refine lv_ifnonnullN hx hb dX6_least_7 ?_
    refine lv_bipush (v := (-2)) hx hb dX6_least_10 (by decide) ?_
    exact retI hC hS hr hlk hF dX6_least_12
  · obtain ⟨hj2, hF⟩ := ckb_some hF
    replace hj2 := of_decide_eq_true hj2
    refine cV_ (ci := 6) (i := 50) (C := RX6) (T := TX6) (N := 8) (As := [.int x1]) (v := some (rfv G 53 (some j2))) (rest := []) (st1 := [.ref (G.1 (53 + j2))]) hC hS (hn _ (by decide)) rfl rfl (c_X6_lawOf l G hn x1 M _ _ h2) kV_X6_lawOf lm_X6_136 ⟨Nat.le_of_ble_eq_true rfl, Nat.le_of_ble_eq_true rfl⟩ rfl hl.1 (Nat.le_of_ble_eq_true rfl) dX6_least_2 ⟨Nat.le_refl _, Nat.le_refl _⟩ rfl (fun H locs hS => ?_)
    refine lv_astore_n (lv' := [(2, .ref (G.1 (53 + j2))), (0, .ref (G.1 50)), (1, .int x1)]) hx hb dX6_least_5 rfl hl (by decide) rfl (fun ls hl => ?_)
    refine lv_aload_n hx hb dX6_least_6 rfl (lv_at hl 0 rfl) ?_
    refine lv_ifnonnull (tgt := 13) hx hb dX6_least_7 (by decide) ?_
    refine lv_aload_n hx hb dX6_least_13 rfl (lv_at hl 1 rfl) ?_
    refine gx (ci := 6) (k := 6) (v := .ref (G.1 56)) (C := RX6) (T := TX6) (N := 8) hC hS (hn _ (by decide)) rfl rfl in_X6 (by decide) rfl rfl lf_X6_51 dX6_least_14 ?_
    refine lv_aload_n hx hb dX6_least_17 rfl (lv_at hl 0 rfl) ?_
    refine lv_aload_n hx hb dX6_least_18 rfl (lv_at hl 1 rfl) ?_
    refine gx (ci := 6) (k := 1) (v := .ref (G.1 52)) (C := RX6) (T := TX6) (N := 8) hC hS (hn _ (by decide)) rfl rfl in_X6 (by decide) rfl rfl lf_X6_19 dX6_least_19 ?_
    obtain ⟨r22, M22, h22, hF⟩ := bd_some hF
    refine cV_ (ci := 5) (i := 52) (C := RX5) (T := TX5) (N := 13) (As := []) (v := some (.int r22)) (rest := [.ref (G.1 (53 + j2)), .ref (G.1 56)]) (st1 := [.int r22, .ref (G.1 (53 + j2)), .ref (G.1 56)]) hC hS (hn _ (by decide)) rfl rfl (c_X5_heardOnes l G hn M2 _ _ h22) kV_X5_heardOnes lm_X6_163 ⟨Nat.le_of_ble_eq_true rfl, Nat.le_of_ble_eq_true rfl⟩ rfl hl.1 (Nat.le_of_ble_eq_true rfl) dX6_least_22 ⟨Nat.le_refl _, Nat.le_refl _⟩ rfl (fun H locs hS => ?_)
    obtain ⟨M25, h25, hF⟩ := bdv_some hF
    refine cV_ (ci := 0) (i := 56) (C := RX0) (T := TX0) (N := 6) (As := [.ref (G.1 (53 + j2)), .int r22]) (v := none) (rest := []) (st1 := []) hC hS (hn _ (by decide)) rfl rfl (c_X0_takeUp l G hn j2 hj2 r22 M22 _ h25) kV_X0_takeUp lm_X6_198 ⟨Nat.le_of_ble_eq_true rfl, Nat.le_of_ble_eq_true rfl⟩ rfl hl.1 (Nat.le_of_ble_eq_true rfl) dX6_least_25 ⟨Nat.le_refl _, Nat.le_refl _⟩ rfl (fun H locs hS => ?_)
    refine lv_aload_n hx hb dX6_least_28 rfl (lv_at hl 1 rfl) ?_
    refine gx (ci := 6) (k := 6) (v := .ref (G.1 56)) (C := RX6) (T := TX6) (N := 8) hC hS (hn _ (by decide)) rfl rfl in_X6 (by decide) rfl rfl lf_X6_51 dX6_least_29 ?_
    obtain ⟨r32, M32, h32, hF⟩ := bd_some hF
    refine cV_ (ci := 0) (i := 56) (C := RX0) (T := TX0) (N := 6) (As := []) (v := some (.int r32)) (rest := []) (st1 := [.int r32]) hC hS (hn _ (by decide)) rfl rfl (c_X0_leastSet l G hn M25 _ _ h32) kV_X0_leastSet lm_X6_207 ⟨Nat.le_of_ble_eq_true rfl, Nat.le_of_ble_eq_true rfl⟩ rfl hl.1 (Nat.le_of_ble_eq_true rfl) dX6_least_32 ⟨Nat.le_refl _, Nat.le_refl _⟩ rfl (fun H locs hS => ?_)
    exact retI hC hS hr hlk hF dX6_least_35
set_option maxRecDepth 100000 in
theorem c_X6_least (l : Launch) (G : GT) (hn : ∀ i ∈ LsF, i ∈ gL G) (x1 : Int32) (M : Mem) (r0 : Int32) (M0 : Mem) (hF : F_X6_least x1 M = some (r0, M0)) : MetG l G yX6_least cX6_least 3 (some .int) 4 92 [.ref (G.1 50), .int x1] M (some (.int r0)) M0 := by
  refine MetG.of (by decide) (Nat.le_of_ble_eq_true rfl) ?_
  intro p e s m args below meth c hC hr hlk hnm ls hS hl
  exact b_X6_least hC hr hlk hn _ _ _ _ _ hF hS hl
def F_X6_full (x1 : Int32) (x2 : Int32) (M : Mem) : Option (Int32 × Mem) := bdo (F_X6_lawOf x1 M) (fun M2 => some ((-2), M2)) (fun j2 M2 => ckb (decide (j2 < 2)) (if (-1) ≤ x2 then bd (F_X5_heardOnes M2) (fun r27 M27 => bdv (F_X0_takeUp j2 r27 M27) (fun M30 => bdv (F_X0_markFullSets M30) (fun M37 => if x2 = (-1) then bd (F_X0_fullSets M37) (fun r49 M49 => some (r49, M49)) else bd (F_X0_fullSet x2 M37) (fun r60 M60 => some (r60, M60))))) else some ((-2), M2)))
set_option maxHeartbeats 4000000 in
set_option maxRecDepth 100000 in
theorem b_X6_full {M0 : Mem} {r0 : Int32} (hC : SX p m c s args cX6_full 4 RX6 G (AG G)) (hr : meth.sig.returnType = (some .int)) (hlk : meth.locks = false) (hn : ∀ i ∈ LsF, i ∈ gL G) : ∀ (x1 : Int32) (x2 : Int32) (M : Mem) (H : Heap) (locs : List Loc) (ls : Array Slot), F_X6_full x1 x2 M = some (r0, M0) → ST G (AG G) s M H locs → lv_has ls 4 [(0, .ref (G.1 50)), (1, .int x1), (2, .int x2)] → W p l e (RM 4 92) s m args below meth c H locs 0 0 (MQ below (QV G (some (.int r0)) M0) args s 0 0 (AG G)) (F0 m 0 ls []) := by
  obtain ⟨⟨hx, hb, hml, hown, hts⟩, hK, hG, hA⟩ := id hC
  intro x1 x2 M H locs ls hF hS hl
  unfold F_X6_full at hF
  refine lv_aload_n hx hb dX6_full_0 rfl (lv_at hl 0 rfl) ?_
  refine lv_iload_n hx hb dX6_full_1 rfl (lv_at hl 1 rfl) ?_
  rcases bdo_some hF with ⟨M2, h2, hF⟩ | ⟨j2, M2, h2, hF⟩
  · refine cV_ (ci := 6) (i := 50) (C := RX6) (T := TX6) (N := 8) (As := [.int x1]) (v := some (rfv G 53 none)) (rest := []) (st1 := [.null]) hC hS (hn _ (by decide)) rfl rfl (c_X6_lawOf l G hn x1 M _ _ h2) kV_X6_lawOf lm_X6_136 ⟨Nat.le_of_ble_eq_true rfl, Nat.le_of_ble_eq_true rfl⟩ rfl hl.1 (Nat.le_of_ble_eq_true rfl) dX6_full_2 ⟨Nat.le_refl _, Nat.le_refl _⟩ rfl (fun H locs hS => ?_)
    refine lv_astore_nN (lv' := [(3, .null), (0, .ref (G.1 50)), (1, .int x1), (2, .int x2)]) hx hb dX6_full_5 rfl hl (by decide) rfl (fun ls hl => ?_)
    refine lv_aload_nN hx hb dX6_full_6 rfl (lv_at hl 0 rfl) ?_
    refine lv_ifnullN (tgt := 15) hx hb dX6_full_7 (by decide) ?_
    refine lv_bipush (v := (-2)) hx hb dX6_full_15 (by decide) ?_
    exact retI hC hS hr hlk hF dX6_full_17
  · obtain ⟨hj2, hF⟩ := ckb_some hF
    replace hj2 := of_decide_eq_true hj2
    refine cV_ (ci := 6) (i := 50) (C := RX6) (T := TX6) (N := 8) (As := [.int x1]) (v := some (rfv G 53 (some j2))) (rest := []) (st1 := [.ref (G.1 (53 + j2))]) hC hS (hn _ (by decide)) rfl rfl (c_X6_lawOf l G hn x1 M _ _ h2) kV_X6_lawOf lm_X6_136 ⟨Nat.le_of_ble_eq_true rfl, Nat.le_of_ble_eq_true rfl⟩ rfl hl.1 (Nat.le_of_ble_eq_true rfl) dX6_full_2 ⟨Nat.le_refl _, Nat.le_refl _⟩ rfl (fun H locs hS => ?_)
    refine lv_astore_n (lv' := [(3, .ref (G.1 (53 + j2))), (0, .ref (G.1 50)), (1, .int x1), (2, .int x2)]) hx hb dX6_full_5 rfl hl (by decide) rfl (fun ls hl => ?_)
    refine lv_aload_n hx hb dX6_full_6 rfl (lv_at hl 0 rfl) ?_
    refine lv_ifnull hx hb dX6_full_7 ?_
    refine lv_iload_n hx hb dX6_full_10 rfl (lv_at hl 3 rfl) ?_
    refine lv_iconst (v := (-1)) hx hb dX6_full_11 (by decide) ?_
    refine lv_icmp_ge (tgt := 18) hx hb dX6_full_12 (by decide) (fun hc => ?_) (fun hc => ?_)
    · rw [if_pos hc] at hF
      refine lv_aload_n hx hb dX6_full_18 rfl (lv_at hl 1 rfl) ?_
      refine gx (ci := 6) (k := 6) (v := .ref (G.1 56)) (C := RX6) (T := TX6) (N := 8) hC hS (hn _ (by decide)) rfl rfl in_X6 (by decide) rfl rfl lf_X6_51 dX6_full_19 ?_
      refine lv_aload_n hx hb dX6_full_22 rfl (lv_at hl 0 rfl) ?_
      refine lv_aload_n hx hb dX6_full_23 rfl (lv_at hl 1 rfl) ?_
      refine gx (ci := 6) (k := 1) (v := .ref (G.1 52)) (C := RX6) (T := TX6) (N := 8) hC hS (hn _ (by decide)) rfl rfl in_X6 (by decide) rfl rfl lf_X6_19 dX6_full_24 ?_
      obtain ⟨r27, M27, h27, hF⟩ := bd_some hF
      refine cV_ (ci := 5) (i := 52) (C := RX5) (T := TX5) (N := 13) (As := []) (v := some (.int r27)) (rest := [.ref (G.1 (53 + j2)), .ref (G.1 56)]) (st1 := [.int r27, .ref (G.1 (53 + j2)), .ref (G.1 56)]) hC hS (hn _ (by decide)) rfl rfl (c_X5_heardOnes l G hn M2 _ _ h27) kV_X5_heardOnes lm_X6_163 ⟨Nat.le_of_ble_eq_true rfl, Nat.le_of_ble_eq_true rfl⟩ rfl hl.1 (Nat.le_of_ble_eq_true rfl) dX6_full_27 ⟨Nat.le_refl _, Nat.le_refl _⟩ rfl (fun H locs hS => ?_)
      obtain ⟨M30, h30, hF⟩ := bdv_some hF
      refine cV_ (ci := 0) (i := 56) (C := RX0) (T := TX0) (N := 6) (As := [.ref (G.1 (53 + j2)), .int r27]) (v := none) (rest := []) (st1 := []) hC hS (hn _ (by decide)) rfl rfl (c_X0_takeUp l G hn j2 hj2 r27 M27 _ h30) kV_X0_takeUp lm_X6_198 ⟨Nat.le_of_ble_eq_true rfl, Nat.le_of_ble_eq_true rfl⟩ rfl hl.1 (Nat.le_of_ble_eq_true rfl) dX6_full_30 ⟨Nat.le_refl _, Nat.le_refl _⟩ rfl (fun H locs hS => ?_)
      refine lv_aload_n hx hb dX6_full_33 rfl (lv_at hl 1 rfl) ?_
      refine gx (ci := 6) (k := 6) (v := .ref (G.1 56)) (C := RX6) (T := TX6) (N := 8) hC hS (hn _ (by decide)) rfl rfl in_X6 (by decide) rfl rfl lf_X6_51 dX6_full_34 ?_
      obtain ⟨M37, h37, hF⟩ := bdv_some hF
      refine cV_ (ci := 0) (i := 56) (C := RX0) (T := TX0) (N := 6) (As := []) (v := none) (rest := []) (st1 := []) hC hS (hn _ (by decide)) rfl rfl (c_X0_markFullSets l G hn M30 _ h37) kV_X0_markFullSets lm_X6_210 ⟨Nat.le_of_ble_eq_true rfl, Nat.le_of_ble_eq_true rfl⟩ rfl hl.1 (Nat.le_of_ble_eq_true rfl) dX6_full_37 ⟨Nat.le_refl _, Nat.le_refl _⟩ rfl (fun H locs hS => ?_)
      refine lv_iload_n hx hb dX6_full_40 rfl (lv_at hl 3 rfl) ?_
      refine lv_iconst (v := (-1)) hx hb dX6_full_41 (by decide) ?_
      refine lv_icmp_ne (tgt := 55) hx hb dX6_full_42 (by decide) (fun hc => ?_) (fun hc => ?_)
      · rw [if_neg hc] at hF
        refine lv_aload_n hx hb dX6_full_55 rfl (lv_at hl 1 rfl) ?_
        refine gx (ci := 6) (k := 6) (v := .ref (G.1 56)) (C := RX6) (T := TX6) (N := 8) hC hS (hn _ (by decide)) rfl rfl in_X6 (by decide) rfl rfl lf_X6_51 dX6_full_56 ?_
        refine lv_iload_n hx hb dX6_full_59 rfl (lv_at hl 3 rfl) ?_
        obtain ⟨r60, M60, h60, hF⟩ := bd_some hF
        refine cV_ (ci := 0) (i := 56) (C := RX0) (T := TX0) (N := 6) (As := [.int x2]) (v := some (.int r60)) (rest := []) (st1 := [.int r60]) hC hS (hn _ (by decide)) rfl rfl (c_X0_fullSet l G hn x2 M37 _ _ h60) kV_X0_fullSet lm_X6_216 ⟨Nat.le_of_ble_eq_true rfl, Nat.le_of_ble_eq_true rfl⟩ rfl hl.1 (Nat.le_of_ble_eq_true rfl) dX6_full_60 ⟨Nat.le_refl _, Nat.le_refl _⟩ rfl (fun H locs hS => ?_)
        exact retI hC hS hr hlk hF dX6_full_63
      · rw [if_pos hc] at hF
        refine lv_aload_n hx hb dX6_full_45 rfl (lv_at hl 1 rfl) ?_
        refine gx (ci := 6) (k := 6) (v := .ref (G.1 56)) (C := RX6) (T := TX6) (N := 8) hC hS (hn _ (by decide)) rfl rfl in_X6 (by decide) rfl rfl lf_X6_51 dX6_full_46 ?_
        obtain ⟨r49, M49, h49, hF⟩ := bd_some hF
        refine cV_ (ci := 0) (i := 56) (C := RX0) (T := TX0) (N := 6) (As := []) (v := some (.int r49)) (rest := []) (st1 := [.int r49]) hC hS (hn _ (by decide)) rfl rfl (c_X0_fullSets l G hn M37 _ _ h49) kV_X0_fullSets lm_X6_213 ⟨Nat.le_of_ble_eq_true rfl, Nat.le_of_ble_eq_true rfl⟩ rfl hl.1 (Nat.le_of_ble_eq_true rfl) dX6_full_49 ⟨Nat.le_refl _, Nat.le_refl _⟩ rfl (fun H locs hS => ?_)
        refine lv_goto (tgt := 63) hx hb dX6_full_52 (by decide) ?_
        exact retI hC hS hr hlk hF dX6_full_63
    · rw [if_neg hc] at hF
      refine lv_bipush (v := (-2)) hx hb dX6_full_15 (by decide) ?_
      exact retI hC hS hr hlk hF dX6_full_17
set_option maxRecDepth 100000 in
theorem c_X6_full (l : Launch) (G : GT) (hn : ∀ i ∈ LsF, i ∈ gL G) (x1 : Int32) (x2 : Int32) (M : Mem) (r0 : Int32) (M0 : Mem) (hF : F_X6_full x1 x2 M = some (r0, M0)) : MetG l G yX6_full cX6_full 4 (some .int) 4 92 [.ref (G.1 50), .int x1, .int x2] M (some (.int r0)) M0 := by
  refine MetG.of (by decide) (Nat.le_of_ble_eq_true rfl) ?_
  intro p e s m args below meth c hC hr hlk hnm ls hS hl
  exact b_X6_full hC hr hlk hn _ _ _ _ _ _ hF hS hl
def F_X6_firm (x1 : Int32) (x2 : Int32) (M : Mem) : Option (Int32 × Mem) := bdo (F_X6_lawOf x1 M) (fun M2 => some ((-2), M2)) (fun j2 M2 => ckb (decide (j2 < 2)) (bd (F_X5_has x2 M2) (fun r15 M15 => if r15 = 0 then some ((-2), M15) else bd (F_X5_heardOnes M15) (fun r33 M33 => bdv (F_X0_takeUp j2 r33 M33) (fun M36 => bdv (F_X0_markFullSets M36) (fun M43 => bd (F_X0_firmness x2 M43) (fun r51 M51 => some (r51, M51))))))))
set_option maxHeartbeats 4000000 in
set_option maxRecDepth 100000 in
theorem b_X6_firm {M0 : Mem} {r0 : Int32} (hC : SX p m c s args cX6_firm 4 RX6 G (AG G)) (hr : meth.sig.returnType = (some .int)) (hlk : meth.locks = false) (hn : ∀ i ∈ LsF, i ∈ gL G) : ∀ (x1 : Int32) (x2 : Int32) (M : Mem) (H : Heap) (locs : List Loc) (ls : Array Slot), F_X6_firm x1 x2 M = some (r0, M0) → ST G (AG G) s M H locs → lv_has ls 4 [(0, .ref (G.1 50)), (1, .int x1), (2, .int x2)] → W p l e (RM 4 92) s m args below meth c H locs 0 0 (MQ below (QV G (some (.int r0)) M0) args s 0 0 (AG G)) (F0 m 0 ls []) := by
  obtain ⟨⟨hx, hb, hml, hown, hts⟩, hK, hG, hA⟩ := id hC
  intro x1 x2 M H locs ls hF hS hl
  unfold F_X6_firm at hF
  refine lv_aload_n hx hb dX6_firm_0 rfl (lv_at hl 0 rfl) ?_
  refine lv_iload_n hx hb dX6_firm_1 rfl (lv_at hl 1 rfl) ?_
  rcases bdo_some hF with ⟨M2, h2, hF⟩ | ⟨j2, M2, h2, hF⟩
  · refine cV_ (ci := 6) (i := 50) (C := RX6) (T := TX6) (N := 8) (As := [.int x1]) (v := some (rfv G 53 none)) (rest := []) (st1 := [.null]) hC hS (hn _ (by decide)) rfl rfl (c_X6_lawOf l G hn x1 M _ _ h2) kV_X6_lawOf lm_X6_136 ⟨Nat.le_of_ble_eq_true rfl, Nat.le_of_ble_eq_true rfl⟩ rfl hl.1 (Nat.le_of_ble_eq_true rfl) dX6_firm_2 ⟨Nat.le_refl _, Nat.le_refl _⟩ rfl (fun H locs hS => ?_)
    refine lv_astore_nN (lv' := [(3, .null), (0, .ref (G.1 50)), (1, .int x1), (2, .int x2)]) hx hb dX6_firm_5 rfl hl (by decide) rfl (fun ls hl => ?_)
    refine lv_aload_nN hx hb dX6_firm_6 rfl (lv_at hl 0 rfl) ?_
    refine lv_ifnullN (tgt := 21) hx hb dX6_firm_7 (by decide) ?_
    refine lv_bipush (v := (-2)) hx hb dX6_firm_21 (by decide) ?_
    exact retI hC hS hr hlk hF dX6_firm_23
  · obtain ⟨hj2, hF⟩ := ckb_some hF
    replace hj2 := of_decide_eq_true hj2
    refine cV_ (ci := 6) (i := 50) (C := RX6) (T := TX6) (N := 8) (As := [.int x1]) (v := some (rfv G 53 (some j2))) (rest := []) (st1 := [.ref (G.1 (53 + j2))]) hC hS (hn _ (by decide)) rfl rfl (c_X6_lawOf l G hn x1 M _ _ h2) kV_X6_lawOf lm_X6_136 ⟨Nat.le_of_ble_eq_true rfl, Nat.le_of_ble_eq_true rfl⟩ rfl hl.1 (Nat.le_of_ble_eq_true rfl) dX6_firm_2 ⟨Nat.le_refl _, Nat.le_refl _⟩ rfl (fun H locs hS => ?_)
    refine lv_astore_n (lv' := [(3, .ref (G.1 (53 + j2))), (0, .ref (G.1 50)), (1, .int x1), (2, .int x2)]) hx hb dX6_firm_5 rfl hl (by decide) rfl (fun ls hl => ?_)
    refine lv_aload_n hx hb dX6_firm_6 rfl (lv_at hl 0 rfl) ?_
    refine lv_ifnull hx hb dX6_firm_7 ?_
    refine lv_aload_n hx hb dX6_firm_10 rfl (lv_at hl 1 rfl) ?_
    refine gx (ci := 6) (k := 1) (v := .ref (G.1 52)) (C := RX6) (T := TX6) (N := 8) hC hS (hn _ (by decide)) rfl rfl in_X6 (by decide) rfl rfl lf_X6_19 dX6_firm_11 ?_
    refine lv_iload_n hx hb dX6_firm_14 rfl (lv_at hl 3 rfl) ?_
    obtain ⟨r15, M15, h15, hF⟩ := bd_some hF
    refine cV_ (ci := 5) (i := 52) (C := RX5) (T := TX5) (N := 13) (As := [.int x2]) (v := some (.int r15)) (rest := []) (st1 := [.int r15]) hC hS (hn _ (by decide)) rfl rfl (c_X5_has l G hn x2 M2 _ _ h15) kV_X5_has lm_X6_108 ⟨Nat.le_of_ble_eq_true rfl, Nat.le_of_ble_eq_true rfl⟩ rfl hl.1 (Nat.le_of_ble_eq_true rfl) dX6_firm_15 ⟨Nat.le_refl _, Nat.le_refl _⟩ rfl (fun H locs hS => ?_)
    refine lv_if_ne (tgt := 24) hx hb dX6_firm_18 (by decide) (fun hc => ?_) (fun hc => ?_)
    · rw [if_neg hc] at hF
      refine lv_aload_n hx hb dX6_firm_24 rfl (lv_at hl 1 rfl) ?_
      refine gx (ci := 6) (k := 6) (v := .ref (G.1 56)) (C := RX6) (T := TX6) (N := 8) hC hS (hn _ (by decide)) rfl rfl in_X6 (by decide) rfl rfl lf_X6_51 dX6_firm_25 ?_
      refine lv_aload_n hx hb dX6_firm_28 rfl (lv_at hl 0 rfl) ?_
      refine lv_aload_n hx hb dX6_firm_29 rfl (lv_at hl 1 rfl) ?_
      refine gx (ci := 6) (k := 1) (v := .ref (G.1 52)) (C := RX6) (T := TX6) (N := 8) hC hS (hn _ (by decide)) rfl rfl in_X6 (by decide) rfl rfl lf_X6_19 dX6_firm_30 ?_
      obtain ⟨r33, M33, h33, hF⟩ := bd_some hF
      refine cV_ (ci := 5) (i := 52) (C := RX5) (T := TX5) (N := 13) (As := []) (v := some (.int r33)) (rest := [.ref (G.1 (53 + j2)), .ref (G.1 56)]) (st1 := [.int r33, .ref (G.1 (53 + j2)), .ref (G.1 56)]) hC hS (hn _ (by decide)) rfl rfl (c_X5_heardOnes l G hn M15 _ _ h33) kV_X5_heardOnes lm_X6_163 ⟨Nat.le_of_ble_eq_true rfl, Nat.le_of_ble_eq_true rfl⟩ rfl hl.1 (Nat.le_of_ble_eq_true rfl) dX6_firm_33 ⟨Nat.le_refl _, Nat.le_refl _⟩ rfl (fun H locs hS => ?_)
      obtain ⟨M36, h36, hF⟩ := bdv_some hF
      refine cV_ (ci := 0) (i := 56) (C := RX0) (T := TX0) (N := 6) (As := [.ref (G.1 (53 + j2)), .int r33]) (v := none) (rest := []) (st1 := []) hC hS (hn _ (by decide)) rfl rfl (c_X0_takeUp l G hn j2 hj2 r33 M33 _ h36) kV_X0_takeUp lm_X6_198 ⟨Nat.le_of_ble_eq_true rfl, Nat.le_of_ble_eq_true rfl⟩ rfl hl.1 (Nat.le_of_ble_eq_true rfl) dX6_firm_36 ⟨Nat.le_refl _, Nat.le_refl _⟩ rfl (fun H locs hS => ?_)
      refine lv_aload_n hx hb dX6_firm_39 rfl (lv_at hl 1 rfl) ?_
      refine gx (ci := 6) (k := 6) (v := .ref (G.1 56)) (C := RX6) (T := TX6) (N := 8) hC hS (hn _ (by decide)) rfl rfl in_X6 (by decide) rfl rfl lf_X6_51 dX6_firm_40 ?_
      obtain ⟨M43, h43, hF⟩ := bdv_some hF
      refine cV_ (ci := 0) (i := 56) (C := RX0) (T := TX0) (N := 6) (As := []) (v := none) (rest := []) (st1 := []) hC hS (hn _ (by decide)) rfl rfl (c_X0_markFullSets l G hn M36 _ h43) kV_X0_markFullSets lm_X6_210 ⟨Nat.le_of_ble_eq_true rfl, Nat.le_of_ble_eq_true rfl⟩ rfl hl.1 (Nat.le_of_ble_eq_true rfl) dX6_firm_43 ⟨Nat.le_refl _, Nat.le_refl _⟩ rfl (fun H locs hS => ?_)
      refine lv_aload_n hx hb dX6_firm_46 rfl (lv_at hl 1 rfl) ?_
      refine gx (ci := 6) (k := 6) (v := .ref (G.1 56)) (C := RX6) (T := TX6) (N := 8) hC hS (hn _ (by decide)) rfl rfl in_X6 (by decide) rfl rfl lf_X6_51 dX6_firm_47 ?_
      refine lv_iload_n hx hb dX6_firm_50 rfl (lv_at hl 3 rfl) ?_
      obtain ⟨r51, M51, h51, hF⟩ := bd_some hF
      refine cV_ (ci := 0) (i := 56) (C := RX0) (T := TX0) (N := 6) (As := [.int x2]) (v := some (.int r51)) (rest := []) (st1 := [.int r51]) hC hS (hn _ (by decide)) rfl rfl (c_X0_firmness l G hn x2 M43 _ _ h51) kV_X0_firmness lm_X6_219 ⟨Nat.le_of_ble_eq_true rfl, Nat.le_of_ble_eq_true rfl⟩ rfl hl.1 (Nat.le_of_ble_eq_true rfl) dX6_firm_51 ⟨Nat.le_refl _, Nat.le_refl _⟩ rfl (fun H locs hS => ?_)
      exact retI hC hS hr hlk hF dX6_firm_54
    · rw [if_pos hc] at hF
      refine lv_bipush (v := (-2)) hx hb dX6_firm_21 (by decide) ?_
      exact retI hC hS hr hlk hF dX6_firm_23
set_option maxRecDepth 100000 in
theorem c_X6_firm (l : Launch) (G : GT) (hn : ∀ i ∈ LsF, i ∈ gL G) (x1 : Int32) (x2 : Int32) (M : Mem) (r0 : Int32) (M0 : Mem) (hF : F_X6_firm x1 x2 M = some (r0, M0)) : MetG l G yX6_firm cX6_firm 4 (some .int) 4 92 [.ref (G.1 50), .int x1, .int x2] M (some (.int r0)) M0 := by
  refine MetG.of (by decide) (Nat.le_of_ble_eq_true rfl) ?_
  intro p e s m args below meth c hC hr hlk hnm ls hS hl
  exact b_X6_firm hC hr hlk hn _ _ _ _ _ _ hF hS hl
def F_X6_ring (M : Mem) : Option (Int32 × Mem) := bd (F_X5_heardOnes M) (fun r12 M12 => bdv (F_X0_takeUp 0 r12 M12) (fun M15 => bd (F_X0_onRings M15) (fun r22 M22 => some (r22, M22))))
set_option maxHeartbeats 4000000 in
set_option maxRecDepth 100000 in
theorem b_X6_ring {M0 : Mem} {r0 : Int32} (hC : SX p m c s args cX6_ring 1 RX6 G (AG G)) (hr : meth.sig.returnType = (some .int)) (hlk : meth.locks = false) (hn : ∀ i ∈ LsF, i ∈ gL G) : ∀ (M : Mem) (H : Heap) (locs : List Loc) (ls : Array Slot), F_X6_ring M = some (r0, M0) → ST G (AG G) s M H locs → lv_has ls 1 [(0, .ref (G.1 50))] → W p l e (RM 4 92) s m args below meth c H locs 0 0 (MQ below (QV G (some (.int r0)) M0) args s 0 0 (AG G)) (F0 m 0 ls []) := by
  obtain ⟨⟨hx, hb, hml, hown, hts⟩, hK, hG, hA⟩ := id hC
  intro M H locs ls hF hS hl
  unfold F_X6_ring at hF
  refine lv_aload_n hx hb dX6_ring_0 rfl (lv_at hl 0 rfl) ?_
  refine gx (ci := 6) (k := 6) (v := .ref (G.1 56)) (C := RX6) (T := TX6) (N := 8) hC hS (hn _ (by decide)) rfl rfl in_X6 (by decide) rfl rfl lf_X6_51 dX6_ring_1 ?_
  refine lv_aload_n hx hb dX6_ring_4 rfl (lv_at hl 0 rfl) ?_
  refine gx (ci := 6) (k := 2) (v := .ref (G.1 (53 + 0))) (C := RX6) (T := TX6) (N := 8) hC hS (hn _ (by decide)) rfl rfl in_X6 (by decide) rfl rfl lf_X6_26 dX6_ring_5 ?_
  refine lv_aload_n hx hb dX6_ring_8 rfl (lv_at hl 0 rfl) ?_
  refine gx (ci := 6) (k := 1) (v := .ref (G.1 52)) (C := RX6) (T := TX6) (N := 8) hC hS (hn _ (by decide)) rfl rfl in_X6 (by decide) rfl rfl lf_X6_19 dX6_ring_9 ?_
  obtain ⟨r12, M12, h12, hF⟩ := bd_some hF
  refine cV_ (ci := 5) (i := 52) (C := RX5) (T := TX5) (N := 13) (As := []) (v := some (.int r12)) (rest := [.ref (G.1 (53 + 0)), .ref (G.1 56)]) (st1 := [.int r12, .ref (G.1 (53 + 0)), .ref (G.1 56)]) hC hS (hn _ (by decide)) rfl rfl (c_X5_heardOnes l G hn M _ _ h12) kV_X5_heardOnes lm_X6_163 ⟨Nat.le_of_ble_eq_true rfl, Nat.le_of_ble_eq_true rfl⟩ rfl hl.1 (Nat.le_of_ble_eq_true rfl) dX6_ring_12 ⟨Nat.le_refl _, Nat.le_refl _⟩ rfl (fun H locs hS => ?_)
  obtain ⟨M15, h15, hF⟩ := bdv_some hF
  refine cV_ (ci := 0) (i := 56) (C := RX0) (T := TX0) (N := 6) (As := [.ref (G.1 (53 + 0)), .int r12]) (v := none) (rest := []) (st1 := []) hC hS (hn _ (by decide)) rfl rfl (c_X0_takeUp l G hn 0 (by decide) r12 M12 _ h15) kV_X0_takeUp lm_X6_198 ⟨Nat.le_of_ble_eq_true rfl, Nat.le_of_ble_eq_true rfl⟩ rfl hl.1 (Nat.le_of_ble_eq_true rfl) dX6_ring_15 ⟨Nat.le_refl _, Nat.le_refl _⟩ rfl (fun H locs hS => ?_)
  refine lv_aload_n hx hb dX6_ring_18 rfl (lv_at hl 0 rfl) ?_
  refine gx (ci := 6) (k := 6) (v := .ref (G.1 56)) (C := RX6) (T := TX6) (N := 8) hC hS (hn _ (by decide)) rfl rfl in_X6 (by decide) rfl rfl lf_X6_51 dX6_ring_19 ?_
  obtain ⟨r22, M22, h22, hF⟩ := bd_some hF
  refine cV_ (ci := 0) (i := 56) (C := RX0) (T := TX0) (N := 6) (As := []) (v := some (.int r22)) (rest := []) (st1 := [.int r22]) hC hS (hn _ (by decide)) rfl rfl (c_X0_onRings l G hn M15 _ _ h22) kV_X0_onRings lm_X6_222 ⟨Nat.le_of_ble_eq_true rfl, Nat.le_of_ble_eq_true rfl⟩ rfl hl.1 (Nat.le_of_ble_eq_true rfl) dX6_ring_22 ⟨Nat.le_refl _, Nat.le_refl _⟩ rfl (fun H locs hS => ?_)
  exact retI hC hS hr hlk hF dX6_ring_25
set_option maxRecDepth 100000 in
theorem c_X6_ring (l : Launch) (G : GT) (hn : ∀ i ∈ LsF, i ∈ gL G) (M : Mem) (r0 : Int32) (M0 : Mem) (hF : F_X6_ring M = some (r0, M0)) : MetG l G yX6_ring cX6_ring 1 (some .int) 4 92 [.ref (G.1 50)] M (some (.int r0)) M0 := by
  refine MetG.of (by decide) (Nat.le_of_ble_eq_true rfl) ?_
  intro p e s m args below meth c hC hr hlk hnm ls hS hl
  exact b_X6_ring hC hr hlk hn _ _ _ _ hF hS hl
def F_X6_chain (x1 : Int32) (M : Mem) : Option (Int32 × Mem) := bd (F_X5_has x1 M) (fun r5 M5 => if r5 = 0 then some ((-2), M5) else bd (F_X5_longestChain x1 M5) (fun r16 M16 => some (r16, M16)))
set_option maxHeartbeats 4000000 in
set_option maxRecDepth 100000 in
theorem b_X6_chain {M0 : Mem} {r0 : Int32} (hC : SX p m c s args cX6_chain 2 RX6 G (AG G)) (hr : meth.sig.returnType = (some .int)) (hlk : meth.locks = false) (hn : ∀ i ∈ LsF, i ∈ gL G) : ∀ (x1 : Int32) (M : Mem) (H : Heap) (locs : List Loc) (ls : Array Slot), F_X6_chain x1 M = some (r0, M0) → ST G (AG G) s M H locs → lv_has ls 2 [(0, .ref (G.1 50)), (1, .int x1)] → W p l e (RM 3 63) s m args below meth c H locs 0 0 (MQ below (QV G (some (.int r0)) M0) args s 0 0 (AG G)) (F0 m 0 ls []) := by
  obtain ⟨⟨hx, hb, hml, hown, hts⟩, hK, hG, hA⟩ := id hC
  intro x1 M H locs ls hF hS hl
  unfold F_X6_chain at hF
  refine lv_aload_n hx hb dX6_chain_0 rfl (lv_at hl 0 rfl) ?_
  refine gx (ci := 6) (k := 1) (v := .ref (G.1 52)) (C := RX6) (T := TX6) (N := 8) hC hS (hn _ (by decide)) rfl rfl in_X6 (by decide) rfl rfl lf_X6_19 dX6_chain_1 ?_
  refine lv_iload_n hx hb dX6_chain_4 rfl (lv_at hl 1 rfl) ?_
  obtain ⟨r5, M5, h5, hF⟩ := bd_some hF
  refine cV_ (ci := 5) (i := 52) (C := RX5) (T := TX5) (N := 13) (As := [.int x1]) (v := some (.int r5)) (rest := []) (st1 := [.int r5]) hC hS (hn _ (by decide)) rfl rfl (c_X5_has l G hn x1 M _ _ h5) kV_X5_has lm_X6_108 ⟨Nat.le_of_ble_eq_true rfl, Nat.le_of_ble_eq_true rfl⟩ rfl hl.1 (Nat.le_of_ble_eq_true rfl) dX6_chain_5 ⟨Nat.le_refl _, Nat.le_refl _⟩ rfl (fun H locs hS => ?_)
  refine lv_if_eq (tgt := 22) hx hb dX6_chain_8 (by decide) (fun hc => ?_) (fun hc => ?_)
  · rw [if_pos hc] at hF
    refine lv_bipush (v := (-2)) hx hb dX6_chain_22 (by decide) ?_
    exact retI hC hS hr hlk hF dX6_chain_24
  · rw [if_neg hc] at hF
    refine lv_aload_n hx hb dX6_chain_11 rfl (lv_at hl 0 rfl) ?_
    refine gx (ci := 6) (k := 1) (v := .ref (G.1 52)) (C := RX6) (T := TX6) (N := 8) hC hS (hn _ (by decide)) rfl rfl in_X6 (by decide) rfl rfl lf_X6_19 dX6_chain_12 ?_
    refine lv_iload_n hx hb dX6_chain_15 rfl (lv_at hl 1 rfl) ?_
    obtain ⟨r16, M16, h16, hF⟩ := bd_some hF
    refine cV_ (ci := 5) (i := 52) (C := RX5) (T := TX5) (N := 13) (As := [.int x1]) (v := some (.int r16)) (rest := []) (st1 := [.int r16]) hC hS (hn _ (by decide)) rfl rfl (c_X5_longestChain l G hn x1 M5 _ _ h16) kV_X5_longestChain lm_X6_225 ⟨Nat.le_of_ble_eq_true rfl, Nat.le_of_ble_eq_true rfl⟩ rfl hl.1 (Nat.le_of_ble_eq_true rfl) dX6_chain_16 ⟨Nat.le_refl _, Nat.le_refl _⟩ rfl (fun H locs hS => ?_)
    refine lv_goto (tgt := 24) hx hb dX6_chain_19 (by decide) ?_
    exact retI hC hS hr hlk hF dX6_chain_24
set_option maxRecDepth 100000 in
theorem c_X6_chain (l : Launch) (G : GT) (hn : ∀ i ∈ LsF, i ∈ gL G) (x1 : Int32) (M : Mem) (r0 : Int32) (M0 : Mem) (hF : F_X6_chain x1 M = some (r0, M0)) : MetG l G yX6_chain cX6_chain 2 (some .int) 3 63 [.ref (G.1 50), .int x1] M (some (.int r0)) M0 := by
  refine MetG.of (by decide) (Nat.le_of_ble_eq_true rfl) ?_
  intro p e s m args below meth c hC hr hlk hnm ls hS hl
  exact b_X6_chain hC hr hlk hn _ _ _ _ _ hF hS hl
def F_X6_hangs (x1 : Int32) (M : Mem) : Option (Int32 × Mem) := bd (F_X5_has x1 M) (fun r5 M5 => if r5 = 0 then some ((-2), M5) else if (((M5.1 1) >>> (x1 &&& 31)) &&& 1) = 0 then bd (F_X5_heardOnes M5) (fun r40 M40 => bd (F_X1_hangingOn 0 r40 x1 M40) (fun r44 M44 => some (r44, M44))) else some ((-2), M5))
set_option maxHeartbeats 4000000 in
set_option maxRecDepth 100000 in
theorem b_X6_hangs {M0 : Mem} {r0 : Int32} (hC : SX p m c s args cX6_hangs 2 RX6 G (AG G)) (hr : meth.sig.returnType = (some .int)) (hlk : meth.locks = false) (hn : ∀ i ∈ LsF, i ∈ gL G) : ∀ (x1 : Int32) (M : Mem) (H : Heap) (locs : List Loc) (ls : Array Slot), F_X6_hangs x1 M = some (r0, M0) → ST G (AG G) s M H locs → lv_has ls 2 [(0, .ref (G.1 50)), (1, .int x1)] → W p l e (RM 5 118) s m args below meth c H locs 0 0 (MQ below (QV G (some (.int r0)) M0) args s 0 0 (AG G)) (F0 m 0 ls []) := by
  obtain ⟨⟨hx, hb, hml, hown, hts⟩, hK, hG, hA⟩ := id hC
  intro x1 M H locs ls hF hS hl
  unfold F_X6_hangs at hF
  refine lv_aload_n hx hb dX6_hangs_0 rfl (lv_at hl 0 rfl) ?_
  refine gx (ci := 6) (k := 1) (v := .ref (G.1 52)) (C := RX6) (T := TX6) (N := 8) hC hS (hn _ (by decide)) rfl rfl in_X6 (by decide) rfl rfl lf_X6_19 dX6_hangs_1 ?_
  refine lv_iload_n hx hb dX6_hangs_4 rfl (lv_at hl 1 rfl) ?_
  obtain ⟨r5, M5, h5, hF⟩ := bd_some hF
  refine cV_ (ci := 5) (i := 52) (C := RX5) (T := TX5) (N := 13) (As := [.int x1]) (v := some (.int r5)) (rest := []) (st1 := [.int r5]) hC hS (hn _ (by decide)) rfl rfl (c_X5_has l G hn x1 M _ _ h5) kV_X5_has lm_X6_108 ⟨Nat.le_of_ble_eq_true rfl, Nat.le_of_ble_eq_true rfl⟩ rfl hl.1 (Nat.le_of_ble_eq_true rfl) dX6_hangs_5 ⟨Nat.le_refl _, Nat.le_refl _⟩ rfl (fun H locs hS => ?_)
  refine lv_if_eq (tgt := 25) hx hb dX6_hangs_8 (by decide) (fun hc => ?_) (fun hc => ?_)
  · rw [if_pos hc] at hF
    refine lv_bipush (v := (-2)) hx hb dX6_hangs_25 (by decide) ?_
    exact retI hC hS hr hlk hF dX6_hangs_27
  · rw [if_neg hc] at hF
    refine lv_aload_n hx hb dX6_hangs_11 rfl (lv_at hl 0 rfl) ?_
    refine gx (ci := 6) (k := 1) (v := .ref (G.1 52)) (C := RX6) (T := TX6) (N := 8) hC hS (hn _ (by decide)) rfl rfl in_X6 (by decide) rfl rfl lf_X6_19 dX6_hangs_12 ?_
    refine gxN (ci := 5) (k := 11) (v := .int (M5.1 1)) (C := RX5) (T := TX5) (N := 13) hC hS (hn _ (by decide)) rfl rfl in_X5 (by decide) rfl rfl ln_X6_126 dX6_hangs_15 ?_
    refine lv_iload_n hx hb dX6_hangs_18 rfl (lv_at hl 1 rfl) ?_
    refine lv_ishr hx hb dX6_hangs_19 ?_
    refine lv_iconst (v := 1) hx hb dX6_hangs_20 (by decide) ?_
    refine lv_iand hx hb dX6_hangs_21 ?_
    refine lv_if_eq (tgt := 28) hx hb dX6_hangs_22 (by decide) (fun hc => ?_) (fun hc => ?_)
    · rw [if_pos hc] at hF
      refine lv_aload_n hx hb dX6_hangs_28 rfl (lv_at hl 0 rfl) ?_
      refine gx (ci := 6) (k := 5) (v := .ref (G.1 55)) (C := RX6) (T := TX6) (N := 8) hC hS (hn _ (by decide)) rfl rfl in_X6 (by decide) rfl rfl lf_X6_44 dX6_hangs_29 ?_
      refine lv_aload_n hx hb dX6_hangs_32 rfl (lv_at hl 0 rfl) ?_
      refine gx (ci := 6) (k := 2) (v := .ref (G.1 (53 + 0))) (C := RX6) (T := TX6) (N := 8) hC hS (hn _ (by decide)) rfl rfl in_X6 (by decide) rfl rfl lf_X6_26 dX6_hangs_33 ?_
      refine lv_aload_n hx hb dX6_hangs_36 rfl (lv_at hl 0 rfl) ?_
      refine gx (ci := 6) (k := 1) (v := .ref (G.1 52)) (C := RX6) (T := TX6) (N := 8) hC hS (hn _ (by decide)) rfl rfl in_X6 (by decide) rfl rfl lf_X6_19 dX6_hangs_37 ?_
      obtain ⟨r40, M40, h40, hF⟩ := bd_some hF
      refine cV_ (ci := 5) (i := 52) (C := RX5) (T := TX5) (N := 13) (As := []) (v := some (.int r40)) (rest := [.ref (G.1 (53 + 0)), .ref (G.1 55)]) (st1 := [.int r40, .ref (G.1 (53 + 0)), .ref (G.1 55)]) hC hS (hn _ (by decide)) rfl rfl (c_X5_heardOnes l G hn M5 _ _ h40) kV_X5_heardOnes lm_X6_163 ⟨Nat.le_of_ble_eq_true rfl, Nat.le_of_ble_eq_true rfl⟩ rfl hl.1 (Nat.le_of_ble_eq_true rfl) dX6_hangs_40 ⟨Nat.le_refl _, Nat.le_refl _⟩ rfl (fun H locs hS => ?_)
      refine lv_iload_n hx hb dX6_hangs_43 rfl (lv_at hl 1 rfl) ?_
      obtain ⟨r44, M44, h44, hF⟩ := bd_some hF
      refine cV_ (ci := 1) (i := 55) (C := RX1) (T := TX1) (N := 4) (As := [.ref (G.1 (53 + 0)), .int r40, .int x1]) (v := some (.int r44)) (rest := []) (st1 := [.int r44]) hC hS (hn _ (by decide)) rfl rfl (c_X1_hangingOn l G hn 0 (by decide) r40 x1 M40 _ _ h44) kV_X1_hangingOn lm_X6_228 ⟨Nat.le_of_ble_eq_true rfl, Nat.le_of_ble_eq_true rfl⟩ rfl hl.1 (Nat.le_of_ble_eq_true rfl) dX6_hangs_44 ⟨Nat.le_refl _, Nat.le_refl _⟩ rfl (fun H locs hS => ?_)
      exact retI hC hS hr hlk hF dX6_hangs_47
    · rw [if_neg hc] at hF
      refine lv_bipush (v := (-2)) hx hb dX6_hangs_25 (by decide) ?_
      exact retI hC hS hr hlk hF dX6_hangs_27
set_option maxRecDepth 100000 in
theorem c_X6_hangs (l : Launch) (G : GT) (hn : ∀ i ∈ LsF, i ∈ gL G) (x1 : Int32) (M : Mem) (r0 : Int32) (M0 : Mem) (hF : F_X6_hangs x1 M = some (r0, M0)) : MetG l G yX6_hangs cX6_hangs 2 (some .int) 5 118 [.ref (G.1 50), .int x1] M (some (.int r0)) M0 := by
  refine MetG.of (by decide) (Nat.le_of_ble_eq_true rfl) ?_
  intro p e s m args below meth c hC hr hlk hnm ls hS hl
  exact b_X6_hangs hC hr hlk hn _ _ _ _ _ hF hS hl
def F_X6_most_64 (k15 : Int32 → Int32 → Int32 → Int32 → Mem → Option (Int32 × Mem)) (x1 : Int32) (x2 : Int32) (x3 : Int32) (x4 : Int32) (M : Mem) : Option (Int32 × Mem) := k15 x1 x2 x3 (x4 + 1) M
def F_X6_most_15 : Nat → Int32 → Int32 → Int32 → Int32 → Mem → Option (Int32 × Mem)
  | 0, _, _, _, _, _ => none
  | n + 1, x1, x2, x3, x4, M => if (M.1 0) ≤ x4 then some (x2, M) else if ((x1 >>> (x4 &&& 31)) &&& 1) = 0 then F_X6_most_64 (F_X6_most_15 n) x1 x2 x3 x4 M else bd (F_X1_hangingOn 0 x1 x4 M) (fun r47 M47 => if r47 ≤ x3 then F_X6_most_64 (F_X6_most_15 n) x1 x2 x3 x4 M47 else F_X6_most_64 (F_X6_most_15 n) x1 x4 r47 x4 M47)
def F_X6_most (M : Mem) : Option (Int32 × Mem) := bd (F_X5_heardOnes M) (fun r4 M4 => F_X6_most_15 fu r4 (-1) (-1) 0 M4)
set_option maxHeartbeats 4000000 in
set_option maxRecDepth 100000 in
theorem b_X6_most_64 {k15 : Int32 → Int32 → Int32 → Int32 → Mem → Option (Int32 × Mem)} {M0 : Mem} {r0 : Int32} (hC : SX p m c s args cX6_most 6 RX6 G (AG G)) (hr : meth.sig.returnType = (some .int)) (hlk : meth.locks = false) (hn : ∀ i ∈ LsF, i ∈ gL G) (hk15 : ∀ (x1 : Int32) (x2 : Int32) (x3 : Int32) (x4 : Int32) (M : Mem) (H : Heap) (locs : List Loc) (ls : Array Slot), k15 x1 x2 x3 x4 M = some (r0, M0) → ST G (AG G) s M H locs → lv_has ls 6 [(0, .ref (G.1 50)), (1, .int x1), (2, .int x2), (3, .int x3), (4, .int x4)] → W p l e (RM 5 118) s m args below meth c H locs 0 0 (MQ below (QV G (some (.int r0)) M0) args s 0 0 (AG G)) (F0 m 15 ls [])) : ∀ (x1 : Int32) (x2 : Int32) (x3 : Int32) (x4 : Int32) (M : Mem) (H : Heap) (locs : List Loc) (ls : Array Slot), F_X6_most_64 k15 x1 x2 x3 x4 M = some (r0, M0) → ST G (AG G) s M H locs → lv_has ls 6 [(0, .ref (G.1 50)), (1, .int x1), (2, .int x2), (3, .int x3), (4, .int x4)] → W p l e (RM 5 118) s m args below meth c H locs 0 0 (MQ below (QV G (some (.int r0)) M0) args s 0 0 (AG G)) (F0 m 64 ls []) := by
  obtain ⟨⟨hx, hb, hml, hown, hts⟩, hK, hG, hA⟩ := id hC
  intro x1 x2 x3 x4 M H locs ls hF hS hl
  unfold F_X6_most_64 at hF
  refine lv_iinc (v := x4 + 1) (lv' := [(4, .int (x4 + 1)), (0, .ref (G.1 50)), (1, .int x1), (2, .int x2), (3, .int x3)]) hx hb dX6_most_64 hl (k := 4) rfl rfl (by decide) rfl (fun ls hl => ?_)
  refine lv_goto (tgt := 15) hx hb dX6_most_67 (by decide) ?_
  exact hk15 _ _ _ _ _ _ _ _ hF hS (lv_sub hl [1, 2, 3, 4, 0] rfl)
set_option maxHeartbeats 4000000 in
set_option maxRecDepth 100000 in
theorem b_X6_most_15 {M0 : Mem} {r0 : Int32} (hC : SX p m c s args cX6_most 6 RX6 G (AG G)) (hr : meth.sig.returnType = (some .int)) (hlk : meth.locks = false) (hn : ∀ i ∈ LsF, i ∈ gL G) : ∀ (n : Nat) (x1 : Int32) (x2 : Int32) (x3 : Int32) (x4 : Int32) (M : Mem) (H : Heap) (locs : List Loc) (ls : Array Slot), F_X6_most_15 n x1 x2 x3 x4 M = some (r0, M0) → ST G (AG G) s M H locs → lv_has ls 6 [(0, .ref (G.1 50)), (1, .int x1), (2, .int x2), (3, .int x3), (4, .int x4)] → W p l e (RM 5 118) s m args below meth c H locs 0 0 (MQ below (QV G (some (.int r0)) M0) args s 0 0 (AG G)) (F0 m 15 ls []) := by
  obtain ⟨⟨hx, hb, hml, hown, hts⟩, hK, hG, hA⟩ := id hC
  intro n
  induction n with
  | zero =>
    intro x1 x2 x3 x4 M H locs ls hF
    cases hF
  | succ n ih =>
    intro x1 x2 x3 x4 M H locs ls hF hS hl
    unfold F_X6_most_15 at hF
    refine lv_iload hx hb dX6_most_15 (lv_at hl 4 rfl) ?_
    refine lv_aload_n hx hb dX6_most_17 rfl (lv_at hl 0 rfl) ?_
    refine gx (ci := 6) (k := 1) (v := .ref (G.1 52)) (C := RX6) (T := TX6) (N := 8) hC hS (hn _ (by decide)) rfl rfl in_X6 (by decide) rfl rfl lf_X6_19 dX6_most_18 ?_
    refine gxN (ci := 5) (k := 10) (v := .int (M.1 0)) (C := RX5) (T := TX5) (N := 13) hC hS (hn _ (by decide)) rfl rfl in_X5 (by decide) rfl rfl ln_X6_80 dX6_most_21 ?_
    refine lv_icmp_ge (tgt := 70) hx hb dX6_most_24 (by decide) (fun hc => ?_) (fun hc => ?_)
    · rw [if_pos hc] at hF
      refine lv_iload_n hx hb dX6_most_70 rfl (lv_at hl 2 rfl) ?_
      exact retI hC hS hr hlk hF dX6_most_71
    · rw [if_neg hc] at hF
      refine lv_iload_n hx hb dX6_most_27 rfl (lv_at hl 1 rfl) ?_
      refine lv_iload hx hb dX6_most_28 (lv_at hl 4 rfl) ?_
      refine lv_ishr hx hb dX6_most_30 ?_
      refine lv_iconst (v := 1) hx hb dX6_most_31 (by decide) ?_
      refine lv_iand hx hb dX6_most_32 ?_
      refine lv_if_eq (tgt := 64) hx hb dX6_most_33 (by decide) (fun hc => ?_) (fun hc => ?_)
      · rw [if_pos hc] at hF
        exact b_X6_most_64 hC hr hlk hn ih _ _ _ _ _ _ _ _ hF hS (lv_sub hl [0, 1, 2, 3, 4] rfl)
      · rw [if_neg hc] at hF
        refine lv_aload_n hx hb dX6_most_36 rfl (lv_at hl 0 rfl) ?_
        refine gx (ci := 6) (k := 5) (v := .ref (G.1 55)) (C := RX6) (T := TX6) (N := 8) hC hS (hn _ (by decide)) rfl rfl in_X6 (by decide) rfl rfl lf_X6_44 dX6_most_37 ?_
        refine lv_aload_n hx hb dX6_most_40 rfl (lv_at hl 0 rfl) ?_
        refine gx (ci := 6) (k := 2) (v := .ref (G.1 (53 + 0))) (C := RX6) (T := TX6) (N := 8) hC hS (hn _ (by decide)) rfl rfl in_X6 (by decide) rfl rfl lf_X6_26 dX6_most_41 ?_
        refine lv_iload_n hx hb dX6_most_44 rfl (lv_at hl 1 rfl) ?_
        refine lv_iload hx hb dX6_most_45 (lv_at hl 4 rfl) ?_
        obtain ⟨r47, M47, h47, hF⟩ := bd_some hF
        refine cV_ (ci := 1) (i := 55) (C := RX1) (T := TX1) (N := 4) (As := [.ref (G.1 (53 + 0)), .int x1, .int x4]) (v := some (.int r47)) (rest := []) (st1 := [.int r47]) hC hS (hn _ (by decide)) rfl rfl (c_X1_hangingOn l G hn 0 (by decide) x1 x4 M _ _ h47) kV_X1_hangingOn lm_X6_228 ⟨Nat.le_of_ble_eq_true rfl, Nat.le_of_ble_eq_true rfl⟩ rfl hl.1 (Nat.le_of_ble_eq_true rfl) dX6_most_47 ⟨Nat.le_refl _, Nat.le_refl _⟩ rfl (fun H locs hS => ?_)
        refine lv_istore (lv' := [(5, .int r47), (0, .ref (G.1 50)), (1, .int x1), (2, .int x2), (3, .int x3), (4, .int x4)]) hx hb dX6_most_50 hl (by decide) rfl (fun ls hl => ?_)
        refine lv_iload hx hb dX6_most_52 (lv_at hl 0 rfl) ?_
        refine lv_iload_n hx hb dX6_most_54 rfl (lv_at hl 4 rfl) ?_
        refine lv_icmp_le (tgt := 64) hx hb dX6_most_55 (by decide) (fun hc => ?_) (fun hc => ?_)
        · rw [if_pos hc] at hF
          exact b_X6_most_64 hC hr hlk hn ih _ _ _ _ _ _ _ _ hF hS (lv_sub hl [1, 2, 3, 4, 5] rfl)
        · rw [if_neg hc] at hF
          refine lv_iload hx hb dX6_most_58 (lv_at hl 5 rfl) ?_
          refine lv_istore_n (lv' := [(2, .int x4), (5, .int r47), (0, .ref (G.1 50)), (1, .int x1), (3, .int x3), (4, .int x4)]) hx hb dX6_most_60 rfl hl (by decide) rfl (fun ls hl => ?_)
          refine lv_iload hx hb dX6_most_61 (lv_at hl 1 rfl) ?_
          refine lv_istore_n (lv' := [(3, .int r47), (2, .int x4), (5, .int r47), (0, .ref (G.1 50)), (1, .int x1), (4, .int x4)]) hx hb dX6_most_63 rfl hl (by decide) rfl (fun ls hl => ?_)
          exact b_X6_most_64 hC hr hlk hn ih _ _ _ _ _ _ _ _ hF hS (lv_sub hl [3, 4, 1, 0, 5] rfl)
set_option maxHeartbeats 4000000 in
set_option maxRecDepth 100000 in
theorem b_X6_most {M0 : Mem} {r0 : Int32} (hC : SX p m c s args cX6_most 6 RX6 G (AG G)) (hr : meth.sig.returnType = (some .int)) (hlk : meth.locks = false) (hn : ∀ i ∈ LsF, i ∈ gL G) : ∀ (M : Mem) (H : Heap) (locs : List Loc) (ls : Array Slot), F_X6_most M = some (r0, M0) → ST G (AG G) s M H locs → lv_has ls 6 [(0, .ref (G.1 50))] → W p l e (RM 5 118) s m args below meth c H locs 0 0 (MQ below (QV G (some (.int r0)) M0) args s 0 0 (AG G)) (F0 m 0 ls []) := by
  obtain ⟨⟨hx, hb, hml, hown, hts⟩, hK, hG, hA⟩ := id hC
  intro M H locs ls hF hS hl
  unfold F_X6_most at hF
  refine lv_aload_n hx hb dX6_most_0 rfl (lv_at hl 0 rfl) ?_
  refine gx (ci := 6) (k := 1) (v := .ref (G.1 52)) (C := RX6) (T := TX6) (N := 8) hC hS (hn _ (by decide)) rfl rfl in_X6 (by decide) rfl rfl lf_X6_19 dX6_most_1 ?_
  obtain ⟨r4, M4, h4, hF⟩ := bd_some hF
  refine cV_ (ci := 5) (i := 52) (C := RX5) (T := TX5) (N := 13) (As := []) (v := some (.int r4)) (rest := []) (st1 := [.int r4]) hC hS (hn _ (by decide)) rfl rfl (c_X5_heardOnes l G hn M _ _ h4) kV_X5_heardOnes lm_X6_163 ⟨Nat.le_of_ble_eq_true rfl, Nat.le_of_ble_eq_true rfl⟩ rfl hl.1 (Nat.le_of_ble_eq_true rfl) dX6_most_4 ⟨Nat.le_refl _, Nat.le_refl _⟩ rfl (fun H locs hS => ?_)
  refine lv_istore_n (lv' := [(1, .int r4), (0, .ref (G.1 50))]) hx hb dX6_most_7 rfl hl (by decide) rfl (fun ls hl => ?_)
  refine lv_iconst (v := (-1)) hx hb dX6_most_8 (by decide) ?_
  refine lv_istore_n (lv' := [(2, .int ((-1))), (1, .int r4), (0, .ref (G.1 50))]) hx hb dX6_most_9 rfl hl (by decide) rfl (fun ls hl => ?_)
  refine lv_iconst (v := (-1)) hx hb dX6_most_10 (by decide) ?_
  refine lv_istore_n (lv' := [(3, .int ((-1))), (2, .int ((-1))), (1, .int r4), (0, .ref (G.1 50))]) hx hb dX6_most_11 rfl hl (by decide) rfl (fun ls hl => ?_)
  refine lv_iconst (v := 0) hx hb dX6_most_12 (by decide) ?_
  refine lv_istore (lv' := [(4, .int 0), (3, .int ((-1))), (2, .int ((-1))), (1, .int r4), (0, .ref (G.1 50))]) hx hb dX6_most_13 hl (by decide) rfl (fun ls hl => ?_)
  exact b_X6_most_15 hC hr hlk hn fu _ _ _ _ _ _ _ _ hF hS (lv_sub hl [4, 3, 2, 1, 0] rfl)
set_option maxRecDepth 100000 in
theorem c_X6_most (l : Launch) (G : GT) (hn : ∀ i ∈ LsF, i ∈ gL G) (M : Mem) (r0 : Int32) (M0 : Mem) (hF : F_X6_most M = some (r0, M0)) : MetG l G yX6_most cX6_most 6 (some .int) 5 118 [.ref (G.1 50)] M (some (.int r0)) M0 := by
  refine MetG.of (by decide) (Nat.le_of_ble_eq_true rfl) ?_
  intro p e s m args below meth c hC hr hlk hnm ls hS hl
  exact b_X6_most hC hr hlk hn _ _ _ _ hF hS hl
end
