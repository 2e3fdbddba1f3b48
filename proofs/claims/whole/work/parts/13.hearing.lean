section
variable {p : Program} {l : Launch} {e : Env} {s : State} {m : MethodId} {args : Array Value} {below : List Frame} {meth : Method} {c : Code} {G : GT}
def F_X1_begin (M : Mem) : Option Mem := some (sv (sv (sv M 3 0) 4 0) 5 0)
set_option maxHeartbeats 4000000 in
set_option maxRecDepth 100000 in
theorem b_X1_begin {M0 : Mem} (hC : SX p m c s args cX1_begin 1 RX1 G (AG G)) (hr : meth.sig.returnType = none) (hlk : meth.locks = false) (hn : ∀ i ∈ LsF, i ∈ gL G) : ∀ (M : Mem) (H : Heap) (locs : List Loc) (ls : Array Slot), F_X1_begin M = some M0 → ST G (AG G) s M H locs → lv_has ls 1 [(0, .ref (G.1 55))] → W p l e (RM 0 0) s m args below meth c H locs 0 0 (MQ below (QV G none M0) args s 0 0 (AG G)) (F0 m 0 ls []) := by
  obtain ⟨⟨hx, hb, hml, hown, hts⟩, hK, hG, hA⟩ := id hC
  intro M H locs ls hF hS hl
  unfold F_X1_begin at hF
  refine lv_aload_n hx hb dX1_begin_0 rfl (lv_at hl 0 rfl) ?_
  refine lv_iconst (v := 0) hx hb dX1_begin_1 (by decide) ?_
  refine px (ci := 1) (k := 1) (n := 3) (ty := .int) (C := RX1) (T := TX1) (N := 4) hC hS (hn _ (by decide)) rfl rfl in_X1 tyX1_ok nmX1 (by decide) rfl rfl (by decide +kernel) rfl rfl (Nat.le_of_ble_eq_true rfl) rfl se_X1_1 lf_X1_9 dX1_begin_2 (fun H locs hS => ?_)
  refine lv_aload_n hx hb dX1_begin_5 rfl (lv_at hl 0 rfl) ?_
  refine lv_iconst (v := 0) hx hb dX1_begin_6 (by decide) ?_
  refine px (ci := 1) (k := 2) (n := 4) (ty := .int) (C := RX1) (T := TX1) (N := 4) hC hS (hn _ (by decide)) rfl rfl in_X1 tyX1_ok nmX1 (by decide) rfl rfl (by decide +kernel) rfl rfl (Nat.le_of_ble_eq_true rfl) rfl se_X1_2 lf_X1_15 dX1_begin_7 (fun H locs hS => ?_)
  refine lv_aload_n hx hb dX1_begin_10 rfl (lv_at hl 0 rfl) ?_
  refine lv_iconst (v := 0) hx hb dX1_begin_11 (by decide) ?_
  refine px (ci := 1) (k := 3) (n := 5) (ty := .int) (C := RX1) (T := TX1) (N := 4) hC hS (hn _ (by decide)) rfl rfl in_X1 tyX1_ok nmX1 (by decide) rfl rfl (by decide +kernel) rfl rfl (Nat.le_of_ble_eq_true rfl) rfl se_X1_3 lf_X1_18 dX1_begin_12 (fun H locs hS => ?_)
  exact retV hC hS hr hlk hF dX1_begin_15
set_option maxRecDepth 100000 in
theorem c_X1_begin (l : Launch) (G : GT) (hn : ∀ i ∈ LsF, i ∈ gL G) (M : Mem) (M0 : Mem) (hF : F_X1_begin M = some M0) : MetG l G yX1_begin cX1_begin 1 none 0 0 [.ref (G.1 55)] M none M0 := by
  refine MetG.of (by decide) (Nat.le_of_ble_eq_true rfl) ?_
  intro p e s m args below meth c hC hr hlk hnm ls hS hl
  exact b_X1_begin hC hr hlk hn _ _ _ _ hF hS hl
def F_X1_isAble_28 (j1 : Nat) (x3 : Int32) (M : Mem) : Option (Int32 × Mem) := bd (F_J6_bitCount_0f7a4 (x3 &&& ((M.1 5) ^^^ (-1))) M) (fun r36 M36 => if r36 < (M36.1 (10 + 6 * j1 + 2)) then some (0, M36) else some (1, M36))
def F_X1_isAble (j1 : Nat) (x2 : Int32) (M : Mem) : Option (Int32 × Mem) := ckb (ix x2 10) (if (M.1 (10 + 6 * j1 + 5)) = 0 then if ((M.2 3 x2.toNatClampNeg) &&& (M.1 5)) = 0 then F_X1_isAble_28 j1 (M.2 3 x2.toNatClampNeg) M else some (0, M) else F_X1_isAble_28 j1 (M.2 3 x2.toNatClampNeg) M)
set_option maxHeartbeats 4000000 in
set_option maxRecDepth 100000 in
theorem b_X1_isAble_28 {j1 : Nat} {M0 : Mem} {r0 : Int32} (hC : SX p m c s args cX1_isAble 4 RX1 G (AG G)) (hr : meth.sig.returnType = (some .boolean)) (hlk : meth.locks = false) (hn : ∀ i ∈ LsF, i ∈ gL G) (hj1 : j1 < 2) : ∀ (x3 : Int32) (M : Mem) (H : Heap) (locs : List Loc) (ls : Array Slot), F_X1_isAble_28 j1 x3 M = some (r0, M0) → ST G (AG G) s M H locs → lv_has ls 4 [(0, .ref (G.1 55)), (1, .ref (G.1 (53 + j1))), (3, .int x3)] → W p l e (RM 1 20) s m args below meth c H locs 0 0 (MQ below (QV G (some (.int r0)) M0) args s 0 0 (AG G)) (F0 m 28 ls []) := by
  obtain ⟨⟨hx, hb, hml, hown, hts⟩, hK, hG, hA⟩ := id hC
  intro x3 M H locs ls hF hS hl
  unfold F_X1_isAble_28 at hF
  refine lv_iload_n hx hb dX1_isAble_28 rfl (lv_at hl 2 rfl) ?_
  refine lv_aload_n hx hb dX1_isAble_29 rfl (lv_at hl 0 rfl) ?_
  refine gx (ci := 1) (k := 3) (v := .int (M.1 5)) (C := RX1) (T := TX1) (N := 4) hC hS (hn _ (by decide)) rfl rfl in_X1 (by decide) rfl rfl lf_X1_18 dX1_isAble_30 ?_
  refine lv_iconst (v := (-1)) hx hb dX1_isAble_33 (by decide) ?_
  refine lv_ixor hx hb dX1_isAble_34 ?_
  refine lv_iand hx hb dX1_isAble_35 ?_
  obtain ⟨r36, M36, h36, hF⟩ := bd_some hF
  refine cS_ (As := [.int (x3 &&& ((M.1 5) ^^^ (-1)))]) (v := some (.int r36)) (rest := []) (st1 := [.int r36]) hC hS (c_J6_bitCount_0f7a4 l G (x3 &&& ((M.1 5) ^^^ (-1))) M _ _ h36) kS_J6_bitCount_0f7a4 lm_X1_50 ⟨Nat.le_of_ble_eq_true rfl, Nat.le_of_ble_eq_true rfl⟩ rfl hl.1 (Nat.le_of_ble_eq_true rfl) dX1_isAble_36 ⟨Nat.le_refl _, Nat.le_refl _⟩ rfl (fun H locs hS => ?_)
  refine lv_aload_n hx hb dX1_isAble_39 rfl (lv_at hl 1 rfl) ?_
  refine gxN (ci := 2) (k := 3) (v := .int (M36.1 (10 + 6 * j1 + 2))) (C := RX2) (T := TX2) (N := 7) hC hS (hn _ (mL hj1)) (ceL hj1) rfl in_X2 (by decide) rfl rfl ln_X1_75 dX1_isAble_40 ?_
  refine lv_icmp_lt (tgt := 50) hx hb dX1_isAble_43 (by decide) (fun hc => ?_) (fun hc => ?_)
  · rw [if_pos hc] at hF
    refine lv_iconst (v := 0) hx hb dX1_isAble_50 (by decide) ?_
    exact retZ hC hS hr hlk rfl hF dX1_isAble_51
  · rw [if_neg hc] at hF
    refine lv_iconst (v := 1) hx hb dX1_isAble_46 (by decide) ?_
    refine lv_goto (tgt := 51) hx hb dX1_isAble_47 (by decide) ?_
    exact retZ hC hS hr hlk rfl hF dX1_isAble_51
set_option maxHeartbeats 4000000 in
set_option maxRecDepth 100000 in
theorem b_X1_isAble {j1 : Nat} {M0 : Mem} {r0 : Int32} (hC : SX p m c s args cX1_isAble 4 RX1 G (AG G)) (hr : meth.sig.returnType = (some .boolean)) (hlk : meth.locks = false) (hn : ∀ i ∈ LsF, i ∈ gL G) (hj1 : j1 < 2) : ∀ (x2 : Int32) (M : Mem) (H : Heap) (locs : List Loc) (ls : Array Slot), F_X1_isAble j1 x2 M = some (r0, M0) → ST G (AG G) s M H locs → lv_has ls 4 [(0, .ref (G.1 55)), (1, .ref (G.1 (53 + j1))), (2, .int x2)] → W p l e (RM 1 20) s m args below meth c H locs 0 0 (MQ below (QV G (some (.int r0)) M0) args s 0 0 (AG G)) (F0 m 0 ls []) := by
  obtain ⟨⟨hx, hb, hml, hown, hts⟩, hK, hG, hA⟩ := id hC
  intro x2 M H locs ls hF hS hl
  unfold F_X1_isAble at hF
  refine lv_aload_n hx hb dX1_isAble_0 rfl (lv_at hl 0 rfl) ?_
  refine gx (ci := 1) (k := 0) (v := .ref (G.1 52)) (C := RX1) (T := TX1) (N := 4) hC hS (hn _ (by decide)) rfl rfl in_X1 (by decide) rfl rfl lf_X1_21 dX1_isAble_1 ?_
  refine gxN (ci := 5) (k := 1) (v := .ref (G.1 3)) (C := RX5) (T := TX5) (N := 13) hC hS (hn _ (by decide)) rfl rfl in_X5 (by decide) rfl rfl ln_X1_41 dX1_isAble_4 ?_
  refine lv_iload_n hx hb dX1_isAble_7 rfl (lv_at hl 2 rfl) ?_
  obtain ⟨hi, hF⟩ := ckb_some hF
  refine ald hC hS (hn _ (by decide)) (by decide) rfl hi dX1_isAble_8 ?_
  refine lv_istore_n (lv' := [(3, .int (M.2 3 x2.toNatClampNeg)), (0, .ref (G.1 55)), (1, .ref (G.1 (53 + j1))), (2, .int x2)]) hx hb dX1_isAble_9 rfl hl (by decide) rfl (fun ls hl => ?_)
  refine lv_aload_n hx hb dX1_isAble_10 rfl (lv_at hl 2 rfl) ?_
  refine gxN (ci := 2) (k := 6) (v := .int (M.1 (10 + 6 * j1 + 5))) (C := RX2) (T := TX2) (N := 7) hC hS (hn _ (mL hj1)) (ceL hj1) rfl in_X2 (by decide) rfl rfl ln_X1_70 dX1_isAble_11 ?_
  refine lv_if_ne (tgt := 28) hx hb dX1_isAble_14 (by decide) (fun hc => ?_) (fun hc => ?_)
  · rw [if_neg hc] at hF
    exact b_X1_isAble_28 hC hr hlk hn hj1 _ _ _ _ _ hF hS (lv_sub hl [1, 2, 0] rfl)
  · rw [if_pos hc] at hF
    refine lv_iload_n hx hb dX1_isAble_17 rfl (lv_at hl 0 rfl) ?_
    refine lv_aload_n hx hb dX1_isAble_18 rfl (lv_at hl 1 rfl) ?_
    refine gx (ci := 1) (k := 3) (v := .int (M.1 5)) (C := RX1) (T := TX1) (N := 4) hC hS (hn _ (by decide)) rfl rfl in_X1 (by decide) rfl rfl lf_X1_18 dX1_isAble_19 ?_
    refine lv_iand hx hb dX1_isAble_22 ?_
    refine lv_if_eq (tgt := 28) hx hb dX1_isAble_23 (by decide) (fun hc => ?_) (fun hc => ?_)
    · rw [if_pos hc] at hF
      exact b_X1_isAble_28 hC hr hlk hn hj1 _ _ _ _ _ hF hS (lv_sub hl [1, 2, 0] rfl)
    · rw [if_neg hc] at hF
      refine lv_iconst (v := 0) hx hb dX1_isAble_26 (by decide) ?_
      exact retZ hC hS hr hlk rfl hF dX1_isAble_27
set_option maxRecDepth 100000 in
theorem c_X1_isAble (l : Launch) (G : GT) (hn : ∀ i ∈ LsF, i ∈ gL G) (j1 : Nat) (hj1 : j1 < 2) (x2 : Int32) (M : Mem) (r0 : Int32) (M0 : Mem) (hF : F_X1_isAble j1 x2 M = some (r0, M0)) : MetG l G yX1_isAble cX1_isAble 4 (some .boolean) 1 20 [.ref (G.1 55), .ref (G.1 (53 + j1)), .int x2] M (some (.int r0)) M0 := by
  refine MetG.of (by decide) (Nat.le_of_ble_eq_true rfl) ?_
  intro p e s m args below meth c hC hr hlk hnm ls hS hl
  exact b_X1_isAble hC hr hlk hn hj1 _ _ _ _ _ hF hS hl
def F_X1_fallen (j1 : Nat) (x2 : Int32) (x3 : Int32) (M : Mem) : Option (Int32 × Mem) := if (M.1 (10 + 6 * j1 + 3)) = 1 then some ((1 : Int32) <<< (x3 &&& 31), M) else if (M.1 (10 + 6 * j1 + 3)) = 0 then some (((1 : Int32) <<< (x2 &&& 31)) ||| ((1 : Int32) <<< (x3 &&& 31)), M) else ckb (ix x2 10) (ckb (ix x3 10) (if ((M.2 4 x2.toNatClampNeg) - (M.2 4 x3.toNatClampNeg)) = 0 then some (((1 : Int32) <<< (x2 &&& 31)) ||| ((1 : Int32) <<< (x3 &&& 31)), M) else if ((M.2 4 x2.toNatClampNeg) - (M.2 4 x3.toNatClampNeg)) ≤ 0 then some ((1 : Int32) <<< (x2 &&& 31), M) else some ((1 : Int32) <<< (x3 &&& 31), M)))
set_option maxHeartbeats 4000000 in
set_option maxRecDepth 100000 in
theorem b_X1_fallen {j1 : Nat} {M0 : Mem} {r0 : Int32} (hC : SX p m c s args cX1_fallen 6 RX1 G (AG G)) (hr : meth.sig.returnType = (some .int)) (hlk : meth.locks = false) (hn : ∀ i ∈ LsF, i ∈ gL G) (hj1 : j1 < 2) : ∀ (x2 : Int32) (x3 : Int32) (M : Mem) (H : Heap) (locs : List Loc) (ls : Array Slot), F_X1_fallen j1 x2 x3 M = some (r0, M0) → ST G (AG G) s M H locs → lv_has ls 6 [(0, .ref (G.1 55)), (1, .ref (G.1 (53 + j1))), (2, .int x2), (3, .int x3)] → W p l e (RM 0 0) s m args below meth c H locs 0 0 (MQ below (QV G (some (.int r0)) M0) args s 0 0 (AG G)) (F0 m 0 ls []) := by
  obtain ⟨⟨hx, hb, hml, hown, hts⟩, hK, hG, hA⟩ := id hC
  intro x2 x3 M H locs ls hF hS hl
  unfold F_X1_fallen at hF
  refine lv_aload_n hx hb dX1_fallen_0 rfl (lv_at hl 1 rfl) ?_
  refine gxN (ci := 2) (k := 4) (v := .int (M.1 (10 + 6 * j1 + 3))) (C := RX2) (T := TX2) (N := 7) hC hS (hn _ (mL hj1)) (ceL hj1) rfl in_X2 (by decide) rfl rfl ln_X1_85 dX1_fallen_1 ?_
  refine lv_iconst (v := 1) hx hb dX1_fallen_4 (by decide) ?_
  refine lv_icmp_ne (tgt := 12) hx hb dX1_fallen_5 (by decide) (fun hc => ?_) (fun hc => ?_)
  · rw [if_neg hc] at hF
    refine lv_iconst (v := 1) hx hb dX1_fallen_12 (by decide) ?_
    refine lv_iload_n hx hb dX1_fallen_13 rfl (lv_at hl 2 rfl) ?_
    refine lv_ishl hx hb dX1_fallen_14 ?_
    refine lv_iconst (v := 1) hx hb dX1_fallen_15 (by decide) ?_
    refine lv_iload_n hx hb dX1_fallen_16 rfl (lv_at hl 3 rfl) ?_
    refine lv_ishl hx hb dX1_fallen_17 ?_
    refine lv_ior hx hb dX1_fallen_18 ?_
    refine lv_istore (lv' := [(4, .int (((1 : Int32) <<< (x2 &&& 31)) ||| ((1 : Int32) <<< (x3 &&& 31)))), (0, .ref (G.1 55)), (1, .ref (G.1 (53 + j1))), (2, .int x2), (3, .int x3)]) hx hb dX1_fallen_19 hl (by decide) rfl (fun ls hl => ?_)
    refine lv_aload_n hx hb dX1_fallen_21 rfl (lv_at hl 2 rfl) ?_
    refine gxN (ci := 2) (k := 4) (v := .int (M.1 (10 + 6 * j1 + 3))) (C := RX2) (T := TX2) (N := 7) hC hS (hn _ (mL hj1)) (ceL hj1) rfl in_X2 (by decide) rfl rfl ln_X1_85 dX1_fallen_22 ?_
    refine lv_if_ne (tgt := 31) hx hb dX1_fallen_25 (by decide) (fun hc => ?_) (fun hc => ?_)
    · rw [if_neg hc] at hF
      refine lv_aload_n hx hb dX1_fallen_31 rfl (lv_at hl 1 rfl) ?_
      refine gx (ci := 1) (k := 0) (v := .ref (G.1 52)) (C := RX1) (T := TX1) (N := 4) hC hS (hn _ (by decide)) rfl rfl in_X1 (by decide) rfl rfl lf_X1_21 dX1_fallen_32 ?_
      refine gxN (ci := 5) (k := 2) (v := .ref (G.1 4)) (C := RX5) (T := TX5) (N := 13) hC hS (hn _ (by decide)) rfl rfl in_X5 (by decide) rfl rfl ln_X1_88 dX1_fallen_35 ?_
      refine lv_iload_n hx hb dX1_fallen_38 rfl (lv_at hl 3 rfl) ?_
      obtain ⟨hi, hF⟩ := ckb_some hF
      refine ald hC hS (hn _ (by decide)) (by decide) rfl hi dX1_fallen_39 ?_
      refine lv_aload_n hx hb dX1_fallen_40 rfl (lv_at hl 1 rfl) ?_
      refine gx (ci := 1) (k := 0) (v := .ref (G.1 52)) (C := RX1) (T := TX1) (N := 4) hC hS (hn _ (by decide)) rfl rfl in_X1 (by decide) rfl rfl lf_X1_21 dX1_fallen_41 ?_
      refine gxN (ci := 5) (k := 2) (v := .ref (G.1 4)) (C := RX5) (T := TX5) (N := 13) hC hS (hn _ (by decide)) rfl rfl in_X5 (by decide) rfl rfl ln_X1_88 dX1_fallen_44 ?_
      refine lv_iload_n hx hb dX1_fallen_47 rfl (lv_at hl 4 rfl) ?_
      obtain ⟨hi, hF⟩ := ckb_some hF
      refine ald hC hS (hn _ (by decide)) (by decide) rfl hi dX1_fallen_48 ?_
      refine lv_isub hx hb dX1_fallen_49 ?_
      refine lv_istore (lv' := [(5, .int ((M.2 4 x2.toNatClampNeg) - (M.2 4 x3.toNatClampNeg))), (4, .int (((1 : Int32) <<< (x2 &&& 31)) ||| ((1 : Int32) <<< (x3 &&& 31)))), (0, .ref (G.1 55)), (1, .ref (G.1 (53 + j1))), (2, .int x2), (3, .int x3)]) hx hb dX1_fallen_50 hl (by decide) rfl (fun ls hl => ?_)
      refine lv_iload hx hb dX1_fallen_52 (lv_at hl 0 rfl) ?_
      refine lv_if_ne (tgt := 62) hx hb dX1_fallen_54 (by decide) (fun hc => ?_) (fun hc => ?_)
      · rw [if_neg hc] at hF
        refine lv_iload hx hb dX1_fallen_62 (lv_at hl 0 rfl) ?_
        refine lv_if_le (tgt := 73) hx hb dX1_fallen_64 (by decide) (fun hc => ?_) (fun hc => ?_)
        · rw [if_pos hc] at hF
          refine lv_iconst (v := 1) hx hb dX1_fallen_73 (by decide) ?_
          refine lv_iload_n hx hb dX1_fallen_74 rfl (lv_at hl 4 rfl) ?_
          refine lv_ishl hx hb dX1_fallen_75 ?_
          exact retI hC hS hr hlk hF dX1_fallen_76
        · rw [if_neg hc] at hF
          refine lv_iconst (v := 1) hx hb dX1_fallen_67 (by decide) ?_
          refine lv_iload_n hx hb dX1_fallen_68 rfl (lv_at hl 5 rfl) ?_
          refine lv_ishl hx hb dX1_fallen_69 ?_
          refine lv_goto (tgt := 76) hx hb dX1_fallen_70 (by decide) ?_
          exact retI hC hS hr hlk hF dX1_fallen_76
      · rw [if_pos hc] at hF
        refine lv_iload hx hb dX1_fallen_57 (lv_at hl 1 rfl) ?_
        refine lv_goto (tgt := 76) hx hb dX1_fallen_59 (by decide) ?_
        exact retI hC hS hr hlk hF dX1_fallen_76
    · rw [if_pos hc] at hF
      refine lv_iload hx hb dX1_fallen_28 (lv_at hl 0 rfl) ?_
      exact retI hC hS hr hlk hF dX1_fallen_30
  · rw [if_pos hc] at hF
    refine lv_iconst (v := 1) hx hb dX1_fallen_8 (by decide) ?_
    refine lv_iload_n hx hb dX1_fallen_9 rfl (lv_at hl 3 rfl) ?_
    refine lv_ishl hx hb dX1_fallen_10 ?_
    exact retI hC hS hr hlk hF dX1_fallen_11
set_option maxRecDepth 100000 in
theorem c_X1_fallen (l : Launch) (G : GT) (hn : ∀ i ∈ LsF, i ∈ gL G) (j1 : Nat) (hj1 : j1 < 2) (x2 : Int32) (x3 : Int32) (M : Mem) (r0 : Int32) (M0 : Mem) (hF : F_X1_fallen j1 x2 x3 M = some (r0, M0)) : MetG l G yX1_fallen cX1_fallen 6 (some .int) 0 0 [.ref (G.1 55), .ref (G.1 (53 + j1)), .int x2, .int x3] M (some (.int r0)) M0 := by
  refine MetG.of (by decide) (Nat.le_of_ble_eq_true rfl) ?_
  intro p e s m args below meth c hC hr hlk hnm ls hS hl
  exact b_X1_fallen hC hr hlk hn hj1 _ _ _ _ _ _ hF hS hl
def F_X1_quarrel_76 (k18 : Int32 → Int32 → Int32 → Mem → Option Mem) (j1 : Nat) (x2 : Int32) (x3 : Int32) (x4 : Int32) (M : Mem) : Option Mem := k18 x2 x3 (x4 + 1) M
def F_X1_quarrel_18 (j1 : Nat) : Nat → Int32 → Int32 → Int32 → Mem → Option Mem
  | 0, _, _, _, _ => none
  | n + 1, x2, x3, x4, M => if (M.1 0) ≤ x4 then some M else if (x3 >>> (x4 &&& 31)) = 0 then some M else if (((M.1 3) >>> (x2 &&& 31)) &&& 1) = 0 then some M else if ((x3 >>> (x4 &&& 31)) &&& 1) = 0 then F_X1_quarrel_76 (F_X1_quarrel_18 j1 n) j1 x2 x3 x4 M else bd (F_X1_fallen j1 x4 x2 M) (fun r67 M67 => F_X1_quarrel_76 (F_X1_quarrel_18 j1 n) j1 x2 x3 x4 (sv M67 3 ((M.1 3) &&& (r67 ^^^ (-1)))))
def F_X1_quarrel (j1 : Nat) (x2 : Int32) (M : Mem) : Option Mem := ckb (ix x2 10) (F_X1_quarrel_18 j1 fu x2 ((M.2 8 x2.toNatClampNeg) &&& (M.1 3)) 0 M)
set_option maxHeartbeats 4000000 in
set_option maxRecDepth 100000 in
theorem b_X1_quarrel_76 {k18 : Int32 → Int32 → Int32 → Mem → Option Mem} {j1 : Nat} {M0 : Mem} (hC : SX p m c s args cX1_quarrel 5 RX1 G (AG G)) (hr : meth.sig.returnType = none) (hlk : meth.locks = false) (hn : ∀ i ∈ LsF, i ∈ gL G) (hk18 : ∀ (x2 : Int32) (x3 : Int32) (x4 : Int32) (M : Mem) (H : Heap) (locs : List Loc) (ls : Array Slot), k18 x2 x3 x4 M = some M0 → ST G (AG G) s M H locs → lv_has ls 5 [(0, .ref (G.1 55)), (1, .ref (G.1 (53 + j1))), (2, .int x2), (3, .int x3), (4, .int x4)] → W p l e (RM 1 25) s m args below meth c H locs 0 0 (MQ below (QV G none M0) args s 0 0 (AG G)) (F0 m 18 ls [])) (hj1 : j1 < 2) : ∀ (x2 : Int32) (x3 : Int32) (x4 : Int32) (M : Mem) (H : Heap) (locs : List Loc) (ls : Array Slot), F_X1_quarrel_76 k18 j1 x2 x3 x4 M = some M0 → ST G (AG G) s M H locs → lv_has ls 5 [(0, .ref (G.1 55)), (1, .ref (G.1 (53 + j1))), (2, .int x2), (3, .int x3), (4, .int x4)] → W p l e (RM 1 25) s m args below meth c H locs 0 0 (MQ below (QV G none M0) args s 0 0 (AG G)) (F0 m 76 ls []) := by
  obtain ⟨⟨hx, hb, hml, hown, hts⟩, hK, hG, hA⟩ := id hC
  intro x2 x3 x4 M H locs ls hF hS hl
  unfold F_X1_quarrel_76 at hF
  refine lv_iinc (v := x4 + 1) (lv' := [(4, .int (x4 + 1)), (0, .ref (G.1 55)), (1, .ref (G.1 (53 + j1))), (2, .int x2), (3, .int x3)]) hx hb dX1_quarrel_76 hl (k := 4) rfl rfl (by decide) rfl (fun ls hl => ?_)
  refine lv_goto (tgt := 18) hx hb dX1_quarrel_79 (by decide) ?_
  exact hk18 _ _ _ _ _ _ _ hF hS (lv_sub hl [1, 2, 3, 4, 0] rfl)
set_option maxHeartbeats 4000000 in
set_option maxRecDepth 100000 in
theorem b_X1_quarrel_18 {j1 : Nat} {M0 : Mem} (hC : SX p m c s args cX1_quarrel 5 RX1 G (AG G)) (hr : meth.sig.returnType = none) (hlk : meth.locks = false) (hn : ∀ i ∈ LsF, i ∈ gL G) (hj1 : j1 < 2) : ∀ (n : Nat) (x2 : Int32) (x3 : Int32) (x4 : Int32) (M : Mem) (H : Heap) (locs : List Loc) (ls : Array Slot), F_X1_quarrel_18 j1 n x2 x3 x4 M = some M0 → ST G (AG G) s M H locs → lv_has ls 5 [(0, .ref (G.1 55)), (1, .ref (G.1 (53 + j1))), (2, .int x2), (3, .int x3), (4, .int x4)] → W p l e (RM 1 25) s m args below meth c H locs 0 0 (MQ below (QV G none M0) args s 0 0 (AG G)) (F0 m 18 ls []) := by
  obtain ⟨⟨hx, hb, hml, hown, hts⟩, hK, hG, hA⟩ := id hC
  intro n
  induction n with
  | zero =>
    intro x2 x3 x4 M H locs ls hF
    cases hF
  | succ n ih =>
    intro x2 x3 x4 M H locs ls hF hS hl
    unfold F_X1_quarrel_18 at hF
    refine lv_iload hx hb dX1_quarrel_18 (lv_at hl 4 rfl) ?_
    refine lv_aload_n hx hb dX1_quarrel_20 rfl (lv_at hl 0 rfl) ?_
    refine gx (ci := 1) (k := 0) (v := .ref (G.1 52)) (C := RX1) (T := TX1) (N := 4) hC hS (hn _ (by decide)) rfl rfl in_X1 (by decide) rfl rfl lf_X1_21 dX1_quarrel_21 ?_
    refine gxN (ci := 5) (k := 10) (v := .int (M.1 0)) (C := RX5) (T := TX5) (N := 13) hC hS (hn _ (by decide)) rfl rfl in_X5 (by decide) rfl rfl ln_X1_28 dX1_quarrel_24 ?_
    refine lv_icmp_ge (tgt := 82) hx hb dX1_quarrel_27 (by decide) (fun hc => ?_) (fun hc => ?_)
    · rw [if_pos hc] at hF
      exact retV hC hS hr hlk hF dX1_quarrel_82
    · rw [if_neg hc] at hF
      refine lv_iload_n hx hb dX1_quarrel_30 rfl (lv_at hl 3 rfl) ?_
      refine lv_iload hx hb dX1_quarrel_31 (lv_at hl 4 rfl) ?_
      refine lv_ishr hx hb dX1_quarrel_33 ?_
      refine lv_if_eq (tgt := 82) hx hb dX1_quarrel_34 (by decide) (fun hc => ?_) (fun hc => ?_)
      · rw [if_pos hc] at hF
        exact retV hC hS hr hlk hF dX1_quarrel_82
      · rw [if_neg hc] at hF
        refine lv_aload_n hx hb dX1_quarrel_37 rfl (lv_at hl 0 rfl) ?_
        refine gx (ci := 1) (k := 1) (v := .int (M.1 3)) (C := RX1) (T := TX1) (N := 4) hC hS (hn _ (by decide)) rfl rfl in_X1 (by decide) rfl rfl lf_X1_9 dX1_quarrel_38 ?_
        refine lv_iload_n hx hb dX1_quarrel_41 rfl (lv_at hl 2 rfl) ?_
        refine lv_ishr hx hb dX1_quarrel_42 ?_
        refine lv_iconst (v := 1) hx hb dX1_quarrel_43 (by decide) ?_
        refine lv_iand hx hb dX1_quarrel_44 ?_
        refine lv_if_eq (tgt := 82) hx hb dX1_quarrel_45 (by decide) (fun hc => ?_) (fun hc => ?_)
        · rw [if_pos hc] at hF
          exact retV hC hS hr hlk hF dX1_quarrel_82
        · rw [if_neg hc] at hF
          refine lv_iload_n hx hb dX1_quarrel_48 rfl (lv_at hl 3 rfl) ?_
          refine lv_iload hx hb dX1_quarrel_49 (lv_at hl 4 rfl) ?_
          refine lv_ishr hx hb dX1_quarrel_51 ?_
          refine lv_iconst (v := 1) hx hb dX1_quarrel_52 (by decide) ?_
          refine lv_iand hx hb dX1_quarrel_53 ?_
          refine lv_if_eq (tgt := 76) hx hb dX1_quarrel_54 (by decide) (fun hc => ?_) (fun hc => ?_)
          · rw [if_pos hc] at hF
            exact b_X1_quarrel_76 hC hr hlk hn ih hj1 _ _ _ _ _ _ _ hF hS (lv_sub hl [0, 1, 2, 3, 4] rfl)
          · rw [if_neg hc] at hF
            refine lv_aload_n hx hb dX1_quarrel_57 rfl (lv_at hl 0 rfl) ?_
            refine lv_dup hx hb dX1_quarrel_58 rfl ?_
            refine gx (ci := 1) (k := 1) (v := .int (M.1 3)) (C := RX1) (T := TX1) (N := 4) hC hS (hn _ (by decide)) rfl rfl in_X1 (by decide) rfl rfl lf_X1_9 dX1_quarrel_59 ?_
            refine lv_aload_n hx hb dX1_quarrel_62 rfl (lv_at hl 0 rfl) ?_
            refine lv_aload_n hx hb dX1_quarrel_63 rfl (lv_at hl 1 rfl) ?_
            refine lv_iload hx hb dX1_quarrel_64 (lv_at hl 4 rfl) ?_
            refine lv_iload_n hx hb dX1_quarrel_66 rfl (lv_at hl 2 rfl) ?_
            obtain ⟨r67, M67, h67, hF⟩ := bd_some hF
            refine cV_ (ci := 1) (i := 55) (C := RX1) (T := TX1) (N := 4) (As := [.ref (G.1 (53 + j1)), .int x4, .int x2]) (v := some (.int r67)) (rest := [.int (M.1 3), .ref (G.1 55)]) (st1 := [.int r67, .int (M.1 3), .ref (G.1 55)]) hC hS (hn _ (by decide)) rfl rfl (c_X1_fallen l G hn j1 hj1 x4 x2 M _ _ h67) kV_X1_fallen lm_X1_81 ⟨Nat.le_of_ble_eq_true rfl, Nat.le_of_ble_eq_true rfl⟩ rfl hl.1 (Nat.le_of_ble_eq_true rfl) dX1_quarrel_67 ⟨Nat.le_refl _, Nat.le_refl _⟩ rfl (fun H locs hS => ?_)
            refine lv_iconst (v := (-1)) hx hb dX1_quarrel_70 (by decide) ?_
            refine lv_ixor hx hb dX1_quarrel_71 ?_
            refine lv_iand hx hb dX1_quarrel_72 ?_
            refine px (ci := 1) (k := 1) (n := 3) (ty := .int) (C := RX1) (T := TX1) (N := 4) hC hS (hn _ (by decide)) rfl rfl in_X1 tyX1_ok nmX1 (by decide) rfl rfl (by decide +kernel) rfl rfl (Nat.le_of_ble_eq_true rfl) rfl se_X1_1 lf_X1_9 dX1_quarrel_73 (fun H locs hS => ?_)
            exact b_X1_quarrel_76 hC hr hlk hn ih hj1 _ _ _ _ _ _ _ hF hS (lv_sub hl [0, 1, 2, 3, 4] rfl)
set_option maxHeartbeats 4000000 in
set_option maxRecDepth 100000 in
theorem b_X1_quarrel {j1 : Nat} {M0 : Mem} (hC : SX p m c s args cX1_quarrel 5 RX1 G (AG G)) (hr : meth.sig.returnType = none) (hlk : meth.locks = false) (hn : ∀ i ∈ LsF, i ∈ gL G) (hj1 : j1 < 2) : ∀ (x2 : Int32) (M : Mem) (H : Heap) (locs : List Loc) (ls : Array Slot), F_X1_quarrel j1 x2 M = some M0 → ST G (AG G) s M H locs → lv_has ls 5 [(0, .ref (G.1 55)), (1, .ref (G.1 (53 + j1))), (2, .int x2)] → W p l e (RM 1 25) s m args below meth c H locs 0 0 (MQ below (QV G none M0) args s 0 0 (AG G)) (F0 m 0 ls []) := by
  obtain ⟨⟨hx, hb, hml, hown, hts⟩, hK, hG, hA⟩ := id hC
  intro x2 M H locs ls hF hS hl
  unfold F_X1_quarrel at hF
  refine lv_aload_n hx hb dX1_quarrel_0 rfl (lv_at hl 0 rfl) ?_
  refine gx (ci := 1) (k := 0) (v := .ref (G.1 52)) (C := RX1) (T := TX1) (N := 4) hC hS (hn _ (by decide)) rfl rfl in_X1 (by decide) rfl rfl lf_X1_21 dX1_quarrel_1 ?_
  refine gxN (ci := 5) (k := 6) (v := .ref (G.1 8)) (C := RX5) (T := TX5) (N := 13) hC hS (hn _ (by decide)) rfl rfl in_X5 (by decide) rfl rfl ln_X1_78 dX1_quarrel_4 ?_
  refine lv_iload_n hx hb dX1_quarrel_7 rfl (lv_at hl 2 rfl) ?_
  obtain ⟨hi, hF⟩ := ckb_some hF
  refine ald hC hS (hn _ (by decide)) (by decide) rfl hi dX1_quarrel_8 ?_
  refine lv_aload_n hx hb dX1_quarrel_9 rfl (lv_at hl 0 rfl) ?_
  refine gx (ci := 1) (k := 1) (v := .int (M.1 3)) (C := RX1) (T := TX1) (N := 4) hC hS (hn _ (by decide)) rfl rfl in_X1 (by decide) rfl rfl lf_X1_9 dX1_quarrel_10 ?_
  refine lv_iand hx hb dX1_quarrel_13 ?_
  refine lv_istore_n (lv' := [(3, .int ((M.2 8 x2.toNatClampNeg) &&& (M.1 3))), (0, .ref (G.1 55)), (1, .ref (G.1 (53 + j1))), (2, .int x2)]) hx hb dX1_quarrel_14 rfl hl (by decide) rfl (fun ls hl => ?_)
  refine lv_iconst (v := 0) hx hb dX1_quarrel_15 (by decide) ?_
  refine lv_istore (lv' := [(4, .int 0), (3, .int ((M.2 8 x2.toNatClampNeg) &&& (M.1 3))), (0, .ref (G.1 55)), (1, .ref (G.1 (53 + j1))), (2, .int x2)]) hx hb dX1_quarrel_16 hl (by decide) rfl (fun ls hl => ?_)
  exact b_X1_quarrel_18 hC hr hlk hn hj1 fu _ _ _ _ _ _ _ hF hS (lv_sub hl [2, 3, 4, 1, 0] rfl)
set_option maxRecDepth 100000 in
theorem c_X1_quarrel (l : Launch) (G : GT) (hn : ∀ i ∈ LsF, i ∈ gL G) (j1 : Nat) (hj1 : j1 < 2) (x2 : Int32) (M : Mem) (M0 : Mem) (hF : F_X1_quarrel j1 x2 M = some M0) : MetG l G yX1_quarrel cX1_quarrel 5 none 1 25 [.ref (G.1 55), .ref (G.1 (53 + j1)), .int x2] M none M0 := by
  refine MetG.of (by decide) (Nat.le_of_ble_eq_true rfl) ?_
  intro p e s m args below meth c hC hr hlk hnm ls hS hl
  exact b_X1_quarrel hC hr hlk hn hj1 _ _ _ _ _ hF hS hl
def F_X1_undo (j1 : Nat) (x2 : Int32) (M : Mem) : Option Mem := if ((sv (sv M 3 ((M.1 3) &&& (((1 : Int32) <<< (x2 &&& 31)) ^^^ (-1)))) 4 (((sv M 3 ((M.1 3) &&& (((1 : Int32) <<< (x2 &&& 31)) ^^^ (-1)))).1 4) ||| ((1 : Int32) <<< (x2 &&& 31)))).1 (10 + 6 * j1 + 4)) = 1 then ckb (ix x2 10) (some (sv (sv (sv M 3 ((M.1 3) &&& (((1 : Int32) <<< (x2 &&& 31)) ^^^ (-1)))) 4 (((sv M 3 ((M.1 3) &&& (((1 : Int32) <<< (x2 &&& 31)) ^^^ (-1)))).1 4) ||| ((1 : Int32) <<< (x2 &&& 31)))) 5 (((sv (sv M 3 ((M.1 3) &&& (((1 : Int32) <<< (x2 &&& 31)) ^^^ (-1)))) 4 (((sv M 3 ((M.1 3) &&& (((1 : Int32) <<< (x2 &&& 31)) ^^^ (-1)))).1 4) ||| ((1 : Int32) <<< (x2 &&& 31)))).1 5) ||| ((sv (sv M 3 ((M.1 3) &&& (((1 : Int32) <<< (x2 &&& 31)) ^^^ (-1)))) 4 (((sv M 3 ((M.1 3) &&& (((1 : Int32) <<< (x2 &&& 31)) ^^^ (-1)))).1 4) ||| ((1 : Int32) <<< (x2 &&& 31)))).2 3 x2.toNatClampNeg)))) else some (sv (sv M 3 ((M.1 3) &&& (((1 : Int32) <<< (x2 &&& 31)) ^^^ (-1)))) 4 (((sv M 3 ((M.1 3) &&& (((1 : Int32) <<< (x2 &&& 31)) ^^^ (-1)))).1 4) ||| ((1 : Int32) <<< (x2 &&& 31))))
set_option maxHeartbeats 4000000 in
set_option maxRecDepth 100000 in
theorem b_X1_undo {j1 : Nat} {M0 : Mem} (hC : SX p m c s args cX1_undo 3 RX1 G (AG G)) (hr : meth.sig.returnType = none) (hlk : meth.locks = false) (hn : ∀ i ∈ LsF, i ∈ gL G) (hj1 : j1 < 2) : ∀ (x2 : Int32) (M : Mem) (H : Heap) (locs : List Loc) (ls : Array Slot), F_X1_undo j1 x2 M = some M0 → ST G (AG G) s M H locs → lv_has ls 3 [(0, .ref (G.1 55)), (1, .ref (G.1 (53 + j1))), (2, .int x2)] → W p l e (RM 0 0) s m args below meth c H locs 0 0 (MQ below (QV G none M0) args s 0 0 (AG G)) (F0 m 0 ls []) := by
  obtain ⟨⟨hx, hb, hml, hown, hts⟩, hK, hG, hA⟩ := id hC
  intro x2 M H locs ls hF hS hl
  unfold F_X1_undo at hF
  refine lv_aload_n hx hb dX1_undo_0 rfl (lv_at hl 0 rfl) ?_
  refine lv_dup hx hb dX1_undo_1 rfl ?_
  refine gx (ci := 1) (k := 1) (v := .int (M.1 3)) (C := RX1) (T := TX1) (N := 4) hC hS (hn _ (by decide)) rfl rfl in_X1 (by decide) rfl rfl lf_X1_9 dX1_undo_2 ?_
  refine lv_iconst (v := 1) hx hb dX1_undo_5 (by decide) ?_
  refine lv_iload_n hx hb dX1_undo_6 rfl (lv_at hl 2 rfl) ?_
  refine lv_ishl hx hb dX1_undo_7 ?_
  refine lv_iconst (v := (-1)) hx hb dX1_undo_8 (by decide) ?_
  refine lv_ixor hx hb dX1_undo_9 ?_
  refine lv_iand hx hb dX1_undo_10 ?_
  refine px (ci := 1) (k := 1) (n := 3) (ty := .int) (C := RX1) (T := TX1) (N := 4) hC hS (hn _ (by decide)) rfl rfl in_X1 tyX1_ok nmX1 (by decide) rfl rfl (by decide +kernel) rfl rfl (Nat.le_of_ble_eq_true rfl) rfl se_X1_1 lf_X1_9 dX1_undo_11 (fun H locs hS => ?_)
  refine lv_aload_n hx hb dX1_undo_14 rfl (lv_at hl 0 rfl) ?_
  refine lv_dup hx hb dX1_undo_15 rfl ?_
  refine gx (ci := 1) (k := 2) (v := .int ((sv M 3 ((M.1 3) &&& (((1 : Int32) <<< (x2 &&& 31)) ^^^ (-1)))).1 4)) (C := RX1) (T := TX1) (N := 4) hC hS (hn _ (by decide)) rfl rfl in_X1 (by decide) rfl rfl lf_X1_15 dX1_undo_16 ?_
  refine lv_iconst (v := 1) hx hb dX1_undo_19 (by decide) ?_
  refine lv_iload_n hx hb dX1_undo_20 rfl (lv_at hl 2 rfl) ?_
  refine lv_ishl hx hb dX1_undo_21 ?_
  refine lv_ior hx hb dX1_undo_22 ?_
  refine px (ci := 1) (k := 2) (n := 4) (ty := .int) (C := RX1) (T := TX1) (N := 4) hC hS (hn _ (by decide)) rfl rfl in_X1 tyX1_ok nmX1 (by decide) rfl rfl (by decide +kernel) rfl rfl (Nat.le_of_ble_eq_true rfl) rfl se_X1_2 lf_X1_15 dX1_undo_23 (fun H locs hS => ?_)
  refine lv_aload_n hx hb dX1_undo_26 rfl (lv_at hl 1 rfl) ?_
  refine gxN (ci := 2) (k := 5) (v := .int ((sv (sv M 3 ((M.1 3) &&& (((1 : Int32) <<< (x2 &&& 31)) ^^^ (-1)))) 4 (((sv M 3 ((M.1 3) &&& (((1 : Int32) <<< (x2 &&& 31)) ^^^ (-1)))).1 4) ||| ((1 : Int32) <<< (x2 &&& 31)))).1 (10 + 6 * j1 + 4))) (C := RX2) (T := TX2) (N := 7) hC hS (hn _ (mL hj1)) (ceL hj1) rfl in_X2 (by decide) rfl rfl ln_X1_100 dX1_undo_27 ?_
  refine lv_iconst (v := 1) hx hb dX1_undo_30 (by decide) ?_
  refine lv_icmp_ne (tgt := 52) hx hb dX1_undo_31 (by decide) (fun hc => ?_) (fun hc => ?_)
  · rw [if_neg hc] at hF
    exact retV hC hS hr hlk hF dX1_undo_52
  · rw [if_pos hc] at hF
    refine lv_aload_n hx hb dX1_undo_34 rfl (lv_at hl 0 rfl) ?_
    refine lv_dup hx hb dX1_undo_35 rfl ?_
    refine gx (ci := 1) (k := 3) (v := .int ((sv (sv M 3 ((M.1 3) &&& (((1 : Int32) <<< (x2 &&& 31)) ^^^ (-1)))) 4 (((sv M 3 ((M.1 3) &&& (((1 : Int32) <<< (x2 &&& 31)) ^^^ (-1)))).1 4) ||| ((1 : Int32) <<< (x2 &&& 31)))).1 5)) (C := RX1) (T := TX1) (N := 4) hC hS (hn _ (by decide)) rfl rfl in_X1 (by decide) rfl rfl lf_X1_18 dX1_undo_36 ?_
    refine lv_aload_n hx hb dX1_undo_39 rfl (lv_at hl 0 rfl) ?_
    refine gx (ci := 1) (k := 0) (v := .ref (G.1 52)) (C := RX1) (T := TX1) (N := 4) hC hS (hn _ (by decide)) rfl rfl in_X1 (by decide) rfl rfl lf_X1_21 dX1_undo_40 ?_
    refine gxN (ci := 5) (k := 1) (v := .ref (G.1 3)) (C := RX5) (T := TX5) (N := 13) hC hS (hn _ (by decide)) rfl rfl in_X5 (by decide) rfl rfl ln_X1_41 dX1_undo_43 ?_
    refine lv_iload_n hx hb dX1_undo_46 rfl (lv_at hl 2 rfl) ?_
    obtain ⟨hi, hF⟩ := ckb_some hF
    refine ald hC hS (hn _ (by decide)) (by decide) rfl hi dX1_undo_47 ?_
    refine lv_ior hx hb dX1_undo_48 ?_
    refine px (ci := 1) (k := 3) (n := 5) (ty := .int) (C := RX1) (T := TX1) (N := 4) hC hS (hn _ (by decide)) rfl rfl in_X1 tyX1_ok nmX1 (by decide) rfl rfl (by decide +kernel) rfl rfl (Nat.le_of_ble_eq_true rfl) rfl se_X1_3 lf_X1_18 dX1_undo_49 (fun H locs hS => ?_)
    exact retV hC hS hr hlk hF dX1_undo_52
set_option maxRecDepth 100000 in
theorem c_X1_undo (l : Launch) (G : GT) (hn : ∀ i ∈ LsF, i ∈ gL G) (j1 : Nat) (hj1 : j1 < 2) (x2 : Int32) (M : Mem) (M0 : Mem) (hF : F_X1_undo j1 x2 M = some M0) : MetG l G yX1_undo cX1_undo 3 none 0 0 [.ref (G.1 55), .ref (G.1 (53 + j1)), .int x2] M none M0 := by
  refine MetG.of (by decide) (Nat.le_of_ble_eq_true rfl) ?_
  intro p e s m args below meth c hC hr hlk hnm ls hS hl
  exact b_X1_undo hC hr hlk hn hj1 _ _ _ _ _ hF hS hl
def F_X1_beElsewhere (j1 : Nat) (x2 : Int32) (M : Mem) : Option Mem := if (((M.1 3) >>> (x2 &&& 31)) &&& 1) = 0 then some M else ckb (ix x2 10) (if ((M.2 9 x2.toNatClampNeg) &&& (M.1 3)) = 0 then ckb (ix x2 10) (if ((M.2 10 x2.toNatClampNeg) &&& (M.1 3)) = 0 then some M else bdv (F_X1_undo j1 x2 M) (fun M66 => some M66)) else ckb (ix x2 10) (bdv (F_X1_undo j1 (M.2 7 x2.toNatClampNeg) M) (fun M40 => some M40)))
set_option maxHeartbeats 4000000 in
set_option maxRecDepth 100000 in
theorem b_X1_beElsewhere {j1 : Nat} {M0 : Mem} (hC : SX p m c s args cX1_beElsewhere 3 RX1 G (AG G)) (hr : meth.sig.returnType = none) (hlk : meth.locks = false) (hn : ∀ i ∈ LsF, i ∈ gL G) (hj1 : j1 < 2) : ∀ (x2 : Int32) (M : Mem) (H : Heap) (locs : List Loc) (ls : Array Slot), F_X1_beElsewhere j1 x2 M = some M0 → ST G (AG G) s M H locs → lv_has ls 3 [(0, .ref (G.1 55)), (1, .ref (G.1 (53 + j1))), (2, .int x2)] → W p l e (RM 1 22) s m args below meth c H locs 0 0 (MQ below (QV G none M0) args s 0 0 (AG G)) (F0 m 0 ls []) := by
  obtain ⟨⟨hx, hb, hml, hown, hts⟩, hK, hG, hA⟩ := id hC
  intro x2 M H locs ls hF hS hl
  unfold F_X1_beElsewhere at hF
  refine lv_aload_n hx hb dX1_beElsewhere_0 rfl (lv_at hl 0 rfl) ?_
  refine gx (ci := 1) (k := 1) (v := .int (M.1 3)) (C := RX1) (T := TX1) (N := 4) hC hS (hn _ (by decide)) rfl rfl in_X1 (by decide) rfl rfl lf_X1_9 dX1_beElsewhere_1 ?_
  refine lv_iload_n hx hb dX1_beElsewhere_4 rfl (lv_at hl 2 rfl) ?_
  refine lv_ishr hx hb dX1_beElsewhere_5 ?_
  refine lv_iconst (v := 1) hx hb dX1_beElsewhere_6 (by decide) ?_
  refine lv_iand hx hb dX1_beElsewhere_7 ?_
  refine lv_if_ne (tgt := 12) hx hb dX1_beElsewhere_8 (by decide) (fun hc => ?_) (fun hc => ?_)
  · rw [if_neg hc] at hF
    refine lv_aload_n hx hb dX1_beElsewhere_12 rfl (lv_at hl 0 rfl) ?_
    refine gx (ci := 1) (k := 0) (v := .ref (G.1 52)) (C := RX1) (T := TX1) (N := 4) hC hS (hn _ (by decide)) rfl rfl in_X1 (by decide) rfl rfl lf_X1_21 dX1_beElsewhere_13 ?_
    refine gxN (ci := 5) (k := 7) (v := .ref (G.1 9)) (C := RX5) (T := TX5) (N := 13) hC hS (hn _ (by decide)) rfl rfl in_X5 (by decide) rfl rfl ln_X1_91 dX1_beElsewhere_16 ?_
    refine lv_iload_n hx hb dX1_beElsewhere_19 rfl (lv_at hl 2 rfl) ?_
    obtain ⟨hi, hF⟩ := ckb_some hF
    refine ald hC hS (hn _ (by decide)) (by decide) rfl hi dX1_beElsewhere_20 ?_
    refine lv_aload_n hx hb dX1_beElsewhere_21 rfl (lv_at hl 0 rfl) ?_
    refine gx (ci := 1) (k := 1) (v := .int (M.1 3)) (C := RX1) (T := TX1) (N := 4) hC hS (hn _ (by decide)) rfl rfl in_X1 (by decide) rfl rfl lf_X1_9 dX1_beElsewhere_22 ?_
    refine lv_iand hx hb dX1_beElsewhere_25 ?_
    refine lv_if_eq (tgt := 46) hx hb dX1_beElsewhere_26 (by decide) (fun hc => ?_) (fun hc => ?_)
    · rw [if_pos hc] at hF
      refine lv_aload_n hx hb dX1_beElsewhere_46 rfl (lv_at hl 0 rfl) ?_
      refine gx (ci := 1) (k := 0) (v := .ref (G.1 52)) (C := RX1) (T := TX1) (N := 4) hC hS (hn _ (by decide)) rfl rfl in_X1 (by decide) rfl rfl lf_X1_21 dX1_beElsewhere_47 ?_
      refine gxN (ci := 5) (k := 8) (v := .ref (G.1 10)) (C := RX5) (T := TX5) (N := 13) hC hS (hn _ (by decide)) rfl rfl in_X5 (by decide) rfl rfl ln_X1_97 dX1_beElsewhere_50 ?_
      refine lv_iload_n hx hb dX1_beElsewhere_53 rfl (lv_at hl 2 rfl) ?_
      obtain ⟨hi, hF⟩ := ckb_some hF
      refine ald hC hS (hn _ (by decide)) (by decide) rfl hi dX1_beElsewhere_54 ?_
      refine lv_aload_n hx hb dX1_beElsewhere_55 rfl (lv_at hl 0 rfl) ?_
      refine gx (ci := 1) (k := 1) (v := .int (M.1 3)) (C := RX1) (T := TX1) (N := 4) hC hS (hn _ (by decide)) rfl rfl in_X1 (by decide) rfl rfl lf_X1_9 dX1_beElsewhere_56 ?_
      refine lv_iand hx hb dX1_beElsewhere_59 ?_
      refine lv_if_eq (tgt := 69) hx hb dX1_beElsewhere_60 (by decide) (fun hc => ?_) (fun hc => ?_)
      · rw [if_pos hc] at hF
        exact retV hC hS hr hlk hF dX1_beElsewhere_69
      · rw [if_neg hc] at hF
        refine lv_aload_n hx hb dX1_beElsewhere_63 rfl (lv_at hl 0 rfl) ?_
        refine lv_aload_n hx hb dX1_beElsewhere_64 rfl (lv_at hl 1 rfl) ?_
        refine lv_iload_n hx hb dX1_beElsewhere_65 rfl (lv_at hl 2 rfl) ?_
        obtain ⟨M66, h66, hF⟩ := bdv_some hF
        refine cV_ (ci := 1) (i := 55) (C := RX1) (T := TX1) (N := 4) (As := [.ref (G.1 (53 + j1)), .int x2]) (v := none) (rest := []) (st1 := []) hC hS (hn _ (by decide)) rfl rfl (c_X1_undo l G hn j1 hj1 x2 M _ h66) kV_X1_undo lm_X1_94 ⟨Nat.le_of_ble_eq_true rfl, Nat.le_of_ble_eq_true rfl⟩ rfl hl.1 (Nat.le_of_ble_eq_true rfl) dX1_beElsewhere_66 ⟨Nat.le_refl _, Nat.le_refl _⟩ rfl (fun H locs hS => ?_)
        exact retV hC hS hr hlk hF dX1_beElsewhere_69
    · rw [if_neg hc] at hF
      refine lv_aload_n hx hb dX1_beElsewhere_29 rfl (lv_at hl 0 rfl) ?_
      refine lv_aload_n hx hb dX1_beElsewhere_30 rfl (lv_at hl 1 rfl) ?_
      refine lv_aload_n hx hb dX1_beElsewhere_31 rfl (lv_at hl 0 rfl) ?_
      refine gx (ci := 1) (k := 0) (v := .ref (G.1 52)) (C := RX1) (T := TX1) (N := 4) hC hS (hn _ (by decide)) rfl rfl in_X1 (by decide) rfl rfl lf_X1_21 dX1_beElsewhere_32 ?_
      refine gxN (ci := 5) (k := 5) (v := .ref (G.1 7)) (C := RX5) (T := TX5) (N := 13) hC hS (hn _ (by decide)) rfl rfl in_X5 (by decide) rfl rfl ln_X1_44 dX1_beElsewhere_35 ?_
      refine lv_iload_n hx hb dX1_beElsewhere_38 rfl (lv_at hl 2 rfl) ?_
      obtain ⟨hi, hF⟩ := ckb_some hF
      refine ald hC hS (hn _ (by decide)) (by decide) rfl hi dX1_beElsewhere_39 ?_
      obtain ⟨M40, h40, hF⟩ := bdv_some hF
      refine cV_ (ci := 1) (i := 55) (C := RX1) (T := TX1) (N := 4) (As := [.ref (G.1 (53 + j1)), .int (M.2 7 x2.toNatClampNeg)]) (v := none) (rest := []) (st1 := []) hC hS (hn _ (by decide)) rfl rfl (c_X1_undo l G hn j1 hj1 (M.2 7 x2.toNatClampNeg) M _ h40) kV_X1_undo lm_X1_94 ⟨Nat.le_of_ble_eq_true rfl, Nat.le_of_ble_eq_true rfl⟩ rfl hl.1 (Nat.le_of_ble_eq_true rfl) dX1_beElsewhere_40 ⟨Nat.le_refl _, Nat.le_refl _⟩ rfl (fun H locs hS => ?_)
      refine lv_goto (tgt := 69) hx hb dX1_beElsewhere_43 (by decide) ?_
      exact retV hC hS hr hlk hF dX1_beElsewhere_69
  · rw [if_pos hc] at hF
    exact retV hC hS hr hlk hF dX1_beElsewhere_11
set_option maxRecDepth 100000 in
theorem c_X1_beElsewhere (l : Launch) (G : GT) (hn : ∀ i ∈ LsF, i ∈ gL G) (j1 : Nat) (hj1 : j1 < 2) (x2 : Int32) (M : Mem) (M0 : Mem) (hF : F_X1_beElsewhere j1 x2 M = some M0) : MetG l G yX1_beElsewhere cX1_beElsewhere 3 none 1 22 [.ref (G.1 55), .ref (G.1 (53 + j1)), .int x2] M none M0 := by
  refine MetG.of (by decide) (Nat.le_of_ble_eq_true rfl) ?_
  intro p e s m args below meth c hC hr hlk hnm ls hS hl
  exact b_X1_beElsewhere hC hr hlk hn hj1 _ _ _ _ _ hF hS hl
def F_X1_hearNext (j1 : Nat) (x2 : Int32) (M : Mem) : Option Mem := bd (F_X1_isAble j1 x2 M) (fun r3 M3 => if r3 = 0 then some M3 else bdv (F_X1_quarrel j1 x2 (sv M3 3 ((M3.1 3) ||| ((1 : Int32) <<< (x2 &&& 31))))) (fun M24 => bdv (F_X1_beElsewhere j1 x2 M24) (fun M30 => some M30)))
set_option maxHeartbeats 4000000 in
set_option maxRecDepth 100000 in
theorem b_X1_hearNext {j1 : Nat} {M0 : Mem} (hC : SX p m c s args cX1_hearNext 3 RX1 G (AG G)) (hr : meth.sig.returnType = none) (hlk : meth.locks = false) (hn : ∀ i ∈ LsF, i ∈ gL G) (hj1 : j1 < 2) : ∀ (x2 : Int32) (M : Mem) (H : Heap) (locs : List Loc) (ls : Array Slot), F_X1_hearNext j1 x2 M = some M0 → ST G (AG G) s M H locs → lv_has ls 3 [(0, .ref (G.1 55)), (1, .ref (G.1 (53 + j1))), (2, .int x2)] → W p l e (RM 2 49) s m args below meth c H locs 0 0 (MQ below (QV G none M0) args s 0 0 (AG G)) (F0 m 0 ls []) := by
  obtain ⟨⟨hx, hb, hml, hown, hts⟩, hK, hG, hA⟩ := id hC
  intro x2 M H locs ls hF hS hl
  unfold F_X1_hearNext at hF
  refine lv_aload_n hx hb dX1_hearNext_0 rfl (lv_at hl 0 rfl) ?_
  refine lv_aload_n hx hb dX1_hearNext_1 rfl (lv_at hl 1 rfl) ?_
  refine lv_iload_n hx hb dX1_hearNext_2 rfl (lv_at hl 2 rfl) ?_
  obtain ⟨r3, M3, h3, hF⟩ := bd_some hF
  refine cV_ (ci := 1) (i := 55) (C := RX1) (T := TX1) (N := 4) (As := [.ref (G.1 (53 + j1)), .int x2]) (v := some (.int r3)) (rest := []) (st1 := [.int r3]) hC hS (hn _ (by decide)) rfl rfl (c_X1_isAble l G hn j1 hj1 x2 M _ _ h3) kV_X1_isAble lm_X1_60 ⟨Nat.le_of_ble_eq_true rfl, Nat.le_of_ble_eq_true rfl⟩ rfl hl.1 (Nat.le_of_ble_eq_true rfl) dX1_hearNext_3 ⟨Nat.le_refl _, Nat.le_refl _⟩ rfl (fun H locs hS => ?_)
  refine lv_if_eq (tgt := 33) hx hb dX1_hearNext_6 (by decide) (fun hc => ?_) (fun hc => ?_)
  · rw [if_pos hc] at hF
    exact retV hC hS hr hlk hF dX1_hearNext_33
  · rw [if_neg hc] at hF
    refine lv_aload_n hx hb dX1_hearNext_9 rfl (lv_at hl 0 rfl) ?_
    refine lv_dup hx hb dX1_hearNext_10 rfl ?_
    refine gx (ci := 1) (k := 1) (v := .int (M3.1 3)) (C := RX1) (T := TX1) (N := 4) hC hS (hn _ (by decide)) rfl rfl in_X1 (by decide) rfl rfl lf_X1_9 dX1_hearNext_11 ?_
    refine lv_iconst (v := 1) hx hb dX1_hearNext_14 (by decide) ?_
    refine lv_iload_n hx hb dX1_hearNext_15 rfl (lv_at hl 2 rfl) ?_
    refine lv_ishl hx hb dX1_hearNext_16 ?_
    refine lv_ior hx hb dX1_hearNext_17 ?_
    refine px (ci := 1) (k := 1) (n := 3) (ty := .int) (C := RX1) (T := TX1) (N := 4) hC hS (hn _ (by decide)) rfl rfl in_X1 tyX1_ok nmX1 (by decide) rfl rfl (by decide +kernel) rfl rfl (Nat.le_of_ble_eq_true rfl) rfl se_X1_1 lf_X1_9 dX1_hearNext_18 (fun H locs hS => ?_)
    refine lv_aload_n hx hb dX1_hearNext_21 rfl (lv_at hl 0 rfl) ?_
    refine lv_aload_n hx hb dX1_hearNext_22 rfl (lv_at hl 1 rfl) ?_
    refine lv_iload_n hx hb dX1_hearNext_23 rfl (lv_at hl 2 rfl) ?_
    obtain ⟨M24, h24, hF⟩ := bdv_some hF
    refine cV_ (ci := 1) (i := 55) (C := RX1) (T := TX1) (N := 4) (As := [.ref (G.1 (53 + j1)), .int x2]) (v := none) (rest := []) (st1 := []) hC hS (hn _ (by decide)) rfl rfl (c_X1_quarrel l G hn j1 hj1 x2 (sv M3 3 ((M3.1 3) ||| ((1 : Int32) <<< (x2 &&& 31)))) _ h24) kV_X1_quarrel lm_X1_64 ⟨Nat.le_of_ble_eq_true rfl, Nat.le_of_ble_eq_true rfl⟩ rfl hl.1 (Nat.le_of_ble_eq_true rfl) dX1_hearNext_24 ⟨Nat.le_refl _, Nat.le_refl _⟩ rfl (fun H locs hS => ?_)
    refine lv_aload_n hx hb dX1_hearNext_27 rfl (lv_at hl 0 rfl) ?_
    refine lv_aload_n hx hb dX1_hearNext_28 rfl (lv_at hl 1 rfl) ?_
    refine lv_iload_n hx hb dX1_hearNext_29 rfl (lv_at hl 2 rfl) ?_
    obtain ⟨M30, h30, hF⟩ := bdv_some hF
    refine cV_ (ci := 1) (i := 55) (C := RX1) (T := TX1) (N := 4) (As := [.ref (G.1 (53 + j1)), .int x2]) (v := none) (rest := []) (st1 := []) hC hS (hn _ (by decide)) rfl rfl (c_X1_beElsewhere l G hn j1 hj1 x2 M24 _ h30) kV_X1_beElsewhere lm_X1_67 ⟨Nat.le_of_ble_eq_true rfl, Nat.le_of_ble_eq_true rfl⟩ rfl hl.1 (Nat.le_of_ble_eq_true rfl) dX1_hearNext_30 ⟨Nat.le_refl _, Nat.le_refl _⟩ rfl (fun H locs hS => ?_)
    exact retV hC hS hr hlk hF dX1_hearNext_33
set_option maxRecDepth 100000 in
theorem c_X1_hearNext (l : Launch) (G : GT) (hn : ∀ i ∈ LsF, i ∈ gL G) (j1 : Nat) (hj1 : j1 < 2) (x2 : Int32) (M : Mem) (M0 : Mem) (hF : F_X1_hearNext j1 x2 M = some M0) : MetG l G yX1_hearNext cX1_hearNext 3 none 2 49 [.ref (G.1 55), .ref (G.1 (53 + j1)), .int x2] M none M0 := by
  refine MetG.of (by decide) (Nat.le_of_ble_eq_true rfl) ?_
  intro p e s m args below meth c hC hr hlk hnm ls hS hl
  exact b_X1_hearNext hC hr hlk hn hj1 _ _ _ _ _ hF hS hl
def F_X1_byNumbers_31 (k6 : Int32 → Int32 → Mem → Option Mem) (j1 : Nat) (x2 : Int32) (x3 : Int32) (M : Mem) : Option Mem := k6 x2 (x3 + 1) M
def F_X1_byNumbers_6 (j1 : Nat) : Nat → Int32 → Int32 → Mem → Option Mem
  | 0, _, _, _ => none
  | n + 1, x2, x3, M => if (M.1 0) ≤ x3 then some M else if ((x2 >>> (x3 &&& 31)) &&& 1) = 0 then F_X1_byNumbers_31 (F_X1_byNumbers_6 j1 n) j1 x2 x3 M else bdv (F_X1_hearNext j1 x3 M) (fun M28 => F_X1_byNumbers_31 (F_X1_byNumbers_6 j1 n) j1 x2 x3 M28)
def F_X1_byNumbers (j1 : Nat) (x2 : Int32) (M : Mem) : Option Mem := bdv (F_X1_begin M) (fun M1 => F_X1_byNumbers_6 j1 fu x2 0 M1)
set_option maxHeartbeats 4000000 in
set_option maxRecDepth 100000 in
theorem b_X1_byNumbers_31 {k6 : Int32 → Int32 → Mem → Option Mem} {j1 : Nat} {M0 : Mem} (hC : SX p m c s args cX1_byNumbers 4 RX1 G (AG G)) (hr : meth.sig.returnType = none) (hlk : meth.locks = false) (hn : ∀ i ∈ LsF, i ∈ gL G) (hk6 : ∀ (x2 : Int32) (x3 : Int32) (M : Mem) (H : Heap) (locs : List Loc) (ls : Array Slot), k6 x2 x3 M = some M0 → ST G (AG G) s M H locs → lv_has ls 4 [(0, .ref (G.1 55)), (1, .ref (G.1 (53 + j1))), (2, .int x2), (3, .int x3)] → W p l e (RM 3 71) s m args below meth c H locs 0 0 (MQ below (QV G none M0) args s 0 0 (AG G)) (F0 m 6 ls [])) (hj1 : j1 < 2) : ∀ (x2 : Int32) (x3 : Int32) (M : Mem) (H : Heap) (locs : List Loc) (ls : Array Slot), F_X1_byNumbers_31 k6 j1 x2 x3 M = some M0 → ST G (AG G) s M H locs → lv_has ls 4 [(0, .ref (G.1 55)), (1, .ref (G.1 (53 + j1))), (2, .int x2), (3, .int x3)] → W p l e (RM 3 71) s m args below meth c H locs 0 0 (MQ below (QV G none M0) args s 0 0 (AG G)) (F0 m 31 ls []) := by
  obtain ⟨⟨hx, hb, hml, hown, hts⟩, hK, hG, hA⟩ := id hC
  intro x2 x3 M H locs ls hF hS hl
  unfold F_X1_byNumbers_31 at hF
  refine lv_iinc (v := x3 + 1) (lv' := [(3, .int (x3 + 1)), (0, .ref (G.1 55)), (1, .ref (G.1 (53 + j1))), (2, .int x2)]) hx hb dX1_byNumbers_31 hl (k := 3) rfl rfl (by decide) rfl (fun ls hl => ?_)
  refine lv_goto (tgt := 6) hx hb dX1_byNumbers_34 (by decide) ?_
  exact hk6 _ _ _ _ _ _ hF hS (lv_sub hl [1, 2, 3, 0] rfl)
set_option maxHeartbeats 4000000 in
set_option maxRecDepth 100000 in
theorem b_X1_byNumbers_6 {j1 : Nat} {M0 : Mem} (hC : SX p m c s args cX1_byNumbers 4 RX1 G (AG G)) (hr : meth.sig.returnType = none) (hlk : meth.locks = false) (hn : ∀ i ∈ LsF, i ∈ gL G) (hj1 : j1 < 2) : ∀ (n : Nat) (x2 : Int32) (x3 : Int32) (M : Mem) (H : Heap) (locs : List Loc) (ls : Array Slot), F_X1_byNumbers_6 j1 n x2 x3 M = some M0 → ST G (AG G) s M H locs → lv_has ls 4 [(0, .ref (G.1 55)), (1, .ref (G.1 (53 + j1))), (2, .int x2), (3, .int x3)] → W p l e (RM 3 71) s m args below meth c H locs 0 0 (MQ below (QV G none M0) args s 0 0 (AG G)) (F0 m 6 ls []) := by
  obtain ⟨⟨hx, hb, hml, hown, hts⟩, hK, hG, hA⟩ := id hC
  intro n
  induction n with
  | zero =>
    intro x2 x3 M H locs ls hF
    cases hF
  | succ n ih =>
    intro x2 x3 M H locs ls hF hS hl
    unfold F_X1_byNumbers_6 at hF
    refine lv_iload_n hx hb dX1_byNumbers_6 rfl (lv_at hl 3 rfl) ?_
    refine lv_aload_n hx hb dX1_byNumbers_7 rfl (lv_at hl 0 rfl) ?_
    refine gx (ci := 1) (k := 0) (v := .ref (G.1 52)) (C := RX1) (T := TX1) (N := 4) hC hS (hn _ (by decide)) rfl rfl in_X1 (by decide) rfl rfl lf_X1_21 dX1_byNumbers_8 ?_
    refine gxN (ci := 5) (k := 10) (v := .int (M.1 0)) (C := RX5) (T := TX5) (N := 13) hC hS (hn _ (by decide)) rfl rfl in_X5 (by decide) rfl rfl ln_X1_28 dX1_byNumbers_11 ?_
    refine lv_icmp_ge (tgt := 37) hx hb dX1_byNumbers_14 (by decide) (fun hc => ?_) (fun hc => ?_)
    · rw [if_pos hc] at hF
      exact retV hC hS hr hlk hF dX1_byNumbers_37
    · rw [if_neg hc] at hF
      refine lv_iload_n hx hb dX1_byNumbers_17 rfl (lv_at hl 2 rfl) ?_
      refine lv_iload_n hx hb dX1_byNumbers_18 rfl (lv_at hl 3 rfl) ?_
      refine lv_ishr hx hb dX1_byNumbers_19 ?_
      refine lv_iconst (v := 1) hx hb dX1_byNumbers_20 (by decide) ?_
      refine lv_iand hx hb dX1_byNumbers_21 ?_
      refine lv_if_eq (tgt := 31) hx hb dX1_byNumbers_22 (by decide) (fun hc => ?_) (fun hc => ?_)
      · rw [if_pos hc] at hF
        exact b_X1_byNumbers_31 hC hr hlk hn ih hj1 _ _ _ _ _ _ hF hS (lv_sub hl [0, 1, 2, 3] rfl)
      · rw [if_neg hc] at hF
        refine lv_aload_n hx hb dX1_byNumbers_25 rfl (lv_at hl 0 rfl) ?_
        refine lv_aload_n hx hb dX1_byNumbers_26 rfl (lv_at hl 1 rfl) ?_
        refine lv_iload_n hx hb dX1_byNumbers_27 rfl (lv_at hl 3 rfl) ?_
        obtain ⟨M28, h28, hF⟩ := bdv_some hF
        refine cV_ (ci := 1) (i := 55) (C := RX1) (T := TX1) (N := 4) (As := [.ref (G.1 (53 + j1)), .int x3]) (v := none) (rest := []) (st1 := []) hC hS (hn _ (by decide)) rfl rfl (c_X1_hearNext l G hn j1 hj1 x3 M _ h28) kV_X1_hearNext lm_X1_33 ⟨Nat.le_of_ble_eq_true rfl, Nat.le_of_ble_eq_true rfl⟩ rfl hl.1 (Nat.le_of_ble_eq_true rfl) dX1_byNumbers_28 ⟨Nat.le_refl _, Nat.le_refl _⟩ rfl (fun H locs hS => ?_)
        exact b_X1_byNumbers_31 hC hr hlk hn ih hj1 _ _ _ _ _ _ hF hS (lv_sub hl [0, 1, 2, 3] rfl)
set_option maxHeartbeats 4000000 in
set_option maxRecDepth 100000 in
theorem b_X1_byNumbers {j1 : Nat} {M0 : Mem} (hC : SX p m c s args cX1_byNumbers 4 RX1 G (AG G)) (hr : meth.sig.returnType = none) (hlk : meth.locks = false) (hn : ∀ i ∈ LsF, i ∈ gL G) (hj1 : j1 < 2) : ∀ (x2 : Int32) (M : Mem) (H : Heap) (locs : List Loc) (ls : Array Slot), F_X1_byNumbers j1 x2 M = some M0 → ST G (AG G) s M H locs → lv_has ls 4 [(0, .ref (G.1 55)), (1, .ref (G.1 (53 + j1))), (2, .int x2)] → W p l e (RM 3 71) s m args below meth c H locs 0 0 (MQ below (QV G none M0) args s 0 0 (AG G)) (F0 m 0 ls []) := by
  obtain ⟨⟨hx, hb, hml, hown, hts⟩, hK, hG, hA⟩ := id hC
  intro x2 M H locs ls hF hS hl
  unfold F_X1_byNumbers at hF
  refine lv_aload_n hx hb dX1_byNumbers_0 rfl (lv_at hl 0 rfl) ?_
  obtain ⟨M1, h1, hF⟩ := bdv_some hF
  refine cV_ (ci := 1) (i := 55) (C := RX1) (T := TX1) (N := 4) (As := []) (v := none) (rest := []) (st1 := []) hC hS (hn _ (by decide)) rfl rfl (c_X1_begin l G hn M _ h1) kV_X1_begin lm_X1_25 ⟨Nat.le_of_ble_eq_true rfl, Nat.le_of_ble_eq_true rfl⟩ rfl hl.1 (Nat.le_of_ble_eq_true rfl) dX1_byNumbers_1 ⟨Nat.le_refl _, Nat.le_refl _⟩ rfl (fun H locs hS => ?_)
  refine lv_iconst (v := 0) hx hb dX1_byNumbers_4 (by decide) ?_
  refine lv_istore_n (lv' := [(3, .int 0), (0, .ref (G.1 55)), (1, .ref (G.1 (53 + j1))), (2, .int x2)]) hx hb dX1_byNumbers_5 rfl hl (by decide) rfl (fun ls hl => ?_)
  exact b_X1_byNumbers_6 hC hr hlk hn hj1 fu _ _ _ _ _ _ hF hS (lv_sub hl [1, 2, 3, 0] rfl)
set_option maxRecDepth 100000 in
theorem c_X1_byNumbers (l : Launch) (G : GT) (hn : ∀ i ∈ LsF, i ∈ gL G) (j1 : Nat) (hj1 : j1 < 2) (x2 : Int32) (M : Mem) (M0 : Mem) (hF : F_X1_byNumbers j1 x2 M = some M0) : MetG l G yX1_byNumbers cX1_byNumbers 4 none 3 71 [.ref (G.1 55), .ref (G.1 (53 + j1)), .int x2] M none M0 := by
  refine MetG.of (by decide) (Nat.le_of_ble_eq_true rfl) ?_
  intro p e s m args below meth c hC hr hlk hnm ls hS hl
  exact b_X1_byNumbers hC hr hlk hn hj1 _ _ _ _ _ hF hS hl
def F_X1_outcome (x1 : Int32) (M : Mem) : Option (Int32 × Mem) := if x1 = 0 then some (M.1 3, M) else if x1 = 1 then some (M.1 4, M) else some (M.1 5, M)
set_option maxHeartbeats 4000000 in
set_option maxRecDepth 100000 in
theorem b_X1_outcome {M0 : Mem} {r0 : Int32} (hC : SX p m c s args cX1_outcome 2 RX1 G (AG G)) (hr : meth.sig.returnType = (some .int)) (hlk : meth.locks = false) (hn : ∀ i ∈ LsF, i ∈ gL G) : ∀ (x1 : Int32) (M : Mem) (H : Heap) (locs : List Loc) (ls : Array Slot), F_X1_outcome x1 M = some (r0, M0) → ST G (AG G) s M H locs → lv_has ls 2 [(0, .ref (G.1 55)), (1, .int x1)] → W p l e (RM 0 0) s m args below meth c H locs 0 0 (MQ below (QV G (some (.int r0)) M0) args s 0 0 (AG G)) (F0 m 0 ls []) := by
  obtain ⟨⟨hx, hb, hml, hown, hts⟩, hK, hG, hA⟩ := id hC
  intro x1 M H locs ls hF hS hl
  unfold F_X1_outcome at hF
  refine lv_iload_n hx hb dX1_outcome_0 rfl (lv_at hl 1 rfl) ?_
  refine lv_if_ne (tgt := 9) hx hb dX1_outcome_1 (by decide) (fun hc => ?_) (fun hc => ?_)
  · rw [if_neg hc] at hF
    refine lv_iload_n hx hb dX1_outcome_9 rfl (lv_at hl 1 rfl) ?_
    refine lv_iconst (v := 1) hx hb dX1_outcome_10 (by decide) ?_
    refine lv_icmp_ne (tgt := 21) hx hb dX1_outcome_11 (by decide) (fun hc => ?_) (fun hc => ?_)
    · rw [if_neg hc] at hF
      refine lv_aload_n hx hb dX1_outcome_21 rfl (lv_at hl 0 rfl) ?_
      refine gx (ci := 1) (k := 3) (v := .int (M.1 5)) (C := RX1) (T := TX1) (N := 4) hC hS (hn _ (by decide)) rfl rfl in_X1 (by decide) rfl rfl lf_X1_18 dX1_outcome_22 ?_
      exact retI hC hS hr hlk hF dX1_outcome_25
    · rw [if_pos hc] at hF
      refine lv_aload_n hx hb dX1_outcome_14 rfl (lv_at hl 0 rfl) ?_
      refine gx (ci := 1) (k := 2) (v := .int (M.1 4)) (C := RX1) (T := TX1) (N := 4) hC hS (hn _ (by decide)) rfl rfl in_X1 (by decide) rfl rfl lf_X1_15 dX1_outcome_15 ?_
      refine lv_goto (tgt := 25) hx hb dX1_outcome_18 (by decide) ?_
      exact retI hC hS hr hlk hF dX1_outcome_25
  · rw [if_pos hc] at hF
    refine lv_aload_n hx hb dX1_outcome_4 rfl (lv_at hl 0 rfl) ?_
    refine gx (ci := 1) (k := 1) (v := .int (M.1 3)) (C := RX1) (T := TX1) (N := 4) hC hS (hn _ (by decide)) rfl rfl in_X1 (by decide) rfl rfl lf_X1_9 dX1_outcome_5 ?_
    exact retI hC hS hr hlk hF dX1_outcome_8
set_option maxRecDepth 100000 in
theorem c_X1_outcome (l : Launch) (G : GT) (hn : ∀ i ∈ LsF, i ∈ gL G) (x1 : Int32) (M : Mem) (r0 : Int32) (M0 : Mem) (hF : F_X1_outcome x1 M = some (r0, M0)) : MetG l G yX1_outcome cX1_outcome 2 (some .int) 0 0 [.ref (G.1 55), .int x1] M (some (.int r0)) M0 := by
  refine MetG.of (by decide) (Nat.le_of_ble_eq_true rfl) ?_
  intro p e s m args below meth c hC hr hlk hnm ls hS hl
  exact b_X1_outcome hC hr hlk hn _ _ _ _ _ hF hS hl
def F_X1_onHead_66 (k4 : Int32 → Int32 → Int32 → Mem → Option (Int32 × Mem)) (x1 : Int32) (x2 : Int32) (x3 : Int32) (M : Mem) : Option (Int32 × Mem) := k4 x1 x2 (x3 + 1) M
def F_X1_onHead_4 : Nat → Int32 → Int32 → Int32 → Mem → Option (Int32 × Mem)
  | 0, _, _, _, _ => none
  | n + 1, x1, x2, x3, M => if (M.1 0) ≤ x3 then some (x2, M) else ckb (ix x3 10) (if (M.2 2 x3.toNatClampNeg) = 0 then if (((M.1 4) >>> (x3 &&& 31)) &&& 1) = 0 then F_X1_onHead_66 (F_X1_onHead_4 n) x1 x2 x3 M else ckb (ix x3 10) (if (((M.2 3 x3.toNatClampNeg) >>> (x1 &&& 31)) &&& 1) = 0 then F_X1_onHead_66 (F_X1_onHead_4 n) x1 x2 x3 M else ckb (ix x3 10) (F_X1_onHead_66 (F_X1_onHead_4 n) x1 (x2 + (M.2 7 x3.toNatClampNeg)) x3 M)) else F_X1_onHead_66 (F_X1_onHead_4 n) x1 x2 x3 M)
def F_X1_onHead (x1 : Int32) (M : Mem) : Option (Int32 × Mem) := F_X1_onHead_4 fu x1 0 0 M
set_option maxHeartbeats 4000000 in
set_option maxRecDepth 100000 in
theorem b_X1_onHead_66 {k4 : Int32 → Int32 → Int32 → Mem → Option (Int32 × Mem)} {M0 : Mem} {r0 : Int32} (hC : SX p m c s args cX1_onHead 4 RX1 G (AG G)) (hr : meth.sig.returnType = (some .int)) (hlk : meth.locks = false) (hn : ∀ i ∈ LsF, i ∈ gL G) (hk4 : ∀ (x1 : Int32) (x2 : Int32) (x3 : Int32) (M : Mem) (H : Heap) (locs : List Loc) (ls : Array Slot), k4 x1 x2 x3 M = some (r0, M0) → ST G (AG G) s M H locs → lv_has ls 4 [(0, .ref (G.1 55)), (1, .int x1), (2, .int x2), (3, .int x3)] → W p l e (RM 0 0) s m args below meth c H locs 0 0 (MQ below (QV G (some (.int r0)) M0) args s 0 0 (AG G)) (F0 m 4 ls [])) : ∀ (x1 : Int32) (x2 : Int32) (x3 : Int32) (M : Mem) (H : Heap) (locs : List Loc) (ls : Array Slot), F_X1_onHead_66 k4 x1 x2 x3 M = some (r0, M0) → ST G (AG G) s M H locs → lv_has ls 4 [(0, .ref (G.1 55)), (1, .int x1), (2, .int x2), (3, .int x3)] → W p l e (RM 0 0) s m args below meth c H locs 0 0 (MQ below (QV G (some (.int r0)) M0) args s 0 0 (AG G)) (F0 m 66 ls []) := by
  obtain ⟨⟨hx, hb, hml, hown, hts⟩, hK, hG, hA⟩ := id hC
  intro x1 x2 x3 M H locs ls hF hS hl
  unfold F_X1_onHead_66 at hF
  refine lv_iinc (v := x3 + 1) (lv' := [(3, .int (x3 + 1)), (0, .ref (G.1 55)), (1, .int x1), (2, .int x2)]) hx hb dX1_onHead_66 hl (k := 3) rfl rfl (by decide) rfl (fun ls hl => ?_)
  refine lv_goto (tgt := 4) hx hb dX1_onHead_69 (by decide) ?_
  exact hk4 _ _ _ _ _ _ _ hF hS (lv_sub hl [1, 2, 3, 0] rfl)
set_option maxHeartbeats 4000000 in
set_option maxRecDepth 100000 in
theorem b_X1_onHead_4 {M0 : Mem} {r0 : Int32} (hC : SX p m c s args cX1_onHead 4 RX1 G (AG G)) (hr : meth.sig.returnType = (some .int)) (hlk : meth.locks = false) (hn : ∀ i ∈ LsF, i ∈ gL G) : ∀ (n : Nat) (x1 : Int32) (x2 : Int32) (x3 : Int32) (M : Mem) (H : Heap) (locs : List Loc) (ls : Array Slot), F_X1_onHead_4 n x1 x2 x3 M = some (r0, M0) → ST G (AG G) s M H locs → lv_has ls 4 [(0, .ref (G.1 55)), (1, .int x1), (2, .int x2), (3, .int x3)] → W p l e (RM 0 0) s m args below meth c H locs 0 0 (MQ below (QV G (some (.int r0)) M0) args s 0 0 (AG G)) (F0 m 4 ls []) := by
  obtain ⟨⟨hx, hb, hml, hown, hts⟩, hK, hG, hA⟩ := id hC
  intro n
  induction n with
  | zero =>
    intro x1 x2 x3 M H locs ls hF
    cases hF
  | succ n ih =>
    intro x1 x2 x3 M H locs ls hF hS hl
    unfold F_X1_onHead_4 at hF
    refine lv_iload_n hx hb dX1_onHead_4 rfl (lv_at hl 3 rfl) ?_
    refine lv_aload_n hx hb dX1_onHead_5 rfl (lv_at hl 0 rfl) ?_
    refine gx (ci := 1) (k := 0) (v := .ref (G.1 52)) (C := RX1) (T := TX1) (N := 4) hC hS (hn _ (by decide)) rfl rfl in_X1 (by decide) rfl rfl lf_X1_21 dX1_onHead_6 ?_
    refine gxN (ci := 5) (k := 10) (v := .int (M.1 0)) (C := RX5) (T := TX5) (N := 13) hC hS (hn _ (by decide)) rfl rfl in_X5 (by decide) rfl rfl ln_X1_28 dX1_onHead_9 ?_
    refine lv_icmp_ge (tgt := 72) hx hb dX1_onHead_12 (by decide) (fun hc => ?_) (fun hc => ?_)
    · rw [if_pos hc] at hF
      refine lv_iload_n hx hb dX1_onHead_72 rfl (lv_at hl 2 rfl) ?_
      exact retI hC hS hr hlk hF dX1_onHead_73
    · rw [if_neg hc] at hF
      refine lv_aload_n hx hb dX1_onHead_15 rfl (lv_at hl 0 rfl) ?_
      refine gx (ci := 1) (k := 0) (v := .ref (G.1 52)) (C := RX1) (T := TX1) (N := 4) hC hS (hn _ (by decide)) rfl rfl in_X1 (by decide) rfl rfl lf_X1_21 dX1_onHead_16 ?_
      refine gxN (ci := 5) (k := 0) (v := .ref (G.1 2)) (C := RX5) (T := TX5) (N := 13) hC hS (hn _ (by decide)) rfl rfl in_X5 (by decide) rfl rfl ln_X1_37 dX1_onHead_19 ?_
      refine lv_iload_n hx hb dX1_onHead_22 rfl (lv_at hl 3 rfl) ?_
      obtain ⟨hi, hF⟩ := ckb_some hF
      refine ald hC hS (hn _ (by decide)) (by decide) rfl hi dX1_onHead_23 ?_
      refine lv_if_ne (tgt := 66) hx hb dX1_onHead_24 (by decide) (fun hc => ?_) (fun hc => ?_)
      · rw [if_neg hc] at hF
        exact b_X1_onHead_66 hC hr hlk hn ih _ _ _ _ _ _ _ hF hS (lv_sub hl [0, 1, 2, 3] rfl)
      · rw [if_pos hc] at hF
        refine lv_aload_n hx hb dX1_onHead_27 rfl (lv_at hl 0 rfl) ?_
        refine gx (ci := 1) (k := 2) (v := .int (M.1 4)) (C := RX1) (T := TX1) (N := 4) hC hS (hn _ (by decide)) rfl rfl in_X1 (by decide) rfl rfl lf_X1_15 dX1_onHead_28 ?_
        refine lv_iload_n hx hb dX1_onHead_31 rfl (lv_at hl 3 rfl) ?_
        refine lv_ishr hx hb dX1_onHead_32 ?_
        refine lv_iconst (v := 1) hx hb dX1_onHead_33 (by decide) ?_
        refine lv_iand hx hb dX1_onHead_34 ?_
        refine lv_if_eq (tgt := 66) hx hb dX1_onHead_35 (by decide) (fun hc => ?_) (fun hc => ?_)
        · rw [if_pos hc] at hF
          exact b_X1_onHead_66 hC hr hlk hn ih _ _ _ _ _ _ _ hF hS (lv_sub hl [0, 1, 2, 3] rfl)
        · rw [if_neg hc] at hF
          refine lv_aload_n hx hb dX1_onHead_38 rfl (lv_at hl 0 rfl) ?_
          refine gx (ci := 1) (k := 0) (v := .ref (G.1 52)) (C := RX1) (T := TX1) (N := 4) hC hS (hn _ (by decide)) rfl rfl in_X1 (by decide) rfl rfl lf_X1_21 dX1_onHead_39 ?_
          refine gxN (ci := 5) (k := 1) (v := .ref (G.1 3)) (C := RX5) (T := TX5) (N := 13) hC hS (hn _ (by decide)) rfl rfl in_X5 (by decide) rfl rfl ln_X1_41 dX1_onHead_42 ?_
          refine lv_iload_n hx hb dX1_onHead_45 rfl (lv_at hl 3 rfl) ?_
          obtain ⟨hi, hF⟩ := ckb_some hF
          refine ald hC hS (hn _ (by decide)) (by decide) rfl hi dX1_onHead_46 ?_
          refine lv_iload_n hx hb dX1_onHead_47 rfl (lv_at hl 1 rfl) ?_
          refine lv_ishr hx hb dX1_onHead_48 ?_
          refine lv_iconst (v := 1) hx hb dX1_onHead_49 (by decide) ?_
          refine lv_iand hx hb dX1_onHead_50 ?_
          refine lv_if_eq (tgt := 66) hx hb dX1_onHead_51 (by decide) (fun hc => ?_) (fun hc => ?_)
          · rw [if_pos hc] at hF
            exact b_X1_onHead_66 hC hr hlk hn ih _ _ _ _ _ _ _ hF hS (lv_sub hl [0, 1, 2, 3] rfl)
          · rw [if_neg hc] at hF
            refine lv_iload_n hx hb dX1_onHead_54 rfl (lv_at hl 2 rfl) ?_
            refine lv_aload_n hx hb dX1_onHead_55 rfl (lv_at hl 0 rfl) ?_
            refine gx (ci := 1) (k := 0) (v := .ref (G.1 52)) (C := RX1) (T := TX1) (N := 4) hC hS (hn _ (by decide)) rfl rfl in_X1 (by decide) rfl rfl lf_X1_21 dX1_onHead_56 ?_
            refine gxN (ci := 5) (k := 5) (v := .ref (G.1 7)) (C := RX5) (T := TX5) (N := 13) hC hS (hn _ (by decide)) rfl rfl in_X5 (by decide) rfl rfl ln_X1_44 dX1_onHead_59 ?_
            refine lv_iload_n hx hb dX1_onHead_62 rfl (lv_at hl 3 rfl) ?_
            obtain ⟨hi, hF⟩ := ckb_some hF
            refine ald hC hS (hn _ (by decide)) (by decide) rfl hi dX1_onHead_63 ?_
            refine lv_iadd hx hb dX1_onHead_64 ?_
            refine lv_istore_n (lv' := [(2, .int (x2 + (M.2 7 x3.toNatClampNeg))), (0, .ref (G.1 55)), (1, .int x1), (3, .int x3)]) hx hb dX1_onHead_65 rfl hl (by decide) rfl (fun ls hl => ?_)
            exact b_X1_onHead_66 hC hr hlk hn ih _ _ _ _ _ _ _ hF hS (lv_sub hl [1, 2, 0, 3] rfl)
set_option maxHeartbeats 4000000 in
set_option maxRecDepth 100000 in
theorem b_X1_onHead {M0 : Mem} {r0 : Int32} (hC : SX p m c s args cX1_onHead 4 RX1 G (AG G)) (hr : meth.sig.returnType = (some .int)) (hlk : meth.locks = false) (hn : ∀ i ∈ LsF, i ∈ gL G) : ∀ (x1 : Int32) (M : Mem) (H : Heap) (locs : List Loc) (ls : Array Slot), F_X1_onHead x1 M = some (r0, M0) → ST G (AG G) s M H locs → lv_has ls 4 [(0, .ref (G.1 55)), (1, .int x1)] → W p l e (RM 0 0) s m args below meth c H locs 0 0 (MQ below (QV G (some (.int r0)) M0) args s 0 0 (AG G)) (F0 m 0 ls []) := by
  obtain ⟨⟨hx, hb, hml, hown, hts⟩, hK, hG, hA⟩ := id hC
  intro x1 M H locs ls hF hS hl
  unfold F_X1_onHead at hF
  refine lv_iconst (v := 0) hx hb dX1_onHead_0 (by decide) ?_
  refine lv_istore_n (lv' := [(2, .int 0), (0, .ref (G.1 55)), (1, .int x1)]) hx hb dX1_onHead_1 rfl hl (by decide) rfl (fun ls hl => ?_)
  refine lv_iconst (v := 0) hx hb dX1_onHead_2 (by decide) ?_
  refine lv_istore_n (lv' := [(3, .int 0), (2, .int 0), (0, .ref (G.1 55)), (1, .int x1)]) hx hb dX1_onHead_3 rfl hl (by decide) rfl (fun ls hl => ?_)
  exact b_X1_onHead_4 hC hr hlk hn fu _ _ _ _ _ _ _ hF hS (lv_sub hl [2, 3, 1, 0] rfl)
set_option maxRecDepth 100000 in
theorem c_X1_onHead (l : Launch) (G : GT) (hn : ∀ i ∈ LsF, i ∈ gL G) (x1 : Int32) (M : Mem) (r0 : Int32) (M0 : Mem) (hF : F_X1_onHead x1 M = some (r0, M0)) : MetG l G yX1_onHead cX1_onHead 4 (some .int) 0 0 [.ref (G.1 55), .int x1] M (some (.int r0)) M0 := by
  refine MetG.of (by decide) (Nat.le_of_ble_eq_true rfl) ?_
  intro p e s m args below meth c hC hr hlk hnm ls hS hl
  exact b_X1_onHead hC hr hlk hn _ _ _ _ _ hF hS hl
def F_X1_hangingOn (j1 : Nat) (x2 : Int32) (x3 : Int32) (M : Mem) : Option (Int32 × Mem) := bdv (F_X1_byNumbers j1 x2 M) (fun M3 => bdv (F_X1_byNumbers j1 (x2 &&& (((1 : Int32) <<< (x3 &&& 31)) ^^^ (-1))) M3) (fun M21 => bd (F_J6_bitCount_0f7a4 (((M3.1 3) ^^^ (M21.1 3)) &&& (((1 : Int32) <<< (x3 &&& 31)) ^^^ (-1))) M21) (fun r37 M37 => some (r37, M37))))
set_option maxHeartbeats 4000000 in
set_option maxRecDepth 100000 in
theorem b_X1_hangingOn {j1 : Nat} {M0 : Mem} {r0 : Int32} (hC : SX p m c s args cX1_hangingOn 5 RX1 G (AG G)) (hr : meth.sig.returnType = (some .int)) (hlk : meth.locks = false) (hn : ∀ i ∈ LsF, i ∈ gL G) (hj1 : j1 < 2) : ∀ (x2 : Int32) (x3 : Int32) (M : Mem) (H : Heap) (locs : List Loc) (ls : Array Slot), F_X1_hangingOn j1 x2 x3 M = some (r0, M0) → ST G (AG G) s M H locs → lv_has ls 5 [(0, .ref (G.1 55)), (1, .ref (G.1 (53 + j1))), (2, .int x2), (3, .int x3)] → W p l e (RM 4 94) s m args below meth c H locs 0 0 (MQ below (QV G (some (.int r0)) M0) args s 0 0 (AG G)) (F0 m 0 ls []) := by
  obtain ⟨⟨hx, hb, hml, hown, hts⟩, hK, hG, hA⟩ := id hC
  intro x2 x3 M H locs ls hF hS hl
  unfold F_X1_hangingOn at hF
  refine lv_aload_n hx hb dX1_hangingOn_0 rfl (lv_at hl 0 rfl) ?_
  refine lv_aload_n hx hb dX1_hangingOn_1 rfl (lv_at hl 1 rfl) ?_
  refine lv_iload_n hx hb dX1_hangingOn_2 rfl (lv_at hl 2 rfl) ?_
  obtain ⟨M3, h3, hF⟩ := bdv_some hF
  refine cV_ (ci := 1) (i := 55) (C := RX1) (T := TX1) (N := 4) (As := [.ref (G.1 (53 + j1)), .int x2]) (v := none) (rest := []) (st1 := []) hC hS (hn _ (by decide)) rfl rfl (c_X1_byNumbers l G hn j1 hj1 x2 M _ h3) kV_X1_byNumbers lm_X1_47 ⟨Nat.le_of_ble_eq_true rfl, Nat.le_of_ble_eq_true rfl⟩ rfl hl.1 (Nat.le_of_ble_eq_true rfl) dX1_hangingOn_3 ⟨Nat.le_refl _, Nat.le_refl _⟩ rfl (fun H locs hS => ?_)
  refine lv_aload_n hx hb dX1_hangingOn_6 rfl (lv_at hl 0 rfl) ?_
  refine gx (ci := 1) (k := 1) (v := .int (M3.1 3)) (C := RX1) (T := TX1) (N := 4) hC hS (hn _ (by decide)) rfl rfl in_X1 (by decide) rfl rfl lf_X1_9 dX1_hangingOn_7 ?_
  refine lv_istore (lv' := [(4, .int (M3.1 3)), (0, .ref (G.1 55)), (1, .ref (G.1 (53 + j1))), (2, .int x2), (3, .int x3)]) hx hb dX1_hangingOn_10 hl (by decide) rfl (fun ls hl => ?_)
  refine lv_aload_n hx hb dX1_hangingOn_12 rfl (lv_at hl 1 rfl) ?_
  refine lv_aload_n hx hb dX1_hangingOn_13 rfl (lv_at hl 2 rfl) ?_
  refine lv_iload_n hx hb dX1_hangingOn_14 rfl (lv_at hl 3 rfl) ?_
  refine lv_iconst (v := 1) hx hb dX1_hangingOn_15 (by decide) ?_
  refine lv_iload_n hx hb dX1_hangingOn_16 rfl (lv_at hl 4 rfl) ?_
  refine lv_ishl hx hb dX1_hangingOn_17 ?_
  refine lv_iconst (v := (-1)) hx hb dX1_hangingOn_18 (by decide) ?_
  refine lv_ixor hx hb dX1_hangingOn_19 ?_
  refine lv_iand hx hb dX1_hangingOn_20 ?_
  obtain ⟨M21, h21, hF⟩ := bdv_some hF
  refine cV_ (ci := 1) (i := 55) (C := RX1) (T := TX1) (N := 4) (As := [.ref (G.1 (53 + j1)), .int (x2 &&& (((1 : Int32) <<< (x3 &&& 31)) ^^^ (-1)))]) (v := none) (rest := []) (st1 := []) hC hS (hn _ (by decide)) rfl rfl (c_X1_byNumbers l G hn j1 hj1 (x2 &&& (((1 : Int32) <<< (x3 &&& 31)) ^^^ (-1))) M3 _ h21) kV_X1_byNumbers lm_X1_47 ⟨Nat.le_of_ble_eq_true rfl, Nat.le_of_ble_eq_true rfl⟩ rfl hl.1 (Nat.le_of_ble_eq_true rfl) dX1_hangingOn_21 ⟨Nat.le_refl _, Nat.le_refl _⟩ rfl (fun H locs hS => ?_)
  refine lv_iload hx hb dX1_hangingOn_24 (lv_at hl 0 rfl) ?_
  refine lv_aload_n hx hb dX1_hangingOn_26 rfl (lv_at hl 1 rfl) ?_
  refine gx (ci := 1) (k := 1) (v := .int (M21.1 3)) (C := RX1) (T := TX1) (N := 4) hC hS (hn _ (by decide)) rfl rfl in_X1 (by decide) rfl rfl lf_X1_9 dX1_hangingOn_27 ?_
  refine lv_ixor hx hb dX1_hangingOn_30 ?_
  refine lv_iconst (v := 1) hx hb dX1_hangingOn_31 (by decide) ?_
  refine lv_iload_n hx hb dX1_hangingOn_32 rfl (lv_at hl 4 rfl) ?_
  refine lv_ishl hx hb dX1_hangingOn_33 ?_
  refine lv_iconst (v := (-1)) hx hb dX1_hangingOn_34 (by decide) ?_
  refine lv_ixor hx hb dX1_hangingOn_35 ?_
  refine lv_iand hx hb dX1_hangingOn_36 ?_
  obtain ⟨r37, M37, h37, hF⟩ := bd_some hF
  refine cS_ (As := [.int (((M3.1 3) ^^^ (M21.1 3)) &&& (((1 : Int32) <<< (x3 &&& 31)) ^^^ (-1)))]) (v := some (.int r37)) (rest := []) (st1 := [.int r37]) hC hS (c_J6_bitCount_0f7a4 l G (((M3.1 3) ^^^ (M21.1 3)) &&& (((1 : Int32) <<< (x3 &&& 31)) ^^^ (-1))) M21 _ _ h37) kS_J6_bitCount_0f7a4 lm_X1_50 ⟨Nat.le_of_ble_eq_true rfl, Nat.le_of_ble_eq_true rfl⟩ rfl hl.1 (Nat.le_of_ble_eq_true rfl) dX1_hangingOn_37 ⟨Nat.le_refl _, Nat.le_refl _⟩ rfl (fun H locs hS => ?_)
  exact retI hC hS hr hlk hF dX1_hangingOn_40
set_option maxRecDepth 100000 in
theorem c_X1_hangingOn (l : Launch) (G : GT) (hn : ∀ i ∈ LsF, i ∈ gL G) (j1 : Nat) (hj1 : j1 < 2) (x2 : Int32) (x3 : Int32) (M : Mem) (r0 : Int32) (M0 : Mem) (hF : F_X1_hangingOn j1 x2 x3 M = some (r0, M0)) : MetG l G yX1_hangingOn cX1_hangingOn 5 (some .int) 4 94 [.ref (G.1 55), .ref (G.1 (53 + j1)), .int x2, .int x3] M (some (.int r0)) M0 := by
  refine MetG.of (by decide) (Nat.le_of_ble_eq_true rfl) ?_
  intro p e s m args below meth c hC hr hlk hnm ls hS hl
  exact b_X1_hangingOn hC hr hlk hn hj1 _ _ _ _ _ _ hF hS hl
def F_X1_ordersWith_126 (rec : Nat → Int32 → Int32 → Int32 → Mem → Option (Int32 × Mem)) (k39 : Int32 → Int32 → Int32 → Int32 → Int32 → Int32 → Int32 → Int32 → Mem → Option (Int32 × Mem)) (j1 : Nat) (x2 : Int32) (x3 : Int32) (x4 : Int32) (x5 : Int32) (x6 : Int32) (x7 : Int32) (x8 : Int32) (x9 : Int32) (M : Mem) : Option (Int32 × Mem) := k39 x2 x3 x4 x5 x6 x7 x8 (x9 + 1) M
def F_X1_ordersWith_108 (rec : Nat → Int32 → Int32 → Int32 → Mem → Option (Int32 × Mem)) (k39 : Int32 → Int32 → Int32 → Int32 → Int32 → Int32 → Int32 → Int32 → Mem → Option (Int32 × Mem)) (j1 : Nat) (x2 : Int32) (x3 : Int32) (x4 : Int32) (x5 : Int32) (x6 : Int32) (x7 : Int32) (x8 : Int32) (x9 : Int32) (M : Mem) : Option (Int32 × Mem) := F_X1_ordersWith_126 rec k39 j1 x2 x3 x4 x5 x6 x7 x8 x9 (sv (sv (sv M 3 x5) 4 x6) 5 x7)
def F_X1_ordersWith_39 (rec : Nat → Int32 → Int32 → Int32 → Mem → Option (Int32 × Mem)) (j1 : Nat) : Nat → Int32 → Int32 → Int32 → Int32 → Int32 → Int32 → Int32 → Int32 → Mem → Option (Int32 × Mem)
  | 0, _, _, _, _, _, _, _, _, _ => none
  | n + 1, x2, x3, x4, x5, x6, x7, x8, x9, M => if (M.1 0) ≤ x9 then some (x8, M) else if ((x2 >>> (x9 &&& 31)) &&& 1) = 0 then F_X1_ordersWith_126 rec (F_X1_ordersWith_39 rec j1 n) j1 x2 x3 x4 x5 x6 x7 x8 x9 M else bdv (F_X1_hearNext j1 x9 M) (fun M64 => if ((((M64.1 3) ||| (x2 &&& (((1 : Int32) <<< (x9 &&& 31)) ^^^ (-1)))) >>> (x3 &&& 31)) &&& 1) = 0 then F_X1_ordersWith_108 rec (F_X1_ordersWith_39 rec j1 n) j1 x2 x3 x4 x5 x6 x7 x8 x9 M64 else bd (rec j1 (x2 &&& (((1 : Int32) <<< (x9 &&& 31)) ^^^ (-1))) x3 (x4 + 1) M64) (fun r102 M102 => F_X1_ordersWith_108 rec (F_X1_ordersWith_39 rec j1 n) j1 x2 x3 x4 x5 x6 x7 (x8 + r102) x9 M102))
def F_X1_ordersWith_0 (rec : Nat → Int32 → Int32 → Int32 → Mem → Option (Int32 × Mem)) (j1 : Nat) (x2 : Int32) (x3 : Int32) (x4 : Int32) (M : Mem) : Option (Int32 × Mem) := if x2 = 0 then some (1, M) else if x4 < 7 then F_X1_ordersWith_39 rec j1 fu x2 x3 x4 (M.1 3) (M.1 4) (M.1 5) 0 0 M else some (0, M)
def F_X1_ordersWith : Nat → Nat → Int32 → Int32 → Int32 → Mem → Option (Int32 × Mem)
  | 0, _, _, _, _ => fun _ => none
  | d + 1, j1, x2, x3, x4 => fun M => F_X1_ordersWith_0 (F_X1_ordersWith d) j1 x2 x3 x4 M
set_option maxHeartbeats 4000000 in
set_option maxRecDepth 100000 in
theorem b_X1_ordersWith_126 {k39 : Int32 → Int32 → Int32 → Int32 → Int32 → Int32 → Int32 → Int32 → Mem → Option (Int32 × Mem)} {j1 : Nat} {M0 : Mem} {r0 : Int32} {rec : Nat → Int32 → Int32 → Int32 → Mem → Option (Int32 × Mem)} {fr lo fr' lo' : Nat} (hC : SX p m c s args cX1_ordersWith 11 RX1 G (AG G)) (hr : meth.sig.returnType = (some .int)) (hlk : meth.locks = false) (hn : ∀ i ∈ LsF, i ∈ gL G) (hro : fr' + 1 ≤ fr ∧ 8 + (11 + 11) + lo' ≤ lo) (hrc : 3 ≤ fr ∧ 71 ≤ lo) (hrec : ∀ (j1 : Nat) (hj1 : j1 < 2) (x2 : Int32) (x3 : Int32) (x4 : Int32) (M : Mem) (r : Int32) (M' : Mem), rec j1 x2 x3 x4 M = some (r, M') → MetG l G yX1_ordersWith cX1_ordersWith 11 (some .int) fr' lo' [.ref (G.1 55), .ref (G.1 (53 + j1)), .int x2, .int x3, .int x4] M (some (.int r)) M') (hk39 : ∀ (x2 : Int32) (x3 : Int32) (x4 : Int32) (x5 : Int32) (x6 : Int32) (x7 : Int32) (x8 : Int32) (x9 : Int32) (M : Mem) (H : Heap) (locs : List Loc) (ls : Array Slot), k39 x2 x3 x4 x5 x6 x7 x8 x9 M = some (r0, M0) → ST G (AG G) s M H locs → lv_has ls 11 [(0, .ref (G.1 55)), (1, .ref (G.1 (53 + j1))), (2, .int x2), (3, .int x3), (4, .int x4), (5, .int x5), (6, .int x6), (7, .int x7), (8, .int x8), (9, .int x9)] → W p l e (RM fr lo) s m args below meth c H locs 0 0 (MQ below (QV G (some (.int r0)) M0) args s 0 0 (AG G)) (F0 m 39 ls [])) (hj1 : j1 < 2) : ∀ (x2 : Int32) (x3 : Int32) (x4 : Int32) (x5 : Int32) (x6 : Int32) (x7 : Int32) (x8 : Int32) (x9 : Int32) (M : Mem) (H : Heap) (locs : List Loc) (ls : Array Slot), F_X1_ordersWith_126 rec k39 j1 x2 x3 x4 x5 x6 x7 x8 x9 M = some (r0, M0) → ST G (AG G) s M H locs → lv_has ls 11 [(0, .ref (G.1 55)), (1, .ref (G.1 (53 + j1))), (2, .int x2), (3, .int x3), (4, .int x4), (5, .int x5), (6, .int x6), (7, .int x7), (8, .int x8), (9, .int x9)] → W p l e (RM fr lo) s m args below meth c H locs 0 0 (MQ below (QV G (some (.int r0)) M0) args s 0 0 (AG G)) (F0 m 126 ls []) := by
  obtain ⟨⟨hx, hb, hml, hown, hts⟩, hK, hG, hA⟩ := id hC
  intro x2 x3 x4 x5 x6 x7 x8 x9 M H locs ls hF hS hl
  unfold F_X1_ordersWith_126 at hF
  refine lv_iinc (v := x9 + 1) (lv' := [(9, .int (x9 + 1)), (0, .ref (G.1 55)), (1, .ref (G.1 (53 + j1))), (2, .int x2), (3, .int x3), (4, .int x4), (5, .int x5), (6, .int x6), (7, .int x7), (8, .int x8)]) hx hb dX1_ordersWith_126 hl (k := 9) rfl rfl (by decide) rfl (fun ls hl => ?_)
  refine lv_goto (tgt := 39) hx hb dX1_ordersWith_129 (by decide) ?_
  exact hk39 _ _ _ _ _ _ _ _ _ _ _ _ hF hS (lv_sub hl [1, 2, 3, 4, 5, 6, 7, 8, 9, 0] rfl)
set_option maxHeartbeats 4000000 in
set_option maxRecDepth 100000 in
theorem b_X1_ordersWith_108 {k39 : Int32 → Int32 → Int32 → Int32 → Int32 → Int32 → Int32 → Int32 → Mem → Option (Int32 × Mem)} {j1 : Nat} {M0 : Mem} {r0 : Int32} {rec : Nat → Int32 → Int32 → Int32 → Mem → Option (Int32 × Mem)} {fr lo fr' lo' : Nat} (hC : SX p m c s args cX1_ordersWith 11 RX1 G (AG G)) (hr : meth.sig.returnType = (some .int)) (hlk : meth.locks = false) (hn : ∀ i ∈ LsF, i ∈ gL G) (hro : fr' + 1 ≤ fr ∧ 8 + (11 + 11) + lo' ≤ lo) (hrc : 3 ≤ fr ∧ 71 ≤ lo) (hrec : ∀ (j1 : Nat) (hj1 : j1 < 2) (x2 : Int32) (x3 : Int32) (x4 : Int32) (M : Mem) (r : Int32) (M' : Mem), rec j1 x2 x3 x4 M = some (r, M') → MetG l G yX1_ordersWith cX1_ordersWith 11 (some .int) fr' lo' [.ref (G.1 55), .ref (G.1 (53 + j1)), .int x2, .int x3, .int x4] M (some (.int r)) M') (hk39 : ∀ (x2 : Int32) (x3 : Int32) (x4 : Int32) (x5 : Int32) (x6 : Int32) (x7 : Int32) (x8 : Int32) (x9 : Int32) (M : Mem) (H : Heap) (locs : List Loc) (ls : Array Slot), k39 x2 x3 x4 x5 x6 x7 x8 x9 M = some (r0, M0) → ST G (AG G) s M H locs → lv_has ls 11 [(0, .ref (G.1 55)), (1, .ref (G.1 (53 + j1))), (2, .int x2), (3, .int x3), (4, .int x4), (5, .int x5), (6, .int x6), (7, .int x7), (8, .int x8), (9, .int x9)] → W p l e (RM fr lo) s m args below meth c H locs 0 0 (MQ below (QV G (some (.int r0)) M0) args s 0 0 (AG G)) (F0 m 39 ls [])) (hj1 : j1 < 2) : ∀ (x2 : Int32) (x3 : Int32) (x4 : Int32) (x5 : Int32) (x6 : Int32) (x7 : Int32) (x8 : Int32) (x9 : Int32) (M : Mem) (H : Heap) (locs : List Loc) (ls : Array Slot), F_X1_ordersWith_108 rec k39 j1 x2 x3 x4 x5 x6 x7 x8 x9 M = some (r0, M0) → ST G (AG G) s M H locs → lv_has ls 11 [(0, .ref (G.1 55)), (1, .ref (G.1 (53 + j1))), (2, .int x2), (3, .int x3), (4, .int x4), (5, .int x5), (6, .int x6), (7, .int x7), (8, .int x8), (9, .int x9)] → W p l e (RM fr lo) s m args below meth c H locs 0 0 (MQ below (QV G (some (.int r0)) M0) args s 0 0 (AG G)) (F0 m 108 ls []) := by
  obtain ⟨⟨hx, hb, hml, hown, hts⟩, hK, hG, hA⟩ := id hC
  intro x2 x3 x4 x5 x6 x7 x8 x9 M H locs ls hF hS hl
  unfold F_X1_ordersWith_108 at hF
  refine lv_aload_n hx hb dX1_ordersWith_108 rfl (lv_at hl 0 rfl) ?_
  refine lv_iload hx hb dX1_ordersWith_109 (lv_at hl 5 rfl) ?_
  refine px (ci := 1) (k := 1) (n := 3) (ty := .int) (C := RX1) (T := TX1) (N := 4) hC hS (hn _ (by decide)) rfl rfl in_X1 tyX1_ok nmX1 (by decide) rfl rfl (by decide +kernel) rfl rfl (Nat.le_of_ble_eq_true rfl) rfl se_X1_1 lf_X1_9 dX1_ordersWith_111 (fun H locs hS => ?_)
  refine lv_aload_n hx hb dX1_ordersWith_114 rfl (lv_at hl 0 rfl) ?_
  refine lv_iload hx hb dX1_ordersWith_115 (lv_at hl 6 rfl) ?_
  refine px (ci := 1) (k := 2) (n := 4) (ty := .int) (C := RX1) (T := TX1) (N := 4) hC hS (hn _ (by decide)) rfl rfl in_X1 tyX1_ok nmX1 (by decide) rfl rfl (by decide +kernel) rfl rfl (Nat.le_of_ble_eq_true rfl) rfl se_X1_2 lf_X1_15 dX1_ordersWith_117 (fun H locs hS => ?_)
  refine lv_aload_n hx hb dX1_ordersWith_120 rfl (lv_at hl 0 rfl) ?_
  refine lv_iload hx hb dX1_ordersWith_121 (lv_at hl 7 rfl) ?_
  refine px (ci := 1) (k := 3) (n := 5) (ty := .int) (C := RX1) (T := TX1) (N := 4) hC hS (hn _ (by decide)) rfl rfl in_X1 tyX1_ok nmX1 (by decide) rfl rfl (by decide +kernel) rfl rfl (Nat.le_of_ble_eq_true rfl) rfl se_X1_3 lf_X1_18 dX1_ordersWith_123 (fun H locs hS => ?_)
  exact b_X1_ordersWith_126 hC hr hlk hn hro hrc hrec hk39 hj1 _ _ _ _ _ _ _ _ _ _ _ _ hF hS (lv_sub hl [0, 1, 2, 3, 4, 5, 6, 7, 8, 9] rfl)
set_option maxHeartbeats 4000000 in
set_option maxRecDepth 100000 in
theorem b_X1_ordersWith_39 {j1 : Nat} {M0 : Mem} {r0 : Int32} {rec : Nat → Int32 → Int32 → Int32 → Mem → Option (Int32 × Mem)} {fr lo fr' lo' : Nat} (hC : SX p m c s args cX1_ordersWith 11 RX1 G (AG G)) (hr : meth.sig.returnType = (some .int)) (hlk : meth.locks = false) (hn : ∀ i ∈ LsF, i ∈ gL G) (hro : fr' + 1 ≤ fr ∧ 8 + (11 + 11) + lo' ≤ lo) (hrc : 3 ≤ fr ∧ 71 ≤ lo) (hrec : ∀ (j1 : Nat) (hj1 : j1 < 2) (x2 : Int32) (x3 : Int32) (x4 : Int32) (M : Mem) (r : Int32) (M' : Mem), rec j1 x2 x3 x4 M = some (r, M') → MetG l G yX1_ordersWith cX1_ordersWith 11 (some .int) fr' lo' [.ref (G.1 55), .ref (G.1 (53 + j1)), .int x2, .int x3, .int x4] M (some (.int r)) M') (hj1 : j1 < 2) : ∀ (n : Nat) (x2 : Int32) (x3 : Int32) (x4 : Int32) (x5 : Int32) (x6 : Int32) (x7 : Int32) (x8 : Int32) (x9 : Int32) (M : Mem) (H : Heap) (locs : List Loc) (ls : Array Slot), F_X1_ordersWith_39 rec j1 n x2 x3 x4 x5 x6 x7 x8 x9 M = some (r0, M0) → ST G (AG G) s M H locs → lv_has ls 11 [(0, .ref (G.1 55)), (1, .ref (G.1 (53 + j1))), (2, .int x2), (3, .int x3), (4, .int x4), (5, .int x5), (6, .int x6), (7, .int x7), (8, .int x8), (9, .int x9)] → W p l e (RM fr lo) s m args below meth c H locs 0 0 (MQ below (QV G (some (.int r0)) M0) args s 0 0 (AG G)) (F0 m 39 ls []) := by
  obtain ⟨⟨hx, hb, hml, hown, hts⟩, hK, hG, hA⟩ := id hC
  intro n
  induction n with
  | zero =>
    intro x2 x3 x4 x5 x6 x7 x8 x9 M H locs ls hF
    cases hF
  | succ n ih =>
    intro x2 x3 x4 x5 x6 x7 x8 x9 M H locs ls hF hS hl
    unfold F_X1_ordersWith_39 at hF
    refine lv_iload hx hb dX1_ordersWith_39 (lv_at hl 9 rfl) ?_
    refine lv_aload_n hx hb dX1_ordersWith_41 rfl (lv_at hl 0 rfl) ?_
    refine gx (ci := 1) (k := 0) (v := .ref (G.1 52)) (C := RX1) (T := TX1) (N := 4) hC hS (hn _ (by decide)) rfl rfl in_X1 (by decide) rfl rfl lf_X1_21 dX1_ordersWith_42 ?_
    refine gxN (ci := 5) (k := 10) (v := .int (M.1 0)) (C := RX5) (T := TX5) (N := 13) hC hS (hn _ (by decide)) rfl rfl in_X5 (by decide) rfl rfl ln_X1_28 dX1_ordersWith_45 ?_
    refine lv_icmp_ge (tgt := 132) hx hb dX1_ordersWith_48 (by decide) (fun hc => ?_) (fun hc => ?_)
    · rw [if_pos hc] at hF
      refine lv_iload hx hb dX1_ordersWith_132 (lv_at hl 8 rfl) ?_
      exact retI hC hS hr hlk hF dX1_ordersWith_134
    · rw [if_neg hc] at hF
      refine lv_iload_n hx hb dX1_ordersWith_51 rfl (lv_at hl 2 rfl) ?_
      refine lv_iload hx hb dX1_ordersWith_52 (lv_at hl 9 rfl) ?_
      refine lv_ishr hx hb dX1_ordersWith_54 ?_
      refine lv_iconst (v := 1) hx hb dX1_ordersWith_55 (by decide) ?_
      refine lv_iand hx hb dX1_ordersWith_56 ?_
      refine lv_if_eq (tgt := 126) hx hb dX1_ordersWith_57 (by decide) (fun hc => ?_) (fun hc => ?_)
      · rw [if_pos hc] at hF
        exact b_X1_ordersWith_126 hC hr hlk hn hro hrc hrec ih hj1 _ _ _ _ _ _ _ _ _ _ _ _ hF hS (lv_sub hl [0, 1, 2, 3, 4, 5, 6, 7, 8, 9] rfl)
      · rw [if_neg hc] at hF
        refine lv_aload_n hx hb dX1_ordersWith_60 rfl (lv_at hl 0 rfl) ?_
        refine lv_aload_n hx hb dX1_ordersWith_61 rfl (lv_at hl 1 rfl) ?_
        refine lv_iload hx hb dX1_ordersWith_62 (lv_at hl 9 rfl) ?_
        obtain ⟨M64, h64, hF⟩ := bdv_some hF
        refine cV_ (ci := 1) (i := 55) (C := RX1) (T := TX1) (N := 4) (As := [.ref (G.1 (53 + j1)), .int x9]) (v := none) (rest := []) (st1 := []) hC hS (hn _ (by decide)) rfl rfl (c_X1_hearNext l G hn j1 hj1 x9 M _ h64) kV_X1_hearNext lm_X1_33 ⟨Nat.le_trans (Nat.le_of_ble_eq_true rfl) hrc.1, Nat.le_trans (Nat.le_of_ble_eq_true rfl) hrc.2⟩ rfl hl.1 (Nat.le_of_ble_eq_true rfl) dX1_ordersWith_64 ⟨Nat.le_refl _, Nat.le_refl _⟩ rfl (fun H locs hS => ?_)
        refine lv_iload_n hx hb dX1_ordersWith_67 rfl (lv_at hl 2 rfl) ?_
        refine lv_iconst (v := 1) hx hb dX1_ordersWith_68 (by decide) ?_
        refine lv_iload hx hb dX1_ordersWith_69 (lv_at hl 9 rfl) ?_
        refine lv_ishl hx hb dX1_ordersWith_71 ?_
        refine lv_iconst (v := (-1)) hx hb dX1_ordersWith_72 (by decide) ?_
        refine lv_ixor hx hb dX1_ordersWith_73 ?_
        refine lv_iand hx hb dX1_ordersWith_74 ?_
        refine lv_istore (lv' := [(10, .int (x2 &&& (((1 : Int32) <<< (x9 &&& 31)) ^^^ (-1)))), (0, .ref (G.1 55)), (1, .ref (G.1 (53 + j1))), (2, .int x2), (3, .int x3), (4, .int x4), (5, .int x5), (6, .int x6), (7, .int x7), (8, .int x8), (9, .int x9)]) hx hb dX1_ordersWith_75 hl (by decide) rfl (fun ls hl => ?_)
        refine lv_aload_n hx hb dX1_ordersWith_77 rfl (lv_at hl 1 rfl) ?_
        refine gx (ci := 1) (k := 1) (v := .int (M64.1 3)) (C := RX1) (T := TX1) (N := 4) hC hS (hn _ (by decide)) rfl rfl in_X1 (by decide) rfl rfl lf_X1_9 dX1_ordersWith_78 ?_
        refine lv_iload hx hb dX1_ordersWith_81 (lv_at hl 0 rfl) ?_
        refine lv_ior hx hb dX1_ordersWith_83 ?_
        refine lv_iload_n hx hb dX1_ordersWith_84 rfl (lv_at hl 4 rfl) ?_
        refine lv_ishr hx hb dX1_ordersWith_85 ?_
        refine lv_iconst (v := 1) hx hb dX1_ordersWith_86 (by decide) ?_
        refine lv_iand hx hb dX1_ordersWith_87 ?_
        refine lv_if_eq (tgt := 108) hx hb dX1_ordersWith_88 (by decide) (fun hc => ?_) (fun hc => ?_)
        · rw [if_pos hc] at hF
          exact b_X1_ordersWith_108 hC hr hlk hn hro hrc hrec ih hj1 _ _ _ _ _ _ _ _ _ _ _ _ hF hS (lv_sub hl [1, 2, 3, 4, 5, 6, 7, 8, 9, 10] rfl)
        · rw [if_neg hc] at hF
          refine lv_iload hx hb dX1_ordersWith_91 (lv_at hl 9 rfl) ?_
          refine lv_aload_n hx hb dX1_ordersWith_93 rfl (lv_at hl 1 rfl) ?_
          refine lv_aload_n hx hb dX1_ordersWith_94 rfl (lv_at hl 2 rfl) ?_
          refine lv_iload hx hb dX1_ordersWith_95 (lv_at hl 0 rfl) ?_
          refine lv_iload_n hx hb dX1_ordersWith_97 rfl (lv_at hl 4 rfl) ?_
          refine lv_iload hx hb dX1_ordersWith_98 (lv_at hl 5 rfl) ?_
          refine lv_iconst (v := 1) hx hb dX1_ordersWith_100 (by decide) ?_
          refine lv_iadd hx hb dX1_ordersWith_101 ?_
          obtain ⟨r102, M102, h102, hF⟩ := bd_some hF
          refine cV_ (ci := 1) (i := 55) (C := RX1) (T := TX1) (N := 4) (As := [.ref (G.1 (53 + j1)), .int (x2 &&& (((1 : Int32) <<< (x9 &&& 31)) ^^^ (-1))), .int x3, .int (x4 + 1)]) (v := some (.int r102)) (rest := [.int x8]) (st1 := [.int r102, .int x8]) hC hS (hn _ (by decide)) rfl rfl (hrec j1 hj1 (x2 &&& (((1 : Int32) <<< (x9 &&& 31)) ^^^ (-1))) x3 (x4 + 1) (M64) _ _ h102) kV_X1_ordersWith lm_X1_56 hro rfl hl.1 (Nat.le_of_ble_eq_true rfl) dX1_ordersWith_102 ⟨Nat.le_refl _, Nat.le_refl _⟩ rfl (fun H locs hS => ?_)
          refine lv_iadd hx hb dX1_ordersWith_105 ?_
          refine lv_istore (lv' := [(8, .int (x8 + r102)), (10, .int (x2 &&& (((1 : Int32) <<< (x9 &&& 31)) ^^^ (-1)))), (0, .ref (G.1 55)), (1, .ref (G.1 (53 + j1))), (2, .int x2), (3, .int x3), (4, .int x4), (5, .int x5), (6, .int x6), (7, .int x7), (9, .int x9)]) hx hb dX1_ordersWith_106 hl (by decide) rfl (fun ls hl => ?_)
          exact b_X1_ordersWith_108 hC hr hlk hn hro hrc hrec ih hj1 _ _ _ _ _ _ _ _ _ _ _ _ hF hS (lv_sub hl [2, 3, 4, 5, 6, 7, 8, 9, 0, 10] rfl)
set_option maxHeartbeats 4000000 in
set_option maxRecDepth 100000 in
theorem b_X1_ordersWith_0 {j1 : Nat} {M0 : Mem} {r0 : Int32} {rec : Nat → Int32 → Int32 → Int32 → Mem → Option (Int32 × Mem)} {fr lo fr' lo' : Nat} (hC : SX p m c s args cX1_ordersWith 11 RX1 G (AG G)) (hr : meth.sig.returnType = (some .int)) (hlk : meth.locks = false) (hn : ∀ i ∈ LsF, i ∈ gL G) (hro : fr' + 1 ≤ fr ∧ 8 + (11 + 11) + lo' ≤ lo) (hrc : 3 ≤ fr ∧ 71 ≤ lo) (hrec : ∀ (j1 : Nat) (hj1 : j1 < 2) (x2 : Int32) (x3 : Int32) (x4 : Int32) (M : Mem) (r : Int32) (M' : Mem), rec j1 x2 x3 x4 M = some (r, M') → MetG l G yX1_ordersWith cX1_ordersWith 11 (some .int) fr' lo' [.ref (G.1 55), .ref (G.1 (53 + j1)), .int x2, .int x3, .int x4] M (some (.int r)) M') (hj1 : j1 < 2) : ∀ (x2 : Int32) (x3 : Int32) (x4 : Int32) (M : Mem) (H : Heap) (locs : List Loc) (ls : Array Slot), F_X1_ordersWith_0 rec j1 x2 x3 x4 M = some (r0, M0) → ST G (AG G) s M H locs → lv_has ls 11 [(0, .ref (G.1 55)), (1, .ref (G.1 (53 + j1))), (2, .int x2), (3, .int x3), (4, .int x4)] → W p l e (RM fr lo) s m args below meth c H locs 0 0 (MQ below (QV G (some (.int r0)) M0) args s 0 0 (AG G)) (F0 m 0 ls []) := by
  obtain ⟨⟨hx, hb, hml, hown, hts⟩, hK, hG, hA⟩ := id hC
  intro x2 x3 x4 M H locs ls hF hS hl
  unfold F_X1_ordersWith_0 at hF
  refine lv_iload_n hx hb dX1_ordersWith_0 rfl (lv_at hl 2 rfl) ?_
  refine lv_if_ne (tgt := 6) hx hb dX1_ordersWith_1 (by decide) (fun hc => ?_) (fun hc => ?_)
  · rw [if_neg hc] at hF
    refine lv_iload hx hb dX1_ordersWith_6 (lv_at hl 4 rfl) ?_
    refine lv_bipush (v := 7) hx hb dX1_ordersWith_8 (by decide) ?_
    refine lv_icmp_lt (tgt := 15) hx hb dX1_ordersWith_10 (by decide) (fun hc => ?_) (fun hc => ?_)
    · rw [if_pos hc] at hF
      refine lv_aload_n hx hb dX1_ordersWith_15 rfl (lv_at hl 0 rfl) ?_
      refine gx (ci := 1) (k := 1) (v := .int (M.1 3)) (C := RX1) (T := TX1) (N := 4) hC hS (hn _ (by decide)) rfl rfl in_X1 (by decide) rfl rfl lf_X1_9 dX1_ordersWith_16 ?_
      refine lv_istore (lv' := [(5, .int (M.1 3)), (0, .ref (G.1 55)), (1, .ref (G.1 (53 + j1))), (2, .int x2), (3, .int x3), (4, .int x4)]) hx hb dX1_ordersWith_19 hl (by decide) rfl (fun ls hl => ?_)
      refine lv_aload_n hx hb dX1_ordersWith_21 rfl (lv_at hl 1 rfl) ?_
      refine gx (ci := 1) (k := 2) (v := .int (M.1 4)) (C := RX1) (T := TX1) (N := 4) hC hS (hn _ (by decide)) rfl rfl in_X1 (by decide) rfl rfl lf_X1_15 dX1_ordersWith_22 ?_
      refine lv_istore (lv' := [(6, .int (M.1 4)), (5, .int (M.1 3)), (0, .ref (G.1 55)), (1, .ref (G.1 (53 + j1))), (2, .int x2), (3, .int x3), (4, .int x4)]) hx hb dX1_ordersWith_25 hl (by decide) rfl (fun ls hl => ?_)
      refine lv_aload_n hx hb dX1_ordersWith_27 rfl (lv_at hl 2 rfl) ?_
      refine gx (ci := 1) (k := 3) (v := .int (M.1 5)) (C := RX1) (T := TX1) (N := 4) hC hS (hn _ (by decide)) rfl rfl in_X1 (by decide) rfl rfl lf_X1_18 dX1_ordersWith_28 ?_
      refine lv_istore (lv' := [(7, .int (M.1 5)), (6, .int (M.1 4)), (5, .int (M.1 3)), (0, .ref (G.1 55)), (1, .ref (G.1 (53 + j1))), (2, .int x2), (3, .int x3), (4, .int x4)]) hx hb dX1_ordersWith_31 hl (by decide) rfl (fun ls hl => ?_)
      refine lv_iconst (v := 0) hx hb dX1_ordersWith_33 (by decide) ?_
      refine lv_istore (lv' := [(8, .int 0), (7, .int (M.1 5)), (6, .int (M.1 4)), (5, .int (M.1 3)), (0, .ref (G.1 55)), (1, .ref (G.1 (53 + j1))), (2, .int x2), (3, .int x3), (4, .int x4)]) hx hb dX1_ordersWith_34 hl (by decide) rfl (fun ls hl => ?_)
      refine lv_iconst (v := 0) hx hb dX1_ordersWith_36 (by decide) ?_
      refine lv_istore (lv' := [(9, .int 0), (8, .int 0), (7, .int (M.1 5)), (6, .int (M.1 4)), (5, .int (M.1 3)), (0, .ref (G.1 55)), (1, .ref (G.1 (53 + j1))), (2, .int x2), (3, .int x3), (4, .int x4)]) hx hb dX1_ordersWith_37 hl (by decide) rfl (fun ls hl => ?_)
      exact b_X1_ordersWith_39 hC hr hlk hn hro hrc hrec hj1 fu _ _ _ _ _ _ _ _ _ _ _ _ hF hS (lv_sub hl [5, 6, 7, 8, 9, 4, 3, 2, 1, 0] rfl)
    · rw [if_neg hc] at hF
      refine lv_iconst (v := 0) hx hb dX1_ordersWith_13 (by decide) ?_
      exact retI hC hS hr hlk hF dX1_ordersWith_14
  · rw [if_pos hc] at hF
    refine lv_iconst (v := 1) hx hb dX1_ordersWith_4 (by decide) ?_
    exact retI hC hS hr hlk hF dX1_ordersWith_5
set_option maxRecDepth 100000 in
theorem c_X1_ordersWith (l : Launch) (G : GT) (hn : ∀ i ∈ LsF, i ∈ gL G) : ∀ (d : Nat) (j1 : Nat) (hj1 : j1 < 2) (x2 : Int32) (x3 : Int32) (x4 : Int32) (M : Mem) (r0 : Int32) (M0 : Mem), F_X1_ordersWith d j1 x2 x3 x4 M = some (r0, M0) → MetG l G yX1_ordersWith cX1_ordersWith 11 (some .int) (3 + d) (71 + 30 * d) [.ref (G.1 55), .ref (G.1 (53 + j1)), .int x2, .int x3, .int x4] M (some (.int r0)) M0 := by
  intro d
  induction d with
  | zero =>
    intro j1 hj1 x2 x3 x4 M r0 M0 hF
    cases hF
  | succ d ih =>
    intro j1 hj1 x2 x3 x4 M r0 M0 hF
    refine MetG.of (by decide) (Nat.le_of_ble_eq_true rfl) ?_
    intro p e s m args below meth c hC hr hlk hnm ls hS hl
    exact b_X1_ordersWith_0 hC hr hlk hn ⟨Nat.le_of_eq rfl, by omega⟩ ⟨by omega, by omega⟩ ih hj1 _ _ _ _ _ _ _ hF hS hl
end
