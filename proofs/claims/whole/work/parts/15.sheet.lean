section
variable {p : Program} {l : Launch} {e : Env} {s : State} {m : MethodId} {args : Array Value} {below : List Frame} {meth : Method} {c : Code} {G : GT}
def F_X4_renew (j : Nat) (x1 : Int32) (x2 : Int32) (M : Mem) : Option Mem := bdv (F_J7_fill_53178 (18 + j) 0 M) (fun M5 => some (sv (sv (sv M5 (22 + 3 * j) 0) (22 + 3 * j + 1) x1) (22 + 3 * j + 2) x2))
set_option maxHeartbeats 4000000 in
set_option maxRecDepth 100000 in
theorem b_X4_renew {j : Nat} {M0 : Mem} (hC : SX p m c s args cX4_renew 3 RX4 G (AG G)) (hr : meth.sig.returnType = none) (hlk : meth.locks = false) (hn : ∀ i ∈ LsF, i ∈ gL G) (hj : j < 4) : ∀ (x1 : Int32) (x2 : Int32) (M : Mem) (H : Heap) (locs : List Loc) (ls : Array Slot), F_X4_renew j x1 x2 M = some M0 → ST G (AG G) s M H locs → lv_has ls 3 [(0, .ref (G.1 (57 + j))), (1, .int x1), (2, .int x2)] → W p l e (RM 1 23) s m args below meth c H locs 0 0 (MQ below (QV G none M0) args s 0 0 (AG G)) (F0 m 0 ls []) := by
  obtain ⟨⟨hx, hb, hml, hown, hts⟩, hK, hG, hA⟩ := id hC
  intro x1 x2 M H locs ls hF hS hl
  unfold F_X4_renew at hF
  refine lv_aload_n hx hb dX4_renew_0 rfl (lv_at hl 0 rfl) ?_
  refine gx (ci := 4) (k := 0) (v := .ref (G.1 (18 + j))) (C := RX4) (T := TX4) (N := 4) hC hS (hn _ (mS hj)) (ceS hj) rfl in_X4 (by decide) rfl rfl lf_X4_9 dX4_renew_1 ?_
  refine lv_iconst (v := 0) hx hb dX4_renew_4 (by decide) ?_
  obtain ⟨M5, h5, hF⟩ := bdv_some hF
  refine cS_ (As := [.ref (G.1 (18 + j)), .int 0]) (v := none) (rest := []) (st1 := []) hC hS (c_J7_fill_53178 l G (18 + j) ⟨(hn _ (mI hj)), (kI hj).1, (kI hj).2⟩ 0 M _ h5) kS_J7_fill_53178 lm_X4_26 ⟨Nat.le_of_ble_eq_true rfl, Nat.le_of_ble_eq_true rfl⟩ rfl hl.1 (Nat.le_of_ble_eq_true rfl) dX4_renew_5 ⟨Nat.le_refl _, Nat.le_refl _⟩ rfl (fun H locs hS => ?_)
  refine lv_aload_n hx hb dX4_renew_8 rfl (lv_at hl 0 rfl) ?_
  refine lv_iconst (v := 0) hx hb dX4_renew_9 (by decide) ?_
  refine px (ci := 4) (k := 1) (n := 22 + 3 * j) (ty := .boolean) (C := RX4) (T := TX4) (N := 4) hC hS (hn _ (mS hj)) (ceS hj) rfl in_X4 tyX4_ok nmX4 (by decide) rfl rfl (by decide +kernel) rfl rfl (Nat.le_of_ble_eq_true rfl) (owS0 hj) (seS0 hj) lf_X4_15 dX4_renew_10 (fun H locs hS => ?_)
  refine lv_aload_n hx hb dX4_renew_13 rfl (lv_at hl 0 rfl) ?_
  refine lv_iload_n hx hb dX4_renew_14 rfl (lv_at hl 1 rfl) ?_
  refine px (ci := 4) (k := 2) (n := 22 + 3 * j + 1) (ty := .int) (C := RX4) (T := TX4) (N := 4) hC hS (hn _ (mS hj)) (ceS hj) rfl in_X4 tyX4_ok nmX4 (by decide) rfl rfl (by decide +kernel) rfl rfl (Nat.le_of_ble_eq_true rfl) (owS1 hj) (seS1 hj) lf_X4_19 dX4_renew_15 (fun H locs hS => ?_)
  refine lv_aload_n hx hb dX4_renew_18 rfl (lv_at hl 0 rfl) ?_
  refine lv_iload_n hx hb dX4_renew_19 rfl (lv_at hl 2 rfl) ?_
  refine px (ci := 4) (k := 3) (n := 22 + 3 * j + 2) (ty := .int) (C := RX4) (T := TX4) (N := 4) hC hS (hn _ (mS hj)) (ceS hj) rfl in_X4 tyX4_ok nmX4 (by decide) rfl rfl (by decide +kernel) rfl rfl (Nat.le_of_ble_eq_true rfl) (owS2 hj) (seS2 hj) lf_X4_23 dX4_renew_20 (fun H locs hS => ?_)
  exact retV hC hS hr hlk hF dX4_renew_23
set_option maxRecDepth 100000 in
theorem c_X4_renew (l : Launch) (G : GT) (hn : ∀ i ∈ LsF, i ∈ gL G) (j : Nat) (hj : j < 4) (x1 : Int32) (x2 : Int32) (M : Mem) (M0 : Mem) (hF : F_X4_renew j x1 x2 M = some M0) : MetG l G yX4_renew cX4_renew 3 none 1 23 [.ref (G.1 (57 + j)), .int x1, .int x2] M none M0 := by
  refine MetG.of (by decide) (Nat.le_of_ble_eq_true rfl) ?_
  intro p e s m args below meth c hC hr hlk hnm ls hS hl
  exact b_X4_renew hC hr hlk hn hj _ _ _ _ _ _ hF hS hl
def F_X4_set (j : Nat) (x1 : Int32) (x2 : Int32) (M : Mem) : Option Mem := if (M.1 (22 + 3 * j + 1)) = 0 then ckb (ix x1 (al (18 + j))) (some (sa M (18 + j) x1.toNatClampNeg (x2.toInt8.toInt32))) else if (M.1 (22 + 3 * j + 1)) = 1 then ckb (ix x1 (al (18 + j))) (some (sa M (18 + j) x1.toNatClampNeg (x2.toInt16.toInt32))) else ckb (ix x1 (al (18 + j))) (some (sa M (18 + j) x1.toNatClampNeg x2))
set_option maxHeartbeats 4000000 in
set_option maxRecDepth 100000 in
theorem b_X4_set {j : Nat} {M0 : Mem} (hC : SX p m c s args cX4_set 3 RX4 G (AG G)) (hr : meth.sig.returnType = none) (hlk : meth.locks = false) (hn : ∀ i ∈ LsF, i ∈ gL G) (hj : j < 4) : ∀ (x1 : Int32) (x2 : Int32) (M : Mem) (H : Heap) (locs : List Loc) (ls : Array Slot), F_X4_set j x1 x2 M = some M0 → ST G (AG G) s M H locs → lv_has ls 3 [(0, .ref (G.1 (57 + j))), (1, .int x1), (2, .int x2)] → W p l e (RM 0 0) s m args below meth c H locs 0 0 (MQ below (QV G none M0) args s 0 0 (AG G)) (F0 m 0 ls []) := by
  obtain ⟨⟨hx, hb, hml, hown, hts⟩, hK, hG, hA⟩ := id hC
  intro x1 x2 M H locs ls hF hS hl
  unfold F_X4_set at hF
  refine lv_aload_n hx hb dX4_set_0 rfl (lv_at hl 0 rfl) ?_
  refine gx (ci := 4) (k := 0) (v := .ref (G.1 (18 + j))) (C := RX4) (T := TX4) (N := 4) hC hS (hn _ (mS hj)) (ceS hj) rfl in_X4 (by decide) rfl rfl lf_X4_9 dX4_set_1 ?_
  refine lv_iload_n hx hb dX4_set_4 rfl (lv_at hl 1 rfl) ?_
  refine lv_aload_n hx hb dX4_set_5 rfl (lv_at hl 0 rfl) ?_
  refine gx (ci := 4) (k := 2) (v := .int (M.1 (22 + 3 * j + 1))) (C := RX4) (T := TX4) (N := 4) hC hS (hn _ (mS hj)) (ceS hj) rfl in_X4 (by decide) rfl rfl lf_X4_19 dX4_set_6 ?_
  refine lv_if_ne (tgt := 17) hx hb dX4_set_9 (by decide) (fun hc => ?_) (fun hc => ?_)
  · rw [if_neg hc] at hF
    refine lv_aload_n hx hb dX4_set_17 rfl (lv_at hl 0 rfl) ?_
    refine gx (ci := 4) (k := 2) (v := .int (M.1 (22 + 3 * j + 1))) (C := RX4) (T := TX4) (N := 4) hC hS (hn _ (mS hj)) (ceS hj) rfl in_X4 (by decide) rfl rfl lf_X4_19 dX4_set_18 ?_
    refine lv_iconst (v := 1) hx hb dX4_set_21 (by decide) ?_
    refine lv_icmp_ne (tgt := 30) hx hb dX4_set_22 (by decide) (fun hc => ?_) (fun hc => ?_)
    · rw [if_neg hc] at hF
      refine lv_iload_n hx hb dX4_set_30 rfl (lv_at hl 2 rfl) ?_
      obtain ⟨hi, hF⟩ := ckb_some hF
      refine ast hC hS (hn _ (mI hj)) (kI hj).1 (kI hj).2 hi dX4_set_31 (fun H locs hS => ?_)
      exact retV hC hS hr hlk hF dX4_set_32
    · rw [if_pos hc] at hF
      refine lv_iload_n hx hb dX4_set_25 rfl (lv_at hl 2 rfl) ?_
      refine lv_i2s hx hb dX4_set_26 rfl ?_
      refine lv_goto (tgt := 31) hx hb dX4_set_27 (by decide) ?_
      obtain ⟨hi, hF⟩ := ckb_some hF
      refine ast hC hS (hn _ (mI hj)) (kI hj).1 (kI hj).2 hi dX4_set_31 (fun H locs hS => ?_)
      exact retV hC hS hr hlk hF dX4_set_32
  · rw [if_pos hc] at hF
    refine lv_iload_n hx hb dX4_set_12 rfl (lv_at hl 2 rfl) ?_
    refine lv_i2b hx hb dX4_set_13 rfl ?_
    refine lv_goto (tgt := 31) hx hb dX4_set_14 (by decide) ?_
    obtain ⟨hi, hF⟩ := ckb_some hF
    refine ast hC hS (hn _ (mI hj)) (kI hj).1 (kI hj).2 hi dX4_set_31 (fun H locs hS => ?_)
    exact retV hC hS hr hlk hF dX4_set_32
set_option maxRecDepth 100000 in
theorem c_X4_set (l : Launch) (G : GT) (hn : ∀ i ∈ LsF, i ∈ gL G) (j : Nat) (hj : j < 4) (x1 : Int32) (x2 : Int32) (M : Mem) (M0 : Mem) (hF : F_X4_set j x1 x2 M = some M0) : MetG l G yX4_set cX4_set 3 none 0 0 [.ref (G.1 (57 + j)), .int x1, .int x2] M none M0 := by
  refine MetG.of (by decide) (Nat.le_of_ble_eq_true rfl) ?_
  intro p e s m args below meth c hC hr hlk hnm ls hS hl
  exact b_X4_set hC hr hlk hn hj _ _ _ _ _ _ hF hS hl
def F_X4_findingOf_31 (M : Mem) : Option (Int32 × Mem) := some (2, M)
def F_X4_findingOf (j : Nat) (x1 : Int32) (x2 : Int32) (M : Mem) : Option (Int32 × Mem) := if (M.1 (22 + 3 * j)) = 0 then if x1 = (M.1 (22 + 3 * j + 1)) then if x2 < 0 then F_X4_findingOf_31 M else if x2 < (M.1 (22 + 3 * j + 2)) then some (0, M) else F_X4_findingOf_31 M else some (3, M) else some (1, M)
set_option maxHeartbeats 4000000 in
set_option maxRecDepth 100000 in
theorem b_X4_findingOf_31 {M0 : Mem} {r0 : Int32} (hC : SX p m c s args cX4_findingOf 3 RX4 G (AG G)) (hr : meth.sig.returnType = (some .int)) (hlk : meth.locks = false) (hn : ∀ i ∈ LsF, i ∈ gL G) : ∀ (M : Mem) (H : Heap) (locs : List Loc) (ls : Array Slot), F_X4_findingOf_31 M = some (r0, M0) → ST G (AG G) s M H locs → lv_has ls 3 [] → W p l e (RM 0 0) s m args below meth c H locs 0 0 (MQ below (QV G (some (.int r0)) M0) args s 0 0 (AG G)) (F0 m 31 ls []) := by
  obtain ⟨⟨hx, hb, hml, hown, hts⟩, hK, hG, hA⟩ := id hC
  intro M H locs ls hF hS hl
  unfold F_X4_findingOf_31 at hF
  refine lv_iconst (v := 2) hx hb dX4_findingOf_31 (by decide) ?_
  refine lv_goto (tgt := 36) hx hb dX4_findingOf_32 (by decide) ?_
  exact retI hC hS hr hlk hF dX4_findingOf_36
set_option maxHeartbeats 4000000 in
set_option maxRecDepth 100000 in
theorem b_X4_findingOf {j : Nat} {M0 : Mem} {r0 : Int32} (hC : SX p m c s args cX4_findingOf 3 RX4 G (AG G)) (hr : meth.sig.returnType = (some .int)) (hlk : meth.locks = false) (hn : ∀ i ∈ LsF, i ∈ gL G) (hj : j < 4) : ∀ (x1 : Int32) (x2 : Int32) (M : Mem) (H : Heap) (locs : List Loc) (ls : Array Slot), F_X4_findingOf j x1 x2 M = some (r0, M0) → ST G (AG G) s M H locs → lv_has ls 3 [(0, .ref (G.1 (57 + j))), (1, .int x1), (2, .int x2)] → W p l e (RM 0 0) s m args below meth c H locs 0 0 (MQ below (QV G (some (.int r0)) M0) args s 0 0 (AG G)) (F0 m 0 ls []) := by
  obtain ⟨⟨hx, hb, hml, hown, hts⟩, hK, hG, hA⟩ := id hC
  intro x1 x2 M H locs ls hF hS hl
  unfold F_X4_findingOf at hF
  refine lv_aload_n hx hb dX4_findingOf_0 rfl (lv_at hl 0 rfl) ?_
  refine gx (ci := 4) (k := 1) (v := .int (M.1 (22 + 3 * j))) (C := RX4) (T := TX4) (N := 4) hC hS (hn _ (mS hj)) (ceS hj) rfl in_X4 (by decide) rfl rfl lf_X4_15 dX4_findingOf_1 ?_
  refine lv_if_eq (tgt := 9) hx hb dX4_findingOf_4 (by decide) (fun hc => ?_) (fun hc => ?_)
  · rw [if_pos hc] at hF
    refine lv_iload_n hx hb dX4_findingOf_9 rfl (lv_at hl 1 rfl) ?_
    refine lv_aload_n hx hb dX4_findingOf_10 rfl (lv_at hl 0 rfl) ?_
    refine gx (ci := 4) (k := 2) (v := .int (M.1 (22 + 3 * j + 1))) (C := RX4) (T := TX4) (N := 4) hC hS (hn _ (mS hj)) (ceS hj) rfl in_X4 (by decide) rfl rfl lf_X4_19 dX4_findingOf_11 ?_
    refine lv_icmp_eq (tgt := 19) hx hb dX4_findingOf_14 (by decide) (fun hc => ?_) (fun hc => ?_)
    · rw [if_pos hc] at hF
      refine lv_iload_n hx hb dX4_findingOf_19 rfl (lv_at hl 2 rfl) ?_
      refine lv_if_lt (tgt := 31) hx hb dX4_findingOf_20 (by decide) (fun hc => ?_) (fun hc => ?_)
      · rw [if_pos hc] at hF
        exact b_X4_findingOf_31 hC hr hlk hn _ _ _ _ hF hS (lv_sub hl [] rfl)
      · rw [if_neg hc] at hF
        refine lv_iload_n hx hb dX4_findingOf_23 rfl (lv_at hl 2 rfl) ?_
        refine lv_aload_n hx hb dX4_findingOf_24 rfl (lv_at hl 0 rfl) ?_
        refine gx (ci := 4) (k := 3) (v := .int (M.1 (22 + 3 * j + 2))) (C := RX4) (T := TX4) (N := 4) hC hS (hn _ (mS hj)) (ceS hj) rfl in_X4 (by decide) rfl rfl lf_X4_23 dX4_findingOf_25 ?_
        refine lv_icmp_lt (tgt := 35) hx hb dX4_findingOf_28 (by decide) (fun hc => ?_) (fun hc => ?_)
        · rw [if_pos hc] at hF
          refine lv_iconst (v := 0) hx hb dX4_findingOf_35 (by decide) ?_
          exact retI hC hS hr hlk hF dX4_findingOf_36
        · rw [if_neg hc] at hF
          exact b_X4_findingOf_31 hC hr hlk hn _ _ _ _ hF hS (lv_sub hl [] rfl)
    · rw [if_neg hc] at hF
      refine lv_iconst (v := 3) hx hb dX4_findingOf_17 (by decide) ?_
      exact retI hC hS hr hlk hF dX4_findingOf_18
  · rw [if_neg hc] at hF
    refine lv_iconst (v := 1) hx hb dX4_findingOf_7 (by decide) ?_
    exact retI hC hS hr hlk hF dX4_findingOf_8
set_option maxRecDepth 100000 in
theorem c_X4_findingOf (l : Launch) (G : GT) (hn : ∀ i ∈ LsF, i ∈ gL G) (j : Nat) (hj : j < 4) (x1 : Int32) (x2 : Int32) (M : Mem) (r0 : Int32) (M0 : Mem) (hF : F_X4_findingOf j x1 x2 M = some (r0, M0)) : MetG l G yX4_findingOf cX4_findingOf 3 (some .int) 0 0 [.ref (G.1 (57 + j)), .int x1, .int x2] M (some (.int r0)) M0 := by
  refine MetG.of (by decide) (Nat.le_of_ble_eq_true rfl) ?_
  intro p e s m args below meth c hC hr hlk hnm ls hS hl
  exact b_X4_findingOf hC hr hlk hn hj _ _ _ _ _ _ hF hS hl
def F_X4_holds_22 (M : Mem) : Option (Int32 × Mem) := some (0, M)
def F_X4_holds (j : Nat) (x1 : Int32) (x2 : Int32) (M : Mem) : Option (Int32 × Mem) := if x1 < 0 then F_X4_holds_22 M else if x2 < 0 then F_X4_holds_22 M else if ((M.1 (22 + 3 * j + 2)) - x2) < x1 then F_X4_holds_22 M else some (1, M)
set_option maxHeartbeats 4000000 in
set_option maxRecDepth 100000 in
theorem b_X4_holds_22 {M0 : Mem} {r0 : Int32} (hC : SX p m c s args cX4_holds 3 RX4 G (AG G)) (hr : meth.sig.returnType = (some .boolean)) (hlk : meth.locks = false) (hn : ∀ i ∈ LsF, i ∈ gL G) : ∀ (M : Mem) (H : Heap) (locs : List Loc) (ls : Array Slot), F_X4_holds_22 M = some (r0, M0) → ST G (AG G) s M H locs → lv_has ls 3 [] → W p l e (RM 0 0) s m args below meth c H locs 0 0 (MQ below (QV G (some (.int r0)) M0) args s 0 0 (AG G)) (F0 m 22 ls []) := by
  obtain ⟨⟨hx, hb, hml, hown, hts⟩, hK, hG, hA⟩ := id hC
  intro M H locs ls hF hS hl
  unfold F_X4_holds_22 at hF
  refine lv_iconst (v := 0) hx hb dX4_holds_22 (by decide) ?_
  exact retZ hC hS hr hlk rfl hF dX4_holds_23
set_option maxHeartbeats 4000000 in
set_option maxRecDepth 100000 in
theorem b_X4_holds {j : Nat} {M0 : Mem} {r0 : Int32} (hC : SX p m c s args cX4_holds 3 RX4 G (AG G)) (hr : meth.sig.returnType = (some .boolean)) (hlk : meth.locks = false) (hn : ∀ i ∈ LsF, i ∈ gL G) (hj : j < 4) : ∀ (x1 : Int32) (x2 : Int32) (M : Mem) (H : Heap) (locs : List Loc) (ls : Array Slot), F_X4_holds j x1 x2 M = some (r0, M0) → ST G (AG G) s M H locs → lv_has ls 3 [(0, .ref (G.1 (57 + j))), (1, .int x1), (2, .int x2)] → W p l e (RM 0 0) s m args below meth c H locs 0 0 (MQ below (QV G (some (.int r0)) M0) args s 0 0 (AG G)) (F0 m 0 ls []) := by
  obtain ⟨⟨hx, hb, hml, hown, hts⟩, hK, hG, hA⟩ := id hC
  intro x1 x2 M H locs ls hF hS hl
  unfold F_X4_holds at hF
  refine lv_iload_n hx hb dX4_holds_0 rfl (lv_at hl 1 rfl) ?_
  refine lv_if_lt (tgt := 22) hx hb dX4_holds_1 (by decide) (fun hc => ?_) (fun hc => ?_)
  · rw [if_pos hc] at hF
    exact b_X4_holds_22 hC hr hlk hn _ _ _ _ hF hS (lv_sub hl [] rfl)
  · rw [if_neg hc] at hF
    refine lv_iload_n hx hb dX4_holds_4 rfl (lv_at hl 2 rfl) ?_
    refine lv_if_lt (tgt := 22) hx hb dX4_holds_5 (by decide) (fun hc => ?_) (fun hc => ?_)
    · rw [if_pos hc] at hF
      exact b_X4_holds_22 hC hr hlk hn _ _ _ _ hF hS (lv_sub hl [] rfl)
    · rw [if_neg hc] at hF
      refine lv_iload_n hx hb dX4_holds_8 rfl (lv_at hl 1 rfl) ?_
      refine lv_aload_n hx hb dX4_holds_9 rfl (lv_at hl 0 rfl) ?_
      refine gx (ci := 4) (k := 3) (v := .int (M.1 (22 + 3 * j + 2))) (C := RX4) (T := TX4) (N := 4) hC hS (hn _ (mS hj)) (ceS hj) rfl in_X4 (by decide) rfl rfl lf_X4_23 dX4_holds_10 ?_
      refine lv_iload_n hx hb dX4_holds_13 rfl (lv_at hl 2 rfl) ?_
      refine lv_isub hx hb dX4_holds_14 ?_
      refine lv_icmp_gt (tgt := 22) hx hb dX4_holds_15 (by decide) (fun hc => ?_) (fun hc => ?_)
      · rw [if_pos hc] at hF
        exact b_X4_holds_22 hC hr hlk hn _ _ _ _ hF hS (lv_sub hl [] rfl)
      · rw [if_neg hc] at hF
        refine lv_iconst (v := 1) hx hb dX4_holds_18 (by decide) ?_
        refine lv_goto (tgt := 23) hx hb dX4_holds_19 (by decide) ?_
        exact retZ hC hS hr hlk rfl hF dX4_holds_23
set_option maxRecDepth 100000 in
theorem c_X4_holds (l : Launch) (G : GT) (hn : ∀ i ∈ LsF, i ∈ gL G) (j : Nat) (hj : j < 4) (x1 : Int32) (x2 : Int32) (M : Mem) (r0 : Int32) (M0 : Mem) (hF : F_X4_holds j x1 x2 M = some (r0, M0)) : MetG l G yX4_holds cX4_holds 3 (some .boolean) 0 0 [.ref (G.1 (57 + j)), .int x1, .int x2] M (some (.int r0)) M0 := by
  refine MetG.of (by decide) (Nat.le_of_ble_eq_true rfl) ?_
  intro p e s m args below meth c hC hr hlk hnm ls hS hl
  exact b_X4_holds hC hr hlk hn hj _ _ _ _ _ _ hF hS hl
end
