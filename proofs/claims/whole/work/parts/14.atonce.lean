section
variable {p : Program} {l : Launch} {e : Env} {s : State} {m : MethodId} {args : Array Value} {below : List Frame} {meth : Method} {c : Code} {G : GT}
def F_X0_strike (x1 : Int32) (x2 : Int32) (M : Mem) : Option Mem := ckb (ix x1 10) (ckb (ix x1 10) (ckb (ix x2 10) (ckb (ix x2 10) (some (sa (sa M 14 x1.toNatClampNeg ((M.2 14 x1.toNatClampNeg) ||| ((1 : Int32) <<< (x2 &&& 31)))) 15 x2.toNatClampNeg (((sa M 14 x1.toNatClampNeg ((M.2 14 x1.toNatClampNeg) ||| ((1 : Int32) <<< (x2 &&& 31)))).2 15 x2.toNatClampNeg) ||| ((1 : Int32) <<< (x1 &&& 31))))))))
set_option maxHeartbeats 4000000 in
set_option maxRecDepth 100000 in
theorem b_X0_strike {M0 : Mem} (hC : SX p m c s args cX0_strike 3 RX0 G (AG G)) (hr : meth.sig.returnType = none) (hlk : meth.locks = false) (hn : ∀ i ∈ LsF, i ∈ gL G) : ∀ (x1 : Int32) (x2 : Int32) (M : Mem) (H : Heap) (locs : List Loc) (ls : Array Slot), F_X0_strike x1 x2 M = some M0 → ST G (AG G) s M H locs → lv_has ls 3 [(0, .ref (G.1 56)), (1, .int x1), (2, .int x2)] → W p l e (RM 0 0) s m args below meth c H locs 0 0 (MQ below (QV G none M0) args s 0 0 (AG G)) (F0 m 0 ls []) := by
  obtain ⟨⟨hx, hb, hml, hown, hts⟩, hK, hG, hA⟩ := id hC
  intro x1 x2 M H locs ls hF hS hl
  unfold F_X0_strike at hF
  refine lv_aload_n hx hb dX0_strike_0 rfl (lv_at hl 0 rfl) ?_
  refine gx (ci := 0) (k := 1) (v := .ref (G.1 14)) (C := RX0) (T := TX0) (N := 6) hC hS (hn _ (by decide)) rfl rfl in_X0 (by decide) rfl rfl lf_X0_9 dX0_strike_1 ?_
  refine lv_iload_n hx hb dX0_strike_4 rfl (lv_at hl 1 rfl) ?_
  refine lv_dup2_11 hx hb dX0_strike_5 rfl rfl ?_
  obtain ⟨hi, hF⟩ := ckb_some hF
  refine ald hC hS (hn _ (by decide)) (by decide) rfl hi dX0_strike_6 ?_
  refine lv_iconst (v := 1) hx hb dX0_strike_7 (by decide) ?_
  refine lv_iload_n hx hb dX0_strike_8 rfl (lv_at hl 2 rfl) ?_
  refine lv_ishl hx hb dX0_strike_9 ?_
  refine lv_ior hx hb dX0_strike_10 ?_
  obtain ⟨hi, hF⟩ := ckb_some hF
  refine ast hC hS (hn _ (by decide)) (by decide) rfl hi dX0_strike_11 (fun H locs hS => ?_)
  refine lv_aload_n hx hb dX0_strike_12 rfl (lv_at hl 0 rfl) ?_
  refine gx (ci := 0) (k := 2) (v := .ref (G.1 15)) (C := RX0) (T := TX0) (N := 6) hC hS (hn _ (by decide)) rfl rfl in_X0 (by decide) rfl rfl lf_X0_15 dX0_strike_13 ?_
  refine lv_iload_n hx hb dX0_strike_16 rfl (lv_at hl 2 rfl) ?_
  refine lv_dup2_11 hx hb dX0_strike_17 rfl rfl ?_
  obtain ⟨hi, hF⟩ := ckb_some hF
  refine ald hC hS (hn _ (by decide)) (by decide) rfl hi dX0_strike_18 ?_
  refine lv_iconst (v := 1) hx hb dX0_strike_19 (by decide) ?_
  refine lv_iload_n hx hb dX0_strike_20 rfl (lv_at hl 1 rfl) ?_
  refine lv_ishl hx hb dX0_strike_21 ?_
  refine lv_ior hx hb dX0_strike_22 ?_
  obtain ⟨hi, hF⟩ := ckb_some hF
  refine ast hC hS (hn _ (by decide)) (by decide) rfl hi dX0_strike_23 (fun H locs hS => ?_)
  exact retV hC hS hr hlk hF dX0_strike_24
set_option maxRecDepth 100000 in
theorem c_X0_strike (l : Launch) (G : GT) (hn : ∀ i ∈ LsF, i ∈ gL G) (x1 : Int32) (x2 : Int32) (M : Mem) (M0 : Mem) (hF : F_X0_strike x1 x2 M = some M0) : MetG l G yX0_strike cX0_strike 3 none 0 0 [.ref (G.1 56), .int x1, .int x2] M none M0 := by
  refine MetG.of (by decide) (Nat.le_of_ble_eq_true rfl) ?_
  intro p e s m args below meth c hC hr hlk hnm ls hS hl
  exact b_X0_strike hC hr hlk hn _ _ _ _ _ _ hF hS hl
def F_X0_meetFoe_51 (x2 : Int32) (x3 : Int32) (M : Mem) : Option Mem := bdv (F_X0_strike x3 x2 M) (fun M54 => some M54)
def F_X0_meetFoe_41 (x1 : Int32) (x2 : Int32) (x3 : Int32) (x4 : Int32) (M : Mem) : Option Mem := if x1 = 2 then if 0 < x4 then some M else F_X0_meetFoe_51 x2 x3 M else F_X0_meetFoe_51 x2 x3 M
def F_X0_meetFoe_35 (x1 : Int32) (x2 : Int32) (x3 : Int32) (x4 : Int32) (M : Mem) : Option Mem := bdv (F_X0_strike x2 x3 M) (fun M38 => F_X0_meetFoe_41 x1 x2 x3 x4 M38)
def F_X0_meetFoe (x1 : Int32) (x2 : Int32) (x3 : Int32) (M : Mem) : Option Mem := ckb (ix x2 10) (ckb (ix x3 10) (if x1 = 0 then F_X0_meetFoe_35 x1 x2 x3 ((M.2 4 x2.toNatClampNeg) - (M.2 4 x3.toNatClampNeg)) M else if x1 = 2 then if ((M.2 4 x2.toNatClampNeg) - (M.2 4 x3.toNatClampNeg)) < 0 then F_X0_meetFoe_41 x1 x2 x3 ((M.2 4 x2.toNatClampNeg) - (M.2 4 x3.toNatClampNeg)) M else F_X0_meetFoe_35 x1 x2 x3 ((M.2 4 x2.toNatClampNeg) - (M.2 4 x3.toNatClampNeg)) M else F_X0_meetFoe_41 x1 x2 x3 ((M.2 4 x2.toNatClampNeg) - (M.2 4 x3.toNatClampNeg)) M))
set_option maxHeartbeats 4000000 in
set_option maxRecDepth 100000 in
theorem b_X0_meetFoe_51 {M0 : Mem} (hC : SX p m c s args cX0_meetFoe 5 RX0 G (AG G)) (hr : meth.sig.returnType = none) (hlk : meth.locks = false) (hn : ∀ i ∈ LsF, i ∈ gL G) : ∀ (x2 : Int32) (x3 : Int32) (M : Mem) (H : Heap) (locs : List Loc) (ls : Array Slot), F_X0_meetFoe_51 x2 x3 M = some M0 → ST G (AG G) s M H locs → lv_has ls 5 [(0, .ref (G.1 56)), (2, .int x2), (3, .int x3)] → W p l e (RM 1 22) s m args below meth c H locs 0 0 (MQ below (QV G none M0) args s 0 0 (AG G)) (F0 m 51 ls []) := by
  obtain ⟨⟨hx, hb, hml, hown, hts⟩, hK, hG, hA⟩ := id hC
  intro x2 x3 M H locs ls hF hS hl
  unfold F_X0_meetFoe_51 at hF
  refine lv_aload_n hx hb dX0_meetFoe_51 rfl (lv_at hl 0 rfl) ?_
  refine lv_iload_n hx hb dX0_meetFoe_52 rfl (lv_at hl 2 rfl) ?_
  refine lv_iload_n hx hb dX0_meetFoe_53 rfl (lv_at hl 1 rfl) ?_
  obtain ⟨M54, h54, hF⟩ := bdv_some hF
  refine cV_ (ci := 0) (i := 56) (C := RX0) (T := TX0) (N := 6) (As := [.int x3, .int x2]) (v := none) (rest := []) (st1 := []) hC hS (hn _ (by decide)) rfl rfl (c_X0_strike l G hn x3 x2 M _ h54) kV_X0_strike lm_X0_72 ⟨Nat.le_of_ble_eq_true rfl, Nat.le_of_ble_eq_true rfl⟩ rfl hl.1 (Nat.le_of_ble_eq_true rfl) dX0_meetFoe_54 ⟨Nat.le_refl _, Nat.le_refl _⟩ rfl (fun H locs hS => ?_)
  exact retV hC hS hr hlk hF dX0_meetFoe_57
set_option maxHeartbeats 4000000 in
set_option maxRecDepth 100000 in
theorem b_X0_meetFoe_41 {M0 : Mem} (hC : SX p m c s args cX0_meetFoe 5 RX0 G (AG G)) (hr : meth.sig.returnType = none) (hlk : meth.locks = false) (hn : ∀ i ∈ LsF, i ∈ gL G) : ∀ (x1 : Int32) (x2 : Int32) (x3 : Int32) (x4 : Int32) (M : Mem) (H : Heap) (locs : List Loc) (ls : Array Slot), F_X0_meetFoe_41 x1 x2 x3 x4 M = some M0 → ST G (AG G) s M H locs → lv_has ls 5 [(0, .ref (G.1 56)), (1, .int x1), (2, .int x2), (3, .int x3), (4, .int x4)] → W p l e (RM 1 22) s m args below meth c H locs 0 0 (MQ below (QV G none M0) args s 0 0 (AG G)) (F0 m 41 ls []) := by
  obtain ⟨⟨hx, hb, hml, hown, hts⟩, hK, hG, hA⟩ := id hC
  intro x1 x2 x3 x4 M H locs ls hF hS hl
  unfold F_X0_meetFoe_41 at hF
  refine lv_iload_n hx hb dX0_meetFoe_41 rfl (lv_at hl 1 rfl) ?_
  refine lv_iconst (v := 2) hx hb dX0_meetFoe_42 (by decide) ?_
  refine lv_icmp_ne (tgt := 51) hx hb dX0_meetFoe_43 (by decide) (fun hc => ?_) (fun hc => ?_)
  · rw [if_neg hc] at hF
    exact b_X0_meetFoe_51 hC hr hlk hn _ _ _ _ _ _ hF hS (lv_sub hl [0, 2, 3] rfl)
  · rw [if_pos hc] at hF
    refine lv_iload hx hb dX0_meetFoe_46 (lv_at hl 4 rfl) ?_
    refine lv_if_gt (tgt := 57) hx hb dX0_meetFoe_48 (by decide) (fun hc => ?_) (fun hc => ?_)
    · rw [if_pos hc] at hF
      exact retV hC hS hr hlk hF dX0_meetFoe_57
    · rw [if_neg hc] at hF
      exact b_X0_meetFoe_51 hC hr hlk hn _ _ _ _ _ _ hF hS (lv_sub hl [0, 2, 3] rfl)
set_option maxHeartbeats 4000000 in
set_option maxRecDepth 100000 in
theorem b_X0_meetFoe_35 {M0 : Mem} (hC : SX p m c s args cX0_meetFoe 5 RX0 G (AG G)) (hr : meth.sig.returnType = none) (hlk : meth.locks = false) (hn : ∀ i ∈ LsF, i ∈ gL G) : ∀ (x1 : Int32) (x2 : Int32) (x3 : Int32) (x4 : Int32) (M : Mem) (H : Heap) (locs : List Loc) (ls : Array Slot), F_X0_meetFoe_35 x1 x2 x3 x4 M = some M0 → ST G (AG G) s M H locs → lv_has ls 5 [(0, .ref (G.1 56)), (1, .int x1), (2, .int x2), (3, .int x3), (4, .int x4)] → W p l e (RM 1 22) s m args below meth c H locs 0 0 (MQ below (QV G none M0) args s 0 0 (AG G)) (F0 m 35 ls []) := by
  obtain ⟨⟨hx, hb, hml, hown, hts⟩, hK, hG, hA⟩ := id hC
  intro x1 x2 x3 x4 M H locs ls hF hS hl
  unfold F_X0_meetFoe_35 at hF
  refine lv_aload_n hx hb dX0_meetFoe_35 rfl (lv_at hl 0 rfl) ?_
  refine lv_iload_n hx hb dX0_meetFoe_36 rfl (lv_at hl 2 rfl) ?_
  refine lv_iload_n hx hb dX0_meetFoe_37 rfl (lv_at hl 3 rfl) ?_
  obtain ⟨M38, h38, hF⟩ := bdv_some hF
  refine cV_ (ci := 0) (i := 56) (C := RX0) (T := TX0) (N := 6) (As := [.int x2, .int x3]) (v := none) (rest := []) (st1 := []) hC hS (hn _ (by decide)) rfl rfl (c_X0_strike l G hn x2 x3 M _ h38) kV_X0_strike lm_X0_72 ⟨Nat.le_of_ble_eq_true rfl, Nat.le_of_ble_eq_true rfl⟩ rfl hl.1 (Nat.le_of_ble_eq_true rfl) dX0_meetFoe_38 ⟨Nat.le_refl _, Nat.le_refl _⟩ rfl (fun H locs hS => ?_)
  exact b_X0_meetFoe_41 hC hr hlk hn _ _ _ _ _ _ _ _ hF hS (lv_sub hl [0, 1, 2, 3, 4] rfl)
set_option maxHeartbeats 4000000 in
set_option maxRecDepth 100000 in
theorem b_X0_meetFoe {M0 : Mem} (hC : SX p m c s args cX0_meetFoe 5 RX0 G (AG G)) (hr : meth.sig.returnType = none) (hlk : meth.locks = false) (hn : ∀ i ∈ LsF, i ∈ gL G) : ∀ (x1 : Int32) (x2 : Int32) (x3 : Int32) (M : Mem) (H : Heap) (locs : List Loc) (ls : Array Slot), F_X0_meetFoe x1 x2 x3 M = some M0 → ST G (AG G) s M H locs → lv_has ls 5 [(0, .ref (G.1 56)), (1, .int x1), (2, .int x2), (3, .int x3)] → W p l e (RM 1 22) s m args below meth c H locs 0 0 (MQ below (QV G none M0) args s 0 0 (AG G)) (F0 m 0 ls []) := by
  obtain ⟨⟨hx, hb, hml, hown, hts⟩, hK, hG, hA⟩ := id hC
  intro x1 x2 x3 M H locs ls hF hS hl
  unfold F_X0_meetFoe at hF
  refine lv_aload_n hx hb dX0_meetFoe_0 rfl (lv_at hl 0 rfl) ?_
  refine gx (ci := 0) (k := 0) (v := .ref (G.1 52)) (C := RX0) (T := TX0) (N := 6) hC hS (hn _ (by decide)) rfl rfl in_X0 (by decide) rfl rfl lf_X0_29 dX0_meetFoe_1 ?_
  refine gxN (ci := 5) (k := 2) (v := .ref (G.1 4)) (C := RX5) (T := TX5) (N := 13) hC hS (hn _ (by decide)) rfl rfl in_X5 (by decide) rfl rfl ln_X0_44 dX0_meetFoe_4 ?_
  refine lv_iload_n hx hb dX0_meetFoe_7 rfl (lv_at hl 2 rfl) ?_
  obtain ⟨hi, hF⟩ := ckb_some hF
  refine ald hC hS (hn _ (by decide)) (by decide) rfl hi dX0_meetFoe_8 ?_
  refine lv_aload_n hx hb dX0_meetFoe_9 rfl (lv_at hl 0 rfl) ?_
  refine gx (ci := 0) (k := 0) (v := .ref (G.1 52)) (C := RX0) (T := TX0) (N := 6) hC hS (hn _ (by decide)) rfl rfl in_X0 (by decide) rfl rfl lf_X0_29 dX0_meetFoe_10 ?_
  refine gxN (ci := 5) (k := 2) (v := .ref (G.1 4)) (C := RX5) (T := TX5) (N := 13) hC hS (hn _ (by decide)) rfl rfl in_X5 (by decide) rfl rfl ln_X0_44 dX0_meetFoe_13 ?_
  refine lv_iload_n hx hb dX0_meetFoe_16 rfl (lv_at hl 3 rfl) ?_
  obtain ⟨hi, hF⟩ := ckb_some hF
  refine ald hC hS (hn _ (by decide)) (by decide) rfl hi dX0_meetFoe_17 ?_
  refine lv_isub hx hb dX0_meetFoe_18 ?_
  refine lv_istore (lv' := [(4, .int ((M.2 4 x2.toNatClampNeg) - (M.2 4 x3.toNatClampNeg))), (0, .ref (G.1 56)), (1, .int x1), (2, .int x2), (3, .int x3)]) hx hb dX0_meetFoe_19 hl (by decide) rfl (fun ls hl => ?_)
  refine lv_iload_n hx hb dX0_meetFoe_21 rfl (lv_at hl 2 rfl) ?_
  refine lv_if_eq (tgt := 35) hx hb dX0_meetFoe_22 (by decide) (fun hc => ?_) (fun hc => ?_)
  · rw [if_pos hc] at hF
    exact b_X0_meetFoe_35 hC hr hlk hn _ _ _ _ _ _ _ _ hF hS (lv_sub hl [1, 2, 3, 4, 0] rfl)
  · rw [if_neg hc] at hF
    refine lv_iload_n hx hb dX0_meetFoe_25 rfl (lv_at hl 2 rfl) ?_
    refine lv_iconst (v := 2) hx hb dX0_meetFoe_26 (by decide) ?_
    refine lv_icmp_ne (tgt := 41) hx hb dX0_meetFoe_27 (by decide) (fun hc => ?_) (fun hc => ?_)
    · rw [if_neg hc] at hF
      exact b_X0_meetFoe_41 hC hr hlk hn _ _ _ _ _ _ _ _ hF hS (lv_sub hl [1, 2, 3, 4, 0] rfl)
    · rw [if_pos hc] at hF
      refine lv_iload hx hb dX0_meetFoe_30 (lv_at hl 0 rfl) ?_
      refine lv_if_lt (tgt := 41) hx hb dX0_meetFoe_32 (by decide) (fun hc => ?_) (fun hc => ?_)
      · rw [if_pos hc] at hF
        exact b_X0_meetFoe_41 hC hr hlk hn _ _ _ _ _ _ _ _ hF hS (lv_sub hl [1, 2, 3, 4, 0] rfl)
      · rw [if_neg hc] at hF
        exact b_X0_meetFoe_35 hC hr hlk hn _ _ _ _ _ _ _ _ hF hS (lv_sub hl [1, 2, 3, 4, 0] rfl)
set_option maxRecDepth 100000 in
theorem c_X0_meetFoe (l : Launch) (G : GT) (hn : ∀ i ∈ LsF, i ∈ gL G) (x1 : Int32) (x2 : Int32) (x3 : Int32) (M : Mem) (M0 : Mem) (hF : F_X0_meetFoe x1 x2 x3 M = some M0) : MetG l G yX0_meetFoe cX0_meetFoe 5 none 1 22 [.ref (G.1 56), .int x1, .int x2, .int x3] M none M0 := by
  refine MetG.of (by decide) (Nat.le_of_ble_eq_true rfl) ?_
  intro p e s m args below meth c hC hr hlk hnm ls hS hl
  exact b_X0_meetFoe hC hr hlk hn _ _ _ _ _ _ _ hF hS hl
def F_X0_meetEarlier (j1 : Nat) (x2 : Int32) (M : Mem) : Option Mem := ckb (ix x2 10) (ckb (ix x2 10) (if (M.2 2 x2.toNatClampNeg) = 0 then some M else if (((M.1 6) >>> ((M.2 7 x2.toNatClampNeg) &&& 31)) &&& 1) = 0 then some M else ckb (ix x2 10) (if (M.2 2 x2.toNatClampNeg) = 1 then bdv (F_X0_meetFoe (M.1 (10 + 6 * j1 + 3)) x2 (M.2 7 x2.toNatClampNeg) M) (fun M54 => some M54) else ckb (ix x2 10) (if (M.2 9 x2.toNatClampNeg) = 0 then some M else bdv (F_X0_strike x2 (M.2 7 x2.toNatClampNeg) M) (fun M75 => some M75)))))
set_option maxHeartbeats 4000000 in
set_option maxRecDepth 100000 in
theorem b_X0_meetEarlier {j1 : Nat} {M0 : Mem} (hC : SX p m c s args cX0_meetEarlier 4 RX0 G (AG G)) (hr : meth.sig.returnType = none) (hlk : meth.locks = false) (hn : ∀ i ∈ LsF, i ∈ gL G) (hj1 : j1 < 2) : ∀ (x2 : Int32) (M : Mem) (H : Heap) (locs : List Loc) (ls : Array Slot), F_X0_meetEarlier j1 x2 M = some M0 → ST G (AG G) s M H locs → lv_has ls 4 [(0, .ref (G.1 56)), (1, .ref (G.1 (53 + j1))), (2, .int x2)] → W p l e (RM 2 46) s m args below meth c H locs 0 0 (MQ below (QV G none M0) args s 0 0 (AG G)) (F0 m 0 ls []) := by
  obtain ⟨⟨hx, hb, hml, hown, hts⟩, hK, hG, hA⟩ := id hC
  intro x2 M H locs ls hF hS hl
  unfold F_X0_meetEarlier at hF
  refine lv_aload_n hx hb dX0_meetEarlier_0 rfl (lv_at hl 0 rfl) ?_
  refine gx (ci := 0) (k := 0) (v := .ref (G.1 52)) (C := RX0) (T := TX0) (N := 6) hC hS (hn _ (by decide)) rfl rfl in_X0 (by decide) rfl rfl lf_X0_29 dX0_meetEarlier_1 ?_
  refine gxN (ci := 5) (k := 5) (v := .ref (G.1 7)) (C := RX5) (T := TX5) (N := 13) hC hS (hn _ (by decide)) rfl rfl in_X5 (by decide) rfl rfl ln_X0_56 dX0_meetEarlier_4 ?_
  refine lv_iload_n hx hb dX0_meetEarlier_7 rfl (lv_at hl 2 rfl) ?_
  obtain ⟨hi, hF⟩ := ckb_some hF
  refine ald hC hS (hn _ (by decide)) (by decide) rfl hi dX0_meetEarlier_8 ?_
  refine lv_istore_n (lv' := [(3, .int (M.2 7 x2.toNatClampNeg)), (0, .ref (G.1 56)), (1, .ref (G.1 (53 + j1))), (2, .int x2)]) hx hb dX0_meetEarlier_9 rfl hl (by decide) rfl (fun ls hl => ?_)
  refine lv_aload_n hx hb dX0_meetEarlier_10 rfl (lv_at hl 1 rfl) ?_
  refine gx (ci := 0) (k := 0) (v := .ref (G.1 52)) (C := RX0) (T := TX0) (N := 6) hC hS (hn _ (by decide)) rfl rfl in_X0 (by decide) rfl rfl lf_X0_29 dX0_meetEarlier_11 ?_
  refine gxN (ci := 5) (k := 0) (v := .ref (G.1 2)) (C := RX5) (T := TX5) (N := 13) hC hS (hn _ (by decide)) rfl rfl in_X5 (by decide) rfl rfl ln_X0_59 dX0_meetEarlier_14 ?_
  refine lv_iload_n hx hb dX0_meetEarlier_17 rfl (lv_at hl 3 rfl) ?_
  obtain ⟨hi, hF⟩ := ckb_some hF
  refine ald hC hS (hn _ (by decide)) (by decide) rfl hi dX0_meetEarlier_18 ?_
  refine lv_if_eq (tgt := 33) hx hb dX0_meetEarlier_19 (by decide) (fun hc => ?_) (fun hc => ?_)
  · rw [if_pos hc] at hF
    exact retV hC hS hr hlk hF dX0_meetEarlier_33
  · rw [if_neg hc] at hF
    refine lv_aload_n hx hb dX0_meetEarlier_22 rfl (lv_at hl 1 rfl) ?_
    refine gx (ci := 0) (k := 5) (v := .int (M.1 6)) (C := RX0) (T := TX0) (N := 6) hC hS (hn _ (by decide)) rfl rfl in_X0 (by decide) rfl rfl lf_X0_25 dX0_meetEarlier_23 ?_
    refine lv_iload_n hx hb dX0_meetEarlier_26 rfl (lv_at hl 0 rfl) ?_
    refine lv_ishr hx hb dX0_meetEarlier_27 ?_
    refine lv_iconst (v := 1) hx hb dX0_meetEarlier_28 (by decide) ?_
    refine lv_iand hx hb dX0_meetEarlier_29 ?_
    refine lv_if_ne (tgt := 34) hx hb dX0_meetEarlier_30 (by decide) (fun hc => ?_) (fun hc => ?_)
    · rw [if_neg hc] at hF
      refine lv_aload_n hx hb dX0_meetEarlier_34 rfl (lv_at hl 1 rfl) ?_
      refine gx (ci := 0) (k := 0) (v := .ref (G.1 52)) (C := RX0) (T := TX0) (N := 6) hC hS (hn _ (by decide)) rfl rfl in_X0 (by decide) rfl rfl lf_X0_29 dX0_meetEarlier_35 ?_
      refine gxN (ci := 5) (k := 0) (v := .ref (G.1 2)) (C := RX5) (T := TX5) (N := 13) hC hS (hn _ (by decide)) rfl rfl in_X5 (by decide) rfl rfl ln_X0_59 dX0_meetEarlier_38 ?_
      refine lv_iload_n hx hb dX0_meetEarlier_41 rfl (lv_at hl 3 rfl) ?_
      obtain ⟨hi, hF⟩ := ckb_some hF
      refine ald hC hS (hn _ (by decide)) (by decide) rfl hi dX0_meetEarlier_42 ?_
      refine lv_iconst (v := 1) hx hb dX0_meetEarlier_43 (by decide) ?_
      refine lv_icmp_ne (tgt := 60) hx hb dX0_meetEarlier_44 (by decide) (fun hc => ?_) (fun hc => ?_)
      · rw [if_neg hc] at hF
        refine lv_aload_n hx hb dX0_meetEarlier_60 rfl (lv_at hl 1 rfl) ?_
        refine gx (ci := 0) (k := 0) (v := .ref (G.1 52)) (C := RX0) (T := TX0) (N := 6) hC hS (hn _ (by decide)) rfl rfl in_X0 (by decide) rfl rfl lf_X0_29 dX0_meetEarlier_61 ?_
        refine gxN (ci := 5) (k := 7) (v := .ref (G.1 9)) (C := RX5) (T := TX5) (N := 13) hC hS (hn _ (by decide)) rfl rfl in_X5 (by decide) rfl rfl ln_X0_69 dX0_meetEarlier_64 ?_
        refine lv_iload_n hx hb dX0_meetEarlier_67 rfl (lv_at hl 3 rfl) ?_
        obtain ⟨hi, hF⟩ := ckb_some hF
        refine ald hC hS (hn _ (by decide)) (by decide) rfl hi dX0_meetEarlier_68 ?_
        refine lv_if_eq (tgt := 78) hx hb dX0_meetEarlier_69 (by decide) (fun hc => ?_) (fun hc => ?_)
        · rw [if_pos hc] at hF
          exact retV hC hS hr hlk hF dX0_meetEarlier_78
        · rw [if_neg hc] at hF
          refine lv_aload_n hx hb dX0_meetEarlier_72 rfl (lv_at hl 1 rfl) ?_
          refine lv_iload_n hx hb dX0_meetEarlier_73 rfl (lv_at hl 3 rfl) ?_
          refine lv_iload_n hx hb dX0_meetEarlier_74 rfl (lv_at hl 0 rfl) ?_
          obtain ⟨M75, h75, hF⟩ := bdv_some hF
          refine cV_ (ci := 0) (i := 56) (C := RX0) (T := TX0) (N := 6) (As := [.int x2, .int (M.2 7 x2.toNatClampNeg)]) (v := none) (rest := []) (st1 := []) hC hS (hn _ (by decide)) rfl rfl (c_X0_strike l G hn x2 (M.2 7 x2.toNatClampNeg) M _ h75) kV_X0_strike lm_X0_72 ⟨Nat.le_of_ble_eq_true rfl, Nat.le_of_ble_eq_true rfl⟩ rfl hl.1 (Nat.le_of_ble_eq_true rfl) dX0_meetEarlier_75 ⟨Nat.le_refl _, Nat.le_refl _⟩ rfl (fun H locs hS => ?_)
          exact retV hC hS hr hlk hF dX0_meetEarlier_78
      · rw [if_pos hc] at hF
        refine lv_aload_n hx hb dX0_meetEarlier_47 rfl (lv_at hl 1 rfl) ?_
        refine lv_aload_n hx hb dX0_meetEarlier_48 rfl (lv_at hl 2 rfl) ?_
        refine gxN (ci := 2) (k := 4) (v := .int (M.1 (10 + 6 * j1 + 3))) (C := RX2) (T := TX2) (N := 7) hC hS (hn _ (mL hj1)) (ceL hj1) rfl in_X2 (by decide) rfl rfl ln_X0_62 dX0_meetEarlier_49 ?_
        refine lv_iload_n hx hb dX0_meetEarlier_52 rfl (lv_at hl 3 rfl) ?_
        refine lv_iload_n hx hb dX0_meetEarlier_53 rfl (lv_at hl 0 rfl) ?_
        obtain ⟨M54, h54, hF⟩ := bdv_some hF
        refine cV_ (ci := 0) (i := 56) (C := RX0) (T := TX0) (N := 6) (As := [.int (M.1 (10 + 6 * j1 + 3)), .int x2, .int (M.2 7 x2.toNatClampNeg)]) (v := none) (rest := []) (st1 := []) hC hS (hn _ (by decide)) rfl rfl (c_X0_meetFoe l G hn (M.1 (10 + 6 * j1 + 3)) x2 (M.2 7 x2.toNatClampNeg) M _ h54) kV_X0_meetFoe lm_X0_65 ⟨Nat.le_of_ble_eq_true rfl, Nat.le_of_ble_eq_true rfl⟩ rfl hl.1 (Nat.le_of_ble_eq_true rfl) dX0_meetEarlier_54 ⟨Nat.le_refl _, Nat.le_refl _⟩ rfl (fun H locs hS => ?_)
        refine lv_goto (tgt := 78) hx hb dX0_meetEarlier_57 (by decide) ?_
        exact retV hC hS hr hlk hF dX0_meetEarlier_78
    · rw [if_pos hc] at hF
      exact retV hC hS hr hlk hF dX0_meetEarlier_33
set_option maxRecDepth 100000 in
theorem c_X0_meetEarlier (l : Launch) (G : GT) (hn : ∀ i ∈ LsF, i ∈ gL G) (j1 : Nat) (hj1 : j1 < 2) (x2 : Int32) (M : Mem) (M0 : Mem) (hF : F_X0_meetEarlier j1 x2 M = some M0) : MetG l G yX0_meetEarlier cX0_meetEarlier 4 none 2 46 [.ref (G.1 56), .ref (G.1 (53 + j1)), .int x2] M none M0 := by
  refine MetG.of (by decide) (Nat.le_of_ble_eq_true rfl) ?_
  intro p e s m args below meth c hC hr hlk hnm ls hS hl
  exact b_X0_meetEarlier hC hr hlk hn hj1 _ _ _ _ _ hF hS hl
def F_X0_takeUp_76 (k23 : Int32 → Int32 → Mem → Option Mem) (j1 : Nat) (x2 : Int32) (x3 : Int32) (M : Mem) : Option Mem := k23 x2 (x3 + 1) M
def F_X0_takeUp_23 (j1 : Nat) : Nat → Int32 → Int32 → Mem → Option Mem
  | 0, _, _, _ => none
  | n + 1, x2, x3, M => if (M.1 0) ≤ x3 then some M else if ((x2 >>> (x3 &&& 31)) &&& 1) = 0 then F_X0_takeUp_76 (F_X0_takeUp_23 j1 n) j1 x2 x3 M else ckb (ix x3 10) (if (M.2 4 x3.toNatClampNeg) < (M.1 (10 + 6 * j1 + 2)) then F_X0_takeUp_76 (F_X0_takeUp_23 j1 n) j1 x2 x3 M else bdv (F_X0_meetEarlier j1 x3 (sv M 6 ((M.1 6) ||| ((1 : Int32) <<< (x3 &&& 31))))) (fun M73 => F_X0_takeUp_76 (F_X0_takeUp_23 j1 n) j1 x2 x3 M73))
def F_X0_takeUp (j1 : Nat) (x2 : Int32) (M : Mem) : Option Mem := bdv (F_J7_fill_53178 14 0 (sv M 6 0)) (fun M10 => bdv (F_J7_fill_53178 15 0 M10) (fun M18 => F_X0_takeUp_23 j1 fu x2 0 M18))
set_option maxHeartbeats 4000000 in
set_option maxRecDepth 100000 in
theorem b_X0_takeUp_76 {k23 : Int32 → Int32 → Mem → Option Mem} {j1 : Nat} {M0 : Mem} (hC : SX p m c s args cX0_takeUp 4 RX0 G (AG G)) (hr : meth.sig.returnType = none) (hlk : meth.locks = false) (hn : ∀ i ∈ LsF, i ∈ gL G) (hk23 : ∀ (x2 : Int32) (x3 : Int32) (M : Mem) (H : Heap) (locs : List Loc) (ls : Array Slot), k23 x2 x3 M = some M0 → ST G (AG G) s M H locs → lv_has ls 4 [(0, .ref (G.1 56)), (1, .ref (G.1 (53 + j1))), (2, .int x2), (3, .int x3)] → W p l e (RM 3 69) s m args below meth c H locs 0 0 (MQ below (QV G none M0) args s 0 0 (AG G)) (F0 m 23 ls [])) (hj1 : j1 < 2) : ∀ (x2 : Int32) (x3 : Int32) (M : Mem) (H : Heap) (locs : List Loc) (ls : Array Slot), F_X0_takeUp_76 k23 j1 x2 x3 M = some M0 → ST G (AG G) s M H locs → lv_has ls 4 [(0, .ref (G.1 56)), (1, .ref (G.1 (53 + j1))), (2, .int x2), (3, .int x3)] → W p l e (RM 3 69) s m args below meth c H locs 0 0 (MQ below (QV G none M0) args s 0 0 (AG G)) (F0 m 76 ls []) := by
  obtain ⟨⟨hx, hb, hml, hown, hts⟩, hK, hG, hA⟩ := id hC
  intro x2 x3 M H locs ls hF hS hl
  unfold F_X0_takeUp_76 at hF
  refine lv_iinc (v := x3 + 1) (lv' := [(3, .int (x3 + 1)), (0, .ref (G.1 56)), (1, .ref (G.1 (53 + j1))), (2, .int x2)]) hx hb dX0_takeUp_76 hl (k := 3) rfl rfl (by decide) rfl (fun ls hl => ?_)
  refine lv_goto (tgt := 23) hx hb dX0_takeUp_79 (by decide) ?_
  exact hk23 _ _ _ _ _ _ hF hS (lv_sub hl [1, 2, 3, 0] rfl)
set_option maxHeartbeats 4000000 in
set_option maxRecDepth 100000 in
theorem b_X0_takeUp_23 {j1 : Nat} {M0 : Mem} (hC : SX p m c s args cX0_takeUp 4 RX0 G (AG G)) (hr : meth.sig.returnType = none) (hlk : meth.locks = false) (hn : ∀ i ∈ LsF, i ∈ gL G) (hj1 : j1 < 2) : ∀ (n : Nat) (x2 : Int32) (x3 : Int32) (M : Mem) (H : Heap) (locs : List Loc) (ls : Array Slot), F_X0_takeUp_23 j1 n x2 x3 M = some M0 → ST G (AG G) s M H locs → lv_has ls 4 [(0, .ref (G.1 56)), (1, .ref (G.1 (53 + j1))), (2, .int x2), (3, .int x3)] → W p l e (RM 3 69) s m args below meth c H locs 0 0 (MQ below (QV G none M0) args s 0 0 (AG G)) (F0 m 23 ls []) := by
  obtain ⟨⟨hx, hb, hml, hown, hts⟩, hK, hG, hA⟩ := id hC
  intro n
  induction n with
  | zero =>
    intro x2 x3 M H locs ls hF
    cases hF
  | succ n ih =>
    intro x2 x3 M H locs ls hF hS hl
    unfold F_X0_takeUp_23 at hF
    refine lv_iload_n hx hb dX0_takeUp_23 rfl (lv_at hl 3 rfl) ?_
    refine lv_aload_n hx hb dX0_takeUp_24 rfl (lv_at hl 0 rfl) ?_
    refine gx (ci := 0) (k := 0) (v := .ref (G.1 52)) (C := RX0) (T := TX0) (N := 6) hC hS (hn _ (by decide)) rfl rfl in_X0 (by decide) rfl rfl lf_X0_29 dX0_takeUp_25 ?_
    refine gxN (ci := 5) (k := 10) (v := .int (M.1 0)) (C := RX5) (T := TX5) (N := 13) hC hS (hn _ (by decide)) rfl rfl in_X5 (by decide) rfl rfl ln_X0_39 dX0_takeUp_28 ?_
    refine lv_icmp_ge (tgt := 82) hx hb dX0_takeUp_31 (by decide) (fun hc => ?_) (fun hc => ?_)
    · rw [if_pos hc] at hF
      exact retV hC hS hr hlk hF dX0_takeUp_82
    · rw [if_neg hc] at hF
      refine lv_iload_n hx hb dX0_takeUp_34 rfl (lv_at hl 2 rfl) ?_
      refine lv_iload_n hx hb dX0_takeUp_35 rfl (lv_at hl 3 rfl) ?_
      refine lv_ishr hx hb dX0_takeUp_36 ?_
      refine lv_iconst (v := 1) hx hb dX0_takeUp_37 (by decide) ?_
      refine lv_iand hx hb dX0_takeUp_38 ?_
      refine lv_if_eq (tgt := 76) hx hb dX0_takeUp_39 (by decide) (fun hc => ?_) (fun hc => ?_)
      · rw [if_pos hc] at hF
        exact b_X0_takeUp_76 hC hr hlk hn ih hj1 _ _ _ _ _ _ hF hS (lv_sub hl [0, 1, 2, 3] rfl)
      · rw [if_neg hc] at hF
        refine lv_aload_n hx hb dX0_takeUp_42 rfl (lv_at hl 0 rfl) ?_
        refine gx (ci := 0) (k := 0) (v := .ref (G.1 52)) (C := RX0) (T := TX0) (N := 6) hC hS (hn _ (by decide)) rfl rfl in_X0 (by decide) rfl rfl lf_X0_29 dX0_takeUp_43 ?_
        refine gxN (ci := 5) (k := 2) (v := .ref (G.1 4)) (C := RX5) (T := TX5) (N := 13) hC hS (hn _ (by decide)) rfl rfl in_X5 (by decide) rfl rfl ln_X0_44 dX0_takeUp_46 ?_
        refine lv_iload_n hx hb dX0_takeUp_49 rfl (lv_at hl 3 rfl) ?_
        obtain ⟨hi, hF⟩ := ckb_some hF
        refine ald hC hS (hn _ (by decide)) (by decide) rfl hi dX0_takeUp_50 ?_
        refine lv_aload_n hx hb dX0_takeUp_51 rfl (lv_at hl 1 rfl) ?_
        refine gxN (ci := 2) (k := 3) (v := .int (M.1 (10 + 6 * j1 + 2))) (C := RX2) (T := TX2) (N := 7) hC hS (hn _ (mL hj1)) (ceL hj1) rfl in_X2 (by decide) rfl rfl ln_X0_47 dX0_takeUp_52 ?_
        refine lv_icmp_lt (tgt := 76) hx hb dX0_takeUp_55 (by decide) (fun hc => ?_) (fun hc => ?_)
        · rw [if_pos hc] at hF
          exact b_X0_takeUp_76 hC hr hlk hn ih hj1 _ _ _ _ _ _ hF hS (lv_sub hl [0, 1, 2, 3] rfl)
        · rw [if_neg hc] at hF
          refine lv_aload_n hx hb dX0_takeUp_58 rfl (lv_at hl 0 rfl) ?_
          refine lv_dup hx hb dX0_takeUp_59 rfl ?_
          refine gx (ci := 0) (k := 5) (v := .int (M.1 6)) (C := RX0) (T := TX0) (N := 6) hC hS (hn _ (by decide)) rfl rfl in_X0 (by decide) rfl rfl lf_X0_25 dX0_takeUp_60 ?_
          refine lv_iconst (v := 1) hx hb dX0_takeUp_63 (by decide) ?_
          refine lv_iload_n hx hb dX0_takeUp_64 rfl (lv_at hl 3 rfl) ?_
          refine lv_ishl hx hb dX0_takeUp_65 ?_
          refine lv_ior hx hb dX0_takeUp_66 ?_
          refine px (ci := 0) (k := 5) (n := 6) (ty := .int) (C := RX0) (T := TX0) (N := 6) hC hS (hn _ (by decide)) rfl rfl in_X0 tyX0_ok nmX0 (by decide) rfl rfl (by decide +kernel) rfl rfl (Nat.le_of_ble_eq_true rfl) rfl se_X0_5 lf_X0_25 dX0_takeUp_67 (fun H locs hS => ?_)
          refine lv_aload_n hx hb dX0_takeUp_70 rfl (lv_at hl 0 rfl) ?_
          refine lv_aload_n hx hb dX0_takeUp_71 rfl (lv_at hl 1 rfl) ?_
          refine lv_iload_n hx hb dX0_takeUp_72 rfl (lv_at hl 3 rfl) ?_
          obtain ⟨M73, h73, hF⟩ := bdv_some hF
          refine cV_ (ci := 0) (i := 56) (C := RX0) (T := TX0) (N := 6) (As := [.ref (G.1 (53 + j1)), .int x3]) (v := none) (rest := []) (st1 := []) hC hS (hn _ (by decide)) rfl rfl (c_X0_meetEarlier l G hn j1 hj1 x3 (sv M 6 ((M.1 6) ||| ((1 : Int32) <<< (x3 &&& 31)))) _ h73) kV_X0_meetEarlier lm_X0_52 ⟨Nat.le_of_ble_eq_true rfl, Nat.le_of_ble_eq_true rfl⟩ rfl hl.1 (Nat.le_of_ble_eq_true rfl) dX0_takeUp_73 ⟨Nat.le_refl _, Nat.le_refl _⟩ rfl (fun H locs hS => ?_)
          exact b_X0_takeUp_76 hC hr hlk hn ih hj1 _ _ _ _ _ _ hF hS (lv_sub hl [0, 1, 2, 3] rfl)
set_option maxHeartbeats 4000000 in
set_option maxRecDepth 100000 in
theorem b_X0_takeUp {j1 : Nat} {M0 : Mem} (hC : SX p m c s args cX0_takeUp 4 RX0 G (AG G)) (hr : meth.sig.returnType = none) (hlk : meth.locks = false) (hn : ∀ i ∈ LsF, i ∈ gL G) (hj1 : j1 < 2) : ∀ (x2 : Int32) (M : Mem) (H : Heap) (locs : List Loc) (ls : Array Slot), F_X0_takeUp j1 x2 M = some M0 → ST G (AG G) s M H locs → lv_has ls 4 [(0, .ref (G.1 56)), (1, .ref (G.1 (53 + j1))), (2, .int x2)] → W p l e (RM 3 69) s m args below meth c H locs 0 0 (MQ below (QV G none M0) args s 0 0 (AG G)) (F0 m 0 ls []) := by
  obtain ⟨⟨hx, hb, hml, hown, hts⟩, hK, hG, hA⟩ := id hC
  intro x2 M H locs ls hF hS hl
  unfold F_X0_takeUp at hF
  refine lv_aload_n hx hb dX0_takeUp_0 rfl (lv_at hl 0 rfl) ?_
  refine lv_iconst (v := 0) hx hb dX0_takeUp_1 (by decide) ?_
  refine px (ci := 0) (k := 5) (n := 6) (ty := .int) (C := RX0) (T := TX0) (N := 6) hC hS (hn _ (by decide)) rfl rfl in_X0 tyX0_ok nmX0 (by decide) rfl rfl (by decide +kernel) rfl rfl (Nat.le_of_ble_eq_true rfl) rfl se_X0_5 lf_X0_25 dX0_takeUp_2 (fun H locs hS => ?_)
  refine lv_aload_n hx hb dX0_takeUp_5 rfl (lv_at hl 0 rfl) ?_
  refine gx (ci := 0) (k := 1) (v := .ref (G.1 14)) (C := RX0) (T := TX0) (N := 6) hC hS (hn _ (by decide)) rfl rfl in_X0 (by decide) rfl rfl lf_X0_9 dX0_takeUp_6 ?_
  refine lv_iconst (v := 0) hx hb dX0_takeUp_9 (by decide) ?_
  obtain ⟨M10, h10, hF⟩ := bdv_some hF
  refine cS_ (As := [.ref (G.1 14), .int 0]) (v := none) (rest := []) (st1 := []) hC hS (c_J7_fill_53178 l G 14 ⟨(hn _ (by decide)), (by decide), rfl⟩ 0 (sv M 6 0) _ h10) kS_J7_fill_53178 lm_X0_33 ⟨Nat.le_of_ble_eq_true rfl, Nat.le_of_ble_eq_true rfl⟩ rfl hl.1 (Nat.le_of_ble_eq_true rfl) dX0_takeUp_10 ⟨Nat.le_refl _, Nat.le_refl _⟩ rfl (fun H locs hS => ?_)
  refine lv_aload_n hx hb dX0_takeUp_13 rfl (lv_at hl 0 rfl) ?_
  refine gx (ci := 0) (k := 2) (v := .ref (G.1 15)) (C := RX0) (T := TX0) (N := 6) hC hS (hn _ (by decide)) rfl rfl in_X0 (by decide) rfl rfl lf_X0_15 dX0_takeUp_14 ?_
  refine lv_iconst (v := 0) hx hb dX0_takeUp_17 (by decide) ?_
  obtain ⟨M18, h18, hF⟩ := bdv_some hF
  refine cS_ (As := [.ref (G.1 15), .int 0]) (v := none) (rest := []) (st1 := []) hC hS (c_J7_fill_53178 l G 15 ⟨(hn _ (by decide)), (by decide), rfl⟩ 0 M10 _ h18) kS_J7_fill_53178 lm_X0_33 ⟨Nat.le_of_ble_eq_true rfl, Nat.le_of_ble_eq_true rfl⟩ rfl hl.1 (Nat.le_of_ble_eq_true rfl) dX0_takeUp_18 ⟨Nat.le_refl _, Nat.le_refl _⟩ rfl (fun H locs hS => ?_)
  refine lv_iconst (v := 0) hx hb dX0_takeUp_21 (by decide) ?_
  refine lv_istore_n (lv' := [(3, .int 0), (0, .ref (G.1 56)), (1, .ref (G.1 (53 + j1))), (2, .int x2)]) hx hb dX0_takeUp_22 rfl hl (by decide) rfl (fun ls hl => ?_)
  exact b_X0_takeUp_23 hC hr hlk hn hj1 fu _ _ _ _ _ _ hF hS (lv_sub hl [1, 2, 3, 0] rfl)
set_option maxRecDepth 100000 in
theorem c_X0_takeUp (l : Launch) (G : GT) (hn : ∀ i ∈ LsF, i ∈ gL G) (j1 : Nat) (hj1 : j1 < 2) (x2 : Int32) (M : Mem) (M0 : Mem) (hF : F_X0_takeUp j1 x2 M = some M0) : MetG l G yX0_takeUp cX0_takeUp 4 none 3 69 [.ref (G.1 56), .ref (G.1 (53 + j1)), .int x2] M none M0 := by
  refine MetG.of (by decide) (Nat.le_of_ble_eq_true rfl) ?_
  intro p e s m args below meth c hC hr hlk hnm ls hS hl
  exact b_X0_takeUp hC hr hlk hn hj1 _ _ _ _ _ hF hS hl
def F_X0_unionOver_33 (k5 : Int32 → Int32 → Int32 → Mem → Option (Int32 × Mem)) (a1 : Nat) (x2 : Int32) (x3 : Int32) (x4 : Int32) (M : Mem) : Option (Int32 × Mem) := k5 x2 x3 (x4 + 1) M
def F_X0_unionOver_5 (a1 : Nat) : Nat → Int32 → Int32 → Int32 → Mem → Option (Int32 × Mem)
  | 0, _, _, _, _ => none
  | n + 1, x2, x3, x4, M => if (M.1 0) ≤ x4 then some (x3, M) else if ((x2 >>> (x4 &&& 31)) &&& 1) = 0 then F_X0_unionOver_33 (F_X0_unionOver_5 a1 n) a1 x2 x3 x4 M else ckb (ix x4 (al a1)) (F_X0_unionOver_33 (F_X0_unionOver_5 a1 n) a1 x2 (x3 ||| (M.2 a1 x4.toNatClampNeg)) x4 M)
def F_X0_unionOver (a1 : Nat) (x2 : Int32) (M : Mem) : Option (Int32 × Mem) := F_X0_unionOver_5 a1 fu x2 0 0 M
set_option maxHeartbeats 4000000 in
set_option maxRecDepth 100000 in
theorem b_X0_unionOver_33 {k5 : Int32 → Int32 → Int32 → Mem → Option (Int32 × Mem)} {a1 : Nat} {M0 : Mem} {r0 : Int32} (hC : SX p m c s args cX0_unionOver 5 RX0 G (AG G)) (hr : meth.sig.returnType = (some .int)) (hlk : meth.locks = false) (hn : ∀ i ∈ LsF, i ∈ gL G) (hk5 : ∀ (x2 : Int32) (x3 : Int32) (x4 : Int32) (M : Mem) (H : Heap) (locs : List Loc) (ls : Array Slot), k5 x2 x3 x4 M = some (r0, M0) → ST G (AG G) s M H locs → lv_has ls 5 [(0, .ref (G.1 56)), (1, .ref (G.1 a1)), (2, .int x2), (3, .int x3), (4, .int x4)] → W p l e (RM 0 0) s m args below meth c H locs 0 0 (MQ below (QV G (some (.int r0)) M0) args s 0 0 (AG G)) (F0 m 5 ls [])) (ha1 : a1 ∈ gL G ∧ a1 < 50 ∧ ak a1 = 0) : ∀ (x2 : Int32) (x3 : Int32) (x4 : Int32) (M : Mem) (H : Heap) (locs : List Loc) (ls : Array Slot), F_X0_unionOver_33 k5 a1 x2 x3 x4 M = some (r0, M0) → ST G (AG G) s M H locs → lv_has ls 5 [(0, .ref (G.1 56)), (1, .ref (G.1 a1)), (2, .int x2), (3, .int x3), (4, .int x4)] → W p l e (RM 0 0) s m args below meth c H locs 0 0 (MQ below (QV G (some (.int r0)) M0) args s 0 0 (AG G)) (F0 m 33 ls []) := by
  obtain ⟨⟨hx, hb, hml, hown, hts⟩, hK, hG, hA⟩ := id hC
  intro x2 x3 x4 M H locs ls hF hS hl
  unfold F_X0_unionOver_33 at hF
  refine lv_iinc (v := x4 + 1) (lv' := [(4, .int (x4 + 1)), (0, .ref (G.1 56)), (1, .ref (G.1 a1)), (2, .int x2), (3, .int x3)]) hx hb dX0_unionOver_33 hl (k := 4) rfl rfl (by decide) rfl (fun ls hl => ?_)
  refine lv_goto (tgt := 5) hx hb dX0_unionOver_36 (by decide) ?_
  exact hk5 _ _ _ _ _ _ _ hF hS (lv_sub hl [1, 2, 3, 4, 0] rfl)
set_option maxHeartbeats 4000000 in
set_option maxRecDepth 100000 in
theorem b_X0_unionOver_5 {a1 : Nat} {M0 : Mem} {r0 : Int32} (hC : SX p m c s args cX0_unionOver 5 RX0 G (AG G)) (hr : meth.sig.returnType = (some .int)) (hlk : meth.locks = false) (hn : ∀ i ∈ LsF, i ∈ gL G) (ha1 : a1 ∈ gL G ∧ a1 < 50 ∧ ak a1 = 0) : ∀ (n : Nat) (x2 : Int32) (x3 : Int32) (x4 : Int32) (M : Mem) (H : Heap) (locs : List Loc) (ls : Array Slot), F_X0_unionOver_5 a1 n x2 x3 x4 M = some (r0, M0) → ST G (AG G) s M H locs → lv_has ls 5 [(0, .ref (G.1 56)), (1, .ref (G.1 a1)), (2, .int x2), (3, .int x3), (4, .int x4)] → W p l e (RM 0 0) s m args below meth c H locs 0 0 (MQ below (QV G (some (.int r0)) M0) args s 0 0 (AG G)) (F0 m 5 ls []) := by
  obtain ⟨⟨hx, hb, hml, hown, hts⟩, hK, hG, hA⟩ := id hC
  intro n
  induction n with
  | zero =>
    intro x2 x3 x4 M H locs ls hF
    cases hF
  | succ n ih =>
    intro x2 x3 x4 M H locs ls hF hS hl
    unfold F_X0_unionOver_5 at hF
    refine lv_iload hx hb dX0_unionOver_5 (lv_at hl 4 rfl) ?_
    refine lv_aload_n hx hb dX0_unionOver_7 rfl (lv_at hl 0 rfl) ?_
    refine gx (ci := 0) (k := 0) (v := .ref (G.1 52)) (C := RX0) (T := TX0) (N := 6) hC hS (hn _ (by decide)) rfl rfl in_X0 (by decide) rfl rfl lf_X0_29 dX0_unionOver_8 ?_
    refine gxN (ci := 5) (k := 10) (v := .int (M.1 0)) (C := RX5) (T := TX5) (N := 13) hC hS (hn _ (by decide)) rfl rfl in_X5 (by decide) rfl rfl ln_X0_39 dX0_unionOver_11 ?_
    refine lv_icmp_ge (tgt := 39) hx hb dX0_unionOver_14 (by decide) (fun hc => ?_) (fun hc => ?_)
    · rw [if_pos hc] at hF
      refine lv_iload_n hx hb dX0_unionOver_39 rfl (lv_at hl 3 rfl) ?_
      exact retI hC hS hr hlk hF dX0_unionOver_40
    · rw [if_neg hc] at hF
      refine lv_iload_n hx hb dX0_unionOver_17 rfl (lv_at hl 2 rfl) ?_
      refine lv_iload hx hb dX0_unionOver_18 (lv_at hl 4 rfl) ?_
      refine lv_ishr hx hb dX0_unionOver_20 ?_
      refine lv_iconst (v := 1) hx hb dX0_unionOver_21 (by decide) ?_
      refine lv_iand hx hb dX0_unionOver_22 ?_
      refine lv_if_eq (tgt := 33) hx hb dX0_unionOver_23 (by decide) (fun hc => ?_) (fun hc => ?_)
      · rw [if_pos hc] at hF
        exact b_X0_unionOver_33 hC hr hlk hn ih ha1 _ _ _ _ _ _ _ hF hS (lv_sub hl [0, 1, 2, 3, 4] rfl)
      · rw [if_neg hc] at hF
        refine lv_iload_n hx hb dX0_unionOver_26 rfl (lv_at hl 3 rfl) ?_
        refine lv_aload_n hx hb dX0_unionOver_27 rfl (lv_at hl 1 rfl) ?_
        refine lv_iload hx hb dX0_unionOver_28 (lv_at hl 4 rfl) ?_
        obtain ⟨hi, hF⟩ := ckb_some hF
        refine ald hC hS ha1.1 ha1.2.1 ha1.2.2 hi dX0_unionOver_30 ?_
        refine lv_ior hx hb dX0_unionOver_31 ?_
        refine lv_istore_n (lv' := [(3, .int (x3 ||| (M.2 a1 x4.toNatClampNeg))), (0, .ref (G.1 56)), (1, .ref (G.1 a1)), (2, .int x2), (4, .int x4)]) hx hb dX0_unionOver_32 rfl hl (by decide) rfl (fun ls hl => ?_)
        exact b_X0_unionOver_33 hC hr hlk hn ih ha1 _ _ _ _ _ _ _ hF hS (lv_sub hl [1, 2, 3, 0, 4] rfl)
set_option maxHeartbeats 4000000 in
set_option maxRecDepth 100000 in
theorem b_X0_unionOver {a1 : Nat} {M0 : Mem} {r0 : Int32} (hC : SX p m c s args cX0_unionOver 5 RX0 G (AG G)) (hr : meth.sig.returnType = (some .int)) (hlk : meth.locks = false) (hn : ∀ i ∈ LsF, i ∈ gL G) (ha1 : a1 ∈ gL G ∧ a1 < 50 ∧ ak a1 = 0) : ∀ (x2 : Int32) (M : Mem) (H : Heap) (locs : List Loc) (ls : Array Slot), F_X0_unionOver a1 x2 M = some (r0, M0) → ST G (AG G) s M H locs → lv_has ls 5 [(0, .ref (G.1 56)), (1, .ref (G.1 a1)), (2, .int x2)] → W p l e (RM 0 0) s m args below meth c H locs 0 0 (MQ below (QV G (some (.int r0)) M0) args s 0 0 (AG G)) (F0 m 0 ls []) := by
  obtain ⟨⟨hx, hb, hml, hown, hts⟩, hK, hG, hA⟩ := id hC
  intro x2 M H locs ls hF hS hl
  unfold F_X0_unionOver at hF
  refine lv_iconst (v := 0) hx hb dX0_unionOver_0 (by decide) ?_
  refine lv_istore_n (lv' := [(3, .int 0), (0, .ref (G.1 56)), (1, .ref (G.1 a1)), (2, .int x2)]) hx hb dX0_unionOver_1 rfl hl (by decide) rfl (fun ls hl => ?_)
  refine lv_iconst (v := 0) hx hb dX0_unionOver_2 (by decide) ?_
  refine lv_istore (lv' := [(4, .int 0), (3, .int 0), (0, .ref (G.1 56)), (1, .ref (G.1 a1)), (2, .int x2)]) hx hb dX0_unionOver_3 hl (by decide) rfl (fun ls hl => ?_)
  exact b_X0_unionOver_5 hC hr hlk hn ha1 fu _ _ _ _ _ _ _ hF hS (lv_sub hl [2, 3, 4, 1, 0] rfl)
set_option maxRecDepth 100000 in
theorem c_X0_unionOver (l : Launch) (G : GT) (hn : ∀ i ∈ LsF, i ∈ gL G) (a1 : Nat) (ha1 : a1 ∈ gL G ∧ a1 < 50 ∧ ak a1 = 0) (x2 : Int32) (M : Mem) (r0 : Int32) (M0 : Mem) (hF : F_X0_unionOver a1 x2 M = some (r0, M0)) : MetG l G yX0_unionOver cX0_unionOver 5 (some .int) 0 0 [.ref (G.1 56), .ref (G.1 a1), .int x2] M (some (.int r0)) M0 := by
  refine MetG.of (by decide) (Nat.le_of_ble_eq_true rfl) ?_
  intro p e s m args below meth c hC hr hlk hnm ls hS hl
  exact b_X0_unionOver hC hr hlk hn ha1 _ _ _ _ _ hF hS hl
def F_X0_struckBy (x1 : Int32) (M : Mem) : Option (Int32 × Mem) := bd (F_X0_unionOver 14 x1 M) (fun r6 M6 => some (r6, M6))
set_option maxHeartbeats 4000000 in
set_option maxRecDepth 100000 in
theorem b_X0_struckBy {M0 : Mem} {r0 : Int32} (hC : SX p m c s args cX0_struckBy 2 RX0 G (AG G)) (hr : meth.sig.returnType = (some .int)) (hlk : meth.locks = false) (hn : ∀ i ∈ LsF, i ∈ gL G) : ∀ (x1 : Int32) (M : Mem) (H : Heap) (locs : List Loc) (ls : Array Slot), F_X0_struckBy x1 M = some (r0, M0) → ST G (AG G) s M H locs → lv_has ls 2 [(0, .ref (G.1 56)), (1, .int x1)] → W p l e (RM 1 24) s m args below meth c H locs 0 0 (MQ below (QV G (some (.int r0)) M0) args s 0 0 (AG G)) (F0 m 0 ls []) := by
  obtain ⟨⟨hx, hb, hml, hown, hts⟩, hK, hG, hA⟩ := id hC
  intro x1 M H locs ls hF hS hl
  unfold F_X0_struckBy at hF
  refine lv_aload_n hx hb dX0_struckBy_0 rfl (lv_at hl 0 rfl) ?_
  refine lv_aload_n hx hb dX0_struckBy_1 rfl (lv_at hl 0 rfl) ?_
  refine gx (ci := 0) (k := 1) (v := .ref (G.1 14)) (C := RX0) (T := TX0) (N := 6) hC hS (hn _ (by decide)) rfl rfl in_X0 (by decide) rfl rfl lf_X0_9 dX0_struckBy_2 ?_
  refine lv_iload_n hx hb dX0_struckBy_5 rfl (lv_at hl 1 rfl) ?_
  obtain ⟨r6, M6, h6, hF⟩ := bd_some hF
  refine cV_ (ci := 0) (i := 56) (C := RX0) (T := TX0) (N := 6) (As := [.ref (G.1 14), .int x1]) (v := some (.int r6)) (rest := []) (st1 := [.int r6]) hC hS (hn _ (by decide)) rfl rfl (c_X0_unionOver l G hn 14 ⟨(hn _ (by decide)), (by decide), rfl⟩ x1 M _ _ h6) kV_X0_unionOver lm_X0_76 ⟨Nat.le_of_ble_eq_true rfl, Nat.le_of_ble_eq_true rfl⟩ rfl hl.1 (Nat.le_of_ble_eq_true rfl) dX0_struckBy_6 ⟨Nat.le_refl _, Nat.le_refl _⟩ rfl (fun H locs hS => ?_)
  exact retI hC hS hr hlk hF dX0_struckBy_9
set_option maxRecDepth 100000 in
theorem c_X0_struckBy (l : Launch) (G : GT) (hn : ∀ i ∈ LsF, i ∈ gL G) (x1 : Int32) (M : Mem) (r0 : Int32) (M0 : Mem) (hF : F_X0_struckBy x1 M = some (r0, M0)) : MetG l G yX0_struckBy cX0_struckBy 2 (some .int) 1 24 [.ref (G.1 56), .int x1] M (some (.int r0)) M0 := by
  refine MetG.of (by decide) (Nat.le_of_ble_eq_true rfl) ?_
  intro p e s m args below meth c hC hr hlk hnm ls hS hl
  exact b_X0_struckBy hC hr hlk hn _ _ _ _ _ hF hS hl
def F_X0_answersForItself_45 (M : Mem) : Option (Int32 × Mem) := some (0, M)
def F_X0_answersForItself (x1 : Int32) (M : Mem) : Option (Int32 × Mem) := if (x1 &&& ((M.1 6) ^^^ (-1))) = 0 then bd (F_X0_struckBy x1 M) (fun r15 M15 => if (r15 &&& x1) = 0 then bd (F_X0_unionOver 15 x1 M15) (fun r31 M31 => if (r31 &&& (r15 ^^^ (-1))) = 0 then some (1, M31) else F_X0_answersForItself_45 M31) else F_X0_answersForItself_45 M15) else some (0, M)
set_option maxHeartbeats 4000000 in
set_option maxRecDepth 100000 in
theorem b_X0_answersForItself_45 {M0 : Mem} {r0 : Int32} (hC : SX p m c s args cX0_answersForItself 3 RX0 G (AG G)) (hr : meth.sig.returnType = (some .boolean)) (hlk : meth.locks = false) (hn : ∀ i ∈ LsF, i ∈ gL G) : ∀ (M : Mem) (H : Heap) (locs : List Loc) (ls : Array Slot), F_X0_answersForItself_45 M = some (r0, M0) → ST G (AG G) s M H locs → lv_has ls 3 [] → W p l e (RM 2 45) s m args below meth c H locs 0 0 (MQ below (QV G (some (.int r0)) M0) args s 0 0 (AG G)) (F0 m 45 ls []) := by
  obtain ⟨⟨hx, hb, hml, hown, hts⟩, hK, hG, hA⟩ := id hC
  intro M H locs ls hF hS hl
  unfold F_X0_answersForItself_45 at hF
  refine lv_iconst (v := 0) hx hb dX0_answersForItself_45 (by decide) ?_
  exact retZ hC hS hr hlk rfl hF dX0_answersForItself_46
set_option maxHeartbeats 4000000 in
set_option maxRecDepth 100000 in
theorem b_X0_answersForItself {M0 : Mem} {r0 : Int32} (hC : SX p m c s args cX0_answersForItself 3 RX0 G (AG G)) (hr : meth.sig.returnType = (some .boolean)) (hlk : meth.locks = false) (hn : ∀ i ∈ LsF, i ∈ gL G) : ∀ (x1 : Int32) (M : Mem) (H : Heap) (locs : List Loc) (ls : Array Slot), F_X0_answersForItself x1 M = some (r0, M0) → ST G (AG G) s M H locs → lv_has ls 3 [(0, .ref (G.1 56)), (1, .int x1)] → W p l e (RM 2 45) s m args below meth c H locs 0 0 (MQ below (QV G (some (.int r0)) M0) args s 0 0 (AG G)) (F0 m 0 ls []) := by
  obtain ⟨⟨hx, hb, hml, hown, hts⟩, hK, hG, hA⟩ := id hC
  intro x1 M H locs ls hF hS hl
  unfold F_X0_answersForItself at hF
  refine lv_iload_n hx hb dX0_answersForItself_0 rfl (lv_at hl 1 rfl) ?_
  refine lv_aload_n hx hb dX0_answersForItself_1 rfl (lv_at hl 0 rfl) ?_
  refine gx (ci := 0) (k := 5) (v := .int (M.1 6)) (C := RX0) (T := TX0) (N := 6) hC hS (hn _ (by decide)) rfl rfl in_X0 (by decide) rfl rfl lf_X0_25 dX0_answersForItself_2 ?_
  refine lv_iconst (v := (-1)) hx hb dX0_answersForItself_5 (by decide) ?_
  refine lv_ixor hx hb dX0_answersForItself_6 ?_
  refine lv_iand hx hb dX0_answersForItself_7 ?_
  refine lv_if_eq (tgt := 13) hx hb dX0_answersForItself_8 (by decide) (fun hc => ?_) (fun hc => ?_)
  · rw [if_pos hc] at hF
    refine lv_aload_n hx hb dX0_answersForItself_13 rfl (lv_at hl 0 rfl) ?_
    refine lv_iload_n hx hb dX0_answersForItself_14 rfl (lv_at hl 1 rfl) ?_
    obtain ⟨r15, M15, h15, hF⟩ := bd_some hF
    refine cV_ (ci := 0) (i := 56) (C := RX0) (T := TX0) (N := 6) (As := [.int x1]) (v := some (.int r15)) (rest := []) (st1 := [.int r15]) hC hS (hn _ (by decide)) rfl rfl (c_X0_struckBy l G hn x1 M _ _ h15) kV_X0_struckBy lm_X0_80 ⟨Nat.le_of_ble_eq_true rfl, Nat.le_of_ble_eq_true rfl⟩ rfl hl.1 (Nat.le_of_ble_eq_true rfl) dX0_answersForItself_15 ⟨Nat.le_refl _, Nat.le_refl _⟩ rfl (fun H locs hS => ?_)
    refine lv_istore_n (lv' := [(2, .int r15), (0, .ref (G.1 56)), (1, .int x1)]) hx hb dX0_answersForItself_18 rfl hl (by decide) rfl (fun ls hl => ?_)
    refine lv_iload_n hx hb dX0_answersForItself_19 rfl (lv_at hl 0 rfl) ?_
    refine lv_iload_n hx hb dX0_answersForItself_20 rfl (lv_at hl 2 rfl) ?_
    refine lv_iand hx hb dX0_answersForItself_21 ?_
    refine lv_if_ne (tgt := 45) hx hb dX0_answersForItself_22 (by decide) (fun hc => ?_) (fun hc => ?_)
    · rw [if_neg hc] at hF
      exact b_X0_answersForItself_45 hC hr hlk hn _ _ _ _ hF hS (lv_sub hl [] rfl)
    · rw [if_pos hc] at hF
      refine lv_aload_n hx hb dX0_answersForItself_25 rfl (lv_at hl 1 rfl) ?_
      refine lv_aload_n hx hb dX0_answersForItself_26 rfl (lv_at hl 1 rfl) ?_
      refine gx (ci := 0) (k := 2) (v := .ref (G.1 15)) (C := RX0) (T := TX0) (N := 6) hC hS (hn _ (by decide)) rfl rfl in_X0 (by decide) rfl rfl lf_X0_15 dX0_answersForItself_27 ?_
      refine lv_iload_n hx hb dX0_answersForItself_30 rfl (lv_at hl 2 rfl) ?_
      obtain ⟨r31, M31, h31, hF⟩ := bd_some hF
      refine cV_ (ci := 0) (i := 56) (C := RX0) (T := TX0) (N := 6) (As := [.ref (G.1 15), .int x1]) (v := some (.int r31)) (rest := []) (st1 := [.int r31]) hC hS (hn _ (by decide)) rfl rfl (c_X0_unionOver l G hn 15 ⟨(hn _ (by decide)), (by decide), rfl⟩ x1 M15 _ _ h31) kV_X0_unionOver lm_X0_76 ⟨Nat.le_of_ble_eq_true rfl, Nat.le_of_ble_eq_true rfl⟩ rfl hl.1 (Nat.le_of_ble_eq_true rfl) dX0_answersForItself_31 ⟨Nat.le_refl _, Nat.le_refl _⟩ rfl (fun H locs hS => ?_)
      refine lv_iload_n hx hb dX0_answersForItself_34 rfl (lv_at hl 0 rfl) ?_
      refine lv_iconst (v := (-1)) hx hb dX0_answersForItself_35 (by decide) ?_
      refine lv_ixor hx hb dX0_answersForItself_36 ?_
      refine lv_iand hx hb dX0_answersForItself_37 ?_
      refine lv_if_ne (tgt := 45) hx hb dX0_answersForItself_38 (by decide) (fun hc => ?_) (fun hc => ?_)
      · rw [if_neg hc] at hF
        exact b_X0_answersForItself_45 hC hr hlk hn _ _ _ _ hF hS (lv_sub hl [] rfl)
      · rw [if_pos hc] at hF
        refine lv_iconst (v := 1) hx hb dX0_answersForItself_41 (by decide) ?_
        refine lv_goto (tgt := 46) hx hb dX0_answersForItself_42 (by decide) ?_
        exact retZ hC hS hr hlk rfl hF dX0_answersForItself_46
  · rw [if_neg hc] at hF
    refine lv_iconst (v := 0) hx hb dX0_answersForItself_11 (by decide) ?_
    exact retZ hC hS hr hlk rfl hF dX0_answersForItself_12
set_option maxRecDepth 100000 in
theorem c_X0_answersForItself (l : Launch) (G : GT) (hn : ∀ i ∈ LsF, i ∈ gL G) (x1 : Int32) (M : Mem) (r0 : Int32) (M0 : Mem) (hF : F_X0_answersForItself x1 M = some (r0, M0)) : MetG l G yX0_answersForItself cX0_answersForItself 3 (some .boolean) 2 45 [.ref (G.1 56), .int x1] M (some (.int r0)) M0 := by
  refine MetG.of (by decide) (Nat.le_of_ble_eq_true rfl) ?_
  intro p e s m args below meth c hC hr hlk hnm ls hS hl
  exact b_X0_answersForItself hC hr hlk hn _ _ _ _ _ hF hS hl
def F_X0_unstruckBut_45 (k4 : Int32 → Int32 → Int32 → Mem → Option (Int32 × Mem)) (x1 : Int32) (x2 : Int32) (x3 : Int32) (M : Mem) : Option (Int32 × Mem) := k4 x1 x2 (x3 + 1) M
def F_X0_unstruckBut_4 : Nat → Int32 → Int32 → Int32 → Mem → Option (Int32 × Mem)
  | 0, _, _, _, _ => none
  | n + 1, x1, x2, x3, M => if (M.1 0) ≤ x3 then some (x2, M) else if (((M.1 6) >>> (x3 &&& 31)) &&& 1) = 0 then F_X0_unstruckBut_45 (F_X0_unstruckBut_4 n) x1 x2 x3 M else ckb (ix x3 10) (if ((M.2 15 x3.toNatClampNeg) &&& (x1 ^^^ (-1))) = 0 then F_X0_unstruckBut_45 (F_X0_unstruckBut_4 n) x1 (x2 ||| ((1 : Int32) <<< (x3 &&& 31))) x3 M else F_X0_unstruckBut_45 (F_X0_unstruckBut_4 n) x1 x2 x3 M)
def F_X0_unstruckBut (x1 : Int32) (M : Mem) : Option (Int32 × Mem) := F_X0_unstruckBut_4 fu x1 0 0 M
set_option maxHeartbeats 4000000 in
set_option maxRecDepth 100000 in
theorem b_X0_unstruckBut_45 {k4 : Int32 → Int32 → Int32 → Mem → Option (Int32 × Mem)} {M0 : Mem} {r0 : Int32} (hC : SX p m c s args cX0_unstruckBut 4 RX0 G (AG G)) (hr : meth.sig.returnType = (some .int)) (hlk : meth.locks = false) (hn : ∀ i ∈ LsF, i ∈ gL G) (hk4 : ∀ (x1 : Int32) (x2 : Int32) (x3 : Int32) (M : Mem) (H : Heap) (locs : List Loc) (ls : Array Slot), k4 x1 x2 x3 M = some (r0, M0) → ST G (AG G) s M H locs → lv_has ls 4 [(0, .ref (G.1 56)), (1, .int x1), (2, .int x2), (3, .int x3)] → W p l e (RM 0 0) s m args below meth c H locs 0 0 (MQ below (QV G (some (.int r0)) M0) args s 0 0 (AG G)) (F0 m 4 ls [])) : ∀ (x1 : Int32) (x2 : Int32) (x3 : Int32) (M : Mem) (H : Heap) (locs : List Loc) (ls : Array Slot), F_X0_unstruckBut_45 k4 x1 x2 x3 M = some (r0, M0) → ST G (AG G) s M H locs → lv_has ls 4 [(0, .ref (G.1 56)), (1, .int x1), (2, .int x2), (3, .int x3)] → W p l e (RM 0 0) s m args below meth c H locs 0 0 (MQ below (QV G (some (.int r0)) M0) args s 0 0 (AG G)) (F0 m 45 ls []) := by
  obtain ⟨⟨hx, hb, hml, hown, hts⟩, hK, hG, hA⟩ := id hC
  intro x1 x2 x3 M H locs ls hF hS hl
  unfold F_X0_unstruckBut_45 at hF
  refine lv_iinc (v := x3 + 1) (lv' := [(3, .int (x3 + 1)), (0, .ref (G.1 56)), (1, .int x1), (2, .int x2)]) hx hb dX0_unstruckBut_45 hl (k := 3) rfl rfl (by decide) rfl (fun ls hl => ?_)
  refine lv_goto (tgt := 4) hx hb dX0_unstruckBut_48 (by decide) ?_
  exact hk4 _ _ _ _ _ _ _ hF hS (lv_sub hl [1, 2, 3, 0] rfl)
set_option maxHeartbeats 4000000 in
set_option maxRecDepth 100000 in
theorem b_X0_unstruckBut_4 {M0 : Mem} {r0 : Int32} (hC : SX p m c s args cX0_unstruckBut 4 RX0 G (AG G)) (hr : meth.sig.returnType = (some .int)) (hlk : meth.locks = false) (hn : ∀ i ∈ LsF, i ∈ gL G) : ∀ (n : Nat) (x1 : Int32) (x2 : Int32) (x3 : Int32) (M : Mem) (H : Heap) (locs : List Loc) (ls : Array Slot), F_X0_unstruckBut_4 n x1 x2 x3 M = some (r0, M0) → ST G (AG G) s M H locs → lv_has ls 4 [(0, .ref (G.1 56)), (1, .int x1), (2, .int x2), (3, .int x3)] → W p l e (RM 0 0) s m args below meth c H locs 0 0 (MQ below (QV G (some (.int r0)) M0) args s 0 0 (AG G)) (F0 m 4 ls []) := by
  obtain ⟨⟨hx, hb, hml, hown, hts⟩, hK, hG, hA⟩ := id hC
  intro n
  induction n with
  | zero =>
    intro x1 x2 x3 M H locs ls hF
    cases hF
  | succ n ih =>
    intro x1 x2 x3 M H locs ls hF hS hl
    unfold F_X0_unstruckBut_4 at hF
    refine lv_iload_n hx hb dX0_unstruckBut_4 rfl (lv_at hl 3 rfl) ?_
    refine lv_aload_n hx hb dX0_unstruckBut_5 rfl (lv_at hl 0 rfl) ?_
    refine gx (ci := 0) (k := 0) (v := .ref (G.1 52)) (C := RX0) (T := TX0) (N := 6) hC hS (hn _ (by decide)) rfl rfl in_X0 (by decide) rfl rfl lf_X0_29 dX0_unstruckBut_6 ?_
    refine gxN (ci := 5) (k := 10) (v := .int (M.1 0)) (C := RX5) (T := TX5) (N := 13) hC hS (hn _ (by decide)) rfl rfl in_X5 (by decide) rfl rfl ln_X0_39 dX0_unstruckBut_9 ?_
    refine lv_icmp_ge (tgt := 51) hx hb dX0_unstruckBut_12 (by decide) (fun hc => ?_) (fun hc => ?_)
    · rw [if_pos hc] at hF
      refine lv_iload_n hx hb dX0_unstruckBut_51 rfl (lv_at hl 2 rfl) ?_
      exact retI hC hS hr hlk hF dX0_unstruckBut_52
    · rw [if_neg hc] at hF
      refine lv_aload_n hx hb dX0_unstruckBut_15 rfl (lv_at hl 0 rfl) ?_
      refine gx (ci := 0) (k := 5) (v := .int (M.1 6)) (C := RX0) (T := TX0) (N := 6) hC hS (hn _ (by decide)) rfl rfl in_X0 (by decide) rfl rfl lf_X0_25 dX0_unstruckBut_16 ?_
      refine lv_iload_n hx hb dX0_unstruckBut_19 rfl (lv_at hl 3 rfl) ?_
      refine lv_ishr hx hb dX0_unstruckBut_20 ?_
      refine lv_iconst (v := 1) hx hb dX0_unstruckBut_21 (by decide) ?_
      refine lv_iand hx hb dX0_unstruckBut_22 ?_
      refine lv_if_eq (tgt := 45) hx hb dX0_unstruckBut_23 (by decide) (fun hc => ?_) (fun hc => ?_)
      · rw [if_pos hc] at hF
        exact b_X0_unstruckBut_45 hC hr hlk hn ih _ _ _ _ _ _ _ hF hS (lv_sub hl [0, 1, 2, 3] rfl)
      · rw [if_neg hc] at hF
        refine lv_aload_n hx hb dX0_unstruckBut_26 rfl (lv_at hl 0 rfl) ?_
        refine gx (ci := 0) (k := 2) (v := .ref (G.1 15)) (C := RX0) (T := TX0) (N := 6) hC hS (hn _ (by decide)) rfl rfl in_X0 (by decide) rfl rfl lf_X0_15 dX0_unstruckBut_27 ?_
        refine lv_iload_n hx hb dX0_unstruckBut_30 rfl (lv_at hl 3 rfl) ?_
        obtain ⟨hi, hF⟩ := ckb_some hF
        refine ald hC hS (hn _ (by decide)) (by decide) rfl hi dX0_unstruckBut_31 ?_
        refine lv_iload_n hx hb dX0_unstruckBut_32 rfl (lv_at hl 1 rfl) ?_
        refine lv_iconst (v := (-1)) hx hb dX0_unstruckBut_33 (by decide) ?_
        refine lv_ixor hx hb dX0_unstruckBut_34 ?_
        refine lv_iand hx hb dX0_unstruckBut_35 ?_
        refine lv_if_ne (tgt := 45) hx hb dX0_unstruckBut_36 (by decide) (fun hc => ?_) (fun hc => ?_)
        · rw [if_neg hc] at hF
          exact b_X0_unstruckBut_45 hC hr hlk hn ih _ _ _ _ _ _ _ hF hS (lv_sub hl [0, 1, 2, 3] rfl)
        · rw [if_pos hc] at hF
          refine lv_iload_n hx hb dX0_unstruckBut_39 rfl (lv_at hl 2 rfl) ?_
          refine lv_iconst (v := 1) hx hb dX0_unstruckBut_40 (by decide) ?_
          refine lv_iload_n hx hb dX0_unstruckBut_41 rfl (lv_at hl 3 rfl) ?_
          refine lv_ishl hx hb dX0_unstruckBut_42 ?_
          refine lv_ior hx hb dX0_unstruckBut_43 ?_
          refine lv_istore_n (lv' := [(2, .int (x2 ||| ((1 : Int32) <<< (x3 &&& 31)))), (0, .ref (G.1 56)), (1, .int x1), (3, .int x3)]) hx hb dX0_unstruckBut_44 rfl hl (by decide) rfl (fun ls hl => ?_)
          exact b_X0_unstruckBut_45 hC hr hlk hn ih _ _ _ _ _ _ _ hF hS (lv_sub hl [1, 2, 0, 3] rfl)
set_option maxHeartbeats 4000000 in
set_option maxRecDepth 100000 in
theorem b_X0_unstruckBut {M0 : Mem} {r0 : Int32} (hC : SX p m c s args cX0_unstruckBut 4 RX0 G (AG G)) (hr : meth.sig.returnType = (some .int)) (hlk : meth.locks = false) (hn : ∀ i ∈ LsF, i ∈ gL G) : ∀ (x1 : Int32) (M : Mem) (H : Heap) (locs : List Loc) (ls : Array Slot), F_X0_unstruckBut x1 M = some (r0, M0) → ST G (AG G) s M H locs → lv_has ls 4 [(0, .ref (G.1 56)), (1, .int x1)] → W p l e (RM 0 0) s m args below meth c H locs 0 0 (MQ below (QV G (some (.int r0)) M0) args s 0 0 (AG G)) (F0 m 0 ls []) := by
  obtain ⟨⟨hx, hb, hml, hown, hts⟩, hK, hG, hA⟩ := id hC
  intro x1 M H locs ls hF hS hl
  unfold F_X0_unstruckBut at hF
  refine lv_iconst (v := 0) hx hb dX0_unstruckBut_0 (by decide) ?_
  refine lv_istore_n (lv' := [(2, .int 0), (0, .ref (G.1 56)), (1, .int x1)]) hx hb dX0_unstruckBut_1 rfl hl (by decide) rfl (fun ls hl => ?_)
  refine lv_iconst (v := 0) hx hb dX0_unstruckBut_2 (by decide) ?_
  refine lv_istore_n (lv' := [(3, .int 0), (2, .int 0), (0, .ref (G.1 56)), (1, .int x1)]) hx hb dX0_unstruckBut_3 rfl hl (by decide) rfl (fun ls hl => ?_)
  exact b_X0_unstruckBut_4 hC hr hlk hn fu _ _ _ _ _ _ _ hF hS (lv_sub hl [2, 3, 1, 0] rfl)
set_option maxRecDepth 100000 in
theorem c_X0_unstruckBut (l : Launch) (G : GT) (hn : ∀ i ∈ LsF, i ∈ gL G) (x1 : Int32) (M : Mem) (r0 : Int32) (M0 : Mem) (hF : F_X0_unstruckBut x1 M = some (r0, M0)) : MetG l G yX0_unstruckBut cX0_unstruckBut 4 (some .int) 0 0 [.ref (G.1 56), .int x1] M (some (.int r0)) M0 := by
  refine MetG.of (by decide) (Nat.le_of_ble_eq_true rfl) ?_
  intro p e s m args below meth c hC hr hlk hnm ls hS hl
  exact b_X0_unstruckBut hC hr hlk hn _ _ _ _ _ hF hS hl
def F_X0_leastSet_4 : Nat → Int32 → Int32 → Mem → Option (Int32 × Mem)
  | 0, _, _, _ => none
  | n + 1, x1, x2, M => if (M.1 0) < x2 then some (x1, M) else bd (F_X0_struckBy x1 M) (fun r18 M18 => bd (F_X0_unstruckBut r18 M18) (fun r21 M21 => if r21 = x1 then some (x1, M21) else F_X0_leastSet_4 n r21 (x2 + 1) M21))
def F_X0_leastSet (M : Mem) : Option (Int32 × Mem) := F_X0_leastSet_4 fu 0 0 M
set_option maxHeartbeats 4000000 in
set_option maxRecDepth 100000 in
theorem b_X0_leastSet_4 {M0 : Mem} {r0 : Int32} (hC : SX p m c s args cX0_leastSet 4 RX0 G (AG G)) (hr : meth.sig.returnType = (some .int)) (hlk : meth.locks = false) (hn : ∀ i ∈ LsF, i ∈ gL G) : ∀ (n : Nat) (x1 : Int32) (x2 : Int32) (M : Mem) (H : Heap) (locs : List Loc) (ls : Array Slot), F_X0_leastSet_4 n x1 x2 M = some (r0, M0) → ST G (AG G) s M H locs → lv_has ls 4 [(0, .ref (G.1 56)), (1, .int x1), (2, .int x2)] → W p l e (RM 2 45) s m args below meth c H locs 0 0 (MQ below (QV G (some (.int r0)) M0) args s 0 0 (AG G)) (F0 m 4 ls []) := by
  obtain ⟨⟨hx, hb, hml, hown, hts⟩, hK, hG, hA⟩ := id hC
  intro n
  induction n with
  | zero =>
    intro x1 x2 M H locs ls hF
    cases hF
  | succ n ih =>
    intro x1 x2 M H locs ls hF hS hl
    unfold F_X0_leastSet_4 at hF
    refine lv_iload_n hx hb dX0_leastSet_4 rfl (lv_at hl 2 rfl) ?_
    refine lv_aload_n hx hb dX0_leastSet_5 rfl (lv_at hl 0 rfl) ?_
    refine gx (ci := 0) (k := 0) (v := .ref (G.1 52)) (C := RX0) (T := TX0) (N := 6) hC hS (hn _ (by decide)) rfl rfl in_X0 (by decide) rfl rfl lf_X0_29 dX0_leastSet_6 ?_
    refine gxN (ci := 5) (k := 10) (v := .int (M.1 0)) (C := RX5) (T := TX5) (N := 13) hC hS (hn _ (by decide)) rfl rfl in_X5 (by decide) rfl rfl ln_X0_39 dX0_leastSet_9 ?_
    refine lv_icmp_gt (tgt := 40) hx hb dX0_leastSet_12 (by decide) (fun hc => ?_) (fun hc => ?_)
    · rw [if_pos hc] at hF
      refine lv_iload_n hx hb dX0_leastSet_40 rfl (lv_at hl 1 rfl) ?_
      exact retI hC hS hr hlk hF dX0_leastSet_41
    · rw [if_neg hc] at hF
      refine lv_aload_n hx hb dX0_leastSet_15 rfl (lv_at hl 0 rfl) ?_
      refine lv_aload_n hx hb dX0_leastSet_16 rfl (lv_at hl 0 rfl) ?_
      refine lv_iload_n hx hb dX0_leastSet_17 rfl (lv_at hl 1 rfl) ?_
      obtain ⟨r18, M18, h18, hF⟩ := bd_some hF
      refine cV_ (ci := 0) (i := 56) (C := RX0) (T := TX0) (N := 6) (As := [.int x1]) (v := some (.int r18)) (rest := [.ref (G.1 56)]) (st1 := [.int r18, .ref (G.1 56)]) hC hS (hn _ (by decide)) rfl rfl (c_X0_struckBy l G hn x1 M _ _ h18) kV_X0_struckBy lm_X0_80 ⟨Nat.le_of_ble_eq_true rfl, Nat.le_of_ble_eq_true rfl⟩ rfl hl.1 (Nat.le_of_ble_eq_true rfl) dX0_leastSet_18 ⟨Nat.le_refl _, Nat.le_refl _⟩ rfl (fun H locs hS => ?_)
      obtain ⟨r21, M21, h21, hF⟩ := bd_some hF
      refine cV_ (ci := 0) (i := 56) (C := RX0) (T := TX0) (N := 6) (As := [.int r18]) (v := some (.int r21)) (rest := []) (st1 := [.int r21]) hC hS (hn _ (by decide)) rfl rfl (c_X0_unstruckBut l G hn r18 M18 _ _ h21) kV_X0_unstruckBut lm_X0_84 ⟨Nat.le_of_ble_eq_true rfl, Nat.le_of_ble_eq_true rfl⟩ rfl hl.1 (Nat.le_of_ble_eq_true rfl) dX0_leastSet_21 ⟨Nat.le_refl _, Nat.le_refl _⟩ rfl (fun H locs hS => ?_)
      refine lv_istore_n (lv' := [(3, .int r21), (0, .ref (G.1 56)), (1, .int x1), (2, .int x2)]) hx hb dX0_leastSet_24 rfl hl (by decide) rfl (fun ls hl => ?_)
      refine lv_iload_n hx hb dX0_leastSet_25 rfl (lv_at hl 0 rfl) ?_
      refine lv_iload_n hx hb dX0_leastSet_26 rfl (lv_at hl 2 rfl) ?_
      refine lv_icmp_ne (tgt := 32) hx hb dX0_leastSet_27 (by decide) (fun hc => ?_) (fun hc => ?_)
      · rw [if_neg hc] at hF
        refine lv_iload_n hx hb dX0_leastSet_32 rfl (lv_at hl 0 rfl) ?_
        refine lv_istore_n (lv' := [(1, .int r21), (3, .int r21), (0, .ref (G.1 56)), (2, .int x2)]) hx hb dX0_leastSet_33 rfl hl (by decide) rfl (fun ls hl => ?_)
        refine lv_iinc (v := x2 + 1) (lv' := [(2, .int (x2 + 1)), (1, .int r21), (3, .int r21), (0, .ref (G.1 56))]) hx hb dX0_leastSet_34 hl (k := 3) rfl rfl (by decide) rfl (fun ls hl => ?_)
        refine lv_goto (tgt := 4) hx hb dX0_leastSet_37 (by decide) ?_
        exact ih _ _ _ _ _ _ hF hS (lv_sub hl [3, 1, 0] rfl)
      · rw [if_pos hc] at hF
        refine lv_iload_n hx hb dX0_leastSet_30 rfl (lv_at hl 2 rfl) ?_
        exact retI hC hS hr hlk hF dX0_leastSet_31
set_option maxHeartbeats 4000000 in
set_option maxRecDepth 100000 in
theorem b_X0_leastSet {M0 : Mem} {r0 : Int32} (hC : SX p m c s args cX0_leastSet 4 RX0 G (AG G)) (hr : meth.sig.returnType = (some .int)) (hlk : meth.locks = false) (hn : ∀ i ∈ LsF, i ∈ gL G) : ∀ (M : Mem) (H : Heap) (locs : List Loc) (ls : Array Slot), F_X0_leastSet M = some (r0, M0) → ST G (AG G) s M H locs → lv_has ls 4 [(0, .ref (G.1 56))] → W p l e (RM 2 45) s m args below meth c H locs 0 0 (MQ below (QV G (some (.int r0)) M0) args s 0 0 (AG G)) (F0 m 0 ls []) := by
  obtain ⟨⟨hx, hb, hml, hown, hts⟩, hK, hG, hA⟩ := id hC
  intro M H locs ls hF hS hl
  unfold F_X0_leastSet at hF
  refine lv_iconst (v := 0) hx hb dX0_leastSet_0 (by decide) ?_
  refine lv_istore_n (lv' := [(1, .int 0), (0, .ref (G.1 56))]) hx hb dX0_leastSet_1 rfl hl (by decide) rfl (fun ls hl => ?_)
  refine lv_iconst (v := 0) hx hb dX0_leastSet_2 (by decide) ?_
  refine lv_istore_n (lv' := [(2, .int 0), (1, .int 0), (0, .ref (G.1 56))]) hx hb dX0_leastSet_3 rfl hl (by decide) rfl (fun ls hl => ?_)
  exact b_X0_leastSet_4 hC hr hlk hn fu _ _ _ _ _ _ hF hS (lv_sub hl [2, 1, 0] rfl)
set_option maxRecDepth 100000 in
theorem c_X0_leastSet (l : Launch) (G : GT) (hn : ∀ i ∈ LsF, i ∈ gL G) (M : Mem) (r0 : Int32) (M0 : Mem) (hF : F_X0_leastSet M = some (r0, M0)) : MetG l G yX0_leastSet cX0_leastSet 4 (some .int) 2 45 [.ref (G.1 56)] M (some (.int r0)) M0 := by
  refine MetG.of (by decide) (Nat.le_of_ble_eq_true rfl) ?_
  intro p e s m args below meth c hC hr hlk hnm ls hS hl
  exact b_X0_leastSet hC hr hlk hn _ _ _ _ hF hS hl
def F_X0_hasGreater_45 (k2 : Int32 → Int32 → Mem → Option (Int32 × Mem)) (x1 : Int32) (x2 : Int32) (M : Mem) : Option (Int32 × Mem) := k2 x1 (x2 + 1) M
def F_X0_hasGreater_2 : Nat → Int32 → Int32 → Mem → Option (Int32 × Mem)
  | 0, _, _, _ => none
  | n + 1, x1, x2, M => if (M.1 0) ≤ x2 then some (0, M) else if (((M.1 6) &&& (x1 ^^^ (-1))) &&& ((1 : Int32) <<< (x2 &&& 31))) = 0 then F_X0_hasGreater_45 (F_X0_hasGreater_2 n) x1 x2 M else ckb (ix (x1 ||| ((1 : Int32) <<< (x2 &&& 31))) 1024) (if (M.2 17 (x1 ||| ((1 : Int32) <<< (x2 &&& 31))).toNatClampNeg) = 0 then F_X0_hasGreater_45 (F_X0_hasGreater_2 n) x1 x2 M else some (1, M))
def F_X0_hasGreater (x1 : Int32) (M : Mem) : Option (Int32 × Mem) := F_X0_hasGreater_2 fu x1 0 M
set_option maxHeartbeats 4000000 in
set_option maxRecDepth 100000 in
theorem b_X0_hasGreater_45 {k2 : Int32 → Int32 → Mem → Option (Int32 × Mem)} {M0 : Mem} {r0 : Int32} (hC : SX p m c s args cX0_hasGreater 4 RX0 G (AG G)) (hr : meth.sig.returnType = (some .boolean)) (hlk : meth.locks = false) (hn : ∀ i ∈ LsF, i ∈ gL G) (hk2 : ∀ (x1 : Int32) (x2 : Int32) (M : Mem) (H : Heap) (locs : List Loc) (ls : Array Slot), k2 x1 x2 M = some (r0, M0) → ST G (AG G) s M H locs → lv_has ls 4 [(0, .ref (G.1 56)), (1, .int x1), (2, .int x2)] → W p l e (RM 0 0) s m args below meth c H locs 0 0 (MQ below (QV G (some (.int r0)) M0) args s 0 0 (AG G)) (F0 m 2 ls [])) : ∀ (x1 : Int32) (x2 : Int32) (M : Mem) (H : Heap) (locs : List Loc) (ls : Array Slot), F_X0_hasGreater_45 k2 x1 x2 M = some (r0, M0) → ST G (AG G) s M H locs → lv_has ls 4 [(0, .ref (G.1 56)), (1, .int x1), (2, .int x2)] → W p l e (RM 0 0) s m args below meth c H locs 0 0 (MQ below (QV G (some (.int r0)) M0) args s 0 0 (AG G)) (F0 m 45 ls []) := by
  obtain ⟨⟨hx, hb, hml, hown, hts⟩, hK, hG, hA⟩ := id hC
  intro x1 x2 M H locs ls hF hS hl
  unfold F_X0_hasGreater_45 at hF
  refine lv_iinc (v := x2 + 1) (lv' := [(2, .int (x2 + 1)), (0, .ref (G.1 56)), (1, .int x1)]) hx hb dX0_hasGreater_45 hl (k := 2) rfl rfl (by decide) rfl (fun ls hl => ?_)
  refine lv_goto (tgt := 2) hx hb dX0_hasGreater_48 (by decide) ?_
  exact hk2 _ _ _ _ _ _ hF hS (lv_sub hl [1, 2, 0] rfl)
set_option maxHeartbeats 4000000 in
set_option maxRecDepth 100000 in
theorem b_X0_hasGreater_2 {M0 : Mem} {r0 : Int32} (hC : SX p m c s args cX0_hasGreater 4 RX0 G (AG G)) (hr : meth.sig.returnType = (some .boolean)) (hlk : meth.locks = false) (hn : ∀ i ∈ LsF, i ∈ gL G) : ∀ (n : Nat) (x1 : Int32) (x2 : Int32) (M : Mem) (H : Heap) (locs : List Loc) (ls : Array Slot), F_X0_hasGreater_2 n x1 x2 M = some (r0, M0) → ST G (AG G) s M H locs → lv_has ls 4 [(0, .ref (G.1 56)), (1, .int x1), (2, .int x2)] → W p l e (RM 0 0) s m args below meth c H locs 0 0 (MQ below (QV G (some (.int r0)) M0) args s 0 0 (AG G)) (F0 m 2 ls []) := by
  obtain ⟨⟨hx, hb, hml, hown, hts⟩, hK, hG, hA⟩ := id hC
  intro n
  induction n with
  | zero =>
    intro x1 x2 M H locs ls hF
    cases hF
  | succ n ih =>
    intro x1 x2 M H locs ls hF hS hl
    unfold F_X0_hasGreater_2 at hF
    refine lv_iload_n hx hb dX0_hasGreater_2 rfl (lv_at hl 2 rfl) ?_
    refine lv_aload_n hx hb dX0_hasGreater_3 rfl (lv_at hl 0 rfl) ?_
    refine gx (ci := 0) (k := 0) (v := .ref (G.1 52)) (C := RX0) (T := TX0) (N := 6) hC hS (hn _ (by decide)) rfl rfl in_X0 (by decide) rfl rfl lf_X0_29 dX0_hasGreater_4 ?_
    refine gxN (ci := 5) (k := 10) (v := .int (M.1 0)) (C := RX5) (T := TX5) (N := 13) hC hS (hn _ (by decide)) rfl rfl in_X5 (by decide) rfl rfl ln_X0_39 dX0_hasGreater_7 ?_
    refine lv_icmp_ge (tgt := 51) hx hb dX0_hasGreater_10 (by decide) (fun hc => ?_) (fun hc => ?_)
    · rw [if_pos hc] at hF
      refine lv_iconst (v := 0) hx hb dX0_hasGreater_51 (by decide) ?_
      exact retZ hC hS hr hlk rfl hF dX0_hasGreater_52
    · rw [if_neg hc] at hF
      refine lv_iload_n hx hb dX0_hasGreater_13 rfl (lv_at hl 1 rfl) ?_
      refine lv_iconst (v := 1) hx hb dX0_hasGreater_14 (by decide) ?_
      refine lv_iload_n hx hb dX0_hasGreater_15 rfl (lv_at hl 2 rfl) ?_
      refine lv_ishl hx hb dX0_hasGreater_16 ?_
      refine lv_ior hx hb dX0_hasGreater_17 ?_
      refine lv_istore_n (lv' := [(3, .int (x1 ||| ((1 : Int32) <<< (x2 &&& 31)))), (0, .ref (G.1 56)), (1, .int x1), (2, .int x2)]) hx hb dX0_hasGreater_18 rfl hl (by decide) rfl (fun ls hl => ?_)
      refine lv_aload_n hx hb dX0_hasGreater_19 rfl (lv_at hl 1 rfl) ?_
      refine gx (ci := 0) (k := 5) (v := .int (M.1 6)) (C := RX0) (T := TX0) (N := 6) hC hS (hn _ (by decide)) rfl rfl in_X0 (by decide) rfl rfl lf_X0_25 dX0_hasGreater_20 ?_
      refine lv_iload_n hx hb dX0_hasGreater_23 rfl (lv_at hl 2 rfl) ?_
      refine lv_iconst (v := (-1)) hx hb dX0_hasGreater_24 (by decide) ?_
      refine lv_ixor hx hb dX0_hasGreater_25 ?_
      refine lv_iand hx hb dX0_hasGreater_26 ?_
      refine lv_iconst (v := 1) hx hb dX0_hasGreater_27 (by decide) ?_
      refine lv_iload_n hx hb dX0_hasGreater_28 rfl (lv_at hl 3 rfl) ?_
      refine lv_ishl hx hb dX0_hasGreater_29 ?_
      refine lv_iand hx hb dX0_hasGreater_30 ?_
      refine lv_if_eq (tgt := 45) hx hb dX0_hasGreater_31 (by decide) (fun hc => ?_) (fun hc => ?_)
      · rw [if_pos hc] at hF
        exact b_X0_hasGreater_45 hC hr hlk hn ih _ _ _ _ _ _ hF hS (lv_sub hl [1, 2, 3] rfl)
      · rw [if_neg hc] at hF
        refine lv_aload_n hx hb dX0_hasGreater_34 rfl (lv_at hl 1 rfl) ?_
        refine gx (ci := 0) (k := 4) (v := .ref (G.1 17)) (C := RX0) (T := TX0) (N := 6) hC hS (hn _ (by decide)) rfl rfl in_X0 (by decide) rfl rfl lf_X0_21 dX0_hasGreater_35 ?_
        refine lv_iload_n hx hb dX0_hasGreater_38 rfl (lv_at hl 0 rfl) ?_
        obtain ⟨hi, hF⟩ := ckb_some hF
        refine bld hC hS (hn _ (by decide)) (by decide) rfl hi dX0_hasGreater_39 ?_
        refine lv_if_eq (tgt := 45) hx hb dX0_hasGreater_40 (by decide) (fun hc => ?_) (fun hc => ?_)
        · rw [if_pos hc] at hF
          exact b_X0_hasGreater_45 hC hr hlk hn ih _ _ _ _ _ _ hF hS (lv_sub hl [1, 2, 3] rfl)
        · rw [if_neg hc] at hF
          refine lv_iconst (v := 1) hx hb dX0_hasGreater_43 (by decide) ?_
          exact retZ hC hS hr hlk rfl hF dX0_hasGreater_44
set_option maxHeartbeats 4000000 in
set_option maxRecDepth 100000 in
theorem b_X0_hasGreater {M0 : Mem} {r0 : Int32} (hC : SX p m c s args cX0_hasGreater 4 RX0 G (AG G)) (hr : meth.sig.returnType = (some .boolean)) (hlk : meth.locks = false) (hn : ∀ i ∈ LsF, i ∈ gL G) : ∀ (x1 : Int32) (M : Mem) (H : Heap) (locs : List Loc) (ls : Array Slot), F_X0_hasGreater x1 M = some (r0, M0) → ST G (AG G) s M H locs → lv_has ls 4 [(0, .ref (G.1 56)), (1, .int x1)] → W p l e (RM 0 0) s m args below meth c H locs 0 0 (MQ below (QV G (some (.int r0)) M0) args s 0 0 (AG G)) (F0 m 0 ls []) := by
  obtain ⟨⟨hx, hb, hml, hown, hts⟩, hK, hG, hA⟩ := id hC
  intro x1 M H locs ls hF hS hl
  unfold F_X0_hasGreater at hF
  refine lv_iconst (v := 0) hx hb dX0_hasGreater_0 (by decide) ?_
  refine lv_istore_n (lv' := [(2, .int 0), (0, .ref (G.1 56)), (1, .int x1)]) hx hb dX0_hasGreater_1 rfl hl (by decide) rfl (fun ls hl => ?_)
  exact b_X0_hasGreater_2 hC hr hlk hn fu _ _ _ _ _ _ hF hS (lv_sub hl [1, 2, 0] rfl)
set_option maxRecDepth 100000 in
theorem c_X0_hasGreater (l : Launch) (G : GT) (hn : ∀ i ∈ LsF, i ∈ gL G) (x1 : Int32) (M : Mem) (r0 : Int32) (M0 : Mem) (hF : F_X0_hasGreater x1 M = some (r0, M0)) : MetG l G yX0_hasGreater cX0_hasGreater 4 (some .boolean) 0 0 [.ref (G.1 56), .int x1] M (some (.int r0)) M0 := by
  refine MetG.of (by decide) (Nat.le_of_ble_eq_true rfl) ?_
  intro p e s m args below meth c hC hr hlk hnm ls hS hl
  exact b_X0_hasGreater hC hr hlk hn _ _ _ _ _ hF hS hl
def F_X0_markFullSets_56 (k5 : Int32 → Mem → Option Mem) (x1 : Int32) (M : Mem) : Option Mem := k5 (x1 + (-1)) M
def F_X0_markFullSets_33 (k5 : Int32 → Mem → Option Mem) (x1 : Int32) (t0 : Int32) (M : Mem) : Option Mem := bd (F_X0_hasGreater x1 M) (fun r41 M41 => if r41 = 0 then ckb (ix x1 1024) (F_X0_markFullSets_56 k5 x1 (sa M41 17 x1.toNatClampNeg (vp_nar .byte (t0.toInt8.toInt32)))) else ckb (ix x1 1024) (F_X0_markFullSets_56 k5 x1 (sa M41 17 x1.toNatClampNeg (vp_nar .byte ((t0 ||| 2).toInt8.toInt32)))))
def F_X0_markFullSets_5 : Nat → Int32 → Mem → Option Mem
  | 0, _, _ => none
  | n + 1, x1, M => if x1 < 0 then some M else if (x1 &&& ((M.1 6) ^^^ (-1))) = 0 then bd (F_X0_answersForItself x1 M) (fun r22 M22 => if r22 = 0 then F_X0_markFullSets_33 (F_X0_markFullSets_5 n) x1 0 M22 else F_X0_markFullSets_33 (F_X0_markFullSets_5 n) x1 1 M22) else F_X0_markFullSets_56 (F_X0_markFullSets_5 n) x1 M
def F_X0_markFullSets (M : Mem) : Option Mem := F_X0_markFullSets_5 fu (M.1 6) M
set_option maxHeartbeats 4000000 in
set_option maxRecDepth 100000 in
theorem b_X0_markFullSets_56 {k5 : Int32 → Mem → Option Mem} {M0 : Mem} (hC : SX p m c s args cX0_markFullSets 3 RX0 G (AG G)) (hr : meth.sig.returnType = none) (hlk : meth.locks = false) (hn : ∀ i ∈ LsF, i ∈ gL G) (hk5 : ∀ (x1 : Int32) (M : Mem) (H : Heap) (locs : List Loc) (ls : Array Slot), k5 x1 M = some M0 → ST G (AG G) s M H locs → lv_has ls 3 [(0, .ref (G.1 56)), (1, .int x1)] → W p l e (RM 3 67) s m args below meth c H locs 0 0 (MQ below (QV G none M0) args s 0 0 (AG G)) (F0 m 5 ls [])) : ∀ (x1 : Int32) (M : Mem) (H : Heap) (locs : List Loc) (ls : Array Slot), F_X0_markFullSets_56 k5 x1 M = some M0 → ST G (AG G) s M H locs → lv_has ls 3 [(0, .ref (G.1 56)), (1, .int x1)] → W p l e (RM 3 67) s m args below meth c H locs 0 0 (MQ below (QV G none M0) args s 0 0 (AG G)) (F0 m 56 ls []) := by
  obtain ⟨⟨hx, hb, hml, hown, hts⟩, hK, hG, hA⟩ := id hC
  intro x1 M H locs ls hF hS hl
  unfold F_X0_markFullSets_56 at hF
  refine lv_iinc (v := x1 + (-1)) (lv' := [(1, .int (x1 + (-1))), (0, .ref (G.1 56))]) hx hb dX0_markFullSets_56 hl (k := 1) rfl rfl (by decide) rfl (fun ls hl => ?_)
  refine lv_goto (tgt := 5) hx hb dX0_markFullSets_59 (by decide) ?_
  exact hk5 _ _ _ _ _ hF hS (lv_sub hl [1, 0] rfl)
set_option maxHeartbeats 4000000 in
set_option maxRecDepth 100000 in
theorem b_X0_markFullSets_33 {k5 : Int32 → Mem → Option Mem} {M0 : Mem} (hC : SX p m c s args cX0_markFullSets 3 RX0 G (AG G)) (hr : meth.sig.returnType = none) (hlk : meth.locks = false) (hn : ∀ i ∈ LsF, i ∈ gL G) (hk5 : ∀ (x1 : Int32) (M : Mem) (H : Heap) (locs : List Loc) (ls : Array Slot), k5 x1 M = some M0 → ST G (AG G) s M H locs → lv_has ls 3 [(0, .ref (G.1 56)), (1, .int x1)] → W p l e (RM 3 67) s m args below meth c H locs 0 0 (MQ below (QV G none M0) args s 0 0 (AG G)) (F0 m 5 ls [])) : ∀ (x1 : Int32) (t0 : Int32) (M : Mem) (H : Heap) (locs : List Loc) (ls : Array Slot), F_X0_markFullSets_33 k5 x1 t0 M = some M0 → ST G (AG G) s M H locs → lv_has ls 3 [(0, .ref (G.1 56)), (1, .int x1)] → W p l e (RM 3 67) s m args below meth c H locs 0 0 (MQ below (QV G none M0) args s 0 0 (AG G)) (F0 m 33 ls [.int t0]) := by
  obtain ⟨⟨hx, hb, hml, hown, hts⟩, hK, hG, hA⟩ := id hC
  intro x1 t0 M H locs ls hF hS hl
  unfold F_X0_markFullSets_33 at hF
  refine lv_istore_n (lv' := [(2, .int t0), (0, .ref (G.1 56)), (1, .int x1)]) hx hb dX0_markFullSets_33 rfl hl (by decide) rfl (fun ls hl => ?_)
  refine lv_aload_n hx hb dX0_markFullSets_34 rfl (lv_at hl 1 rfl) ?_
  refine gx (ci := 0) (k := 4) (v := .ref (G.1 17)) (C := RX0) (T := TX0) (N := 6) hC hS (hn _ (by decide)) rfl rfl in_X0 (by decide) rfl rfl lf_X0_21 dX0_markFullSets_35 ?_
  refine lv_iload_n hx hb dX0_markFullSets_38 rfl (lv_at hl 2 rfl) ?_
  refine lv_aload_n hx hb dX0_markFullSets_39 rfl (lv_at hl 1 rfl) ?_
  refine lv_iload_n hx hb dX0_markFullSets_40 rfl (lv_at hl 2 rfl) ?_
  obtain ⟨r41, M41, h41, hF⟩ := bd_some hF
  refine cV_ (ci := 0) (i := 56) (C := RX0) (T := TX0) (N := 6) (As := [.int x1]) (v := some (.int r41)) (rest := [.int x1, .ref (G.1 17)]) (st1 := [.int r41, .int x1, .ref (G.1 17)]) hC hS (hn _ (by decide)) rfl rfl (c_X0_hasGreater l G hn x1 M _ _ h41) kV_X0_hasGreater lm_X0_91 ⟨Nat.le_of_ble_eq_true rfl, Nat.le_of_ble_eq_true rfl⟩ rfl hl.1 (Nat.le_of_ble_eq_true rfl) dX0_markFullSets_41 ⟨Nat.le_refl _, Nat.le_refl _⟩ rfl (fun H locs hS => ?_)
  refine lv_if_eq (tgt := 53) hx hb dX0_markFullSets_44 (by decide) (fun hc => ?_) (fun hc => ?_)
  · rw [if_pos hc] at hF
    refine lv_iload_n hx hb dX0_markFullSets_53 rfl (lv_at hl 0 rfl) ?_
    refine lv_i2b hx hb dX0_markFullSets_54 rfl ?_
    obtain ⟨hi, hF⟩ := ckb_some hF
    refine bst hC hS (hn _ (by decide)) (by decide) rfl hi dX0_markFullSets_55 (fun H locs hS => ?_)
    exact b_X0_markFullSets_56 hC hr hlk hn hk5 _ _ _ _ _ hF hS (lv_sub hl [1, 2] rfl)
  · rw [if_neg hc] at hF
    refine lv_iload_n hx hb dX0_markFullSets_47 rfl (lv_at hl 0 rfl) ?_
    refine lv_iconst (v := 2) hx hb dX0_markFullSets_48 (by decide) ?_
    refine lv_ior hx hb dX0_markFullSets_49 ?_
    refine lv_goto (tgt := 54) hx hb dX0_markFullSets_50 (by decide) ?_
    refine lv_i2b hx hb dX0_markFullSets_54 rfl ?_
    obtain ⟨hi, hF⟩ := ckb_some hF
    refine bst hC hS (hn _ (by decide)) (by decide) rfl hi dX0_markFullSets_55 (fun H locs hS => ?_)
    exact b_X0_markFullSets_56 hC hr hlk hn hk5 _ _ _ _ _ hF hS (lv_sub hl [1, 2] rfl)
set_option maxHeartbeats 4000000 in
set_option maxRecDepth 100000 in
theorem b_X0_markFullSets_5 {M0 : Mem} (hC : SX p m c s args cX0_markFullSets 3 RX0 G (AG G)) (hr : meth.sig.returnType = none) (hlk : meth.locks = false) (hn : ∀ i ∈ LsF, i ∈ gL G) : ∀ (n : Nat) (x1 : Int32) (M : Mem) (H : Heap) (locs : List Loc) (ls : Array Slot), F_X0_markFullSets_5 n x1 M = some M0 → ST G (AG G) s M H locs → lv_has ls 3 [(0, .ref (G.1 56)), (1, .int x1)] → W p l e (RM 3 67) s m args below meth c H locs 0 0 (MQ below (QV G none M0) args s 0 0 (AG G)) (F0 m 5 ls []) := by
  obtain ⟨⟨hx, hb, hml, hown, hts⟩, hK, hG, hA⟩ := id hC
  intro n
  induction n with
  | zero =>
    intro x1 M H locs ls hF
    cases hF
  | succ n ih =>
    intro x1 M H locs ls hF hS hl
    unfold F_X0_markFullSets_5 at hF
    refine lv_iload_n hx hb dX0_markFullSets_5 rfl (lv_at hl 1 rfl) ?_
    refine lv_if_lt (tgt := 62) hx hb dX0_markFullSets_6 (by decide) (fun hc => ?_) (fun hc => ?_)
    · rw [if_pos hc] at hF
      exact retV hC hS hr hlk hF dX0_markFullSets_62
    · rw [if_neg hc] at hF
      refine lv_iload_n hx hb dX0_markFullSets_9 rfl (lv_at hl 1 rfl) ?_
      refine lv_aload_n hx hb dX0_markFullSets_10 rfl (lv_at hl 0 rfl) ?_
      refine gx (ci := 0) (k := 5) (v := .int (M.1 6)) (C := RX0) (T := TX0) (N := 6) hC hS (hn _ (by decide)) rfl rfl in_X0 (by decide) rfl rfl lf_X0_25 dX0_markFullSets_11 ?_
      refine lv_iconst (v := (-1)) hx hb dX0_markFullSets_14 (by decide) ?_
      refine lv_ixor hx hb dX0_markFullSets_15 ?_
      refine lv_iand hx hb dX0_markFullSets_16 ?_
      refine lv_if_ne (tgt := 56) hx hb dX0_markFullSets_17 (by decide) (fun hc => ?_) (fun hc => ?_)
      · rw [if_neg hc] at hF
        exact b_X0_markFullSets_56 hC hr hlk hn ih _ _ _ _ _ hF hS (lv_sub hl [0, 1] rfl)
      · rw [if_pos hc] at hF
        refine lv_aload_n hx hb dX0_markFullSets_20 rfl (lv_at hl 0 rfl) ?_
        refine lv_iload_n hx hb dX0_markFullSets_21 rfl (lv_at hl 1 rfl) ?_
        obtain ⟨r22, M22, h22, hF⟩ := bd_some hF
        refine cV_ (ci := 0) (i := 56) (C := RX0) (T := TX0) (N := 6) (As := [.int x1]) (v := some (.int r22)) (rest := []) (st1 := [.int r22]) hC hS (hn _ (by decide)) rfl rfl (c_X0_answersForItself l G hn x1 M _ _ h22) kV_X0_answersForItself lm_X0_87 ⟨Nat.le_of_ble_eq_true rfl, Nat.le_of_ble_eq_true rfl⟩ rfl hl.1 (Nat.le_of_ble_eq_true rfl) dX0_markFullSets_22 ⟨Nat.le_refl _, Nat.le_refl _⟩ rfl (fun H locs hS => ?_)
        refine lv_if_eq (tgt := 32) hx hb dX0_markFullSets_25 (by decide) (fun hc => ?_) (fun hc => ?_)
        · rw [if_pos hc] at hF
          refine lv_iconst (v := 0) hx hb dX0_markFullSets_32 (by decide) ?_
          exact b_X0_markFullSets_33 hC hr hlk hn ih _ _ _ _ _ _ hF hS (lv_sub hl [0, 1] rfl)
        · rw [if_neg hc] at hF
          refine lv_iconst (v := 1) hx hb dX0_markFullSets_28 (by decide) ?_
          refine lv_goto (tgt := 33) hx hb dX0_markFullSets_29 (by decide) ?_
          exact b_X0_markFullSets_33 hC hr hlk hn ih _ _ _ _ _ _ hF hS (lv_sub hl [0, 1] rfl)
set_option maxHeartbeats 4000000 in
set_option maxRecDepth 100000 in
theorem b_X0_markFullSets {M0 : Mem} (hC : SX p m c s args cX0_markFullSets 3 RX0 G (AG G)) (hr : meth.sig.returnType = none) (hlk : meth.locks = false) (hn : ∀ i ∈ LsF, i ∈ gL G) : ∀ (M : Mem) (H : Heap) (locs : List Loc) (ls : Array Slot), F_X0_markFullSets M = some M0 → ST G (AG G) s M H locs → lv_has ls 3 [(0, .ref (G.1 56))] → W p l e (RM 3 67) s m args below meth c H locs 0 0 (MQ below (QV G none M0) args s 0 0 (AG G)) (F0 m 0 ls []) := by
  obtain ⟨⟨hx, hb, hml, hown, hts⟩, hK, hG, hA⟩ := id hC
  intro M H locs ls hF hS hl
  unfold F_X0_markFullSets at hF
  refine lv_aload_n hx hb dX0_markFullSets_0 rfl (lv_at hl 0 rfl) ?_
  refine gx (ci := 0) (k := 5) (v := .int (M.1 6)) (C := RX0) (T := TX0) (N := 6) hC hS (hn _ (by decide)) rfl rfl in_X0 (by decide) rfl rfl lf_X0_25 dX0_markFullSets_1 ?_
  refine lv_istore_n (lv' := [(1, .int (M.1 6)), (0, .ref (G.1 56))]) hx hb dX0_markFullSets_4 rfl hl (by decide) rfl (fun ls hl => ?_)
  exact b_X0_markFullSets_5 hC hr hlk hn fu _ _ _ _ _ hF hS (lv_sub hl [1, 0] rfl)
set_option maxRecDepth 100000 in
theorem c_X0_markFullSets (l : Launch) (G : GT) (hn : ∀ i ∈ LsF, i ∈ gL G) (M : Mem) (M0 : Mem) (hF : F_X0_markFullSets M = some M0) : MetG l G yX0_markFullSets cX0_markFullSets 3 none 3 67 [.ref (G.1 56)] M none M0 := by
  refine MetG.of (by decide) (Nat.le_of_ble_eq_true rfl) ?_
  intro p e s m args below meth c hC hr hlk hnm ls hS hl
  exact b_X0_markFullSets hC hr hlk hn _ _ _ _ hF hS hl
def F_X0_isFullSet_25 (M : Mem) : Option (Int32 × Mem) := some (0, M)
def F_X0_isFullSet (x1 : Int32) (M : Mem) : Option (Int32 × Mem) := if (x1 &&& ((M.1 6) ^^^ (-1))) = 0 then ckb (ix x1 1024) (if (M.2 17 x1.toNatClampNeg) = 1 then some (1, M) else F_X0_isFullSet_25 M) else F_X0_isFullSet_25 M
set_option maxHeartbeats 4000000 in
set_option maxRecDepth 100000 in
theorem b_X0_isFullSet_25 {M0 : Mem} {r0 : Int32} (hC : SX p m c s args cX0_isFullSet 2 RX0 G (AG G)) (hr : meth.sig.returnType = (some .boolean)) (hlk : meth.locks = false) (hn : ∀ i ∈ LsF, i ∈ gL G) : ∀ (M : Mem) (H : Heap) (locs : List Loc) (ls : Array Slot), F_X0_isFullSet_25 M = some (r0, M0) → ST G (AG G) s M H locs → lv_has ls 2 [] → W p l e (RM 0 0) s m args below meth c H locs 0 0 (MQ below (QV G (some (.int r0)) M0) args s 0 0 (AG G)) (F0 m 25 ls []) := by
  obtain ⟨⟨hx, hb, hml, hown, hts⟩, hK, hG, hA⟩ := id hC
  intro M H locs ls hF hS hl
  unfold F_X0_isFullSet_25 at hF
  refine lv_iconst (v := 0) hx hb dX0_isFullSet_25 (by decide) ?_
  exact retZ hC hS hr hlk rfl hF dX0_isFullSet_26
set_option maxHeartbeats 4000000 in
set_option maxRecDepth 100000 in
theorem b_X0_isFullSet {M0 : Mem} {r0 : Int32} (hC : SX p m c s args cX0_isFullSet 2 RX0 G (AG G)) (hr : meth.sig.returnType = (some .boolean)) (hlk : meth.locks = false) (hn : ∀ i ∈ LsF, i ∈ gL G) : ∀ (x1 : Int32) (M : Mem) (H : Heap) (locs : List Loc) (ls : Array Slot), F_X0_isFullSet x1 M = some (r0, M0) → ST G (AG G) s M H locs → lv_has ls 2 [(0, .ref (G.1 56)), (1, .int x1)] → W p l e (RM 0 0) s m args below meth c H locs 0 0 (MQ below (QV G (some (.int r0)) M0) args s 0 0 (AG G)) (F0 m 0 ls []) := by
  obtain ⟨⟨hx, hb, hml, hown, hts⟩, hK, hG, hA⟩ := id hC
  intro x1 M H locs ls hF hS hl
  unfold F_X0_isFullSet at hF
  refine lv_iload_n hx hb dX0_isFullSet_0 rfl (lv_at hl 1 rfl) ?_
  refine lv_aload_n hx hb dX0_isFullSet_1 rfl (lv_at hl 0 rfl) ?_
  refine gx (ci := 0) (k := 5) (v := .int (M.1 6)) (C := RX0) (T := TX0) (N := 6) hC hS (hn _ (by decide)) rfl rfl in_X0 (by decide) rfl rfl lf_X0_25 dX0_isFullSet_2 ?_
  refine lv_iconst (v := (-1)) hx hb dX0_isFullSet_5 (by decide) ?_
  refine lv_ixor hx hb dX0_isFullSet_6 ?_
  refine lv_iand hx hb dX0_isFullSet_7 ?_
  refine lv_if_ne (tgt := 25) hx hb dX0_isFullSet_8 (by decide) (fun hc => ?_) (fun hc => ?_)
  · rw [if_neg hc] at hF
    exact b_X0_isFullSet_25 hC hr hlk hn _ _ _ _ hF hS (lv_sub hl [] rfl)
  · rw [if_pos hc] at hF
    refine lv_aload_n hx hb dX0_isFullSet_11 rfl (lv_at hl 0 rfl) ?_
    refine gx (ci := 0) (k := 4) (v := .ref (G.1 17)) (C := RX0) (T := TX0) (N := 6) hC hS (hn _ (by decide)) rfl rfl in_X0 (by decide) rfl rfl lf_X0_21 dX0_isFullSet_12 ?_
    refine lv_iload_n hx hb dX0_isFullSet_15 rfl (lv_at hl 1 rfl) ?_
    obtain ⟨hi, hF⟩ := ckb_some hF
    refine bld hC hS (hn _ (by decide)) (by decide) rfl hi dX0_isFullSet_16 ?_
    refine lv_iconst (v := 1) hx hb dX0_isFullSet_17 (by decide) ?_
    refine lv_icmp_ne (tgt := 25) hx hb dX0_isFullSet_18 (by decide) (fun hc => ?_) (fun hc => ?_)
    · rw [if_neg hc] at hF
      exact b_X0_isFullSet_25 hC hr hlk hn _ _ _ _ hF hS (lv_sub hl [] rfl)
    · rw [if_pos hc] at hF
      refine lv_iconst (v := 1) hx hb dX0_isFullSet_21 (by decide) ?_
      refine lv_goto (tgt := 26) hx hb dX0_isFullSet_22 (by decide) ?_
      exact retZ hC hS hr hlk rfl hF dX0_isFullSet_26
set_option maxRecDepth 100000 in
theorem c_X0_isFullSet (l : Launch) (G : GT) (hn : ∀ i ∈ LsF, i ∈ gL G) (x1 : Int32) (M : Mem) (r0 : Int32) (M0 : Mem) (hF : F_X0_isFullSet x1 M = some (r0, M0)) : MetG l G yX0_isFullSet cX0_isFullSet 2 (some .boolean) 0 0 [.ref (G.1 56), .int x1] M (some (.int r0)) M0 := by
  refine MetG.of (by decide) (Nat.le_of_ble_eq_true rfl) ?_
  intro p e s m args below meth c hC hr hlk hnm ls hS hl
  exact b_X0_isFullSet hC hr hlk hn _ _ _ _ _ hF hS hl
def F_X0_fullSets_23 (k4 : Int32 → Int32 → Mem → Option (Int32 × Mem)) (x1 : Int32) (x2 : Int32) (M : Mem) : Option (Int32 × Mem) := k4 x1 (x2 + 1) M
def F_X0_fullSets_4 : Nat → Int32 → Int32 → Mem → Option (Int32 × Mem)
  | 0, _, _, _ => none
  | n + 1, x1, x2, M => if (M.1 6) < x2 then some (x1, M) else bd (F_X0_isFullSet x2 M) (fun r14 M14 => if r14 = 0 then F_X0_fullSets_23 (F_X0_fullSets_4 n) x1 x2 M14 else F_X0_fullSets_23 (F_X0_fullSets_4 n) (x1 + 1) x2 M14)
def F_X0_fullSets (M : Mem) : Option (Int32 × Mem) := F_X0_fullSets_4 fu 0 0 M
set_option maxHeartbeats 4000000 in
set_option maxRecDepth 100000 in
theorem b_X0_fullSets_23 {k4 : Int32 → Int32 → Mem → Option (Int32 × Mem)} {M0 : Mem} {r0 : Int32} (hC : SX p m c s args cX0_fullSets 3 RX0 G (AG G)) (hr : meth.sig.returnType = (some .int)) (hlk : meth.locks = false) (hn : ∀ i ∈ LsF, i ∈ gL G) (hk4 : ∀ (x1 : Int32) (x2 : Int32) (M : Mem) (H : Heap) (locs : List Loc) (ls : Array Slot), k4 x1 x2 M = some (r0, M0) → ST G (AG G) s M H locs → lv_has ls 3 [(0, .ref (G.1 56)), (1, .int x1), (2, .int x2)] → W p l e (RM 1 21) s m args below meth c H locs 0 0 (MQ below (QV G (some (.int r0)) M0) args s 0 0 (AG G)) (F0 m 4 ls [])) : ∀ (x1 : Int32) (x2 : Int32) (M : Mem) (H : Heap) (locs : List Loc) (ls : Array Slot), F_X0_fullSets_23 k4 x1 x2 M = some (r0, M0) → ST G (AG G) s M H locs → lv_has ls 3 [(0, .ref (G.1 56)), (1, .int x1), (2, .int x2)] → W p l e (RM 1 21) s m args below meth c H locs 0 0 (MQ below (QV G (some (.int r0)) M0) args s 0 0 (AG G)) (F0 m 23 ls []) := by
  obtain ⟨⟨hx, hb, hml, hown, hts⟩, hK, hG, hA⟩ := id hC
  intro x1 x2 M H locs ls hF hS hl
  unfold F_X0_fullSets_23 at hF
  refine lv_iinc (v := x2 + 1) (lv' := [(2, .int (x2 + 1)), (0, .ref (G.1 56)), (1, .int x1)]) hx hb dX0_fullSets_23 hl (k := 2) rfl rfl (by decide) rfl (fun ls hl => ?_)
  refine lv_goto (tgt := 4) hx hb dX0_fullSets_26 (by decide) ?_
  exact hk4 _ _ _ _ _ _ hF hS (lv_sub hl [1, 2, 0] rfl)
set_option maxHeartbeats 4000000 in
set_option maxRecDepth 100000 in
theorem b_X0_fullSets_4 {M0 : Mem} {r0 : Int32} (hC : SX p m c s args cX0_fullSets 3 RX0 G (AG G)) (hr : meth.sig.returnType = (some .int)) (hlk : meth.locks = false) (hn : ∀ i ∈ LsF, i ∈ gL G) : ∀ (n : Nat) (x1 : Int32) (x2 : Int32) (M : Mem) (H : Heap) (locs : List Loc) (ls : Array Slot), F_X0_fullSets_4 n x1 x2 M = some (r0, M0) → ST G (AG G) s M H locs → lv_has ls 3 [(0, .ref (G.1 56)), (1, .int x1), (2, .int x2)] → W p l e (RM 1 21) s m args below meth c H locs 0 0 (MQ below (QV G (some (.int r0)) M0) args s 0 0 (AG G)) (F0 m 4 ls []) := by
  obtain ⟨⟨hx, hb, hml, hown, hts⟩, hK, hG, hA⟩ := id hC
  intro n
  induction n with
  | zero =>
    intro x1 x2 M H locs ls hF
    cases hF
  | succ n ih =>
    intro x1 x2 M H locs ls hF hS hl
    unfold F_X0_fullSets_4 at hF
    refine lv_iload_n hx hb dX0_fullSets_4 rfl (lv_at hl 2 rfl) ?_
    refine lv_aload_n hx hb dX0_fullSets_5 rfl (lv_at hl 0 rfl) ?_
    refine gx (ci := 0) (k := 5) (v := .int (M.1 6)) (C := RX0) (T := TX0) (N := 6) hC hS (hn _ (by decide)) rfl rfl in_X0 (by decide) rfl rfl lf_X0_25 dX0_fullSets_6 ?_
    refine lv_icmp_gt (tgt := 29) hx hb dX0_fullSets_9 (by decide) (fun hc => ?_) (fun hc => ?_)
    · rw [if_pos hc] at hF
      refine lv_iload_n hx hb dX0_fullSets_29 rfl (lv_at hl 1 rfl) ?_
      exact retI hC hS hr hlk hF dX0_fullSets_30
    · rw [if_neg hc] at hF
      refine lv_aload_n hx hb dX0_fullSets_12 rfl (lv_at hl 0 rfl) ?_
      refine lv_iload_n hx hb dX0_fullSets_13 rfl (lv_at hl 2 rfl) ?_
      obtain ⟨r14, M14, h14, hF⟩ := bd_some hF
      refine cV_ (ci := 0) (i := 56) (C := RX0) (T := TX0) (N := 6) (As := [.int x2]) (v := some (.int r14)) (rest := []) (st1 := [.int r14]) hC hS (hn _ (by decide)) rfl rfl (c_X0_isFullSet l G hn x2 M _ _ h14) kV_X0_isFullSet lm_X0_94 ⟨Nat.le_of_ble_eq_true rfl, Nat.le_of_ble_eq_true rfl⟩ rfl hl.1 (Nat.le_of_ble_eq_true rfl) dX0_fullSets_14 ⟨Nat.le_refl _, Nat.le_refl _⟩ rfl (fun H locs hS => ?_)
      refine lv_if_eq (tgt := 23) hx hb dX0_fullSets_17 (by decide) (fun hc => ?_) (fun hc => ?_)
      · rw [if_pos hc] at hF
        exact b_X0_fullSets_23 hC hr hlk hn ih _ _ _ _ _ _ hF hS (lv_sub hl [0, 1, 2] rfl)
      · rw [if_neg hc] at hF
        refine lv_iinc (v := x1 + 1) (lv' := [(1, .int (x1 + 1)), (0, .ref (G.1 56)), (2, .int x2)]) hx hb dX0_fullSets_20 hl (k := 1) rfl rfl (by decide) rfl (fun ls hl => ?_)
        exact b_X0_fullSets_23 hC hr hlk hn ih _ _ _ _ _ _ hF hS (lv_sub hl [1, 0, 2] rfl)
set_option maxHeartbeats 4000000 in
set_option maxRecDepth 100000 in
theorem b_X0_fullSets {M0 : Mem} {r0 : Int32} (hC : SX p m c s args cX0_fullSets 3 RX0 G (AG G)) (hr : meth.sig.returnType = (some .int)) (hlk : meth.locks = false) (hn : ∀ i ∈ LsF, i ∈ gL G) : ∀ (M : Mem) (H : Heap) (locs : List Loc) (ls : Array Slot), F_X0_fullSets M = some (r0, M0) → ST G (AG G) s M H locs → lv_has ls 3 [(0, .ref (G.1 56))] → W p l e (RM 1 21) s m args below meth c H locs 0 0 (MQ below (QV G (some (.int r0)) M0) args s 0 0 (AG G)) (F0 m 0 ls []) := by
  obtain ⟨⟨hx, hb, hml, hown, hts⟩, hK, hG, hA⟩ := id hC
  intro M H locs ls hF hS hl
  unfold F_X0_fullSets at hF
  refine lv_iconst (v := 0) hx hb dX0_fullSets_0 (by decide) ?_
  refine lv_istore_n (lv' := [(1, .int 0), (0, .ref (G.1 56))]) hx hb dX0_fullSets_1 rfl hl (by decide) rfl (fun ls hl => ?_)
  refine lv_iconst (v := 0) hx hb dX0_fullSets_2 (by decide) ?_
  refine lv_istore_n (lv' := [(2, .int 0), (1, .int 0), (0, .ref (G.1 56))]) hx hb dX0_fullSets_3 rfl hl (by decide) rfl (fun ls hl => ?_)
  exact b_X0_fullSets_4 hC hr hlk hn fu _ _ _ _ _ _ hF hS (lv_sub hl [2, 1, 0] rfl)
set_option maxRecDepth 100000 in
theorem c_X0_fullSets (l : Launch) (G : GT) (hn : ∀ i ∈ LsF, i ∈ gL G) (M : Mem) (r0 : Int32) (M0 : Mem) (hF : F_X0_fullSets M = some (r0, M0)) : MetG l G yX0_fullSets cX0_fullSets 3 (some .int) 1 21 [.ref (G.1 56)] M (some (.int r0)) M0 := by
  refine MetG.of (by decide) (Nat.le_of_ble_eq_true rfl) ?_
  intro p e s m args below meth c hC hr hlk hnm ls hS hl
  exact b_X0_fullSets hC hr hlk hn _ _ _ _ hF hS hl
def F_X0_fullSet_29 (k4 : Int32 → Int32 → Mem → Option (Int32 × Mem)) (x2 : Int32) (x3 : Int32) (M : Mem) : Option (Int32 × Mem) := k4 x2 (x3 + 1) M
def F_X0_fullSet_4 : Nat → Int32 → Int32 → Mem → Option (Int32 × Mem)
  | 0, _, _, _ => none
  | n + 1, x2, x3, M => if (M.1 6) < x3 then some ((-1), M) else bd (F_X0_isFullSet x3 M) (fun r14 M14 => if r14 = 0 then F_X0_fullSet_29 (F_X0_fullSet_4 n) x2 x3 M14 else if x2 = 0 then some (x3, M14) else F_X0_fullSet_29 (F_X0_fullSet_4 n) (x2 + (-1)) x3 M14)
def F_X0_fullSet (x1 : Int32) (M : Mem) : Option (Int32 × Mem) := F_X0_fullSet_4 fu x1 0 M
set_option maxHeartbeats 4000000 in
set_option maxRecDepth 100000 in
theorem b_X0_fullSet_29 {k4 : Int32 → Int32 → Mem → Option (Int32 × Mem)} {M0 : Mem} {r0 : Int32} (hC : SX p m c s args cX0_fullSet 4 RX0 G (AG G)) (hr : meth.sig.returnType = (some .int)) (hlk : meth.locks = false) (hn : ∀ i ∈ LsF, i ∈ gL G) (hk4 : ∀ (x2 : Int32) (x3 : Int32) (M : Mem) (H : Heap) (locs : List Loc) (ls : Array Slot), k4 x2 x3 M = some (r0, M0) → ST G (AG G) s M H locs → lv_has ls 4 [(0, .ref (G.1 56)), (2, .int x2), (3, .int x3)] → W p l e (RM 1 21) s m args below meth c H locs 0 0 (MQ below (QV G (some (.int r0)) M0) args s 0 0 (AG G)) (F0 m 4 ls [])) : ∀ (x2 : Int32) (x3 : Int32) (M : Mem) (H : Heap) (locs : List Loc) (ls : Array Slot), F_X0_fullSet_29 k4 x2 x3 M = some (r0, M0) → ST G (AG G) s M H locs → lv_has ls 4 [(0, .ref (G.1 56)), (2, .int x2), (3, .int x3)] → W p l e (RM 1 21) s m args below meth c H locs 0 0 (MQ below (QV G (some (.int r0)) M0) args s 0 0 (AG G)) (F0 m 29 ls []) := by
  obtain ⟨⟨hx, hb, hml, hown, hts⟩, hK, hG, hA⟩ := id hC
  intro x2 x3 M H locs ls hF hS hl
  unfold F_X0_fullSet_29 at hF
  refine lv_iinc (v := x3 + 1) (lv' := [(3, .int (x3 + 1)), (0, .ref (G.1 56)), (2, .int x2)]) hx hb dX0_fullSet_29 hl (k := 2) rfl rfl (by decide) rfl (fun ls hl => ?_)
  refine lv_goto (tgt := 4) hx hb dX0_fullSet_32 (by decide) ?_
  exact hk4 _ _ _ _ _ _ hF hS (lv_sub hl [1, 2, 0] rfl)
set_option maxHeartbeats 4000000 in
set_option maxRecDepth 100000 in
theorem b_X0_fullSet_4 {M0 : Mem} {r0 : Int32} (hC : SX p m c s args cX0_fullSet 4 RX0 G (AG G)) (hr : meth.sig.returnType = (some .int)) (hlk : meth.locks = false) (hn : ∀ i ∈ LsF, i ∈ gL G) : ∀ (n : Nat) (x2 : Int32) (x3 : Int32) (M : Mem) (H : Heap) (locs : List Loc) (ls : Array Slot), F_X0_fullSet_4 n x2 x3 M = some (r0, M0) → ST G (AG G) s M H locs → lv_has ls 4 [(0, .ref (G.1 56)), (2, .int x2), (3, .int x3)] → W p l e (RM 1 21) s m args below meth c H locs 0 0 (MQ below (QV G (some (.int r0)) M0) args s 0 0 (AG G)) (F0 m 4 ls []) := by
  obtain ⟨⟨hx, hb, hml, hown, hts⟩, hK, hG, hA⟩ := id hC
  intro n
  induction n with
  | zero =>
    intro x2 x3 M H locs ls hF
    cases hF
  | succ n ih =>
    intro x2 x3 M H locs ls hF hS hl
    unfold F_X0_fullSet_4 at hF
    refine lv_iload_n hx hb dX0_fullSet_4 rfl (lv_at hl 2 rfl) ?_
    refine lv_aload_n hx hb dX0_fullSet_5 rfl (lv_at hl 0 rfl) ?_
    refine gx (ci := 0) (k := 5) (v := .int (M.1 6)) (C := RX0) (T := TX0) (N := 6) hC hS (hn _ (by decide)) rfl rfl in_X0 (by decide) rfl rfl lf_X0_25 dX0_fullSet_6 ?_
    refine lv_icmp_gt (tgt := 35) hx hb dX0_fullSet_9 (by decide) (fun hc => ?_) (fun hc => ?_)
    · rw [if_pos hc] at hF
      refine lv_iconst (v := (-1)) hx hb dX0_fullSet_35 (by decide) ?_
      exact retI hC hS hr hlk hF dX0_fullSet_36
    · rw [if_neg hc] at hF
      refine lv_aload_n hx hb dX0_fullSet_12 rfl (lv_at hl 0 rfl) ?_
      refine lv_iload_n hx hb dX0_fullSet_13 rfl (lv_at hl 2 rfl) ?_
      obtain ⟨r14, M14, h14, hF⟩ := bd_some hF
      refine cV_ (ci := 0) (i := 56) (C := RX0) (T := TX0) (N := 6) (As := [.int x3]) (v := some (.int r14)) (rest := []) (st1 := [.int r14]) hC hS (hn _ (by decide)) rfl rfl (c_X0_isFullSet l G hn x3 M _ _ h14) kV_X0_isFullSet lm_X0_94 ⟨Nat.le_of_ble_eq_true rfl, Nat.le_of_ble_eq_true rfl⟩ rfl hl.1 (Nat.le_of_ble_eq_true rfl) dX0_fullSet_14 ⟨Nat.le_refl _, Nat.le_refl _⟩ rfl (fun H locs hS => ?_)
      refine lv_if_eq (tgt := 29) hx hb dX0_fullSet_17 (by decide) (fun hc => ?_) (fun hc => ?_)
      · rw [if_pos hc] at hF
        exact b_X0_fullSet_29 hC hr hlk hn ih _ _ _ _ _ _ hF hS (lv_sub hl [0, 1, 2] rfl)
      · rw [if_neg hc] at hF
        refine lv_iload_n hx hb dX0_fullSet_20 rfl (lv_at hl 1 rfl) ?_
        refine lv_if_ne (tgt := 26) hx hb dX0_fullSet_21 (by decide) (fun hc => ?_) (fun hc => ?_)
        · rw [if_neg hc] at hF
          refine lv_iinc (v := x2 + (-1)) (lv' := [(2, .int (x2 + (-1))), (0, .ref (G.1 56)), (3, .int x3)]) hx hb dX0_fullSet_26 hl (k := 1) rfl rfl (by decide) rfl (fun ls hl => ?_)
          exact b_X0_fullSet_29 hC hr hlk hn ih _ _ _ _ _ _ hF hS (lv_sub hl [1, 0, 2] rfl)
        · rw [if_pos hc] at hF
          refine lv_iload_n hx hb dX0_fullSet_24 rfl (lv_at hl 2 rfl) ?_
          exact retI hC hS hr hlk hF dX0_fullSet_25
set_option maxHeartbeats 4000000 in
set_option maxRecDepth 100000 in
theorem b_X0_fullSet {M0 : Mem} {r0 : Int32} (hC : SX p m c s args cX0_fullSet 4 RX0 G (AG G)) (hr : meth.sig.returnType = (some .int)) (hlk : meth.locks = false) (hn : ∀ i ∈ LsF, i ∈ gL G) : ∀ (x1 : Int32) (M : Mem) (H : Heap) (locs : List Loc) (ls : Array Slot), F_X0_fullSet x1 M = some (r0, M0) → ST G (AG G) s M H locs → lv_has ls 4 [(0, .ref (G.1 56)), (1, .int x1)] → W p l e (RM 1 21) s m args below meth c H locs 0 0 (MQ below (QV G (some (.int r0)) M0) args s 0 0 (AG G)) (F0 m 0 ls []) := by
  obtain ⟨⟨hx, hb, hml, hown, hts⟩, hK, hG, hA⟩ := id hC
  intro x1 M H locs ls hF hS hl
  unfold F_X0_fullSet at hF
  refine lv_iload_n hx hb dX0_fullSet_0 rfl (lv_at hl 1 rfl) ?_
  refine lv_istore_n (lv' := [(2, .int x1), (0, .ref (G.1 56)), (1, .int x1)]) hx hb dX0_fullSet_1 rfl hl (by decide) rfl (fun ls hl => ?_)
  refine lv_iconst (v := 0) hx hb dX0_fullSet_2 (by decide) ?_
  refine lv_istore_n (lv' := [(3, .int 0), (2, .int x1), (0, .ref (G.1 56)), (1, .int x1)]) hx hb dX0_fullSet_3 rfl hl (by decide) rfl (fun ls hl => ?_)
  exact b_X0_fullSet_4 hC hr hlk hn fu _ _ _ _ _ _ hF hS (lv_sub hl [2, 1, 0] rfl)
set_option maxRecDepth 100000 in
theorem c_X0_fullSet (l : Launch) (G : GT) (hn : ∀ i ∈ LsF, i ∈ gL G) (x1 : Int32) (M : Mem) (r0 : Int32) (M0 : Mem) (hF : F_X0_fullSet x1 M = some (r0, M0)) : MetG l G yX0_fullSet cX0_fullSet 4 (some .int) 1 21 [.ref (G.1 56), .int x1] M (some (.int r0)) M0 := by
  refine MetG.of (by decide) (Nat.le_of_ble_eq_true rfl) ?_
  intro p e s m args below meth c hC hr hlk hnm ls hS hl
  exact b_X0_fullSet hC hr hlk hn _ _ _ _ _ hF hS hl
def F_X0_firmness_51 (k7 : Int32 → Int32 → Int32 → Int32 → Mem → Option (Int32 × Mem)) (x1 : Int32) (x2 : Int32) (x3 : Int32) (x4 : Int32) (M : Mem) : Option (Int32 × Mem) := k7 x1 x2 x3 (x4 + 1) M
def F_X0_firmness_39 (k7 : Int32 → Int32 → Int32 → Int32 → Mem → Option (Int32 × Mem)) (x1 : Int32) (x2 : Int32) (x3 : Int32) (x4 : Int32) (t0 : Int32) (M : Mem) : Option (Int32 × Mem) := F_X0_firmness_51 k7 x1 (x2 &&& t0) (x3 ||| t0) x4 M
def F_X0_firmness_7 : Nat → Int32 → Int32 → Int32 → Int32 → Mem → Option (Int32 × Mem)
  | 0, _, _, _, _, _ => none
  | n + 1, x1, x2, x3, x4, M => if (M.1 6) < x4 then if x3 = 0 then some (0, M) else if x2 = 0 then some (1, M) else some (2, M) else bd (F_X0_isFullSet x4 M) (fun r19 M19 => if r19 = 0 then F_X0_firmness_51 (F_X0_firmness_7 n) x1 x2 x3 x4 M19 else if ((x4 >>> (x1 &&& 31)) &&& 1) = 0 then F_X0_firmness_39 (F_X0_firmness_7 n) x1 x2 x3 x4 0 M19 else F_X0_firmness_39 (F_X0_firmness_7 n) x1 x2 x3 x4 1 M19)
def F_X0_firmness (x1 : Int32) (M : Mem) : Option (Int32 × Mem) := F_X0_firmness_7 fu x1 1 0 0 M
set_option maxHeartbeats 4000000 in
set_option maxRecDepth 100000 in
theorem b_X0_firmness_51 {k7 : Int32 → Int32 → Int32 → Int32 → Mem → Option (Int32 × Mem)} {M0 : Mem} {r0 : Int32} (hC : SX p m c s args cX0_firmness 6 RX0 G (AG G)) (hr : meth.sig.returnType = (some .int)) (hlk : meth.locks = false) (hn : ∀ i ∈ LsF, i ∈ gL G) (hk7 : ∀ (x1 : Int32) (x2 : Int32) (x3 : Int32) (x4 : Int32) (M : Mem) (H : Heap) (locs : List Loc) (ls : Array Slot), k7 x1 x2 x3 x4 M = some (r0, M0) → ST G (AG G) s M H locs → lv_has ls 6 [(0, .ref (G.1 56)), (1, .int x1), (2, .int x2), (3, .int x3), (4, .int x4)] → W p l e (RM 1 21) s m args below meth c H locs 0 0 (MQ below (QV G (some (.int r0)) M0) args s 0 0 (AG G)) (F0 m 7 ls [])) : ∀ (x1 : Int32) (x2 : Int32) (x3 : Int32) (x4 : Int32) (M : Mem) (H : Heap) (locs : List Loc) (ls : Array Slot), F_X0_firmness_51 k7 x1 x2 x3 x4 M = some (r0, M0) → ST G (AG G) s M H locs → lv_has ls 6 [(0, .ref (G.1 56)), (1, .int x1), (2, .int x2), (3, .int x3), (4, .int x4)] → W p l e (RM 1 21) s m args below meth c H locs 0 0 (MQ below (QV G (some (.int r0)) M0) args s 0 0 (AG G)) (F0 m 51 ls []) := by
  obtain ⟨⟨hx, hb, hml, hown, hts⟩, hK, hG, hA⟩ := id hC
  intro x1 x2 x3 x4 M H locs ls hF hS hl
  unfold F_X0_firmness_51 at hF
  refine lv_iinc (v := x4 + 1) (lv' := [(4, .int (x4 + 1)), (0, .ref (G.1 56)), (1, .int x1), (2, .int x2), (3, .int x3)]) hx hb dX0_firmness_51 hl (k := 4) rfl rfl (by decide) rfl (fun ls hl => ?_)
  refine lv_goto (tgt := 7) hx hb dX0_firmness_54 (by decide) ?_
  exact hk7 _ _ _ _ _ _ _ _ hF hS (lv_sub hl [1, 2, 3, 4, 0] rfl)
set_option maxHeartbeats 4000000 in
set_option maxRecDepth 100000 in
theorem b_X0_firmness_39 {k7 : Int32 → Int32 → Int32 → Int32 → Mem → Option (Int32 × Mem)} {M0 : Mem} {r0 : Int32} (hC : SX p m c s args cX0_firmness 6 RX0 G (AG G)) (hr : meth.sig.returnType = (some .int)) (hlk : meth.locks = false) (hn : ∀ i ∈ LsF, i ∈ gL G) (hk7 : ∀ (x1 : Int32) (x2 : Int32) (x3 : Int32) (x4 : Int32) (M : Mem) (H : Heap) (locs : List Loc) (ls : Array Slot), k7 x1 x2 x3 x4 M = some (r0, M0) → ST G (AG G) s M H locs → lv_has ls 6 [(0, .ref (G.1 56)), (1, .int x1), (2, .int x2), (3, .int x3), (4, .int x4)] → W p l e (RM 1 21) s m args below meth c H locs 0 0 (MQ below (QV G (some (.int r0)) M0) args s 0 0 (AG G)) (F0 m 7 ls [])) : ∀ (x1 : Int32) (x2 : Int32) (x3 : Int32) (x4 : Int32) (t0 : Int32) (M : Mem) (H : Heap) (locs : List Loc) (ls : Array Slot), F_X0_firmness_39 k7 x1 x2 x3 x4 t0 M = some (r0, M0) → ST G (AG G) s M H locs → lv_has ls 6 [(0, .ref (G.1 56)), (1, .int x1), (2, .int x2), (3, .int x3), (4, .int x4)] → W p l e (RM 1 21) s m args below meth c H locs 0 0 (MQ below (QV G (some (.int r0)) M0) args s 0 0 (AG G)) (F0 m 39 ls [.int t0]) := by
  obtain ⟨⟨hx, hb, hml, hown, hts⟩, hK, hG, hA⟩ := id hC
  intro x1 x2 x3 x4 t0 M H locs ls hF hS hl
  unfold F_X0_firmness_39 at hF
  refine lv_istore (lv' := [(5, .int t0), (0, .ref (G.1 56)), (1, .int x1), (2, .int x2), (3, .int x3), (4, .int x4)]) hx hb dX0_firmness_39 hl (by decide) rfl (fun ls hl => ?_)
  refine lv_iload_n hx hb dX0_firmness_41 rfl (lv_at hl 3 rfl) ?_
  refine lv_iload hx hb dX0_firmness_42 (lv_at hl 0 rfl) ?_
  refine lv_iand hx hb dX0_firmness_44 ?_
  refine lv_istore_n (lv' := [(2, .int (x2 &&& t0)), (5, .int t0), (0, .ref (G.1 56)), (1, .int x1), (3, .int x3), (4, .int x4)]) hx hb dX0_firmness_45 rfl hl (by decide) rfl (fun ls hl => ?_)
  refine lv_iload_n hx hb dX0_firmness_46 rfl (lv_at hl 4 rfl) ?_
  refine lv_iload hx hb dX0_firmness_47 (lv_at hl 1 rfl) ?_
  refine lv_ior hx hb dX0_firmness_49 ?_
  refine lv_istore_n (lv' := [(3, .int (x3 ||| t0)), (2, .int (x2 &&& t0)), (5, .int t0), (0, .ref (G.1 56)), (1, .int x1), (4, .int x4)]) hx hb dX0_firmness_50 rfl hl (by decide) rfl (fun ls hl => ?_)
  exact b_X0_firmness_51 hC hr hlk hn hk7 _ _ _ _ _ _ _ _ hF hS (lv_sub hl [3, 4, 1, 0, 5] rfl)
set_option maxHeartbeats 4000000 in
set_option maxRecDepth 100000 in
theorem b_X0_firmness_7 {M0 : Mem} {r0 : Int32} (hC : SX p m c s args cX0_firmness 6 RX0 G (AG G)) (hr : meth.sig.returnType = (some .int)) (hlk : meth.locks = false) (hn : ∀ i ∈ LsF, i ∈ gL G) : ∀ (n : Nat) (x1 : Int32) (x2 : Int32) (x3 : Int32) (x4 : Int32) (M : Mem) (H : Heap) (locs : List Loc) (ls : Array Slot), F_X0_firmness_7 n x1 x2 x3 x4 M = some (r0, M0) → ST G (AG G) s M H locs → lv_has ls 6 [(0, .ref (G.1 56)), (1, .int x1), (2, .int x2), (3, .int x3), (4, .int x4)] → W p l e (RM 1 21) s m args below meth c H locs 0 0 (MQ below (QV G (some (.int r0)) M0) args s 0 0 (AG G)) (F0 m 7 ls []) := by
  obtain ⟨⟨hx, hb, hml, hown, hts⟩, hK, hG, hA⟩ := id hC
  intro n
  induction n with
  | zero =>
    intro x1 x2 x3 x4 M H locs ls hF
    cases hF
  | succ n ih =>
    intro x1 x2 x3 x4 M H locs ls hF hS hl
    unfold F_X0_firmness_7 at hF
    refine lv_iload hx hb dX0_firmness_7 (lv_at hl 4 rfl) ?_
    refine lv_aload_n hx hb dX0_firmness_9 rfl (lv_at hl 0 rfl) ?_
    refine gx (ci := 0) (k := 5) (v := .int (M.1 6)) (C := RX0) (T := TX0) (N := 6) hC hS (hn _ (by decide)) rfl rfl in_X0 (by decide) rfl rfl lf_X0_25 dX0_firmness_10 ?_
    refine lv_icmp_gt (tgt := 57) hx hb dX0_firmness_13 (by decide) (fun hc => ?_) (fun hc => ?_)
    · rw [if_pos hc] at hF
      refine lv_iload_n hx hb dX0_firmness_57 rfl (lv_at hl 3 rfl) ?_
      refine lv_if_eq (tgt := 73) hx hb dX0_firmness_58 (by decide) (fun hc => ?_) (fun hc => ?_)
      · rw [if_pos hc] at hF
        refine lv_iconst (v := 0) hx hb dX0_firmness_73 (by decide) ?_
        exact retI hC hS hr hlk hF dX0_firmness_74
      · rw [if_neg hc] at hF
        refine lv_iload_n hx hb dX0_firmness_61 rfl (lv_at hl 2 rfl) ?_
        refine lv_if_eq (tgt := 69) hx hb dX0_firmness_62 (by decide) (fun hc => ?_) (fun hc => ?_)
        · rw [if_pos hc] at hF
          refine lv_iconst (v := 1) hx hb dX0_firmness_69 (by decide) ?_
          refine lv_goto (tgt := 74) hx hb dX0_firmness_70 (by decide) ?_
          exact retI hC hS hr hlk hF dX0_firmness_74
        · rw [if_neg hc] at hF
          refine lv_iconst (v := 2) hx hb dX0_firmness_65 (by decide) ?_
          refine lv_goto (tgt := 74) hx hb dX0_firmness_66 (by decide) ?_
          exact retI hC hS hr hlk hF dX0_firmness_74
    · rw [if_neg hc] at hF
      refine lv_aload_n hx hb dX0_firmness_16 rfl (lv_at hl 0 rfl) ?_
      refine lv_iload hx hb dX0_firmness_17 (lv_at hl 4 rfl) ?_
      obtain ⟨r19, M19, h19, hF⟩ := bd_some hF
      refine cV_ (ci := 0) (i := 56) (C := RX0) (T := TX0) (N := 6) (As := [.int x4]) (v := some (.int r19)) (rest := []) (st1 := [.int r19]) hC hS (hn _ (by decide)) rfl rfl (c_X0_isFullSet l G hn x4 M _ _ h19) kV_X0_isFullSet lm_X0_94 ⟨Nat.le_of_ble_eq_true rfl, Nat.le_of_ble_eq_true rfl⟩ rfl hl.1 (Nat.le_of_ble_eq_true rfl) dX0_firmness_19 ⟨Nat.le_refl _, Nat.le_refl _⟩ rfl (fun H locs hS => ?_)
      refine lv_if_eq (tgt := 51) hx hb dX0_firmness_22 (by decide) (fun hc => ?_) (fun hc => ?_)
      · rw [if_pos hc] at hF
        exact b_X0_firmness_51 hC hr hlk hn ih _ _ _ _ _ _ _ _ hF hS (lv_sub hl [0, 1, 2, 3, 4] rfl)
      · rw [if_neg hc] at hF
        refine lv_iload hx hb dX0_firmness_25 (lv_at hl 4 rfl) ?_
        refine lv_iload_n hx hb dX0_firmness_27 rfl (lv_at hl 1 rfl) ?_
        refine lv_ishr hx hb dX0_firmness_28 ?_
        refine lv_iconst (v := 1) hx hb dX0_firmness_29 (by decide) ?_
        refine lv_iand hx hb dX0_firmness_30 ?_
        refine lv_if_eq (tgt := 38) hx hb dX0_firmness_31 (by decide) (fun hc => ?_) (fun hc => ?_)
        · rw [if_pos hc] at hF
          refine lv_iconst (v := 0) hx hb dX0_firmness_38 (by decide) ?_
          exact b_X0_firmness_39 hC hr hlk hn ih _ _ _ _ _ _ _ _ _ hF hS (lv_sub hl [0, 1, 2, 3, 4] rfl)
        · rw [if_neg hc] at hF
          refine lv_iconst (v := 1) hx hb dX0_firmness_34 (by decide) ?_
          refine lv_goto (tgt := 39) hx hb dX0_firmness_35 (by decide) ?_
          exact b_X0_firmness_39 hC hr hlk hn ih _ _ _ _ _ _ _ _ _ hF hS (lv_sub hl [0, 1, 2, 3, 4] rfl)
set_option maxHeartbeats 4000000 in
set_option maxRecDepth 100000 in
theorem b_X0_firmness {M0 : Mem} {r0 : Int32} (hC : SX p m c s args cX0_firmness 6 RX0 G (AG G)) (hr : meth.sig.returnType = (some .int)) (hlk : meth.locks = false) (hn : ∀ i ∈ LsF, i ∈ gL G) : ∀ (x1 : Int32) (M : Mem) (H : Heap) (locs : List Loc) (ls : Array Slot), F_X0_firmness x1 M = some (r0, M0) → ST G (AG G) s M H locs → lv_has ls 6 [(0, .ref (G.1 56)), (1, .int x1)] → W p l e (RM 1 21) s m args below meth c H locs 0 0 (MQ below (QV G (some (.int r0)) M0) args s 0 0 (AG G)) (F0 m 0 ls []) := by
  obtain ⟨⟨hx, hb, hml, hown, hts⟩, hK, hG, hA⟩ := id hC
  intro x1 M H locs ls hF hS hl
  unfold F_X0_firmness at hF
  refine lv_iconst (v := 1) hx hb dX0_firmness_0 (by decide) ?_
  refine lv_istore_n (lv' := [(2, .int 1), (0, .ref (G.1 56)), (1, .int x1)]) hx hb dX0_firmness_1 rfl hl (by decide) rfl (fun ls hl => ?_)
  refine lv_iconst (v := 0) hx hb dX0_firmness_2 (by decide) ?_
  refine lv_istore_n (lv' := [(3, .int 0), (2, .int 1), (0, .ref (G.1 56)), (1, .int x1)]) hx hb dX0_firmness_3 rfl hl (by decide) rfl (fun ls hl => ?_)
  refine lv_iconst (v := 0) hx hb dX0_firmness_4 (by decide) ?_
  refine lv_istore (lv' := [(4, .int 0), (3, .int 0), (2, .int 1), (0, .ref (G.1 56)), (1, .int x1)]) hx hb dX0_firmness_5 hl (by decide) rfl (fun ls hl => ?_)
  exact b_X0_firmness_7 hC hr hlk hn fu _ _ _ _ _ _ _ _ hF hS (lv_sub hl [3, 4, 2, 1, 0] rfl)
set_option maxRecDepth 100000 in
theorem c_X0_firmness (l : Launch) (G : GT) (hn : ∀ i ∈ LsF, i ∈ gL G) (x1 : Int32) (M : Mem) (r0 : Int32) (M0 : Mem) (hF : F_X0_firmness x1 M = some (r0, M0)) : MetG l G yX0_firmness cX0_firmness 6 (some .int) 1 21 [.ref (G.1 56), .int x1] M (some (.int r0)) M0 := by
  refine MetG.of (by decide) (Nat.le_of_ble_eq_true rfl) ?_
  intro p e s m args below meth c hC hr hlk hnm ls hS hl
  exact b_X0_firmness hC hr hlk hn _ _ _ _ _ hF hS hl
def F_X0_onRings_85 : Nat → Int32 → Int32 → Mem → Option (Int32 × Mem)
  | 0, _, _, _ => none
  | n + 1, x1, x2, M => if (M.1 0) ≤ x2 then some (x1, M) else ckb (ix x2 10) (F_X0_onRings_85 n (x1 ||| ((M.2 16 x2.toNatClampNeg) &&& ((1 : Int32) <<< (x2 &&& 31)))) (x2 + 1) M)
def F_X0_onRings_69 (k17 : Int32 → Mem → Option (Int32 × Mem)) (k30 : Int32 → Int32 → Mem → Option (Int32 × Mem)) (x1 : Int32) (x2 : Int32) (M : Mem) : Option (Int32 × Mem) := k30 x1 (x2 + 1) M
def F_X0_onRings_30 (k17 : Int32 → Mem → Option (Int32 × Mem)) : Nat → Int32 → Int32 → Mem → Option (Int32 × Mem)
  | 0, _, _, _ => none
  | n + 1, x1, x2, M => if (M.1 0) ≤ x2 then k17 (x1 + 1) M else ckb (ix x2 10) (if (((M.2 16 x2.toNatClampNeg) >>> (x1 &&& 31)) &&& 1) = 0 then F_X0_onRings_69 k17 (F_X0_onRings_30 k17 n) x1 x2 M else ckb (ix x2 10) (ckb (ix x1 10) (ckb (ix x2 10) (F_X0_onRings_69 k17 (F_X0_onRings_30 k17 n) x1 x2 (sa M 16 x2.toNatClampNeg ((M.2 16 x2.toNatClampNeg) ||| (M.2 16 x1.toNatClampNeg)))))))
def F_X0_onRings_17 : Nat → Int32 → Mem → Option (Int32 × Mem)
  | 0, _, _ => none
  | n + 1, x1, M => if (M.1 0) ≤ x1 then F_X0_onRings_85 fu 0 0 M else F_X0_onRings_30 (F_X0_onRings_17 n) fu x1 0 M
def F_X0_onRings (M : Mem) : Option (Int32 × Mem) := ckb (cpok 0 10 0 10 10) (F_X0_onRings_17 fu 0 (sr M 16 (va_cpy (M.2 14) (M.2 16) (0 : Int32).toNatClampNeg (0 : Int32).toNatClampNeg (10 : Int32).toNatClampNeg)))
set_option maxHeartbeats 4000000 in
set_option maxRecDepth 100000 in
theorem b_X0_onRings_85 {M0 : Mem} {r0 : Int32} (hC : SX p m c s args cX0_onRings 3 RX0 G (AG G)) (hr : meth.sig.returnType = (some .int)) (hlk : meth.locks = false) (hn : ∀ i ∈ LsF, i ∈ gL G) : ∀ (n : Nat) (x1 : Int32) (x2 : Int32) (M : Mem) (H : Heap) (locs : List Loc) (ls : Array Slot), F_X0_onRings_85 n x1 x2 M = some (r0, M0) → ST G (AG G) s M H locs → lv_has ls 3 [(0, .ref (G.1 56)), (1, .int x1), (2, .int x2)] → W p l e (RM 1 60) s m args below meth c H locs 0 0 (MQ below (QV G (some (.int r0)) M0) args s 0 0 (AG G)) (F0 m 85 ls []) := by
  obtain ⟨⟨hx, hb, hml, hown, hts⟩, hK, hG, hA⟩ := id hC
  intro n
  induction n with
  | zero =>
    intro x1 x2 M H locs ls hF
    cases hF
  | succ n ih =>
    intro x1 x2 M H locs ls hF hS hl
    unfold F_X0_onRings_85 at hF
    refine lv_iload_n hx hb dX0_onRings_85 rfl (lv_at hl 2 rfl) ?_
    refine lv_aload_n hx hb dX0_onRings_86 rfl (lv_at hl 0 rfl) ?_
    refine gx (ci := 0) (k := 0) (v := .ref (G.1 52)) (C := RX0) (T := TX0) (N := 6) hC hS (hn _ (by decide)) rfl rfl in_X0 (by decide) rfl rfl lf_X0_29 dX0_onRings_87 ?_
    refine gxN (ci := 5) (k := 10) (v := .int (M.1 0)) (C := RX5) (T := TX5) (N := 13) hC hS (hn _ (by decide)) rfl rfl in_X5 (by decide) rfl rfl ln_X0_39 dX0_onRings_90 ?_
    refine lv_icmp_ge (tgt := 115) hx hb dX0_onRings_93 (by decide) (fun hc => ?_) (fun hc => ?_)
    · rw [if_pos hc] at hF
      refine lv_iload_n hx hb dX0_onRings_115 rfl (lv_at hl 1 rfl) ?_
      exact retI hC hS hr hlk hF dX0_onRings_116
    · rw [if_neg hc] at hF
      refine lv_iload_n hx hb dX0_onRings_96 rfl (lv_at hl 1 rfl) ?_
      refine lv_aload_n hx hb dX0_onRings_97 rfl (lv_at hl 0 rfl) ?_
      refine gx (ci := 0) (k := 3) (v := .ref (G.1 16)) (C := RX0) (T := TX0) (N := 6) hC hS (hn _ (by decide)) rfl rfl in_X0 (by decide) rfl rfl lf_X0_18 dX0_onRings_98 ?_
      refine lv_iload_n hx hb dX0_onRings_101 rfl (lv_at hl 2 rfl) ?_
      obtain ⟨hi, hF⟩ := ckb_some hF
      refine ald hC hS (hn _ (by decide)) (by decide) rfl hi dX0_onRings_102 ?_
      refine lv_iconst (v := 1) hx hb dX0_onRings_103 (by decide) ?_
      refine lv_iload_n hx hb dX0_onRings_104 rfl (lv_at hl 2 rfl) ?_
      refine lv_ishl hx hb dX0_onRings_105 ?_
      refine lv_iand hx hb dX0_onRings_106 ?_
      refine lv_ior hx hb dX0_onRings_107 ?_
      refine lv_istore_n (lv' := [(1, .int (x1 ||| ((M.2 16 x2.toNatClampNeg) &&& ((1 : Int32) <<< (x2 &&& 31))))), (0, .ref (G.1 56)), (2, .int x2)]) hx hb dX0_onRings_108 rfl hl (by decide) rfl (fun ls hl => ?_)
      refine lv_iinc (v := x2 + 1) (lv' := [(2, .int (x2 + 1)), (1, .int (x1 ||| ((M.2 16 x2.toNatClampNeg) &&& ((1 : Int32) <<< (x2 &&& 31))))), (0, .ref (G.1 56))]) hx hb dX0_onRings_109 hl (k := 2) rfl rfl (by decide) rfl (fun ls hl => ?_)
      refine lv_goto (tgt := 85) hx hb dX0_onRings_112 (by decide) ?_
      exact ih _ _ _ _ _ _ hF hS (lv_sub hl [2, 1, 0] rfl)
set_option maxHeartbeats 4000000 in
set_option maxRecDepth 100000 in
theorem b_X0_onRings_69 {k17 : Int32 → Mem → Option (Int32 × Mem)} {k30 : Int32 → Int32 → Mem → Option (Int32 × Mem)} {M0 : Mem} {r0 : Int32} (hC : SX p m c s args cX0_onRings 3 RX0 G (AG G)) (hr : meth.sig.returnType = (some .int)) (hlk : meth.locks = false) (hn : ∀ i ∈ LsF, i ∈ gL G) (hk17 : ∀ (x1 : Int32) (M : Mem) (H : Heap) (locs : List Loc) (ls : Array Slot), k17 x1 M = some (r0, M0) → ST G (AG G) s M H locs → lv_has ls 3 [(0, .ref (G.1 56)), (1, .int x1)] → W p l e (RM 1 60) s m args below meth c H locs 0 0 (MQ below (QV G (some (.int r0)) M0) args s 0 0 (AG G)) (F0 m 17 ls [])) (hk30 : ∀ (x1 : Int32) (x2 : Int32) (M : Mem) (H : Heap) (locs : List Loc) (ls : Array Slot), k30 x1 x2 M = some (r0, M0) → ST G (AG G) s M H locs → lv_has ls 3 [(0, .ref (G.1 56)), (1, .int x1), (2, .int x2)] → W p l e (RM 1 60) s m args below meth c H locs 0 0 (MQ below (QV G (some (.int r0)) M0) args s 0 0 (AG G)) (F0 m 30 ls [])) : ∀ (x1 : Int32) (x2 : Int32) (M : Mem) (H : Heap) (locs : List Loc) (ls : Array Slot), F_X0_onRings_69 k17 k30 x1 x2 M = some (r0, M0) → ST G (AG G) s M H locs → lv_has ls 3 [(0, .ref (G.1 56)), (1, .int x1), (2, .int x2)] → W p l e (RM 1 60) s m args below meth c H locs 0 0 (MQ below (QV G (some (.int r0)) M0) args s 0 0 (AG G)) (F0 m 69 ls []) := by
  obtain ⟨⟨hx, hb, hml, hown, hts⟩, hK, hG, hA⟩ := id hC
  intro x1 x2 M H locs ls hF hS hl
  unfold F_X0_onRings_69 at hF
  refine lv_iinc (v := x2 + 1) (lv' := [(2, .int (x2 + 1)), (0, .ref (G.1 56)), (1, .int x1)]) hx hb dX0_onRings_69 hl (k := 2) rfl rfl (by decide) rfl (fun ls hl => ?_)
  refine lv_goto (tgt := 30) hx hb dX0_onRings_72 (by decide) ?_
  exact hk30 _ _ _ _ _ _ hF hS (lv_sub hl [1, 2, 0] rfl)
set_option maxHeartbeats 4000000 in
set_option maxRecDepth 100000 in
theorem b_X0_onRings_30 {k17 : Int32 → Mem → Option (Int32 × Mem)} {M0 : Mem} {r0 : Int32} (hC : SX p m c s args cX0_onRings 3 RX0 G (AG G)) (hr : meth.sig.returnType = (some .int)) (hlk : meth.locks = false) (hn : ∀ i ∈ LsF, i ∈ gL G) (hk17 : ∀ (x1 : Int32) (M : Mem) (H : Heap) (locs : List Loc) (ls : Array Slot), k17 x1 M = some (r0, M0) → ST G (AG G) s M H locs → lv_has ls 3 [(0, .ref (G.1 56)), (1, .int x1)] → W p l e (RM 1 60) s m args below meth c H locs 0 0 (MQ below (QV G (some (.int r0)) M0) args s 0 0 (AG G)) (F0 m 17 ls [])) : ∀ (n : Nat) (x1 : Int32) (x2 : Int32) (M : Mem) (H : Heap) (locs : List Loc) (ls : Array Slot), F_X0_onRings_30 k17 n x1 x2 M = some (r0, M0) → ST G (AG G) s M H locs → lv_has ls 3 [(0, .ref (G.1 56)), (1, .int x1), (2, .int x2)] → W p l e (RM 1 60) s m args below meth c H locs 0 0 (MQ below (QV G (some (.int r0)) M0) args s 0 0 (AG G)) (F0 m 30 ls []) := by
  obtain ⟨⟨hx, hb, hml, hown, hts⟩, hK, hG, hA⟩ := id hC
  intro n
  induction n with
  | zero =>
    intro x1 x2 M H locs ls hF
    cases hF
  | succ n ih =>
    intro x1 x2 M H locs ls hF hS hl
    unfold F_X0_onRings_30 at hF
    refine lv_iload_n hx hb dX0_onRings_30 rfl (lv_at hl 2 rfl) ?_
    refine lv_aload_n hx hb dX0_onRings_31 rfl (lv_at hl 0 rfl) ?_
    refine gx (ci := 0) (k := 0) (v := .ref (G.1 52)) (C := RX0) (T := TX0) (N := 6) hC hS (hn _ (by decide)) rfl rfl in_X0 (by decide) rfl rfl lf_X0_29 dX0_onRings_32 ?_
    refine gxN (ci := 5) (k := 10) (v := .int (M.1 0)) (C := RX5) (T := TX5) (N := 13) hC hS (hn _ (by decide)) rfl rfl in_X5 (by decide) rfl rfl ln_X0_39 dX0_onRings_35 ?_
    refine lv_icmp_ge (tgt := 75) hx hb dX0_onRings_38 (by decide) (fun hc => ?_) (fun hc => ?_)
    · rw [if_pos hc] at hF
      refine lv_iinc (v := x1 + 1) (lv' := [(1, .int (x1 + 1)), (0, .ref (G.1 56)), (2, .int x2)]) hx hb dX0_onRings_75 hl (k := 1) rfl rfl (by decide) rfl (fun ls hl => ?_)
      refine lv_goto (tgt := 17) hx hb dX0_onRings_78 (by decide) ?_
      exact hk17 _ _ _ _ _ hF hS (lv_sub hl [1, 0] rfl)
    · rw [if_neg hc] at hF
      refine lv_aload_n hx hb dX0_onRings_41 rfl (lv_at hl 0 rfl) ?_
      refine gx (ci := 0) (k := 3) (v := .ref (G.1 16)) (C := RX0) (T := TX0) (N := 6) hC hS (hn _ (by decide)) rfl rfl in_X0 (by decide) rfl rfl lf_X0_18 dX0_onRings_42 ?_
      refine lv_iload_n hx hb dX0_onRings_45 rfl (lv_at hl 2 rfl) ?_
      obtain ⟨hi, hF⟩ := ckb_some hF
      refine ald hC hS (hn _ (by decide)) (by decide) rfl hi dX0_onRings_46 ?_
      refine lv_iload_n hx hb dX0_onRings_47 rfl (lv_at hl 1 rfl) ?_
      refine lv_ishr hx hb dX0_onRings_48 ?_
      refine lv_iconst (v := 1) hx hb dX0_onRings_49 (by decide) ?_
      refine lv_iand hx hb dX0_onRings_50 ?_
      refine lv_if_eq (tgt := 69) hx hb dX0_onRings_51 (by decide) (fun hc => ?_) (fun hc => ?_)
      · rw [if_pos hc] at hF
        exact b_X0_onRings_69 hC hr hlk hn hk17 ih _ _ _ _ _ _ hF hS (lv_sub hl [0, 1, 2] rfl)
      · rw [if_neg hc] at hF
        refine lv_aload_n hx hb dX0_onRings_54 rfl (lv_at hl 0 rfl) ?_
        refine gx (ci := 0) (k := 3) (v := .ref (G.1 16)) (C := RX0) (T := TX0) (N := 6) hC hS (hn _ (by decide)) rfl rfl in_X0 (by decide) rfl rfl lf_X0_18 dX0_onRings_55 ?_
        refine lv_iload_n hx hb dX0_onRings_58 rfl (lv_at hl 2 rfl) ?_
        refine lv_dup2_11 hx hb dX0_onRings_59 rfl rfl ?_
        obtain ⟨hi, hF⟩ := ckb_some hF
        refine ald hC hS (hn _ (by decide)) (by decide) rfl hi dX0_onRings_60 ?_
        refine lv_aload_n hx hb dX0_onRings_61 rfl (lv_at hl 0 rfl) ?_
        refine gx (ci := 0) (k := 3) (v := .ref (G.1 16)) (C := RX0) (T := TX0) (N := 6) hC hS (hn _ (by decide)) rfl rfl in_X0 (by decide) rfl rfl lf_X0_18 dX0_onRings_62 ?_
        refine lv_iload_n hx hb dX0_onRings_65 rfl (lv_at hl 1 rfl) ?_
        obtain ⟨hi, hF⟩ := ckb_some hF
        refine ald hC hS (hn _ (by decide)) (by decide) rfl hi dX0_onRings_66 ?_
        refine lv_ior hx hb dX0_onRings_67 ?_
        obtain ⟨hi, hF⟩ := ckb_some hF
        refine ast hC hS (hn _ (by decide)) (by decide) rfl hi dX0_onRings_68 (fun H locs hS => ?_)
        exact b_X0_onRings_69 hC hr hlk hn hk17 ih _ _ _ _ _ _ hF hS (lv_sub hl [0, 1, 2] rfl)
set_option maxHeartbeats 4000000 in
set_option maxRecDepth 100000 in
theorem b_X0_onRings_17 {M0 : Mem} {r0 : Int32} (hC : SX p m c s args cX0_onRings 3 RX0 G (AG G)) (hr : meth.sig.returnType = (some .int)) (hlk : meth.locks = false) (hn : ∀ i ∈ LsF, i ∈ gL G) : ∀ (n : Nat) (x1 : Int32) (M : Mem) (H : Heap) (locs : List Loc) (ls : Array Slot), F_X0_onRings_17 n x1 M = some (r0, M0) → ST G (AG G) s M H locs → lv_has ls 3 [(0, .ref (G.1 56)), (1, .int x1)] → W p l e (RM 1 60) s m args below meth c H locs 0 0 (MQ below (QV G (some (.int r0)) M0) args s 0 0 (AG G)) (F0 m 17 ls []) := by
  obtain ⟨⟨hx, hb, hml, hown, hts⟩, hK, hG, hA⟩ := id hC
  intro n
  induction n with
  | zero =>
    intro x1 M H locs ls hF
    cases hF
  | succ n ih =>
    intro x1 M H locs ls hF hS hl
    unfold F_X0_onRings_17 at hF
    refine lv_iload_n hx hb dX0_onRings_17 rfl (lv_at hl 1 rfl) ?_
    refine lv_aload_n hx hb dX0_onRings_18 rfl (lv_at hl 0 rfl) ?_
    refine gx (ci := 0) (k := 0) (v := .ref (G.1 52)) (C := RX0) (T := TX0) (N := 6) hC hS (hn _ (by decide)) rfl rfl in_X0 (by decide) rfl rfl lf_X0_29 dX0_onRings_19 ?_
    refine gxN (ci := 5) (k := 10) (v := .int (M.1 0)) (C := RX5) (T := TX5) (N := 13) hC hS (hn _ (by decide)) rfl rfl in_X5 (by decide) rfl rfl ln_X0_39 dX0_onRings_22 ?_
    refine lv_icmp_ge (tgt := 81) hx hb dX0_onRings_25 (by decide) (fun hc => ?_) (fun hc => ?_)
    · rw [if_pos hc] at hF
      refine lv_iconst (v := 0) hx hb dX0_onRings_81 (by decide) ?_
      refine lv_istore_n (lv' := [(1, .int 0), (0, .ref (G.1 56))]) hx hb dX0_onRings_82 rfl hl (by decide) rfl (fun ls hl => ?_)
      refine lv_iconst (v := 0) hx hb dX0_onRings_83 (by decide) ?_
      refine lv_istore_n (lv' := [(2, .int 0), (1, .int 0), (0, .ref (G.1 56))]) hx hb dX0_onRings_84 rfl hl (by decide) rfl (fun ls hl => ?_)
      exact b_X0_onRings_85 hC hr hlk hn fu _ _ _ _ _ _ hF hS (lv_sub hl [2, 1, 0] rfl)
    · rw [if_neg hc] at hF
      refine lv_iconst (v := 0) hx hb dX0_onRings_28 (by decide) ?_
      refine lv_istore_n (lv' := [(2, .int 0), (0, .ref (G.1 56)), (1, .int x1)]) hx hb dX0_onRings_29 rfl hl (by decide) rfl (fun ls hl => ?_)
      exact b_X0_onRings_30 hC hr hlk hn ih fu _ _ _ _ _ _ hF hS (lv_sub hl [1, 2, 0] rfl)
set_option maxHeartbeats 4000000 in
set_option maxRecDepth 100000 in
theorem b_X0_onRings {M0 : Mem} {r0 : Int32} (hC : SX p m c s args cX0_onRings 3 RX0 G (AG G)) (hr : meth.sig.returnType = (some .int)) (hlk : meth.locks = false) (hn : ∀ i ∈ LsF, i ∈ gL G) : ∀ (M : Mem) (H : Heap) (locs : List Loc) (ls : Array Slot), F_X0_onRings M = some (r0, M0) → ST G (AG G) s M H locs → lv_has ls 3 [(0, .ref (G.1 56))] → W p l e (RM 1 60) s m args below meth c H locs 0 0 (MQ below (QV G (some (.int r0)) M0) args s 0 0 (AG G)) (F0 m 0 ls []) := by
  obtain ⟨⟨hx, hb, hml, hown, hts⟩, hK, hG, hA⟩ := id hC
  intro M H locs ls hF hS hl
  unfold F_X0_onRings at hF
  refine lv_aload_n hx hb dX0_onRings_0 rfl (lv_at hl 0 rfl) ?_
  refine gx (ci := 0) (k := 1) (v := .ref (G.1 14)) (C := RX0) (T := TX0) (N := 6) hC hS (hn _ (by decide)) rfl rfl in_X0 (by decide) rfl rfl lf_X0_9 dX0_onRings_1 ?_
  refine lv_iconst (v := 0) hx hb dX0_onRings_4 (by decide) ?_
  refine lv_aload_n hx hb dX0_onRings_5 rfl (lv_at hl 0 rfl) ?_
  refine gx (ci := 0) (k := 3) (v := .ref (G.1 16)) (C := RX0) (T := TX0) (N := 6) hC hS (hn _ (by decide)) rfl rfl in_X0 (by decide) rfl rfl lf_X0_18 dX0_onRings_6 ?_
  refine lv_iconst (v := 0) hx hb dX0_onRings_9 (by decide) ?_
  refine lv_bipush (v := 10) hx hb dX0_onRings_10 (by decide) ?_
  obtain ⟨hi, hF⟩ := ckb_some hF
  refine cpy_ (rest := []) hC hS lm_X0_97 (hn _ (by decide)) (by decide) rfl (hn _ (by decide)) (by decide) rfl hi (Nat.le_of_ble_eq_true rfl) (Nat.le_of_ble_eq_true rfl) hl.1 dX0_onRings_12 (fun H locs hS => ?_)
  refine lv_iconst (v := 0) hx hb dX0_onRings_15 (by decide) ?_
  refine lv_istore_n (lv' := [(1, .int 0), (0, .ref (G.1 56))]) hx hb dX0_onRings_16 rfl hl (by decide) rfl (fun ls hl => ?_)
  exact b_X0_onRings_17 hC hr hlk hn fu _ _ _ _ _ hF hS (lv_sub hl [1, 0] rfl)
set_option maxRecDepth 100000 in
theorem c_X0_onRings (l : Launch) (G : GT) (hn : ∀ i ∈ LsF, i ∈ gL G) (M : Mem) (r0 : Int32) (M0 : Mem) (hF : F_X0_onRings M = some (r0, M0)) : MetG l G yX0_onRings cX0_onRings 3 (some .int) 1 60 [.ref (G.1 56)] M (some (.int r0)) M0 := by
  refine MetG.of (by decide) (Nat.le_of_ble_eq_true rfl) ?_
  intro p e s m args below meth c hC hr hlk hnm ls hS hl
  exact b_X0_onRings hC hr hlk hn _ _ _ _ hF hS hl
end
