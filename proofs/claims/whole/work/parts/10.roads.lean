section
variable {p : Program} {l : Launch} {e : Env} {s : State} {m : MethodId} {args : Array Value} {below : List Frame} {meth : Method} {c : Code} {G : GT}
def F_X3_shortenThrough_70 (k2 : Int32 → Int32 → Mem → Option Mem) (k10 : Int32 → Int32 → Int32 → Mem → Option Mem) (x1 : Int32) (x2 : Int32) (x3 : Int32) (M : Mem) : Option Mem := k10 x1 x2 (x3 + 1) M
def F_X3_shortenThrough_10 (k2 : Int32 → Int32 → Mem → Option Mem) : Nat → Int32 → Int32 → Int32 → Mem → Option Mem
  | 0, _, _, _, _ => none
  | n + 1, x1, x2, x3, M => if 6 ≤ x3 then k2 x1 (x2 + 1) M else ckb (ix ((x2 * 6) + x1) 36) (ckb (ix ((x1 * 6) + x3) 36) (ckb (ix ((x2 * 6) + x3) 36) (if (M.2 1 ((x2 * 6) + x3).toNatClampNeg) ≤ ((M.2 1 ((x2 * 6) + x1).toNatClampNeg) + (M.2 1 ((x1 * 6) + x3).toNatClampNeg)) then F_X3_shortenThrough_70 k2 (F_X3_shortenThrough_10 k2 n) x1 x2 x3 M else ckb (ix ((x2 * 6) + x3) 36) (F_X3_shortenThrough_70 k2 (F_X3_shortenThrough_10 k2 n) x1 x2 x3 (sa M 1 ((x2 * 6) + x3).toNatClampNeg ((M.2 1 ((x2 * 6) + x1).toNatClampNeg) + (M.2 1 ((x1 * 6) + x3).toNatClampNeg)))))))
def F_X3_shortenThrough_2 : Nat → Int32 → Int32 → Mem → Option Mem
  | 0, _, _, _ => none
  | n + 1, x1, x2, M => if 6 ≤ x2 then some M else F_X3_shortenThrough_10 (F_X3_shortenThrough_2 n) fu x1 x2 0 M
def F_X3_shortenThrough (x1 : Int32) (M : Mem) : Option Mem := F_X3_shortenThrough_2 fu x1 0 M
set_option maxHeartbeats 4000000 in
set_option maxRecDepth 100000 in
theorem b_X3_shortenThrough_70 {k2 : Int32 → Int32 → Mem → Option Mem} {k10 : Int32 → Int32 → Int32 → Mem → Option Mem} {M0 : Mem} (hC : SX p m c s args cX3_shortenThrough 5 RX3 G (AG G)) (hr : meth.sig.returnType = none) (hlk : meth.locks = false) (hn : ∀ i ∈ LsR, i ∈ gL G) (hk2 : ∀ (x1 : Int32) (x2 : Int32) (M : Mem) (H : Heap) (locs : List Loc) (ls : Array Slot), k2 x1 x2 M = some M0 → ST G (AG G) s M H locs → lv_has ls 5 [(0, .ref (G.1 51)), (1, .int x1), (2, .int x2)] → W p l e (RM 0 0) s m args below meth c H locs 0 0 (MQ below (QV G none M0) args s 0 0 (AG G)) (F0 m 2 ls [])) (hk10 : ∀ (x1 : Int32) (x2 : Int32) (x3 : Int32) (M : Mem) (H : Heap) (locs : List Loc) (ls : Array Slot), k10 x1 x2 x3 M = some M0 → ST G (AG G) s M H locs → lv_has ls 5 [(0, .ref (G.1 51)), (1, .int x1), (2, .int x2), (3, .int x3)] → W p l e (RM 0 0) s m args below meth c H locs 0 0 (MQ below (QV G none M0) args s 0 0 (AG G)) (F0 m 10 ls [])) : ∀ (x1 : Int32) (x2 : Int32) (x3 : Int32) (M : Mem) (H : Heap) (locs : List Loc) (ls : Array Slot), F_X3_shortenThrough_70 k2 k10 x1 x2 x3 M = some M0 → ST G (AG G) s M H locs → lv_has ls 5 [(0, .ref (G.1 51)), (1, .int x1), (2, .int x2), (3, .int x3)] → W p l e (RM 0 0) s m args below meth c H locs 0 0 (MQ below (QV G none M0) args s 0 0 (AG G)) (F0 m 70 ls []) := by
  obtain ⟨⟨hx, hb, hml, hown, hts⟩, hK, hG, hA⟩ := id hC
  intro x1 x2 x3 M H locs ls hF hS hl
  unfold F_X3_shortenThrough_70 at hF
  refine lv_iinc (v := x3 + 1) (lv' := [(3, .int (x3 + 1)), (0, .ref (G.1 51)), (1, .int x1), (2, .int x2)]) hx hb dX3_shortenThrough_70 hl (k := 3) rfl rfl (by decide) rfl (fun ls hl => ?_)
  refine lv_goto (tgt := 10) hx hb dX3_shortenThrough_73 (by decide) ?_
  exact hk10 _ _ _ _ _ _ _ hF hS (lv_sub hl [1, 2, 3, 0] rfl)
set_option maxHeartbeats 4000000 in
set_option maxRecDepth 100000 in
theorem b_X3_shortenThrough_10 {k2 : Int32 → Int32 → Mem → Option Mem} {M0 : Mem} (hC : SX p m c s args cX3_shortenThrough 5 RX3 G (AG G)) (hr : meth.sig.returnType = none) (hlk : meth.locks = false) (hn : ∀ i ∈ LsR, i ∈ gL G) (hk2 : ∀ (x1 : Int32) (x2 : Int32) (M : Mem) (H : Heap) (locs : List Loc) (ls : Array Slot), k2 x1 x2 M = some M0 → ST G (AG G) s M H locs → lv_has ls 5 [(0, .ref (G.1 51)), (1, .int x1), (2, .int x2)] → W p l e (RM 0 0) s m args below meth c H locs 0 0 (MQ below (QV G none M0) args s 0 0 (AG G)) (F0 m 2 ls [])) : ∀ (n : Nat) (x1 : Int32) (x2 : Int32) (x3 : Int32) (M : Mem) (H : Heap) (locs : List Loc) (ls : Array Slot), F_X3_shortenThrough_10 k2 n x1 x2 x3 M = some M0 → ST G (AG G) s M H locs → lv_has ls 5 [(0, .ref (G.1 51)), (1, .int x1), (2, .int x2), (3, .int x3)] → W p l e (RM 0 0) s m args below meth c H locs 0 0 (MQ below (QV G none M0) args s 0 0 (AG G)) (F0 m 10 ls []) := by
  obtain ⟨⟨hx, hb, hml, hown, hts⟩, hK, hG, hA⟩ := id hC
  intro n
  induction n with
  | zero =>
    intro x1 x2 x3 M H locs ls hF
    cases hF
  | succ n ih =>
    intro x1 x2 x3 M H locs ls hF hS hl
    unfold F_X3_shortenThrough_10 at hF
    refine lv_iload_n hx hb dX3_shortenThrough_10 rfl (lv_at hl 3 rfl) ?_
    refine lv_bipush (v := 6) hx hb dX3_shortenThrough_11 (by decide) ?_
    refine lv_icmp_ge (tgt := 76) hx hb dX3_shortenThrough_13 (by decide) (fun hc => ?_) (fun hc => ?_)
    · rw [if_pos hc] at hF
      refine lv_iinc (v := x2 + 1) (lv' := [(2, .int (x2 + 1)), (0, .ref (G.1 51)), (1, .int x1), (3, .int x3)]) hx hb dX3_shortenThrough_76 hl (k := 2) rfl rfl (by decide) rfl (fun ls hl => ?_)
      refine lv_goto (tgt := 2) hx hb dX3_shortenThrough_79 (by decide) ?_
      exact hk2 _ _ _ _ _ _ hF hS (lv_sub hl [1, 2, 0] rfl)
    · rw [if_neg hc] at hF
      refine lv_aload_n hx hb dX3_shortenThrough_16 rfl (lv_at hl 0 rfl) ?_
      refine gx (ci := 3) (k := 1) (v := .ref (G.1 1)) (C := RX3) (T := TX3) (N := 2) hC hS (hn _ (by decide)) rfl rfl in_X3 (by decide) rfl rfl lf_X3_15 dX3_shortenThrough_17 ?_
      refine lv_iload_n hx hb dX3_shortenThrough_20 rfl (lv_at hl 2 rfl) ?_
      refine lv_bipush (v := 6) hx hb dX3_shortenThrough_21 (by decide) ?_
      refine lv_imul hx hb dX3_shortenThrough_23 ?_
      refine lv_iload_n hx hb dX3_shortenThrough_24 rfl (lv_at hl 1 rfl) ?_
      refine lv_iadd hx hb dX3_shortenThrough_25 ?_
      obtain ⟨hi, hF⟩ := ckb_some hF
      refine ald hC hS (hn _ (by decide)) (by decide) rfl hi dX3_shortenThrough_26 ?_
      refine lv_aload_n hx hb dX3_shortenThrough_27 rfl (lv_at hl 0 rfl) ?_
      refine gx (ci := 3) (k := 1) (v := .ref (G.1 1)) (C := RX3) (T := TX3) (N := 2) hC hS (hn _ (by decide)) rfl rfl in_X3 (by decide) rfl rfl lf_X3_15 dX3_shortenThrough_28 ?_
      refine lv_iload_n hx hb dX3_shortenThrough_31 rfl (lv_at hl 1 rfl) ?_
      refine lv_bipush (v := 6) hx hb dX3_shortenThrough_32 (by decide) ?_
      refine lv_imul hx hb dX3_shortenThrough_34 ?_
      refine lv_iload_n hx hb dX3_shortenThrough_35 rfl (lv_at hl 3 rfl) ?_
      refine lv_iadd hx hb dX3_shortenThrough_36 ?_
      obtain ⟨hi, hF⟩ := ckb_some hF
      refine ald hC hS (hn _ (by decide)) (by decide) rfl hi dX3_shortenThrough_37 ?_
      refine lv_iadd hx hb dX3_shortenThrough_38 ?_
      refine lv_istore (lv' := [(4, .int ((M.2 1 ((x2 * 6) + x1).toNatClampNeg) + (M.2 1 ((x1 * 6) + x3).toNatClampNeg))), (0, .ref (G.1 51)), (1, .int x1), (2, .int x2), (3, .int x3)]) hx hb dX3_shortenThrough_39 hl (by decide) rfl (fun ls hl => ?_)
      refine lv_iload hx hb dX3_shortenThrough_41 (lv_at hl 0 rfl) ?_
      refine lv_aload_n hx hb dX3_shortenThrough_43 rfl (lv_at hl 1 rfl) ?_
      refine gx (ci := 3) (k := 1) (v := .ref (G.1 1)) (C := RX3) (T := TX3) (N := 2) hC hS (hn _ (by decide)) rfl rfl in_X3 (by decide) rfl rfl lf_X3_15 dX3_shortenThrough_44 ?_
      refine lv_iload_n hx hb dX3_shortenThrough_47 rfl (lv_at hl 3 rfl) ?_
      refine lv_bipush (v := 6) hx hb dX3_shortenThrough_48 (by decide) ?_
      refine lv_imul hx hb dX3_shortenThrough_50 ?_
      refine lv_iload_n hx hb dX3_shortenThrough_51 rfl (lv_at hl 4 rfl) ?_
      refine lv_iadd hx hb dX3_shortenThrough_52 ?_
      obtain ⟨hi, hF⟩ := ckb_some hF
      refine ald hC hS (hn _ (by decide)) (by decide) rfl hi dX3_shortenThrough_53 ?_
      refine lv_icmp_ge (tgt := 70) hx hb dX3_shortenThrough_54 (by decide) (fun hc => ?_) (fun hc => ?_)
      · rw [if_pos hc] at hF
        exact b_X3_shortenThrough_70 hC hr hlk hn hk2 ih _ _ _ _ _ _ _ hF hS (lv_sub hl [1, 2, 3, 4] rfl)
      · rw [if_neg hc] at hF
        refine lv_aload_n hx hb dX3_shortenThrough_57 rfl (lv_at hl 1 rfl) ?_
        refine gx (ci := 3) (k := 1) (v := .ref (G.1 1)) (C := RX3) (T := TX3) (N := 2) hC hS (hn _ (by decide)) rfl rfl in_X3 (by decide) rfl rfl lf_X3_15 dX3_shortenThrough_58 ?_
        refine lv_iload_n hx hb dX3_shortenThrough_61 rfl (lv_at hl 3 rfl) ?_
        refine lv_bipush (v := 6) hx hb dX3_shortenThrough_62 (by decide) ?_
        refine lv_imul hx hb dX3_shortenThrough_64 ?_
        refine lv_iload_n hx hb dX3_shortenThrough_65 rfl (lv_at hl 4 rfl) ?_
        refine lv_iadd hx hb dX3_shortenThrough_66 ?_
        refine lv_iload hx hb dX3_shortenThrough_67 (lv_at hl 0 rfl) ?_
        obtain ⟨hi, hF⟩ := ckb_some hF
        refine ast hC hS (hn _ (by decide)) (by decide) rfl hi dX3_shortenThrough_69 (fun H locs hS => ?_)
        exact b_X3_shortenThrough_70 hC hr hlk hn hk2 ih _ _ _ _ _ _ _ hF hS (lv_sub hl [1, 2, 3, 4] rfl)
set_option maxHeartbeats 4000000 in
set_option maxRecDepth 100000 in
theorem b_X3_shortenThrough_2 {M0 : Mem} (hC : SX p m c s args cX3_shortenThrough 5 RX3 G (AG G)) (hr : meth.sig.returnType = none) (hlk : meth.locks = false) (hn : ∀ i ∈ LsR, i ∈ gL G) : ∀ (n : Nat) (x1 : Int32) (x2 : Int32) (M : Mem) (H : Heap) (locs : List Loc) (ls : Array Slot), F_X3_shortenThrough_2 n x1 x2 M = some M0 → ST G (AG G) s M H locs → lv_has ls 5 [(0, .ref (G.1 51)), (1, .int x1), (2, .int x2)] → W p l e (RM 0 0) s m args below meth c H locs 0 0 (MQ below (QV G none M0) args s 0 0 (AG G)) (F0 m 2 ls []) := by
  obtain ⟨⟨hx, hb, hml, hown, hts⟩, hK, hG, hA⟩ := id hC
  intro n
  induction n with
  | zero =>
    intro x1 x2 M H locs ls hF
    cases hF
  | succ n ih =>
    intro x1 x2 M H locs ls hF hS hl
    unfold F_X3_shortenThrough_2 at hF
    refine lv_iload_n hx hb dX3_shortenThrough_2 rfl (lv_at hl 2 rfl) ?_
    refine lv_bipush (v := 6) hx hb dX3_shortenThrough_3 (by decide) ?_
    refine lv_icmp_ge (tgt := 82) hx hb dX3_shortenThrough_5 (by decide) (fun hc => ?_) (fun hc => ?_)
    · rw [if_pos hc] at hF
      exact retV hC hS hr hlk hF dX3_shortenThrough_82
    · rw [if_neg hc] at hF
      refine lv_iconst (v := 0) hx hb dX3_shortenThrough_8 (by decide) ?_
      refine lv_istore_n (lv' := [(3, .int 0), (0, .ref (G.1 51)), (1, .int x1), (2, .int x2)]) hx hb dX3_shortenThrough_9 rfl hl (by decide) rfl (fun ls hl => ?_)
      exact b_X3_shortenThrough_10 hC hr hlk hn ih fu _ _ _ _ _ _ _ hF hS (lv_sub hl [1, 2, 3, 0] rfl)
set_option maxHeartbeats 4000000 in
set_option maxRecDepth 100000 in
theorem b_X3_shortenThrough {M0 : Mem} (hC : SX p m c s args cX3_shortenThrough 5 RX3 G (AG G)) (hr : meth.sig.returnType = none) (hlk : meth.locks = false) (hn : ∀ i ∈ LsR, i ∈ gL G) : ∀ (x1 : Int32) (M : Mem) (H : Heap) (locs : List Loc) (ls : Array Slot), F_X3_shortenThrough x1 M = some M0 → ST G (AG G) s M H locs → lv_has ls 5 [(0, .ref (G.1 51)), (1, .int x1)] → W p l e (RM 0 0) s m args below meth c H locs 0 0 (MQ below (QV G none M0) args s 0 0 (AG G)) (F0 m 0 ls []) := by
  obtain ⟨⟨hx, hb, hml, hown, hts⟩, hK, hG, hA⟩ := id hC
  intro x1 M H locs ls hF hS hl
  unfold F_X3_shortenThrough at hF
  refine lv_iconst (v := 0) hx hb dX3_shortenThrough_0 (by decide) ?_
  refine lv_istore_n (lv' := [(2, .int 0), (0, .ref (G.1 51)), (1, .int x1)]) hx hb dX3_shortenThrough_1 rfl hl (by decide) rfl (fun ls hl => ?_)
  exact b_X3_shortenThrough_2 hC hr hlk hn fu _ _ _ _ _ _ hF hS (lv_sub hl [1, 2, 0] rfl)
set_option maxRecDepth 100000 in
theorem c_X3_shortenThrough (l : Launch) (G : GT) (hn : ∀ i ∈ LsR, i ∈ gL G) (x1 : Int32) (M : Mem) (M0 : Mem) (hF : F_X3_shortenThrough x1 M = some M0) : MetG l G yX3_shortenThrough cX3_shortenThrough 5 none 0 0 [.ref (G.1 51), .int x1] M none M0 := by
  refine MetG.of (by decide) (Nat.le_of_ble_eq_true rfl) ?_
  intro p e s m args below meth c hC hr hlk hnm ls hS hl
  exact b_X3_shortenThrough hC hr hlk hn _ _ _ _ _ hF hS hl
def F_X3_seekQuickest_73 : Nat → Int32 → Mem → Option Mem
  | 0, _, _ => none
  | n + 1, x1, M => if 6 ≤ x1 then some M else bdv (F_X3_shortenThrough x1 M) (fun M81 => F_X3_seekQuickest_73 n (x1 + 1) M81)
def F_X3_seekQuickest_10 (k2 : Int32 → Mem → Option Mem) : Nat → Int32 → Int32 → Mem → Option Mem
  | 0, _, _, _ => none
  | n + 1, x1, x2, M => if 6 ≤ x2 then k2 (x1 + 1) M else ckb (ix ((x1 * 6) + x2) 36) (if x1 = x2 then ckb (ix ((x1 * 6) + x2) 36) (F_X3_seekQuickest_10 k2 n x1 (x2 + 1) (sa M 1 ((x1 * 6) + x2).toNatClampNeg 0)) else if (M.2 0 ((x1 * 6) + x2).toNatClampNeg) = 0 then ckb (ix ((x1 * 6) + x2) 36) (F_X3_seekQuickest_10 k2 n x1 (x2 + 1) (sa M 1 ((x1 * 6) + x2).toNatClampNeg 1000)) else ckb (ix ((x1 * 6) + x2) 36) (F_X3_seekQuickest_10 k2 n x1 (x2 + 1) (sa M 1 ((x1 * 6) + x2).toNatClampNeg (M.2 0 ((x1 * 6) + x2).toNatClampNeg))))
def F_X3_seekQuickest_2 : Nat → Int32 → Mem → Option Mem
  | 0, _, _ => none
  | n + 1, x1, M => if 6 ≤ x1 then F_X3_seekQuickest_73 fu 0 M else F_X3_seekQuickest_10 (F_X3_seekQuickest_2 n) fu x1 0 M
def F_X3_seekQuickest (M : Mem) : Option Mem := F_X3_seekQuickest_2 fu 0 M
set_option maxHeartbeats 4000000 in
set_option maxRecDepth 100000 in
theorem b_X3_seekQuickest_73 {M0 : Mem} (hC : SX p m c s args cX3_seekQuickest 4 RX3 G (AG G)) (hr : meth.sig.returnType = none) (hlk : meth.locks = false) (hn : ∀ i ∈ LsR, i ∈ gL G) : ∀ (n : Nat) (x1 : Int32) (M : Mem) (H : Heap) (locs : List Loc) (ls : Array Slot), F_X3_seekQuickest_73 n x1 M = some M0 → ST G (AG G) s M H locs → lv_has ls 4 [(0, .ref (G.1 51)), (1, .int x1)] → W p l e (RM 1 24) s m args below meth c H locs 0 0 (MQ below (QV G none M0) args s 0 0 (AG G)) (F0 m 73 ls []) := by
  obtain ⟨⟨hx, hb, hml, hown, hts⟩, hK, hG, hA⟩ := id hC
  intro n
  induction n with
  | zero =>
    intro x1 M H locs ls hF
    cases hF
  | succ n ih =>
    intro x1 M H locs ls hF hS hl
    unfold F_X3_seekQuickest_73 at hF
    refine lv_iload_n hx hb dX3_seekQuickest_73 rfl (lv_at hl 1 rfl) ?_
    refine lv_bipush (v := 6) hx hb dX3_seekQuickest_74 (by decide) ?_
    refine lv_icmp_ge (tgt := 90) hx hb dX3_seekQuickest_76 (by decide) (fun hc => ?_) (fun hc => ?_)
    · rw [if_pos hc] at hF
      exact retV hC hS hr hlk hF dX3_seekQuickest_90
    · rw [if_neg hc] at hF
      refine lv_aload_n hx hb dX3_seekQuickest_79 rfl (lv_at hl 0 rfl) ?_
      refine lv_iload_n hx hb dX3_seekQuickest_80 rfl (lv_at hl 1 rfl) ?_
      obtain ⟨M81, h81, hF⟩ := bdv_some hF
      refine cV_ (ci := 3) (i := 51) (C := RX3) (T := TX3) (N := 2) (As := [.int x1]) (v := none) (rest := []) (st1 := []) hC hS (hn _ (by decide)) rfl rfl (c_X3_shortenThrough l G hn x1 M _ h81) kV_X3_shortenThrough lm_X3_21 ⟨Nat.le_of_ble_eq_true rfl, Nat.le_of_ble_eq_true rfl⟩ rfl hl.1 (Nat.le_of_ble_eq_true rfl) dX3_seekQuickest_81 ⟨Nat.le_refl _, Nat.le_refl _⟩ rfl (fun H locs hS => ?_)
      refine lv_iinc (v := x1 + 1) (lv' := [(1, .int (x1 + 1)), (0, .ref (G.1 51))]) hx hb dX3_seekQuickest_84 hl (k := 1) rfl rfl (by decide) rfl (fun ls hl => ?_)
      refine lv_goto (tgt := 73) hx hb dX3_seekQuickest_87 (by decide) ?_
      exact ih _ _ _ _ _ hF hS (lv_sub hl [1, 0] rfl)
set_option maxHeartbeats 4000000 in
set_option maxRecDepth 100000 in
theorem b_X3_seekQuickest_10 {k2 : Int32 → Mem → Option Mem} {M0 : Mem} (hC : SX p m c s args cX3_seekQuickest 4 RX3 G (AG G)) (hr : meth.sig.returnType = none) (hlk : meth.locks = false) (hn : ∀ i ∈ LsR, i ∈ gL G) (hk2 : ∀ (x1 : Int32) (M : Mem) (H : Heap) (locs : List Loc) (ls : Array Slot), k2 x1 M = some M0 → ST G (AG G) s M H locs → lv_has ls 4 [(0, .ref (G.1 51)), (1, .int x1)] → W p l e (RM 1 24) s m args below meth c H locs 0 0 (MQ below (QV G none M0) args s 0 0 (AG G)) (F0 m 2 ls [])) : ∀ (n : Nat) (x1 : Int32) (x2 : Int32) (M : Mem) (H : Heap) (locs : List Loc) (ls : Array Slot), F_X3_seekQuickest_10 k2 n x1 x2 M = some M0 → ST G (AG G) s M H locs → lv_has ls 4 [(0, .ref (G.1 51)), (1, .int x1), (2, .int x2)] → W p l e (RM 1 24) s m args below meth c H locs 0 0 (MQ below (QV G none M0) args s 0 0 (AG G)) (F0 m 10 ls []) := by
  obtain ⟨⟨hx, hb, hml, hown, hts⟩, hK, hG, hA⟩ := id hC
  intro n
  induction n with
  | zero =>
    intro x1 x2 M H locs ls hF
    cases hF
  | succ n ih =>
    intro x1 x2 M H locs ls hF hS hl
    unfold F_X3_seekQuickest_10 at hF
    refine lv_iload_n hx hb dX3_seekQuickest_10 rfl (lv_at hl 2 rfl) ?_
    refine lv_bipush (v := 6) hx hb dX3_seekQuickest_11 (by decide) ?_
    refine lv_icmp_ge (tgt := 65) hx hb dX3_seekQuickest_13 (by decide) (fun hc => ?_) (fun hc => ?_)
    · rw [if_pos hc] at hF
      refine lv_iinc (v := x1 + 1) (lv' := [(1, .int (x1 + 1)), (0, .ref (G.1 51)), (2, .int x2)]) hx hb dX3_seekQuickest_65 hl (k := 1) rfl rfl (by decide) rfl (fun ls hl => ?_)
      refine lv_goto (tgt := 2) hx hb dX3_seekQuickest_68 (by decide) ?_
      exact hk2 _ _ _ _ _ hF hS (lv_sub hl [1, 0] rfl)
    · rw [if_neg hc] at hF
      refine lv_aload_n hx hb dX3_seekQuickest_16 rfl (lv_at hl 0 rfl) ?_
      refine gx (ci := 3) (k := 0) (v := .ref (G.1 0)) (C := RX3) (T := TX3) (N := 2) hC hS (hn _ (by decide)) rfl rfl in_X3 (by decide) rfl rfl lf_X3_9 dX3_seekQuickest_17 ?_
      refine lv_iload_n hx hb dX3_seekQuickest_20 rfl (lv_at hl 1 rfl) ?_
      refine lv_bipush (v := 6) hx hb dX3_seekQuickest_21 (by decide) ?_
      refine lv_imul hx hb dX3_seekQuickest_23 ?_
      refine lv_iload_n hx hb dX3_seekQuickest_24 rfl (lv_at hl 2 rfl) ?_
      refine lv_iadd hx hb dX3_seekQuickest_25 ?_
      obtain ⟨hi, hF⟩ := ckb_some hF
      refine ald hC hS (hn _ (by decide)) (by decide) rfl hi dX3_seekQuickest_26 ?_
      refine lv_istore_n (lv' := [(3, .int (M.2 0 ((x1 * 6) + x2).toNatClampNeg)), (0, .ref (G.1 51)), (1, .int x1), (2, .int x2)]) hx hb dX3_seekQuickest_27 rfl hl (by decide) rfl (fun ls hl => ?_)
      refine lv_aload_n hx hb dX3_seekQuickest_28 rfl (lv_at hl 1 rfl) ?_
      refine gx (ci := 3) (k := 1) (v := .ref (G.1 1)) (C := RX3) (T := TX3) (N := 2) hC hS (hn _ (by decide)) rfl rfl in_X3 (by decide) rfl rfl lf_X3_15 dX3_seekQuickest_29 ?_
      refine lv_iload_n hx hb dX3_seekQuickest_32 rfl (lv_at hl 2 rfl) ?_
      refine lv_bipush (v := 6) hx hb dX3_seekQuickest_33 (by decide) ?_
      refine lv_imul hx hb dX3_seekQuickest_35 ?_
      refine lv_iload_n hx hb dX3_seekQuickest_36 rfl (lv_at hl 3 rfl) ?_
      refine lv_iadd hx hb dX3_seekQuickest_37 ?_
      refine lv_iload_n hx hb dX3_seekQuickest_38 rfl (lv_at hl 2 rfl) ?_
      refine lv_iload_n hx hb dX3_seekQuickest_39 rfl (lv_at hl 3 rfl) ?_
      refine lv_icmp_ne (tgt := 47) hx hb dX3_seekQuickest_40 (by decide) (fun hc => ?_) (fun hc => ?_)
      · rw [if_neg hc] at hF
        refine lv_iload_n hx hb dX3_seekQuickest_47 rfl (lv_at hl 0 rfl) ?_
        refine lv_if_ne (tgt := 57) hx hb dX3_seekQuickest_48 (by decide) (fun hc => ?_) (fun hc => ?_)
        · rw [if_neg hc] at hF
          refine lv_iload_n hx hb dX3_seekQuickest_57 rfl (lv_at hl 0 rfl) ?_
          obtain ⟨hi, hF⟩ := ckb_some hF
          refine ast hC hS (hn _ (by decide)) (by decide) rfl hi dX3_seekQuickest_58 (fun H locs hS => ?_)
          refine lv_iinc (v := x2 + 1) (lv' := [(2, .int (x2 + 1)), (3, .int (M.2 0 ((x1 * 6) + x2).toNatClampNeg)), (0, .ref (G.1 51)), (1, .int x1)]) hx hb dX3_seekQuickest_59 hl (k := 3) rfl rfl (by decide) rfl (fun ls hl => ?_)
          refine lv_goto (tgt := 10) hx hb dX3_seekQuickest_62 (by decide) ?_
          exact ih _ _ _ _ _ _ hF hS (lv_sub hl [2, 3, 0] rfl)
        · rw [if_pos hc] at hF
          refine lv_sipush (v := 1000) hx hb dX3_seekQuickest_51 (by decide) ?_
          refine lv_goto (tgt := 58) hx hb dX3_seekQuickest_54 (by decide) ?_
          obtain ⟨hi, hF⟩ := ckb_some hF
          refine ast hC hS (hn _ (by decide)) (by decide) rfl hi dX3_seekQuickest_58 (fun H locs hS => ?_)
          refine lv_iinc (v := x2 + 1) (lv' := [(2, .int (x2 + 1)), (3, .int (M.2 0 ((x1 * 6) + x2).toNatClampNeg)), (0, .ref (G.1 51)), (1, .int x1)]) hx hb dX3_seekQuickest_59 hl (k := 3) rfl rfl (by decide) rfl (fun ls hl => ?_)
          refine lv_goto (tgt := 10) hx hb dX3_seekQuickest_62 (by decide) ?_
          exact ih _ _ _ _ _ _ hF hS (lv_sub hl [2, 3, 0] rfl)
      · rw [if_pos hc] at hF
        refine lv_iconst (v := 0) hx hb dX3_seekQuickest_43 (by decide) ?_
        refine lv_goto (tgt := 58) hx hb dX3_seekQuickest_44 (by decide) ?_
        obtain ⟨hi, hF⟩ := ckb_some hF
        refine ast hC hS (hn _ (by decide)) (by decide) rfl hi dX3_seekQuickest_58 (fun H locs hS => ?_)
        refine lv_iinc (v := x2 + 1) (lv' := [(2, .int (x2 + 1)), (3, .int (M.2 0 ((x1 * 6) + x2).toNatClampNeg)), (0, .ref (G.1 51)), (1, .int x1)]) hx hb dX3_seekQuickest_59 hl (k := 3) rfl rfl (by decide) rfl (fun ls hl => ?_)
        refine lv_goto (tgt := 10) hx hb dX3_seekQuickest_62 (by decide) ?_
        exact ih _ _ _ _ _ _ hF hS (lv_sub hl [2, 3, 0] rfl)
set_option maxHeartbeats 4000000 in
set_option maxRecDepth 100000 in
theorem b_X3_seekQuickest_2 {M0 : Mem} (hC : SX p m c s args cX3_seekQuickest 4 RX3 G (AG G)) (hr : meth.sig.returnType = none) (hlk : meth.locks = false) (hn : ∀ i ∈ LsR, i ∈ gL G) : ∀ (n : Nat) (x1 : Int32) (M : Mem) (H : Heap) (locs : List Loc) (ls : Array Slot), F_X3_seekQuickest_2 n x1 M = some M0 → ST G (AG G) s M H locs → lv_has ls 4 [(0, .ref (G.1 51)), (1, .int x1)] → W p l e (RM 1 24) s m args below meth c H locs 0 0 (MQ below (QV G none M0) args s 0 0 (AG G)) (F0 m 2 ls []) := by
  obtain ⟨⟨hx, hb, hml, hown, hts⟩, hK, hG, hA⟩ := id hC
  intro n
  induction n with
  | zero =>
    intro x1 M H locs ls hF
    cases hF
  | succ n ih =>
    intro x1 M H locs ls hF hS hl
    unfold F_X3_seekQuickest_2 at hF
    refine lv_iload_n hx hb dX3_seekQuickest_2 rfl (lv_at hl 1 rfl) ?_
    refine lv_bipush (v := 6) hx hb dX3_seekQuickest_3 (by decide) ?_
    refine lv_icmp_ge (tgt := 71) hx hb dX3_seekQuickest_5 (by decide) (fun hc => ?_) (fun hc => ?_)
    · rw [if_pos hc] at hF
      refine lv_iconst (v := 0) hx hb dX3_seekQuickest_71 (by decide) ?_
      refine lv_istore_n (lv' := [(1, .int 0), (0, .ref (G.1 51))]) hx hb dX3_seekQuickest_72 rfl hl (by decide) rfl (fun ls hl => ?_)
      exact b_X3_seekQuickest_73 hC hr hlk hn fu _ _ _ _ _ hF hS (lv_sub hl [1, 0] rfl)
    · rw [if_neg hc] at hF
      refine lv_iconst (v := 0) hx hb dX3_seekQuickest_8 (by decide) ?_
      refine lv_istore_n (lv' := [(2, .int 0), (0, .ref (G.1 51)), (1, .int x1)]) hx hb dX3_seekQuickest_9 rfl hl (by decide) rfl (fun ls hl => ?_)
      exact b_X3_seekQuickest_10 hC hr hlk hn ih fu _ _ _ _ _ _ hF hS (lv_sub hl [1, 2, 0] rfl)
set_option maxHeartbeats 4000000 in
set_option maxRecDepth 100000 in
theorem b_X3_seekQuickest {M0 : Mem} (hC : SX p m c s args cX3_seekQuickest 4 RX3 G (AG G)) (hr : meth.sig.returnType = none) (hlk : meth.locks = false) (hn : ∀ i ∈ LsR, i ∈ gL G) : ∀ (M : Mem) (H : Heap) (locs : List Loc) (ls : Array Slot), F_X3_seekQuickest M = some M0 → ST G (AG G) s M H locs → lv_has ls 4 [(0, .ref (G.1 51))] → W p l e (RM 1 24) s m args below meth c H locs 0 0 (MQ below (QV G none M0) args s 0 0 (AG G)) (F0 m 0 ls []) := by
  obtain ⟨⟨hx, hb, hml, hown, hts⟩, hK, hG, hA⟩ := id hC
  intro M H locs ls hF hS hl
  unfold F_X3_seekQuickest at hF
  refine lv_iconst (v := 0) hx hb dX3_seekQuickest_0 (by decide) ?_
  refine lv_istore_n (lv' := [(1, .int 0), (0, .ref (G.1 51))]) hx hb dX3_seekQuickest_1 rfl hl (by decide) rfl (fun ls hl => ?_)
  exact b_X3_seekQuickest_2 hC hr hlk hn fu _ _ _ _ _ hF hS (lv_sub hl [1, 0] rfl)
set_option maxRecDepth 100000 in
theorem c_X3_seekQuickest (l : Launch) (G : GT) (hn : ∀ i ∈ LsR, i ∈ gL G) (M : Mem) (M0 : Mem) (hF : F_X3_seekQuickest M = some M0) : MetG l G yX3_seekQuickest cX3_seekQuickest 4 none 1 24 [.ref (G.1 51)] M none M0 := by
  refine MetG.of (by decide) (Nat.le_of_ble_eq_true rfl) ?_
  intro p e s m args below meth c hC hr hlk hnm ls hS hl
  exact b_X3_seekQuickest hC hr hlk hn _ _ _ _ hF hS hl
def F_X3_build (x1 : Int32) (x2 : Int32) (x3 : Int32) (M : Mem) : Option (Int32 × Mem) := ckb (ix ((x1 * 6) + x2) 36) (ckb (ix ((x1 * 6) + x2) 36) (ckb (ix ((x2 * 6) + x1) 36) (bdv (F_X3_seekQuickest (sa (sa M 0 ((x1 * 6) + x2).toNatClampNeg x3) 0 ((x2 * 6) + x1).toNatClampNeg x3)) (fun M38 => some (M.2 0 ((x1 * 6) + x2).toNatClampNeg, M38)))))
set_option maxHeartbeats 4000000 in
set_option maxRecDepth 100000 in
theorem b_X3_build {M0 : Mem} {r0 : Int32} (hC : SX p m c s args cX3_build 5 RX3 G (AG G)) (hr : meth.sig.returnType = (some .int)) (hlk : meth.locks = false) (hn : ∀ i ∈ LsR, i ∈ gL G) : ∀ (x1 : Int32) (x2 : Int32) (x3 : Int32) (M : Mem) (H : Heap) (locs : List Loc) (ls : Array Slot), F_X3_build x1 x2 x3 M = some (r0, M0) → ST G (AG G) s M H locs → lv_has ls 5 [(0, .ref (G.1 51)), (1, .int x1), (2, .int x2), (3, .int x3)] → W p l e (RM 2 47) s m args below meth c H locs 0 0 (MQ below (QV G (some (.int r0)) M0) args s 0 0 (AG G)) (F0 m 0 ls []) := by
  obtain ⟨⟨hx, hb, hml, hown, hts⟩, hK, hG, hA⟩ := id hC
  intro x1 x2 x3 M H locs ls hF hS hl
  unfold F_X3_build at hF
  refine lv_aload_n hx hb dX3_build_0 rfl (lv_at hl 0 rfl) ?_
  refine gx (ci := 3) (k := 0) (v := .ref (G.1 0)) (C := RX3) (T := TX3) (N := 2) hC hS (hn _ (by decide)) rfl rfl in_X3 (by decide) rfl rfl lf_X3_9 dX3_build_1 ?_
  refine lv_iload_n hx hb dX3_build_4 rfl (lv_at hl 1 rfl) ?_
  refine lv_bipush (v := 6) hx hb dX3_build_5 (by decide) ?_
  refine lv_imul hx hb dX3_build_7 ?_
  refine lv_iload_n hx hb dX3_build_8 rfl (lv_at hl 2 rfl) ?_
  refine lv_iadd hx hb dX3_build_9 ?_
  obtain ⟨hi, hF⟩ := ckb_some hF
  refine ald hC hS (hn _ (by decide)) (by decide) rfl hi dX3_build_10 ?_
  refine lv_istore (lv' := [(4, .int (M.2 0 ((x1 * 6) + x2).toNatClampNeg)), (0, .ref (G.1 51)), (1, .int x1), (2, .int x2), (3, .int x3)]) hx hb dX3_build_11 hl (by decide) rfl (fun ls hl => ?_)
  refine lv_aload_n hx hb dX3_build_13 rfl (lv_at hl 1 rfl) ?_
  refine gx (ci := 3) (k := 0) (v := .ref (G.1 0)) (C := RX3) (T := TX3) (N := 2) hC hS (hn _ (by decide)) rfl rfl in_X3 (by decide) rfl rfl lf_X3_9 dX3_build_14 ?_
  refine lv_iload_n hx hb dX3_build_17 rfl (lv_at hl 2 rfl) ?_
  refine lv_bipush (v := 6) hx hb dX3_build_18 (by decide) ?_
  refine lv_imul hx hb dX3_build_20 ?_
  refine lv_iload_n hx hb dX3_build_21 rfl (lv_at hl 3 rfl) ?_
  refine lv_iadd hx hb dX3_build_22 ?_
  refine lv_iload_n hx hb dX3_build_23 rfl (lv_at hl 4 rfl) ?_
  obtain ⟨hi, hF⟩ := ckb_some hF
  refine ast hC hS (hn _ (by decide)) (by decide) rfl hi dX3_build_24 (fun H locs hS => ?_)
  refine lv_aload_n hx hb dX3_build_25 rfl (lv_at hl 1 rfl) ?_
  refine gx (ci := 3) (k := 0) (v := .ref (G.1 0)) (C := RX3) (T := TX3) (N := 2) hC hS (hn _ (by decide)) rfl rfl in_X3 (by decide) rfl rfl lf_X3_9 dX3_build_26 ?_
  refine lv_iload_n hx hb dX3_build_29 rfl (lv_at hl 3 rfl) ?_
  refine lv_bipush (v := 6) hx hb dX3_build_30 (by decide) ?_
  refine lv_imul hx hb dX3_build_32 ?_
  refine lv_iload_n hx hb dX3_build_33 rfl (lv_at hl 2 rfl) ?_
  refine lv_iadd hx hb dX3_build_34 ?_
  refine lv_iload_n hx hb dX3_build_35 rfl (lv_at hl 4 rfl) ?_
  obtain ⟨hi, hF⟩ := ckb_some hF
  refine ast hC hS (hn _ (by decide)) (by decide) rfl hi dX3_build_36 (fun H locs hS => ?_)
  refine lv_aload_n hx hb dX3_build_37 rfl (lv_at hl 1 rfl) ?_
  obtain ⟨M38, h38, hF⟩ := bdv_some hF
  refine cV_ (ci := 3) (i := 51) (C := RX3) (T := TX3) (N := 2) (As := []) (v := none) (rest := []) (st1 := []) hC hS (hn _ (by decide)) rfl rfl (c_X3_seekQuickest l G hn (sa (sa M 0 ((x1 * 6) + x2).toNatClampNeg x3) 0 ((x2 * 6) + x1).toNatClampNeg x3) _ h38) kV_X3_seekQuickest lm_X3_18 ⟨Nat.le_of_ble_eq_true rfl, Nat.le_of_ble_eq_true rfl⟩ rfl hl.1 (Nat.le_of_ble_eq_true rfl) dX3_build_38 ⟨Nat.le_refl _, Nat.le_refl _⟩ rfl (fun H locs hS => ?_)
  refine lv_iload hx hb dX3_build_41 (lv_at hl 0 rfl) ?_
  exact retI hC hS hr hlk hF dX3_build_43
set_option maxRecDepth 100000 in
theorem c_X3_build (l : Launch) (G : GT) (hn : ∀ i ∈ LsR, i ∈ gL G) (x1 : Int32) (x2 : Int32) (x3 : Int32) (M : Mem) (r0 : Int32) (M0 : Mem) (hF : F_X3_build x1 x2 x3 M = some (r0, M0)) : MetG l G yX3_build cX3_build 5 (some .int) 2 47 [.ref (G.1 51), .int x1, .int x2, .int x3] M (some (.int r0)) M0 := by
  refine MetG.of (by decide) (Nat.le_of_ble_eq_true rfl) ?_
  intro p e s m args below meth c hC hr hlk hnm ls hS hl
  exact b_X3_build hC hr hlk hn _ _ _ _ _ _ _ hF hS hl
def F_X3_between (x1 : Int32) (x2 : Int32) (M : Mem) : Option (Int32 × Mem) := ckb (ix ((x1 * 6) + x2) 36) (some (M.2 1 ((x1 * 6) + x2).toNatClampNeg, M))
set_option maxHeartbeats 4000000 in
set_option maxRecDepth 100000 in
theorem b_X3_between {M0 : Mem} {r0 : Int32} (hC : SX p m c s args cX3_between 3 RX3 G (AG G)) (hr : meth.sig.returnType = (some .int)) (hlk : meth.locks = false) (hn : ∀ i ∈ LsR, i ∈ gL G) : ∀ (x1 : Int32) (x2 : Int32) (M : Mem) (H : Heap) (locs : List Loc) (ls : Array Slot), F_X3_between x1 x2 M = some (r0, M0) → ST G (AG G) s M H locs → lv_has ls 3 [(0, .ref (G.1 51)), (1, .int x1), (2, .int x2)] → W p l e (RM 0 0) s m args below meth c H locs 0 0 (MQ below (QV G (some (.int r0)) M0) args s 0 0 (AG G)) (F0 m 0 ls []) := by
  obtain ⟨⟨hx, hb, hml, hown, hts⟩, hK, hG, hA⟩ := id hC
  intro x1 x2 M H locs ls hF hS hl
  unfold F_X3_between at hF
  refine lv_aload_n hx hb dX3_between_0 rfl (lv_at hl 0 rfl) ?_
  refine gx (ci := 3) (k := 1) (v := .ref (G.1 1)) (C := RX3) (T := TX3) (N := 2) hC hS (hn _ (by decide)) rfl rfl in_X3 (by decide) rfl rfl lf_X3_15 dX3_between_1 ?_
  refine lv_iload_n hx hb dX3_between_4 rfl (lv_at hl 1 rfl) ?_
  refine lv_bipush (v := 6) hx hb dX3_between_5 (by decide) ?_
  refine lv_imul hx hb dX3_between_7 ?_
  refine lv_iload_n hx hb dX3_between_8 rfl (lv_at hl 2 rfl) ?_
  refine lv_iadd hx hb dX3_between_9 ?_
  obtain ⟨hi, hF⟩ := ckb_some hF
  refine ald hC hS (hn _ (by decide)) (by decide) rfl hi dX3_between_10 ?_
  exact retI hC hS hr hlk hF dX3_between_11
set_option maxRecDepth 100000 in
theorem c_X3_between (l : Launch) (G : GT) (hn : ∀ i ∈ LsR, i ∈ gL G) (x1 : Int32) (x2 : Int32) (M : Mem) (r0 : Int32) (M0 : Mem) (hF : F_X3_between x1 x2 M = some (r0, M0)) : MetG l G yX3_between cX3_between 3 (some .int) 0 0 [.ref (G.1 51), .int x1, .int x2] M (some (.int r0)) M0 := by
  refine MetG.of (by decide) (Nat.le_of_ble_eq_true rfl) ?_
  intro p e s m args below meth c hC hr hlk hnm ls hS hl
  exact b_X3_between hC hr hlk hn _ _ _ _ _ _ hF hS hl
def F_X3_number_34 (k4 : Int32 → Int32 → Mem → Option (Int32 × Mem)) (k12 : Int32 → Int32 → Int32 → Mem → Option (Int32 × Mem)) (x1 : Int32) (x2 : Int32) (x3 : Int32) (M : Mem) : Option (Int32 × Mem) := k12 x1 x2 (x3 + 1) M
def F_X3_number_12 (k4 : Int32 → Int32 → Mem → Option (Int32 × Mem)) : Nat → Int32 → Int32 → Int32 → Mem → Option (Int32 × Mem)
  | 0, _, _, _, _ => none
  | n + 1, x1, x2, x3, M => if x2 ≤ x3 then k4 x1 (x2 + 1) M else ckb (ix ((x2 * 6) + x3) 36) (if (M.2 0 ((x2 * 6) + x3).toNatClampNeg) = 0 then F_X3_number_34 k4 (F_X3_number_12 k4 n) x1 x2 x3 M else F_X3_number_34 k4 (F_X3_number_12 k4 n) (x1 + 1) x2 x3 M)
def F_X3_number_4 : Nat → Int32 → Int32 → Mem → Option (Int32 × Mem)
  | 0, _, _, _ => none
  | n + 1, x1, x2, M => if 6 ≤ x2 then some (x1, M) else F_X3_number_12 (F_X3_number_4 n) fu x1 x2 0 M
def F_X3_number (M : Mem) : Option (Int32 × Mem) := F_X3_number_4 fu 0 0 M
set_option maxHeartbeats 4000000 in
set_option maxRecDepth 100000 in
theorem b_X3_number_34 {k4 : Int32 → Int32 → Mem → Option (Int32 × Mem)} {k12 : Int32 → Int32 → Int32 → Mem → Option (Int32 × Mem)} {M0 : Mem} {r0 : Int32} (hC : SX p m c s args cX3_number 4 RX3 G (AG G)) (hr : meth.sig.returnType = (some .int)) (hlk : meth.locks = false) (hn : ∀ i ∈ LsR, i ∈ gL G) (hk4 : ∀ (x1 : Int32) (x2 : Int32) (M : Mem) (H : Heap) (locs : List Loc) (ls : Array Slot), k4 x1 x2 M = some (r0, M0) → ST G (AG G) s M H locs → lv_has ls 4 [(0, .ref (G.1 51)), (1, .int x1), (2, .int x2)] → W p l e (RM 0 0) s m args below meth c H locs 0 0 (MQ below (QV G (some (.int r0)) M0) args s 0 0 (AG G)) (F0 m 4 ls [])) (hk12 : ∀ (x1 : Int32) (x2 : Int32) (x3 : Int32) (M : Mem) (H : Heap) (locs : List Loc) (ls : Array Slot), k12 x1 x2 x3 M = some (r0, M0) → ST G (AG G) s M H locs → lv_has ls 4 [(0, .ref (G.1 51)), (1, .int x1), (2, .int x2), (3, .int x3)] → W p l e (RM 0 0) s m args below meth c H locs 0 0 (MQ below (QV G (some (.int r0)) M0) args s 0 0 (AG G)) (F0 m 12 ls [])) : ∀ (x1 : Int32) (x2 : Int32) (x3 : Int32) (M : Mem) (H : Heap) (locs : List Loc) (ls : Array Slot), F_X3_number_34 k4 k12 x1 x2 x3 M = some (r0, M0) → ST G (AG G) s M H locs → lv_has ls 4 [(0, .ref (G.1 51)), (1, .int x1), (2, .int x2), (3, .int x3)] → W p l e (RM 0 0) s m args below meth c H locs 0 0 (MQ below (QV G (some (.int r0)) M0) args s 0 0 (AG G)) (F0 m 34 ls []) := by
  obtain ⟨⟨hx, hb, hml, hown, hts⟩, hK, hG, hA⟩ := id hC
  intro x1 x2 x3 M H locs ls hF hS hl
  unfold F_X3_number_34 at hF
  refine lv_iinc (v := x3 + 1) (lv' := [(3, .int (x3 + 1)), (0, .ref (G.1 51)), (1, .int x1), (2, .int x2)]) hx hb dX3_number_34 hl (k := 3) rfl rfl (by decide) rfl (fun ls hl => ?_)
  refine lv_goto (tgt := 12) hx hb dX3_number_37 (by decide) ?_
  exact hk12 _ _ _ _ _ _ _ hF hS (lv_sub hl [1, 2, 3, 0] rfl)
set_option maxHeartbeats 4000000 in
set_option maxRecDepth 100000 in
theorem b_X3_number_12 {k4 : Int32 → Int32 → Mem → Option (Int32 × Mem)} {M0 : Mem} {r0 : Int32} (hC : SX p m c s args cX3_number 4 RX3 G (AG G)) (hr : meth.sig.returnType = (some .int)) (hlk : meth.locks = false) (hn : ∀ i ∈ LsR, i ∈ gL G) (hk4 : ∀ (x1 : Int32) (x2 : Int32) (M : Mem) (H : Heap) (locs : List Loc) (ls : Array Slot), k4 x1 x2 M = some (r0, M0) → ST G (AG G) s M H locs → lv_has ls 4 [(0, .ref (G.1 51)), (1, .int x1), (2, .int x2)] → W p l e (RM 0 0) s m args below meth c H locs 0 0 (MQ below (QV G (some (.int r0)) M0) args s 0 0 (AG G)) (F0 m 4 ls [])) : ∀ (n : Nat) (x1 : Int32) (x2 : Int32) (x3 : Int32) (M : Mem) (H : Heap) (locs : List Loc) (ls : Array Slot), F_X3_number_12 k4 n x1 x2 x3 M = some (r0, M0) → ST G (AG G) s M H locs → lv_has ls 4 [(0, .ref (G.1 51)), (1, .int x1), (2, .int x2), (3, .int x3)] → W p l e (RM 0 0) s m args below meth c H locs 0 0 (MQ below (QV G (some (.int r0)) M0) args s 0 0 (AG G)) (F0 m 12 ls []) := by
  obtain ⟨⟨hx, hb, hml, hown, hts⟩, hK, hG, hA⟩ := id hC
  intro n
  induction n with
  | zero =>
    intro x1 x2 x3 M H locs ls hF
    cases hF
  | succ n ih =>
    intro x1 x2 x3 M H locs ls hF hS hl
    unfold F_X3_number_12 at hF
    refine lv_iload_n hx hb dX3_number_12 rfl (lv_at hl 3 rfl) ?_
    refine lv_iload_n hx hb dX3_number_13 rfl (lv_at hl 2 rfl) ?_
    refine lv_icmp_ge (tgt := 40) hx hb dX3_number_14 (by decide) (fun hc => ?_) (fun hc => ?_)
    · rw [if_pos hc] at hF
      refine lv_iinc (v := x2 + 1) (lv' := [(2, .int (x2 + 1)), (0, .ref (G.1 51)), (1, .int x1), (3, .int x3)]) hx hb dX3_number_40 hl (k := 2) rfl rfl (by decide) rfl (fun ls hl => ?_)
      refine lv_goto (tgt := 4) hx hb dX3_number_43 (by decide) ?_
      exact hk4 _ _ _ _ _ _ hF hS (lv_sub hl [1, 2, 0] rfl)
    · rw [if_neg hc] at hF
      refine lv_aload_n hx hb dX3_number_17 rfl (lv_at hl 0 rfl) ?_
      refine gx (ci := 3) (k := 0) (v := .ref (G.1 0)) (C := RX3) (T := TX3) (N := 2) hC hS (hn _ (by decide)) rfl rfl in_X3 (by decide) rfl rfl lf_X3_9 dX3_number_18 ?_
      refine lv_iload_n hx hb dX3_number_21 rfl (lv_at hl 2 rfl) ?_
      refine lv_bipush (v := 6) hx hb dX3_number_22 (by decide) ?_
      refine lv_imul hx hb dX3_number_24 ?_
      refine lv_iload_n hx hb dX3_number_25 rfl (lv_at hl 3 rfl) ?_
      refine lv_iadd hx hb dX3_number_26 ?_
      obtain ⟨hi, hF⟩ := ckb_some hF
      refine ald hC hS (hn _ (by decide)) (by decide) rfl hi dX3_number_27 ?_
      refine lv_if_eq (tgt := 34) hx hb dX3_number_28 (by decide) (fun hc => ?_) (fun hc => ?_)
      · rw [if_pos hc] at hF
        exact b_X3_number_34 hC hr hlk hn hk4 ih _ _ _ _ _ _ _ hF hS (lv_sub hl [0, 1, 2, 3] rfl)
      · rw [if_neg hc] at hF
        refine lv_iinc (v := x1 + 1) (lv' := [(1, .int (x1 + 1)), (0, .ref (G.1 51)), (2, .int x2), (3, .int x3)]) hx hb dX3_number_31 hl (k := 1) rfl rfl (by decide) rfl (fun ls hl => ?_)
        exact b_X3_number_34 hC hr hlk hn hk4 ih _ _ _ _ _ _ _ hF hS (lv_sub hl [1, 0, 2, 3] rfl)
set_option maxHeartbeats 4000000 in
set_option maxRecDepth 100000 in
theorem b_X3_number_4 {M0 : Mem} {r0 : Int32} (hC : SX p m c s args cX3_number 4 RX3 G (AG G)) (hr : meth.sig.returnType = (some .int)) (hlk : meth.locks = false) (hn : ∀ i ∈ LsR, i ∈ gL G) : ∀ (n : Nat) (x1 : Int32) (x2 : Int32) (M : Mem) (H : Heap) (locs : List Loc) (ls : Array Slot), F_X3_number_4 n x1 x2 M = some (r0, M0) → ST G (AG G) s M H locs → lv_has ls 4 [(0, .ref (G.1 51)), (1, .int x1), (2, .int x2)] → W p l e (RM 0 0) s m args below meth c H locs 0 0 (MQ below (QV G (some (.int r0)) M0) args s 0 0 (AG G)) (F0 m 4 ls []) := by
  obtain ⟨⟨hx, hb, hml, hown, hts⟩, hK, hG, hA⟩ := id hC
  intro n
  induction n with
  | zero =>
    intro x1 x2 M H locs ls hF
    cases hF
  | succ n ih =>
    intro x1 x2 M H locs ls hF hS hl
    unfold F_X3_number_4 at hF
    refine lv_iload_n hx hb dX3_number_4 rfl (lv_at hl 2 rfl) ?_
    refine lv_bipush (v := 6) hx hb dX3_number_5 (by decide) ?_
    refine lv_icmp_ge (tgt := 46) hx hb dX3_number_7 (by decide) (fun hc => ?_) (fun hc => ?_)
    · rw [if_pos hc] at hF
      refine lv_iload_n hx hb dX3_number_46 rfl (lv_at hl 1 rfl) ?_
      exact retI hC hS hr hlk hF dX3_number_47
    · rw [if_neg hc] at hF
      refine lv_iconst (v := 0) hx hb dX3_number_10 (by decide) ?_
      refine lv_istore_n (lv' := [(3, .int 0), (0, .ref (G.1 51)), (1, .int x1), (2, .int x2)]) hx hb dX3_number_11 rfl hl (by decide) rfl (fun ls hl => ?_)
      exact b_X3_number_12 hC hr hlk hn ih fu _ _ _ _ _ _ _ hF hS (lv_sub hl [1, 2, 3, 0] rfl)
set_option maxHeartbeats 4000000 in
set_option maxRecDepth 100000 in
theorem b_X3_number {M0 : Mem} {r0 : Int32} (hC : SX p m c s args cX3_number 4 RX3 G (AG G)) (hr : meth.sig.returnType = (some .int)) (hlk : meth.locks = false) (hn : ∀ i ∈ LsR, i ∈ gL G) : ∀ (M : Mem) (H : Heap) (locs : List Loc) (ls : Array Slot), F_X3_number M = some (r0, M0) → ST G (AG G) s M H locs → lv_has ls 4 [(0, .ref (G.1 51))] → W p l e (RM 0 0) s m args below meth c H locs 0 0 (MQ below (QV G (some (.int r0)) M0) args s 0 0 (AG G)) (F0 m 0 ls []) := by
  obtain ⟨⟨hx, hb, hml, hown, hts⟩, hK, hG, hA⟩ := id hC
  intro M H locs ls hF hS hl
  unfold F_X3_number at hF
  refine lv_iconst (v := 0) hx hb dX3_number_0 (by decide) ?_
  refine lv_istore_n (lv' := [(1, .int 0), (0, .ref (G.1 51))]) hx hb dX3_number_1 rfl hl (by decide) rfl (fun ls hl => ?_)
  refine lv_iconst (v := 0) hx hb dX3_number_2 (by decide) ?_
  refine lv_istore_n (lv' := [(2, .int 0), (1, .int 0), (0, .ref (G.1 51))]) hx hb dX3_number_3 rfl hl (by decide) rfl (fun ls hl => ?_)
  exact b_X3_number_4 hC hr hlk hn fu _ _ _ _ _ _ hF hS (lv_sub hl [2, 1, 0] rfl)
set_option maxRecDepth 100000 in
theorem c_X3_number (l : Launch) (G : GT) (hn : ∀ i ∈ LsR, i ∈ gL G) (M : Mem) (r0 : Int32) (M0 : Mem) (hF : F_X3_number M = some (r0, M0)) : MetG l G yX3_number cX3_number 4 (some .int) 0 0 [.ref (G.1 51)] M (some (.int r0)) M0 := by
  refine MetG.of (by decide) (Nat.le_of_ble_eq_true rfl) ?_
  intro p e s m args below meth c hC hr hlk hnm ls hS hl
  exact b_X3_number hC hr hlk hn _ _ _ _ hF hS hl
end
