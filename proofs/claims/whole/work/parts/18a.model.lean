section
variable {p : Program} {l : Launch} {e : Env} {s : State} {m : MethodId} {args : Array Value} {below : List Frame} {meth : Method} {c : Code} {G : GT}
def F_X7_in_14 (M : Mem) : Option (Int32 × Mem) := some (0, M)
def F_X7_in (x0 : Int32) (x1 : Int32) (x2 : Int32) (M : Mem) : Option (Int32 × Mem) := if x0 < x1 then F_X7_in_14 M else if x2 < x0 then F_X7_in_14 M else some (1, M)
set_option maxHeartbeats 4000000 in
set_option maxRecDepth 100000 in
theorem b_X7_in_14 {M0 : Mem} {r0 : Int32} (hC : SX p m c s args cX7_in 3 RX7 G (AG G)) (hr : meth.sig.returnType = (some .boolean)) (hlk : meth.locks = false) (hn : ∀ i ∈ LsF, i ∈ gL G) : ∀ (M : Mem) (H : Heap) (locs : List Loc) (ls : Array Slot), F_X7_in_14 M = some (r0, M0) → ST G (AG G) s M H locs → lv_has ls 3 [] → W p l e (RM 0 0) s m args below meth c H locs 0 0 (MQ below (QV G (some (.int r0)) M0) args s 0 0 (AG G)) (F0 m 14 ls []) := by
  obtain ⟨⟨hx, hb, hml, hown, hts⟩, hK, hG, hA⟩ := id hC
  intro M H locs ls hF hS hl
  unfold F_X7_in_14 at hF
  refine lv_iconst (v := 0) hx hb dX7_in_14 (by decide) ?_
  exact retZ hC hS hr hlk rfl hF dX7_in_15
set_option maxHeartbeats 4000000 in
set_option maxRecDepth 100000 in
theorem b_X7_in {M0 : Mem} {r0 : Int32} (hC : SX p m c s args cX7_in 3 RX7 G (AG G)) (hr : meth.sig.returnType = (some .boolean)) (hlk : meth.locks = false) (hn : ∀ i ∈ LsF, i ∈ gL G) : ∀ (x0 : Int32) (x1 : Int32) (x2 : Int32) (M : Mem) (H : Heap) (locs : List Loc) (ls : Array Slot), F_X7_in x0 x1 x2 M = some (r0, M0) → ST G (AG G) s M H locs → lv_has ls 3 [(0, .int x0), (1, .int x1), (2, .int x2)] → W p l e (RM 0 0) s m args below meth c H locs 0 0 (MQ below (QV G (some (.int r0)) M0) args s 0 0 (AG G)) (F0 m 0 ls []) := by
  obtain ⟨⟨hx, hb, hml, hown, hts⟩, hK, hG, hA⟩ := id hC
  intro x0 x1 x2 M H locs ls hF hS hl
  unfold F_X7_in at hF
  refine lv_iload_n hx hb dX7_in_0 rfl (lv_at hl 0 rfl) ?_
  refine lv_iload_n hx hb dX7_in_1 rfl (lv_at hl 1 rfl) ?_
  refine lv_icmp_lt (tgt := 14) hx hb dX7_in_2 (by decide) (fun hc => ?_) (fun hc => ?_)
  · rw [if_pos hc] at hF
    exact b_X7_in_14 hC hr hlk hn _ _ _ _ hF hS (lv_sub hl [] rfl)
  · rw [if_neg hc] at hF
    refine lv_iload_n hx hb dX7_in_5 rfl (lv_at hl 0 rfl) ?_
    refine lv_iload_n hx hb dX7_in_6 rfl (lv_at hl 2 rfl) ?_
    refine lv_icmp_gt (tgt := 14) hx hb dX7_in_7 (by decide) (fun hc => ?_) (fun hc => ?_)
    · rw [if_pos hc] at hF
      exact b_X7_in_14 hC hr hlk hn _ _ _ _ hF hS (lv_sub hl [] rfl)
    · rw [if_neg hc] at hF
      refine lv_iconst (v := 1) hx hb dX7_in_10 (by decide) ?_
      refine lv_goto (tgt := 15) hx hb dX7_in_11 (by decide) ?_
      exact retZ hC hS hr hlk rfl hF dX7_in_15
set_option maxRecDepth 100000 in
theorem c_X7_in (l : Launch) (G : GT) (hn : ∀ i ∈ LsF, i ∈ gL G) (x0 : Int32) (x1 : Int32) (x2 : Int32) (M : Mem) (r0 : Int32) (M0 : Mem) (hF : F_X7_in x0 x1 x2 M = some (r0, M0)) : MetG l G yX7_in cX7_in 3 (some .boolean) 0 0 [.int x0, .int x1, .int x2] M (some (.int r0)) M0 := by
  refine MetG.of (by decide) (Nat.le_of_ble_eq_true rfl) ?_
  intro p e s m args below meth c hC hr hlk hnm ls hS hl
  exact b_X7_in hC hr hlk hn _ _ _ _ _ _ _ hF hS hl
def F_X7_has (x0 : Int32) (x1 : Int32) (M : Mem) : Option (Int32 × Mem) := if ((x0 >>> (x1 &&& 31)) &&& 1) = 1 then some (1, M) else some (0, M)
set_option maxHeartbeats 4000000 in
set_option maxRecDepth 100000 in
theorem b_X7_has {M0 : Mem} {r0 : Int32} (hC : SX p m c s args cX7_has 2 RX7 G (AG G)) (hr : meth.sig.returnType = (some .boolean)) (hlk : meth.locks = false) (hn : ∀ i ∈ LsF, i ∈ gL G) : ∀ (x0 : Int32) (x1 : Int32) (M : Mem) (H : Heap) (locs : List Loc) (ls : Array Slot), F_X7_has x0 x1 M = some (r0, M0) → ST G (AG G) s M H locs → lv_has ls 2 [(0, .int x0), (1, .int x1)] → W p l e (RM 0 0) s m args below meth c H locs 0 0 (MQ below (QV G (some (.int r0)) M0) args s 0 0 (AG G)) (F0 m 0 ls []) := by
  obtain ⟨⟨hx, hb, hml, hown, hts⟩, hK, hG, hA⟩ := id hC
  intro x0 x1 M H locs ls hF hS hl
  unfold F_X7_has at hF
  refine lv_iload_n hx hb dX7_has_0 rfl (lv_at hl 0 rfl) ?_
  refine lv_iload_n hx hb dX7_has_1 rfl (lv_at hl 1 rfl) ?_
  refine lv_ishr hx hb dX7_has_2 ?_
  refine lv_iconst (v := 1) hx hb dX7_has_3 (by decide) ?_
  refine lv_iand hx hb dX7_has_4 ?_
  refine lv_iconst (v := 1) hx hb dX7_has_5 (by decide) ?_
  refine lv_icmp_ne (tgt := 13) hx hb dX7_has_6 (by decide) (fun hc => ?_) (fun hc => ?_)
  · rw [if_neg hc] at hF
    refine lv_iconst (v := 0) hx hb dX7_has_13 (by decide) ?_
    exact retZ hC hS hr hlk rfl hF dX7_has_14
  · rw [if_pos hc] at hF
    refine lv_iconst (v := 1) hx hb dX7_has_9 (by decide) ?_
    refine lv_goto (tgt := 14) hx hb dX7_has_10 (by decide) ?_
    exact retZ hC hS hr hlk rfl hF dX7_has_14
set_option maxRecDepth 100000 in
theorem c_X7_has (l : Launch) (G : GT) (hn : ∀ i ∈ LsF, i ∈ gL G) (x0 : Int32) (x1 : Int32) (M : Mem) (r0 : Int32) (M0 : Mem) (hF : F_X7_has x0 x1 M = some (r0, M0)) : MetG l G yX7_has cX7_has 2 (some .boolean) 0 0 [.int x0, .int x1] M (some (.int r0)) M0 := by
  refine MetG.of (by decide) (Nat.le_of_ble_eq_true rfl) ?_
  intro p e s m args below meth c hC hr hlk hnm ls hS hl
  exact b_X7_has hC hr hlk hn _ _ _ _ _ _ hF hS hl
def F_X7_ones_4 : Nat → Int32 → Int32 → Int32 → Mem → Option (Int32 × Mem)
  | 0, _, _, _, _ => none
  | n + 1, x0, x1, x2, M => if 10 ≤ x2 then some (x1, M) else F_X7_ones_4 n x0 (x1 + ((x0 >>> (x2 &&& 31)) &&& 1)) (x2 + 1) M
def F_X7_ones (x0 : Int32) (M : Mem) : Option (Int32 × Mem) := F_X7_ones_4 fu x0 0 0 M
set_option maxHeartbeats 4000000 in
set_option maxRecDepth 100000 in
theorem b_X7_ones_4 {M0 : Mem} {r0 : Int32} (hC : SX p m c s args cX7_ones 3 RX7 G (AG G)) (hr : meth.sig.returnType = (some .int)) (hlk : meth.locks = false) (hn : ∀ i ∈ LsF, i ∈ gL G) : ∀ (n : Nat) (x0 : Int32) (x1 : Int32) (x2 : Int32) (M : Mem) (H : Heap) (locs : List Loc) (ls : Array Slot), F_X7_ones_4 n x0 x1 x2 M = some (r0, M0) → ST G (AG G) s M H locs → lv_has ls 3 [(0, .int x0), (1, .int x1), (2, .int x2)] → W p l e (RM 0 0) s m args below meth c H locs 0 0 (MQ below (QV G (some (.int r0)) M0) args s 0 0 (AG G)) (F0 m 4 ls []) := by
  obtain ⟨⟨hx, hb, hml, hown, hts⟩, hK, hG, hA⟩ := id hC
  intro n
  induction n with
  | zero =>
    intro x0 x1 x2 M H locs ls hF
    cases hF
  | succ n ih =>
    intro x0 x1 x2 M H locs ls hF hS hl
    unfold F_X7_ones_4 at hF
    refine lv_iload_n hx hb dX7_ones_4 rfl (lv_at hl 2 rfl) ?_
    refine lv_bipush (v := 10) hx hb dX7_ones_5 (by decide) ?_
    refine lv_icmp_ge (tgt := 24) hx hb dX7_ones_7 (by decide) (fun hc => ?_) (fun hc => ?_)
    · rw [if_pos hc] at hF
      refine lv_iload_n hx hb dX7_ones_24 rfl (lv_at hl 1 rfl) ?_
      exact retI hC hS hr hlk hF dX7_ones_25
    · rw [if_neg hc] at hF
      refine lv_iload_n hx hb dX7_ones_10 rfl (lv_at hl 1 rfl) ?_
      refine lv_iload_n hx hb dX7_ones_11 rfl (lv_at hl 0 rfl) ?_
      refine lv_iload_n hx hb dX7_ones_12 rfl (lv_at hl 2 rfl) ?_
      refine lv_ishr hx hb dX7_ones_13 ?_
      refine lv_iconst (v := 1) hx hb dX7_ones_14 (by decide) ?_
      refine lv_iand hx hb dX7_ones_15 ?_
      refine lv_iadd hx hb dX7_ones_16 ?_
      refine lv_istore_n (lv' := [(1, .int (x1 + ((x0 >>> (x2 &&& 31)) &&& 1))), (0, .int x0), (2, .int x2)]) hx hb dX7_ones_17 rfl hl (by decide) rfl (fun ls hl => ?_)
      refine lv_iinc (v := x2 + 1) (lv' := [(2, .int (x2 + 1)), (1, .int (x1 + ((x0 >>> (x2 &&& 31)) &&& 1))), (0, .int x0)]) hx hb dX7_ones_18 hl (k := 2) rfl rfl (by decide) rfl (fun ls hl => ?_)
      refine lv_goto (tgt := 4) hx hb dX7_ones_21 (by decide) ?_
      exact ih _ _ _ _ _ _ _ hF hS (lv_sub hl [2, 1, 0] rfl)
set_option maxHeartbeats 4000000 in
set_option maxRecDepth 100000 in
theorem b_X7_ones {M0 : Mem} {r0 : Int32} (hC : SX p m c s args cX7_ones 3 RX7 G (AG G)) (hr : meth.sig.returnType = (some .int)) (hlk : meth.locks = false) (hn : ∀ i ∈ LsF, i ∈ gL G) : ∀ (x0 : Int32) (M : Mem) (H : Heap) (locs : List Loc) (ls : Array Slot), F_X7_ones x0 M = some (r0, M0) → ST G (AG G) s M H locs → lv_has ls 3 [(0, .int x0)] → W p l e (RM 0 0) s m args below meth c H locs 0 0 (MQ below (QV G (some (.int r0)) M0) args s 0 0 (AG G)) (F0 m 0 ls []) := by
  obtain ⟨⟨hx, hb, hml, hown, hts⟩, hK, hG, hA⟩ := id hC
  intro x0 M H locs ls hF hS hl
  unfold F_X7_ones at hF
  refine lv_iconst (v := 0) hx hb dX7_ones_0 (by decide) ?_
  refine lv_istore_n (lv' := [(1, .int 0), (0, .int x0)]) hx hb dX7_ones_1 rfl hl (by decide) rfl (fun ls hl => ?_)
  refine lv_iconst (v := 0) hx hb dX7_ones_2 (by decide) ?_
  refine lv_istore_n (lv' := [(2, .int 0), (1, .int 0), (0, .int x0)]) hx hb dX7_ones_3 rfl hl (by decide) rfl (fun ls hl => ?_)
  exact b_X7_ones_4 hC hr hlk hn fu _ _ _ _ _ _ _ hF hS (lv_sub hl [2, 1, 0] rfl)
set_option maxRecDepth 100000 in
theorem c_X7_ones (l : Launch) (G : GT) (hn : ∀ i ∈ LsF, i ∈ gL G) (x0 : Int32) (M : Mem) (r0 : Int32) (M0 : Mem) (hF : F_X7_ones x0 M = some (r0, M0)) : MetG l G yX7_ones cX7_ones 3 (some .int) 0 0 [.int x0] M (some (.int r0)) M0 := by
  refine MetG.of (by decide) (Nat.le_of_ble_eq_true rfl) ?_
  intro p e s m args below meth c hC hr hlk hnm ls hS hl
  exact b_X7_ones hC hr hlk hn _ _ _ _ _ hF hS hl
def F_X7_apart (x0 : Int32) (x1 : Int32) (M : Mem) : Option (Int32 × Mem) := if x0 ≤ x1 then some (x1 - x0, M) else some (x0 - x1, M)
set_option maxHeartbeats 4000000 in
set_option maxRecDepth 100000 in
theorem b_X7_apart {M0 : Mem} {r0 : Int32} (hC : SX p m c s args cX7_apart 2 RX7 G (AG G)) (hr : meth.sig.returnType = (some .int)) (hlk : meth.locks = false) (hn : ∀ i ∈ LsF, i ∈ gL G) : ∀ (x0 : Int32) (x1 : Int32) (M : Mem) (H : Heap) (locs : List Loc) (ls : Array Slot), F_X7_apart x0 x1 M = some (r0, M0) → ST G (AG G) s M H locs → lv_has ls 2 [(0, .int x0), (1, .int x1)] → W p l e (RM 0 0) s m args below meth c H locs 0 0 (MQ below (QV G (some (.int r0)) M0) args s 0 0 (AG G)) (F0 m 0 ls []) := by
  obtain ⟨⟨hx, hb, hml, hown, hts⟩, hK, hG, hA⟩ := id hC
  intro x0 x1 M H locs ls hF hS hl
  unfold F_X7_apart at hF
  refine lv_iload_n hx hb dX7_apart_0 rfl (lv_at hl 0 rfl) ?_
  refine lv_iload_n hx hb dX7_apart_1 rfl (lv_at hl 1 rfl) ?_
  refine lv_icmp_le (tgt := 11) hx hb dX7_apart_2 (by decide) (fun hc => ?_) (fun hc => ?_)
  · rw [if_pos hc] at hF
    refine lv_iload_n hx hb dX7_apart_11 rfl (lv_at hl 1 rfl) ?_
    refine lv_iload_n hx hb dX7_apart_12 rfl (lv_at hl 0 rfl) ?_
    refine lv_isub hx hb dX7_apart_13 ?_
    exact retI hC hS hr hlk hF dX7_apart_14
  · rw [if_neg hc] at hF
    refine lv_iload_n hx hb dX7_apart_5 rfl (lv_at hl 0 rfl) ?_
    refine lv_iload_n hx hb dX7_apart_6 rfl (lv_at hl 1 rfl) ?_
    refine lv_isub hx hb dX7_apart_7 ?_
    refine lv_goto (tgt := 14) hx hb dX7_apart_8 (by decide) ?_
    exact retI hC hS hr hlk hF dX7_apart_14
set_option maxRecDepth 100000 in
theorem c_X7_apart (l : Launch) (G : GT) (hn : ∀ i ∈ LsF, i ∈ gL G) (x0 : Int32) (x1 : Int32) (M : Mem) (r0 : Int32) (M0 : Mem) (hF : F_X7_apart x0 x1 M = some (r0, M0)) : MetG l G yX7_apart cX7_apart 2 (some .int) 0 0 [.int x0, .int x1] M (some (.int r0)) M0 := by
  refine MetG.of (by decide) (Nat.le_of_ble_eq_true rfl) ?_
  intro p e s m args below meth c hC hr hlk hnm ls hS hl
  exact b_X7_apart hC hr hlk hn _ _ _ _ _ _ hF hS hl
def F_X7_isTown (x0 : Int32) (M : Mem) : Option (Int32 × Mem) := bd (F_X7_in x0 0 5 M) (fun r3 M3 => ckb (zb r3) (some (r3, M3)))
set_option maxHeartbeats 4000000 in
set_option maxRecDepth 100000 in
theorem b_X7_isTown {M0 : Mem} {r0 : Int32} (hC : SX p m c s args cX7_isTown 1 RX7 G (AG G)) (hr : meth.sig.returnType = (some .boolean)) (hlk : meth.locks = false) (hn : ∀ i ∈ LsF, i ∈ gL G) : ∀ (x0 : Int32) (M : Mem) (H : Heap) (locs : List Loc) (ls : Array Slot), F_X7_isTown x0 M = some (r0, M0) → ST G (AG G) s M H locs → lv_has ls 1 [(0, .int x0)] → W p l e (RM 1 22) s m args below meth c H locs 0 0 (MQ below (QV G (some (.int r0)) M0) args s 0 0 (AG G)) (F0 m 0 ls []) := by
  obtain ⟨⟨hx, hb, hml, hown, hts⟩, hK, hG, hA⟩ := id hC
  intro x0 M H locs ls hF hS hl
  unfold F_X7_isTown at hF
  refine lv_iload_n hx hb dX7_isTown_0 rfl (lv_at hl 0 rfl) ?_
  refine lv_iconst (v := 0) hx hb dX7_isTown_1 (by decide) ?_
  refine lv_iconst (v := 5) hx hb dX7_isTown_2 (by decide) ?_
  obtain ⟨r3, M3, h3, hF⟩ := bd_some hF
  refine cS_ (As := [.int x0, .int 0, .int 5]) (v := some (.int r3)) (rest := []) (st1 := [.int r3]) hC hS (c_X7_in l G hn x0 0 5 M _ _ h3) kS_X7_in lm_X7_71 ⟨Nat.le_of_ble_eq_true rfl, Nat.le_of_ble_eq_true rfl⟩ rfl hl.1 (Nat.le_of_ble_eq_true rfl) dX7_isTown_3 ⟨Nat.le_refl _, Nat.le_refl _⟩ rfl (fun H locs hS => ?_)
  obtain ⟨hz, hF⟩ := ckb_some hF
  exact retZ hC hS hr hlk (zb_n hz) hF dX7_isTown_6
set_option maxRecDepth 100000 in
theorem c_X7_isTown (l : Launch) (G : GT) (hn : ∀ i ∈ LsF, i ∈ gL G) (x0 : Int32) (M : Mem) (r0 : Int32) (M0 : Mem) (hF : F_X7_isTown x0 M = some (r0, M0)) : MetG l G yX7_isTown cX7_isTown 1 (some .boolean) 1 22 [.int x0] M (some (.int r0)) M0 := by
  refine MetG.of (by decide) (Nat.le_of_ble_eq_true rfl) ?_
  intro p e s m args below meth c hC hr hlk hnm ls hS hl
  exact b_X7_isTown hC hr hlk hn _ _ _ _ _ hF hS hl
def F_X7_road (x1 : Int32) (x2 : Int32) (x3 : Int32) (M : Mem) : Option (Int32 × Mem) := bd (F_X7_isTown x1 M) (fun r1 M1 => if r1 = 0 then some ((-2), M1) else bd (F_X7_isTown x2 M1) (fun r8 M8 => if r8 = 0 then some ((-2), M8) else if x1 = x2 then some ((-2), M8) else bd (F_X7_in x3 0 99 M8) (fun r23 M23 => if r23 = 0 then some ((-2), M23) else ckb (ix ((6 * x1) + x2) 36) (ckb (ix ((6 * x1) + x2) 36) (ckb (ix ((6 * x2) + x1) 36) (some (M23.2 22 ((6 * x1) + x2).toNatClampNeg, sa (sa M23 22 ((6 * x1) + x2).toNatClampNeg x3) 22 ((6 * x2) + x1).toNatClampNeg x3)))))))
set_option maxHeartbeats 4000000 in
set_option maxRecDepth 100000 in
theorem b_X7_road {M0 : Mem} {r0 : Int32} (hC : SX p m c s args cX7_road 5 RX7 G (AG G)) (hr : meth.sig.returnType = (some .int)) (hlk : meth.locks = false) (hn : ∀ i ∈ LsF, i ∈ gL G) : ∀ (x1 : Int32) (x2 : Int32) (x3 : Int32) (M : Mem) (H : Heap) (locs : List Loc) (ls : Array Slot), F_X7_road x1 x2 x3 M = some (r0, M0) → ST G (AG G) s M H locs → lv_has ls 5 [(0, .ref (G.1 61)), (1, .int x1), (2, .int x2), (3, .int x3)] → W p l e (RM 2 42) s m args below meth c H locs 0 0 (MQ below (QV G (some (.int r0)) M0) args s 0 0 (AG G)) (F0 m 0 ls []) := by
  obtain ⟨⟨hx, hb, hml, hown, hts⟩, hK, hG, hA⟩ := id hC
  intro x1 x2 x3 M H locs ls hF hS hl
  unfold F_X7_road at hF
  refine lv_iload_n hx hb dX7_road_0 rfl (lv_at hl 1 rfl) ?_
  obtain ⟨r1, M1, h1, hF⟩ := bd_some hF
  refine cS_ (As := [.int x1]) (v := some (.int r1)) (rest := []) (st1 := [.int r1]) hC hS (c_X7_isTown l G hn x1 M _ _ h1) kS_X7_isTown lm_X7_75 ⟨Nat.le_of_ble_eq_true rfl, Nat.le_of_ble_eq_true rfl⟩ rfl hl.1 (Nat.le_of_ble_eq_true rfl) dX7_road_1 ⟨Nat.le_refl _, Nat.le_refl _⟩ rfl (fun H locs hS => ?_)
  refine lv_if_eq (tgt := 29) hx hb dX7_road_4 (by decide) (fun hc => ?_) (fun hc => ?_)
  · rw [if_pos hc] at hF
    refine lv_bipush (v := (-2)) hx hb dX7_road_29 (by decide) ?_
    exact retI hC hS hr hlk hF dX7_road_31
  · rw [if_neg hc] at hF
    refine lv_iload_n hx hb dX7_road_7 rfl (lv_at hl 2 rfl) ?_
    obtain ⟨r8, M8, h8, hF⟩ := bd_some hF
    refine cS_ (As := [.int x2]) (v := some (.int r8)) (rest := []) (st1 := [.int r8]) hC hS (c_X7_isTown l G hn x2 M1 _ _ h8) kS_X7_isTown lm_X7_75 ⟨Nat.le_of_ble_eq_true rfl, Nat.le_of_ble_eq_true rfl⟩ rfl hl.1 (Nat.le_of_ble_eq_true rfl) dX7_road_8 ⟨Nat.le_refl _, Nat.le_refl _⟩ rfl (fun H locs hS => ?_)
    refine lv_if_eq (tgt := 29) hx hb dX7_road_11 (by decide) (fun hc => ?_) (fun hc => ?_)
    · rw [if_pos hc] at hF
      refine lv_bipush (v := (-2)) hx hb dX7_road_29 (by decide) ?_
      exact retI hC hS hr hlk hF dX7_road_31
    · rw [if_neg hc] at hF
      refine lv_iload_n hx hb dX7_road_14 rfl (lv_at hl 1 rfl) ?_
      refine lv_iload_n hx hb dX7_road_15 rfl (lv_at hl 2 rfl) ?_
      refine lv_icmp_eq (tgt := 29) hx hb dX7_road_16 (by decide) (fun hc => ?_) (fun hc => ?_)
      · rw [if_pos hc] at hF
        refine lv_bipush (v := (-2)) hx hb dX7_road_29 (by decide) ?_
        exact retI hC hS hr hlk hF dX7_road_31
      · rw [if_neg hc] at hF
        refine lv_iload_n hx hb dX7_road_19 rfl (lv_at hl 3 rfl) ?_
        refine lv_iconst (v := 0) hx hb dX7_road_20 (by decide) ?_
        refine lv_bipush (v := 99) hx hb dX7_road_21 (by decide) ?_
        obtain ⟨r23, M23, h23, hF⟩ := bd_some hF
        refine cS_ (As := [.int x3, .int 0, .int 99]) (v := some (.int r23)) (rest := []) (st1 := [.int r23]) hC hS (c_X7_in l G hn x3 0 99 M8 _ _ h23) kS_X7_in lm_X7_71 ⟨Nat.le_of_ble_eq_true rfl, Nat.le_of_ble_eq_true rfl⟩ rfl hl.1 (Nat.le_of_ble_eq_true rfl) dX7_road_23 ⟨Nat.le_refl _, Nat.le_refl _⟩ rfl (fun H locs hS => ?_)
        refine lv_if_ne (tgt := 32) hx hb dX7_road_26 (by decide) (fun hc => ?_) (fun hc => ?_)
        · rw [if_neg hc] at hF
          refine lv_aload_n hx hb dX7_road_32 rfl (lv_at hl 0 rfl) ?_
          refine gx (ci := 7) (k := 0) (v := .ref (G.1 22)) (C := RX7) (T := TX7) (N := 29) hC hS (hn _ (by decide)) rfl rfl in_X7 (by decide) rfl rfl lf_X7_7 dX7_road_33 ?_
          refine lv_bipush (v := 6) hx hb dX7_road_36 (by decide) ?_
          refine lv_iload_n hx hb dX7_road_38 rfl (lv_at hl 1 rfl) ?_
          refine lv_imul hx hb dX7_road_39 ?_
          refine lv_iload_n hx hb dX7_road_40 rfl (lv_at hl 2 rfl) ?_
          refine lv_iadd hx hb dX7_road_41 ?_
          obtain ⟨hi, hF⟩ := ckb_some hF
          refine ald hC hS (hn _ (by decide)) (by decide) rfl hi dX7_road_42 ?_
          refine lv_istore (lv' := [(4, .int (M23.2 22 ((6 * x1) + x2).toNatClampNeg)), (0, .ref (G.1 61)), (1, .int x1), (2, .int x2), (3, .int x3)]) hx hb dX7_road_43 hl (by decide) rfl (fun ls hl => ?_)
          refine lv_aload_n hx hb dX7_road_45 rfl (lv_at hl 1 rfl) ?_
          refine gx (ci := 7) (k := 0) (v := .ref (G.1 22)) (C := RX7) (T := TX7) (N := 29) hC hS (hn _ (by decide)) rfl rfl in_X7 (by decide) rfl rfl lf_X7_7 dX7_road_46 ?_
          refine lv_bipush (v := 6) hx hb dX7_road_49 (by decide) ?_
          refine lv_iload_n hx hb dX7_road_51 rfl (lv_at hl 2 rfl) ?_
          refine lv_imul hx hb dX7_road_52 ?_
          refine lv_iload_n hx hb dX7_road_53 rfl (lv_at hl 3 rfl) ?_
          refine lv_iadd hx hb dX7_road_54 ?_
          refine lv_iload_n hx hb dX7_road_55 rfl (lv_at hl 4 rfl) ?_
          obtain ⟨hi, hF⟩ := ckb_some hF
          refine ast hC hS (hn _ (by decide)) (by decide) rfl hi dX7_road_56 (fun H locs hS => ?_)
          refine lv_aload_n hx hb dX7_road_57 rfl (lv_at hl 1 rfl) ?_
          refine gx (ci := 7) (k := 0) (v := .ref (G.1 22)) (C := RX7) (T := TX7) (N := 29) hC hS (hn _ (by decide)) rfl rfl in_X7 (by decide) rfl rfl lf_X7_7 dX7_road_58 ?_
          refine lv_bipush (v := 6) hx hb dX7_road_61 (by decide) ?_
          refine lv_iload_n hx hb dX7_road_63 rfl (lv_at hl 3 rfl) ?_
          refine lv_imul hx hb dX7_road_64 ?_
          refine lv_iload_n hx hb dX7_road_65 rfl (lv_at hl 2 rfl) ?_
          refine lv_iadd hx hb dX7_road_66 ?_
          refine lv_iload_n hx hb dX7_road_67 rfl (lv_at hl 4 rfl) ?_
          obtain ⟨hi, hF⟩ := ckb_some hF
          refine ast hC hS (hn _ (by decide)) (by decide) rfl hi dX7_road_68 (fun H locs hS => ?_)
          refine lv_iload hx hb dX7_road_69 (lv_at hl 0 rfl) ?_
          exact retI hC hS hr hlk hF dX7_road_71
        · rw [if_pos hc] at hF
          refine lv_bipush (v := (-2)) hx hb dX7_road_29 (by decide) ?_
          exact retI hC hS hr hlk hF dX7_road_31
set_option maxRecDepth 100000 in
theorem c_X7_road (l : Launch) (G : GT) (hn : ∀ i ∈ LsF, i ∈ gL G) (x1 : Int32) (x2 : Int32) (x3 : Int32) (M : Mem) (r0 : Int32) (M0 : Mem) (hF : F_X7_road x1 x2 x3 M = some (r0, M0)) : MetG l G yX7_road cX7_road 5 (some .int) 2 42 [.ref (G.1 61), .int x1, .int x2, .int x3] M (some (.int r0)) M0 := by
  refine MetG.of (by decide) (Nat.le_of_ble_eq_true rfl) ?_
  intro p e s m args below meth c hC hr hlk hnm ls hS hl
  exact b_X7_road hC hr hlk hn _ _ _ _ _ _ _ hF hS hl
def F_X7_laysWays_66 (k58 : Int32 → Mem → Option Mem) : Nat → Int32 → Int32 → Mem → Option Mem
  | 0, _, _, _ => none
  | n + 1, x1, x2, M => if 36 ≤ x2 then k58 (x1 + 1) M else ckb (ix (((x2 / 6) * 6) + x1) 36) (ckb (ix ((6 * x1) + (x2 - x2 / 6 * 6)) 36) (ckb (ix x2 36) (if (M.2 23 x2.toNatClampNeg) ≤ ((M.2 23 (((x2 / 6) * 6) + x1).toNatClampNeg) + (M.2 23 ((6 * x1) + (x2 - x2 / 6 * 6)).toNatClampNeg)) then ckb (ix x2 36) (ckb (ix x2 36) (F_X7_laysWays_66 k58 n x1 (x2 + 1) (sa M 23 x2.toNatClampNeg (M.2 23 x2.toNatClampNeg)))) else ckb (ix x2 36) (F_X7_laysWays_66 k58 n x1 (x2 + 1) (sa M 23 x2.toNatClampNeg ((M.2 23 (((x2 / 6) * 6) + x1).toNatClampNeg) + (M.2 23 ((6 * x1) + (x2 - x2 / 6 * 6)).toNatClampNeg)))))))
def F_X7_laysWays_58 : Nat → Int32 → Mem → Option Mem
  | 0, _, _ => none
  | n + 1, x1, M => if 6 ≤ x1 then some M else F_X7_laysWays_66 (F_X7_laysWays_58 n) fu x1 0 M
def F_X7_laysWays_2 : Nat → Int32 → Mem → Option Mem
  | 0, _, _ => none
  | n + 1, x1, M => if 36 ≤ x1 then F_X7_laysWays_58 fu 0 M else if (x1 / 6) = (x1 - x1 / 6 * 6) then ckb (ix x1 36) (F_X7_laysWays_2 n (x1 + 1) (sa M 23 x1.toNatClampNeg 0)) else ckb (ix x1 36) (if (M.2 22 x1.toNatClampNeg) ≤ 0 then ckb (ix x1 36) (F_X7_laysWays_2 n (x1 + 1) (sa M 23 x1.toNatClampNeg 1000)) else ckb (ix x1 36) (ckb (ix x1 36) (F_X7_laysWays_2 n (x1 + 1) (sa M 23 x1.toNatClampNeg (M.2 22 x1.toNatClampNeg)))))
def F_X7_laysWays (M : Mem) : Option Mem := F_X7_laysWays_2 fu 0 M
set_option maxHeartbeats 4000000 in
set_option maxRecDepth 100000 in
theorem b_X7_laysWays_66 {k58 : Int32 → Mem → Option Mem} {M0 : Mem} (hC : SX p m c s args cX7_laysWays 4 RX7 G (AG G)) (hr : meth.sig.returnType = none) (hlk : meth.locks = false) (hn : ∀ i ∈ LsF, i ∈ gL G) (hk58 : ∀ (x1 : Int32) (M : Mem) (H : Heap) (locs : List Loc) (ls : Array Slot), k58 x1 M = some M0 → ST G (AG G) s M H locs → lv_has ls 4 [(0, .ref (G.1 61)), (1, .int x1)] → W p l e (RM 0 0) s m args below meth c H locs 0 0 (MQ below (QV G none M0) args s 0 0 (AG G)) (F0 m 58 ls [])) : ∀ (n : Nat) (x1 : Int32) (x2 : Int32) (M : Mem) (H : Heap) (locs : List Loc) (ls : Array Slot), F_X7_laysWays_66 k58 n x1 x2 M = some M0 → ST G (AG G) s M H locs → lv_has ls 4 [(0, .ref (G.1 61)), (1, .int x1), (2, .int x2)] → W p l e (RM 0 0) s m args below meth c H locs 0 0 (MQ below (QV G none M0) args s 0 0 (AG G)) (F0 m 66 ls []) := by
  obtain ⟨⟨hx, hb, hml, hown, hts⟩, hK, hG, hA⟩ := id hC
  intro n
  induction n with
  | zero =>
    intro x1 x2 M H locs ls hF
    cases hF
  | succ n ih =>
    intro x1 x2 M H locs ls hF hS hl
    unfold F_X7_laysWays_66 at hF
    refine lv_iload_n hx hb dX7_laysWays_66 rfl (lv_at hl 2 rfl) ?_
    refine lv_bipush (v := 36) hx hb dX7_laysWays_67 (by decide) ?_
    refine lv_icmp_ge (tgt := 134) hx hb dX7_laysWays_69 (by decide) (fun hc => ?_) (fun hc => ?_)
    · rw [if_pos hc] at hF
      refine lv_iinc (v := x1 + 1) (lv' := [(1, .int (x1 + 1)), (0, .ref (G.1 61)), (2, .int x2)]) hx hb dX7_laysWays_134 hl (k := 1) rfl rfl (by decide) rfl (fun ls hl => ?_)
      refine lv_goto (tgt := 58) hx hb dX7_laysWays_137 (by decide) ?_
      exact hk58 _ _ _ _ _ hF hS (lv_sub hl [1, 0] rfl)
    · rw [if_neg hc] at hF
      refine lv_aload_n hx hb dX7_laysWays_72 rfl (lv_at hl 0 rfl) ?_
      refine gx (ci := 7) (k := 1) (v := .ref (G.1 23)) (C := RX7) (T := TX7) (N := 29) hC hS (hn _ (by decide)) rfl rfl in_X7 (by decide) rfl rfl lf_X7_13 dX7_laysWays_73 ?_
      refine lv_iload_n hx hb dX7_laysWays_76 rfl (lv_at hl 2 rfl) ?_
      refine lv_bipush (v := 6) hx hb dX7_laysWays_77 (by decide) ?_
      refine lv_idiv hx hb dX7_laysWays_79 (by decide) ?_
      refine lv_bipush (v := 6) hx hb dX7_laysWays_80 (by decide) ?_
      refine lv_imul hx hb dX7_laysWays_82 ?_
      refine lv_iload_n hx hb dX7_laysWays_83 rfl (lv_at hl 1 rfl) ?_
      refine lv_iadd hx hb dX7_laysWays_84 ?_
      obtain ⟨hi, hF⟩ := ckb_some hF
      refine ald hC hS (hn _ (by decide)) (by decide) rfl hi dX7_laysWays_85 ?_
      refine lv_aload_n hx hb dX7_laysWays_86 rfl (lv_at hl 0 rfl) ?_
      refine gx (ci := 7) (k := 1) (v := .ref (G.1 23)) (C := RX7) (T := TX7) (N := 29) hC hS (hn _ (by decide)) rfl rfl in_X7 (by decide) rfl rfl lf_X7_13 dX7_laysWays_87 ?_
      refine lv_bipush (v := 6) hx hb dX7_laysWays_90 (by decide) ?_
      refine lv_iload_n hx hb dX7_laysWays_92 rfl (lv_at hl 1 rfl) ?_
      refine lv_imul hx hb dX7_laysWays_93 ?_
      refine lv_iload_n hx hb dX7_laysWays_94 rfl (lv_at hl 2 rfl) ?_
      refine lv_bipush (v := 6) hx hb dX7_laysWays_95 (by decide) ?_
      refine lv_irem hx hb dX7_laysWays_97 (by decide) ?_
      refine lv_iadd hx hb dX7_laysWays_98 ?_
      obtain ⟨hi, hF⟩ := ckb_some hF
      refine ald hC hS (hn _ (by decide)) (by decide) rfl hi dX7_laysWays_99 ?_
      refine lv_iadd hx hb dX7_laysWays_100 ?_
      refine lv_istore_n (lv' := [(3, .int ((M.2 23 (((x2 / 6) * 6) + x1).toNatClampNeg) + (M.2 23 ((6 * x1) + (x2 - x2 / 6 * 6)).toNatClampNeg))), (0, .ref (G.1 61)), (1, .int x1), (2, .int x2)]) hx hb dX7_laysWays_101 rfl hl (by decide) rfl (fun ls hl => ?_)
      refine lv_aload_n hx hb dX7_laysWays_102 rfl (lv_at hl 1 rfl) ?_
      refine gx (ci := 7) (k := 1) (v := .ref (G.1 23)) (C := RX7) (T := TX7) (N := 29) hC hS (hn _ (by decide)) rfl rfl in_X7 (by decide) rfl rfl lf_X7_13 dX7_laysWays_103 ?_
      refine lv_iload_n hx hb dX7_laysWays_106 rfl (lv_at hl 3 rfl) ?_
      refine lv_iload_n hx hb dX7_laysWays_107 rfl (lv_at hl 0 rfl) ?_
      refine lv_aload_n hx hb dX7_laysWays_108 rfl (lv_at hl 1 rfl) ?_
      refine gx (ci := 7) (k := 1) (v := .ref (G.1 23)) (C := RX7) (T := TX7) (N := 29) hC hS (hn _ (by decide)) rfl rfl in_X7 (by decide) rfl rfl lf_X7_13 dX7_laysWays_109 ?_
      refine lv_iload_n hx hb dX7_laysWays_112 rfl (lv_at hl 3 rfl) ?_
      obtain ⟨hi, hF⟩ := ckb_some hF
      refine ald hC hS (hn _ (by decide)) (by decide) rfl hi dX7_laysWays_113 ?_
      refine lv_icmp_ge (tgt := 121) hx hb dX7_laysWays_114 (by decide) (fun hc => ?_) (fun hc => ?_)
      · rw [if_pos hc] at hF
        refine lv_aload_n hx hb dX7_laysWays_121 rfl (lv_at hl 1 rfl) ?_
        refine gx (ci := 7) (k := 1) (v := .ref (G.1 23)) (C := RX7) (T := TX7) (N := 29) hC hS (hn _ (by decide)) rfl rfl in_X7 (by decide) rfl rfl lf_X7_13 dX7_laysWays_122 ?_
        refine lv_iload_n hx hb dX7_laysWays_125 rfl (lv_at hl 3 rfl) ?_
        obtain ⟨hi, hF⟩ := ckb_some hF
        refine ald hC hS (hn _ (by decide)) (by decide) rfl hi dX7_laysWays_126 ?_
        obtain ⟨hi, hF⟩ := ckb_some hF
        refine ast hC hS (hn _ (by decide)) (by decide) rfl hi dX7_laysWays_127 (fun H locs hS => ?_)
        refine lv_iinc (v := x2 + 1) (lv' := [(2, .int (x2 + 1)), (3, .int ((M.2 23 (((x2 / 6) * 6) + x1).toNatClampNeg) + (M.2 23 ((6 * x1) + (x2 - x2 / 6 * 6)).toNatClampNeg))), (0, .ref (G.1 61)), (1, .int x1)]) hx hb dX7_laysWays_128 hl (k := 3) rfl rfl (by decide) rfl (fun ls hl => ?_)
        refine lv_goto (tgt := 66) hx hb dX7_laysWays_131 (by decide) ?_
        exact ih _ _ _ _ _ _ hF hS (lv_sub hl [2, 3, 0] rfl)
      · rw [if_neg hc] at hF
        refine lv_iload_n hx hb dX7_laysWays_117 rfl (lv_at hl 0 rfl) ?_
        refine lv_goto (tgt := 127) hx hb dX7_laysWays_118 (by decide) ?_
        obtain ⟨hi, hF⟩ := ckb_some hF
        refine ast hC hS (hn _ (by decide)) (by decide) rfl hi dX7_laysWays_127 (fun H locs hS => ?_)
        refine lv_iinc (v := x2 + 1) (lv' := [(2, .int (x2 + 1)), (3, .int ((M.2 23 (((x2 / 6) * 6) + x1).toNatClampNeg) + (M.2 23 ((6 * x1) + (x2 - x2 / 6 * 6)).toNatClampNeg))), (0, .ref (G.1 61)), (1, .int x1)]) hx hb dX7_laysWays_128 hl (k := 3) rfl rfl (by decide) rfl (fun ls hl => ?_)
        refine lv_goto (tgt := 66) hx hb dX7_laysWays_131 (by decide) ?_
        exact ih _ _ _ _ _ _ hF hS (lv_sub hl [2, 3, 0] rfl)
set_option maxHeartbeats 4000000 in
set_option maxRecDepth 100000 in
theorem b_X7_laysWays_58 {M0 : Mem} (hC : SX p m c s args cX7_laysWays 4 RX7 G (AG G)) (hr : meth.sig.returnType = none) (hlk : meth.locks = false) (hn : ∀ i ∈ LsF, i ∈ gL G) : ∀ (n : Nat) (x1 : Int32) (M : Mem) (H : Heap) (locs : List Loc) (ls : Array Slot), F_X7_laysWays_58 n x1 M = some M0 → ST G (AG G) s M H locs → lv_has ls 4 [(0, .ref (G.1 61)), (1, .int x1)] → W p l e (RM 0 0) s m args below meth c H locs 0 0 (MQ below (QV G none M0) args s 0 0 (AG G)) (F0 m 58 ls []) := by
  obtain ⟨⟨hx, hb, hml, hown, hts⟩, hK, hG, hA⟩ := id hC
  intro n
  induction n with
  | zero =>
    intro x1 M H locs ls hF
    cases hF
  | succ n ih =>
    intro x1 M H locs ls hF hS hl
    unfold F_X7_laysWays_58 at hF
    refine lv_iload_n hx hb dX7_laysWays_58 rfl (lv_at hl 1 rfl) ?_
    refine lv_bipush (v := 6) hx hb dX7_laysWays_59 (by decide) ?_
    refine lv_icmp_ge (tgt := 140) hx hb dX7_laysWays_61 (by decide) (fun hc => ?_) (fun hc => ?_)
    · rw [if_pos hc] at hF
      exact retV hC hS hr hlk hF dX7_laysWays_140
    · rw [if_neg hc] at hF
      refine lv_iconst (v := 0) hx hb dX7_laysWays_64 (by decide) ?_
      refine lv_istore_n (lv' := [(2, .int 0), (0, .ref (G.1 61)), (1, .int x1)]) hx hb dX7_laysWays_65 rfl hl (by decide) rfl (fun ls hl => ?_)
      exact b_X7_laysWays_66 hC hr hlk hn ih fu _ _ _ _ _ _ hF hS (lv_sub hl [1, 2, 0] rfl)
set_option maxHeartbeats 4000000 in
set_option maxRecDepth 100000 in
theorem b_X7_laysWays_2 {M0 : Mem} (hC : SX p m c s args cX7_laysWays 4 RX7 G (AG G)) (hr : meth.sig.returnType = none) (hlk : meth.locks = false) (hn : ∀ i ∈ LsF, i ∈ gL G) : ∀ (n : Nat) (x1 : Int32) (M : Mem) (H : Heap) (locs : List Loc) (ls : Array Slot), F_X7_laysWays_2 n x1 M = some M0 → ST G (AG G) s M H locs → lv_has ls 4 [(0, .ref (G.1 61)), (1, .int x1)] → W p l e (RM 0 0) s m args below meth c H locs 0 0 (MQ below (QV G none M0) args s 0 0 (AG G)) (F0 m 2 ls []) := by
  obtain ⟨⟨hx, hb, hml, hown, hts⟩, hK, hG, hA⟩ := id hC
  intro n
  induction n with
  | zero =>
    intro x1 M H locs ls hF
    cases hF
  | succ n ih =>
    intro x1 M H locs ls hF hS hl
    unfold F_X7_laysWays_2 at hF
    refine lv_iload_n hx hb dX7_laysWays_2 rfl (lv_at hl 1 rfl) ?_
    refine lv_bipush (v := 36) hx hb dX7_laysWays_3 (by decide) ?_
    refine lv_icmp_ge (tgt := 56) hx hb dX7_laysWays_5 (by decide) (fun hc => ?_) (fun hc => ?_)
    · rw [if_pos hc] at hF
      refine lv_iconst (v := 0) hx hb dX7_laysWays_56 (by decide) ?_
      refine lv_istore_n (lv' := [(1, .int 0), (0, .ref (G.1 61))]) hx hb dX7_laysWays_57 rfl hl (by decide) rfl (fun ls hl => ?_)
      exact b_X7_laysWays_58 hC hr hlk hn fu _ _ _ _ _ hF hS (lv_sub hl [1, 0] rfl)
    · rw [if_neg hc] at hF
      refine lv_aload_n hx hb dX7_laysWays_8 rfl (lv_at hl 0 rfl) ?_
      refine gx (ci := 7) (k := 1) (v := .ref (G.1 23)) (C := RX7) (T := TX7) (N := 29) hC hS (hn _ (by decide)) rfl rfl in_X7 (by decide) rfl rfl lf_X7_13 dX7_laysWays_9 ?_
      refine lv_iload_n hx hb dX7_laysWays_12 rfl (lv_at hl 1 rfl) ?_
      refine lv_iload_n hx hb dX7_laysWays_13 rfl (lv_at hl 1 rfl) ?_
      refine lv_bipush (v := 6) hx hb dX7_laysWays_14 (by decide) ?_
      refine lv_idiv hx hb dX7_laysWays_16 (by decide) ?_
      refine lv_iload_n hx hb dX7_laysWays_17 rfl (lv_at hl 1 rfl) ?_
      refine lv_bipush (v := 6) hx hb dX7_laysWays_18 (by decide) ?_
      refine lv_irem hx hb dX7_laysWays_20 (by decide) ?_
      refine lv_icmp_ne (tgt := 28) hx hb dX7_laysWays_21 (by decide) (fun hc => ?_) (fun hc => ?_)
      · rw [if_neg hc] at hF
        refine lv_aload_n hx hb dX7_laysWays_28 rfl (lv_at hl 0 rfl) ?_
        refine gx (ci := 7) (k := 0) (v := .ref (G.1 22)) (C := RX7) (T := TX7) (N := 29) hC hS (hn _ (by decide)) rfl rfl in_X7 (by decide) rfl rfl lf_X7_7 dX7_laysWays_29 ?_
        refine lv_iload_n hx hb dX7_laysWays_32 rfl (lv_at hl 1 rfl) ?_
        obtain ⟨hi, hF⟩ := ckb_some hF
        refine ald hC hS (hn _ (by decide)) (by decide) rfl hi dX7_laysWays_33 ?_
        refine lv_if_le (tgt := 46) hx hb dX7_laysWays_34 (by decide) (fun hc => ?_) (fun hc => ?_)
        · rw [if_pos hc] at hF
          refine lv_sipush (v := 1000) hx hb dX7_laysWays_46 (by decide) ?_
          obtain ⟨hi, hF⟩ := ckb_some hF
          refine ast hC hS (hn _ (by decide)) (by decide) rfl hi dX7_laysWays_49 (fun H locs hS => ?_)
          refine lv_iinc (v := x1 + 1) (lv' := [(1, .int (x1 + 1)), (0, .ref (G.1 61))]) hx hb dX7_laysWays_50 hl (k := 1) rfl rfl (by decide) rfl (fun ls hl => ?_)
          refine lv_goto (tgt := 2) hx hb dX7_laysWays_53 (by decide) ?_
          exact ih _ _ _ _ _ hF hS (lv_sub hl [1, 0] rfl)
        · rw [if_neg hc] at hF
          refine lv_aload_n hx hb dX7_laysWays_37 rfl (lv_at hl 0 rfl) ?_
          refine gx (ci := 7) (k := 0) (v := .ref (G.1 22)) (C := RX7) (T := TX7) (N := 29) hC hS (hn _ (by decide)) rfl rfl in_X7 (by decide) rfl rfl lf_X7_7 dX7_laysWays_38 ?_
          refine lv_iload_n hx hb dX7_laysWays_41 rfl (lv_at hl 1 rfl) ?_
          obtain ⟨hi, hF⟩ := ckb_some hF
          refine ald hC hS (hn _ (by decide)) (by decide) rfl hi dX7_laysWays_42 ?_
          refine lv_goto (tgt := 49) hx hb dX7_laysWays_43 (by decide) ?_
          obtain ⟨hi, hF⟩ := ckb_some hF
          refine ast hC hS (hn _ (by decide)) (by decide) rfl hi dX7_laysWays_49 (fun H locs hS => ?_)
          refine lv_iinc (v := x1 + 1) (lv' := [(1, .int (x1 + 1)), (0, .ref (G.1 61))]) hx hb dX7_laysWays_50 hl (k := 1) rfl rfl (by decide) rfl (fun ls hl => ?_)
          refine lv_goto (tgt := 2) hx hb dX7_laysWays_53 (by decide) ?_
          exact ih _ _ _ _ _ hF hS (lv_sub hl [1, 0] rfl)
      · rw [if_pos hc] at hF
        refine lv_iconst (v := 0) hx hb dX7_laysWays_24 (by decide) ?_
        refine lv_goto (tgt := 49) hx hb dX7_laysWays_25 (by decide) ?_
        obtain ⟨hi, hF⟩ := ckb_some hF
        refine ast hC hS (hn _ (by decide)) (by decide) rfl hi dX7_laysWays_49 (fun H locs hS => ?_)
        refine lv_iinc (v := x1 + 1) (lv' := [(1, .int (x1 + 1)), (0, .ref (G.1 61))]) hx hb dX7_laysWays_50 hl (k := 1) rfl rfl (by decide) rfl (fun ls hl => ?_)
        refine lv_goto (tgt := 2) hx hb dX7_laysWays_53 (by decide) ?_
        exact ih _ _ _ _ _ hF hS (lv_sub hl [1, 0] rfl)
set_option maxHeartbeats 4000000 in
set_option maxRecDepth 100000 in
theorem b_X7_laysWays {M0 : Mem} (hC : SX p m c s args cX7_laysWays 4 RX7 G (AG G)) (hr : meth.sig.returnType = none) (hlk : meth.locks = false) (hn : ∀ i ∈ LsF, i ∈ gL G) : ∀ (M : Mem) (H : Heap) (locs : List Loc) (ls : Array Slot), F_X7_laysWays M = some M0 → ST G (AG G) s M H locs → lv_has ls 4 [(0, .ref (G.1 61))] → W p l e (RM 0 0) s m args below meth c H locs 0 0 (MQ below (QV G none M0) args s 0 0 (AG G)) (F0 m 0 ls []) := by
  obtain ⟨⟨hx, hb, hml, hown, hts⟩, hK, hG, hA⟩ := id hC
  intro M H locs ls hF hS hl
  unfold F_X7_laysWays at hF
  refine lv_iconst (v := 0) hx hb dX7_laysWays_0 (by decide) ?_
  refine lv_istore_n (lv' := [(1, .int 0), (0, .ref (G.1 61))]) hx hb dX7_laysWays_1 rfl hl (by decide) rfl (fun ls hl => ?_)
  exact b_X7_laysWays_2 hC hr hlk hn fu _ _ _ _ _ hF hS (lv_sub hl [1, 0] rfl)
set_option maxRecDepth 100000 in
theorem c_X7_laysWays (l : Launch) (G : GT) (hn : ∀ i ∈ LsF, i ∈ gL G) (M : Mem) (M0 : Mem) (hF : F_X7_laysWays M = some M0) : MetG l G yX7_laysWays cX7_laysWays 4 none 0 0 [.ref (G.1 61)] M none M0 := by
  refine MetG.of (by decide) (Nat.le_of_ble_eq_true rfl) ?_
  intro p e s m args below meth c hC hr hlk hnm ls hS hl
  exact b_X7_laysWays hC hr hlk hn _ _ _ _ hF hS hl
def F_X7_away (x1 : Int32) (x2 : Int32) (M : Mem) : Option (Int32 × Mem) := bd (F_X7_isTown x1 M) (fun r1 M1 => if r1 = 0 then some ((-2), M1) else bd (F_X7_isTown x2 M1) (fun r8 M8 => if r8 = 0 then some ((-2), M8) else bdv (F_X7_laysWays M8) (fun M18 => ckb (ix ((6 * x1) + x2) 36) (some (M18.2 23 ((6 * x1) + x2).toNatClampNeg, M18)))))
set_option maxHeartbeats 4000000 in
set_option maxRecDepth 100000 in
theorem b_X7_away {M0 : Mem} {r0 : Int32} (hC : SX p m c s args cX7_away 3 RX7 G (AG G)) (hr : meth.sig.returnType = (some .int)) (hlk : meth.locks = false) (hn : ∀ i ∈ LsF, i ∈ gL G) : ∀ (x1 : Int32) (x2 : Int32) (M : Mem) (H : Heap) (locs : List Loc) (ls : Array Slot), F_X7_away x1 x2 M = some (r0, M0) → ST G (AG G) s M H locs → lv_has ls 3 [(0, .ref (G.1 61)), (1, .int x1), (2, .int x2)] → W p l e (RM 2 42) s m args below meth c H locs 0 0 (MQ below (QV G (some (.int r0)) M0) args s 0 0 (AG G)) (F0 m 0 ls []) := by
  obtain ⟨⟨hx, hb, hml, hown, hts⟩, hK, hG, hA⟩ := id hC
  intro x1 x2 M H locs ls hF hS hl
  unfold F_X7_away at hF
  refine lv_iload_n hx hb dX7_away_0 rfl (lv_at hl 1 rfl) ?_
  obtain ⟨r1, M1, h1, hF⟩ := bd_some hF
  refine cS_ (As := [.int x1]) (v := some (.int r1)) (rest := []) (st1 := [.int r1]) hC hS (c_X7_isTown l G hn x1 M _ _ h1) kS_X7_isTown lm_X7_75 ⟨Nat.le_of_ble_eq_true rfl, Nat.le_of_ble_eq_true rfl⟩ rfl hl.1 (Nat.le_of_ble_eq_true rfl) dX7_away_1 ⟨Nat.le_refl _, Nat.le_refl _⟩ rfl (fun H locs hS => ?_)
  refine lv_if_eq (tgt := 14) hx hb dX7_away_4 (by decide) (fun hc => ?_) (fun hc => ?_)
  · rw [if_pos hc] at hF
    refine lv_bipush (v := (-2)) hx hb dX7_away_14 (by decide) ?_
    exact retI hC hS hr hlk hF dX7_away_16
  · rw [if_neg hc] at hF
    refine lv_iload_n hx hb dX7_away_7 rfl (lv_at hl 2 rfl) ?_
    obtain ⟨r8, M8, h8, hF⟩ := bd_some hF
    refine cS_ (As := [.int x2]) (v := some (.int r8)) (rest := []) (st1 := [.int r8]) hC hS (c_X7_isTown l G hn x2 M1 _ _ h8) kS_X7_isTown lm_X7_75 ⟨Nat.le_of_ble_eq_true rfl, Nat.le_of_ble_eq_true rfl⟩ rfl hl.1 (Nat.le_of_ble_eq_true rfl) dX7_away_8 ⟨Nat.le_refl _, Nat.le_refl _⟩ rfl (fun H locs hS => ?_)
    refine lv_if_ne (tgt := 17) hx hb dX7_away_11 (by decide) (fun hc => ?_) (fun hc => ?_)
    · rw [if_neg hc] at hF
      refine lv_aload_n hx hb dX7_away_17 rfl (lv_at hl 0 rfl) ?_
      obtain ⟨M18, h18, hF⟩ := bdv_some hF
      refine cV_ (ci := 7) (i := 61) (C := RX7) (T := TX7) (N := 29) (As := []) (v := none) (rest := []) (st1 := []) hC hS (hn _ (by decide)) rfl rfl (c_X7_laysWays l G hn M8 _ h18) kV_X7_laysWays lm_X7_79 ⟨Nat.le_of_ble_eq_true rfl, Nat.le_of_ble_eq_true rfl⟩ rfl hl.1 (Nat.le_of_ble_eq_true rfl) dX7_away_18 ⟨Nat.le_refl _, Nat.le_refl _⟩ rfl (fun H locs hS => ?_)
      refine lv_aload_n hx hb dX7_away_21 rfl (lv_at hl 0 rfl) ?_
      refine gx (ci := 7) (k := 1) (v := .ref (G.1 23)) (C := RX7) (T := TX7) (N := 29) hC hS (hn _ (by decide)) rfl rfl in_X7 (by decide) rfl rfl lf_X7_13 dX7_away_22 ?_
      refine lv_bipush (v := 6) hx hb dX7_away_25 (by decide) ?_
      refine lv_iload_n hx hb dX7_away_27 rfl (lv_at hl 1 rfl) ?_
      refine lv_imul hx hb dX7_away_28 ?_
      refine lv_iload_n hx hb dX7_away_29 rfl (lv_at hl 2 rfl) ?_
      refine lv_iadd hx hb dX7_away_30 ?_
      obtain ⟨hi, hF⟩ := ckb_some hF
      refine ald hC hS (hn _ (by decide)) (by decide) rfl hi dX7_away_31 ?_
      exact retI hC hS hr hlk hF dX7_away_32
    · rw [if_pos hc] at hF
      refine lv_bipush (v := (-2)) hx hb dX7_away_14 (by decide) ?_
      exact retI hC hS hr hlk hF dX7_away_16
set_option maxRecDepth 100000 in
theorem c_X7_away (l : Launch) (G : GT) (hn : ∀ i ∈ LsF, i ∈ gL G) (x1 : Int32) (x2 : Int32) (M : Mem) (r0 : Int32) (M0 : Mem) (hF : F_X7_away x1 x2 M = some (r0, M0)) : MetG l G yX7_away cX7_away 3 (some .int) 2 42 [.ref (G.1 61), .int x1, .int x2] M (some (.int r0)) M0 := by
  refine MetG.of (by decide) (Nat.le_of_ble_eq_true rfl) ?_
  intro p e s m args below meth c hC hr hlk hnm ls hS hl
  exact b_X7_away hC hr hlk hn _ _ _ _ _ _ hF hS hl
def F_X7_adds_57 (x1 : Int32) (x2 : Int32) (x3 : Int32) (x4 : Int32) (x5 : Int32) (t0 : Int32) (t1 : Int32) (t2 : Int32) (M : Mem) : Option (Int32 × Mem) := bd (F_X7_in t0 t1 t2 M) (fun r57 M57 => if r57 = 0 then some ((-2), M57) else if (M57.1 40) = 10 then some ((-4), M57) else ckb (ix (M57.1 40) 10) (ckb (ix ((sa M57 24 (M57.1 40).toNatClampNeg x1).1 40) 10) (ckb (ix ((sa (sa M57 24 (M57.1 40).toNatClampNeg x1) 25 ((sa M57 24 (M57.1 40).toNatClampNeg x1).1 40).toNatClampNeg x2).1 40) 10) (ckb (ix ((sa (sa (sa M57 24 (M57.1 40).toNatClampNeg x1) 25 ((sa M57 24 (M57.1 40).toNatClampNeg x1).1 40).toNatClampNeg x2) 26 ((sa (sa M57 24 (M57.1 40).toNatClampNeg x1) 25 ((sa M57 24 (M57.1 40).toNatClampNeg x1).1 40).toNatClampNeg x2).1 40).toNatClampNeg x3).1 40) 10) (ckb (ix ((sa (sa (sa (sa M57 24 (M57.1 40).toNatClampNeg x1) 25 ((sa M57 24 (M57.1 40).toNatClampNeg x1).1 40).toNatClampNeg x2) 26 ((sa (sa M57 24 (M57.1 40).toNatClampNeg x1) 25 ((sa M57 24 (M57.1 40).toNatClampNeg x1).1 40).toNatClampNeg x2).1 40).toNatClampNeg x3) 27 ((sa (sa (sa M57 24 (M57.1 40).toNatClampNeg x1) 25 ((sa M57 24 (M57.1 40).toNatClampNeg x1).1 40).toNatClampNeg x2) 26 ((sa (sa M57 24 (M57.1 40).toNatClampNeg x1) 25 ((sa M57 24 (M57.1 40).toNatClampNeg x1).1 40).toNatClampNeg x2).1 40).toNatClampNeg x3).1 40).toNatClampNeg x4).1 40) 10) (some (((sv (sa (sa (sa (sa (sa M57 24 (M57.1 40).toNatClampNeg x1) 25 ((sa M57 24 (M57.1 40).toNatClampNeg x1).1 40).toNatClampNeg x2) 26 ((sa (sa M57 24 (M57.1 40).toNatClampNeg x1) 25 ((sa M57 24 (M57.1 40).toNatClampNeg x1).1 40).toNatClampNeg x2).1 40).toNatClampNeg x3) 27 ((sa (sa (sa M57 24 (M57.1 40).toNatClampNeg x1) 25 ((sa M57 24 (M57.1 40).toNatClampNeg x1).1 40).toNatClampNeg x2) 26 ((sa (sa M57 24 (M57.1 40).toNatClampNeg x1) 25 ((sa M57 24 (M57.1 40).toNatClampNeg x1).1 40).toNatClampNeg x2).1 40).toNatClampNeg x3).1 40).toNatClampNeg x4) 28 ((sa (sa (sa (sa M57 24 (M57.1 40).toNatClampNeg x1) 25 ((sa M57 24 (M57.1 40).toNatClampNeg x1).1 40).toNatClampNeg x2) 26 ((sa (sa M57 24 (M57.1 40).toNatClampNeg x1) 25 ((sa M57 24 (M57.1 40).toNatClampNeg x1).1 40).toNatClampNeg x2).1 40).toNatClampNeg x3) 27 ((sa (sa (sa M57 24 (M57.1 40).toNatClampNeg x1) 25 ((sa M57 24 (M57.1 40).toNatClampNeg x1).1 40).toNatClampNeg x2) 26 ((sa (sa M57 24 (M57.1 40).toNatClampNeg x1) 25 ((sa M57 24 (M57.1 40).toNatClampNeg x1).1 40).toNatClampNeg x2).1 40).toNatClampNeg x3).1 40).toNatClampNeg x4).1 40).toNatClampNeg x5) 40 (((sa (sa (sa (sa (sa M57 24 (M57.1 40).toNatClampNeg x1) 25 ((sa M57 24 (M57.1 40).toNatClampNeg x1).1 40).toNatClampNeg x2) 26 ((sa (sa M57 24 (M57.1 40).toNatClampNeg x1) 25 ((sa M57 24 (M57.1 40).toNatClampNeg x1).1 40).toNatClampNeg x2).1 40).toNatClampNeg x3) 27 ((sa (sa (sa M57 24 (M57.1 40).toNatClampNeg x1) 25 ((sa M57 24 (M57.1 40).toNatClampNeg x1).1 40).toNatClampNeg x2) 26 ((sa (sa M57 24 (M57.1 40).toNatClampNeg x1) 25 ((sa M57 24 (M57.1 40).toNatClampNeg x1).1 40).toNatClampNeg x2).1 40).toNatClampNeg x3).1 40).toNatClampNeg x4) 28 ((sa (sa (sa (sa M57 24 (M57.1 40).toNatClampNeg x1) 25 ((sa M57 24 (M57.1 40).toNatClampNeg x1).1 40).toNatClampNeg x2) 26 ((sa (sa M57 24 (M57.1 40).toNatClampNeg x1) 25 ((sa M57 24 (M57.1 40).toNatClampNeg x1).1 40).toNatClampNeg x2).1 40).toNatClampNeg x3) 27 ((sa (sa (sa M57 24 (M57.1 40).toNatClampNeg x1) 25 ((sa M57 24 (M57.1 40).toNatClampNeg x1).1 40).toNatClampNeg x2) 26 ((sa (sa M57 24 (M57.1 40).toNatClampNeg x1) 25 ((sa M57 24 (M57.1 40).toNatClampNeg x1).1 40).toNatClampNeg x2).1 40).toNatClampNeg x3).1 40).toNatClampNeg x4).1 40).toNatClampNeg x5).1 40) + 1)).1 40) - 1, sv (sa (sa (sa (sa (sa M57 24 (M57.1 40).toNatClampNeg x1) 25 ((sa M57 24 (M57.1 40).toNatClampNeg x1).1 40).toNatClampNeg x2) 26 ((sa (sa M57 24 (M57.1 40).toNatClampNeg x1) 25 ((sa M57 24 (M57.1 40).toNatClampNeg x1).1 40).toNatClampNeg x2).1 40).toNatClampNeg x3) 27 ((sa (sa (sa M57 24 (M57.1 40).toNatClampNeg x1) 25 ((sa M57 24 (M57.1 40).toNatClampNeg x1).1 40).toNatClampNeg x2) 26 ((sa (sa M57 24 (M57.1 40).toNatClampNeg x1) 25 ((sa M57 24 (M57.1 40).toNatClampNeg x1).1 40).toNatClampNeg x2).1 40).toNatClampNeg x3).1 40).toNatClampNeg x4) 28 ((sa (sa (sa (sa M57 24 (M57.1 40).toNatClampNeg x1) 25 ((sa M57 24 (M57.1 40).toNatClampNeg x1).1 40).toNatClampNeg x2) 26 ((sa (sa M57 24 (M57.1 40).toNatClampNeg x1) 25 ((sa M57 24 (M57.1 40).toNatClampNeg x1).1 40).toNatClampNeg x2).1 40).toNatClampNeg x3) 27 ((sa (sa (sa M57 24 (M57.1 40).toNatClampNeg x1) 25 ((sa M57 24 (M57.1 40).toNatClampNeg x1).1 40).toNatClampNeg x2) 26 ((sa (sa M57 24 (M57.1 40).toNatClampNeg x1) 25 ((sa M57 24 (M57.1 40).toNatClampNeg x1).1 40).toNatClampNeg x2).1 40).toNatClampNeg x3).1 40).toNatClampNeg x4).1 40).toNatClampNeg x5) 40 (((sa (sa (sa (sa (sa M57 24 (M57.1 40).toNatClampNeg x1) 25 ((sa M57 24 (M57.1 40).toNatClampNeg x1).1 40).toNatClampNeg x2) 26 ((sa (sa M57 24 (M57.1 40).toNatClampNeg x1) 25 ((sa M57 24 (M57.1 40).toNatClampNeg x1).1 40).toNatClampNeg x2).1 40).toNatClampNeg x3) 27 ((sa (sa (sa M57 24 (M57.1 40).toNatClampNeg x1) 25 ((sa M57 24 (M57.1 40).toNatClampNeg x1).1 40).toNatClampNeg x2) 26 ((sa (sa M57 24 (M57.1 40).toNatClampNeg x1) 25 ((sa M57 24 (M57.1 40).toNatClampNeg x1).1 40).toNatClampNeg x2).1 40).toNatClampNeg x3).1 40).toNatClampNeg x4) 28 ((sa (sa (sa (sa M57 24 (M57.1 40).toNatClampNeg x1) 25 ((sa M57 24 (M57.1 40).toNatClampNeg x1).1 40).toNatClampNeg x2) 26 ((sa (sa M57 24 (M57.1 40).toNatClampNeg x1) 25 ((sa M57 24 (M57.1 40).toNatClampNeg x1).1 40).toNatClampNeg x2).1 40).toNatClampNeg x3) 27 ((sa (sa (sa M57 24 (M57.1 40).toNatClampNeg x1) 25 ((sa M57 24 (M57.1 40).toNatClampNeg x1).1 40).toNatClampNeg x2) 26 ((sa (sa M57 24 (M57.1 40).toNatClampNeg x1) 25 ((sa M57 24 (M57.1 40).toNatClampNeg x1).1 40).toNatClampNeg x2).1 40).toNatClampNeg x3).1 40).toNatClampNeg x4).1 40).toNatClampNeg x5).1 40) + 1))))))))
def F_X7_adds (x1 : Int32) (x2 : Int32) (x3 : Int32) (x4 : Int32) (x5 : Int32) (M : Mem) : Option (Int32 × Mem) := bd (F_X7_in x1 0 2 M) (fun r3 M3 => if r3 = 0 then some ((-2), M3) else bd (F_X7_in x2 1 1023 M3) (fun r14 M14 => if r14 = 0 then some ((-2), M14) else bd (F_X7_isTown x3 M14) (fun r21 M21 => if r21 = 0 then some ((-2), M21) else bd (F_X7_in x4 0 999 M21) (fun r33 M33 => if r33 = 0 then some ((-2), M33) else if x1 = 0 then F_X7_adds_57 x1 x2 x3 x4 x5 x5 0 99 M33 else F_X7_adds_57 x1 x2 x3 x4 x5 x5 0 ((M33.1 40) - 1) M33))))
set_option maxHeartbeats 4000000 in
set_option maxRecDepth 100000 in
theorem b_X7_adds_57 {M0 : Mem} {r0 : Int32} (hC : SX p m c s args cX7_adds 6 RX7 G (AG G)) (hr : meth.sig.returnType = (some .int)) (hlk : meth.locks = false) (hn : ∀ i ∈ LsF, i ∈ gL G) : ∀ (x1 : Int32) (x2 : Int32) (x3 : Int32) (x4 : Int32) (x5 : Int32) (t0 : Int32) (t1 : Int32) (t2 : Int32) (M : Mem) (H : Heap) (locs : List Loc) (ls : Array Slot), F_X7_adds_57 x1 x2 x3 x4 x5 t0 t1 t2 M = some (r0, M0) → ST G (AG G) s M H locs → lv_has ls 6 [(0, .ref (G.1 61)), (1, .int x1), (2, .int x2), (3, .int x3), (4, .int x4), (5, .int x5)] → W p l e (RM 2 42) s m args below meth c H locs 0 0 (MQ below (QV G (some (.int r0)) M0) args s 0 0 (AG G)) (F0 m 57 ls [.int t2, .int t1, .int t0]) := by
  obtain ⟨⟨hx, hb, hml, hown, hts⟩, hK, hG, hA⟩ := id hC
  intro x1 x2 x3 x4 x5 t0 t1 t2 M H locs ls hF hS hl
  unfold F_X7_adds_57 at hF
  obtain ⟨r57, M57, h57, hF⟩ := bd_some hF
  refine cS_ (As := [.int t0, .int t1, .int t2]) (v := some (.int r57)) (rest := []) (st1 := [.int r57]) hC hS (c_X7_in l G hn t0 t1 t2 M _ _ h57) kS_X7_in lm_X7_71 ⟨Nat.le_of_ble_eq_true rfl, Nat.le_of_ble_eq_true rfl⟩ rfl hl.1 (Nat.le_of_ble_eq_true rfl) dX7_adds_57 ⟨Nat.le_refl _, Nat.le_refl _⟩ rfl (fun H locs hS => ?_)
  refine lv_if_ne (tgt := 66) hx hb dX7_adds_60 (by decide) (fun hc => ?_) (fun hc => ?_)
  · rw [if_neg hc] at hF
    refine lv_aload_n hx hb dX7_adds_66 rfl (lv_at hl 0 rfl) ?_
    refine gx (ci := 7) (k := 2) (v := .int (M57.1 40)) (C := RX7) (T := TX7) (N := 29) hC hS (hn _ (by decide)) rfl rfl in_X7 (by decide) rfl rfl lf_X7_82 dX7_adds_67 ?_
    refine lv_bipush (v := 10) hx hb dX7_adds_70 (by decide) ?_
    refine lv_icmp_ne (tgt := 78) hx hb dX7_adds_72 (by decide) (fun hc => ?_) (fun hc => ?_)
    · rw [if_neg hc] at hF
      refine lv_aload_n hx hb dX7_adds_78 rfl (lv_at hl 0 rfl) ?_
      refine gx (ci := 7) (k := 3) (v := .ref (G.1 24)) (C := RX7) (T := TX7) (N := 29) hC hS (hn _ (by decide)) rfl rfl in_X7 (by decide) rfl rfl lf_X7_16 dX7_adds_79 ?_
      refine lv_aload_n hx hb dX7_adds_82 rfl (lv_at hl 0 rfl) ?_
      refine gx (ci := 7) (k := 2) (v := .int (M57.1 40)) (C := RX7) (T := TX7) (N := 29) hC hS (hn _ (by decide)) rfl rfl in_X7 (by decide) rfl rfl lf_X7_82 dX7_adds_83 ?_
      refine lv_iload_n hx hb dX7_adds_86 rfl (lv_at hl 1 rfl) ?_
      obtain ⟨hi, hF⟩ := ckb_some hF
      refine ast hC hS (hn _ (by decide)) (by decide) rfl hi dX7_adds_87 (fun H locs hS => ?_)
      refine lv_aload_n hx hb dX7_adds_88 rfl (lv_at hl 0 rfl) ?_
      refine gx (ci := 7) (k := 4) (v := .ref (G.1 25)) (C := RX7) (T := TX7) (N := 29) hC hS (hn _ (by decide)) rfl rfl in_X7 (by decide) rfl rfl lf_X7_19 dX7_adds_89 ?_
      refine lv_aload_n hx hb dX7_adds_92 rfl (lv_at hl 0 rfl) ?_
      refine gx (ci := 7) (k := 2) (v := .int ((sa M57 24 (M57.1 40).toNatClampNeg x1).1 40)) (C := RX7) (T := TX7) (N := 29) hC hS (hn _ (by decide)) rfl rfl in_X7 (by decide) rfl rfl lf_X7_82 dX7_adds_93 ?_
      refine lv_iload_n hx hb dX7_adds_96 rfl (lv_at hl 2 rfl) ?_
      obtain ⟨hi, hF⟩ := ckb_some hF
      refine ast hC hS (hn _ (by decide)) (by decide) rfl hi dX7_adds_97 (fun H locs hS => ?_)
      refine lv_aload_n hx hb dX7_adds_98 rfl (lv_at hl 0 rfl) ?_
      refine gx (ci := 7) (k := 5) (v := .ref (G.1 26)) (C := RX7) (T := TX7) (N := 29) hC hS (hn _ (by decide)) rfl rfl in_X7 (by decide) rfl rfl lf_X7_22 dX7_adds_99 ?_
      refine lv_aload_n hx hb dX7_adds_102 rfl (lv_at hl 0 rfl) ?_
      refine gx (ci := 7) (k := 2) (v := .int ((sa (sa M57 24 (M57.1 40).toNatClampNeg x1) 25 ((sa M57 24 (M57.1 40).toNatClampNeg x1).1 40).toNatClampNeg x2).1 40)) (C := RX7) (T := TX7) (N := 29) hC hS (hn _ (by decide)) rfl rfl in_X7 (by decide) rfl rfl lf_X7_82 dX7_adds_103 ?_
      refine lv_iload_n hx hb dX7_adds_106 rfl (lv_at hl 3 rfl) ?_
      obtain ⟨hi, hF⟩ := ckb_some hF
      refine ast hC hS (hn _ (by decide)) (by decide) rfl hi dX7_adds_107 (fun H locs hS => ?_)
      refine lv_aload_n hx hb dX7_adds_108 rfl (lv_at hl 0 rfl) ?_
      refine gx (ci := 7) (k := 6) (v := .ref (G.1 27)) (C := RX7) (T := TX7) (N := 29) hC hS (hn _ (by decide)) rfl rfl in_X7 (by decide) rfl rfl lf_X7_25 dX7_adds_109 ?_
      refine lv_aload_n hx hb dX7_adds_112 rfl (lv_at hl 0 rfl) ?_
      refine gx (ci := 7) (k := 2) (v := .int ((sa (sa (sa M57 24 (M57.1 40).toNatClampNeg x1) 25 ((sa M57 24 (M57.1 40).toNatClampNeg x1).1 40).toNatClampNeg x2) 26 ((sa (sa M57 24 (M57.1 40).toNatClampNeg x1) 25 ((sa M57 24 (M57.1 40).toNatClampNeg x1).1 40).toNatClampNeg x2).1 40).toNatClampNeg x3).1 40)) (C := RX7) (T := TX7) (N := 29) hC hS (hn _ (by decide)) rfl rfl in_X7 (by decide) rfl rfl lf_X7_82 dX7_adds_113 ?_
      refine lv_iload hx hb dX7_adds_116 (lv_at hl 4 rfl) ?_
      obtain ⟨hi, hF⟩ := ckb_some hF
      refine ast hC hS (hn _ (by decide)) (by decide) rfl hi dX7_adds_118 (fun H locs hS => ?_)
      refine lv_aload_n hx hb dX7_adds_119 rfl (lv_at hl 0 rfl) ?_
      refine gx (ci := 7) (k := 7) (v := .ref (G.1 28)) (C := RX7) (T := TX7) (N := 29) hC hS (hn _ (by decide)) rfl rfl in_X7 (by decide) rfl rfl lf_X7_28 dX7_adds_120 ?_
      refine lv_aload_n hx hb dX7_adds_123 rfl (lv_at hl 0 rfl) ?_
      refine gx (ci := 7) (k := 2) (v := .int ((sa (sa (sa (sa M57 24 (M57.1 40).toNatClampNeg x1) 25 ((sa M57 24 (M57.1 40).toNatClampNeg x1).1 40).toNatClampNeg x2) 26 ((sa (sa M57 24 (M57.1 40).toNatClampNeg x1) 25 ((sa M57 24 (M57.1 40).toNatClampNeg x1).1 40).toNatClampNeg x2).1 40).toNatClampNeg x3) 27 ((sa (sa (sa M57 24 (M57.1 40).toNatClampNeg x1) 25 ((sa M57 24 (M57.1 40).toNatClampNeg x1).1 40).toNatClampNeg x2) 26 ((sa (sa M57 24 (M57.1 40).toNatClampNeg x1) 25 ((sa M57 24 (M57.1 40).toNatClampNeg x1).1 40).toNatClampNeg x2).1 40).toNatClampNeg x3).1 40).toNatClampNeg x4).1 40)) (C := RX7) (T := TX7) (N := 29) hC hS (hn _ (by decide)) rfl rfl in_X7 (by decide) rfl rfl lf_X7_82 dX7_adds_124 ?_
      refine lv_iload hx hb dX7_adds_127 (lv_at hl 5 rfl) ?_
      obtain ⟨hi, hF⟩ := ckb_some hF
      refine ast hC hS (hn _ (by decide)) (by decide) rfl hi dX7_adds_129 (fun H locs hS => ?_)
      refine lv_aload_n hx hb dX7_adds_130 rfl (lv_at hl 0 rfl) ?_
      refine lv_dup hx hb dX7_adds_131 rfl ?_
      refine gx (ci := 7) (k := 2) (v := .int ((sa (sa (sa (sa (sa M57 24 (M57.1 40).toNatClampNeg x1) 25 ((sa M57 24 (M57.1 40).toNatClampNeg x1).1 40).toNatClampNeg x2) 26 ((sa (sa M57 24 (M57.1 40).toNatClampNeg x1) 25 ((sa M57 24 (M57.1 40).toNatClampNeg x1).1 40).toNatClampNeg x2).1 40).toNatClampNeg x3) 27 ((sa (sa (sa M57 24 (M57.1 40).toNatClampNeg x1) 25 ((sa M57 24 (M57.1 40).toNatClampNeg x1).1 40).toNatClampNeg x2) 26 ((sa (sa M57 24 (M57.1 40).toNatClampNeg x1) 25 ((sa M57 24 (M57.1 40).toNatClampNeg x1).1 40).toNatClampNeg x2).1 40).toNatClampNeg x3).1 40).toNatClampNeg x4) 28 ((sa (sa (sa (sa M57 24 (M57.1 40).toNatClampNeg x1) 25 ((sa M57 24 (M57.1 40).toNatClampNeg x1).1 40).toNatClampNeg x2) 26 ((sa (sa M57 24 (M57.1 40).toNatClampNeg x1) 25 ((sa M57 24 (M57.1 40).toNatClampNeg x1).1 40).toNatClampNeg x2).1 40).toNatClampNeg x3) 27 ((sa (sa (sa M57 24 (M57.1 40).toNatClampNeg x1) 25 ((sa M57 24 (M57.1 40).toNatClampNeg x1).1 40).toNatClampNeg x2) 26 ((sa (sa M57 24 (M57.1 40).toNatClampNeg x1) 25 ((sa M57 24 (M57.1 40).toNatClampNeg x1).1 40).toNatClampNeg x2).1 40).toNatClampNeg x3).1 40).toNatClampNeg x4).1 40).toNatClampNeg x5).1 40)) (C := RX7) (T := TX7) (N := 29) hC hS (hn _ (by decide)) rfl rfl in_X7 (by decide) rfl rfl lf_X7_82 dX7_adds_132 ?_
      refine lv_iconst (v := 1) hx hb dX7_adds_135 (by decide) ?_
      refine lv_iadd hx hb dX7_adds_136 ?_
      refine px (ci := 7) (k := 2) (n := 40) (ty := .int) (C := RX7) (T := TX7) (N := 29) hC hS (hn _ (by decide)) rfl rfl in_X7 tyX7_ok nmX7 (by decide) rfl rfl (by decide +kernel) rfl rfl (Nat.le_of_ble_eq_true rfl) rfl se_X7_2 lf_X7_82 dX7_adds_137 (fun H locs hS => ?_)
      refine lv_aload_n hx hb dX7_adds_140 rfl (lv_at hl 0 rfl) ?_
      refine gx (ci := 7) (k := 2) (v := .int ((sv (sa (sa (sa (sa (sa M57 24 (M57.1 40).toNatClampNeg x1) 25 ((sa M57 24 (M57.1 40).toNatClampNeg x1).1 40).toNatClampNeg x2) 26 ((sa (sa M57 24 (M57.1 40).toNatClampNeg x1) 25 ((sa M57 24 (M57.1 40).toNatClampNeg x1).1 40).toNatClampNeg x2).1 40).toNatClampNeg x3) 27 ((sa (sa (sa M57 24 (M57.1 40).toNatClampNeg x1) 25 ((sa M57 24 (M57.1 40).toNatClampNeg x1).1 40).toNatClampNeg x2) 26 ((sa (sa M57 24 (M57.1 40).toNatClampNeg x1) 25 ((sa M57 24 (M57.1 40).toNatClampNeg x1).1 40).toNatClampNeg x2).1 40).toNatClampNeg x3).1 40).toNatClampNeg x4) 28 ((sa (sa (sa (sa M57 24 (M57.1 40).toNatClampNeg x1) 25 ((sa M57 24 (M57.1 40).toNatClampNeg x1).1 40).toNatClampNeg x2) 26 ((sa (sa M57 24 (M57.1 40).toNatClampNeg x1) 25 ((sa M57 24 (M57.1 40).toNatClampNeg x1).1 40).toNatClampNeg x2).1 40).toNatClampNeg x3) 27 ((sa (sa (sa M57 24 (M57.1 40).toNatClampNeg x1) 25 ((sa M57 24 (M57.1 40).toNatClampNeg x1).1 40).toNatClampNeg x2) 26 ((sa (sa M57 24 (M57.1 40).toNatClampNeg x1) 25 ((sa M57 24 (M57.1 40).toNatClampNeg x1).1 40).toNatClampNeg x2).1 40).toNatClampNeg x3).1 40).toNatClampNeg x4).1 40).toNatClampNeg x5) 40 (((sa (sa (sa (sa (sa M57 24 (M57.1 40).toNatClampNeg x1) 25 ((sa M57 24 (M57.1 40).toNatClampNeg x1).1 40).toNatClampNeg x2) 26 ((sa (sa M57 24 (M57.1 40).toNatClampNeg x1) 25 ((sa M57 24 (M57.1 40).toNatClampNeg x1).1 40).toNatClampNeg x2).1 40).toNatClampNeg x3) 27 ((sa (sa (sa M57 24 (M57.1 40).toNatClampNeg x1) 25 ((sa M57 24 (M57.1 40).toNatClampNeg x1).1 40).toNatClampNeg x2) 26 ((sa (sa M57 24 (M57.1 40).toNatClampNeg x1) 25 ((sa M57 24 (M57.1 40).toNatClampNeg x1).1 40).toNatClampNeg x2).1 40).toNatClampNeg x3).1 40).toNatClampNeg x4) 28 ((sa (sa (sa (sa M57 24 (M57.1 40).toNatClampNeg x1) 25 ((sa M57 24 (M57.1 40).toNatClampNeg x1).1 40).toNatClampNeg x2) 26 ((sa (sa M57 24 (M57.1 40).toNatClampNeg x1) 25 ((sa M57 24 (M57.1 40).toNatClampNeg x1).1 40).toNatClampNeg x2).1 40).toNatClampNeg x3) 27 ((sa (sa (sa M57 24 (M57.1 40).toNatClampNeg x1) 25 ((sa M57 24 (M57.1 40).toNatClampNeg x1).1 40).toNatClampNeg x2) 26 ((sa (sa M57 24 (M57.1 40).toNatClampNeg x1) 25 ((sa M57 24 (M57.1 40).toNatClampNeg x1).1 40).toNatClampNeg x2).1 40).toNatClampNeg x3).1 40).toNatClampNeg x4).1 40).toNatClampNeg x5).1 40) + 1)).1 40)) (C := RX7) (T := TX7) (N := 29) hC hS (hn _ (by decide)) rfl rfl in_X7 (by decide) rfl rfl lf_X7_82 dX7_adds_141 ?_
      refine lv_iconst (v := 1) hx hb dX7_adds_144 (by decide) ?_
      refine lv_isub hx hb dX7_adds_145 ?_
      exact retI hC hS hr hlk hF dX7_adds_146
    · rw [if_pos hc] at hF
      refine lv_bipush (v := (-4)) hx hb dX7_adds_75 (by decide) ?_
      exact retI hC hS hr hlk hF dX7_adds_77
  · rw [if_pos hc] at hF
    refine lv_bipush (v := (-2)) hx hb dX7_adds_63 (by decide) ?_
    exact retI hC hS hr hlk hF dX7_adds_65
set_option maxHeartbeats 4000000 in
set_option maxRecDepth 100000 in
theorem b_X7_adds {M0 : Mem} {r0 : Int32} (hC : SX p m c s args cX7_adds 6 RX7 G (AG G)) (hr : meth.sig.returnType = (some .int)) (hlk : meth.locks = false) (hn : ∀ i ∈ LsF, i ∈ gL G) : ∀ (x1 : Int32) (x2 : Int32) (x3 : Int32) (x4 : Int32) (x5 : Int32) (M : Mem) (H : Heap) (locs : List Loc) (ls : Array Slot), F_X7_adds x1 x2 x3 x4 x5 M = some (r0, M0) → ST G (AG G) s M H locs → lv_has ls 6 [(0, .ref (G.1 61)), (1, .int x1), (2, .int x2), (3, .int x3), (4, .int x4), (5, .int x5)] → W p l e (RM 2 42) s m args below meth c H locs 0 0 (MQ below (QV G (some (.int r0)) M0) args s 0 0 (AG G)) (F0 m 0 ls []) := by
  obtain ⟨⟨hx, hb, hml, hown, hts⟩, hK, hG, hA⟩ := id hC
  intro x1 x2 x3 x4 x5 M H locs ls hF hS hl
  unfold F_X7_adds at hF
  refine lv_iload_n hx hb dX7_adds_0 rfl (lv_at hl 1 rfl) ?_
  refine lv_iconst (v := 0) hx hb dX7_adds_1 (by decide) ?_
  refine lv_iconst (v := 2) hx hb dX7_adds_2 (by decide) ?_
  obtain ⟨r3, M3, h3, hF⟩ := bd_some hF
  refine cS_ (As := [.int x1, .int 0, .int 2]) (v := some (.int r3)) (rest := []) (st1 := [.int r3]) hC hS (c_X7_in l G hn x1 0 2 M _ _ h3) kS_X7_in lm_X7_71 ⟨Nat.le_of_ble_eq_true rfl, Nat.le_of_ble_eq_true rfl⟩ rfl hl.1 (Nat.le_of_ble_eq_true rfl) dX7_adds_3 ⟨Nat.le_refl _, Nat.le_refl _⟩ rfl (fun H locs hS => ?_)
  refine lv_if_eq (tgt := 63) hx hb dX7_adds_6 (by decide) (fun hc => ?_) (fun hc => ?_)
  · rw [if_pos hc] at hF
    refine lv_bipush (v := (-2)) hx hb dX7_adds_63 (by decide) ?_
    exact retI hC hS hr hlk hF dX7_adds_65
  · rw [if_neg hc] at hF
    refine lv_iload_n hx hb dX7_adds_9 rfl (lv_at hl 2 rfl) ?_
    refine lv_iconst (v := 1) hx hb dX7_adds_10 (by decide) ?_
    refine lv_sipush (v := 1023) hx hb dX7_adds_11 (by decide) ?_
    obtain ⟨r14, M14, h14, hF⟩ := bd_some hF
    refine cS_ (As := [.int x2, .int 1, .int 1023]) (v := some (.int r14)) (rest := []) (st1 := [.int r14]) hC hS (c_X7_in l G hn x2 1 1023 M3 _ _ h14) kS_X7_in lm_X7_71 ⟨Nat.le_of_ble_eq_true rfl, Nat.le_of_ble_eq_true rfl⟩ rfl hl.1 (Nat.le_of_ble_eq_true rfl) dX7_adds_14 ⟨Nat.le_refl _, Nat.le_refl _⟩ rfl (fun H locs hS => ?_)
    refine lv_if_eq (tgt := 63) hx hb dX7_adds_17 (by decide) (fun hc => ?_) (fun hc => ?_)
    · rw [if_pos hc] at hF
      refine lv_bipush (v := (-2)) hx hb dX7_adds_63 (by decide) ?_
      exact retI hC hS hr hlk hF dX7_adds_65
    · rw [if_neg hc] at hF
      refine lv_iload_n hx hb dX7_adds_20 rfl (lv_at hl 3 rfl) ?_
      obtain ⟨r21, M21, h21, hF⟩ := bd_some hF
      refine cS_ (As := [.int x3]) (v := some (.int r21)) (rest := []) (st1 := [.int r21]) hC hS (c_X7_isTown l G hn x3 M14 _ _ h21) kS_X7_isTown lm_X7_75 ⟨Nat.le_of_ble_eq_true rfl, Nat.le_of_ble_eq_true rfl⟩ rfl hl.1 (Nat.le_of_ble_eq_true rfl) dX7_adds_21 ⟨Nat.le_refl _, Nat.le_refl _⟩ rfl (fun H locs hS => ?_)
      refine lv_if_eq (tgt := 63) hx hb dX7_adds_24 (by decide) (fun hc => ?_) (fun hc => ?_)
      · rw [if_pos hc] at hF
        refine lv_bipush (v := (-2)) hx hb dX7_adds_63 (by decide) ?_
        exact retI hC hS hr hlk hF dX7_adds_65
      · rw [if_neg hc] at hF
        refine lv_iload hx hb dX7_adds_27 (lv_at hl 4 rfl) ?_
        refine lv_iconst (v := 0) hx hb dX7_adds_29 (by decide) ?_
        refine lv_sipush (v := 999) hx hb dX7_adds_30 (by decide) ?_
        obtain ⟨r33, M33, h33, hF⟩ := bd_some hF
        refine cS_ (As := [.int x4, .int 0, .int 999]) (v := some (.int r33)) (rest := []) (st1 := [.int r33]) hC hS (c_X7_in l G hn x4 0 999 M21 _ _ h33) kS_X7_in lm_X7_71 ⟨Nat.le_of_ble_eq_true rfl, Nat.le_of_ble_eq_true rfl⟩ rfl hl.1 (Nat.le_of_ble_eq_true rfl) dX7_adds_33 ⟨Nat.le_refl _, Nat.le_refl _⟩ rfl (fun H locs hS => ?_)
        refine lv_if_eq (tgt := 63) hx hb dX7_adds_36 (by decide) (fun hc => ?_) (fun hc => ?_)
        · rw [if_pos hc] at hF
          refine lv_bipush (v := (-2)) hx hb dX7_adds_63 (by decide) ?_
          exact retI hC hS hr hlk hF dX7_adds_65
        · rw [if_neg hc] at hF
          refine lv_iload hx hb dX7_adds_39 (lv_at hl 5 rfl) ?_
          refine lv_iconst (v := 0) hx hb dX7_adds_41 (by decide) ?_
          refine lv_iload_n hx hb dX7_adds_42 rfl (lv_at hl 1 rfl) ?_
          refine lv_if_ne (tgt := 51) hx hb dX7_adds_43 (by decide) (fun hc => ?_) (fun hc => ?_)
          · rw [if_neg hc] at hF
            refine lv_aload_n hx hb dX7_adds_51 rfl (lv_at hl 0 rfl) ?_
            refine gx (ci := 7) (k := 2) (v := .int (M33.1 40)) (C := RX7) (T := TX7) (N := 29) hC hS (hn _ (by decide)) rfl rfl in_X7 (by decide) rfl rfl lf_X7_82 dX7_adds_52 ?_
            refine lv_iconst (v := 1) hx hb dX7_adds_55 (by decide) ?_
            refine lv_isub hx hb dX7_adds_56 ?_
            exact b_X7_adds_57 hC hr hlk hn _ _ _ _ _ _ _ _ _ _ _ _ hF hS (lv_sub hl [0, 1, 2, 3, 4, 5] rfl)
          · rw [if_pos hc] at hF
            refine lv_bipush (v := 99) hx hb dX7_adds_46 (by decide) ?_
            refine lv_goto (tgt := 57) hx hb dX7_adds_48 (by decide) ?_
            exact b_X7_adds_57 hC hr hlk hn _ _ _ _ _ _ _ _ _ _ _ _ hF hS (lv_sub hl [0, 1, 2, 3, 4, 5] rfl)
set_option maxRecDepth 100000 in
theorem c_X7_adds (l : Launch) (G : GT) (hn : ∀ i ∈ LsF, i ∈ gL G) (x1 : Int32) (x2 : Int32) (x3 : Int32) (x4 : Int32) (x5 : Int32) (M : Mem) (r0 : Int32) (M0 : Mem) (hF : F_X7_adds x1 x2 x3 x4 x5 M = some (r0, M0)) : MetG l G yX7_adds cX7_adds 6 (some .int) 2 42 [.ref (G.1 61), .int x1, .int x2, .int x3, .int x4, .int x5] M (some (.int r0)) M0 := by
  refine MetG.of (by decide) (Nat.le_of_ble_eq_true rfl) ?_
  intro p e s m args below meth c hC hr hlk hnm ls hS hl
  exact b_X7_adds hC hr hlk hn _ _ _ _ _ _ _ _ _ hF hS hl
def F_X7_word (x1 : Int32) (x2 : Int32) (x3 : Int32) (x4 : Int32) (x5 : Int32) (M : Mem) : Option (Int32 × Mem) := bd (F_X7_adds x1 x2 x3 x4 x5 M) (fun r8 M8 => some (r8, M8))
set_option maxHeartbeats 4000000 in
set_option maxRecDepth 100000 in
theorem b_X7_word {M0 : Mem} {r0 : Int32} (hC : SX p m c s args cX7_word 6 RX7 G (AG G)) (hr : meth.sig.returnType = (some .int)) (hlk : meth.locks = false) (hn : ∀ i ∈ LsF, i ∈ gL G) : ∀ (x1 : Int32) (x2 : Int32) (x3 : Int32) (x4 : Int32) (x5 : Int32) (M : Mem) (H : Heap) (locs : List Loc) (ls : Array Slot), F_X7_word x1 x2 x3 x4 x5 M = some (r0, M0) → ST G (AG G) s M H locs → lv_has ls 6 [(0, .ref (G.1 61)), (1, .int x1), (2, .int x2), (3, .int x3), (4, .int x4), (5, .int x5)] → W p l e (RM 3 67) s m args below meth c H locs 0 0 (MQ below (QV G (some (.int r0)) M0) args s 0 0 (AG G)) (F0 m 0 ls []) := by
  obtain ⟨⟨hx, hb, hml, hown, hts⟩, hK, hG, hA⟩ := id hC
  intro x1 x2 x3 x4 x5 M H locs ls hF hS hl
  unfold F_X7_word at hF
  refine lv_aload_n hx hb dX7_word_0 rfl (lv_at hl 0 rfl) ?_
  refine lv_iload_n hx hb dX7_word_1 rfl (lv_at hl 1 rfl) ?_
  refine lv_iload_n hx hb dX7_word_2 rfl (lv_at hl 2 rfl) ?_
  refine lv_iload_n hx hb dX7_word_3 rfl (lv_at hl 3 rfl) ?_
  refine lv_iload hx hb dX7_word_4 (lv_at hl 4 rfl) ?_
  refine lv_iload hx hb dX7_word_6 (lv_at hl 5 rfl) ?_
  obtain ⟨r8, M8, h8, hF⟩ := bd_some hF
  refine cV_ (ci := 7) (i := 61) (C := RX7) (T := TX7) (N := 29) (As := [.int x1, .int x2, .int x3, .int x4, .int x5]) (v := some (.int r8)) (rest := []) (st1 := [.int r8]) hC hS (hn _ (by decide)) rfl rfl (c_X7_adds l G hn x1 x2 x3 x4 x5 M _ _ h8) kV_X7_adds lm_X7_86 ⟨Nat.le_of_ble_eq_true rfl, Nat.le_of_ble_eq_true rfl⟩ rfl hl.1 (Nat.le_of_ble_eq_true rfl) dX7_word_8 ⟨Nat.le_refl _, Nat.le_refl _⟩ rfl (fun H locs hS => ?_)
  exact retI hC hS hr hlk hF dX7_word_11
set_option maxRecDepth 100000 in
theorem c_X7_word (l : Launch) (G : GT) (hn : ∀ i ∈ LsF, i ∈ gL G) (x1 : Int32) (x2 : Int32) (x3 : Int32) (x4 : Int32) (x5 : Int32) (M : Mem) (r0 : Int32) (M0 : Mem) (hF : F_X7_word x1 x2 x3 x4 x5 M = some (r0, M0)) : MetG l G yX7_word cX7_word 6 (some .int) 3 67 [.ref (G.1 61), .int x1, .int x2, .int x3, .int x4, .int x5] M (some (.int r0)) M0 := by
  refine MetG.of (by decide) (Nat.le_of_ble_eq_true rfl) ?_
  intro p e s m args below meth c hC hr hlk hnm ls hS hl
  exact b_X7_word hC hr hlk hn _ _ _ _ _ _ _ _ _ hF hS hl
def F_X7_isSheet (x0 : Int32) (M : Mem) : Option (Int32 × Mem) := bd (F_X7_in x0 0 3 M) (fun r3 M3 => ckb (zb r3) (some (r3, M3)))
set_option maxHeartbeats 4000000 in
set_option maxRecDepth 100000 in
theorem b_X7_isSheet {M0 : Mem} {r0 : Int32} (hC : SX p m c s args cX7_isSheet 1 RX7 G (AG G)) (hr : meth.sig.returnType = (some .boolean)) (hlk : meth.locks = false) (hn : ∀ i ∈ LsF, i ∈ gL G) : ∀ (x0 : Int32) (M : Mem) (H : Heap) (locs : List Loc) (ls : Array Slot), F_X7_isSheet x0 M = some (r0, M0) → ST G (AG G) s M H locs → lv_has ls 1 [(0, .int x0)] → W p l e (RM 1 22) s m args below meth c H locs 0 0 (MQ below (QV G (some (.int r0)) M0) args s 0 0 (AG G)) (F0 m 0 ls []) := by
  obtain ⟨⟨hx, hb, hml, hown, hts⟩, hK, hG, hA⟩ := id hC
  intro x0 M H locs ls hF hS hl
  unfold F_X7_isSheet at hF
  refine lv_iload_n hx hb dX7_isSheet_0 rfl (lv_at hl 0 rfl) ?_
  refine lv_iconst (v := 0) hx hb dX7_isSheet_1 (by decide) ?_
  refine lv_iconst (v := 3) hx hb dX7_isSheet_2 (by decide) ?_
  obtain ⟨r3, M3, h3, hF⟩ := bd_some hF
  refine cS_ (As := [.int x0, .int 0, .int 3]) (v := some (.int r3)) (rest := []) (st1 := [.int r3]) hC hS (c_X7_in l G hn x0 0 3 M _ _ h3) kS_X7_in lm_X7_71 ⟨Nat.le_of_ble_eq_true rfl, Nat.le_of_ble_eq_true rfl⟩ rfl hl.1 (Nat.le_of_ble_eq_true rfl) dX7_isSheet_3 ⟨Nat.le_refl _, Nat.le_refl _⟩ rfl (fun H locs hS => ?_)
  obtain ⟨hz, hF⟩ := ckb_some hF
  exact retZ hC hS hr hlk (zb_n hz) hF dX7_isSheet_6
set_option maxRecDepth 100000 in
theorem c_X7_isSheet (l : Launch) (G : GT) (hn : ∀ i ∈ LsF, i ∈ gL G) (x0 : Int32) (M : Mem) (r0 : Int32) (M0 : Mem) (hF : F_X7_isSheet x0 M = some (r0, M0)) : MetG l G yX7_isSheet cX7_isSheet 1 (some .boolean) 1 22 [.int x0] M (some (.int r0)) M0 := by
  refine MetG.of (by decide) (Nat.le_of_ble_eq_true rfl) ?_
  intro p e s m args below meth c hC hr hlk hnm ls hS hl
  exact b_X7_isSheet hC hr hlk hn _ _ _ _ _ hF hS hl
def F_X7_meets (x1 : Int32) (M : Mem) : Option (Int32 × Mem) := some ((-10) - x1, sv M 48 x1)
set_option maxHeartbeats 4000000 in
set_option maxRecDepth 100000 in
theorem b_X7_meets {M0 : Mem} {r0 : Int32} (hC : SX p m c s args cX7_meets 2 RX7 G (AG G)) (hr : meth.sig.returnType = (some .int)) (hlk : meth.locks = false) (hn : ∀ i ∈ LsF, i ∈ gL G) : ∀ (x1 : Int32) (M : Mem) (H : Heap) (locs : List Loc) (ls : Array Slot), F_X7_meets x1 M = some (r0, M0) → ST G (AG G) s M H locs → lv_has ls 2 [(0, .ref (G.1 61)), (1, .int x1)] → W p l e (RM 0 0) s m args below meth c H locs 0 0 (MQ below (QV G (some (.int r0)) M0) args s 0 0 (AG G)) (F0 m 0 ls []) := by
  obtain ⟨⟨hx, hb, hml, hown, hts⟩, hK, hG, hA⟩ := id hC
  intro x1 M H locs ls hF hS hl
  unfold F_X7_meets at hF
  refine lv_aload_n hx hb dX7_meets_0 rfl (lv_at hl 0 rfl) ?_
  refine lv_iload_n hx hb dX7_meets_1 rfl (lv_at hl 1 rfl) ?_
  refine px (ci := 7) (k := 28) (n := 48) (ty := .int) (C := RX7) (T := TX7) (N := 29) hC hS (hn _ (by decide)) rfl rfl in_X7 tyX7_ok nmX7 (by decide) rfl rfl (by decide +kernel) rfl rfl (Nat.le_of_ble_eq_true rfl) rfl se_X7_28 lf_X7_227 dX7_meets_2 (fun H locs hS => ?_)
  refine lv_bipush (v := (-10)) hx hb dX7_meets_5 (by decide) ?_
  refine lv_iload_n hx hb dX7_meets_7 rfl (lv_at hl 1 rfl) ?_
  refine lv_isub hx hb dX7_meets_8 ?_
  exact retI hC hS hr hlk hF dX7_meets_9
set_option maxRecDepth 100000 in
theorem c_X7_meets (l : Launch) (G : GT) (hn : ∀ i ∈ LsF, i ∈ gL G) (x1 : Int32) (M : Mem) (r0 : Int32) (M0 : Mem) (hF : F_X7_meets x1 M = some (r0, M0)) : MetG l G yX7_meets cX7_meets 2 (some .int) 0 0 [.ref (G.1 61), .int x1] M (some (.int r0)) M0 := by
  refine MetG.of (by decide) (Nat.le_of_ble_eq_true rfl) ?_
  intro p e s m args below meth c hC hr hlk hnm ls hS hl
  exact b_X7_meets hC hr hlk hn _ _ _ _ _ hF hS hl
def F_X7_read_27 : Nat → Int32 → Int32 → Mem → Option (Int32 × Mem)
  | 0, _, _, _ => none
  | n + 1, x1, x2, M => ckb (ix x1 4) (if (M.2 39 x1.toNatClampNeg) ≤ ((5 * x2) + 4) then some (x2, M) else ckb (ix ((40 * x1) + (5 * x2)) 160) (ckb (ix (((40 * x1) + (5 * x2)) + 1) 160) (ckb (ix (((40 * x1) + (5 * x2)) + 2) 160) (ckb (ix (((40 * x1) + (5 * x2)) + 3) 160) (ckb (ix (((40 * x1) + (5 * x2)) + 4) 160) (bd (F_X7_adds (M.2 40 ((40 * x1) + (5 * x2)).toNatClampNeg) (M.2 40 (((40 * x1) + (5 * x2)) + 1).toNatClampNeg) (M.2 40 (((40 * x1) + (5 * x2)) + 2).toNatClampNeg) (M.2 40 (((40 * x1) + (5 * x2)) + 3).toNatClampNeg) (M.2 40 (((40 * x1) + (5 * x2)) + 4).toNatClampNeg) M) (fun r89 M89 => if 0 ≤ r89 then F_X7_read_27 n x1 (x2 + 1) M89 else some (x2, M89))))))))
def F_X7_read (x1 : Int32) (M : Mem) : Option (Int32 × Mem) := bd (F_X7_isSheet x1 M) (fun r1 M1 => if r1 = 0 then some ((-2), M1) else ckb (ix x1 4) (if (M1.2 37 x1.toNatClampNeg) = 0 then bd (F_X7_meets 1 M1) (fun r21 M21 => some (r21, M21)) else F_X7_read_27 fu x1 0 M1))
set_option maxHeartbeats 4000000 in
set_option maxRecDepth 100000 in
theorem b_X7_read_27 {M0 : Mem} {r0 : Int32} (hC : SX p m c s args cX7_read 4 RX7 G (AG G)) (hr : meth.sig.returnType = (some .int)) (hlk : meth.locks = false) (hn : ∀ i ∈ LsF, i ∈ gL G) : ∀ (n : Nat) (x1 : Int32) (x2 : Int32) (M : Mem) (H : Heap) (locs : List Loc) (ls : Array Slot), F_X7_read_27 n x1 x2 M = some (r0, M0) → ST G (AG G) s M H locs → lv_has ls 4 [(0, .ref (G.1 61)), (1, .int x1), (2, .int x2)] → W p l e (RM 3 67) s m args below meth c H locs 0 0 (MQ below (QV G (some (.int r0)) M0) args s 0 0 (AG G)) (F0 m 27 ls []) := by
  obtain ⟨⟨hx, hb, hml, hown, hts⟩, hK, hG, hA⟩ := id hC
  intro n
  induction n with
  | zero =>
    intro x1 x2 M H locs ls hF
    cases hF
  | succ n ih =>
    intro x1 x2 M H locs ls hF hS hl
    unfold F_X7_read_27 at hF
    refine lv_iconst (v := 5) hx hb dX7_read_27 (by decide) ?_
    refine lv_iload_n hx hb dX7_read_28 rfl (lv_at hl 2 rfl) ?_
    refine lv_imul hx hb dX7_read_29 ?_
    refine lv_iconst (v := 4) hx hb dX7_read_30 (by decide) ?_
    refine lv_iadd hx hb dX7_read_31 ?_
    refine lv_aload_n hx hb dX7_read_32 rfl (lv_at hl 0 rfl) ?_
    refine gx (ci := 7) (k := 25) (v := .ref (G.1 39)) (C := RX7) (T := TX7) (N := 29) hC hS (hn _ (by decide)) rfl rfl in_X7 (by decide) rfl rfl lf_X7_62 dX7_read_33 ?_
    refine lv_iload_n hx hb dX7_read_36 rfl (lv_at hl 1 rfl) ?_
    obtain ⟨hi, hF⟩ := ckb_some hF
    refine ald hC hS (hn _ (by decide)) (by decide) rfl hi dX7_read_37 ?_
    refine lv_icmp_ge (tgt := 103) hx hb dX7_read_38 (by decide) (fun hc => ?_) (fun hc => ?_)
    · rw [if_pos hc] at hF
      refine lv_iload_n hx hb dX7_read_103 rfl (lv_at hl 2 rfl) ?_
      exact retI hC hS hr hlk hF dX7_read_104
    · rw [if_neg hc] at hF
      refine lv_bipush (v := 40) hx hb dX7_read_41 (by decide) ?_
      refine lv_iload_n hx hb dX7_read_43 rfl (lv_at hl 1 rfl) ?_
      refine lv_imul hx hb dX7_read_44 ?_
      refine lv_iconst (v := 5) hx hb dX7_read_45 (by decide) ?_
      refine lv_iload_n hx hb dX7_read_46 rfl (lv_at hl 2 rfl) ?_
      refine lv_imul hx hb dX7_read_47 ?_
      refine lv_iadd hx hb dX7_read_48 ?_
      refine lv_istore_n (lv' := [(3, .int ((40 * x1) + (5 * x2))), (0, .ref (G.1 61)), (1, .int x1), (2, .int x2)]) hx hb dX7_read_49 rfl hl (by decide) rfl (fun ls hl => ?_)
      refine lv_aload_n hx hb dX7_read_50 rfl (lv_at hl 1 rfl) ?_
      refine lv_aload_n hx hb dX7_read_51 rfl (lv_at hl 1 rfl) ?_
      refine gx (ci := 7) (k := 26) (v := .ref (G.1 40)) (C := RX7) (T := TX7) (N := 29) hC hS (hn _ (by decide)) rfl rfl in_X7 (by decide) rfl rfl lf_X7_65 dX7_read_52 ?_
      refine lv_iload_n hx hb dX7_read_55 rfl (lv_at hl 0 rfl) ?_
      obtain ⟨hi, hF⟩ := ckb_some hF
      refine ald hC hS (hn _ (by decide)) (by decide) rfl hi dX7_read_56 ?_
      refine lv_aload_n hx hb dX7_read_57 rfl (lv_at hl 1 rfl) ?_
      refine gx (ci := 7) (k := 26) (v := .ref (G.1 40)) (C := RX7) (T := TX7) (N := 29) hC hS (hn _ (by decide)) rfl rfl in_X7 (by decide) rfl rfl lf_X7_65 dX7_read_58 ?_
      refine lv_iload_n hx hb dX7_read_61 rfl (lv_at hl 0 rfl) ?_
      refine lv_iconst (v := 1) hx hb dX7_read_62 (by decide) ?_
      refine lv_iadd hx hb dX7_read_63 ?_
      obtain ⟨hi, hF⟩ := ckb_some hF
      refine ald hC hS (hn _ (by decide)) (by decide) rfl hi dX7_read_64 ?_
      refine lv_aload_n hx hb dX7_read_65 rfl (lv_at hl 1 rfl) ?_
      refine gx (ci := 7) (k := 26) (v := .ref (G.1 40)) (C := RX7) (T := TX7) (N := 29) hC hS (hn _ (by decide)) rfl rfl in_X7 (by decide) rfl rfl lf_X7_65 dX7_read_66 ?_
      refine lv_iload_n hx hb dX7_read_69 rfl (lv_at hl 0 rfl) ?_
      refine lv_iconst (v := 2) hx hb dX7_read_70 (by decide) ?_
      refine lv_iadd hx hb dX7_read_71 ?_
      obtain ⟨hi, hF⟩ := ckb_some hF
      refine ald hC hS (hn _ (by decide)) (by decide) rfl hi dX7_read_72 ?_
      refine lv_aload_n hx hb dX7_read_73 rfl (lv_at hl 1 rfl) ?_
      refine gx (ci := 7) (k := 26) (v := .ref (G.1 40)) (C := RX7) (T := TX7) (N := 29) hC hS (hn _ (by decide)) rfl rfl in_X7 (by decide) rfl rfl lf_X7_65 dX7_read_74 ?_
      refine lv_iload_n hx hb dX7_read_77 rfl (lv_at hl 0 rfl) ?_
      refine lv_iconst (v := 3) hx hb dX7_read_78 (by decide) ?_
      refine lv_iadd hx hb dX7_read_79 ?_
      obtain ⟨hi, hF⟩ := ckb_some hF
      refine ald hC hS (hn _ (by decide)) (by decide) rfl hi dX7_read_80 ?_
      refine lv_aload_n hx hb dX7_read_81 rfl (lv_at hl 1 rfl) ?_
      refine gx (ci := 7) (k := 26) (v := .ref (G.1 40)) (C := RX7) (T := TX7) (N := 29) hC hS (hn _ (by decide)) rfl rfl in_X7 (by decide) rfl rfl lf_X7_65 dX7_read_82 ?_
      refine lv_iload_n hx hb dX7_read_85 rfl (lv_at hl 0 rfl) ?_
      refine lv_iconst (v := 4) hx hb dX7_read_86 (by decide) ?_
      refine lv_iadd hx hb dX7_read_87 ?_
      obtain ⟨hi, hF⟩ := ckb_some hF
      refine ald hC hS (hn _ (by decide)) (by decide) rfl hi dX7_read_88 ?_
      obtain ⟨r89, M89, h89, hF⟩ := bd_some hF
      refine cV_ (ci := 7) (i := 61) (C := RX7) (T := TX7) (N := 29) (As := [.int (M.2 40 ((40 * x1) + (5 * x2)).toNatClampNeg), .int (M.2 40 (((40 * x1) + (5 * x2)) + 1).toNatClampNeg), .int (M.2 40 (((40 * x1) + (5 * x2)) + 2).toNatClampNeg), .int (M.2 40 (((40 * x1) + (5 * x2)) + 3).toNatClampNeg), .int (M.2 40 (((40 * x1) + (5 * x2)) + 4).toNatClampNeg)]) (v := some (.int r89)) (rest := []) (st1 := [.int r89]) hC hS (hn _ (by decide)) rfl rfl (c_X7_adds l G hn (M.2 40 ((40 * x1) + (5 * x2)).toNatClampNeg) (M.2 40 (((40 * x1) + (5 * x2)) + 1).toNatClampNeg) (M.2 40 (((40 * x1) + (5 * x2)) + 2).toNatClampNeg) (M.2 40 (((40 * x1) + (5 * x2)) + 3).toNatClampNeg) (M.2 40 (((40 * x1) + (5 * x2)) + 4).toNatClampNeg) M _ _ h89) kV_X7_adds lm_X7_86 ⟨Nat.le_of_ble_eq_true rfl, Nat.le_of_ble_eq_true rfl⟩ rfl hl.1 (Nat.le_of_ble_eq_true rfl) dX7_read_89 ⟨Nat.le_refl _, Nat.le_refl _⟩ rfl (fun H locs hS => ?_)
      refine lv_if_ge (tgt := 97) hx hb dX7_read_92 (by decide) (fun hc => ?_) (fun hc => ?_)
      · rw [if_pos hc] at hF
        refine lv_iinc (v := x2 + 1) (lv' := [(2, .int (x2 + 1)), (3, .int ((40 * x1) + (5 * x2))), (0, .ref (G.1 61)), (1, .int x1)]) hx hb dX7_read_97 hl (k := 3) rfl rfl (by decide) rfl (fun ls hl => ?_)
        refine lv_goto (tgt := 27) hx hb dX7_read_100 (by decide) ?_
        exact ih _ _ _ _ _ _ hF hS (lv_sub hl [2, 3, 0] rfl)
      · rw [if_neg hc] at hF
        refine lv_iload_n hx hb dX7_read_95 rfl (lv_at hl 3 rfl) ?_
        exact retI hC hS hr hlk hF dX7_read_96
set_option maxHeartbeats 4000000 in
set_option maxRecDepth 100000 in
theorem b_X7_read {M0 : Mem} {r0 : Int32} (hC : SX p m c s args cX7_read 4 RX7 G (AG G)) (hr : meth.sig.returnType = (some .int)) (hlk : meth.locks = false) (hn : ∀ i ∈ LsF, i ∈ gL G) : ∀ (x1 : Int32) (M : Mem) (H : Heap) (locs : List Loc) (ls : Array Slot), F_X7_read x1 M = some (r0, M0) → ST G (AG G) s M H locs → lv_has ls 4 [(0, .ref (G.1 61)), (1, .int x1)] → W p l e (RM 3 67) s m args below meth c H locs 0 0 (MQ below (QV G (some (.int r0)) M0) args s 0 0 (AG G)) (F0 m 0 ls []) := by
  obtain ⟨⟨hx, hb, hml, hown, hts⟩, hK, hG, hA⟩ := id hC
  intro x1 M H locs ls hF hS hl
  unfold F_X7_read at hF
  refine lv_iload_n hx hb dX7_read_0 rfl (lv_at hl 1 rfl) ?_
  obtain ⟨r1, M1, h1, hF⟩ := bd_some hF
  refine cS_ (As := [.int x1]) (v := some (.int r1)) (rest := []) (st1 := [.int r1]) hC hS (c_X7_isSheet l G hn x1 M _ _ h1) kS_X7_isSheet lm_X7_90 ⟨Nat.le_of_ble_eq_true rfl, Nat.le_of_ble_eq_true rfl⟩ rfl hl.1 (Nat.le_of_ble_eq_true rfl) dX7_read_1 ⟨Nat.le_refl _, Nat.le_refl _⟩ rfl (fun H locs hS => ?_)
  refine lv_if_ne (tgt := 10) hx hb dX7_read_4 (by decide) (fun hc => ?_) (fun hc => ?_)
  · rw [if_neg hc] at hF
    refine lv_aload_n hx hb dX7_read_10 rfl (lv_at hl 0 rfl) ?_
    refine gx (ci := 7) (k := 23) (v := .ref (G.1 37)) (C := RX7) (T := TX7) (N := 29) hC hS (hn _ (by decide)) rfl rfl in_X7 (by decide) rfl rfl lf_X7_56 dX7_read_11 ?_
    refine lv_iload_n hx hb dX7_read_14 rfl (lv_at hl 1 rfl) ?_
    obtain ⟨hi, hF⟩ := ckb_some hF
    refine zld hC hS (hn _ (by decide)) (by decide) rfl hi dX7_read_15 ?_
    refine lv_if_ne (tgt := 25) hx hb dX7_read_16 (by decide) (fun hc => ?_) (fun hc => ?_)
    · rw [if_neg hc] at hF
      refine lv_iconst (v := 0) hx hb dX7_read_25 (by decide) ?_
      refine lv_istore_n (lv' := [(2, .int 0), (0, .ref (G.1 61)), (1, .int x1)]) hx hb dX7_read_26 rfl hl (by decide) rfl (fun ls hl => ?_)
      exact b_X7_read_27 hC hr hlk hn fu _ _ _ _ _ _ hF hS (lv_sub hl [1, 2, 0] rfl)
    · rw [if_pos hc] at hF
      refine lv_aload_n hx hb dX7_read_19 rfl (lv_at hl 0 rfl) ?_
      refine lv_iconst (v := 1) hx hb dX7_read_20 (by decide) ?_
      obtain ⟨r21, M21, h21, hF⟩ := bd_some hF
      refine cV_ (ci := 7) (i := 61) (C := RX7) (T := TX7) (N := 29) (As := [.int 1]) (v := some (.int r21)) (rest := []) (st1 := [.int r21]) hC hS (hn _ (by decide)) rfl rfl (c_X7_meets l G hn 1 M1 _ _ h21) kV_X7_meets lm_X7_93 ⟨Nat.le_of_ble_eq_true rfl, Nat.le_of_ble_eq_true rfl⟩ rfl hl.1 (Nat.le_of_ble_eq_true rfl) dX7_read_21 ⟨Nat.le_refl _, Nat.le_refl _⟩ rfl (fun H locs hS => ?_)
      exact retI hC hS hr hlk hF dX7_read_24
  · rw [if_pos hc] at hF
    refine lv_bipush (v := (-2)) hx hb dX7_read_7 (by decide) ?_
    exact retI hC hS hr hlk hF dX7_read_9
set_option maxRecDepth 100000 in
theorem c_X7_read (l : Launch) (G : GT) (hn : ∀ i ∈ LsF, i ∈ gL G) (x1 : Int32) (M : Mem) (r0 : Int32) (M0 : Mem) (hF : F_X7_read x1 M = some (r0, M0)) : MetG l G yX7_read cX7_read 4 (some .int) 3 67 [.ref (G.1 61), .int x1] M (some (.int r0)) M0 := by
  refine MetG.of (by decide) (Nat.le_of_ble_eq_true rfl) ?_
  intro p e s m args below meth c hC hr hlk hnm ls hS hl
  exact b_X7_read hC hr hlk hn _ _ _ _ _ hF hS hl
def F_X7_isWord (x1 : Int32) (M : Mem) : Option (Int32 × Mem) := bd (F_X7_in x1 0 ((M.1 40) - 1) M) (fun r8 M8 => ckb (zb r8) (some (r8, M8)))
set_option maxHeartbeats 4000000 in
set_option maxRecDepth 100000 in
theorem b_X7_isWord {M0 : Mem} {r0 : Int32} (hC : SX p m c s args cX7_isWord 2 RX7 G (AG G)) (hr : meth.sig.returnType = (some .boolean)) (hlk : meth.locks = false) (hn : ∀ i ∈ LsF, i ∈ gL G) : ∀ (x1 : Int32) (M : Mem) (H : Heap) (locs : List Loc) (ls : Array Slot), F_X7_isWord x1 M = some (r0, M0) → ST G (AG G) s M H locs → lv_has ls 2 [(0, .ref (G.1 61)), (1, .int x1)] → W p l e (RM 1 22) s m args below meth c H locs 0 0 (MQ below (QV G (some (.int r0)) M0) args s 0 0 (AG G)) (F0 m 0 ls []) := by
  obtain ⟨⟨hx, hb, hml, hown, hts⟩, hK, hG, hA⟩ := id hC
  intro x1 M H locs ls hF hS hl
  unfold F_X7_isWord at hF
  refine lv_iload_n hx hb dX7_isWord_0 rfl (lv_at hl 1 rfl) ?_
  refine lv_iconst (v := 0) hx hb dX7_isWord_1 (by decide) ?_
  refine lv_aload_n hx hb dX7_isWord_2 rfl (lv_at hl 0 rfl) ?_
  refine gx (ci := 7) (k := 2) (v := .int (M.1 40)) (C := RX7) (T := TX7) (N := 29) hC hS (hn _ (by decide)) rfl rfl in_X7 (by decide) rfl rfl lf_X7_82 dX7_isWord_3 ?_
  refine lv_iconst (v := 1) hx hb dX7_isWord_6 (by decide) ?_
  refine lv_isub hx hb dX7_isWord_7 ?_
  obtain ⟨r8, M8, h8, hF⟩ := bd_some hF
  refine cS_ (As := [.int x1, .int 0, .int ((M.1 40) - 1)]) (v := some (.int r8)) (rest := []) (st1 := [.int r8]) hC hS (c_X7_in l G hn x1 0 ((M.1 40) - 1) M _ _ h8) kS_X7_in lm_X7_71 ⟨Nat.le_of_ble_eq_true rfl, Nat.le_of_ble_eq_true rfl⟩ rfl hl.1 (Nat.le_of_ble_eq_true rfl) dX7_isWord_8 ⟨Nat.le_refl _, Nat.le_refl _⟩ rfl (fun H locs hS => ?_)
  obtain ⟨hz, hF⟩ := ckb_some hF
  exact retZ hC hS hr hlk (zb_n hz) hF dX7_isWord_11
set_option maxRecDepth 100000 in
theorem c_X7_isWord (l : Launch) (G : GT) (hn : ∀ i ∈ LsF, i ∈ gL G) (x1 : Int32) (M : Mem) (r0 : Int32) (M0 : Mem) (hF : F_X7_isWord x1 M = some (r0, M0)) : MetG l G yX7_isWord cX7_isWord 2 (some .boolean) 1 22 [.ref (G.1 61), .int x1] M (some (.int r0)) M0 := by
  refine MetG.of (by decide) (Nat.le_of_ble_eq_true rfl) ?_
  intro p e s m args below meth c hC hr hlk hnm ls hS hl
  exact b_X7_isWord hC hr hlk hn _ _ _ _ _ hF hS hl
def F_X7_all (M : Mem) : Option (Int32 × Mem) := some (((1 : Int32) <<< ((M.1 40) &&& 31)) - 1, M)
set_option maxHeartbeats 4000000 in
set_option maxRecDepth 100000 in
theorem b_X7_all {M0 : Mem} {r0 : Int32} (hC : SX p m c s args cX7_all 1 RX7 G (AG G)) (hr : meth.sig.returnType = (some .int)) (hlk : meth.locks = false) (hn : ∀ i ∈ LsF, i ∈ gL G) : ∀ (M : Mem) (H : Heap) (locs : List Loc) (ls : Array Slot), F_X7_all M = some (r0, M0) → ST G (AG G) s M H locs → lv_has ls 1 [(0, .ref (G.1 61))] → W p l e (RM 0 0) s m args below meth c H locs 0 0 (MQ below (QV G (some (.int r0)) M0) args s 0 0 (AG G)) (F0 m 0 ls []) := by
  obtain ⟨⟨hx, hb, hml, hown, hts⟩, hK, hG, hA⟩ := id hC
  intro M H locs ls hF hS hl
  unfold F_X7_all at hF
  refine lv_iconst (v := 1) hx hb dX7_all_0 (by decide) ?_
  refine lv_aload_n hx hb dX7_all_1 rfl (lv_at hl 0 rfl) ?_
  refine gx (ci := 7) (k := 2) (v := .int (M.1 40)) (C := RX7) (T := TX7) (N := 29) hC hS (hn _ (by decide)) rfl rfl in_X7 (by decide) rfl rfl lf_X7_82 dX7_all_2 ?_
  refine lv_ishl hx hb dX7_all_5 ?_
  refine lv_iconst (v := 1) hx hb dX7_all_6 (by decide) ?_
  refine lv_isub hx hb dX7_all_7 ?_
  exact retI hC hS hr hlk hF dX7_all_8
set_option maxRecDepth 100000 in
theorem c_X7_all (l : Launch) (G : GT) (hn : ∀ i ∈ LsF, i ∈ gL G) (M : Mem) (r0 : Int32) (M0 : Mem) (hF : F_X7_all M = some (r0, M0)) : MetG l G yX7_all cX7_all 1 (some .int) 0 0 [.ref (G.1 61)] M (some (.int r0)) M0 := by
  refine MetG.of (by decide) (Nat.le_of_ble_eq_true rfl) ?_
  intro p e s m args below meth c hC hr hlk hnm ls hS hl
  exact b_X7_all hC hr hlk hn _ _ _ _ hF hS hl
end
