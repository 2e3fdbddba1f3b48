section
variable {p : Program} {l : Launch} {e : Env} {s : State} {m : MethodId} {args : Array Value} {below : List Frame} {meth : Method} {c : Code} {G : GT}
def F_X7_full_21 (M : Mem) : Option (Int32 × Mem) := some ((-2), M)
def F_X7_full (x1 : Int32) (x2 : Int32) (M : Mem) : Option (Int32 × Mem) := bd (F_X7_isLaw x1 M) (fun r1 M1 => if r1 = 0 then F_X7_full_21 M1 else if x2 < (-1) then F_X7_full_21 M1 else bd (F_X7_fullNow x1 x2 M1) (fun r15 M15 => some (r15, M15)))
set_option maxHeartbeats 4000000 in
set_option maxRecDepth 100000 in
theorem b_X7_full_21 {M0 : Mem} {r0 : Int32} (hC : SX p m c s args cX7_full 3 RX7 G (AG G)) (hr : meth.sig.returnType = (some .int)) (hlk : meth.locks = false) (hn : ∀ i ∈ LsF, i ∈ gL G) : ∀ (M : Mem) (H : Heap) (locs : List Loc) (ls : Array Slot), F_X7_full_21 M = some (r0, M0) → ST G (AG G) s M H locs → lv_has ls 3 [] → W p l e (RM 5 117) s m args below meth c H locs 0 0 (MQ below (QV G (some (.int r0)) M0) args s 0 0 (AG G)) (F0 m 21 ls []) := by
  obtain ⟨⟨hx, hb, hml, hown, hts⟩, hK, hG, hA⟩ := id hC
  intro M H locs ls hF hS hl
  unfold F_X7_full_21 at hF
  refine lv_bipush (v := (-2)) hx hb dX7_full_21 (by decide) ?_
  exact retI hC hS hr hlk hF dX7_full_23
set_option maxHeartbeats 4000000 in
set_option maxRecDepth 100000 in
theorem b_X7_full {M0 : Mem} {r0 : Int32} (hC : SX p m c s args cX7_full 3 RX7 G (AG G)) (hr : meth.sig.returnType = (some .int)) (hlk : meth.locks = false) (hn : ∀ i ∈ LsF, i ∈ gL G) : ∀ (x1 : Int32) (x2 : Int32) (M : Mem) (H : Heap) (locs : List Loc) (ls : Array Slot), F_X7_full x1 x2 M = some (r0, M0) → ST G (AG G) s M H locs → lv_has ls 3 [(0, .ref (G.1 61)), (1, .int x1), (2, .int x2)] → W p l e (RM 5 117) s m args below meth c H locs 0 0 (MQ below (QV G (some (.int r0)) M0) args s 0 0 (AG G)) (F0 m 0 ls []) := by
  obtain ⟨⟨hx, hb, hml, hown, hts⟩, hK, hG, hA⟩ := id hC
  intro x1 x2 M H locs ls hF hS hl
  unfold F_X7_full at hF
  refine lv_iload_n hx hb dX7_full_0 rfl (lv_at hl 1 rfl) ?_
  obtain ⟨r1, M1, h1, hF⟩ := bd_some hF
  refine cS_ (As := [.int x1]) (v := some (.int r1)) (rest := []) (st1 := [.int r1]) hC hS (c_X7_isLaw l G hn x1 M _ _ h1) kS_X7_isLaw lm_X7_120 ⟨Nat.le_of_ble_eq_true rfl, Nat.le_of_ble_eq_true rfl⟩ rfl hl.1 (Nat.le_of_ble_eq_true rfl) dX7_full_1 ⟨Nat.le_refl _, Nat.le_refl _⟩ rfl (fun H locs hS => ?_)
  refine lv_if_eq (tgt := 21) hx hb dX7_full_4 (by decide) (fun hc => ?_) (fun hc => ?_)
  · rw [if_pos hc] at hF
    exact b_X7_full_21 hC hr hlk hn _ _ _ _ hF hS (lv_sub hl [] rfl)
  · rw [if_neg hc] at hF
    refine lv_iload_n hx hb dX7_full_7 rfl (lv_at hl 2 rfl) ?_
    refine lv_iconst (v := (-1)) hx hb dX7_full_8 (by decide) ?_
    refine lv_icmp_lt (tgt := 21) hx hb dX7_full_9 (by decide) (fun hc => ?_) (fun hc => ?_)
    · rw [if_pos hc] at hF
      exact b_X7_full_21 hC hr hlk hn _ _ _ _ hF hS (lv_sub hl [] rfl)
    · rw [if_neg hc] at hF
      refine lv_aload_n hx hb dX7_full_12 rfl (lv_at hl 0 rfl) ?_
      refine lv_iload_n hx hb dX7_full_13 rfl (lv_at hl 1 rfl) ?_
      refine lv_iload_n hx hb dX7_full_14 rfl (lv_at hl 2 rfl) ?_
      obtain ⟨r15, M15, h15, hF⟩ := bd_some hF
      refine cV_ (ci := 7) (i := 61) (C := RX7) (T := TX7) (N := 29) (As := [.int x1, .int x2]) (v := some (.int r15)) (rest := []) (st1 := [.int r15]) hC hS (hn _ (by decide)) rfl rfl (c_X7_fullNow l G hn x1 x2 M1 _ _ h15) kV_X7_fullNow lm_X7_215 ⟨Nat.le_of_ble_eq_true rfl, Nat.le_of_ble_eq_true rfl⟩ rfl hl.1 (Nat.le_of_ble_eq_true rfl) dX7_full_15 ⟨Nat.le_refl _, Nat.le_refl _⟩ rfl (fun H locs hS => ?_)
      refine lv_goto (tgt := 23) hx hb dX7_full_18 (by decide) ?_
      exact retI hC hS hr hlk hF dX7_full_23
set_option maxRecDepth 100000 in
theorem c_X7_full (l : Launch) (G : GT) (hn : ∀ i ∈ LsF, i ∈ gL G) (x1 : Int32) (x2 : Int32) (M : Mem) (r0 : Int32) (M0 : Mem) (hF : F_X7_full x1 x2 M = some (r0, M0)) : MetG l G yX7_full cX7_full 3 (some .int) 5 117 [.ref (G.1 61), .int x1, .int x2] M (some (.int r0)) M0 := by
  refine MetG.of (by decide) (Nat.le_of_ble_eq_true rfl) ?_
  intro p e s m args below meth c hC hr hlk hnm ls hS hl
  exact b_X7_full hC hr hlk hn _ _ _ _ _ _ hF hS hl
def F_X7_firm_97 (k39 : Int32 → Int32 → Int32 → Int32 → Mem → Option (Int32 × Mem)) (x2 : Int32) (x3 : Int32) (x4 : Int32) (x5 : Int32) (M : Mem) : Option (Int32 × Mem) := k39 x2 x3 x4 (x5 + 1) M
def F_X7_firm_95 (k39 : Int32 → Int32 → Int32 → Int32 → Mem → Option (Int32 × Mem)) (x2 : Int32) (x3 : Int32) (x5 : Int32) (t0 : Int32) (M : Mem) : Option (Int32 × Mem) := F_X7_firm_97 k39 x2 x3 t0 x5 M
def F_X7_firm_94 (k39 : Int32 → Int32 → Int32 → Int32 → Mem → Option (Int32 × Mem)) (x2 : Int32) (x3 : Int32) (x5 : Int32) (M : Mem) : Option (Int32 × Mem) := F_X7_firm_95 k39 x2 x3 x5 0 M
def F_X7_firm_75 (k39 : Int32 → Int32 → Int32 → Int32 → Mem → Option (Int32 × Mem)) (x2 : Int32) (x4 : Int32) (x5 : Int32) (t0 : Int32) (M : Mem) : Option (Int32 × Mem) := if x4 = 0 then F_X7_firm_94 k39 x2 t0 x5 M else bd (F_X7_has x5 x2 M) (fun r84 M84 => if r84 = 0 then F_X7_firm_94 k39 x2 t0 x5 M84 else F_X7_firm_95 k39 x2 t0 x5 1 M84)
def F_X7_firm_70 (k39 : Int32 → Int32 → Int32 → Int32 → Mem → Option (Int32 × Mem)) (x2 : Int32) (x4 : Int32) (x5 : Int32) (M : Mem) : Option (Int32 × Mem) := F_X7_firm_75 k39 x2 x4 x5 1 M
def F_X7_firm_39 : Nat → Int32 → Int32 → Int32 → Int32 → Mem → Option (Int32 × Mem)
  | 0, _, _, _, _, _ => none
  | n + 1, x2, x3, x4, x5, M => bd (F_X7_all M) (fun r42 M42 => if r42 < x5 then if x4 = 0 then if x3 = 0 then some (0, M42) else some (1, M42) else some (2, M42) else bd (F_X7_isFull x5 M42) (fun r51 M51 => if r51 = 0 then F_X7_firm_97 (F_X7_firm_39 n) x2 x3 x4 x5 M51 else if x3 = 0 then bd (F_X7_has x5 x2 M51) (fun r64 M64 => if r64 = 0 then F_X7_firm_75 (F_X7_firm_39 n) x2 x4 x5 0 M64 else F_X7_firm_70 (F_X7_firm_39 n) x2 x4 x5 M64) else F_X7_firm_70 (F_X7_firm_39 n) x2 x4 x5 M51))
def F_X7_firm (x1 : Int32) (x2 : Int32) (M : Mem) : Option (Int32 × Mem) := bd (F_X7_isLaw x1 M) (fun r1 M1 => if r1 = 0 then some ((-2), M1) else bd (F_X7_isWord x2 M1) (fun r9 M9 => if r9 = 0 then some ((-2), M9) else bd (F_X7_heardOnes M9) (fun r21 M21 => bdv (F_X7_meetsAll x1 r21 M21) (fun M24 => bdv (F_X7_laysSounds M24) (fun M28 => F_X7_firm_39 fu x2 0 1 0 M28)))))
set_option maxHeartbeats 4000000 in
set_option maxRecDepth 100000 in
theorem b_X7_firm_97 {k39 : Int32 → Int32 → Int32 → Int32 → Mem → Option (Int32 × Mem)} {M0 : Mem} {r0 : Int32} (hC : SX p m c s args cX7_firm 6 RX7 G (AG G)) (hr : meth.sig.returnType = (some .int)) (hlk : meth.locks = false) (hn : ∀ i ∈ LsF, i ∈ gL G) (hk39 : ∀ (x2 : Int32) (x3 : Int32) (x4 : Int32) (x5 : Int32) (M : Mem) (H : Heap) (locs : List Loc) (ls : Array Slot), k39 x2 x3 x4 x5 M = some (r0, M0) → ST G (AG G) s M H locs → lv_has ls 6 [(0, .ref (G.1 61)), (2, .int x2), (3, .int x3), (4, .int x4), (5, .int x5)] → W p l e (RM 4 93) s m args below meth c H locs 0 0 (MQ below (QV G (some (.int r0)) M0) args s 0 0 (AG G)) (F0 m 39 ls [])) : ∀ (x2 : Int32) (x3 : Int32) (x4 : Int32) (x5 : Int32) (M : Mem) (H : Heap) (locs : List Loc) (ls : Array Slot), F_X7_firm_97 k39 x2 x3 x4 x5 M = some (r0, M0) → ST G (AG G) s M H locs → lv_has ls 6 [(0, .ref (G.1 61)), (2, .int x2), (3, .int x3), (4, .int x4), (5, .int x5)] → W p l e (RM 4 93) s m args below meth c H locs 0 0 (MQ below (QV G (some (.int r0)) M0) args s 0 0 (AG G)) (F0 m 97 ls []) := by
  obtain ⟨⟨hx, hb, hml, hown, hts⟩, hK, hG, hA⟩ := id hC
  intro x2 x3 x4 x5 M H locs ls hF hS hl
  unfold F_X7_firm_97 at hF
  refine lv_iinc (v := x5 + 1) (lv' := [(5, .int (x5 + 1)), (0, .ref (G.1 61)), (2, .int x2), (3, .int x3), (4, .int x4)]) hx hb dX7_firm_97 hl (k := 4) rfl rfl (by decide) rfl (fun ls hl => ?_)
  refine lv_goto (tgt := 39) hx hb dX7_firm_100 (by decide) ?_
  exact hk39 _ _ _ _ _ _ _ _ hF hS (lv_sub hl [1, 2, 3, 4, 0] rfl)
set_option maxHeartbeats 4000000 in
set_option maxRecDepth 100000 in
theorem b_X7_firm_95 {k39 : Int32 → Int32 → Int32 → Int32 → Mem → Option (Int32 × Mem)} {M0 : Mem} {r0 : Int32} (hC : SX p m c s args cX7_firm 6 RX7 G (AG G)) (hr : meth.sig.returnType = (some .int)) (hlk : meth.locks = false) (hn : ∀ i ∈ LsF, i ∈ gL G) (hk39 : ∀ (x2 : Int32) (x3 : Int32) (x4 : Int32) (x5 : Int32) (M : Mem) (H : Heap) (locs : List Loc) (ls : Array Slot), k39 x2 x3 x4 x5 M = some (r0, M0) → ST G (AG G) s M H locs → lv_has ls 6 [(0, .ref (G.1 61)), (2, .int x2), (3, .int x3), (4, .int x4), (5, .int x5)] → W p l e (RM 4 93) s m args below meth c H locs 0 0 (MQ below (QV G (some (.int r0)) M0) args s 0 0 (AG G)) (F0 m 39 ls [])) : ∀ (x2 : Int32) (x3 : Int32) (x5 : Int32) (t0 : Int32) (M : Mem) (H : Heap) (locs : List Loc) (ls : Array Slot), F_X7_firm_95 k39 x2 x3 x5 t0 M = some (r0, M0) → ST G (AG G) s M H locs → lv_has ls 6 [(0, .ref (G.1 61)), (2, .int x2), (3, .int x3), (5, .int x5)] → W p l e (RM 4 93) s m args below meth c H locs 0 0 (MQ below (QV G (some (.int r0)) M0) args s 0 0 (AG G)) (F0 m 95 ls [.int t0]) := by
  obtain ⟨⟨hx, hb, hml, hown, hts⟩, hK, hG, hA⟩ := id hC
  intro x2 x3 x5 t0 M H locs ls hF hS hl
  unfold F_X7_firm_95 at hF
  refine lv_istore (lv' := [(4, .int t0), (0, .ref (G.1 61)), (2, .int x2), (3, .int x3), (5, .int x5)]) hx hb dX7_firm_95 hl (by decide) rfl (fun ls hl => ?_)
  exact b_X7_firm_97 hC hr hlk hn hk39 _ _ _ _ _ _ _ _ hF hS (lv_sub hl [1, 2, 3, 0, 4] rfl)
set_option maxHeartbeats 4000000 in
set_option maxRecDepth 100000 in
theorem b_X7_firm_94 {k39 : Int32 → Int32 → Int32 → Int32 → Mem → Option (Int32 × Mem)} {M0 : Mem} {r0 : Int32} (hC : SX p m c s args cX7_firm 6 RX7 G (AG G)) (hr : meth.sig.returnType = (some .int)) (hlk : meth.locks = false) (hn : ∀ i ∈ LsF, i ∈ gL G) (hk39 : ∀ (x2 : Int32) (x3 : Int32) (x4 : Int32) (x5 : Int32) (M : Mem) (H : Heap) (locs : List Loc) (ls : Array Slot), k39 x2 x3 x4 x5 M = some (r0, M0) → ST G (AG G) s M H locs → lv_has ls 6 [(0, .ref (G.1 61)), (2, .int x2), (3, .int x3), (4, .int x4), (5, .int x5)] → W p l e (RM 4 93) s m args below meth c H locs 0 0 (MQ below (QV G (some (.int r0)) M0) args s 0 0 (AG G)) (F0 m 39 ls [])) : ∀ (x2 : Int32) (x3 : Int32) (x5 : Int32) (M : Mem) (H : Heap) (locs : List Loc) (ls : Array Slot), F_X7_firm_94 k39 x2 x3 x5 M = some (r0, M0) → ST G (AG G) s M H locs → lv_has ls 6 [(0, .ref (G.1 61)), (2, .int x2), (3, .int x3), (5, .int x5)] → W p l e (RM 4 93) s m args below meth c H locs 0 0 (MQ below (QV G (some (.int r0)) M0) args s 0 0 (AG G)) (F0 m 94 ls []) := by
  obtain ⟨⟨hx, hb, hml, hown, hts⟩, hK, hG, hA⟩ := id hC
  intro x2 x3 x5 M H locs ls hF hS hl
  unfold F_X7_firm_94 at hF
  refine lv_iconst (v := 0) hx hb dX7_firm_94 (by decide) ?_
  exact b_X7_firm_95 hC hr hlk hn hk39 _ _ _ _ _ _ _ _ hF hS (lv_sub hl [0, 1, 2, 3] rfl)
set_option maxHeartbeats 4000000 in
set_option maxRecDepth 100000 in
theorem b_X7_firm_75 {k39 : Int32 → Int32 → Int32 → Int32 → Mem → Option (Int32 × Mem)} {M0 : Mem} {r0 : Int32} (hC : SX p m c s args cX7_firm 6 RX7 G (AG G)) (hr : meth.sig.returnType = (some .int)) (hlk : meth.locks = false) (hn : ∀ i ∈ LsF, i ∈ gL G) (hk39 : ∀ (x2 : Int32) (x3 : Int32) (x4 : Int32) (x5 : Int32) (M : Mem) (H : Heap) (locs : List Loc) (ls : Array Slot), k39 x2 x3 x4 x5 M = some (r0, M0) → ST G (AG G) s M H locs → lv_has ls 6 [(0, .ref (G.1 61)), (2, .int x2), (3, .int x3), (4, .int x4), (5, .int x5)] → W p l e (RM 4 93) s m args below meth c H locs 0 0 (MQ below (QV G (some (.int r0)) M0) args s 0 0 (AG G)) (F0 m 39 ls [])) : ∀ (x2 : Int32) (x4 : Int32) (x5 : Int32) (t0 : Int32) (M : Mem) (H : Heap) (locs : List Loc) (ls : Array Slot), F_X7_firm_75 k39 x2 x4 x5 t0 M = some (r0, M0) → ST G (AG G) s M H locs → lv_has ls 6 [(0, .ref (G.1 61)), (2, .int x2), (4, .int x4), (5, .int x5)] → W p l e (RM 4 93) s m args below meth c H locs 0 0 (MQ below (QV G (some (.int r0)) M0) args s 0 0 (AG G)) (F0 m 75 ls [.int t0]) := by
  obtain ⟨⟨hx, hb, hml, hown, hts⟩, hK, hG, hA⟩ := id hC
  intro x2 x4 x5 t0 M H locs ls hF hS hl
  unfold F_X7_firm_75 at hF
  refine lv_istore_n (lv' := [(3, .int t0), (0, .ref (G.1 61)), (2, .int x2), (4, .int x4), (5, .int x5)]) hx hb dX7_firm_75 rfl hl (by decide) rfl (fun ls hl => ?_)
  refine lv_iload hx hb dX7_firm_76 (lv_at hl 3 rfl) ?_
  refine lv_if_eq (tgt := 94) hx hb dX7_firm_78 (by decide) (fun hc => ?_) (fun hc => ?_)
  · rw [if_pos hc] at hF
    exact b_X7_firm_94 hC hr hlk hn hk39 _ _ _ _ _ _ _ hF hS (lv_sub hl [1, 2, 0, 4] rfl)
  · rw [if_neg hc] at hF
    refine lv_iload hx hb dX7_firm_81 (lv_at hl 4 rfl) ?_
    refine lv_iload_n hx hb dX7_firm_83 rfl (lv_at hl 2 rfl) ?_
    obtain ⟨r84, M84, h84, hF⟩ := bd_some hF
    refine cS_ (As := [.int x5, .int x2]) (v := some (.int r84)) (rest := []) (st1 := [.int r84]) hC hS (c_X7_has l G hn x5 x2 M _ _ h84) kS_X7_has lm_X7_151 ⟨Nat.le_of_ble_eq_true rfl, Nat.le_of_ble_eq_true rfl⟩ rfl hl.1 (Nat.le_of_ble_eq_true rfl) dX7_firm_84 ⟨Nat.le_refl _, Nat.le_refl _⟩ rfl (fun H locs hS => ?_)
    refine lv_if_eq (tgt := 94) hx hb dX7_firm_87 (by decide) (fun hc => ?_) (fun hc => ?_)
    · rw [if_pos hc] at hF
      exact b_X7_firm_94 hC hr hlk hn hk39 _ _ _ _ _ _ _ hF hS (lv_sub hl [1, 2, 0, 4] rfl)
    · rw [if_neg hc] at hF
      refine lv_iconst (v := 1) hx hb dX7_firm_90 (by decide) ?_
      refine lv_goto (tgt := 95) hx hb dX7_firm_91 (by decide) ?_
      exact b_X7_firm_95 hC hr hlk hn hk39 _ _ _ _ _ _ _ _ hF hS (lv_sub hl [1, 2, 0, 4] rfl)
set_option maxHeartbeats 4000000 in
set_option maxRecDepth 100000 in
theorem b_X7_firm_70 {k39 : Int32 → Int32 → Int32 → Int32 → Mem → Option (Int32 × Mem)} {M0 : Mem} {r0 : Int32} (hC : SX p m c s args cX7_firm 6 RX7 G (AG G)) (hr : meth.sig.returnType = (some .int)) (hlk : meth.locks = false) (hn : ∀ i ∈ LsF, i ∈ gL G) (hk39 : ∀ (x2 : Int32) (x3 : Int32) (x4 : Int32) (x5 : Int32) (M : Mem) (H : Heap) (locs : List Loc) (ls : Array Slot), k39 x2 x3 x4 x5 M = some (r0, M0) → ST G (AG G) s M H locs → lv_has ls 6 [(0, .ref (G.1 61)), (2, .int x2), (3, .int x3), (4, .int x4), (5, .int x5)] → W p l e (RM 4 93) s m args below meth c H locs 0 0 (MQ below (QV G (some (.int r0)) M0) args s 0 0 (AG G)) (F0 m 39 ls [])) : ∀ (x2 : Int32) (x4 : Int32) (x5 : Int32) (M : Mem) (H : Heap) (locs : List Loc) (ls : Array Slot), F_X7_firm_70 k39 x2 x4 x5 M = some (r0, M0) → ST G (AG G) s M H locs → lv_has ls 6 [(0, .ref (G.1 61)), (2, .int x2), (4, .int x4), (5, .int x5)] → W p l e (RM 4 93) s m args below meth c H locs 0 0 (MQ below (QV G (some (.int r0)) M0) args s 0 0 (AG G)) (F0 m 70 ls []) := by
  obtain ⟨⟨hx, hb, hml, hown, hts⟩, hK, hG, hA⟩ := id hC
  intro x2 x4 x5 M H locs ls hF hS hl
  unfold F_X7_firm_70 at hF
  refine lv_iconst (v := 1) hx hb dX7_firm_70 (by decide) ?_
  refine lv_goto (tgt := 75) hx hb dX7_firm_71 (by decide) ?_
  exact b_X7_firm_75 hC hr hlk hn hk39 _ _ _ _ _ _ _ _ hF hS (lv_sub hl [0, 1, 2, 3] rfl)
set_option maxHeartbeats 4000000 in
set_option maxRecDepth 100000 in
theorem b_X7_firm_39 {M0 : Mem} {r0 : Int32} (hC : SX p m c s args cX7_firm 6 RX7 G (AG G)) (hr : meth.sig.returnType = (some .int)) (hlk : meth.locks = false) (hn : ∀ i ∈ LsF, i ∈ gL G) : ∀ (n : Nat) (x2 : Int32) (x3 : Int32) (x4 : Int32) (x5 : Int32) (M : Mem) (H : Heap) (locs : List Loc) (ls : Array Slot), F_X7_firm_39 n x2 x3 x4 x5 M = some (r0, M0) → ST G (AG G) s M H locs → lv_has ls 6 [(0, .ref (G.1 61)), (2, .int x2), (3, .int x3), (4, .int x4), (5, .int x5)] → W p l e (RM 4 93) s m args below meth c H locs 0 0 (MQ below (QV G (some (.int r0)) M0) args s 0 0 (AG G)) (F0 m 39 ls []) := by
  obtain ⟨⟨hx, hb, hml, hown, hts⟩, hK, hG, hA⟩ := id hC
  intro n
  induction n with
  | zero =>
    intro x2 x3 x4 x5 M H locs ls hF
    cases hF
  | succ n ih =>
    intro x2 x3 x4 x5 M H locs ls hF hS hl
    unfold F_X7_firm_39 at hF
    refine lv_iload hx hb dX7_firm_39 (lv_at hl 4 rfl) ?_
    refine lv_aload_n hx hb dX7_firm_41 rfl (lv_at hl 0 rfl) ?_
    obtain ⟨r42, M42, h42, hF⟩ := bd_some hF
    refine cV_ (ci := 7) (i := 61) (C := RX7) (T := TX7) (N := 29) (As := []) (v := some (.int r42)) (rest := [.int x5]) (st1 := [.int r42, .int x5]) hC hS (hn _ (by decide)) rfl rfl (c_X7_all l G hn M _ _ h42) kV_X7_all lm_X7_97 ⟨Nat.le_of_ble_eq_true rfl, Nat.le_of_ble_eq_true rfl⟩ rfl hl.1 (Nat.le_of_ble_eq_true rfl) dX7_firm_42 ⟨Nat.le_refl _, Nat.le_refl _⟩ rfl (fun H locs hS => ?_)
    refine lv_icmp_gt (tgt := 103) hx hb dX7_firm_45 (by decide) (fun hc => ?_) (fun hc => ?_)
    · rw [if_pos hc] at hF
      refine lv_iload hx hb dX7_firm_103 (lv_at hl 3 rfl) ?_
      refine lv_if_eq (tgt := 112) hx hb dX7_firm_105 (by decide) (fun hc => ?_) (fun hc => ?_)
      · rw [if_pos hc] at hF
        refine lv_iload_n hx hb dX7_firm_112 rfl (lv_at hl 2 rfl) ?_
        refine lv_if_eq (tgt := 120) hx hb dX7_firm_113 (by decide) (fun hc => ?_) (fun hc => ?_)
        · rw [if_pos hc] at hF
          refine lv_iconst (v := 0) hx hb dX7_firm_120 (by decide) ?_
          exact retI hC hS hr hlk hF dX7_firm_121
        · rw [if_neg hc] at hF
          refine lv_iconst (v := 1) hx hb dX7_firm_116 (by decide) ?_
          refine lv_goto (tgt := 121) hx hb dX7_firm_117 (by decide) ?_
          exact retI hC hS hr hlk hF dX7_firm_121
      · rw [if_neg hc] at hF
        refine lv_iconst (v := 2) hx hb dX7_firm_108 (by decide) ?_
        refine lv_goto (tgt := 121) hx hb dX7_firm_109 (by decide) ?_
        exact retI hC hS hr hlk hF dX7_firm_121
    · rw [if_neg hc] at hF
      refine lv_aload_n hx hb dX7_firm_48 rfl (lv_at hl 0 rfl) ?_
      refine lv_iload hx hb dX7_firm_49 (lv_at hl 4 rfl) ?_
      obtain ⟨r51, M51, h51, hF⟩ := bd_some hF
      refine cV_ (ci := 7) (i := 61) (C := RX7) (T := TX7) (N := 29) (As := [.int x5]) (v := some (.int r51)) (rest := []) (st1 := [.int r51]) hC hS (hn _ (by decide)) rfl rfl (c_X7_isFull l G hn x5 M42 _ _ h51) kV_X7_isFull lm_X7_212 ⟨Nat.le_of_ble_eq_true rfl, Nat.le_of_ble_eq_true rfl⟩ rfl hl.1 (Nat.le_of_ble_eq_true rfl) dX7_firm_51 ⟨Nat.le_refl _, Nat.le_refl _⟩ rfl (fun H locs hS => ?_)
      refine lv_if_eq (tgt := 97) hx hb dX7_firm_54 (by decide) (fun hc => ?_) (fun hc => ?_)
      · rw [if_pos hc] at hF
        exact b_X7_firm_97 hC hr hlk hn ih _ _ _ _ _ _ _ _ hF hS (lv_sub hl [0, 1, 2, 3, 4] rfl)
      · rw [if_neg hc] at hF
        refine lv_iload_n hx hb dX7_firm_57 rfl (lv_at hl 2 rfl) ?_
        refine lv_if_ne (tgt := 70) hx hb dX7_firm_58 (by decide) (fun hc => ?_) (fun hc => ?_)
        · rw [if_neg hc] at hF
          exact b_X7_firm_70 hC hr hlk hn ih _ _ _ _ _ _ _ hF hS (lv_sub hl [0, 1, 3, 4] rfl)
        · rw [if_pos hc] at hF
          refine lv_iload hx hb dX7_firm_61 (lv_at hl 4 rfl) ?_
          refine lv_iload_n hx hb dX7_firm_63 rfl (lv_at hl 1 rfl) ?_
          obtain ⟨r64, M64, h64, hF⟩ := bd_some hF
          refine cS_ (As := [.int x5, .int x2]) (v := some (.int r64)) (rest := []) (st1 := [.int r64]) hC hS (c_X7_has l G hn x5 x2 M51 _ _ h64) kS_X7_has lm_X7_151 ⟨Nat.le_of_ble_eq_true rfl, Nat.le_of_ble_eq_true rfl⟩ rfl hl.1 (Nat.le_of_ble_eq_true rfl) dX7_firm_64 ⟨Nat.le_refl _, Nat.le_refl _⟩ rfl (fun H locs hS => ?_)
          refine lv_if_eq (tgt := 74) hx hb dX7_firm_67 (by decide) (fun hc => ?_) (fun hc => ?_)
          · rw [if_pos hc] at hF
            refine lv_iconst (v := 0) hx hb dX7_firm_74 (by decide) ?_
            exact b_X7_firm_75 hC hr hlk hn ih _ _ _ _ _ _ _ _ hF hS (lv_sub hl [0, 1, 3, 4] rfl)
          · rw [if_neg hc] at hF
            exact b_X7_firm_70 hC hr hlk hn ih _ _ _ _ _ _ _ hF hS (lv_sub hl [0, 1, 3, 4] rfl)
set_option maxHeartbeats 4000000 in
set_option maxRecDepth 100000 in
theorem b_X7_firm {M0 : Mem} {r0 : Int32} (hC : SX p m c s args cX7_firm 6 RX7 G (AG G)) (hr : meth.sig.returnType = (some .int)) (hlk : meth.locks = false) (hn : ∀ i ∈ LsF, i ∈ gL G) : ∀ (x1 : Int32) (x2 : Int32) (M : Mem) (H : Heap) (locs : List Loc) (ls : Array Slot), F_X7_firm x1 x2 M = some (r0, M0) → ST G (AG G) s M H locs → lv_has ls 6 [(0, .ref (G.1 61)), (1, .int x1), (2, .int x2)] → W p l e (RM 4 93) s m args below meth c H locs 0 0 (MQ below (QV G (some (.int r0)) M0) args s 0 0 (AG G)) (F0 m 0 ls []) := by
  obtain ⟨⟨hx, hb, hml, hown, hts⟩, hK, hG, hA⟩ := id hC
  intro x1 x2 M H locs ls hF hS hl
  unfold F_X7_firm at hF
  refine lv_iload_n hx hb dX7_firm_0 rfl (lv_at hl 1 rfl) ?_
  obtain ⟨r1, M1, h1, hF⟩ := bd_some hF
  refine cS_ (As := [.int x1]) (v := some (.int r1)) (rest := []) (st1 := [.int r1]) hC hS (c_X7_isLaw l G hn x1 M _ _ h1) kS_X7_isLaw lm_X7_120 ⟨Nat.le_of_ble_eq_true rfl, Nat.le_of_ble_eq_true rfl⟩ rfl hl.1 (Nat.le_of_ble_eq_true rfl) dX7_firm_1 ⟨Nat.le_refl _, Nat.le_refl _⟩ rfl (fun H locs hS => ?_)
  refine lv_if_eq (tgt := 15) hx hb dX7_firm_4 (by decide) (fun hc => ?_) (fun hc => ?_)
  · rw [if_pos hc] at hF
    refine lv_bipush (v := (-2)) hx hb dX7_firm_15 (by decide) ?_
    exact retI hC hS hr hlk hF dX7_firm_17
  · rw [if_neg hc] at hF
    refine lv_aload_n hx hb dX7_firm_7 rfl (lv_at hl 0 rfl) ?_
    refine lv_iload_n hx hb dX7_firm_8 rfl (lv_at hl 2 rfl) ?_
    obtain ⟨r9, M9, h9, hF⟩ := bd_some hF
    refine cV_ (ci := 7) (i := 61) (C := RX7) (T := TX7) (N := 29) (As := [.int x2]) (v := some (.int r9)) (rest := []) (st1 := [.int r9]) hC hS (hn _ (by decide)) rfl rfl (c_X7_isWord l G hn x2 M1 _ _ h9) kV_X7_isWord lm_X7_111 ⟨Nat.le_of_ble_eq_true rfl, Nat.le_of_ble_eq_true rfl⟩ rfl hl.1 (Nat.le_of_ble_eq_true rfl) dX7_firm_9 ⟨Nat.le_refl _, Nat.le_refl _⟩ rfl (fun H locs hS => ?_)
    refine lv_if_ne (tgt := 18) hx hb dX7_firm_12 (by decide) (fun hc => ?_) (fun hc => ?_)
    · rw [if_neg hc] at hF
      refine lv_aload_n hx hb dX7_firm_18 rfl (lv_at hl 0 rfl) ?_
      refine lv_iload_n hx hb dX7_firm_19 rfl (lv_at hl 1 rfl) ?_
      refine lv_aload_n hx hb dX7_firm_20 rfl (lv_at hl 0 rfl) ?_
      obtain ⟨r21, M21, h21, hF⟩ := bd_some hF
      refine cV_ (ci := 7) (i := 61) (C := RX7) (T := TX7) (N := 29) (As := []) (v := some (.int r21)) (rest := [.int x1, .ref (G.1 61)]) (st1 := [.int r21, .int x1, .ref (G.1 61)]) hC hS (hn _ (by decide)) rfl rfl (c_X7_heardOnes l G hn M9 _ _ h21) kV_X7_heardOnes lm_X7_162 ⟨Nat.le_of_ble_eq_true rfl, Nat.le_of_ble_eq_true rfl⟩ rfl hl.1 (Nat.le_of_ble_eq_true rfl) dX7_firm_21 ⟨Nat.le_refl _, Nat.le_refl _⟩ rfl (fun H locs hS => ?_)
      obtain ⟨M24, h24, hF⟩ := bdv_some hF
      refine cV_ (ci := 7) (i := 61) (C := RX7) (T := TX7) (N := 29) (As := [.int x1, .int r21]) (v := none) (rest := []) (st1 := []) hC hS (hn _ (by decide)) rfl rfl (c_X7_meetsAll l G hn x1 r21 M21 _ h24) kV_X7_meetsAll lm_X7_193 ⟨Nat.le_of_ble_eq_true rfl, Nat.le_of_ble_eq_true rfl⟩ rfl hl.1 (Nat.le_of_ble_eq_true rfl) dX7_firm_24 ⟨Nat.le_refl _, Nat.le_refl _⟩ rfl (fun H locs hS => ?_)
      refine lv_aload_n hx hb dX7_firm_27 rfl (lv_at hl 0 rfl) ?_
      obtain ⟨M28, h28, hF⟩ := bdv_some hF
      refine cV_ (ci := 7) (i := 61) (C := RX7) (T := TX7) (N := 29) (As := []) (v := none) (rest := []) (st1 := []) hC hS (hn _ (by decide)) rfl rfl (c_X7_laysSounds l G hn M24 _ h28) kV_X7_laysSounds lm_X7_209 ⟨Nat.le_of_ble_eq_true rfl, Nat.le_of_ble_eq_true rfl⟩ rfl hl.1 (Nat.le_of_ble_eq_true rfl) dX7_firm_28 ⟨Nat.le_refl _, Nat.le_refl _⟩ rfl (fun H locs hS => ?_)
      refine lv_iconst (v := 0) hx hb dX7_firm_31 (by decide) ?_
      refine lv_istore_n (lv' := [(3, .int 0), (0, .ref (G.1 61)), (1, .int x1), (2, .int x2)]) hx hb dX7_firm_32 rfl hl (by decide) rfl (fun ls hl => ?_)
      refine lv_iconst (v := 1) hx hb dX7_firm_33 (by decide) ?_
      refine lv_istore (lv' := [(4, .int 1), (3, .int 0), (0, .ref (G.1 61)), (1, .int x1), (2, .int x2)]) hx hb dX7_firm_34 hl (by decide) rfl (fun ls hl => ?_)
      refine lv_iconst (v := 0) hx hb dX7_firm_36 (by decide) ?_
      refine lv_istore (lv' := [(5, .int 0), (4, .int 1), (3, .int 0), (0, .ref (G.1 61)), (1, .int x1), (2, .int x2)]) hx hb dX7_firm_37 hl (by decide) rfl (fun ls hl => ?_)
      exact b_X7_firm_39 hC hr hlk hn fu _ _ _ _ _ _ _ _ hF hS (lv_sub hl [3, 5, 2, 1, 0] rfl)
    · rw [if_pos hc] at hF
      refine lv_bipush (v := (-2)) hx hb dX7_firm_15 (by decide) ?_
      exact retI hC hS hr hlk hF dX7_firm_17
set_option maxRecDepth 100000 in
theorem c_X7_firm (l : Launch) (G : GT) (hn : ∀ i ∈ LsF, i ∈ gL G) (x1 : Int32) (x2 : Int32) (M : Mem) (r0 : Int32) (M0 : Mem) (hF : F_X7_firm x1 x2 M = some (r0, M0)) : MetG l G yX7_firm cX7_firm 6 (some .int) 4 93 [.ref (G.1 61), .int x1, .int x2] M (some (.int r0)) M0 := by
  refine MetG.of (by decide) (Nat.le_of_ble_eq_true rfl) ?_
  intro p e s m args below meth c hC hr hlk hnm ls hS hl
  exact b_X7_firm hC hr hlk hn _ _ _ _ _ _ hF hS hl
def F_X7_ringNow_73 (k13 : Int32 → Int32 → Mem → Option (Int32 × Mem)) (k31 : Int32 → Int32 → Int32 → Int32 → Mem → Option (Int32 × Mem)) (k43 : Int32 → Int32 → Int32 → Int32 → Int32 → Mem → Option (Int32 × Mem)) (x1 : Int32) (x2 : Int32) (x4 : Int32) (x5 : Int32) (t0 : Int32) (t1 : Int32) (M : Mem) : Option (Int32 × Mem) := k43 x1 x2 (t0 ||| t1) x4 (x5 + 1) M
def F_X7_ringNow_43 (k13 : Int32 → Int32 → Mem → Option (Int32 × Mem)) (k31 : Int32 → Int32 → Int32 → Int32 → Mem → Option (Int32 × Mem)) : Nat → Int32 → Int32 → Int32 → Int32 → Int32 → Mem → Option (Int32 × Mem)
  | 0, _, _, _, _, _, _ => none
  | n + 1, x1, x2, x3, x4, x5, M => if (M.1 40) ≤ x5 then k31 x1 x2 x3 (x4 + 1) M else bd (F_X7_has x3 x5 M) (fun r56 M56 => if r56 = 0 then F_X7_ringNow_73 k13 k31 (F_X7_ringNow_43 k13 k31 n) x1 x2 x4 x5 x3 0 M56 else ckb (ix x5 10) (F_X7_ringNow_73 k13 k31 (F_X7_ringNow_43 k13 k31 n) x1 x2 x4 x5 x3 (M56.2 34 x5.toNatClampNeg) M56))
def F_X7_ringNow_31 (k13 : Int32 → Int32 → Mem → Option (Int32 × Mem)) : Nat → Int32 → Int32 → Int32 → Int32 → Mem → Option (Int32 × Mem)
  | 0, _, _, _, _, _ => none
  | n + 1, x1, x2, x3, x4, M => if (M.1 40) ≤ x4 then k13 (x1 ||| (x3 &&& ((1 : Int32) <<< (x2 &&& 31)))) (x2 + 1) M else F_X7_ringNow_43 k13 (F_X7_ringNow_31 k13 n) fu x1 x2 x3 x4 0 M
def F_X7_ringNow_13 : Nat → Int32 → Int32 → Mem → Option (Int32 × Mem)
  | 0, _, _, _ => none
  | n + 1, x1, x2, M => if (M.1 40) ≤ x2 then some (x1, M) else ckb (ix x2 10) (F_X7_ringNow_31 (F_X7_ringNow_13 n) fu x1 x2 (M.2 34 x2.toNatClampNeg) 0 M)
def F_X7_ringNow (M : Mem) : Option (Int32 × Mem) := bd (F_X7_heardOnes M) (fun r3 M3 => bdv (F_X7_meetsAll 0 r3 M3) (fun M6 => F_X7_ringNow_13 fu 0 0 M6))
set_option maxHeartbeats 4000000 in
set_option maxRecDepth 100000 in
theorem b_X7_ringNow_73 {k13 : Int32 → Int32 → Mem → Option (Int32 × Mem)} {k31 : Int32 → Int32 → Int32 → Int32 → Mem → Option (Int32 × Mem)} {k43 : Int32 → Int32 → Int32 → Int32 → Int32 → Mem → Option (Int32 × Mem)} {M0 : Mem} {r0 : Int32} (hC : SX p m c s args cX7_ringNow 6 RX7 G (AG G)) (hr : meth.sig.returnType = (some .int)) (hlk : meth.locks = false) (hn : ∀ i ∈ LsF, i ∈ gL G) (hk13 : ∀ (x1 : Int32) (x2 : Int32) (M : Mem) (H : Heap) (locs : List Loc) (ls : Array Slot), k13 x1 x2 M = some (r0, M0) → ST G (AG G) s M H locs → lv_has ls 6 [(0, .ref (G.1 61)), (1, .int x1), (2, .int x2)] → W p l e (RM 4 93) s m args below meth c H locs 0 0 (MQ below (QV G (some (.int r0)) M0) args s 0 0 (AG G)) (F0 m 13 ls [])) (hk31 : ∀ (x1 : Int32) (x2 : Int32) (x3 : Int32) (x4 : Int32) (M : Mem) (H : Heap) (locs : List Loc) (ls : Array Slot), k31 x1 x2 x3 x4 M = some (r0, M0) → ST G (AG G) s M H locs → lv_has ls 6 [(0, .ref (G.1 61)), (1, .int x1), (2, .int x2), (3, .int x3), (4, .int x4)] → W p l e (RM 4 93) s m args below meth c H locs 0 0 (MQ below (QV G (some (.int r0)) M0) args s 0 0 (AG G)) (F0 m 31 ls [])) (hk43 : ∀ (x1 : Int32) (x2 : Int32) (x3 : Int32) (x4 : Int32) (x5 : Int32) (M : Mem) (H : Heap) (locs : List Loc) (ls : Array Slot), k43 x1 x2 x3 x4 x5 M = some (r0, M0) → ST G (AG G) s M H locs → lv_has ls 6 [(0, .ref (G.1 61)), (1, .int x1), (2, .int x2), (3, .int x3), (4, .int x4), (5, .int x5)] → W p l e (RM 4 93) s m args below meth c H locs 0 0 (MQ below (QV G (some (.int r0)) M0) args s 0 0 (AG G)) (F0 m 43 ls [])) : ∀ (x1 : Int32) (x2 : Int32) (x4 : Int32) (x5 : Int32) (t0 : Int32) (t1 : Int32) (M : Mem) (H : Heap) (locs : List Loc) (ls : Array Slot), F_X7_ringNow_73 k13 k31 k43 x1 x2 x4 x5 t0 t1 M = some (r0, M0) → ST G (AG G) s M H locs → lv_has ls 6 [(0, .ref (G.1 61)), (1, .int x1), (2, .int x2), (4, .int x4), (5, .int x5)] → W p l e (RM 4 93) s m args below meth c H locs 0 0 (MQ below (QV G (some (.int r0)) M0) args s 0 0 (AG G)) (F0 m 73 ls [.int t1, .int t0]) := by
  obtain ⟨⟨hx, hb, hml, hown, hts⟩, hK, hG, hA⟩ := id hC
  intro x1 x2 x4 x5 t0 t1 M H locs ls hF hS hl
  unfold F_X7_ringNow_73 at hF
  refine lv_ior hx hb dX7_ringNow_73 ?_
  refine lv_istore_n (lv' := [(3, .int (t0 ||| t1)), (0, .ref (G.1 61)), (1, .int x1), (2, .int x2), (4, .int x4), (5, .int x5)]) hx hb dX7_ringNow_74 rfl hl (by decide) rfl (fun ls hl => ?_)
  refine lv_iinc (v := x5 + 1) (lv' := [(5, .int (x5 + 1)), (3, .int (t0 ||| t1)), (0, .ref (G.1 61)), (1, .int x1), (2, .int x2), (4, .int x4)]) hx hb dX7_ringNow_75 hl (k := 5) rfl rfl (by decide) rfl (fun ls hl => ?_)
  refine lv_goto (tgt := 43) hx hb dX7_ringNow_78 (by decide) ?_
  exact hk43 _ _ _ _ _ _ _ _ _ hF hS (lv_sub hl [2, 3, 4, 1, 5, 0] rfl)
set_option maxHeartbeats 4000000 in
set_option maxRecDepth 100000 in
theorem b_X7_ringNow_43 {k13 : Int32 → Int32 → Mem → Option (Int32 × Mem)} {k31 : Int32 → Int32 → Int32 → Int32 → Mem → Option (Int32 × Mem)} {M0 : Mem} {r0 : Int32} (hC : SX p m c s args cX7_ringNow 6 RX7 G (AG G)) (hr : meth.sig.returnType = (some .int)) (hlk : meth.locks = false) (hn : ∀ i ∈ LsF, i ∈ gL G) (hk13 : ∀ (x1 : Int32) (x2 : Int32) (M : Mem) (H : Heap) (locs : List Loc) (ls : Array Slot), k13 x1 x2 M = some (r0, M0) → ST G (AG G) s M H locs → lv_has ls 6 [(0, .ref (G.1 61)), (1, .int x1), (2, .int x2)] → W p l e (RM 4 93) s m args below meth c H locs 0 0 (MQ below (QV G (some (.int r0)) M0) args s 0 0 (AG G)) (F0 m 13 ls [])) (hk31 : ∀ (x1 : Int32) (x2 : Int32) (x3 : Int32) (x4 : Int32) (M : Mem) (H : Heap) (locs : List Loc) (ls : Array Slot), k31 x1 x2 x3 x4 M = some (r0, M0) → ST G (AG G) s M H locs → lv_has ls 6 [(0, .ref (G.1 61)), (1, .int x1), (2, .int x2), (3, .int x3), (4, .int x4)] → W p l e (RM 4 93) s m args below meth c H locs 0 0 (MQ below (QV G (some (.int r0)) M0) args s 0 0 (AG G)) (F0 m 31 ls [])) : ∀ (n : Nat) (x1 : Int32) (x2 : Int32) (x3 : Int32) (x4 : Int32) (x5 : Int32) (M : Mem) (H : Heap) (locs : List Loc) (ls : Array Slot), F_X7_ringNow_43 k13 k31 n x1 x2 x3 x4 x5 M = some (r0, M0) → ST G (AG G) s M H locs → lv_has ls 6 [(0, .ref (G.1 61)), (1, .int x1), (2, .int x2), (3, .int x3), (4, .int x4), (5, .int x5)] → W p l e (RM 4 93) s m args below meth c H locs 0 0 (MQ below (QV G (some (.int r0)) M0) args s 0 0 (AG G)) (F0 m 43 ls []) := by
  obtain ⟨⟨hx, hb, hml, hown, hts⟩, hK, hG, hA⟩ := id hC
  intro n
  induction n with
  | zero =>
    intro x1 x2 x3 x4 x5 M H locs ls hF
    cases hF
  | succ n ih =>
    intro x1 x2 x3 x4 x5 M H locs ls hF hS hl
    unfold F_X7_ringNow_43 at hF
    refine lv_iload hx hb dX7_ringNow_43 (lv_at hl 5 rfl) ?_
    refine lv_aload_n hx hb dX7_ringNow_45 rfl (lv_at hl 0 rfl) ?_
    refine gx (ci := 7) (k := 2) (v := .int (M.1 40)) (C := RX7) (T := TX7) (N := 29) hC hS (hn _ (by decide)) rfl rfl in_X7 (by decide) rfl rfl lf_X7_82 dX7_ringNow_46 ?_
    refine lv_icmp_ge (tgt := 81) hx hb dX7_ringNow_49 (by decide) (fun hc => ?_) (fun hc => ?_)
    · rw [if_pos hc] at hF
      refine lv_iinc (v := x4 + 1) (lv' := [(4, .int (x4 + 1)), (0, .ref (G.1 61)), (1, .int x1), (2, .int x2), (3, .int x3), (5, .int x5)]) hx hb dX7_ringNow_81 hl (k := 4) rfl rfl (by decide) rfl (fun ls hl => ?_)
      refine lv_goto (tgt := 31) hx hb dX7_ringNow_84 (by decide) ?_
      exact hk31 _ _ _ _ _ _ _ _ hF hS (lv_sub hl [1, 2, 3, 4, 0] rfl)
    · rw [if_neg hc] at hF
      refine lv_iload_n hx hb dX7_ringNow_52 rfl (lv_at hl 3 rfl) ?_
      refine lv_iload_n hx hb dX7_ringNow_53 rfl (lv_at hl 3 rfl) ?_
      refine lv_iload hx hb dX7_ringNow_54 (lv_at hl 5 rfl) ?_
      obtain ⟨r56, M56, h56, hF⟩ := bd_some hF
      refine cS_ (As := [.int x3, .int x5]) (v := some (.int r56)) (rest := [.int x3]) (st1 := [.int r56, .int x3]) hC hS (c_X7_has l G hn x3 x5 M _ _ h56) kS_X7_has lm_X7_151 ⟨Nat.le_of_ble_eq_true rfl, Nat.le_of_ble_eq_true rfl⟩ rfl hl.1 (Nat.le_of_ble_eq_true rfl) dX7_ringNow_56 ⟨Nat.le_refl _, Nat.le_refl _⟩ rfl (fun H locs hS => ?_)
      refine lv_if_eq (tgt := 72) hx hb dX7_ringNow_59 (by decide) (fun hc => ?_) (fun hc => ?_)
      · rw [if_pos hc] at hF
        refine lv_iconst (v := 0) hx hb dX7_ringNow_72 (by decide) ?_
        exact b_X7_ringNow_73 hC hr hlk hn hk13 hk31 ih _ _ _ _ _ _ _ _ _ _ hF hS (lv_sub hl [0, 1, 2, 4, 5] rfl)
      · rw [if_neg hc] at hF
        refine lv_aload_n hx hb dX7_ringNow_62 rfl (lv_at hl 0 rfl) ?_
        refine gx (ci := 7) (k := 20) (v := .ref (G.1 34)) (C := RX7) (T := TX7) (N := 29) hC hS (hn _ (by decide)) rfl rfl in_X7 (by decide) rfl rfl lf_X7_46 dX7_ringNow_63 ?_
        refine lv_iload hx hb dX7_ringNow_66 (lv_at hl 5 rfl) ?_
        obtain ⟨hi, hF⟩ := ckb_some hF
        refine ald hC hS (hn _ (by decide)) (by decide) rfl hi dX7_ringNow_68 ?_
        refine lv_goto (tgt := 73) hx hb dX7_ringNow_69 (by decide) ?_
        exact b_X7_ringNow_73 hC hr hlk hn hk13 hk31 ih _ _ _ _ _ _ _ _ _ _ hF hS (lv_sub hl [0, 1, 2, 4, 5] rfl)
set_option maxHeartbeats 4000000 in
set_option maxRecDepth 100000 in
theorem b_X7_ringNow_31 {k13 : Int32 → Int32 → Mem → Option (Int32 × Mem)} {M0 : Mem} {r0 : Int32} (hC : SX p m c s args cX7_ringNow 6 RX7 G (AG G)) (hr : meth.sig.returnType = (some .int)) (hlk : meth.locks = false) (hn : ∀ i ∈ LsF, i ∈ gL G) (hk13 : ∀ (x1 : Int32) (x2 : Int32) (M : Mem) (H : Heap) (locs : List Loc) (ls : Array Slot), k13 x1 x2 M = some (r0, M0) → ST G (AG G) s M H locs → lv_has ls 6 [(0, .ref (G.1 61)), (1, .int x1), (2, .int x2)] → W p l e (RM 4 93) s m args below meth c H locs 0 0 (MQ below (QV G (some (.int r0)) M0) args s 0 0 (AG G)) (F0 m 13 ls [])) : ∀ (n : Nat) (x1 : Int32) (x2 : Int32) (x3 : Int32) (x4 : Int32) (M : Mem) (H : Heap) (locs : List Loc) (ls : Array Slot), F_X7_ringNow_31 k13 n x1 x2 x3 x4 M = some (r0, M0) → ST G (AG G) s M H locs → lv_has ls 6 [(0, .ref (G.1 61)), (1, .int x1), (2, .int x2), (3, .int x3), (4, .int x4)] → W p l e (RM 4 93) s m args below meth c H locs 0 0 (MQ below (QV G (some (.int r0)) M0) args s 0 0 (AG G)) (F0 m 31 ls []) := by
  obtain ⟨⟨hx, hb, hml, hown, hts⟩, hK, hG, hA⟩ := id hC
  intro n
  induction n with
  | zero =>
    intro x1 x2 x3 x4 M H locs ls hF
    cases hF
  | succ n ih =>
    intro x1 x2 x3 x4 M H locs ls hF hS hl
    unfold F_X7_ringNow_31 at hF
    refine lv_iload hx hb dX7_ringNow_31 (lv_at hl 4 rfl) ?_
    refine lv_aload_n hx hb dX7_ringNow_33 rfl (lv_at hl 0 rfl) ?_
    refine gx (ci := 7) (k := 2) (v := .int (M.1 40)) (C := RX7) (T := TX7) (N := 29) hC hS (hn _ (by decide)) rfl rfl in_X7 (by decide) rfl rfl lf_X7_82 dX7_ringNow_34 ?_
    refine lv_icmp_ge (tgt := 87) hx hb dX7_ringNow_37 (by decide) (fun hc => ?_) (fun hc => ?_)
    · rw [if_pos hc] at hF
      refine lv_iload_n hx hb dX7_ringNow_87 rfl (lv_at hl 1 rfl) ?_
      refine lv_iload_n hx hb dX7_ringNow_88 rfl (lv_at hl 3 rfl) ?_
      refine lv_iconst (v := 1) hx hb dX7_ringNow_89 (by decide) ?_
      refine lv_iload_n hx hb dX7_ringNow_90 rfl (lv_at hl 2 rfl) ?_
      refine lv_ishl hx hb dX7_ringNow_91 ?_
      refine lv_iand hx hb dX7_ringNow_92 ?_
      refine lv_ior hx hb dX7_ringNow_93 ?_
      refine lv_istore_n (lv' := [(1, .int (x1 ||| (x3 &&& ((1 : Int32) <<< (x2 &&& 31))))), (0, .ref (G.1 61)), (2, .int x2), (3, .int x3), (4, .int x4)]) hx hb dX7_ringNow_94 rfl hl (by decide) rfl (fun ls hl => ?_)
      refine lv_iinc (v := x2 + 1) (lv' := [(2, .int (x2 + 1)), (1, .int (x1 ||| (x3 &&& ((1 : Int32) <<< (x2 &&& 31))))), (0, .ref (G.1 61)), (3, .int x3), (4, .int x4)]) hx hb dX7_ringNow_95 hl (k := 2) rfl rfl (by decide) rfl (fun ls hl => ?_)
      refine lv_goto (tgt := 13) hx hb dX7_ringNow_98 (by decide) ?_
      exact hk13 _ _ _ _ _ _ hF hS (lv_sub hl [2, 1, 0] rfl)
    · rw [if_neg hc] at hF
      refine lv_iconst (v := 0) hx hb dX7_ringNow_40 (by decide) ?_
      refine lv_istore (lv' := [(5, .int 0), (0, .ref (G.1 61)), (1, .int x1), (2, .int x2), (3, .int x3), (4, .int x4)]) hx hb dX7_ringNow_41 hl (by decide) rfl (fun ls hl => ?_)
      exact b_X7_ringNow_43 hC hr hlk hn hk13 ih fu _ _ _ _ _ _ _ _ _ hF hS (lv_sub hl [1, 2, 3, 4, 5, 0] rfl)
set_option maxHeartbeats 4000000 in
set_option maxRecDepth 100000 in
theorem b_X7_ringNow_13 {M0 : Mem} {r0 : Int32} (hC : SX p m c s args cX7_ringNow 6 RX7 G (AG G)) (hr : meth.sig.returnType = (some .int)) (hlk : meth.locks = false) (hn : ∀ i ∈ LsF, i ∈ gL G) : ∀ (n : Nat) (x1 : Int32) (x2 : Int32) (M : Mem) (H : Heap) (locs : List Loc) (ls : Array Slot), F_X7_ringNow_13 n x1 x2 M = some (r0, M0) → ST G (AG G) s M H locs → lv_has ls 6 [(0, .ref (G.1 61)), (1, .int x1), (2, .int x2)] → W p l e (RM 4 93) s m args below meth c H locs 0 0 (MQ below (QV G (some (.int r0)) M0) args s 0 0 (AG G)) (F0 m 13 ls []) := by
  obtain ⟨⟨hx, hb, hml, hown, hts⟩, hK, hG, hA⟩ := id hC
  intro n
  induction n with
  | zero =>
    intro x1 x2 M H locs ls hF
    cases hF
  | succ n ih =>
    intro x1 x2 M H locs ls hF hS hl
    unfold F_X7_ringNow_13 at hF
    refine lv_iload_n hx hb dX7_ringNow_13 rfl (lv_at hl 2 rfl) ?_
    refine lv_aload_n hx hb dX7_ringNow_14 rfl (lv_at hl 0 rfl) ?_
    refine gx (ci := 7) (k := 2) (v := .int (M.1 40)) (C := RX7) (T := TX7) (N := 29) hC hS (hn _ (by decide)) rfl rfl in_X7 (by decide) rfl rfl lf_X7_82 dX7_ringNow_15 ?_
    refine lv_icmp_ge (tgt := 101) hx hb dX7_ringNow_18 (by decide) (fun hc => ?_) (fun hc => ?_)
    · rw [if_pos hc] at hF
      refine lv_iload_n hx hb dX7_ringNow_101 rfl (lv_at hl 1 rfl) ?_
      exact retI hC hS hr hlk hF dX7_ringNow_102
    · rw [if_neg hc] at hF
      refine lv_aload_n hx hb dX7_ringNow_21 rfl (lv_at hl 0 rfl) ?_
      refine gx (ci := 7) (k := 20) (v := .ref (G.1 34)) (C := RX7) (T := TX7) (N := 29) hC hS (hn _ (by decide)) rfl rfl in_X7 (by decide) rfl rfl lf_X7_46 dX7_ringNow_22 ?_
      refine lv_iload_n hx hb dX7_ringNow_25 rfl (lv_at hl 2 rfl) ?_
      obtain ⟨hi, hF⟩ := ckb_some hF
      refine ald hC hS (hn _ (by decide)) (by decide) rfl hi dX7_ringNow_26 ?_
      refine lv_istore_n (lv' := [(3, .int (M.2 34 x2.toNatClampNeg)), (0, .ref (G.1 61)), (1, .int x1), (2, .int x2)]) hx hb dX7_ringNow_27 rfl hl (by decide) rfl (fun ls hl => ?_)
      refine lv_iconst (v := 0) hx hb dX7_ringNow_28 (by decide) ?_
      refine lv_istore (lv' := [(4, .int 0), (3, .int (M.2 34 x2.toNatClampNeg)), (0, .ref (G.1 61)), (1, .int x1), (2, .int x2)]) hx hb dX7_ringNow_29 hl (by decide) rfl (fun ls hl => ?_)
      exact b_X7_ringNow_31 hC hr hlk hn ih fu _ _ _ _ _ _ _ _ hF hS (lv_sub hl [2, 3, 4, 1, 0] rfl)
set_option maxHeartbeats 4000000 in
set_option maxRecDepth 100000 in
theorem b_X7_ringNow {M0 : Mem} {r0 : Int32} (hC : SX p m c s args cX7_ringNow 6 RX7 G (AG G)) (hr : meth.sig.returnType = (some .int)) (hlk : meth.locks = false) (hn : ∀ i ∈ LsF, i ∈ gL G) : ∀ (M : Mem) (H : Heap) (locs : List Loc) (ls : Array Slot), F_X7_ringNow M = some (r0, M0) → ST G (AG G) s M H locs → lv_has ls 6 [(0, .ref (G.1 61))] → W p l e (RM 4 93) s m args below meth c H locs 0 0 (MQ below (QV G (some (.int r0)) M0) args s 0 0 (AG G)) (F0 m 0 ls []) := by
  obtain ⟨⟨hx, hb, hml, hown, hts⟩, hK, hG, hA⟩ := id hC
  intro M H locs ls hF hS hl
  unfold F_X7_ringNow at hF
  refine lv_aload_n hx hb dX7_ringNow_0 rfl (lv_at hl 0 rfl) ?_
  refine lv_iconst (v := 0) hx hb dX7_ringNow_1 (by decide) ?_
  refine lv_aload_n hx hb dX7_ringNow_2 rfl (lv_at hl 0 rfl) ?_
  obtain ⟨r3, M3, h3, hF⟩ := bd_some hF
  refine cV_ (ci := 7) (i := 61) (C := RX7) (T := TX7) (N := 29) (As := []) (v := some (.int r3)) (rest := [.int 0, .ref (G.1 61)]) (st1 := [.int r3, .int 0, .ref (G.1 61)]) hC hS (hn _ (by decide)) rfl rfl (c_X7_heardOnes l G hn M _ _ h3) kV_X7_heardOnes lm_X7_162 ⟨Nat.le_of_ble_eq_true rfl, Nat.le_of_ble_eq_true rfl⟩ rfl hl.1 (Nat.le_of_ble_eq_true rfl) dX7_ringNow_3 ⟨Nat.le_refl _, Nat.le_refl _⟩ rfl (fun H locs hS => ?_)
  obtain ⟨M6, h6, hF⟩ := bdv_some hF
  refine cV_ (ci := 7) (i := 61) (C := RX7) (T := TX7) (N := 29) (As := [.int 0, .int r3]) (v := none) (rest := []) (st1 := []) hC hS (hn _ (by decide)) rfl rfl (c_X7_meetsAll l G hn 0 r3 M3 _ h6) kV_X7_meetsAll lm_X7_193 ⟨Nat.le_of_ble_eq_true rfl, Nat.le_of_ble_eq_true rfl⟩ rfl hl.1 (Nat.le_of_ble_eq_true rfl) dX7_ringNow_6 ⟨Nat.le_refl _, Nat.le_refl _⟩ rfl (fun H locs hS => ?_)
  refine lv_iconst (v := 0) hx hb dX7_ringNow_9 (by decide) ?_
  refine lv_istore_n (lv' := [(1, .int 0), (0, .ref (G.1 61))]) hx hb dX7_ringNow_10 rfl hl (by decide) rfl (fun ls hl => ?_)
  refine lv_iconst (v := 0) hx hb dX7_ringNow_11 (by decide) ?_
  refine lv_istore_n (lv' := [(2, .int 0), (1, .int 0), (0, .ref (G.1 61))]) hx hb dX7_ringNow_12 rfl hl (by decide) rfl (fun ls hl => ?_)
  exact b_X7_ringNow_13 hC hr hlk hn fu _ _ _ _ _ _ hF hS (lv_sub hl [2, 1, 0] rfl)
set_option maxRecDepth 100000 in
theorem c_X7_ringNow (l : Launch) (G : GT) (hn : ∀ i ∈ LsF, i ∈ gL G) (M : Mem) (r0 : Int32) (M0 : Mem) (hF : F_X7_ringNow M = some (r0, M0)) : MetG l G yX7_ringNow cX7_ringNow 6 (some .int) 4 93 [.ref (G.1 61)] M (some (.int r0)) M0 := by
  refine MetG.of (by decide) (Nat.le_of_ble_eq_true rfl) ?_
  intro p e s m args below meth c hC hr hlk hnm ls hS hl
  exact b_X7_ringNow hC hr hlk hn _ _ _ _ hF hS hl
def F_X7_ring (M : Mem) : Option (Int32 × Mem) := bd (F_X7_ringNow M) (fun r1 M1 => some (r1, M1))
set_option maxHeartbeats 4000000 in
set_option maxRecDepth 100000 in
theorem b_X7_ring {M0 : Mem} {r0 : Int32} (hC : SX p m c s args cX7_ring 1 RX7 G (AG G)) (hr : meth.sig.returnType = (some .int)) (hlk : meth.locks = false) (hn : ∀ i ∈ LsF, i ∈ gL G) : ∀ (M : Mem) (H : Heap) (locs : List Loc) (ls : Array Slot), F_X7_ring M = some (r0, M0) → ST G (AG G) s M H locs → lv_has ls 1 [(0, .ref (G.1 61))] → W p l e (RM 5 118) s m args below meth c H locs 0 0 (MQ below (QV G (some (.int r0)) M0) args s 0 0 (AG G)) (F0 m 0 ls []) := by
  obtain ⟨⟨hx, hb, hml, hown, hts⟩, hK, hG, hA⟩ := id hC
  intro M H locs ls hF hS hl
  unfold F_X7_ring at hF
  refine lv_aload_n hx hb dX7_ring_0 rfl (lv_at hl 0 rfl) ?_
  obtain ⟨r1, M1, h1, hF⟩ := bd_some hF
  refine cV_ (ci := 7) (i := 61) (C := RX7) (T := TX7) (N := 29) (As := []) (v := some (.int r1)) (rest := []) (st1 := [.int r1]) hC hS (hn _ (by decide)) rfl rfl (c_X7_ringNow l G hn M _ _ h1) kV_X7_ringNow lm_X7_218 ⟨Nat.le_of_ble_eq_true rfl, Nat.le_of_ble_eq_true rfl⟩ rfl hl.1 (Nat.le_of_ble_eq_true rfl) dX7_ring_1 ⟨Nat.le_refl _, Nat.le_refl _⟩ rfl (fun H locs hS => ?_)
  exact retI hC hS hr hlk hF dX7_ring_4
set_option maxRecDepth 100000 in
theorem c_X7_ring (l : Launch) (G : GT) (hn : ∀ i ∈ LsF, i ∈ gL G) (M : Mem) (r0 : Int32) (M0 : Mem) (hF : F_X7_ring M = some (r0, M0)) : MetG l G yX7_ring cX7_ring 1 (some .int) 5 118 [.ref (G.1 61)] M (some (.int r0)) M0 := by
  refine MetG.of (by decide) (Nat.le_of_ble_eq_true rfl) ?_
  intro p e s m args below meth c hC hr hlk hnm ls hS hl
  exact b_X7_ring hC hr hlk hn _ _ _ _ hF hS hl
def F_X7_chain_112 (k45 : Int32 → Int32 → Mem → Option (Int32 × Mem)) (x1 : Int32) (x2 : Int32) (M : Mem) : Option (Int32 × Mem) := k45 x1 (x2 + (-1)) M
def F_X7_chain_45 : Nat → Int32 → Int32 → Mem → Option (Int32 × Mem)
  | 0, _, _, _ => none
  | n + 1, x1, x2, M => if x2 ≤ 0 then ckb (ix x1 10) (some (M.2 36 x1.toNatClampNeg, M)) else bd (F_X7_has (M.1 42) x2 M) (fun r54 M54 => if r54 = 0 then F_X7_chain_112 (F_X7_chain_45 n) x1 x2 M54 else bd (F_X7_has (M54.1 41) x2 M54) (fun r65 M65 => if r65 = 0 then ckb (ix x2 10) (ckb (ix x2 10) (ckb (ix (M65.2 28 x2.toNatClampNeg) 10) (if ((M65.2 36 x2.toNatClampNeg) + 1) ≤ (M65.2 36 (M65.2 28 x2.toNatClampNeg).toNatClampNeg) then F_X7_chain_112 (F_X7_chain_45 n) x1 x2 M65 else ckb (ix x2 10) (ckb (ix x2 10) (ckb (ix (M65.2 28 x2.toNatClampNeg) 10) (F_X7_chain_112 (F_X7_chain_45 n) x1 x2 (sa M65 36 (M65.2 28 x2.toNatClampNeg).toNatClampNeg ((M65.2 36 x2.toNatClampNeg) + 1)))))))) else F_X7_chain_112 (F_X7_chain_45 n) x1 x2 M65))
def F_X7_chain_17 : Nat → Int32 → Int32 → Mem → Option (Int32 × Mem)
  | 0, _, _, _ => none
  | n + 1, x1, x2, M => if (M.1 40) ≤ x2 then F_X7_chain_45 fu x1 ((M.1 40) - 1) M else ckb (ix x2 10) (F_X7_chain_17 n x1 (x2 + 1) (sa M 36 x2.toNatClampNeg 0))
def F_X7_chain (x1 : Int32) (M : Mem) : Option (Int32 × Mem) := bd (F_X7_isWord x1 M) (fun r2 M2 => if r2 = 0 then some ((-2), M2) else bdv (F_X7_laysPossible M2) (fun M12 => F_X7_chain_17 fu x1 0 M12))
set_option maxHeartbeats 4000000 in
set_option maxRecDepth 100000 in
theorem b_X7_chain_112 {k45 : Int32 → Int32 → Mem → Option (Int32 × Mem)} {M0 : Mem} {r0 : Int32} (hC : SX p m c s args cX7_chain 3 RX7 G (AG G)) (hr : meth.sig.returnType = (some .int)) (hlk : meth.locks = false) (hn : ∀ i ∈ LsF, i ∈ gL G) (hk45 : ∀ (x1 : Int32) (x2 : Int32) (M : Mem) (H : Heap) (locs : List Loc) (ls : Array Slot), k45 x1 x2 M = some (r0, M0) → ST G (AG G) s M H locs → lv_has ls 3 [(0, .ref (G.1 61)), (1, .int x1), (2, .int x2)] → W p l e (RM 2 44) s m args below meth c H locs 0 0 (MQ below (QV G (some (.int r0)) M0) args s 0 0 (AG G)) (F0 m 45 ls [])) : ∀ (x1 : Int32) (x2 : Int32) (M : Mem) (H : Heap) (locs : List Loc) (ls : Array Slot), F_X7_chain_112 k45 x1 x2 M = some (r0, M0) → ST G (AG G) s M H locs → lv_has ls 3 [(0, .ref (G.1 61)), (1, .int x1), (2, .int x2)] → W p l e (RM 2 44) s m args below meth c H locs 0 0 (MQ below (QV G (some (.int r0)) M0) args s 0 0 (AG G)) (F0 m 112 ls []) := by
  obtain ⟨⟨hx, hb, hml, hown, hts⟩, hK, hG, hA⟩ := id hC
  intro x1 x2 M H locs ls hF hS hl
  unfold F_X7_chain_112 at hF
  refine lv_iinc (v := x2 + (-1)) (lv' := [(2, .int (x2 + (-1))), (0, .ref (G.1 61)), (1, .int x1)]) hx hb dX7_chain_112 hl (k := 2) rfl rfl (by decide) rfl (fun ls hl => ?_)
  refine lv_goto (tgt := 45) hx hb dX7_chain_115 (by decide) ?_
  exact hk45 _ _ _ _ _ _ hF hS (lv_sub hl [1, 2, 0] rfl)
set_option maxHeartbeats 4000000 in
set_option maxRecDepth 100000 in
theorem b_X7_chain_45 {M0 : Mem} {r0 : Int32} (hC : SX p m c s args cX7_chain 3 RX7 G (AG G)) (hr : meth.sig.returnType = (some .int)) (hlk : meth.locks = false) (hn : ∀ i ∈ LsF, i ∈ gL G) : ∀ (n : Nat) (x1 : Int32) (x2 : Int32) (M : Mem) (H : Heap) (locs : List Loc) (ls : Array Slot), F_X7_chain_45 n x1 x2 M = some (r0, M0) → ST G (AG G) s M H locs → lv_has ls 3 [(0, .ref (G.1 61)), (1, .int x1), (2, .int x2)] → W p l e (RM 2 44) s m args below meth c H locs 0 0 (MQ below (QV G (some (.int r0)) M0) args s 0 0 (AG G)) (F0 m 45 ls []) := by
  obtain ⟨⟨hx, hb, hml, hown, hts⟩, hK, hG, hA⟩ := id hC
  intro n
  induction n with
  | zero =>
    intro x1 x2 M H locs ls hF
    cases hF
  | succ n ih =>
    intro x1 x2 M H locs ls hF hS hl
    unfold F_X7_chain_45 at hF
    refine lv_iload_n hx hb dX7_chain_45 rfl (lv_at hl 2 rfl) ?_
    refine lv_if_le (tgt := 118) hx hb dX7_chain_46 (by decide) (fun hc => ?_) (fun hc => ?_)
    · rw [if_pos hc] at hF
      refine lv_aload_n hx hb dX7_chain_118 rfl (lv_at hl 0 rfl) ?_
      refine gx (ci := 7) (k := 22) (v := .ref (G.1 36)) (C := RX7) (T := TX7) (N := 29) hC hS (hn _ (by decide)) rfl rfl in_X7 (by decide) rfl rfl lf_X7_53 dX7_chain_119 ?_
      refine lv_iload_n hx hb dX7_chain_122 rfl (lv_at hl 1 rfl) ?_
      obtain ⟨hi, hF⟩ := ckb_some hF
      refine ald hC hS (hn _ (by decide)) (by decide) rfl hi dX7_chain_123 ?_
      exact retI hC hS hr hlk hF dX7_chain_124
    · rw [if_neg hc] at hF
      refine lv_aload_n hx hb dX7_chain_49 rfl (lv_at hl 0 rfl) ?_
      refine gx (ci := 7) (k := 9) (v := .int (M.1 42)) (C := RX7) (T := TX7) (N := 29) hC hS (hn _ (by decide)) rfl rfl in_X7 (by decide) rfl rfl lf_X7_104 dX7_chain_50 ?_
      refine lv_iload_n hx hb dX7_chain_53 rfl (lv_at hl 2 rfl) ?_
      obtain ⟨r54, M54, h54, hF⟩ := bd_some hF
      refine cS_ (As := [.int (M.1 42), .int x2]) (v := some (.int r54)) (rest := []) (st1 := [.int r54]) hC hS (c_X7_has l G hn (M.1 42) x2 M _ _ h54) kS_X7_has lm_X7_151 ⟨Nat.le_of_ble_eq_true rfl, Nat.le_of_ble_eq_true rfl⟩ rfl hl.1 (Nat.le_of_ble_eq_true rfl) dX7_chain_54 ⟨Nat.le_refl _, Nat.le_refl _⟩ rfl (fun H locs hS => ?_)
      refine lv_if_eq (tgt := 112) hx hb dX7_chain_57 (by decide) (fun hc => ?_) (fun hc => ?_)
      · rw [if_pos hc] at hF
        exact b_X7_chain_112 hC hr hlk hn ih _ _ _ _ _ _ hF hS (lv_sub hl [0, 1, 2] rfl)
      · rw [if_neg hc] at hF
        refine lv_aload_n hx hb dX7_chain_60 rfl (lv_at hl 0 rfl) ?_
        refine gx (ci := 7) (k := 8) (v := .int (M54.1 41)) (C := RX7) (T := TX7) (N := 29) hC hS (hn _ (by decide)) rfl rfl in_X7 (by decide) rfl rfl lf_X7_101 dX7_chain_61 ?_
        refine lv_iload_n hx hb dX7_chain_64 rfl (lv_at hl 2 rfl) ?_
        obtain ⟨r65, M65, h65, hF⟩ := bd_some hF
        refine cS_ (As := [.int (M54.1 41), .int x2]) (v := some (.int r65)) (rest := []) (st1 := [.int r65]) hC hS (c_X7_has l G hn (M54.1 41) x2 M54 _ _ h65) kS_X7_has lm_X7_151 ⟨Nat.le_of_ble_eq_true rfl, Nat.le_of_ble_eq_true rfl⟩ rfl hl.1 (Nat.le_of_ble_eq_true rfl) dX7_chain_65 ⟨Nat.le_refl _, Nat.le_refl _⟩ rfl (fun H locs hS => ?_)
        refine lv_if_ne (tgt := 112) hx hb dX7_chain_68 (by decide) (fun hc => ?_) (fun hc => ?_)
        · rw [if_neg hc] at hF
          exact b_X7_chain_112 hC hr hlk hn ih _ _ _ _ _ _ hF hS (lv_sub hl [0, 1, 2] rfl)
        · rw [if_pos hc] at hF
          refine lv_aload_n hx hb dX7_chain_71 rfl (lv_at hl 0 rfl) ?_
          refine gx (ci := 7) (k := 22) (v := .ref (G.1 36)) (C := RX7) (T := TX7) (N := 29) hC hS (hn _ (by decide)) rfl rfl in_X7 (by decide) rfl rfl lf_X7_53 dX7_chain_72 ?_
          refine lv_iload_n hx hb dX7_chain_75 rfl (lv_at hl 2 rfl) ?_
          obtain ⟨hi, hF⟩ := ckb_some hF
          refine ald hC hS (hn _ (by decide)) (by decide) rfl hi dX7_chain_76 ?_
          refine lv_iconst (v := 1) hx hb dX7_chain_77 (by decide) ?_
          refine lv_iadd hx hb dX7_chain_78 ?_
          refine lv_aload_n hx hb dX7_chain_79 rfl (lv_at hl 0 rfl) ?_
          refine gx (ci := 7) (k := 22) (v := .ref (G.1 36)) (C := RX7) (T := TX7) (N := 29) hC hS (hn _ (by decide)) rfl rfl in_X7 (by decide) rfl rfl lf_X7_53 dX7_chain_80 ?_
          refine lv_aload_n hx hb dX7_chain_83 rfl (lv_at hl 0 rfl) ?_
          refine gx (ci := 7) (k := 7) (v := .ref (G.1 28)) (C := RX7) (T := TX7) (N := 29) hC hS (hn _ (by decide)) rfl rfl in_X7 (by decide) rfl rfl lf_X7_28 dX7_chain_84 ?_
          refine lv_iload_n hx hb dX7_chain_87 rfl (lv_at hl 2 rfl) ?_
          obtain ⟨hi, hF⟩ := ckb_some hF
          refine ald hC hS (hn _ (by decide)) (by decide) rfl hi dX7_chain_88 ?_
          obtain ⟨hi, hF⟩ := ckb_some hF
          refine ald hC hS (hn _ (by decide)) (by decide) rfl hi dX7_chain_89 ?_
          refine lv_icmp_le (tgt := 112) hx hb dX7_chain_90 (by decide) (fun hc => ?_) (fun hc => ?_)
          · rw [if_pos hc] at hF
            exact b_X7_chain_112 hC hr hlk hn ih _ _ _ _ _ _ hF hS (lv_sub hl [0, 1, 2] rfl)
          · rw [if_neg hc] at hF
            refine lv_aload_n hx hb dX7_chain_93 rfl (lv_at hl 0 rfl) ?_
            refine gx (ci := 7) (k := 22) (v := .ref (G.1 36)) (C := RX7) (T := TX7) (N := 29) hC hS (hn _ (by decide)) rfl rfl in_X7 (by decide) rfl rfl lf_X7_53 dX7_chain_94 ?_
            refine lv_aload_n hx hb dX7_chain_97 rfl (lv_at hl 0 rfl) ?_
            refine gx (ci := 7) (k := 7) (v := .ref (G.1 28)) (C := RX7) (T := TX7) (N := 29) hC hS (hn _ (by decide)) rfl rfl in_X7 (by decide) rfl rfl lf_X7_28 dX7_chain_98 ?_
            refine lv_iload_n hx hb dX7_chain_101 rfl (lv_at hl 2 rfl) ?_
            obtain ⟨hi, hF⟩ := ckb_some hF
            refine ald hC hS (hn _ (by decide)) (by decide) rfl hi dX7_chain_102 ?_
            refine lv_aload_n hx hb dX7_chain_103 rfl (lv_at hl 0 rfl) ?_
            refine gx (ci := 7) (k := 22) (v := .ref (G.1 36)) (C := RX7) (T := TX7) (N := 29) hC hS (hn _ (by decide)) rfl rfl in_X7 (by decide) rfl rfl lf_X7_53 dX7_chain_104 ?_
            refine lv_iload_n hx hb dX7_chain_107 rfl (lv_at hl 2 rfl) ?_
            obtain ⟨hi, hF⟩ := ckb_some hF
            refine ald hC hS (hn _ (by decide)) (by decide) rfl hi dX7_chain_108 ?_
            refine lv_iconst (v := 1) hx hb dX7_chain_109 (by decide) ?_
            refine lv_iadd hx hb dX7_chain_110 ?_
            obtain ⟨hi, hF⟩ := ckb_some hF
            refine ast hC hS (hn _ (by decide)) (by decide) rfl hi dX7_chain_111 (fun H locs hS => ?_)
            exact b_X7_chain_112 hC hr hlk hn ih _ _ _ _ _ _ hF hS (lv_sub hl [0, 1, 2] rfl)
set_option maxHeartbeats 4000000 in
set_option maxRecDepth 100000 in
theorem b_X7_chain_17 {M0 : Mem} {r0 : Int32} (hC : SX p m c s args cX7_chain 3 RX7 G (AG G)) (hr : meth.sig.returnType = (some .int)) (hlk : meth.locks = false) (hn : ∀ i ∈ LsF, i ∈ gL G) : ∀ (n : Nat) (x1 : Int32) (x2 : Int32) (M : Mem) (H : Heap) (locs : List Loc) (ls : Array Slot), F_X7_chain_17 n x1 x2 M = some (r0, M0) → ST G (AG G) s M H locs → lv_has ls 3 [(0, .ref (G.1 61)), (1, .int x1), (2, .int x2)] → W p l e (RM 2 44) s m args below meth c H locs 0 0 (MQ below (QV G (some (.int r0)) M0) args s 0 0 (AG G)) (F0 m 17 ls []) := by
  obtain ⟨⟨hx, hb, hml, hown, hts⟩, hK, hG, hA⟩ := id hC
  intro n
  induction n with
  | zero =>
    intro x1 x2 M H locs ls hF
    cases hF
  | succ n ih =>
    intro x1 x2 M H locs ls hF hS hl
    unfold F_X7_chain_17 at hF
    refine lv_iload_n hx hb dX7_chain_17 rfl (lv_at hl 2 rfl) ?_
    refine lv_aload_n hx hb dX7_chain_18 rfl (lv_at hl 0 rfl) ?_
    refine gx (ci := 7) (k := 2) (v := .int (M.1 40)) (C := RX7) (T := TX7) (N := 29) hC hS (hn _ (by decide)) rfl rfl in_X7 (by decide) rfl rfl lf_X7_82 dX7_chain_19 ?_
    refine lv_icmp_ge (tgt := 38) hx hb dX7_chain_22 (by decide) (fun hc => ?_) (fun hc => ?_)
    · rw [if_pos hc] at hF
      refine lv_aload_n hx hb dX7_chain_38 rfl (lv_at hl 0 rfl) ?_
      refine gx (ci := 7) (k := 2) (v := .int (M.1 40)) (C := RX7) (T := TX7) (N := 29) hC hS (hn _ (by decide)) rfl rfl in_X7 (by decide) rfl rfl lf_X7_82 dX7_chain_39 ?_
      refine lv_iconst (v := 1) hx hb dX7_chain_42 (by decide) ?_
      refine lv_isub hx hb dX7_chain_43 ?_
      refine lv_istore_n (lv' := [(2, .int ((M.1 40) - 1)), (0, .ref (G.1 61)), (1, .int x1)]) hx hb dX7_chain_44 rfl hl (by decide) rfl (fun ls hl => ?_)
      exact b_X7_chain_45 hC hr hlk hn fu _ _ _ _ _ _ hF hS (lv_sub hl [1, 2, 0] rfl)
    · rw [if_neg hc] at hF
      refine lv_aload_n hx hb dX7_chain_25 rfl (lv_at hl 0 rfl) ?_
      refine gx (ci := 7) (k := 22) (v := .ref (G.1 36)) (C := RX7) (T := TX7) (N := 29) hC hS (hn _ (by decide)) rfl rfl in_X7 (by decide) rfl rfl lf_X7_53 dX7_chain_26 ?_
      refine lv_iload_n hx hb dX7_chain_29 rfl (lv_at hl 2 rfl) ?_
      refine lv_iconst (v := 0) hx hb dX7_chain_30 (by decide) ?_
      obtain ⟨hi, hF⟩ := ckb_some hF
      refine ast hC hS (hn _ (by decide)) (by decide) rfl hi dX7_chain_31 (fun H locs hS => ?_)
      refine lv_iinc (v := x2 + 1) (lv' := [(2, .int (x2 + 1)), (0, .ref (G.1 61)), (1, .int x1)]) hx hb dX7_chain_32 hl (k := 2) rfl rfl (by decide) rfl (fun ls hl => ?_)
      refine lv_goto (tgt := 17) hx hb dX7_chain_35 (by decide) ?_
      exact ih _ _ _ _ _ _ hF hS (lv_sub hl [1, 2, 0] rfl)
set_option maxHeartbeats 4000000 in
set_option maxRecDepth 100000 in
theorem b_X7_chain {M0 : Mem} {r0 : Int32} (hC : SX p m c s args cX7_chain 3 RX7 G (AG G)) (hr : meth.sig.returnType = (some .int)) (hlk : meth.locks = false) (hn : ∀ i ∈ LsF, i ∈ gL G) : ∀ (x1 : Int32) (M : Mem) (H : Heap) (locs : List Loc) (ls : Array Slot), F_X7_chain x1 M = some (r0, M0) → ST G (AG G) s M H locs → lv_has ls 3 [(0, .ref (G.1 61)), (1, .int x1)] → W p l e (RM 2 44) s m args below meth c H locs 0 0 (MQ below (QV G (some (.int r0)) M0) args s 0 0 (AG G)) (F0 m 0 ls []) := by
  obtain ⟨⟨hx, hb, hml, hown, hts⟩, hK, hG, hA⟩ := id hC
  intro x1 M H locs ls hF hS hl
  unfold F_X7_chain at hF
  refine lv_aload_n hx hb dX7_chain_0 rfl (lv_at hl 0 rfl) ?_
  refine lv_iload_n hx hb dX7_chain_1 rfl (lv_at hl 1 rfl) ?_
  obtain ⟨r2, M2, h2, hF⟩ := bd_some hF
  refine cV_ (ci := 7) (i := 61) (C := RX7) (T := TX7) (N := 29) (As := [.int x1]) (v := some (.int r2)) (rest := []) (st1 := [.int r2]) hC hS (hn _ (by decide)) rfl rfl (c_X7_isWord l G hn x1 M _ _ h2) kV_X7_isWord lm_X7_111 ⟨Nat.le_of_ble_eq_true rfl, Nat.le_of_ble_eq_true rfl⟩ rfl hl.1 (Nat.le_of_ble_eq_true rfl) dX7_chain_2 ⟨Nat.le_refl _, Nat.le_refl _⟩ rfl (fun H locs hS => ?_)
  refine lv_if_ne (tgt := 11) hx hb dX7_chain_5 (by decide) (fun hc => ?_) (fun hc => ?_)
  · rw [if_neg hc] at hF
    refine lv_aload_n hx hb dX7_chain_11 rfl (lv_at hl 0 rfl) ?_
    obtain ⟨M12, h12, hF⟩ := bdv_some hF
    refine cV_ (ci := 7) (i := 61) (C := RX7) (T := TX7) (N := 29) (As := []) (v := none) (rest := []) (st1 := []) hC hS (hn _ (by decide)) rfl rfl (c_X7_laysPossible l G hn M2 _ h12) kV_X7_laysPossible lm_X7_114 ⟨Nat.le_of_ble_eq_true rfl, Nat.le_of_ble_eq_true rfl⟩ rfl hl.1 (Nat.le_of_ble_eq_true rfl) dX7_chain_12 ⟨Nat.le_refl _, Nat.le_refl _⟩ rfl (fun H locs hS => ?_)
    refine lv_iconst (v := 0) hx hb dX7_chain_15 (by decide) ?_
    refine lv_istore_n (lv' := [(2, .int 0), (0, .ref (G.1 61)), (1, .int x1)]) hx hb dX7_chain_16 rfl hl (by decide) rfl (fun ls hl => ?_)
    exact b_X7_chain_17 hC hr hlk hn fu _ _ _ _ _ _ hF hS (lv_sub hl [1, 2, 0] rfl)
  · rw [if_pos hc] at hF
    refine lv_bipush (v := (-2)) hx hb dX7_chain_8 (by decide) ?_
    exact retI hC hS hr hlk hF dX7_chain_10
set_option maxRecDepth 100000 in
theorem c_X7_chain (l : Launch) (G : GT) (hn : ∀ i ∈ LsF, i ∈ gL G) (x1 : Int32) (M : Mem) (r0 : Int32) (M0 : Mem) (hF : F_X7_chain x1 M = some (r0, M0)) : MetG l G yX7_chain cX7_chain 3 (some .int) 2 44 [.ref (G.1 61), .int x1] M (some (.int r0)) M0 := by
  refine MetG.of (by decide) (Nat.le_of_ble_eq_true rfl) ?_
  intro p e s m args below meth c hC hr hlk hnm ls hS hl
  exact b_X7_chain hC hr hlk hn _ _ _ _ _ hF hS hl
def F_X7_hangsNow (x1 : Int32) (M : Mem) : Option (Int32 × Mem) := bdv (F_X7_hearsAll 0 M) (fun M2 => bd (F_X7_heardOnes M2) (fun r12 M12 => bdv (F_X7_lines (r12 &&& (((1 : Int32) <<< (x1 &&& 31)) ^^^ (-1))) M12) (fun M21 => bdv (F_X7_hears 0 M21) (fun M26 => bd (F_X7_ones (((M2.1 44) ^^^ (M26.1 44)) &&& (((1 : Int32) <<< (x1 &&& 31)) ^^^ (-1))) M26) (fun r41 M41 => some (r41, M41))))))
set_option maxHeartbeats 4000000 in
set_option maxRecDepth 100000 in
theorem b_X7_hangsNow {M0 : Mem} {r0 : Int32} (hC : SX p m c s args cX7_hangsNow 3 RX7 G (AG G)) (hr : meth.sig.returnType = (some .int)) (hlk : meth.locks = false) (hn : ∀ i ∈ LsF, i ∈ gL G) : ∀ (x1 : Int32) (M : Mem) (H : Heap) (locs : List Loc) (ls : Array Slot), F_X7_hangsNow x1 M = some (r0, M0) → ST G (AG G) s M H locs → lv_has ls 3 [(0, .ref (G.1 61)), (1, .int x1)] → W p l e (RM 4 89) s m args below meth c H locs 0 0 (MQ below (QV G (some (.int r0)) M0) args s 0 0 (AG G)) (F0 m 0 ls []) := by
  obtain ⟨⟨hx, hb, hml, hown, hts⟩, hK, hG, hA⟩ := id hC
  intro x1 M H locs ls hF hS hl
  unfold F_X7_hangsNow at hF
  refine lv_aload_n hx hb dX7_hangsNow_0 rfl (lv_at hl 0 rfl) ?_
  refine lv_iconst (v := 0) hx hb dX7_hangsNow_1 (by decide) ?_
  obtain ⟨M2, h2, hF⟩ := bdv_some hF
  refine cV_ (ci := 7) (i := 61) (C := RX7) (T := TX7) (N := 29) (As := [.int 0]) (v := none) (rest := []) (st1 := []) hC hS (hn _ (by decide)) rfl rfl (c_X7_hearsAll l G hn 0 M _ h2) kV_X7_hearsAll lm_X7_171 ⟨Nat.le_of_ble_eq_true rfl, Nat.le_of_ble_eq_true rfl⟩ rfl hl.1 (Nat.le_of_ble_eq_true rfl) dX7_hangsNow_2 ⟨Nat.le_refl _, Nat.le_refl _⟩ rfl (fun H locs hS => ?_)
  refine lv_aload_n hx hb dX7_hangsNow_5 rfl (lv_at hl 0 rfl) ?_
  refine gx (ci := 7) (k := 16) (v := .int (M2.1 44)) (C := RX7) (T := TX7) (N := 29) hC hS (hn _ (by decide)) rfl rfl in_X7 (by decide) rfl rfl lf_X7_136 dX7_hangsNow_6 ?_
  refine lv_istore_n (lv' := [(2, .int (M2.1 44)), (0, .ref (G.1 61)), (1, .int x1)]) hx hb dX7_hangsNow_9 rfl hl (by decide) rfl (fun ls hl => ?_)
  refine lv_aload_n hx hb dX7_hangsNow_10 rfl (lv_at hl 1 rfl) ?_
  refine lv_aload_n hx hb dX7_hangsNow_11 rfl (lv_at hl 1 rfl) ?_
  obtain ⟨r12, M12, h12, hF⟩ := bd_some hF
  refine cV_ (ci := 7) (i := 61) (C := RX7) (T := TX7) (N := 29) (As := []) (v := some (.int r12)) (rest := [.ref (G.1 61)]) (st1 := [.int r12, .ref (G.1 61)]) hC hS (hn _ (by decide)) rfl rfl (c_X7_heardOnes l G hn M2 _ _ h12) kV_X7_heardOnes lm_X7_162 ⟨Nat.le_of_ble_eq_true rfl, Nat.le_of_ble_eq_true rfl⟩ rfl hl.1 (Nat.le_of_ble_eq_true rfl) dX7_hangsNow_12 ⟨Nat.le_refl _, Nat.le_refl _⟩ rfl (fun H locs hS => ?_)
  refine lv_iconst (v := 1) hx hb dX7_hangsNow_15 (by decide) ?_
  refine lv_iload_n hx hb dX7_hangsNow_16 rfl (lv_at hl 2 rfl) ?_
  refine lv_ishl hx hb dX7_hangsNow_17 ?_
  refine lv_iconst (v := (-1)) hx hb dX7_hangsNow_18 (by decide) ?_
  refine lv_ixor hx hb dX7_hangsNow_19 ?_
  refine lv_iand hx hb dX7_hangsNow_20 ?_
  obtain ⟨M21, h21, hF⟩ := bdv_some hF
  refine cV_ (ci := 7) (i := 61) (C := RX7) (T := TX7) (N := 29) (As := [.int (r12 &&& (((1 : Int32) <<< (x1 &&& 31)) ^^^ (-1)))]) (v := none) (rest := []) (st1 := []) hC hS (hn _ (by decide)) rfl rfl (c_X7_lines l G hn (r12 &&& (((1 : Int32) <<< (x1 &&& 31)) ^^^ (-1))) M12 _ h21) kV_X7_lines lm_X7_165 ⟨Nat.le_of_ble_eq_true rfl, Nat.le_of_ble_eq_true rfl⟩ rfl hl.1 (Nat.le_of_ble_eq_true rfl) dX7_hangsNow_21 ⟨Nat.le_refl _, Nat.le_refl _⟩ rfl (fun H locs hS => ?_)
  refine lv_aload_n hx hb dX7_hangsNow_24 rfl (lv_at hl 1 rfl) ?_
  refine lv_iconst (v := 0) hx hb dX7_hangsNow_25 (by decide) ?_
  obtain ⟨M26, h26, hF⟩ := bdv_some hF
  refine cV_ (ci := 7) (i := 61) (C := RX7) (T := TX7) (N := 29) (As := [.int 0]) (v := none) (rest := []) (st1 := []) hC hS (hn _ (by decide)) rfl rfl (c_X7_hears l G hn 0 M21 _ h26) kV_X7_hears lm_X7_168 ⟨Nat.le_of_ble_eq_true rfl, Nat.le_of_ble_eq_true rfl⟩ rfl hl.1 (Nat.le_of_ble_eq_true rfl) dX7_hangsNow_26 ⟨Nat.le_refl _, Nat.le_refl _⟩ rfl (fun H locs hS => ?_)
  refine lv_iload_n hx hb dX7_hangsNow_29 rfl (lv_at hl 0 rfl) ?_
  refine lv_aload_n hx hb dX7_hangsNow_30 rfl (lv_at hl 1 rfl) ?_
  refine gx (ci := 7) (k := 16) (v := .int (M26.1 44)) (C := RX7) (T := TX7) (N := 29) hC hS (hn _ (by decide)) rfl rfl in_X7 (by decide) rfl rfl lf_X7_136 dX7_hangsNow_31 ?_
  refine lv_ixor hx hb dX7_hangsNow_34 ?_
  refine lv_iconst (v := 1) hx hb dX7_hangsNow_35 (by decide) ?_
  refine lv_iload_n hx hb dX7_hangsNow_36 rfl (lv_at hl 2 rfl) ?_
  refine lv_ishl hx hb dX7_hangsNow_37 ?_
  refine lv_iconst (v := (-1)) hx hb dX7_hangsNow_38 (by decide) ?_
  refine lv_ixor hx hb dX7_hangsNow_39 ?_
  refine lv_iand hx hb dX7_hangsNow_40 ?_
  obtain ⟨r41, M41, h41, hF⟩ := bd_some hF
  refine cS_ (As := [.int (((M2.1 44) ^^^ (M26.1 44)) &&& (((1 : Int32) <<< (x1 &&& 31)) ^^^ (-1)))]) (v := some (.int r41)) (rest := []) (st1 := [.int r41]) hC hS (c_X7_ones l G hn (((M2.1 44) ^^^ (M26.1 44)) &&& (((1 : Int32) <<< (x1 &&& 31)) ^^^ (-1))) M26 _ _ h41) kS_X7_ones lm_X7_148 ⟨Nat.le_of_ble_eq_true rfl, Nat.le_of_ble_eq_true rfl⟩ rfl hl.1 (Nat.le_of_ble_eq_true rfl) dX7_hangsNow_41 ⟨Nat.le_refl _, Nat.le_refl _⟩ rfl (fun H locs hS => ?_)
  exact retI hC hS hr hlk hF dX7_hangsNow_44
set_option maxRecDepth 100000 in
theorem c_X7_hangsNow (l : Launch) (G : GT) (hn : ∀ i ∈ LsF, i ∈ gL G) (x1 : Int32) (M : Mem) (r0 : Int32) (M0 : Mem) (hF : F_X7_hangsNow x1 M = some (r0, M0)) : MetG l G yX7_hangsNow cX7_hangsNow 3 (some .int) 4 89 [.ref (G.1 61), .int x1] M (some (.int r0)) M0 := by
  refine MetG.of (by decide) (Nat.le_of_ble_eq_true rfl) ?_
  intro p e s m args below meth c hC hr hlk hnm ls hS hl
  exact b_X7_hangsNow hC hr hlk hn _ _ _ _ _ hF hS hl
def F_X7_hangs_27 (M : Mem) : Option (Int32 × Mem) := some ((-2), M)
def F_X7_hangs (x1 : Int32) (M : Mem) : Option (Int32 × Mem) := bd (F_X7_isWord x1 M) (fun r2 M2 => if r2 = 0 then F_X7_hangs_27 M2 else bd (F_X7_has (M2.1 41) x1 M2) (fun r13 M13 => if r13 = 0 then bd (F_X7_hangsNow x1 M13) (fun r21 M21 => some (r21, M21)) else F_X7_hangs_27 M13))
set_option maxHeartbeats 4000000 in
set_option maxRecDepth 100000 in
theorem b_X7_hangs_27 {M0 : Mem} {r0 : Int32} (hC : SX p m c s args cX7_hangs 2 RX7 G (AG G)) (hr : meth.sig.returnType = (some .int)) (hlk : meth.locks = false) (hn : ∀ i ∈ LsF, i ∈ gL G) : ∀ (M : Mem) (H : Heap) (locs : List Loc) (ls : Array Slot), F_X7_hangs_27 M = some (r0, M0) → ST G (AG G) s M H locs → lv_has ls 2 [] → W p l e (RM 5 111) s m args below meth c H locs 0 0 (MQ below (QV G (some (.int r0)) M0) args s 0 0 (AG G)) (F0 m 27 ls []) := by
  obtain ⟨⟨hx, hb, hml, hown, hts⟩, hK, hG, hA⟩ := id hC
  intro M H locs ls hF hS hl
  unfold F_X7_hangs_27 at hF
  refine lv_bipush (v := (-2)) hx hb dX7_hangs_27 (by decide) ?_
  exact retI hC hS hr hlk hF dX7_hangs_29
set_option maxHeartbeats 4000000 in
set_option maxRecDepth 100000 in
theorem b_X7_hangs {M0 : Mem} {r0 : Int32} (hC : SX p m c s args cX7_hangs 2 RX7 G (AG G)) (hr : meth.sig.returnType = (some .int)) (hlk : meth.locks = false) (hn : ∀ i ∈ LsF, i ∈ gL G) : ∀ (x1 : Int32) (M : Mem) (H : Heap) (locs : List Loc) (ls : Array Slot), F_X7_hangs x1 M = some (r0, M0) → ST G (AG G) s M H locs → lv_has ls 2 [(0, .ref (G.1 61)), (1, .int x1)] → W p l e (RM 5 111) s m args below meth c H locs 0 0 (MQ below (QV G (some (.int r0)) M0) args s 0 0 (AG G)) (F0 m 0 ls []) := by
  obtain ⟨⟨hx, hb, hml, hown, hts⟩, hK, hG, hA⟩ := id hC
  intro x1 M H locs ls hF hS hl
  unfold F_X7_hangs at hF
  refine lv_aload_n hx hb dX7_hangs_0 rfl (lv_at hl 0 rfl) ?_
  refine lv_iload_n hx hb dX7_hangs_1 rfl (lv_at hl 1 rfl) ?_
  obtain ⟨r2, M2, h2, hF⟩ := bd_some hF
  refine cV_ (ci := 7) (i := 61) (C := RX7) (T := TX7) (N := 29) (As := [.int x1]) (v := some (.int r2)) (rest := []) (st1 := [.int r2]) hC hS (hn _ (by decide)) rfl rfl (c_X7_isWord l G hn x1 M _ _ h2) kV_X7_isWord lm_X7_111 ⟨Nat.le_of_ble_eq_true rfl, Nat.le_of_ble_eq_true rfl⟩ rfl hl.1 (Nat.le_of_ble_eq_true rfl) dX7_hangs_2 ⟨Nat.le_refl _, Nat.le_refl _⟩ rfl (fun H locs hS => ?_)
  refine lv_if_eq (tgt := 27) hx hb dX7_hangs_5 (by decide) (fun hc => ?_) (fun hc => ?_)
  · rw [if_pos hc] at hF
    exact b_X7_hangs_27 hC hr hlk hn _ _ _ _ hF hS (lv_sub hl [] rfl)
  · rw [if_neg hc] at hF
    refine lv_aload_n hx hb dX7_hangs_8 rfl (lv_at hl 0 rfl) ?_
    refine gx (ci := 7) (k := 8) (v := .int (M2.1 41)) (C := RX7) (T := TX7) (N := 29) hC hS (hn _ (by decide)) rfl rfl in_X7 (by decide) rfl rfl lf_X7_101 dX7_hangs_9 ?_
    refine lv_iload_n hx hb dX7_hangs_12 rfl (lv_at hl 1 rfl) ?_
    obtain ⟨r13, M13, h13, hF⟩ := bd_some hF
    refine cS_ (As := [.int (M2.1 41), .int x1]) (v := some (.int r13)) (rest := []) (st1 := [.int r13]) hC hS (c_X7_has l G hn (M2.1 41) x1 M2 _ _ h13) kS_X7_has lm_X7_151 ⟨Nat.le_of_ble_eq_true rfl, Nat.le_of_ble_eq_true rfl⟩ rfl hl.1 (Nat.le_of_ble_eq_true rfl) dX7_hangs_13 ⟨Nat.le_refl _, Nat.le_refl _⟩ rfl (fun H locs hS => ?_)
    refine lv_if_ne (tgt := 27) hx hb dX7_hangs_16 (by decide) (fun hc => ?_) (fun hc => ?_)
    · rw [if_neg hc] at hF
      exact b_X7_hangs_27 hC hr hlk hn _ _ _ _ hF hS (lv_sub hl [] rfl)
    · rw [if_pos hc] at hF
      refine lv_aload_n hx hb dX7_hangs_19 rfl (lv_at hl 0 rfl) ?_
      refine lv_iload_n hx hb dX7_hangs_20 rfl (lv_at hl 1 rfl) ?_
      obtain ⟨r21, M21, h21, hF⟩ := bd_some hF
      refine cV_ (ci := 7) (i := 61) (C := RX7) (T := TX7) (N := 29) (As := [.int x1]) (v := some (.int r21)) (rest := []) (st1 := [.int r21]) hC hS (hn _ (by decide)) rfl rfl (c_X7_hangsNow l G hn x1 M13 _ _ h21) kV_X7_hangsNow lm_X7_221 ⟨Nat.le_of_ble_eq_true rfl, Nat.le_of_ble_eq_true rfl⟩ rfl hl.1 (Nat.le_of_ble_eq_true rfl) dX7_hangs_21 ⟨Nat.le_refl _, Nat.le_refl _⟩ rfl (fun H locs hS => ?_)
      refine lv_goto (tgt := 29) hx hb dX7_hangs_24 (by decide) ?_
      exact retI hC hS hr hlk hF dX7_hangs_29
set_option maxRecDepth 100000 in
theorem c_X7_hangs (l : Launch) (G : GT) (hn : ∀ i ∈ LsF, i ∈ gL G) (x1 : Int32) (M : Mem) (r0 : Int32) (M0 : Mem) (hF : F_X7_hangs x1 M = some (r0, M0)) : MetG l G yX7_hangs cX7_hangs 2 (some .int) 5 111 [.ref (G.1 61), .int x1] M (some (.int r0)) M0 := by
  refine MetG.of (by decide) (Nat.le_of_ble_eq_true rfl) ?_
  intro p e s m args below meth c hC hr hlk hnm ls hS hl
  exact b_X7_hangs hC hr hlk hn _ _ _ _ _ hF hS hl
def F_X7_mostNow_48 (k6 : Int32 → Int32 → Int32 → Mem → Option (Int32 × Mem)) (x1 : Int32) (x2 : Int32) (x3 : Int32) (M : Mem) : Option (Int32 × Mem) := k6 x1 x2 (x3 + 1) M
def F_X7_mostNow_43 (k6 : Int32 → Int32 → Int32 → Mem → Option (Int32 × Mem)) (x3 : Int32) (x4 : Int32) (M : Mem) : Option (Int32 × Mem) := F_X7_mostNow_48 k6 x3 x4 x3 M
def F_X7_mostNow_6 : Nat → Int32 → Int32 → Int32 → Mem → Option (Int32 × Mem)
  | 0, _, _, _, _ => none
  | n + 1, x1, x2, x3, M => if (M.1 40) ≤ x3 then some (x1, M) else bd (F_X7_has (M.1 41) x3 M) (fun r19 M19 => if r19 = 0 then bd (F_X7_hangsNow x3 M19) (fun r27 M27 => if x1 = (-1) then F_X7_mostNow_43 (F_X7_mostNow_6 n) x3 r27 M27 else if r27 ≤ x2 then F_X7_mostNow_48 (F_X7_mostNow_6 n) x1 x2 x3 M27 else F_X7_mostNow_43 (F_X7_mostNow_6 n) x3 r27 M27) else F_X7_mostNow_48 (F_X7_mostNow_6 n) x1 x2 x3 M19)
def F_X7_mostNow (M : Mem) : Option (Int32 × Mem) := F_X7_mostNow_6 fu (-1) 0 0 M
set_option maxHeartbeats 4000000 in
set_option maxRecDepth 100000 in
theorem b_X7_mostNow_48 {k6 : Int32 → Int32 → Int32 → Mem → Option (Int32 × Mem)} {M0 : Mem} {r0 : Int32} (hC : SX p m c s args cX7_mostNow 5 RX7 G (AG G)) (hr : meth.sig.returnType = (some .int)) (hlk : meth.locks = false) (hn : ∀ i ∈ LsF, i ∈ gL G) (hk6 : ∀ (x1 : Int32) (x2 : Int32) (x3 : Int32) (M : Mem) (H : Heap) (locs : List Loc) (ls : Array Slot), k6 x1 x2 x3 M = some (r0, M0) → ST G (AG G) s M H locs → lv_has ls 5 [(0, .ref (G.1 61)), (1, .int x1), (2, .int x2), (3, .int x3)] → W p l e (RM 5 111) s m args below meth c H locs 0 0 (MQ below (QV G (some (.int r0)) M0) args s 0 0 (AG G)) (F0 m 6 ls [])) : ∀ (x1 : Int32) (x2 : Int32) (x3 : Int32) (M : Mem) (H : Heap) (locs : List Loc) (ls : Array Slot), F_X7_mostNow_48 k6 x1 x2 x3 M = some (r0, M0) → ST G (AG G) s M H locs → lv_has ls 5 [(0, .ref (G.1 61)), (1, .int x1), (2, .int x2), (3, .int x3)] → W p l e (RM 5 111) s m args below meth c H locs 0 0 (MQ below (QV G (some (.int r0)) M0) args s 0 0 (AG G)) (F0 m 48 ls []) := by
  obtain ⟨⟨hx, hb, hml, hown, hts⟩, hK, hG, hA⟩ := id hC
  intro x1 x2 x3 M H locs ls hF hS hl
  unfold F_X7_mostNow_48 at hF
  refine lv_iinc (v := x3 + 1) (lv' := [(3, .int (x3 + 1)), (0, .ref (G.1 61)), (1, .int x1), (2, .int x2)]) hx hb dX7_mostNow_48 hl (k := 3) rfl rfl (by decide) rfl (fun ls hl => ?_)
  refine lv_goto (tgt := 6) hx hb dX7_mostNow_51 (by decide) ?_
  exact hk6 _ _ _ _ _ _ _ hF hS (lv_sub hl [1, 2, 3, 0] rfl)
set_option maxHeartbeats 4000000 in
set_option maxRecDepth 100000 in
theorem b_X7_mostNow_43 {k6 : Int32 → Int32 → Int32 → Mem → Option (Int32 × Mem)} {M0 : Mem} {r0 : Int32} (hC : SX p m c s args cX7_mostNow 5 RX7 G (AG G)) (hr : meth.sig.returnType = (some .int)) (hlk : meth.locks = false) (hn : ∀ i ∈ LsF, i ∈ gL G) (hk6 : ∀ (x1 : Int32) (x2 : Int32) (x3 : Int32) (M : Mem) (H : Heap) (locs : List Loc) (ls : Array Slot), k6 x1 x2 x3 M = some (r0, M0) → ST G (AG G) s M H locs → lv_has ls 5 [(0, .ref (G.1 61)), (1, .int x1), (2, .int x2), (3, .int x3)] → W p l e (RM 5 111) s m args below meth c H locs 0 0 (MQ below (QV G (some (.int r0)) M0) args s 0 0 (AG G)) (F0 m 6 ls [])) : ∀ (x3 : Int32) (x4 : Int32) (M : Mem) (H : Heap) (locs : List Loc) (ls : Array Slot), F_X7_mostNow_43 k6 x3 x4 M = some (r0, M0) → ST G (AG G) s M H locs → lv_has ls 5 [(0, .ref (G.1 61)), (3, .int x3), (4, .int x4)] → W p l e (RM 5 111) s m args below meth c H locs 0 0 (MQ below (QV G (some (.int r0)) M0) args s 0 0 (AG G)) (F0 m 43 ls []) := by
  obtain ⟨⟨hx, hb, hml, hown, hts⟩, hK, hG, hA⟩ := id hC
  intro x3 x4 M H locs ls hF hS hl
  unfold F_X7_mostNow_43 at hF
  refine lv_iload_n hx hb dX7_mostNow_43 rfl (lv_at hl 1 rfl) ?_
  refine lv_istore_n (lv' := [(1, .int x3), (0, .ref (G.1 61)), (3, .int x3), (4, .int x4)]) hx hb dX7_mostNow_44 rfl hl (by decide) rfl (fun ls hl => ?_)
  refine lv_iload hx hb dX7_mostNow_45 (lv_at hl 3 rfl) ?_
  refine lv_istore_n (lv' := [(2, .int x4), (1, .int x3), (0, .ref (G.1 61)), (3, .int x3), (4, .int x4)]) hx hb dX7_mostNow_47 rfl hl (by decide) rfl (fun ls hl => ?_)
  exact b_X7_mostNow_48 hC hr hlk hn hk6 _ _ _ _ _ _ _ hF hS (lv_sub hl [2, 1, 0, 3] rfl)
set_option maxHeartbeats 4000000 in
set_option maxRecDepth 100000 in
theorem b_X7_mostNow_6 {M0 : Mem} {r0 : Int32} (hC : SX p m c s args cX7_mostNow 5 RX7 G (AG G)) (hr : meth.sig.returnType = (some .int)) (hlk : meth.locks = false) (hn : ∀ i ∈ LsF, i ∈ gL G) : ∀ (n : Nat) (x1 : Int32) (x2 : Int32) (x3 : Int32) (M : Mem) (H : Heap) (locs : List Loc) (ls : Array Slot), F_X7_mostNow_6 n x1 x2 x3 M = some (r0, M0) → ST G (AG G) s M H locs → lv_has ls 5 [(0, .ref (G.1 61)), (1, .int x1), (2, .int x2), (3, .int x3)] → W p l e (RM 5 111) s m args below meth c H locs 0 0 (MQ below (QV G (some (.int r0)) M0) args s 0 0 (AG G)) (F0 m 6 ls []) := by
  obtain ⟨⟨hx, hb, hml, hown, hts⟩, hK, hG, hA⟩ := id hC
  intro n
  induction n with
  | zero =>
    intro x1 x2 x3 M H locs ls hF
    cases hF
  | succ n ih =>
    intro x1 x2 x3 M H locs ls hF hS hl
    unfold F_X7_mostNow_6 at hF
    refine lv_iload_n hx hb dX7_mostNow_6 rfl (lv_at hl 3 rfl) ?_
    refine lv_aload_n hx hb dX7_mostNow_7 rfl (lv_at hl 0 rfl) ?_
    refine gx (ci := 7) (k := 2) (v := .int (M.1 40)) (C := RX7) (T := TX7) (N := 29) hC hS (hn _ (by decide)) rfl rfl in_X7 (by decide) rfl rfl lf_X7_82 dX7_mostNow_8 ?_
    refine lv_icmp_ge (tgt := 54) hx hb dX7_mostNow_11 (by decide) (fun hc => ?_) (fun hc => ?_)
    · rw [if_pos hc] at hF
      refine lv_iload_n hx hb dX7_mostNow_54 rfl (lv_at hl 1 rfl) ?_
      exact retI hC hS hr hlk hF dX7_mostNow_55
    · rw [if_neg hc] at hF
      refine lv_aload_n hx hb dX7_mostNow_14 rfl (lv_at hl 0 rfl) ?_
      refine gx (ci := 7) (k := 8) (v := .int (M.1 41)) (C := RX7) (T := TX7) (N := 29) hC hS (hn _ (by decide)) rfl rfl in_X7 (by decide) rfl rfl lf_X7_101 dX7_mostNow_15 ?_
      refine lv_iload_n hx hb dX7_mostNow_18 rfl (lv_at hl 3 rfl) ?_
      obtain ⟨r19, M19, h19, hF⟩ := bd_some hF
      refine cS_ (As := [.int (M.1 41), .int x3]) (v := some (.int r19)) (rest := []) (st1 := [.int r19]) hC hS (c_X7_has l G hn (M.1 41) x3 M _ _ h19) kS_X7_has lm_X7_151 ⟨Nat.le_of_ble_eq_true rfl, Nat.le_of_ble_eq_true rfl⟩ rfl hl.1 (Nat.le_of_ble_eq_true rfl) dX7_mostNow_19 ⟨Nat.le_refl _, Nat.le_refl _⟩ rfl (fun H locs hS => ?_)
      refine lv_if_ne (tgt := 48) hx hb dX7_mostNow_22 (by decide) (fun hc => ?_) (fun hc => ?_)
      · rw [if_neg hc] at hF
        exact b_X7_mostNow_48 hC hr hlk hn ih _ _ _ _ _ _ _ hF hS (lv_sub hl [0, 1, 2, 3] rfl)
      · rw [if_pos hc] at hF
        refine lv_aload_n hx hb dX7_mostNow_25 rfl (lv_at hl 0 rfl) ?_
        refine lv_iload_n hx hb dX7_mostNow_26 rfl (lv_at hl 3 rfl) ?_
        obtain ⟨r27, M27, h27, hF⟩ := bd_some hF
        refine cV_ (ci := 7) (i := 61) (C := RX7) (T := TX7) (N := 29) (As := [.int x3]) (v := some (.int r27)) (rest := []) (st1 := [.int r27]) hC hS (hn _ (by decide)) rfl rfl (c_X7_hangsNow l G hn x3 M19 _ _ h27) kV_X7_hangsNow lm_X7_221 ⟨Nat.le_of_ble_eq_true rfl, Nat.le_of_ble_eq_true rfl⟩ rfl hl.1 (Nat.le_of_ble_eq_true rfl) dX7_mostNow_27 ⟨Nat.le_refl _, Nat.le_refl _⟩ rfl (fun H locs hS => ?_)
        refine lv_istore (lv' := [(4, .int r27), (0, .ref (G.1 61)), (1, .int x1), (2, .int x2), (3, .int x3)]) hx hb dX7_mostNow_30 hl (by decide) rfl (fun ls hl => ?_)
        refine lv_iload_n hx hb dX7_mostNow_32 rfl (lv_at hl 2 rfl) ?_
        refine lv_iconst (v := (-1)) hx hb dX7_mostNow_33 (by decide) ?_
        refine lv_icmp_eq (tgt := 43) hx hb dX7_mostNow_34 (by decide) (fun hc => ?_) (fun hc => ?_)
        · rw [if_pos hc] at hF
          exact b_X7_mostNow_43 hC hr hlk hn ih _ _ _ _ _ _ hF hS (lv_sub hl [1, 4, 0] rfl)
        · rw [if_neg hc] at hF
          refine lv_iload hx hb dX7_mostNow_37 (lv_at hl 0 rfl) ?_
          refine lv_iload_n hx hb dX7_mostNow_39 rfl (lv_at hl 3 rfl) ?_
          refine lv_icmp_le (tgt := 48) hx hb dX7_mostNow_40 (by decide) (fun hc => ?_) (fun hc => ?_)
          · rw [if_pos hc] at hF
            exact b_X7_mostNow_48 hC hr hlk hn ih _ _ _ _ _ _ _ hF hS (lv_sub hl [1, 2, 3, 4] rfl)
          · rw [if_neg hc] at hF
            exact b_X7_mostNow_43 hC hr hlk hn ih _ _ _ _ _ _ hF hS (lv_sub hl [1, 4, 0] rfl)
set_option maxHeartbeats 4000000 in
set_option maxRecDepth 100000 in
theorem b_X7_mostNow {M0 : Mem} {r0 : Int32} (hC : SX p m c s args cX7_mostNow 5 RX7 G (AG G)) (hr : meth.sig.returnType = (some .int)) (hlk : meth.locks = false) (hn : ∀ i ∈ LsF, i ∈ gL G) : ∀ (M : Mem) (H : Heap) (locs : List Loc) (ls : Array Slot), F_X7_mostNow M = some (r0, M0) → ST G (AG G) s M H locs → lv_has ls 5 [(0, .ref (G.1 61))] → W p l e (RM 5 111) s m args below meth c H locs 0 0 (MQ below (QV G (some (.int r0)) M0) args s 0 0 (AG G)) (F0 m 0 ls []) := by
  obtain ⟨⟨hx, hb, hml, hown, hts⟩, hK, hG, hA⟩ := id hC
  intro M H locs ls hF hS hl
  unfold F_X7_mostNow at hF
  refine lv_iconst (v := (-1)) hx hb dX7_mostNow_0 (by decide) ?_
  refine lv_istore_n (lv' := [(1, .int ((-1))), (0, .ref (G.1 61))]) hx hb dX7_mostNow_1 rfl hl (by decide) rfl (fun ls hl => ?_)
  refine lv_iconst (v := 0) hx hb dX7_mostNow_2 (by decide) ?_
  refine lv_istore_n (lv' := [(2, .int 0), (1, .int ((-1))), (0, .ref (G.1 61))]) hx hb dX7_mostNow_3 rfl hl (by decide) rfl (fun ls hl => ?_)
  refine lv_iconst (v := 0) hx hb dX7_mostNow_4 (by decide) ?_
  refine lv_istore_n (lv' := [(3, .int 0), (2, .int 0), (1, .int ((-1))), (0, .ref (G.1 61))]) hx hb dX7_mostNow_5 rfl hl (by decide) rfl (fun ls hl => ?_)
  exact b_X7_mostNow_6 hC hr hlk hn fu _ _ _ _ _ _ _ hF hS (lv_sub hl [3, 2, 1, 0] rfl)
set_option maxRecDepth 100000 in
theorem c_X7_mostNow (l : Launch) (G : GT) (hn : ∀ i ∈ LsF, i ∈ gL G) (M : Mem) (r0 : Int32) (M0 : Mem) (hF : F_X7_mostNow M = some (r0, M0)) : MetG l G yX7_mostNow cX7_mostNow 5 (some .int) 5 111 [.ref (G.1 61)] M (some (.int r0)) M0 := by
  refine MetG.of (by decide) (Nat.le_of_ble_eq_true rfl) ?_
  intro p e s m args below meth c hC hr hlk hnm ls hS hl
  exact b_X7_mostNow hC hr hlk hn _ _ _ _ hF hS hl
def F_X7_most (M : Mem) : Option (Int32 × Mem) := bd (F_X7_mostNow M) (fun r1 M1 => some (r1, M1))
set_option maxHeartbeats 4000000 in
set_option maxRecDepth 100000 in
theorem b_X7_most {M0 : Mem} {r0 : Int32} (hC : SX p m c s args cX7_most 1 RX7 G (AG G)) (hr : meth.sig.returnType = (some .int)) (hlk : meth.locks = false) (hn : ∀ i ∈ LsF, i ∈ gL G) : ∀ (M : Mem) (H : Heap) (locs : List Loc) (ls : Array Slot), F_X7_most M = some (r0, M0) → ST G (AG G) s M H locs → lv_has ls 1 [(0, .ref (G.1 61))] → W p l e (RM 6 135) s m args below meth c H locs 0 0 (MQ below (QV G (some (.int r0)) M0) args s 0 0 (AG G)) (F0 m 0 ls []) := by
  obtain ⟨⟨hx, hb, hml, hown, hts⟩, hK, hG, hA⟩ := id hC
  intro M H locs ls hF hS hl
  unfold F_X7_most at hF
  refine lv_aload_n hx hb dX7_most_0 rfl (lv_at hl 0 rfl) ?_
  obtain ⟨r1, M1, h1, hF⟩ := bd_some hF
  refine cV_ (ci := 7) (i := 61) (C := RX7) (T := TX7) (N := 29) (As := []) (v := some (.int r1)) (rest := []) (st1 := [.int r1]) hC hS (hn _ (by decide)) rfl rfl (c_X7_mostNow l G hn M _ _ h1) kV_X7_mostNow lm_X7_224 ⟨Nat.le_of_ble_eq_true rfl, Nat.le_of_ble_eq_true rfl⟩ rfl hl.1 (Nat.le_of_ble_eq_true rfl) dX7_most_1 ⟨Nat.le_refl _, Nat.le_refl _⟩ rfl (fun H locs hS => ?_)
  exact retI hC hS hr hlk hF dX7_most_4
set_option maxRecDepth 100000 in
theorem c_X7_most (l : Launch) (G : GT) (hn : ∀ i ∈ LsF, i ∈ gL G) (M : Mem) (r0 : Int32) (M0 : Mem) (hF : F_X7_most M = some (r0, M0)) : MetG l G yX7_most cX7_most 1 (some .int) 6 135 [.ref (G.1 61)] M (some (.int r0)) M0 := by
  refine MetG.of (by decide) (Nat.le_of_ble_eq_true rfl) ?_
  intro p e s m args below meth c hC hr hlk hnm ls hS hl
  exact b_X7_most hC hr hlk hn _ _ _ _ hF hS hl
def F_X7_brings_114 (k45 : Int32 → Int32 → Int32 → Int32 → Mem → Option (Int32 × Mem)) (x1 : Int32) (x2 : Int32) (x3 : Int32) (x4 : Int32) (M : Mem) : Option (Int32 × Mem) := k45 x1 x2 x3 (x4 + 1) M
def F_X7_brings_113 (k45 : Int32 → Int32 → Int32 → Int32 → Mem → Option (Int32 × Mem)) (x1 : Int32) (x2 : Int32) (x4 : Int32) (t0 : Int32) (M : Mem) : Option (Int32 × Mem) := F_X7_brings_114 k45 x1 x2 t0 x4 M
def F_X7_brings_83 (k45 : Int32 → Int32 → Int32 → Int32 → Mem → Option (Int32 × Mem)) (x1 : Int32) (x2 : Int32) (x3 : Int32) (x4 : Int32) (M : Mem) : Option (Int32 × Mem) := bd (F_X7_heardOnes M) (fun r86 M86 => bdv (F_X7_meetsAll 0 (r86 ||| x4) M86) (fun M92 => bd (F_X7_leastNow M92) (fun r96 M96 => if ((r96 >>> (x1 &&& 31)) &&& 1) = x2 then F_X7_brings_113 k45 x1 x2 x4 x4 M96 else F_X7_brings_113 k45 x1 x2 x4 x3 M96)))
def F_X7_brings_45 : Nat → Int32 → Int32 → Int32 → Int32 → Mem → Option (Int32 × Mem)
  | 0, _, _, _, _, _ => none
  | n + 1, x1, x2, x3, x4, M => bd (F_X7_all M) (fun r48 M48 => if r48 < x4 then some (x3, M48) else if (x4 &&& ((M48.1 41) ^^^ (-1))) = 0 then if x3 = (-1) then F_X7_brings_83 (F_X7_brings_45 n) x1 x2 x3 x4 M48 else bd (F_X7_ones x4 M48) (fun r73 M73 => bd (F_X7_ones x3 M73) (fun r77 M77 => if r77 ≤ r73 then F_X7_brings_114 (F_X7_brings_45 n) x1 x2 x3 x4 M77 else F_X7_brings_83 (F_X7_brings_45 n) x1 x2 x3 x4 M77)) else F_X7_brings_114 (F_X7_brings_45 n) x1 x2 x3 x4 M48)
def F_X7_brings (x1 : Int32) (x2 : Int32) (M : Mem) : Option (Int32 × Mem) := bd (F_X7_isWord x1 M) (fun r2 M2 => if r2 = 0 then some ((-2), M2) else ckb (ix x1 10) (if (M2.2 24 x1.toNatClampNeg) = 0 then bd (F_X7_has (M2.1 41) x1 M2) (fun r22 M22 => if r22 = 0 then bd (F_X7_in x2 0 1 M22) (fun r31 M31 => if r31 = 0 then some ((-2), M31) else F_X7_brings_45 fu x1 x2 (-1) 0 M31) else some ((-2), M22)) else some ((-2), M2)))
set_option maxHeartbeats 4000000 in
set_option maxRecDepth 100000 in
theorem b_X7_brings_114 {k45 : Int32 → Int32 → Int32 → Int32 → Mem → Option (Int32 × Mem)} {M0 : Mem} {r0 : Int32} (hC : SX p m c s args cX7_brings 5 RX7 G (AG G)) (hr : meth.sig.returnType = (some .int)) (hlk : meth.locks = false) (hn : ∀ i ∈ LsF, i ∈ gL G) (hk45 : ∀ (x1 : Int32) (x2 : Int32) (x3 : Int32) (x4 : Int32) (M : Mem) (H : Heap) (locs : List Loc) (ls : Array Slot), k45 x1 x2 x3 x4 M = some (r0, M0) → ST G (AG G) s M H locs → lv_has ls 5 [(0, .ref (G.1 61)), (1, .int x1), (2, .int x2), (3, .int x3), (4, .int x4)] → W p l e (RM 4 93) s m args below meth c H locs 0 0 (MQ below (QV G (some (.int r0)) M0) args s 0 0 (AG G)) (F0 m 45 ls [])) : ∀ (x1 : Int32) (x2 : Int32) (x3 : Int32) (x4 : Int32) (M : Mem) (H : Heap) (locs : List Loc) (ls : Array Slot), F_X7_brings_114 k45 x1 x2 x3 x4 M = some (r0, M0) → ST G (AG G) s M H locs → lv_has ls 5 [(0, .ref (G.1 61)), (1, .int x1), (2, .int x2), (3, .int x3), (4, .int x4)] → W p l e (RM 4 93) s m args below meth c H locs 0 0 (MQ below (QV G (some (.int r0)) M0) args s 0 0 (AG G)) (F0 m 114 ls []) := by
  obtain ⟨⟨hx, hb, hml, hown, hts⟩, hK, hG, hA⟩ := id hC
  intro x1 x2 x3 x4 M H locs ls hF hS hl
  unfold F_X7_brings_114 at hF
  refine lv_iinc (v := x4 + 1) (lv' := [(4, .int (x4 + 1)), (0, .ref (G.1 61)), (1, .int x1), (2, .int x2), (3, .int x3)]) hx hb dX7_brings_114 hl (k := 4) rfl rfl (by decide) rfl (fun ls hl => ?_)
  refine lv_goto (tgt := 45) hx hb dX7_brings_117 (by decide) ?_
  exact hk45 _ _ _ _ _ _ _ _ hF hS (lv_sub hl [1, 2, 3, 4, 0] rfl)
set_option maxHeartbeats 4000000 in
set_option maxRecDepth 100000 in
theorem b_X7_brings_113 {k45 : Int32 → Int32 → Int32 → Int32 → Mem → Option (Int32 × Mem)} {M0 : Mem} {r0 : Int32} (hC : SX p m c s args cX7_brings 5 RX7 G (AG G)) (hr : meth.sig.returnType = (some .int)) (hlk : meth.locks = false) (hn : ∀ i ∈ LsF, i ∈ gL G) (hk45 : ∀ (x1 : Int32) (x2 : Int32) (x3 : Int32) (x4 : Int32) (M : Mem) (H : Heap) (locs : List Loc) (ls : Array Slot), k45 x1 x2 x3 x4 M = some (r0, M0) → ST G (AG G) s M H locs → lv_has ls 5 [(0, .ref (G.1 61)), (1, .int x1), (2, .int x2), (3, .int x3), (4, .int x4)] → W p l e (RM 4 93) s m args below meth c H locs 0 0 (MQ below (QV G (some (.int r0)) M0) args s 0 0 (AG G)) (F0 m 45 ls [])) : ∀ (x1 : Int32) (x2 : Int32) (x4 : Int32) (t0 : Int32) (M : Mem) (H : Heap) (locs : List Loc) (ls : Array Slot), F_X7_brings_113 k45 x1 x2 x4 t0 M = some (r0, M0) → ST G (AG G) s M H locs → lv_has ls 5 [(0, .ref (G.1 61)), (1, .int x1), (2, .int x2), (4, .int x4)] → W p l e (RM 4 93) s m args below meth c H locs 0 0 (MQ below (QV G (some (.int r0)) M0) args s 0 0 (AG G)) (F0 m 113 ls [.int t0]) := by
  obtain ⟨⟨hx, hb, hml, hown, hts⟩, hK, hG, hA⟩ := id hC
  intro x1 x2 x4 t0 M H locs ls hF hS hl
  unfold F_X7_brings_113 at hF
  refine lv_istore_n (lv' := [(3, .int t0), (0, .ref (G.1 61)), (1, .int x1), (2, .int x2), (4, .int x4)]) hx hb dX7_brings_113 rfl hl (by decide) rfl (fun ls hl => ?_)
  exact b_X7_brings_114 hC hr hlk hn hk45 _ _ _ _ _ _ _ _ hF hS (lv_sub hl [1, 2, 3, 0, 4] rfl)
set_option maxHeartbeats 4000000 in
set_option maxRecDepth 100000 in
theorem b_X7_brings_83 {k45 : Int32 → Int32 → Int32 → Int32 → Mem → Option (Int32 × Mem)} {M0 : Mem} {r0 : Int32} (hC : SX p m c s args cX7_brings 5 RX7 G (AG G)) (hr : meth.sig.returnType = (some .int)) (hlk : meth.locks = false) (hn : ∀ i ∈ LsF, i ∈ gL G) (hk45 : ∀ (x1 : Int32) (x2 : Int32) (x3 : Int32) (x4 : Int32) (M : Mem) (H : Heap) (locs : List Loc) (ls : Array Slot), k45 x1 x2 x3 x4 M = some (r0, M0) → ST G (AG G) s M H locs → lv_has ls 5 [(0, .ref (G.1 61)), (1, .int x1), (2, .int x2), (3, .int x3), (4, .int x4)] → W p l e (RM 4 93) s m args below meth c H locs 0 0 (MQ below (QV G (some (.int r0)) M0) args s 0 0 (AG G)) (F0 m 45 ls [])) : ∀ (x1 : Int32) (x2 : Int32) (x3 : Int32) (x4 : Int32) (M : Mem) (H : Heap) (locs : List Loc) (ls : Array Slot), F_X7_brings_83 k45 x1 x2 x3 x4 M = some (r0, M0) → ST G (AG G) s M H locs → lv_has ls 5 [(0, .ref (G.1 61)), (1, .int x1), (2, .int x2), (3, .int x3), (4, .int x4)] → W p l e (RM 4 93) s m args below meth c H locs 0 0 (MQ below (QV G (some (.int r0)) M0) args s 0 0 (AG G)) (F0 m 83 ls []) := by
  obtain ⟨⟨hx, hb, hml, hown, hts⟩, hK, hG, hA⟩ := id hC
  intro x1 x2 x3 x4 M H locs ls hF hS hl
  unfold F_X7_brings_83 at hF
  refine lv_aload_n hx hb dX7_brings_83 rfl (lv_at hl 0 rfl) ?_
  refine lv_iconst (v := 0) hx hb dX7_brings_84 (by decide) ?_
  refine lv_aload_n hx hb dX7_brings_85 rfl (lv_at hl 0 rfl) ?_
  obtain ⟨r86, M86, h86, hF⟩ := bd_some hF
  refine cV_ (ci := 7) (i := 61) (C := RX7) (T := TX7) (N := 29) (As := []) (v := some (.int r86)) (rest := [.int 0, .ref (G.1 61)]) (st1 := [.int r86, .int 0, .ref (G.1 61)]) hC hS (hn _ (by decide)) rfl rfl (c_X7_heardOnes l G hn M _ _ h86) kV_X7_heardOnes lm_X7_162 ⟨Nat.le_of_ble_eq_true rfl, Nat.le_of_ble_eq_true rfl⟩ rfl hl.1 (Nat.le_of_ble_eq_true rfl) dX7_brings_86 ⟨Nat.le_refl _, Nat.le_refl _⟩ rfl (fun H locs hS => ?_)
  refine lv_iload hx hb dX7_brings_89 (lv_at hl 4 rfl) ?_
  refine lv_ior hx hb dX7_brings_91 ?_
  obtain ⟨M92, h92, hF⟩ := bdv_some hF
  refine cV_ (ci := 7) (i := 61) (C := RX7) (T := TX7) (N := 29) (As := [.int 0, .int (r86 ||| x4)]) (v := none) (rest := []) (st1 := []) hC hS (hn _ (by decide)) rfl rfl (c_X7_meetsAll l G hn 0 (r86 ||| x4) M86 _ h92) kV_X7_meetsAll lm_X7_193 ⟨Nat.le_of_ble_eq_true rfl, Nat.le_of_ble_eq_true rfl⟩ rfl hl.1 (Nat.le_of_ble_eq_true rfl) dX7_brings_92 ⟨Nat.le_refl _, Nat.le_refl _⟩ rfl (fun H locs hS => ?_)
  refine lv_aload_n hx hb dX7_brings_95 rfl (lv_at hl 0 rfl) ?_
  obtain ⟨r96, M96, h96, hF⟩ := bd_some hF
  refine cV_ (ci := 7) (i := 61) (C := RX7) (T := TX7) (N := 29) (As := []) (v := some (.int r96)) (rest := []) (st1 := [.int r96]) hC hS (hn _ (by decide)) rfl rfl (c_X7_leastNow l G hn M92 _ _ h96) kV_X7_leastNow lm_X7_203 ⟨Nat.le_of_ble_eq_true rfl, Nat.le_of_ble_eq_true rfl⟩ rfl hl.1 (Nat.le_of_ble_eq_true rfl) dX7_brings_96 ⟨Nat.le_refl _, Nat.le_refl _⟩ rfl (fun H locs hS => ?_)
  refine lv_iload_n hx hb dX7_brings_99 rfl (lv_at hl 1 rfl) ?_
  refine lv_ishr hx hb dX7_brings_100 ?_
  refine lv_iconst (v := 1) hx hb dX7_brings_101 (by decide) ?_
  refine lv_iand hx hb dX7_brings_102 ?_
  refine lv_iload_n hx hb dX7_brings_103 rfl (lv_at hl 2 rfl) ?_
  refine lv_icmp_ne (tgt := 112) hx hb dX7_brings_104 (by decide) (fun hc => ?_) (fun hc => ?_)
  · rw [if_neg hc] at hF
    refine lv_iload_n hx hb dX7_brings_112 rfl (lv_at hl 3 rfl) ?_
    exact b_X7_brings_113 hC hr hlk hn hk45 _ _ _ _ _ _ _ _ hF hS (lv_sub hl [0, 1, 2, 4] rfl)
  · rw [if_pos hc] at hF
    refine lv_iload hx hb dX7_brings_107 (lv_at hl 4 rfl) ?_
    refine lv_goto (tgt := 113) hx hb dX7_brings_109 (by decide) ?_
    exact b_X7_brings_113 hC hr hlk hn hk45 _ _ _ _ _ _ _ _ hF hS (lv_sub hl [0, 1, 2, 4] rfl)
set_option maxHeartbeats 4000000 in
set_option maxRecDepth 100000 in
theorem b_X7_brings_45 {M0 : Mem} {r0 : Int32} (hC : SX p m c s args cX7_brings 5 RX7 G (AG G)) (hr : meth.sig.returnType = (some .int)) (hlk : meth.locks = false) (hn : ∀ i ∈ LsF, i ∈ gL G) : ∀ (n : Nat) (x1 : Int32) (x2 : Int32) (x3 : Int32) (x4 : Int32) (M : Mem) (H : Heap) (locs : List Loc) (ls : Array Slot), F_X7_brings_45 n x1 x2 x3 x4 M = some (r0, M0) → ST G (AG G) s M H locs → lv_has ls 5 [(0, .ref (G.1 61)), (1, .int x1), (2, .int x2), (3, .int x3), (4, .int x4)] → W p l e (RM 4 93) s m args below meth c H locs 0 0 (MQ below (QV G (some (.int r0)) M0) args s 0 0 (AG G)) (F0 m 45 ls []) := by
  obtain ⟨⟨hx, hb, hml, hown, hts⟩, hK, hG, hA⟩ := id hC
  intro n
  induction n with
  | zero =>
    intro x1 x2 x3 x4 M H locs ls hF
    cases hF
  | succ n ih =>
    intro x1 x2 x3 x4 M H locs ls hF hS hl
    unfold F_X7_brings_45 at hF
    refine lv_iload hx hb dX7_brings_45 (lv_at hl 4 rfl) ?_
    refine lv_aload_n hx hb dX7_brings_47 rfl (lv_at hl 0 rfl) ?_
    obtain ⟨r48, M48, h48, hF⟩ := bd_some hF
    refine cV_ (ci := 7) (i := 61) (C := RX7) (T := TX7) (N := 29) (As := []) (v := some (.int r48)) (rest := [.int x4]) (st1 := [.int r48, .int x4]) hC hS (hn _ (by decide)) rfl rfl (c_X7_all l G hn M _ _ h48) kV_X7_all lm_X7_97 ⟨Nat.le_of_ble_eq_true rfl, Nat.le_of_ble_eq_true rfl⟩ rfl hl.1 (Nat.le_of_ble_eq_true rfl) dX7_brings_48 ⟨Nat.le_refl _, Nat.le_refl _⟩ rfl (fun H locs hS => ?_)
    refine lv_icmp_gt (tgt := 120) hx hb dX7_brings_51 (by decide) (fun hc => ?_) (fun hc => ?_)
    · rw [if_pos hc] at hF
      refine lv_iload_n hx hb dX7_brings_120 rfl (lv_at hl 3 rfl) ?_
      exact retI hC hS hr hlk hF dX7_brings_121
    · rw [if_neg hc] at hF
      refine lv_iload hx hb dX7_brings_54 (lv_at hl 4 rfl) ?_
      refine lv_aload_n hx hb dX7_brings_56 rfl (lv_at hl 0 rfl) ?_
      refine gx (ci := 7) (k := 8) (v := .int (M48.1 41)) (C := RX7) (T := TX7) (N := 29) hC hS (hn _ (by decide)) rfl rfl in_X7 (by decide) rfl rfl lf_X7_101 dX7_brings_57 ?_
      refine lv_iconst (v := (-1)) hx hb dX7_brings_60 (by decide) ?_
      refine lv_ixor hx hb dX7_brings_61 ?_
      refine lv_iand hx hb dX7_brings_62 ?_
      refine lv_if_ne (tgt := 114) hx hb dX7_brings_63 (by decide) (fun hc => ?_) (fun hc => ?_)
      · rw [if_neg hc] at hF
        exact b_X7_brings_114 hC hr hlk hn ih _ _ _ _ _ _ _ _ hF hS (lv_sub hl [0, 1, 2, 3, 4] rfl)
      · rw [if_pos hc] at hF
        refine lv_iload_n hx hb dX7_brings_66 rfl (lv_at hl 3 rfl) ?_
        refine lv_iconst (v := (-1)) hx hb dX7_brings_67 (by decide) ?_
        refine lv_icmp_eq (tgt := 83) hx hb dX7_brings_68 (by decide) (fun hc => ?_) (fun hc => ?_)
        · rw [if_pos hc] at hF
          exact b_X7_brings_83 hC hr hlk hn ih _ _ _ _ _ _ _ _ hF hS (lv_sub hl [0, 1, 2, 3, 4] rfl)
        · rw [if_neg hc] at hF
          refine lv_iload hx hb dX7_brings_71 (lv_at hl 4 rfl) ?_
          obtain ⟨r73, M73, h73, hF⟩ := bd_some hF
          refine cS_ (As := [.int x4]) (v := some (.int r73)) (rest := []) (st1 := [.int r73]) hC hS (c_X7_ones l G hn x4 M48 _ _ h73) kS_X7_ones lm_X7_148 ⟨Nat.le_of_ble_eq_true rfl, Nat.le_of_ble_eq_true rfl⟩ rfl hl.1 (Nat.le_of_ble_eq_true rfl) dX7_brings_73 ⟨Nat.le_refl _, Nat.le_refl _⟩ rfl (fun H locs hS => ?_)
          refine lv_iload_n hx hb dX7_brings_76 rfl (lv_at hl 3 rfl) ?_
          obtain ⟨r77, M77, h77, hF⟩ := bd_some hF
          refine cS_ (As := [.int x3]) (v := some (.int r77)) (rest := [.int r73]) (st1 := [.int r77, .int r73]) hC hS (c_X7_ones l G hn x3 M73 _ _ h77) kS_X7_ones lm_X7_148 ⟨Nat.le_of_ble_eq_true rfl, Nat.le_of_ble_eq_true rfl⟩ rfl hl.1 (Nat.le_of_ble_eq_true rfl) dX7_brings_77 ⟨Nat.le_refl _, Nat.le_refl _⟩ rfl (fun H locs hS => ?_)
          refine lv_icmp_ge (tgt := 114) hx hb dX7_brings_80 (by decide) (fun hc => ?_) (fun hc => ?_)
          · rw [if_pos hc] at hF
            exact b_X7_brings_114 hC hr hlk hn ih _ _ _ _ _ _ _ _ hF hS (lv_sub hl [0, 1, 2, 3, 4] rfl)
          · rw [if_neg hc] at hF
            exact b_X7_brings_83 hC hr hlk hn ih _ _ _ _ _ _ _ _ hF hS (lv_sub hl [0, 1, 2, 3, 4] rfl)
set_option maxHeartbeats 4000000 in
set_option maxRecDepth 100000 in
theorem b_X7_brings {M0 : Mem} {r0 : Int32} (hC : SX p m c s args cX7_brings 5 RX7 G (AG G)) (hr : meth.sig.returnType = (some .int)) (hlk : meth.locks = false) (hn : ∀ i ∈ LsF, i ∈ gL G) : ∀ (x1 : Int32) (x2 : Int32) (M : Mem) (H : Heap) (locs : List Loc) (ls : Array Slot), F_X7_brings x1 x2 M = some (r0, M0) → ST G (AG G) s M H locs → lv_has ls 5 [(0, .ref (G.1 61)), (1, .int x1), (2, .int x2)] → W p l e (RM 4 93) s m args below meth c H locs 0 0 (MQ below (QV G (some (.int r0)) M0) args s 0 0 (AG G)) (F0 m 0 ls []) := by
  obtain ⟨⟨hx, hb, hml, hown, hts⟩, hK, hG, hA⟩ := id hC
  intro x1 x2 M H locs ls hF hS hl
  unfold F_X7_brings at hF
  refine lv_aload_n hx hb dX7_brings_0 rfl (lv_at hl 0 rfl) ?_
  refine lv_iload_n hx hb dX7_brings_1 rfl (lv_at hl 1 rfl) ?_
  obtain ⟨r2, M2, h2, hF⟩ := bd_some hF
  refine cV_ (ci := 7) (i := 61) (C := RX7) (T := TX7) (N := 29) (As := [.int x1]) (v := some (.int r2)) (rest := []) (st1 := [.int r2]) hC hS (hn _ (by decide)) rfl rfl (c_X7_isWord l G hn x1 M _ _ h2) kV_X7_isWord lm_X7_111 ⟨Nat.le_of_ble_eq_true rfl, Nat.le_of_ble_eq_true rfl⟩ rfl hl.1 (Nat.le_of_ble_eq_true rfl) dX7_brings_2 ⟨Nat.le_refl _, Nat.le_refl _⟩ rfl (fun H locs hS => ?_)
  refine lv_if_eq (tgt := 37) hx hb dX7_brings_5 (by decide) (fun hc => ?_) (fun hc => ?_)
  · rw [if_pos hc] at hF
    refine lv_bipush (v := (-2)) hx hb dX7_brings_37 (by decide) ?_
    exact retI hC hS hr hlk hF dX7_brings_39
  · rw [if_neg hc] at hF
    refine lv_aload_n hx hb dX7_brings_8 rfl (lv_at hl 0 rfl) ?_
    refine gx (ci := 7) (k := 3) (v := .ref (G.1 24)) (C := RX7) (T := TX7) (N := 29) hC hS (hn _ (by decide)) rfl rfl in_X7 (by decide) rfl rfl lf_X7_16 dX7_brings_9 ?_
    refine lv_iload_n hx hb dX7_brings_12 rfl (lv_at hl 1 rfl) ?_
    obtain ⟨hi, hF⟩ := ckb_some hF
    refine ald hC hS (hn _ (by decide)) (by decide) rfl hi dX7_brings_13 ?_
    refine lv_if_ne (tgt := 37) hx hb dX7_brings_14 (by decide) (fun hc => ?_) (fun hc => ?_)
    · rw [if_neg hc] at hF
      refine lv_bipush (v := (-2)) hx hb dX7_brings_37 (by decide) ?_
      exact retI hC hS hr hlk hF dX7_brings_39
    · rw [if_pos hc] at hF
      refine lv_aload_n hx hb dX7_brings_17 rfl (lv_at hl 0 rfl) ?_
      refine gx (ci := 7) (k := 8) (v := .int (M2.1 41)) (C := RX7) (T := TX7) (N := 29) hC hS (hn _ (by decide)) rfl rfl in_X7 (by decide) rfl rfl lf_X7_101 dX7_brings_18 ?_
      refine lv_iload_n hx hb dX7_brings_21 rfl (lv_at hl 1 rfl) ?_
      obtain ⟨r22, M22, h22, hF⟩ := bd_some hF
      refine cS_ (As := [.int (M2.1 41), .int x1]) (v := some (.int r22)) (rest := []) (st1 := [.int r22]) hC hS (c_X7_has l G hn (M2.1 41) x1 M2 _ _ h22) kS_X7_has lm_X7_151 ⟨Nat.le_of_ble_eq_true rfl, Nat.le_of_ble_eq_true rfl⟩ rfl hl.1 (Nat.le_of_ble_eq_true rfl) dX7_brings_22 ⟨Nat.le_refl _, Nat.le_refl _⟩ rfl (fun H locs hS => ?_)
      refine lv_if_ne (tgt := 37) hx hb dX7_brings_25 (by decide) (fun hc => ?_) (fun hc => ?_)
      · rw [if_neg hc] at hF
        refine lv_bipush (v := (-2)) hx hb dX7_brings_37 (by decide) ?_
        exact retI hC hS hr hlk hF dX7_brings_39
      · rw [if_pos hc] at hF
        refine lv_iload_n hx hb dX7_brings_28 rfl (lv_at hl 2 rfl) ?_
        refine lv_iconst (v := 0) hx hb dX7_brings_29 (by decide) ?_
        refine lv_iconst (v := 1) hx hb dX7_brings_30 (by decide) ?_
        obtain ⟨r31, M31, h31, hF⟩ := bd_some hF
        refine cS_ (As := [.int x2, .int 0, .int 1]) (v := some (.int r31)) (rest := []) (st1 := [.int r31]) hC hS (c_X7_in l G hn x2 0 1 M22 _ _ h31) kS_X7_in lm_X7_71 ⟨Nat.le_of_ble_eq_true rfl, Nat.le_of_ble_eq_true rfl⟩ rfl hl.1 (Nat.le_of_ble_eq_true rfl) dX7_brings_31 ⟨Nat.le_refl _, Nat.le_refl _⟩ rfl (fun H locs hS => ?_)
        refine lv_if_ne (tgt := 40) hx hb dX7_brings_34 (by decide) (fun hc => ?_) (fun hc => ?_)
        · rw [if_neg hc] at hF
          refine lv_iconst (v := (-1)) hx hb dX7_brings_40 (by decide) ?_
          refine lv_istore_n (lv' := [(3, .int ((-1))), (0, .ref (G.1 61)), (1, .int x1), (2, .int x2)]) hx hb dX7_brings_41 rfl hl (by decide) rfl (fun ls hl => ?_)
          refine lv_iconst (v := 0) hx hb dX7_brings_42 (by decide) ?_
          refine lv_istore (lv' := [(4, .int 0), (3, .int ((-1))), (0, .ref (G.1 61)), (1, .int x1), (2, .int x2)]) hx hb dX7_brings_43 hl (by decide) rfl (fun ls hl => ?_)
          exact b_X7_brings_45 hC hr hlk hn fu _ _ _ _ _ _ _ _ hF hS (lv_sub hl [2, 3, 4, 1, 0] rfl)
        · rw [if_pos hc] at hF
          refine lv_bipush (v := (-2)) hx hb dX7_brings_37 (by decide) ?_
          exact retI hC hS hr hlk hF dX7_brings_39
set_option maxRecDepth 100000 in
theorem c_X7_brings (l : Launch) (G : GT) (hn : ∀ i ∈ LsF, i ∈ gL G) (x1 : Int32) (x2 : Int32) (M : Mem) (r0 : Int32) (M0 : Mem) (hF : F_X7_brings x1 x2 M = some (r0, M0)) : MetG l G yX7_brings cX7_brings 5 (some .int) 4 93 [.ref (G.1 61), .int x1, .int x2] M (some (.int r0)) M0 := by
  refine MetG.of (by decide) (Nat.le_of_ble_eq_true rfl) ?_
  intro p e s m args below meth c hC hr hlk hnm ls hS hl
  exact b_X7_brings hC hr hlk hn _ _ _ _ _ _ hF hS hl
def F_X7_part_85 (k18 : Int32 → Int32 → Mem → Option (Int32 × Mem)) (x1 : Int32) (x2 : Int32) (M : Mem) : Option (Int32 × Mem) := k18 x1 (x2 + 1) M
def F_X7_part_84 (k18 : Int32 → Int32 → Mem → Option (Int32 × Mem)) (x2 : Int32) (t0 : Int32) (M : Mem) : Option (Int32 × Mem) := F_X7_part_85 k18 t0 x2 M
def F_X7_part_51 (k18 : Int32 → Int32 → Mem → Option (Int32 × Mem)) (x1 : Int32) (x2 : Int32) (M : Mem) : Option (Int32 × Mem) := bdv (F_X7_lines x2 M) (fun M53 => bdv (F_X7_hears 0 M53) (fun M58 => bdv (F_X7_hears 1 M58) (fun M68 => if (M58.1 44) = (M68.1 44) then F_X7_part_84 k18 x2 x1 M68 else F_X7_part_84 k18 x2 x2 M68)))
def F_X7_part_18 : Nat → Int32 → Int32 → Mem → Option (Int32 × Mem)
  | 0, _, _, _ => none
  | n + 1, x1, x2, M => bd (F_X7_all M) (fun r20 M20 => if r20 < x2 then some (x1, M20) else if (x2 &&& (M20.1 41)) = 0 then if x1 = (-1) then F_X7_part_51 (F_X7_part_18 n) x1 x2 M20 else bd (F_X7_ones x2 M20) (fun r41 M41 => bd (F_X7_ones x1 M41) (fun r45 M45 => if r45 ≤ r41 then F_X7_part_85 (F_X7_part_18 n) x1 x2 M45 else F_X7_part_51 (F_X7_part_18 n) x1 x2 M45)) else F_X7_part_85 (F_X7_part_18 n) x1 x2 M20)
def F_X7_part (M : Mem) : Option (Int32 × Mem) := bdv (F_X7_reads 0 M) (fun M2 => bdv (F_X7_reads 1 M2) (fun M7 => bdv (F_X7_laysPossible M7) (fun M11 => F_X7_part_18 fu (-1) 1 M11)))
set_option maxHeartbeats 4000000 in
set_option maxRecDepth 100000 in
theorem b_X7_part_85 {k18 : Int32 → Int32 → Mem → Option (Int32 × Mem)} {M0 : Mem} {r0 : Int32} (hC : SX p m c s args cX7_part 4 RX7 G (AG G)) (hr : meth.sig.returnType = (some .int)) (hlk : meth.locks = false) (hn : ∀ i ∈ LsF, i ∈ gL G) (hk18 : ∀ (x1 : Int32) (x2 : Int32) (M : Mem) (H : Heap) (locs : List Loc) (ls : Array Slot), k18 x1 x2 M = some (r0, M0) → ST G (AG G) s M H locs → lv_has ls 4 [(0, .ref (G.1 61)), (1, .int x1), (2, .int x2)] → W p l e (RM 3 68) s m args below meth c H locs 0 0 (MQ below (QV G (some (.int r0)) M0) args s 0 0 (AG G)) (F0 m 18 ls [])) : ∀ (x1 : Int32) (x2 : Int32) (M : Mem) (H : Heap) (locs : List Loc) (ls : Array Slot), F_X7_part_85 k18 x1 x2 M = some (r0, M0) → ST G (AG G) s M H locs → lv_has ls 4 [(0, .ref (G.1 61)), (1, .int x1), (2, .int x2)] → W p l e (RM 3 68) s m args below meth c H locs 0 0 (MQ below (QV G (some (.int r0)) M0) args s 0 0 (AG G)) (F0 m 85 ls []) := by
  obtain ⟨⟨hx, hb, hml, hown, hts⟩, hK, hG, hA⟩ := id hC
  intro x1 x2 M H locs ls hF hS hl
  unfold F_X7_part_85 at hF
  refine lv_iinc (v := x2 + 1) (lv' := [(2, .int (x2 + 1)), (0, .ref (G.1 61)), (1, .int x1)]) hx hb dX7_part_85 hl (k := 2) rfl rfl (by decide) rfl (fun ls hl => ?_)
  refine lv_goto (tgt := 18) hx hb dX7_part_88 (by decide) ?_
  exact hk18 _ _ _ _ _ _ hF hS (lv_sub hl [1, 2, 0] rfl)
set_option maxHeartbeats 4000000 in
set_option maxRecDepth 100000 in
theorem b_X7_part_84 {k18 : Int32 → Int32 → Mem → Option (Int32 × Mem)} {M0 : Mem} {r0 : Int32} (hC : SX p m c s args cX7_part 4 RX7 G (AG G)) (hr : meth.sig.returnType = (some .int)) (hlk : meth.locks = false) (hn : ∀ i ∈ LsF, i ∈ gL G) (hk18 : ∀ (x1 : Int32) (x2 : Int32) (M : Mem) (H : Heap) (locs : List Loc) (ls : Array Slot), k18 x1 x2 M = some (r0, M0) → ST G (AG G) s M H locs → lv_has ls 4 [(0, .ref (G.1 61)), (1, .int x1), (2, .int x2)] → W p l e (RM 3 68) s m args below meth c H locs 0 0 (MQ below (QV G (some (.int r0)) M0) args s 0 0 (AG G)) (F0 m 18 ls [])) : ∀ (x2 : Int32) (t0 : Int32) (M : Mem) (H : Heap) (locs : List Loc) (ls : Array Slot), F_X7_part_84 k18 x2 t0 M = some (r0, M0) → ST G (AG G) s M H locs → lv_has ls 4 [(0, .ref (G.1 61)), (2, .int x2)] → W p l e (RM 3 68) s m args below meth c H locs 0 0 (MQ below (QV G (some (.int r0)) M0) args s 0 0 (AG G)) (F0 m 84 ls [.int t0]) := by
  obtain ⟨⟨hx, hb, hml, hown, hts⟩, hK, hG, hA⟩ := id hC
  intro x2 t0 M H locs ls hF hS hl
  unfold F_X7_part_84 at hF
  refine lv_istore_n (lv' := [(1, .int t0), (0, .ref (G.1 61)), (2, .int x2)]) hx hb dX7_part_84 rfl hl (by decide) rfl (fun ls hl => ?_)
  exact b_X7_part_85 hC hr hlk hn hk18 _ _ _ _ _ _ hF hS (lv_sub hl [1, 0, 2] rfl)
set_option maxHeartbeats 4000000 in
set_option maxRecDepth 100000 in
theorem b_X7_part_51 {k18 : Int32 → Int32 → Mem → Option (Int32 × Mem)} {M0 : Mem} {r0 : Int32} (hC : SX p m c s args cX7_part 4 RX7 G (AG G)) (hr : meth.sig.returnType = (some .int)) (hlk : meth.locks = false) (hn : ∀ i ∈ LsF, i ∈ gL G) (hk18 : ∀ (x1 : Int32) (x2 : Int32) (M : Mem) (H : Heap) (locs : List Loc) (ls : Array Slot), k18 x1 x2 M = some (r0, M0) → ST G (AG G) s M H locs → lv_has ls 4 [(0, .ref (G.1 61)), (1, .int x1), (2, .int x2)] → W p l e (RM 3 68) s m args below meth c H locs 0 0 (MQ below (QV G (some (.int r0)) M0) args s 0 0 (AG G)) (F0 m 18 ls [])) : ∀ (x1 : Int32) (x2 : Int32) (M : Mem) (H : Heap) (locs : List Loc) (ls : Array Slot), F_X7_part_51 k18 x1 x2 M = some (r0, M0) → ST G (AG G) s M H locs → lv_has ls 4 [(0, .ref (G.1 61)), (1, .int x1), (2, .int x2)] → W p l e (RM 3 68) s m args below meth c H locs 0 0 (MQ below (QV G (some (.int r0)) M0) args s 0 0 (AG G)) (F0 m 51 ls []) := by
  obtain ⟨⟨hx, hb, hml, hown, hts⟩, hK, hG, hA⟩ := id hC
  intro x1 x2 M H locs ls hF hS hl
  unfold F_X7_part_51 at hF
  refine lv_aload_n hx hb dX7_part_51 rfl (lv_at hl 0 rfl) ?_
  refine lv_iload_n hx hb dX7_part_52 rfl (lv_at hl 2 rfl) ?_
  obtain ⟨M53, h53, hF⟩ := bdv_some hF
  refine cV_ (ci := 7) (i := 61) (C := RX7) (T := TX7) (N := 29) (As := [.int x2]) (v := none) (rest := []) (st1 := []) hC hS (hn _ (by decide)) rfl rfl (c_X7_lines l G hn x2 M _ h53) kV_X7_lines lm_X7_165 ⟨Nat.le_of_ble_eq_true rfl, Nat.le_of_ble_eq_true rfl⟩ rfl hl.1 (Nat.le_of_ble_eq_true rfl) dX7_part_53 ⟨Nat.le_refl _, Nat.le_refl _⟩ rfl (fun H locs hS => ?_)
  refine lv_aload_n hx hb dX7_part_56 rfl (lv_at hl 0 rfl) ?_
  refine lv_iconst (v := 0) hx hb dX7_part_57 (by decide) ?_
  obtain ⟨M58, h58, hF⟩ := bdv_some hF
  refine cV_ (ci := 7) (i := 61) (C := RX7) (T := TX7) (N := 29) (As := [.int 0]) (v := none) (rest := []) (st1 := []) hC hS (hn _ (by decide)) rfl rfl (c_X7_hears l G hn 0 M53 _ h58) kV_X7_hears lm_X7_168 ⟨Nat.le_of_ble_eq_true rfl, Nat.le_of_ble_eq_true rfl⟩ rfl hl.1 (Nat.le_of_ble_eq_true rfl) dX7_part_58 ⟨Nat.le_refl _, Nat.le_refl _⟩ rfl (fun H locs hS => ?_)
  refine lv_aload_n hx hb dX7_part_61 rfl (lv_at hl 0 rfl) ?_
  refine gx (ci := 7) (k := 16) (v := .int (M58.1 44)) (C := RX7) (T := TX7) (N := 29) hC hS (hn _ (by decide)) rfl rfl in_X7 (by decide) rfl rfl lf_X7_136 dX7_part_62 ?_
  refine lv_istore_n (lv' := [(3, .int (M58.1 44)), (0, .ref (G.1 61)), (1, .int x1), (2, .int x2)]) hx hb dX7_part_65 rfl hl (by decide) rfl (fun ls hl => ?_)
  refine lv_aload_n hx hb dX7_part_66 rfl (lv_at hl 1 rfl) ?_
  refine lv_iconst (v := 1) hx hb dX7_part_67 (by decide) ?_
  obtain ⟨M68, h68, hF⟩ := bdv_some hF
  refine cV_ (ci := 7) (i := 61) (C := RX7) (T := TX7) (N := 29) (As := [.int 1]) (v := none) (rest := []) (st1 := []) hC hS (hn _ (by decide)) rfl rfl (c_X7_hears l G hn 1 M58 _ h68) kV_X7_hears lm_X7_168 ⟨Nat.le_of_ble_eq_true rfl, Nat.le_of_ble_eq_true rfl⟩ rfl hl.1 (Nat.le_of_ble_eq_true rfl) dX7_part_68 ⟨Nat.le_refl _, Nat.le_refl _⟩ rfl (fun H locs hS => ?_)
  refine lv_iload_n hx hb dX7_part_71 rfl (lv_at hl 0 rfl) ?_
  refine lv_aload_n hx hb dX7_part_72 rfl (lv_at hl 1 rfl) ?_
  refine gx (ci := 7) (k := 16) (v := .int (M68.1 44)) (C := RX7) (T := TX7) (N := 29) hC hS (hn _ (by decide)) rfl rfl in_X7 (by decide) rfl rfl lf_X7_136 dX7_part_73 ?_
  refine lv_icmp_eq (tgt := 83) hx hb dX7_part_76 (by decide) (fun hc => ?_) (fun hc => ?_)
  · rw [if_pos hc] at hF
    refine lv_iload_n hx hb dX7_part_83 rfl (lv_at hl 2 rfl) ?_
    exact b_X7_part_84 hC hr hlk hn hk18 _ _ _ _ _ _ hF hS (lv_sub hl [1, 3] rfl)
  · rw [if_neg hc] at hF
    refine lv_iload_n hx hb dX7_part_79 rfl (lv_at hl 3 rfl) ?_
    refine lv_goto (tgt := 84) hx hb dX7_part_80 (by decide) ?_
    exact b_X7_part_84 hC hr hlk hn hk18 _ _ _ _ _ _ hF hS (lv_sub hl [1, 3] rfl)
set_option maxHeartbeats 4000000 in
set_option maxRecDepth 100000 in
theorem b_X7_part_18 {M0 : Mem} {r0 : Int32} (hC : SX p m c s args cX7_part 4 RX7 G (AG G)) (hr : meth.sig.returnType = (some .int)) (hlk : meth.locks = false) (hn : ∀ i ∈ LsF, i ∈ gL G) : ∀ (n : Nat) (x1 : Int32) (x2 : Int32) (M : Mem) (H : Heap) (locs : List Loc) (ls : Array Slot), F_X7_part_18 n x1 x2 M = some (r0, M0) → ST G (AG G) s M H locs → lv_has ls 4 [(0, .ref (G.1 61)), (1, .int x1), (2, .int x2)] → W p l e (RM 3 68) s m args below meth c H locs 0 0 (MQ below (QV G (some (.int r0)) M0) args s 0 0 (AG G)) (F0 m 18 ls []) := by
  obtain ⟨⟨hx, hb, hml, hown, hts⟩, hK, hG, hA⟩ := id hC
  intro n
  induction n with
  | zero =>
    intro x1 x2 M H locs ls hF
    cases hF
  | succ n ih =>
    intro x1 x2 M H locs ls hF hS hl
    unfold F_X7_part_18 at hF
    refine lv_iload_n hx hb dX7_part_18 rfl (lv_at hl 2 rfl) ?_
    refine lv_aload_n hx hb dX7_part_19 rfl (lv_at hl 0 rfl) ?_
    obtain ⟨r20, M20, h20, hF⟩ := bd_some hF
    refine cV_ (ci := 7) (i := 61) (C := RX7) (T := TX7) (N := 29) (As := []) (v := some (.int r20)) (rest := [.int x2]) (st1 := [.int r20, .int x2]) hC hS (hn _ (by decide)) rfl rfl (c_X7_all l G hn M _ _ h20) kV_X7_all lm_X7_97 ⟨Nat.le_of_ble_eq_true rfl, Nat.le_of_ble_eq_true rfl⟩ rfl hl.1 (Nat.le_of_ble_eq_true rfl) dX7_part_20 ⟨Nat.le_refl _, Nat.le_refl _⟩ rfl (fun H locs hS => ?_)
    refine lv_icmp_gt (tgt := 91) hx hb dX7_part_23 (by decide) (fun hc => ?_) (fun hc => ?_)
    · rw [if_pos hc] at hF
      refine lv_iload_n hx hb dX7_part_91 rfl (lv_at hl 1 rfl) ?_
      exact retI hC hS hr hlk hF dX7_part_92
    · rw [if_neg hc] at hF
      refine lv_iload_n hx hb dX7_part_26 rfl (lv_at hl 2 rfl) ?_
      refine lv_aload_n hx hb dX7_part_27 rfl (lv_at hl 0 rfl) ?_
      refine gx (ci := 7) (k := 8) (v := .int (M20.1 41)) (C := RX7) (T := TX7) (N := 29) hC hS (hn _ (by decide)) rfl rfl in_X7 (by decide) rfl rfl lf_X7_101 dX7_part_28 ?_
      refine lv_iand hx hb dX7_part_31 ?_
      refine lv_if_ne (tgt := 85) hx hb dX7_part_32 (by decide) (fun hc => ?_) (fun hc => ?_)
      · rw [if_neg hc] at hF
        exact b_X7_part_85 hC hr hlk hn ih _ _ _ _ _ _ hF hS (lv_sub hl [0, 1, 2] rfl)
      · rw [if_pos hc] at hF
        refine lv_iload_n hx hb dX7_part_35 rfl (lv_at hl 1 rfl) ?_
        refine lv_iconst (v := (-1)) hx hb dX7_part_36 (by decide) ?_
        refine lv_icmp_eq (tgt := 51) hx hb dX7_part_37 (by decide) (fun hc => ?_) (fun hc => ?_)
        · rw [if_pos hc] at hF
          exact b_X7_part_51 hC hr hlk hn ih _ _ _ _ _ _ hF hS (lv_sub hl [0, 1, 2] rfl)
        · rw [if_neg hc] at hF
          refine lv_iload_n hx hb dX7_part_40 rfl (lv_at hl 2 rfl) ?_
          obtain ⟨r41, M41, h41, hF⟩ := bd_some hF
          refine cS_ (As := [.int x2]) (v := some (.int r41)) (rest := []) (st1 := [.int r41]) hC hS (c_X7_ones l G hn x2 M20 _ _ h41) kS_X7_ones lm_X7_148 ⟨Nat.le_of_ble_eq_true rfl, Nat.le_of_ble_eq_true rfl⟩ rfl hl.1 (Nat.le_of_ble_eq_true rfl) dX7_part_41 ⟨Nat.le_refl _, Nat.le_refl _⟩ rfl (fun H locs hS => ?_)
          refine lv_iload_n hx hb dX7_part_44 rfl (lv_at hl 1 rfl) ?_
          obtain ⟨r45, M45, h45, hF⟩ := bd_some hF
          refine cS_ (As := [.int x1]) (v := some (.int r45)) (rest := [.int r41]) (st1 := [.int r45, .int r41]) hC hS (c_X7_ones l G hn x1 M41 _ _ h45) kS_X7_ones lm_X7_148 ⟨Nat.le_of_ble_eq_true rfl, Nat.le_of_ble_eq_true rfl⟩ rfl hl.1 (Nat.le_of_ble_eq_true rfl) dX7_part_45 ⟨Nat.le_refl _, Nat.le_refl _⟩ rfl (fun H locs hS => ?_)
          refine lv_icmp_ge (tgt := 85) hx hb dX7_part_48 (by decide) (fun hc => ?_) (fun hc => ?_)
          · rw [if_pos hc] at hF
            exact b_X7_part_85 hC hr hlk hn ih _ _ _ _ _ _ hF hS (lv_sub hl [0, 1, 2] rfl)
          · rw [if_neg hc] at hF
            exact b_X7_part_51 hC hr hlk hn ih _ _ _ _ _ _ hF hS (lv_sub hl [0, 1, 2] rfl)
set_option maxHeartbeats 4000000 in
set_option maxRecDepth 100000 in
theorem b_X7_part {M0 : Mem} {r0 : Int32} (hC : SX p m c s args cX7_part 4 RX7 G (AG G)) (hr : meth.sig.returnType = (some .int)) (hlk : meth.locks = false) (hn : ∀ i ∈ LsF, i ∈ gL G) : ∀ (M : Mem) (H : Heap) (locs : List Loc) (ls : Array Slot), F_X7_part M = some (r0, M0) → ST G (AG G) s M H locs → lv_has ls 4 [(0, .ref (G.1 61))] → W p l e (RM 3 68) s m args below meth c H locs 0 0 (MQ below (QV G (some (.int r0)) M0) args s 0 0 (AG G)) (F0 m 0 ls []) := by
  obtain ⟨⟨hx, hb, hml, hown, hts⟩, hK, hG, hA⟩ := id hC
  intro M H locs ls hF hS hl
  unfold F_X7_part at hF
  refine lv_aload_n hx hb dX7_part_0 rfl (lv_at hl 0 rfl) ?_
  refine lv_iconst (v := 0) hx hb dX7_part_1 (by decide) ?_
  obtain ⟨M2, h2, hF⟩ := bdv_some hF
  refine cV_ (ci := 7) (i := 61) (C := RX7) (T := TX7) (N := 29) (As := [.int 0]) (v := none) (rest := []) (st1 := []) hC hS (hn _ (by decide)) rfl rfl (c_X7_reads l G hn 0 M _ h2) kV_X7_reads lm_X7_133 ⟨Nat.le_of_ble_eq_true rfl, Nat.le_of_ble_eq_true rfl⟩ rfl hl.1 (Nat.le_of_ble_eq_true rfl) dX7_part_2 ⟨Nat.le_refl _, Nat.le_refl _⟩ rfl (fun H locs hS => ?_)
  refine lv_aload_n hx hb dX7_part_5 rfl (lv_at hl 0 rfl) ?_
  refine lv_iconst (v := 1) hx hb dX7_part_6 (by decide) ?_
  obtain ⟨M7, h7, hF⟩ := bdv_some hF
  refine cV_ (ci := 7) (i := 61) (C := RX7) (T := TX7) (N := 29) (As := [.int 1]) (v := none) (rest := []) (st1 := []) hC hS (hn _ (by decide)) rfl rfl (c_X7_reads l G hn 1 M2 _ h7) kV_X7_reads lm_X7_133 ⟨Nat.le_of_ble_eq_true rfl, Nat.le_of_ble_eq_true rfl⟩ rfl hl.1 (Nat.le_of_ble_eq_true rfl) dX7_part_7 ⟨Nat.le_refl _, Nat.le_refl _⟩ rfl (fun H locs hS => ?_)
  refine lv_aload_n hx hb dX7_part_10 rfl (lv_at hl 0 rfl) ?_
  obtain ⟨M11, h11, hF⟩ := bdv_some hF
  refine cV_ (ci := 7) (i := 61) (C := RX7) (T := TX7) (N := 29) (As := []) (v := none) (rest := []) (st1 := []) hC hS (hn _ (by decide)) rfl rfl (c_X7_laysPossible l G hn M7 _ h11) kV_X7_laysPossible lm_X7_114 ⟨Nat.le_of_ble_eq_true rfl, Nat.le_of_ble_eq_true rfl⟩ rfl hl.1 (Nat.le_of_ble_eq_true rfl) dX7_part_11 ⟨Nat.le_refl _, Nat.le_refl _⟩ rfl (fun H locs hS => ?_)
  refine lv_iconst (v := (-1)) hx hb dX7_part_14 (by decide) ?_
  refine lv_istore_n (lv' := [(1, .int ((-1))), (0, .ref (G.1 61))]) hx hb dX7_part_15 rfl hl (by decide) rfl (fun ls hl => ?_)
  refine lv_iconst (v := 1) hx hb dX7_part_16 (by decide) ?_
  refine lv_istore_n (lv' := [(2, .int 1), (1, .int ((-1))), (0, .ref (G.1 61))]) hx hb dX7_part_17 rfl hl (by decide) rfl (fun ls hl => ?_)
  exact b_X7_part_18 hC hr hlk hn fu _ _ _ _ _ _ hF hS (lv_sub hl [2, 1, 0] rfl)
set_option maxRecDepth 100000 in
theorem c_X7_part (l : Launch) (G : GT) (hn : ∀ i ∈ LsF, i ∈ gL G) (M : Mem) (r0 : Int32) (M0 : Mem) (hF : F_X7_part M = some (r0, M0)) : MetG l G yX7_part cX7_part 4 (some .int) 3 68 [.ref (G.1 61)] M (some (.int r0)) M0 := by
  refine MetG.of (by decide) (Nat.le_of_ble_eq_true rfl) ?_
  intro p e s m args below meth c hC hr hlk hnm ls hS hl
  exact b_X7_part hC hr hlk hn _ _ _ _ hF hS hl
end
