section
variable {p : Program} {l : Launch} {e : Env} {s : State} {m : MethodId} {args : Array Value} {below : List Frame} {meth : Method} {c : Code} {G : GT}
def F_X7_orders_89 (k57 : Int32 → Int32 → Int32 → Int32 → Mem → Option (Int32 × Mem)) (x1 : Int32) (x2 : Int32) (t0 : Int32) (t1 : Int32) (M : Mem) : Option (Int32 × Mem) := bd (F_X7_turns M) (fun r92 M92 => k57 x1 x2 (t0 + t1) r92 M92)
def F_X7_orders_84 (k57 : Int32 → Int32 → Int32 → Int32 → Mem → Option (Int32 × Mem)) (x1 : Int32) (x2 : Int32) (t0 : Int32) (M : Mem) : Option (Int32 × Mem) := F_X7_orders_89 k57 x1 x2 t0 1 M
def F_X7_orders_57 : Nat → Int32 → Int32 → Int32 → Int32 → Mem → Option (Int32 × Mem)
  | 0, _, _, _, _, _ => none
  | n + 1, x1, x2, x3, x4, M => if x4 = 0 then some (x3, M) else bdv (F_X7_hears x1 M) (fun M64 => if x2 = (-1) then F_X7_orders_84 (F_X7_orders_57 n) x1 x2 x3 M64 else bd (F_X7_has (M64.1 44) x2 M64) (fun r78 M78 => if r78 = 0 then F_X7_orders_89 (F_X7_orders_57 n) x1 x2 x3 0 M78 else F_X7_orders_84 (F_X7_orders_57 n) x1 x2 x3 M78))
def F_X7_orders_23 (x1 : Int32) (x2 : Int32) (M : Mem) : Option (Int32 × Mem) := bdv (F_X7_reads x1 M) (fun M25 => bdv (F_X7_laysPossible M25) (fun M29 => bd (F_X7_heardOnes M29) (fun r34 M34 => bdv (F_X7_lines r34 M34) (fun M37 => if (M37.1 43) ≤ 7 then F_X7_orders_57 fu x1 x2 0 1 M37 else some ((-4), M37)))))
def F_X7_orders (x1 : Int32) (x2 : Int32) (M : Mem) : Option (Int32 × Mem) := bd (F_X7_isLaw x1 M) (fun r1 M1 => if r1 = 0 then some ((-2), M1) else if x2 = (-1) then F_X7_orders_23 x1 x2 M1 else bd (F_X7_isWord x2 M1) (fun r14 M14 => if r14 = 0 then some ((-2), M14) else F_X7_orders_23 x1 x2 M14))
set_option maxHeartbeats 4000000 in
set_option maxRecDepth 100000 in
theorem b_X7_orders_89 {k57 : Int32 → Int32 → Int32 → Int32 → Mem → Option (Int32 × Mem)} {M0 : Mem} {r0 : Int32} (hC : SX p m c s args cX7_orders 5 RX7 G (AG G)) (hr : meth.sig.returnType = (some .int)) (hlk : meth.locks = false) (hn : ∀ i ∈ LsF, i ∈ gL G) (hk57 : ∀ (x1 : Int32) (x2 : Int32) (x3 : Int32) (x4 : Int32) (M : Mem) (H : Heap) (locs : List Loc) (ls : Array Slot), k57 x1 x2 x3 x4 M = some (r0, M0) → ST G (AG G) s M H locs → lv_has ls 5 [(0, .ref (G.1 61)), (1, .int x1), (2, .int x2), (3, .int x3), (4, .int x4)] → W p l e (RM 3 68) s m args below meth c H locs 0 0 (MQ below (QV G (some (.int r0)) M0) args s 0 0 (AG G)) (F0 m 57 ls [])) : ∀ (x1 : Int32) (x2 : Int32) (t0 : Int32) (t1 : Int32) (M : Mem) (H : Heap) (locs : List Loc) (ls : Array Slot), F_X7_orders_89 k57 x1 x2 t0 t1 M = some (r0, M0) → ST G (AG G) s M H locs → lv_has ls 5 [(0, .ref (G.1 61)), (1, .int x1), (2, .int x2)] → W p l e (RM 3 68) s m args below meth c H locs 0 0 (MQ below (QV G (some (.int r0)) M0) args s 0 0 (AG G)) (F0 m 89 ls [.int t1, .int t0]) := by
  obtain ⟨⟨hx, hb, hml, hown, hts⟩, hK, hG, hA⟩ := id hC
  intro x1 x2 t0 t1 M H locs ls hF hS hl
  unfold F_X7_orders_89 at hF
  refine lv_iadd hx hb dX7_orders_89 ?_
  refine lv_istore_n (lv' := [(3, .int (t0 + t1)), (0, .ref (G.1 61)), (1, .int x1), (2, .int x2)]) hx hb dX7_orders_90 rfl hl (by decide) rfl (fun ls hl => ?_)
  refine lv_aload_n hx hb dX7_orders_91 rfl (lv_at hl 1 rfl) ?_
  obtain ⟨r92, M92, h92, hF⟩ := bd_some hF
  refine cV_ (ci := 7) (i := 61) (C := RX7) (T := TX7) (N := 29) (As := []) (v := some (.int r92)) (rest := []) (st1 := [.int r92]) hC hS (hn _ (by decide)) rfl rfl (c_X7_turns l G hn M _ _ h92) kV_X7_turns lm_X7_183 ⟨Nat.le_of_ble_eq_true rfl, Nat.le_of_ble_eq_true rfl⟩ rfl hl.1 (Nat.le_of_ble_eq_true rfl) dX7_orders_92 ⟨Nat.le_refl _, Nat.le_refl _⟩ rfl (fun H locs hS => ?_)
  refine lv_istore (lv' := [(4, .int r92), (3, .int (t0 + t1)), (0, .ref (G.1 61)), (1, .int x1), (2, .int x2)]) hx hb dX7_orders_95 hl (by decide) rfl (fun ls hl => ?_)
  refine lv_goto (tgt := 57) hx hb dX7_orders_97 (by decide) ?_
  exact hk57 _ _ _ _ _ _ _ _ hF hS (lv_sub hl [2, 3, 4, 1, 0] rfl)
set_option maxHeartbeats 4000000 in
set_option maxRecDepth 100000 in
theorem b_X7_orders_84 {k57 : Int32 → Int32 → Int32 → Int32 → Mem → Option (Int32 × Mem)} {M0 : Mem} {r0 : Int32} (hC : SX p m c s args cX7_orders 5 RX7 G (AG G)) (hr : meth.sig.returnType = (some .int)) (hlk : meth.locks = false) (hn : ∀ i ∈ LsF, i ∈ gL G) (hk57 : ∀ (x1 : Int32) (x2 : Int32) (x3 : Int32) (x4 : Int32) (M : Mem) (H : Heap) (locs : List Loc) (ls : Array Slot), k57 x1 x2 x3 x4 M = some (r0, M0) → ST G (AG G) s M H locs → lv_has ls 5 [(0, .ref (G.1 61)), (1, .int x1), (2, .int x2), (3, .int x3), (4, .int x4)] → W p l e (RM 3 68) s m args below meth c H locs 0 0 (MQ below (QV G (some (.int r0)) M0) args s 0 0 (AG G)) (F0 m 57 ls [])) : ∀ (x1 : Int32) (x2 : Int32) (t0 : Int32) (M : Mem) (H : Heap) (locs : List Loc) (ls : Array Slot), F_X7_orders_84 k57 x1 x2 t0 M = some (r0, M0) → ST G (AG G) s M H locs → lv_has ls 5 [(0, .ref (G.1 61)), (1, .int x1), (2, .int x2)] → W p l e (RM 3 68) s m args below meth c H locs 0 0 (MQ below (QV G (some (.int r0)) M0) args s 0 0 (AG G)) (F0 m 84 ls [.int t0]) := by
  obtain ⟨⟨hx, hb, hml, hown, hts⟩, hK, hG, hA⟩ := id hC
  intro x1 x2 t0 M H locs ls hF hS hl
  unfold F_X7_orders_84 at hF
  refine lv_iconst (v := 1) hx hb dX7_orders_84 (by decide) ?_
  refine lv_goto (tgt := 89) hx hb dX7_orders_85 (by decide) ?_
  exact b_X7_orders_89 hC hr hlk hn hk57 _ _ _ _ _ _ _ _ hF hS (lv_sub hl [0, 1, 2] rfl)
set_option maxHeartbeats 4000000 in
set_option maxRecDepth 100000 in
theorem b_X7_orders_57 {M0 : Mem} {r0 : Int32} (hC : SX p m c s args cX7_orders 5 RX7 G (AG G)) (hr : meth.sig.returnType = (some .int)) (hlk : meth.locks = false) (hn : ∀ i ∈ LsF, i ∈ gL G) : ∀ (n : Nat) (x1 : Int32) (x2 : Int32) (x3 : Int32) (x4 : Int32) (M : Mem) (H : Heap) (locs : List Loc) (ls : Array Slot), F_X7_orders_57 n x1 x2 x3 x4 M = some (r0, M0) → ST G (AG G) s M H locs → lv_has ls 5 [(0, .ref (G.1 61)), (1, .int x1), (2, .int x2), (3, .int x3), (4, .int x4)] → W p l e (RM 3 68) s m args below meth c H locs 0 0 (MQ below (QV G (some (.int r0)) M0) args s 0 0 (AG G)) (F0 m 57 ls []) := by
  obtain ⟨⟨hx, hb, hml, hown, hts⟩, hK, hG, hA⟩ := id hC
  intro n
  induction n with
  | zero =>
    intro x1 x2 x3 x4 M H locs ls hF
    cases hF
  | succ n ih =>
    intro x1 x2 x3 x4 M H locs ls hF hS hl
    unfold F_X7_orders_57 at hF
    refine lv_iload hx hb dX7_orders_57 (lv_at hl 4 rfl) ?_
    refine lv_if_eq (tgt := 100) hx hb dX7_orders_59 (by decide) (fun hc => ?_) (fun hc => ?_)
    · rw [if_pos hc] at hF
      refine lv_iload_n hx hb dX7_orders_100 rfl (lv_at hl 3 rfl) ?_
      exact retI hC hS hr hlk hF dX7_orders_101
    · rw [if_neg hc] at hF
      refine lv_aload_n hx hb dX7_orders_62 rfl (lv_at hl 0 rfl) ?_
      refine lv_iload_n hx hb dX7_orders_63 rfl (lv_at hl 1 rfl) ?_
      obtain ⟨M64, h64, hF⟩ := bdv_some hF
      refine cV_ (ci := 7) (i := 61) (C := RX7) (T := TX7) (N := 29) (As := [.int x1]) (v := none) (rest := []) (st1 := []) hC hS (hn _ (by decide)) rfl rfl (c_X7_hears l G hn x1 M _ h64) kV_X7_hears lm_X7_168 ⟨Nat.le_of_ble_eq_true rfl, Nat.le_of_ble_eq_true rfl⟩ rfl hl.1 (Nat.le_of_ble_eq_true rfl) dX7_orders_64 ⟨Nat.le_refl _, Nat.le_refl _⟩ rfl (fun H locs hS => ?_)
      refine lv_iload_n hx hb dX7_orders_67 rfl (lv_at hl 3 rfl) ?_
      refine lv_iload_n hx hb dX7_orders_68 rfl (lv_at hl 2 rfl) ?_
      refine lv_iconst (v := (-1)) hx hb dX7_orders_69 (by decide) ?_
      refine lv_icmp_eq (tgt := 84) hx hb dX7_orders_70 (by decide) (fun hc => ?_) (fun hc => ?_)
      · rw [if_pos hc] at hF
        exact b_X7_orders_84 hC hr hlk hn ih _ _ _ _ _ _ _ hF hS (lv_sub hl [0, 1, 2] rfl)
      · rw [if_neg hc] at hF
        refine lv_aload_n hx hb dX7_orders_73 rfl (lv_at hl 0 rfl) ?_
        refine gx (ci := 7) (k := 16) (v := .int (M64.1 44)) (C := RX7) (T := TX7) (N := 29) hC hS (hn _ (by decide)) rfl rfl in_X7 (by decide) rfl rfl lf_X7_136 dX7_orders_74 ?_
        refine lv_iload_n hx hb dX7_orders_77 rfl (lv_at hl 2 rfl) ?_
        obtain ⟨r78, M78, h78, hF⟩ := bd_some hF
        refine cS_ (As := [.int (M64.1 44), .int x2]) (v := some (.int r78)) (rest := [.int x3]) (st1 := [.int r78, .int x3]) hC hS (c_X7_has l G hn (M64.1 44) x2 M64 _ _ h78) kS_X7_has lm_X7_151 ⟨Nat.le_of_ble_eq_true rfl, Nat.le_of_ble_eq_true rfl⟩ rfl hl.1 (Nat.le_of_ble_eq_true rfl) dX7_orders_78 ⟨Nat.le_refl _, Nat.le_refl _⟩ rfl (fun H locs hS => ?_)
        refine lv_if_eq (tgt := 88) hx hb dX7_orders_81 (by decide) (fun hc => ?_) (fun hc => ?_)
        · rw [if_pos hc] at hF
          refine lv_iconst (v := 0) hx hb dX7_orders_88 (by decide) ?_
          exact b_X7_orders_89 hC hr hlk hn ih _ _ _ _ _ _ _ _ hF hS (lv_sub hl [0, 1, 2] rfl)
        · rw [if_neg hc] at hF
          exact b_X7_orders_84 hC hr hlk hn ih _ _ _ _ _ _ _ hF hS (lv_sub hl [0, 1, 2] rfl)
set_option maxHeartbeats 4000000 in
set_option maxRecDepth 100000 in
theorem b_X7_orders_23 {M0 : Mem} {r0 : Int32} (hC : SX p m c s args cX7_orders 5 RX7 G (AG G)) (hr : meth.sig.returnType = (some .int)) (hlk : meth.locks = false) (hn : ∀ i ∈ LsF, i ∈ gL G) : ∀ (x1 : Int32) (x2 : Int32) (M : Mem) (H : Heap) (locs : List Loc) (ls : Array Slot), F_X7_orders_23 x1 x2 M = some (r0, M0) → ST G (AG G) s M H locs → lv_has ls 5 [(0, .ref (G.1 61)), (1, .int x1), (2, .int x2)] → W p l e (RM 3 68) s m args below meth c H locs 0 0 (MQ below (QV G (some (.int r0)) M0) args s 0 0 (AG G)) (F0 m 23 ls []) := by
  obtain ⟨⟨hx, hb, hml, hown, hts⟩, hK, hG, hA⟩ := id hC
  intro x1 x2 M H locs ls hF hS hl
  unfold F_X7_orders_23 at hF
  refine lv_aload_n hx hb dX7_orders_23 rfl (lv_at hl 0 rfl) ?_
  refine lv_iload_n hx hb dX7_orders_24 rfl (lv_at hl 1 rfl) ?_
  obtain ⟨M25, h25, hF⟩ := bdv_some hF
  refine cV_ (ci := 7) (i := 61) (C := RX7) (T := TX7) (N := 29) (As := [.int x1]) (v := none) (rest := []) (st1 := []) hC hS (hn _ (by decide)) rfl rfl (c_X7_reads l G hn x1 M _ h25) kV_X7_reads lm_X7_133 ⟨Nat.le_of_ble_eq_true rfl, Nat.le_of_ble_eq_true rfl⟩ rfl hl.1 (Nat.le_of_ble_eq_true rfl) dX7_orders_25 ⟨Nat.le_refl _, Nat.le_refl _⟩ rfl (fun H locs hS => ?_)
  refine lv_aload_n hx hb dX7_orders_28 rfl (lv_at hl 0 rfl) ?_
  obtain ⟨M29, h29, hF⟩ := bdv_some hF
  refine cV_ (ci := 7) (i := 61) (C := RX7) (T := TX7) (N := 29) (As := []) (v := none) (rest := []) (st1 := []) hC hS (hn _ (by decide)) rfl rfl (c_X7_laysPossible l G hn M25 _ h29) kV_X7_laysPossible lm_X7_114 ⟨Nat.le_of_ble_eq_true rfl, Nat.le_of_ble_eq_true rfl⟩ rfl hl.1 (Nat.le_of_ble_eq_true rfl) dX7_orders_29 ⟨Nat.le_refl _, Nat.le_refl _⟩ rfl (fun H locs hS => ?_)
  refine lv_aload_n hx hb dX7_orders_32 rfl (lv_at hl 0 rfl) ?_
  refine lv_aload_n hx hb dX7_orders_33 rfl (lv_at hl 0 rfl) ?_
  obtain ⟨r34, M34, h34, hF⟩ := bd_some hF
  refine cV_ (ci := 7) (i := 61) (C := RX7) (T := TX7) (N := 29) (As := []) (v := some (.int r34)) (rest := [.ref (G.1 61)]) (st1 := [.int r34, .ref (G.1 61)]) hC hS (hn _ (by decide)) rfl rfl (c_X7_heardOnes l G hn M29 _ _ h34) kV_X7_heardOnes lm_X7_162 ⟨Nat.le_of_ble_eq_true rfl, Nat.le_of_ble_eq_true rfl⟩ rfl hl.1 (Nat.le_of_ble_eq_true rfl) dX7_orders_34 ⟨Nat.le_refl _, Nat.le_refl _⟩ rfl (fun H locs hS => ?_)
  obtain ⟨M37, h37, hF⟩ := bdv_some hF
  refine cV_ (ci := 7) (i := 61) (C := RX7) (T := TX7) (N := 29) (As := [.int r34]) (v := none) (rest := []) (st1 := []) hC hS (hn _ (by decide)) rfl rfl (c_X7_lines l G hn r34 M34 _ h37) kV_X7_lines lm_X7_165 ⟨Nat.le_of_ble_eq_true rfl, Nat.le_of_ble_eq_true rfl⟩ rfl hl.1 (Nat.le_of_ble_eq_true rfl) dX7_orders_37 ⟨Nat.le_refl _, Nat.le_refl _⟩ rfl (fun H locs hS => ?_)
  refine lv_aload_n hx hb dX7_orders_40 rfl (lv_at hl 0 rfl) ?_
  refine gx (ci := 7) (k := 15) (v := .int (M37.1 43)) (C := RX7) (T := TX7) (N := 29) hC hS (hn _ (by decide)) rfl rfl in_X7 (by decide) rfl rfl lf_X7_145 dX7_orders_41 ?_
  refine lv_bipush (v := 7) hx hb dX7_orders_44 (by decide) ?_
  refine lv_icmp_le (tgt := 52) hx hb dX7_orders_46 (by decide) (fun hc => ?_) (fun hc => ?_)
  · rw [if_pos hc] at hF
    refine lv_iconst (v := 0) hx hb dX7_orders_52 (by decide) ?_
    refine lv_istore_n (lv' := [(3, .int 0), (0, .ref (G.1 61)), (1, .int x1), (2, .int x2)]) hx hb dX7_orders_53 rfl hl (by decide) rfl (fun ls hl => ?_)
    refine lv_iconst (v := 1) hx hb dX7_orders_54 (by decide) ?_
    refine lv_istore (lv' := [(4, .int 1), (3, .int 0), (0, .ref (G.1 61)), (1, .int x1), (2, .int x2)]) hx hb dX7_orders_55 hl (by decide) rfl (fun ls hl => ?_)
    exact b_X7_orders_57 hC hr hlk hn fu _ _ _ _ _ _ _ _ hF hS (lv_sub hl [2, 3, 4, 1, 0] rfl)
  · rw [if_neg hc] at hF
    refine lv_bipush (v := (-4)) hx hb dX7_orders_49 (by decide) ?_
    exact retI hC hS hr hlk hF dX7_orders_51
set_option maxHeartbeats 4000000 in
set_option maxRecDepth 100000 in
theorem b_X7_orders {M0 : Mem} {r0 : Int32} (hC : SX p m c s args cX7_orders 5 RX7 G (AG G)) (hr : meth.sig.returnType = (some .int)) (hlk : meth.locks = false) (hn : ∀ i ∈ LsF, i ∈ gL G) : ∀ (x1 : Int32) (x2 : Int32) (M : Mem) (H : Heap) (locs : List Loc) (ls : Array Slot), F_X7_orders x1 x2 M = some (r0, M0) → ST G (AG G) s M H locs → lv_has ls 5 [(0, .ref (G.1 61)), (1, .int x1), (2, .int x2)] → W p l e (RM 3 68) s m args below meth c H locs 0 0 (MQ below (QV G (some (.int r0)) M0) args s 0 0 (AG G)) (F0 m 0 ls []) := by
  obtain ⟨⟨hx, hb, hml, hown, hts⟩, hK, hG, hA⟩ := id hC
  intro x1 x2 M H locs ls hF hS hl
  unfold F_X7_orders at hF
  refine lv_iload_n hx hb dX7_orders_0 rfl (lv_at hl 1 rfl) ?_
  obtain ⟨r1, M1, h1, hF⟩ := bd_some hF
  refine cS_ (As := [.int x1]) (v := some (.int r1)) (rest := []) (st1 := [.int r1]) hC hS (c_X7_isLaw l G hn x1 M _ _ h1) kS_X7_isLaw lm_X7_120 ⟨Nat.le_of_ble_eq_true rfl, Nat.le_of_ble_eq_true rfl⟩ rfl hl.1 (Nat.le_of_ble_eq_true rfl) dX7_orders_1 ⟨Nat.le_refl _, Nat.le_refl _⟩ rfl (fun H locs hS => ?_)
  refine lv_if_eq (tgt := 20) hx hb dX7_orders_4 (by decide) (fun hc => ?_) (fun hc => ?_)
  · rw [if_pos hc] at hF
    refine lv_bipush (v := (-2)) hx hb dX7_orders_20 (by decide) ?_
    exact retI hC hS hr hlk hF dX7_orders_22
  · rw [if_neg hc] at hF
    refine lv_iload_n hx hb dX7_orders_7 rfl (lv_at hl 2 rfl) ?_
    refine lv_iconst (v := (-1)) hx hb dX7_orders_8 (by decide) ?_
    refine lv_icmp_eq (tgt := 23) hx hb dX7_orders_9 (by decide) (fun hc => ?_) (fun hc => ?_)
    · rw [if_pos hc] at hF
      exact b_X7_orders_23 hC hr hlk hn _ _ _ _ _ _ hF hS (lv_sub hl [0, 1, 2] rfl)
    · rw [if_neg hc] at hF
      refine lv_aload_n hx hb dX7_orders_12 rfl (lv_at hl 0 rfl) ?_
      refine lv_iload_n hx hb dX7_orders_13 rfl (lv_at hl 2 rfl) ?_
      obtain ⟨r14, M14, h14, hF⟩ := bd_some hF
      refine cV_ (ci := 7) (i := 61) (C := RX7) (T := TX7) (N := 29) (As := [.int x2]) (v := some (.int r14)) (rest := []) (st1 := [.int r14]) hC hS (hn _ (by decide)) rfl rfl (c_X7_isWord l G hn x2 M1 _ _ h14) kV_X7_isWord lm_X7_111 ⟨Nat.le_of_ble_eq_true rfl, Nat.le_of_ble_eq_true rfl⟩ rfl hl.1 (Nat.le_of_ble_eq_true rfl) dX7_orders_14 ⟨Nat.le_refl _, Nat.le_refl _⟩ rfl (fun H locs hS => ?_)
      refine lv_if_ne (tgt := 23) hx hb dX7_orders_17 (by decide) (fun hc => ?_) (fun hc => ?_)
      · rw [if_neg hc] at hF
        exact b_X7_orders_23 hC hr hlk hn _ _ _ _ _ _ hF hS (lv_sub hl [0, 1, 2] rfl)
      · rw [if_pos hc] at hF
        refine lv_bipush (v := (-2)) hx hb dX7_orders_20 (by decide) ?_
        exact retI hC hS hr hlk hF dX7_orders_22
set_option maxRecDepth 100000 in
theorem c_X7_orders (l : Launch) (G : GT) (hn : ∀ i ∈ LsF, i ∈ gL G) (x1 : Int32) (x2 : Int32) (M : Mem) (r0 : Int32) (M0 : Mem) (hF : F_X7_orders x1 x2 M = some (r0, M0)) : MetG l G yX7_orders cX7_orders 5 (some .int) 3 68 [.ref (G.1 61), .int x1, .int x2] M (some (.int r0)) M0 := by
  refine MetG.of (by decide) (Nat.le_of_ble_eq_true rfl) ?_
  intro p e s m args below meth c hC hr hlk hnm ls hS hl
  exact b_X7_orders hC hr hlk hn _ _ _ _ _ _ hF hS hl
def F_X7_hits_82 (M : Mem) : Option (Int32 × Mem) := some (1, M)
def F_X7_hits_86 (M : Mem) : Option (Int32 × Mem) := some (0, M)
def F_X7_hits_70 (x3 : Int32) (x4 : Int32) (x5 : Int32) (M : Mem) : Option (Int32 × Mem) := if x3 = 2 then if x4 < x5 then F_X7_hits_86 M else F_X7_hits_82 M else F_X7_hits_86 M
def F_X7_hits_23 (x1 : Int32) (x2 : Int32) (x3 : Int32) (M : Mem) : Option (Int32 × Mem) := bd (F_X7_quarrel x1 x2 M) (fun r26 M26 => if r26 = 0 then some (0, M26) else ckb (ix x1 10) (bd (F_X7_ones (M26.2 25 x1.toNatClampNeg) M26) (fun r40 M40 => ckb (ix x2 10) (bd (F_X7_ones (M40.2 25 x2.toNatClampNeg) M40) (fun r51 M51 => if x3 = 0 then F_X7_hits_82 M51 else if x3 = 1 then if x1 < x2 then F_X7_hits_82 M51 else F_X7_hits_70 x3 r40 r51 M51 else F_X7_hits_70 x3 r40 r51 M51)))))
def F_X7_hits (x1 : Int32) (x2 : Int32) (x3 : Int32) (M : Mem) : Option (Int32 × Mem) := bd (F_X7_has (M.1 42) x1 M) (fun r5 M5 => if r5 = 0 then F_X7_hits_23 x1 x2 x3 M5 else ckb (ix x1 10) (if (M5.2 28 x1.toNatClampNeg) = x2 then some (1, M5) else F_X7_hits_23 x1 x2 x3 M5))
set_option maxHeartbeats 4000000 in
set_option maxRecDepth 100000 in
theorem b_X7_hits_82 {M0 : Mem} {r0 : Int32} (hC : SX p m c s args cX7_hits 6 RX7 G (AG G)) (hr : meth.sig.returnType = (some .boolean)) (hlk : meth.locks = false) (hn : ∀ i ∈ LsF, i ∈ gL G) : ∀ (M : Mem) (H : Heap) (locs : List Loc) (ls : Array Slot), F_X7_hits_82 M = some (r0, M0) → ST G (AG G) s M H locs → lv_has ls 6 [] → W p l e (RM 1 22) s m args below meth c H locs 0 0 (MQ below (QV G (some (.int r0)) M0) args s 0 0 (AG G)) (F0 m 82 ls []) := by
  obtain ⟨⟨hx, hb, hml, hown, hts⟩, hK, hG, hA⟩ := id hC
  intro M H locs ls hF hS hl
  unfold F_X7_hits_82 at hF
  refine lv_iconst (v := 1) hx hb dX7_hits_82 (by decide) ?_
  refine lv_goto (tgt := 87) hx hb dX7_hits_83 (by decide) ?_
  exact retZ hC hS hr hlk rfl hF dX7_hits_87
set_option maxHeartbeats 4000000 in
set_option maxRecDepth 100000 in
theorem b_X7_hits_86 {M0 : Mem} {r0 : Int32} (hC : SX p m c s args cX7_hits 6 RX7 G (AG G)) (hr : meth.sig.returnType = (some .boolean)) (hlk : meth.locks = false) (hn : ∀ i ∈ LsF, i ∈ gL G) : ∀ (M : Mem) (H : Heap) (locs : List Loc) (ls : Array Slot), F_X7_hits_86 M = some (r0, M0) → ST G (AG G) s M H locs → lv_has ls 6 [] → W p l e (RM 1 22) s m args below meth c H locs 0 0 (MQ below (QV G (some (.int r0)) M0) args s 0 0 (AG G)) (F0 m 86 ls []) := by
  obtain ⟨⟨hx, hb, hml, hown, hts⟩, hK, hG, hA⟩ := id hC
  intro M H locs ls hF hS hl
  unfold F_X7_hits_86 at hF
  refine lv_iconst (v := 0) hx hb dX7_hits_86 (by decide) ?_
  exact retZ hC hS hr hlk rfl hF dX7_hits_87
set_option maxHeartbeats 4000000 in
set_option maxRecDepth 100000 in
theorem b_X7_hits_70 {M0 : Mem} {r0 : Int32} (hC : SX p m c s args cX7_hits 6 RX7 G (AG G)) (hr : meth.sig.returnType = (some .boolean)) (hlk : meth.locks = false) (hn : ∀ i ∈ LsF, i ∈ gL G) : ∀ (x3 : Int32) (x4 : Int32) (x5 : Int32) (M : Mem) (H : Heap) (locs : List Loc) (ls : Array Slot), F_X7_hits_70 x3 x4 x5 M = some (r0, M0) → ST G (AG G) s M H locs → lv_has ls 6 [(3, .int x3), (4, .int x4), (5, .int x5)] → W p l e (RM 1 22) s m args below meth c H locs 0 0 (MQ below (QV G (some (.int r0)) M0) args s 0 0 (AG G)) (F0 m 70 ls []) := by
  obtain ⟨⟨hx, hb, hml, hown, hts⟩, hK, hG, hA⟩ := id hC
  intro x3 x4 x5 M H locs ls hF hS hl
  unfold F_X7_hits_70 at hF
  refine lv_iload_n hx hb dX7_hits_70 rfl (lv_at hl 0 rfl) ?_
  refine lv_iconst (v := 2) hx hb dX7_hits_71 (by decide) ?_
  refine lv_icmp_ne (tgt := 86) hx hb dX7_hits_72 (by decide) (fun hc => ?_) (fun hc => ?_)
  · rw [if_neg hc] at hF
    exact b_X7_hits_86 hC hr hlk hn _ _ _ _ hF hS (lv_sub hl [] rfl)
  · rw [if_pos hc] at hF
    refine lv_iload hx hb dX7_hits_75 (lv_at hl 1 rfl) ?_
    refine lv_iload hx hb dX7_hits_77 (lv_at hl 2 rfl) ?_
    refine lv_icmp_lt (tgt := 86) hx hb dX7_hits_79 (by decide) (fun hc => ?_) (fun hc => ?_)
    · rw [if_pos hc] at hF
      exact b_X7_hits_86 hC hr hlk hn _ _ _ _ hF hS (lv_sub hl [] rfl)
    · rw [if_neg hc] at hF
      exact b_X7_hits_82 hC hr hlk hn _ _ _ _ hF hS (lv_sub hl [] rfl)
set_option maxHeartbeats 4000000 in
set_option maxRecDepth 100000 in
theorem b_X7_hits_23 {M0 : Mem} {r0 : Int32} (hC : SX p m c s args cX7_hits 6 RX7 G (AG G)) (hr : meth.sig.returnType = (some .boolean)) (hlk : meth.locks = false) (hn : ∀ i ∈ LsF, i ∈ gL G) : ∀ (x1 : Int32) (x2 : Int32) (x3 : Int32) (M : Mem) (H : Heap) (locs : List Loc) (ls : Array Slot), F_X7_hits_23 x1 x2 x3 M = some (r0, M0) → ST G (AG G) s M H locs → lv_has ls 6 [(0, .ref (G.1 61)), (1, .int x1), (2, .int x2), (3, .int x3)] → W p l e (RM 1 22) s m args below meth c H locs 0 0 (MQ below (QV G (some (.int r0)) M0) args s 0 0 (AG G)) (F0 m 23 ls []) := by
  obtain ⟨⟨hx, hb, hml, hown, hts⟩, hK, hG, hA⟩ := id hC
  intro x1 x2 x3 M H locs ls hF hS hl
  unfold F_X7_hits_23 at hF
  refine lv_aload_n hx hb dX7_hits_23 rfl (lv_at hl 0 rfl) ?_
  refine lv_iload_n hx hb dX7_hits_24 rfl (lv_at hl 1 rfl) ?_
  refine lv_iload_n hx hb dX7_hits_25 rfl (lv_at hl 2 rfl) ?_
  obtain ⟨r26, M26, h26, hF⟩ := bd_some hF
  refine cV_ (ci := 7) (i := 61) (C := RX7) (T := TX7) (N := 29) (As := [.int x1, .int x2]) (v := some (.int r26)) (rest := []) (st1 := [.int r26]) hC hS (hn _ (by decide)) rfl rfl (c_X7_quarrel l G hn x1 x2 M _ _ h26) kV_X7_quarrel lm_X7_155 ⟨Nat.le_of_ble_eq_true rfl, Nat.le_of_ble_eq_true rfl⟩ rfl hl.1 (Nat.le_of_ble_eq_true rfl) dX7_hits_26 ⟨Nat.le_refl _, Nat.le_refl _⟩ rfl (fun H locs hS => ?_)
  refine lv_if_ne (tgt := 34) hx hb dX7_hits_29 (by decide) (fun hc => ?_) (fun hc => ?_)
  · rw [if_neg hc] at hF
    refine lv_aload_n hx hb dX7_hits_34 rfl (lv_at hl 0 rfl) ?_
    refine gx (ci := 7) (k := 4) (v := .ref (G.1 25)) (C := RX7) (T := TX7) (N := 29) hC hS (hn _ (by decide)) rfl rfl in_X7 (by decide) rfl rfl lf_X7_19 dX7_hits_35 ?_
    refine lv_iload_n hx hb dX7_hits_38 rfl (lv_at hl 1 rfl) ?_
    obtain ⟨hi, hF⟩ := ckb_some hF
    refine ald hC hS (hn _ (by decide)) (by decide) rfl hi dX7_hits_39 ?_
    obtain ⟨r40, M40, h40, hF⟩ := bd_some hF
    refine cS_ (As := [.int (M26.2 25 x1.toNatClampNeg)]) (v := some (.int r40)) (rest := []) (st1 := [.int r40]) hC hS (c_X7_ones l G hn (M26.2 25 x1.toNatClampNeg) M26 _ _ h40) kS_X7_ones lm_X7_148 ⟨Nat.le_of_ble_eq_true rfl, Nat.le_of_ble_eq_true rfl⟩ rfl hl.1 (Nat.le_of_ble_eq_true rfl) dX7_hits_40 ⟨Nat.le_refl _, Nat.le_refl _⟩ rfl (fun H locs hS => ?_)
    refine lv_istore (lv' := [(4, .int r40), (0, .ref (G.1 61)), (1, .int x1), (2, .int x2), (3, .int x3)]) hx hb dX7_hits_43 hl (by decide) rfl (fun ls hl => ?_)
    refine lv_aload_n hx hb dX7_hits_45 rfl (lv_at hl 1 rfl) ?_
    refine gx (ci := 7) (k := 4) (v := .ref (G.1 25)) (C := RX7) (T := TX7) (N := 29) hC hS (hn _ (by decide)) rfl rfl in_X7 (by decide) rfl rfl lf_X7_19 dX7_hits_46 ?_
    refine lv_iload_n hx hb dX7_hits_49 rfl (lv_at hl 3 rfl) ?_
    obtain ⟨hi, hF⟩ := ckb_some hF
    refine ald hC hS (hn _ (by decide)) (by decide) rfl hi dX7_hits_50 ?_
    obtain ⟨r51, M51, h51, hF⟩ := bd_some hF
    refine cS_ (As := [.int (M40.2 25 x2.toNatClampNeg)]) (v := some (.int r51)) (rest := []) (st1 := [.int r51]) hC hS (c_X7_ones l G hn (M40.2 25 x2.toNatClampNeg) M40 _ _ h51) kS_X7_ones lm_X7_148 ⟨Nat.le_of_ble_eq_true rfl, Nat.le_of_ble_eq_true rfl⟩ rfl hl.1 (Nat.le_of_ble_eq_true rfl) dX7_hits_51 ⟨Nat.le_refl _, Nat.le_refl _⟩ rfl (fun H locs hS => ?_)
    refine lv_istore (lv' := [(5, .int r51), (4, .int r40), (0, .ref (G.1 61)), (1, .int x1), (2, .int x2), (3, .int x3)]) hx hb dX7_hits_54 hl (by decide) rfl (fun ls hl => ?_)
    refine lv_iload_n hx hb dX7_hits_56 rfl (lv_at hl 5 rfl) ?_
    refine lv_if_eq (tgt := 82) hx hb dX7_hits_57 (by decide) (fun hc => ?_) (fun hc => ?_)
    · rw [if_pos hc] at hF
      exact b_X7_hits_82 hC hr hlk hn _ _ _ _ hF hS (lv_sub hl [] rfl)
    · rw [if_neg hc] at hF
      refine lv_iload_n hx hb dX7_hits_60 rfl (lv_at hl 5 rfl) ?_
      refine lv_iconst (v := 1) hx hb dX7_hits_61 (by decide) ?_
      refine lv_icmp_ne (tgt := 70) hx hb dX7_hits_62 (by decide) (fun hc => ?_) (fun hc => ?_)
      · rw [if_neg hc] at hF
        exact b_X7_hits_70 hC hr hlk hn _ _ _ _ _ _ _ hF hS (lv_sub hl [5, 1, 0] rfl)
      · rw [if_pos hc] at hF
        refine lv_iload_n hx hb dX7_hits_65 rfl (lv_at hl 3 rfl) ?_
        refine lv_iload_n hx hb dX7_hits_66 rfl (lv_at hl 4 rfl) ?_
        refine lv_icmp_lt (tgt := 82) hx hb dX7_hits_67 (by decide) (fun hc => ?_) (fun hc => ?_)
        · rw [if_pos hc] at hF
          exact b_X7_hits_82 hC hr hlk hn _ _ _ _ hF hS (lv_sub hl [] rfl)
        · rw [if_neg hc] at hF
          exact b_X7_hits_70 hC hr hlk hn _ _ _ _ _ _ _ hF hS (lv_sub hl [5, 1, 0] rfl)
  · rw [if_pos hc] at hF
    refine lv_iconst (v := 0) hx hb dX7_hits_32 (by decide) ?_
    exact retZ hC hS hr hlk rfl hF dX7_hits_33
set_option maxHeartbeats 4000000 in
set_option maxRecDepth 100000 in
theorem b_X7_hits {M0 : Mem} {r0 : Int32} (hC : SX p m c s args cX7_hits 6 RX7 G (AG G)) (hr : meth.sig.returnType = (some .boolean)) (hlk : meth.locks = false) (hn : ∀ i ∈ LsF, i ∈ gL G) : ∀ (x1 : Int32) (x2 : Int32) (x3 : Int32) (M : Mem) (H : Heap) (locs : List Loc) (ls : Array Slot), F_X7_hits x1 x2 x3 M = some (r0, M0) → ST G (AG G) s M H locs → lv_has ls 6 [(0, .ref (G.1 61)), (1, .int x1), (2, .int x2), (3, .int x3)] → W p l e (RM 1 22) s m args below meth c H locs 0 0 (MQ below (QV G (some (.int r0)) M0) args s 0 0 (AG G)) (F0 m 0 ls []) := by
  obtain ⟨⟨hx, hb, hml, hown, hts⟩, hK, hG, hA⟩ := id hC
  intro x1 x2 x3 M H locs ls hF hS hl
  unfold F_X7_hits at hF
  refine lv_aload_n hx hb dX7_hits_0 rfl (lv_at hl 0 rfl) ?_
  refine gx (ci := 7) (k := 9) (v := .int (M.1 42)) (C := RX7) (T := TX7) (N := 29) hC hS (hn _ (by decide)) rfl rfl in_X7 (by decide) rfl rfl lf_X7_104 dX7_hits_1 ?_
  refine lv_iload_n hx hb dX7_hits_4 rfl (lv_at hl 1 rfl) ?_
  obtain ⟨r5, M5, h5, hF⟩ := bd_some hF
  refine cS_ (As := [.int (M.1 42), .int x1]) (v := some (.int r5)) (rest := []) (st1 := [.int r5]) hC hS (c_X7_has l G hn (M.1 42) x1 M _ _ h5) kS_X7_has lm_X7_151 ⟨Nat.le_of_ble_eq_true rfl, Nat.le_of_ble_eq_true rfl⟩ rfl hl.1 (Nat.le_of_ble_eq_true rfl) dX7_hits_5 ⟨Nat.le_refl _, Nat.le_refl _⟩ rfl (fun H locs hS => ?_)
  refine lv_if_eq (tgt := 23) hx hb dX7_hits_8 (by decide) (fun hc => ?_) (fun hc => ?_)
  · rw [if_pos hc] at hF
    exact b_X7_hits_23 hC hr hlk hn _ _ _ _ _ _ _ hF hS (lv_sub hl [0, 1, 2, 3] rfl)
  · rw [if_neg hc] at hF
    refine lv_aload_n hx hb dX7_hits_11 rfl (lv_at hl 0 rfl) ?_
    refine gx (ci := 7) (k := 7) (v := .ref (G.1 28)) (C := RX7) (T := TX7) (N := 29) hC hS (hn _ (by decide)) rfl rfl in_X7 (by decide) rfl rfl lf_X7_28 dX7_hits_12 ?_
    refine lv_iload_n hx hb dX7_hits_15 rfl (lv_at hl 1 rfl) ?_
    obtain ⟨hi, hF⟩ := ckb_some hF
    refine ald hC hS (hn _ (by decide)) (by decide) rfl hi dX7_hits_16 ?_
    refine lv_iload_n hx hb dX7_hits_17 rfl (lv_at hl 2 rfl) ?_
    refine lv_icmp_ne (tgt := 23) hx hb dX7_hits_18 (by decide) (fun hc => ?_) (fun hc => ?_)
    · rw [if_neg hc] at hF
      exact b_X7_hits_23 hC hr hlk hn _ _ _ _ _ _ _ hF hS (lv_sub hl [0, 1, 2, 3] rfl)
    · rw [if_pos hc] at hF
      refine lv_iconst (v := 1) hx hb dX7_hits_21 (by decide) ?_
      exact retZ hC hS hr hlk rfl hF dX7_hits_22
set_option maxRecDepth 100000 in
theorem c_X7_hits (l : Launch) (G : GT) (hn : ∀ i ∈ LsF, i ∈ gL G) (x1 : Int32) (x2 : Int32) (x3 : Int32) (M : Mem) (r0 : Int32) (M0 : Mem) (hF : F_X7_hits x1 x2 x3 M = some (r0, M0)) : MetG l G yX7_hits cX7_hits 6 (some .boolean) 1 22 [.ref (G.1 61), .int x1, .int x2, .int x3] M (some (.int r0)) M0 := by
  refine MetG.of (by decide) (Nat.le_of_ble_eq_true rfl) ?_
  intro p e s m args below meth c hC hr hlk hnm ls hS hl
  exact b_X7_hits hC hr hlk hn _ _ _ _ _ _ _ hF hS hl
def F_X7_meetsAll_137 (k76 : Int32 → Int32 → Mem → Option Mem) (k94 : Int32 → Int32 → Int32 → Mem → Option Mem) (x1 : Int32) (x3 : Int32) (x4 : Int32) (t0 : Int32) (M : Mem) : Option Mem := ckb (ix x3 10) (if t0 = 0 then ckb (ix x3 10) (k94 x1 x3 (x4 + 1) (sa M 34 x3.toNatClampNeg ((M.2 34 x3.toNatClampNeg) ||| 0))) else ckb (ix ((4 * x1) + 1) 8) (bd (F_X7_hits x4 x3 (M.2 32 ((4 * x1) + 1).toNatClampNeg) M) (fun r165 M165 => if r165 = 0 then ckb (ix x3 10) (k94 x1 x3 (x4 + 1) (sa M165 34 x3.toNatClampNeg ((M.2 34 x3.toNatClampNeg) ||| 0))) else ckb (ix x3 10) (k94 x1 x3 (x4 + 1) (sa M165 34 x3.toNatClampNeg ((M.2 34 x3.toNatClampNeg) ||| ((1 : Int32) <<< (x4 &&& 31))))))))
def F_X7_meetsAll_136 (k76 : Int32 → Int32 → Mem → Option Mem) (k94 : Int32 → Int32 → Int32 → Mem → Option Mem) (x1 : Int32) (x3 : Int32) (x4 : Int32) (M : Mem) : Option Mem := F_X7_meetsAll_137 k76 k94 x1 x3 x4 0 M
def F_X7_meetsAll_94 (k76 : Int32 → Int32 → Mem → Option Mem) : Nat → Int32 → Int32 → Int32 → Mem → Option Mem
  | 0, _, _, _, _ => none
  | n + 1, x1, x3, x4, M => if (M.1 40) ≤ x4 then k76 x1 (x3 + 1) M else if x4 = x3 then F_X7_meetsAll_136 k76 (F_X7_meetsAll_94 k76 n) x1 x3 x4 M else bd (F_X7_has (M.1 47) x3 M) (fun r114 M114 => if r114 = 0 then F_X7_meetsAll_136 k76 (F_X7_meetsAll_94 k76 n) x1 x3 x4 M114 else bd (F_X7_has (M114.1 47) x4 M114) (fun r126 M126 => if r126 = 0 then F_X7_meetsAll_136 k76 (F_X7_meetsAll_94 k76 n) x1 x3 x4 M126 else F_X7_meetsAll_137 k76 (F_X7_meetsAll_94 k76 n) x1 x3 x4 1 M126))
def F_X7_meetsAll_76 : Nat → Int32 → Int32 → Mem → Option Mem
  | 0, _, _, _ => none
  | n + 1, x1, x3, M => if (M.1 40) ≤ x3 then some M else ckb (ix x3 10) (F_X7_meetsAll_94 (F_X7_meetsAll_76 n) fu x1 x3 0 (sa M 34 x3.toNatClampNeg 0))
def F_X7_meetsAll_16 : Nat → Int32 → Int32 → Int32 → Mem → Option Mem
  | 0, _, _, _, _ => none
  | n + 1, x1, x2, x3, M => if (M.1 40) ≤ x3 then F_X7_meetsAll_76 fu x1 0 M else bd (F_X7_has x2 x3 M) (fun r31 M31 => if r31 = 0 then F_X7_meetsAll_16 n x1 x2 (x3 + 1) (sv M31 47 ((M.1 47) ||| 0)) else ckb (ix x3 10) (bd (F_X7_ones (M31.2 25 x3.toNatClampNeg) M31) (fun r43 M43 => ckb (ix (4 * x1) 8) (if r43 < (M43.2 32 (4 * x1).toNatClampNeg) then F_X7_meetsAll_16 n x1 x2 (x3 + 1) (sv M43 47 ((M.1 47) ||| 0)) else F_X7_meetsAll_16 n x1 x2 (x3 + 1) (sv M43 47 ((M.1 47) ||| ((1 : Int32) <<< (x3 &&& 31))))))))
def F_X7_meetsAll (x1 : Int32) (x2 : Int32) (M : Mem) : Option Mem := bdv (F_X7_reads x1 M) (fun M2 => bdv (F_X7_laysPossible M2) (fun M6 => F_X7_meetsAll_16 fu x1 x2 0 (sv M6 47 0)))
set_option maxHeartbeats 4000000 in
set_option maxRecDepth 100000 in
theorem b_X7_meetsAll_137 {k76 : Int32 → Int32 → Mem → Option Mem} {k94 : Int32 → Int32 → Int32 → Mem → Option Mem} {M0 : Mem} (hC : SX p m c s args cX7_meetsAll 6 RX7 G (AG G)) (hr : meth.sig.returnType = none) (hlk : meth.locks = false) (hn : ∀ i ∈ LsF, i ∈ gL G) (hk76 : ∀ (x1 : Int32) (x3 : Int32) (M : Mem) (H : Heap) (locs : List Loc) (ls : Array Slot), k76 x1 x3 M = some M0 → ST G (AG G) s M H locs → lv_has ls 6 [(0, .ref (G.1 61)), (1, .int x1), (3, .int x3)] → W p l e (RM 3 68) s m args below meth c H locs 0 0 (MQ below (QV G none M0) args s 0 0 (AG G)) (F0 m 76 ls [])) (hk94 : ∀ (x1 : Int32) (x3 : Int32) (x4 : Int32) (M : Mem) (H : Heap) (locs : List Loc) (ls : Array Slot), k94 x1 x3 x4 M = some M0 → ST G (AG G) s M H locs → lv_has ls 6 [(0, .ref (G.1 61)), (1, .int x1), (3, .int x3), (4, .int x4)] → W p l e (RM 3 68) s m args below meth c H locs 0 0 (MQ below (QV G none M0) args s 0 0 (AG G)) (F0 m 94 ls [])) : ∀ (x1 : Int32) (x3 : Int32) (x4 : Int32) (t0 : Int32) (M : Mem) (H : Heap) (locs : List Loc) (ls : Array Slot), F_X7_meetsAll_137 k76 k94 x1 x3 x4 t0 M = some M0 → ST G (AG G) s M H locs → lv_has ls 6 [(0, .ref (G.1 61)), (1, .int x1), (3, .int x3), (4, .int x4)] → W p l e (RM 3 68) s m args below meth c H locs 0 0 (MQ below (QV G none M0) args s 0 0 (AG G)) (F0 m 137 ls [.int t0]) := by
  obtain ⟨⟨hx, hb, hml, hown, hts⟩, hK, hG, hA⟩ := id hC
  intro x1 x3 x4 t0 M H locs ls hF hS hl
  unfold F_X7_meetsAll_137 at hF
  refine lv_istore (lv' := [(5, .int t0), (0, .ref (G.1 61)), (1, .int x1), (3, .int x3), (4, .int x4)]) hx hb dX7_meetsAll_137 hl (by decide) rfl (fun ls hl => ?_)
  refine lv_aload_n hx hb dX7_meetsAll_139 rfl (lv_at hl 1 rfl) ?_
  refine gx (ci := 7) (k := 20) (v := .ref (G.1 34)) (C := RX7) (T := TX7) (N := 29) hC hS (hn _ (by decide)) rfl rfl in_X7 (by decide) rfl rfl lf_X7_46 dX7_meetsAll_140 ?_
  refine lv_iload_n hx hb dX7_meetsAll_143 rfl (lv_at hl 3 rfl) ?_
  refine lv_dup2_11 hx hb dX7_meetsAll_144 rfl rfl ?_
  obtain ⟨hi, hF⟩ := ckb_some hF
  refine ald hC hS (hn _ (by decide)) (by decide) rfl hi dX7_meetsAll_145 ?_
  refine lv_iload hx hb dX7_meetsAll_146 (lv_at hl 0 rfl) ?_
  refine lv_if_eq (tgt := 178) hx hb dX7_meetsAll_148 (by decide) (fun hc => ?_) (fun hc => ?_)
  · rw [if_pos hc] at hF
    refine lv_iconst (v := 0) hx hb dX7_meetsAll_178 (by decide) ?_
    refine lv_ior hx hb dX7_meetsAll_179 ?_
    obtain ⟨hi, hF⟩ := ckb_some hF
    refine ast hC hS (hn _ (by decide)) (by decide) rfl hi dX7_meetsAll_180 (fun H locs hS => ?_)
    refine lv_iinc (v := x4 + 1) (lv' := [(4, .int (x4 + 1)), (5, .int t0), (0, .ref (G.1 61)), (1, .int x1), (3, .int x3)]) hx hb dX7_meetsAll_181 hl (k := 4) rfl rfl (by decide) rfl (fun ls hl => ?_)
    refine lv_goto (tgt := 94) hx hb dX7_meetsAll_184 (by decide) ?_
    exact hk94 _ _ _ _ _ _ _ hF hS (lv_sub hl [2, 3, 4, 0] rfl)
  · rw [if_neg hc] at hF
    refine lv_aload_n hx hb dX7_meetsAll_151 rfl (lv_at hl 1 rfl) ?_
    refine lv_iload hx hb dX7_meetsAll_152 (lv_at hl 4 rfl) ?_
    refine lv_iload_n hx hb dX7_meetsAll_154 rfl (lv_at hl 3 rfl) ?_
    refine lv_aload_n hx hb dX7_meetsAll_155 rfl (lv_at hl 1 rfl) ?_
    refine gx (ci := 7) (k := 13) (v := .ref (G.1 32)) (C := RX7) (T := TX7) (N := 29) hC hS (hn _ (by decide)) rfl rfl in_X7 (by decide) rfl rfl lf_X7_40 dX7_meetsAll_156 ?_
    refine lv_iconst (v := 4) hx hb dX7_meetsAll_159 (by decide) ?_
    refine lv_iload_n hx hb dX7_meetsAll_160 rfl (lv_at hl 2 rfl) ?_
    refine lv_imul hx hb dX7_meetsAll_161 ?_
    refine lv_iconst (v := 1) hx hb dX7_meetsAll_162 (by decide) ?_
    refine lv_iadd hx hb dX7_meetsAll_163 ?_
    obtain ⟨hi, hF⟩ := ckb_some hF
    refine ald hC hS (hn _ (by decide)) (by decide) rfl hi dX7_meetsAll_164 ?_
    obtain ⟨r165, M165, h165, hF⟩ := bd_some hF
    refine cV_ (ci := 7) (i := 61) (C := RX7) (T := TX7) (N := 29) (As := [.int x4, .int x3, .int (M.2 32 ((4 * x1) + 1).toNatClampNeg)]) (v := some (.int r165)) (rest := [.int (M.2 34 x3.toNatClampNeg), .int x3, .ref (G.1 34)]) (st1 := [.int r165, .int (M.2 34 x3.toNatClampNeg), .int x3, .ref (G.1 34)]) hC hS (hn _ (by decide)) rfl rfl (c_X7_hits l G hn x4 x3 (M.2 32 ((4 * x1) + 1).toNatClampNeg) M _ _ h165) kV_X7_hits lm_X7_190 ⟨Nat.le_of_ble_eq_true rfl, Nat.le_of_ble_eq_true rfl⟩ rfl hl.1 (Nat.le_of_ble_eq_true rfl) dX7_meetsAll_165 ⟨Nat.le_refl _, Nat.le_refl _⟩ rfl (fun H locs hS => ?_)
    refine lv_if_eq (tgt := 178) hx hb dX7_meetsAll_168 (by decide) (fun hc => ?_) (fun hc => ?_)
    · rw [if_pos hc] at hF
      refine lv_iconst (v := 0) hx hb dX7_meetsAll_178 (by decide) ?_
      refine lv_ior hx hb dX7_meetsAll_179 ?_
      obtain ⟨hi, hF⟩ := ckb_some hF
      refine ast hC hS (hn _ (by decide)) (by decide) rfl hi dX7_meetsAll_180 (fun H locs hS => ?_)
      refine lv_iinc (v := x4 + 1) (lv' := [(4, .int (x4 + 1)), (5, .int t0), (0, .ref (G.1 61)), (1, .int x1), (3, .int x3)]) hx hb dX7_meetsAll_181 hl (k := 4) rfl rfl (by decide) rfl (fun ls hl => ?_)
      refine lv_goto (tgt := 94) hx hb dX7_meetsAll_184 (by decide) ?_
      exact hk94 _ _ _ _ _ _ _ hF hS (lv_sub hl [2, 3, 4, 0] rfl)
    · rw [if_neg hc] at hF
      refine lv_iconst (v := 1) hx hb dX7_meetsAll_171 (by decide) ?_
      refine lv_iload hx hb dX7_meetsAll_172 (lv_at hl 4 rfl) ?_
      refine lv_ishl hx hb dX7_meetsAll_174 ?_
      refine lv_goto (tgt := 179) hx hb dX7_meetsAll_175 (by decide) ?_
      refine lv_ior hx hb dX7_meetsAll_179 ?_
      obtain ⟨hi, hF⟩ := ckb_some hF
      refine ast hC hS (hn _ (by decide)) (by decide) rfl hi dX7_meetsAll_180 (fun H locs hS => ?_)
      refine lv_iinc (v := x4 + 1) (lv' := [(4, .int (x4 + 1)), (5, .int t0), (0, .ref (G.1 61)), (1, .int x1), (3, .int x3)]) hx hb dX7_meetsAll_181 hl (k := 4) rfl rfl (by decide) rfl (fun ls hl => ?_)
      refine lv_goto (tgt := 94) hx hb dX7_meetsAll_184 (by decide) ?_
      exact hk94 _ _ _ _ _ _ _ hF hS (lv_sub hl [2, 3, 4, 0] rfl)
set_option maxHeartbeats 4000000 in
set_option maxRecDepth 100000 in
theorem b_X7_meetsAll_136 {k76 : Int32 → Int32 → Mem → Option Mem} {k94 : Int32 → Int32 → Int32 → Mem → Option Mem} {M0 : Mem} (hC : SX p m c s args cX7_meetsAll 6 RX7 G (AG G)) (hr : meth.sig.returnType = none) (hlk : meth.locks = false) (hn : ∀ i ∈ LsF, i ∈ gL G) (hk76 : ∀ (x1 : Int32) (x3 : Int32) (M : Mem) (H : Heap) (locs : List Loc) (ls : Array Slot), k76 x1 x3 M = some M0 → ST G (AG G) s M H locs → lv_has ls 6 [(0, .ref (G.1 61)), (1, .int x1), (3, .int x3)] → W p l e (RM 3 68) s m args below meth c H locs 0 0 (MQ below (QV G none M0) args s 0 0 (AG G)) (F0 m 76 ls [])) (hk94 : ∀ (x1 : Int32) (x3 : Int32) (x4 : Int32) (M : Mem) (H : Heap) (locs : List Loc) (ls : Array Slot), k94 x1 x3 x4 M = some M0 → ST G (AG G) s M H locs → lv_has ls 6 [(0, .ref (G.1 61)), (1, .int x1), (3, .int x3), (4, .int x4)] → W p l e (RM 3 68) s m args below meth c H locs 0 0 (MQ below (QV G none M0) args s 0 0 (AG G)) (F0 m 94 ls [])) : ∀ (x1 : Int32) (x3 : Int32) (x4 : Int32) (M : Mem) (H : Heap) (locs : List Loc) (ls : Array Slot), F_X7_meetsAll_136 k76 k94 x1 x3 x4 M = some M0 → ST G (AG G) s M H locs → lv_has ls 6 [(0, .ref (G.1 61)), (1, .int x1), (3, .int x3), (4, .int x4)] → W p l e (RM 3 68) s m args below meth c H locs 0 0 (MQ below (QV G none M0) args s 0 0 (AG G)) (F0 m 136 ls []) := by
  obtain ⟨⟨hx, hb, hml, hown, hts⟩, hK, hG, hA⟩ := id hC
  intro x1 x3 x4 M H locs ls hF hS hl
  unfold F_X7_meetsAll_136 at hF
  refine lv_iconst (v := 0) hx hb dX7_meetsAll_136 (by decide) ?_
  exact b_X7_meetsAll_137 hC hr hlk hn hk76 hk94 _ _ _ _ _ _ _ _ hF hS (lv_sub hl [0, 1, 2, 3] rfl)
set_option maxHeartbeats 4000000 in
set_option maxRecDepth 100000 in
theorem b_X7_meetsAll_94 {k76 : Int32 → Int32 → Mem → Option Mem} {M0 : Mem} (hC : SX p m c s args cX7_meetsAll 6 RX7 G (AG G)) (hr : meth.sig.returnType = none) (hlk : meth.locks = false) (hn : ∀ i ∈ LsF, i ∈ gL G) (hk76 : ∀ (x1 : Int32) (x3 : Int32) (M : Mem) (H : Heap) (locs : List Loc) (ls : Array Slot), k76 x1 x3 M = some M0 → ST G (AG G) s M H locs → lv_has ls 6 [(0, .ref (G.1 61)), (1, .int x1), (3, .int x3)] → W p l e (RM 3 68) s m args below meth c H locs 0 0 (MQ below (QV G none M0) args s 0 0 (AG G)) (F0 m 76 ls [])) : ∀ (n : Nat) (x1 : Int32) (x3 : Int32) (x4 : Int32) (M : Mem) (H : Heap) (locs : List Loc) (ls : Array Slot), F_X7_meetsAll_94 k76 n x1 x3 x4 M = some M0 → ST G (AG G) s M H locs → lv_has ls 6 [(0, .ref (G.1 61)), (1, .int x1), (3, .int x3), (4, .int x4)] → W p l e (RM 3 68) s m args below meth c H locs 0 0 (MQ below (QV G none M0) args s 0 0 (AG G)) (F0 m 94 ls []) := by
  obtain ⟨⟨hx, hb, hml, hown, hts⟩, hK, hG, hA⟩ := id hC
  intro n
  induction n with
  | zero =>
    intro x1 x3 x4 M H locs ls hF
    cases hF
  | succ n ih =>
    intro x1 x3 x4 M H locs ls hF hS hl
    unfold F_X7_meetsAll_94 at hF
    refine lv_iload hx hb dX7_meetsAll_94 (lv_at hl 3 rfl) ?_
    refine lv_aload_n hx hb dX7_meetsAll_96 rfl (lv_at hl 0 rfl) ?_
    refine gx (ci := 7) (k := 2) (v := .int (M.1 40)) (C := RX7) (T := TX7) (N := 29) hC hS (hn _ (by decide)) rfl rfl in_X7 (by decide) rfl rfl lf_X7_82 dX7_meetsAll_97 ?_
    refine lv_icmp_ge (tgt := 187) hx hb dX7_meetsAll_100 (by decide) (fun hc => ?_) (fun hc => ?_)
    · rw [if_pos hc] at hF
      refine lv_iinc (v := x3 + 1) (lv' := [(3, .int (x3 + 1)), (0, .ref (G.1 61)), (1, .int x1), (4, .int x4)]) hx hb dX7_meetsAll_187 hl (k := 2) rfl rfl (by decide) rfl (fun ls hl => ?_)
      refine lv_goto (tgt := 76) hx hb dX7_meetsAll_190 (by decide) ?_
      exact hk76 _ _ _ _ _ _ hF hS (lv_sub hl [1, 2, 0] rfl)
    · rw [if_neg hc] at hF
      refine lv_iload hx hb dX7_meetsAll_103 (lv_at hl 3 rfl) ?_
      refine lv_iload_n hx hb dX7_meetsAll_105 rfl (lv_at hl 2 rfl) ?_
      refine lv_icmp_eq (tgt := 136) hx hb dX7_meetsAll_106 (by decide) (fun hc => ?_) (fun hc => ?_)
      · rw [if_pos hc] at hF
        exact b_X7_meetsAll_136 hC hr hlk hn hk76 ih _ _ _ _ _ _ _ hF hS (lv_sub hl [0, 1, 2, 3] rfl)
      · rw [if_neg hc] at hF
        refine lv_aload_n hx hb dX7_meetsAll_109 rfl (lv_at hl 0 rfl) ?_
        refine gx (ci := 7) (k := 19) (v := .int (M.1 47)) (C := RX7) (T := TX7) (N := 29) hC hS (hn _ (by decide)) rfl rfl in_X7 (by decide) rfl rfl lf_X7_187 dX7_meetsAll_110 ?_
        refine lv_iload_n hx hb dX7_meetsAll_113 rfl (lv_at hl 2 rfl) ?_
        obtain ⟨r114, M114, h114, hF⟩ := bd_some hF
        refine cS_ (As := [.int (M.1 47), .int x3]) (v := some (.int r114)) (rest := []) (st1 := [.int r114]) hC hS (c_X7_has l G hn (M.1 47) x3 M _ _ h114) kS_X7_has lm_X7_151 ⟨Nat.le_of_ble_eq_true rfl, Nat.le_of_ble_eq_true rfl⟩ rfl hl.1 (Nat.le_of_ble_eq_true rfl) dX7_meetsAll_114 ⟨Nat.le_refl _, Nat.le_refl _⟩ rfl (fun H locs hS => ?_)
        refine lv_if_eq (tgt := 136) hx hb dX7_meetsAll_117 (by decide) (fun hc => ?_) (fun hc => ?_)
        · rw [if_pos hc] at hF
          exact b_X7_meetsAll_136 hC hr hlk hn hk76 ih _ _ _ _ _ _ _ hF hS (lv_sub hl [0, 1, 2, 3] rfl)
        · rw [if_neg hc] at hF
          refine lv_aload_n hx hb dX7_meetsAll_120 rfl (lv_at hl 0 rfl) ?_
          refine gx (ci := 7) (k := 19) (v := .int (M114.1 47)) (C := RX7) (T := TX7) (N := 29) hC hS (hn _ (by decide)) rfl rfl in_X7 (by decide) rfl rfl lf_X7_187 dX7_meetsAll_121 ?_
          refine lv_iload hx hb dX7_meetsAll_124 (lv_at hl 3 rfl) ?_
          obtain ⟨r126, M126, h126, hF⟩ := bd_some hF
          refine cS_ (As := [.int (M114.1 47), .int x4]) (v := some (.int r126)) (rest := []) (st1 := [.int r126]) hC hS (c_X7_has l G hn (M114.1 47) x4 M114 _ _ h126) kS_X7_has lm_X7_151 ⟨Nat.le_of_ble_eq_true rfl, Nat.le_of_ble_eq_true rfl⟩ rfl hl.1 (Nat.le_of_ble_eq_true rfl) dX7_meetsAll_126 ⟨Nat.le_refl _, Nat.le_refl _⟩ rfl (fun H locs hS => ?_)
          refine lv_if_eq (tgt := 136) hx hb dX7_meetsAll_129 (by decide) (fun hc => ?_) (fun hc => ?_)
          · rw [if_pos hc] at hF
            exact b_X7_meetsAll_136 hC hr hlk hn hk76 ih _ _ _ _ _ _ _ hF hS (lv_sub hl [0, 1, 2, 3] rfl)
          · rw [if_neg hc] at hF
            refine lv_iconst (v := 1) hx hb dX7_meetsAll_132 (by decide) ?_
            refine lv_goto (tgt := 137) hx hb dX7_meetsAll_133 (by decide) ?_
            exact b_X7_meetsAll_137 hC hr hlk hn hk76 ih _ _ _ _ _ _ _ _ hF hS (lv_sub hl [0, 1, 2, 3] rfl)
set_option maxHeartbeats 4000000 in
set_option maxRecDepth 100000 in
theorem b_X7_meetsAll_76 {M0 : Mem} (hC : SX p m c s args cX7_meetsAll 6 RX7 G (AG G)) (hr : meth.sig.returnType = none) (hlk : meth.locks = false) (hn : ∀ i ∈ LsF, i ∈ gL G) : ∀ (n : Nat) (x1 : Int32) (x3 : Int32) (M : Mem) (H : Heap) (locs : List Loc) (ls : Array Slot), F_X7_meetsAll_76 n x1 x3 M = some M0 → ST G (AG G) s M H locs → lv_has ls 6 [(0, .ref (G.1 61)), (1, .int x1), (3, .int x3)] → W p l e (RM 3 68) s m args below meth c H locs 0 0 (MQ below (QV G none M0) args s 0 0 (AG G)) (F0 m 76 ls []) := by
  obtain ⟨⟨hx, hb, hml, hown, hts⟩, hK, hG, hA⟩ := id hC
  intro n
  induction n with
  | zero =>
    intro x1 x3 M H locs ls hF
    cases hF
  | succ n ih =>
    intro x1 x3 M H locs ls hF hS hl
    unfold F_X7_meetsAll_76 at hF
    refine lv_iload_n hx hb dX7_meetsAll_76 rfl (lv_at hl 2 rfl) ?_
    refine lv_aload_n hx hb dX7_meetsAll_77 rfl (lv_at hl 0 rfl) ?_
    refine gx (ci := 7) (k := 2) (v := .int (M.1 40)) (C := RX7) (T := TX7) (N := 29) hC hS (hn _ (by decide)) rfl rfl in_X7 (by decide) rfl rfl lf_X7_82 dX7_meetsAll_78 ?_
    refine lv_icmp_ge (tgt := 193) hx hb dX7_meetsAll_81 (by decide) (fun hc => ?_) (fun hc => ?_)
    · rw [if_pos hc] at hF
      exact retV hC hS hr hlk hF dX7_meetsAll_193
    · rw [if_neg hc] at hF
      refine lv_aload_n hx hb dX7_meetsAll_84 rfl (lv_at hl 0 rfl) ?_
      refine gx (ci := 7) (k := 20) (v := .ref (G.1 34)) (C := RX7) (T := TX7) (N := 29) hC hS (hn _ (by decide)) rfl rfl in_X7 (by decide) rfl rfl lf_X7_46 dX7_meetsAll_85 ?_
      refine lv_iload_n hx hb dX7_meetsAll_88 rfl (lv_at hl 2 rfl) ?_
      refine lv_iconst (v := 0) hx hb dX7_meetsAll_89 (by decide) ?_
      obtain ⟨hi, hF⟩ := ckb_some hF
      refine ast hC hS (hn _ (by decide)) (by decide) rfl hi dX7_meetsAll_90 (fun H locs hS => ?_)
      refine lv_iconst (v := 0) hx hb dX7_meetsAll_91 (by decide) ?_
      refine lv_istore (lv' := [(4, .int 0), (0, .ref (G.1 61)), (1, .int x1), (3, .int x3)]) hx hb dX7_meetsAll_92 hl (by decide) rfl (fun ls hl => ?_)
      exact b_X7_meetsAll_94 hC hr hlk hn ih fu _ _ _ _ _ _ _ hF hS (lv_sub hl [1, 2, 3, 0] rfl)
set_option maxHeartbeats 4000000 in
set_option maxRecDepth 100000 in
theorem b_X7_meetsAll_16 {M0 : Mem} (hC : SX p m c s args cX7_meetsAll 6 RX7 G (AG G)) (hr : meth.sig.returnType = none) (hlk : meth.locks = false) (hn : ∀ i ∈ LsF, i ∈ gL G) : ∀ (n : Nat) (x1 : Int32) (x2 : Int32) (x3 : Int32) (M : Mem) (H : Heap) (locs : List Loc) (ls : Array Slot), F_X7_meetsAll_16 n x1 x2 x3 M = some M0 → ST G (AG G) s M H locs → lv_has ls 6 [(0, .ref (G.1 61)), (1, .int x1), (2, .int x2), (3, .int x3)] → W p l e (RM 3 68) s m args below meth c H locs 0 0 (MQ below (QV G none M0) args s 0 0 (AG G)) (F0 m 16 ls []) := by
  obtain ⟨⟨hx, hb, hml, hown, hts⟩, hK, hG, hA⟩ := id hC
  intro n
  induction n with
  | zero =>
    intro x1 x2 x3 M H locs ls hF
    cases hF
  | succ n ih =>
    intro x1 x2 x3 M H locs ls hF hS hl
    unfold F_X7_meetsAll_16 at hF
    refine lv_iload_n hx hb dX7_meetsAll_16 rfl (lv_at hl 3 rfl) ?_
    refine lv_aload_n hx hb dX7_meetsAll_17 rfl (lv_at hl 0 rfl) ?_
    refine gx (ci := 7) (k := 2) (v := .int (M.1 40)) (C := RX7) (T := TX7) (N := 29) hC hS (hn _ (by decide)) rfl rfl in_X7 (by decide) rfl rfl lf_X7_82 dX7_meetsAll_18 ?_
    refine lv_icmp_ge (tgt := 74) hx hb dX7_meetsAll_21 (by decide) (fun hc => ?_) (fun hc => ?_)
    · rw [if_pos hc] at hF
      refine lv_iconst (v := 0) hx hb dX7_meetsAll_74 (by decide) ?_
      refine lv_istore_n (lv' := [(3, .int 0), (0, .ref (G.1 61)), (1, .int x1), (2, .int x2)]) hx hb dX7_meetsAll_75 rfl hl (by decide) rfl (fun ls hl => ?_)
      exact b_X7_meetsAll_76 hC hr hlk hn fu _ _ _ _ _ _ hF hS (lv_sub hl [1, 2, 0] rfl)
    · rw [if_neg hc] at hF
      refine lv_aload_n hx hb dX7_meetsAll_24 rfl (lv_at hl 0 rfl) ?_
      refine lv_dup hx hb dX7_meetsAll_25 rfl ?_
      refine gx (ci := 7) (k := 19) (v := .int (M.1 47)) (C := RX7) (T := TX7) (N := 29) hC hS (hn _ (by decide)) rfl rfl in_X7 (by decide) rfl rfl lf_X7_187 dX7_meetsAll_26 ?_
      refine lv_iload_n hx hb dX7_meetsAll_29 rfl (lv_at hl 2 rfl) ?_
      refine lv_iload_n hx hb dX7_meetsAll_30 rfl (lv_at hl 3 rfl) ?_
      obtain ⟨r31, M31, h31, hF⟩ := bd_some hF
      refine cS_ (As := [.int x2, .int x3]) (v := some (.int r31)) (rest := [.int (M.1 47), .ref (G.1 61)]) (st1 := [.int r31, .int (M.1 47), .ref (G.1 61)]) hC hS (c_X7_has l G hn x2 x3 M _ _ h31) kS_X7_has lm_X7_151 ⟨Nat.le_of_ble_eq_true rfl, Nat.le_of_ble_eq_true rfl⟩ rfl hl.1 (Nat.le_of_ble_eq_true rfl) dX7_meetsAll_31 ⟨Nat.le_refl _, Nat.le_refl _⟩ rfl (fun H locs hS => ?_)
      refine lv_if_eq (tgt := 63) hx hb dX7_meetsAll_34 (by decide) (fun hc => ?_) (fun hc => ?_)
      · rw [if_pos hc] at hF
        refine lv_iconst (v := 0) hx hb dX7_meetsAll_63 (by decide) ?_
        refine lv_ior hx hb dX7_meetsAll_64 ?_
        refine px (ci := 7) (k := 19) (n := 47) (ty := .int) (C := RX7) (T := TX7) (N := 29) hC hS (hn _ (by decide)) rfl rfl in_X7 tyX7_ok nmX7 (by decide) rfl rfl (by decide +kernel) rfl rfl (Nat.le_of_ble_eq_true rfl) rfl se_X7_19 lf_X7_187 dX7_meetsAll_65 (fun H locs hS => ?_)
        refine lv_iinc (v := x3 + 1) (lv' := [(3, .int (x3 + 1)), (0, .ref (G.1 61)), (1, .int x1), (2, .int x2)]) hx hb dX7_meetsAll_68 hl (k := 3) rfl rfl (by decide) rfl (fun ls hl => ?_)
        refine lv_goto (tgt := 16) hx hb dX7_meetsAll_71 (by decide) ?_
        exact ih _ _ _ _ _ _ _ hF hS (lv_sub hl [1, 2, 3, 0] rfl)
      · rw [if_neg hc] at hF
        refine lv_aload_n hx hb dX7_meetsAll_37 rfl (lv_at hl 0 rfl) ?_
        refine gx (ci := 7) (k := 4) (v := .ref (G.1 25)) (C := RX7) (T := TX7) (N := 29) hC hS (hn _ (by decide)) rfl rfl in_X7 (by decide) rfl rfl lf_X7_19 dX7_meetsAll_38 ?_
        refine lv_iload_n hx hb dX7_meetsAll_41 rfl (lv_at hl 3 rfl) ?_
        obtain ⟨hi, hF⟩ := ckb_some hF
        refine ald hC hS (hn _ (by decide)) (by decide) rfl hi dX7_meetsAll_42 ?_
        obtain ⟨r43, M43, h43, hF⟩ := bd_some hF
        refine cS_ (As := [.int (M31.2 25 x3.toNatClampNeg)]) (v := some (.int r43)) (rest := [.int (M.1 47), .ref (G.1 61)]) (st1 := [.int r43, .int (M.1 47), .ref (G.1 61)]) hC hS (c_X7_ones l G hn (M31.2 25 x3.toNatClampNeg) M31 _ _ h43) kS_X7_ones lm_X7_148 ⟨Nat.le_of_ble_eq_true rfl, Nat.le_of_ble_eq_true rfl⟩ rfl hl.1 (Nat.le_of_ble_eq_true rfl) dX7_meetsAll_43 ⟨Nat.le_refl _, Nat.le_refl _⟩ rfl (fun H locs hS => ?_)
        refine lv_aload_n hx hb dX7_meetsAll_46 rfl (lv_at hl 0 rfl) ?_
        refine gx (ci := 7) (k := 13) (v := .ref (G.1 32)) (C := RX7) (T := TX7) (N := 29) hC hS (hn _ (by decide)) rfl rfl in_X7 (by decide) rfl rfl lf_X7_40 dX7_meetsAll_47 ?_
        refine lv_iconst (v := 4) hx hb dX7_meetsAll_50 (by decide) ?_
        refine lv_iload_n hx hb dX7_meetsAll_51 rfl (lv_at hl 1 rfl) ?_
        refine lv_imul hx hb dX7_meetsAll_52 ?_
        obtain ⟨hi, hF⟩ := ckb_some hF
        refine ald hC hS (hn _ (by decide)) (by decide) rfl hi dX7_meetsAll_53 ?_
        refine lv_icmp_lt (tgt := 63) hx hb dX7_meetsAll_54 (by decide) (fun hc => ?_) (fun hc => ?_)
        · rw [if_pos hc] at hF
          refine lv_iconst (v := 0) hx hb dX7_meetsAll_63 (by decide) ?_
          refine lv_ior hx hb dX7_meetsAll_64 ?_
          refine px (ci := 7) (k := 19) (n := 47) (ty := .int) (C := RX7) (T := TX7) (N := 29) hC hS (hn _ (by decide)) rfl rfl in_X7 tyX7_ok nmX7 (by decide) rfl rfl (by decide +kernel) rfl rfl (Nat.le_of_ble_eq_true rfl) rfl se_X7_19 lf_X7_187 dX7_meetsAll_65 (fun H locs hS => ?_)
          refine lv_iinc (v := x3 + 1) (lv' := [(3, .int (x3 + 1)), (0, .ref (G.1 61)), (1, .int x1), (2, .int x2)]) hx hb dX7_meetsAll_68 hl (k := 3) rfl rfl (by decide) rfl (fun ls hl => ?_)
          refine lv_goto (tgt := 16) hx hb dX7_meetsAll_71 (by decide) ?_
          exact ih _ _ _ _ _ _ _ hF hS (lv_sub hl [1, 2, 3, 0] rfl)
        · rw [if_neg hc] at hF
          refine lv_iconst (v := 1) hx hb dX7_meetsAll_57 (by decide) ?_
          refine lv_iload_n hx hb dX7_meetsAll_58 rfl (lv_at hl 3 rfl) ?_
          refine lv_ishl hx hb dX7_meetsAll_59 ?_
          refine lv_goto (tgt := 64) hx hb dX7_meetsAll_60 (by decide) ?_
          refine lv_ior hx hb dX7_meetsAll_64 ?_
          refine px (ci := 7) (k := 19) (n := 47) (ty := .int) (C := RX7) (T := TX7) (N := 29) hC hS (hn _ (by decide)) rfl rfl in_X7 tyX7_ok nmX7 (by decide) rfl rfl (by decide +kernel) rfl rfl (Nat.le_of_ble_eq_true rfl) rfl se_X7_19 lf_X7_187 dX7_meetsAll_65 (fun H locs hS => ?_)
          refine lv_iinc (v := x3 + 1) (lv' := [(3, .int (x3 + 1)), (0, .ref (G.1 61)), (1, .int x1), (2, .int x2)]) hx hb dX7_meetsAll_68 hl (k := 3) rfl rfl (by decide) rfl (fun ls hl => ?_)
          refine lv_goto (tgt := 16) hx hb dX7_meetsAll_71 (by decide) ?_
          exact ih _ _ _ _ _ _ _ hF hS (lv_sub hl [1, 2, 3, 0] rfl)
set_option maxHeartbeats 4000000 in
set_option maxRecDepth 100000 in
theorem b_X7_meetsAll {M0 : Mem} (hC : SX p m c s args cX7_meetsAll 6 RX7 G (AG G)) (hr : meth.sig.returnType = none) (hlk : meth.locks = false) (hn : ∀ i ∈ LsF, i ∈ gL G) : ∀ (x1 : Int32) (x2 : Int32) (M : Mem) (H : Heap) (locs : List Loc) (ls : Array Slot), F_X7_meetsAll x1 x2 M = some M0 → ST G (AG G) s M H locs → lv_has ls 6 [(0, .ref (G.1 61)), (1, .int x1), (2, .int x2)] → W p l e (RM 3 68) s m args below meth c H locs 0 0 (MQ below (QV G none M0) args s 0 0 (AG G)) (F0 m 0 ls []) := by
  obtain ⟨⟨hx, hb, hml, hown, hts⟩, hK, hG, hA⟩ := id hC
  intro x1 x2 M H locs ls hF hS hl
  unfold F_X7_meetsAll at hF
  refine lv_aload_n hx hb dX7_meetsAll_0 rfl (lv_at hl 0 rfl) ?_
  refine lv_iload_n hx hb dX7_meetsAll_1 rfl (lv_at hl 1 rfl) ?_
  obtain ⟨M2, h2, hF⟩ := bdv_some hF
  refine cV_ (ci := 7) (i := 61) (C := RX7) (T := TX7) (N := 29) (As := [.int x1]) (v := none) (rest := []) (st1 := []) hC hS (hn _ (by decide)) rfl rfl (c_X7_reads l G hn x1 M _ h2) kV_X7_reads lm_X7_133 ⟨Nat.le_of_ble_eq_true rfl, Nat.le_of_ble_eq_true rfl⟩ rfl hl.1 (Nat.le_of_ble_eq_true rfl) dX7_meetsAll_2 ⟨Nat.le_refl _, Nat.le_refl _⟩ rfl (fun H locs hS => ?_)
  refine lv_aload_n hx hb dX7_meetsAll_5 rfl (lv_at hl 0 rfl) ?_
  obtain ⟨M6, h6, hF⟩ := bdv_some hF
  refine cV_ (ci := 7) (i := 61) (C := RX7) (T := TX7) (N := 29) (As := []) (v := none) (rest := []) (st1 := []) hC hS (hn _ (by decide)) rfl rfl (c_X7_laysPossible l G hn M2 _ h6) kV_X7_laysPossible lm_X7_114 ⟨Nat.le_of_ble_eq_true rfl, Nat.le_of_ble_eq_true rfl⟩ rfl hl.1 (Nat.le_of_ble_eq_true rfl) dX7_meetsAll_6 ⟨Nat.le_refl _, Nat.le_refl _⟩ rfl (fun H locs hS => ?_)
  refine lv_aload_n hx hb dX7_meetsAll_9 rfl (lv_at hl 0 rfl) ?_
  refine lv_iconst (v := 0) hx hb dX7_meetsAll_10 (by decide) ?_
  refine px (ci := 7) (k := 19) (n := 47) (ty := .int) (C := RX7) (T := TX7) (N := 29) hC hS (hn _ (by decide)) rfl rfl in_X7 tyX7_ok nmX7 (by decide) rfl rfl (by decide +kernel) rfl rfl (Nat.le_of_ble_eq_true rfl) rfl se_X7_19 lf_X7_187 dX7_meetsAll_11 (fun H locs hS => ?_)
  refine lv_iconst (v := 0) hx hb dX7_meetsAll_14 (by decide) ?_
  refine lv_istore_n (lv' := [(3, .int 0), (0, .ref (G.1 61)), (1, .int x1), (2, .int x2)]) hx hb dX7_meetsAll_15 rfl hl (by decide) rfl (fun ls hl => ?_)
  exact b_X7_meetsAll_16 hC hr hlk hn fu _ _ _ _ _ _ _ hF hS (lv_sub hl [1, 2, 3, 0] rfl)
set_option maxRecDepth 100000 in
theorem c_X7_meetsAll (l : Launch) (G : GT) (hn : ∀ i ∈ LsF, i ∈ gL G) (x1 : Int32) (x2 : Int32) (M : Mem) (M0 : Mem) (hF : F_X7_meetsAll x1 x2 M = some M0) : MetG l G yX7_meetsAll cX7_meetsAll 6 none 3 68 [.ref (G.1 61), .int x1, .int x2] M none M0 := by
  refine MetG.of (by decide) (Nat.le_of_ble_eq_true rfl) ?_
  intro p e s m args below meth c hC hr hlk hnm ls hS hl
  exact b_X7_meetsAll hC hr hlk hn _ _ _ _ _ _ hF hS hl
def F_X7_strikes (x1 : Int32) (x2 : Int32) (x3 : Int32) (M : Mem) : Option (Int32 × Mem) := bd (F_X7_isLaw x1 M) (fun r1 M1 => if r1 = 0 then some ((-2), M1) else bd (F_X7_isWord x2 M1) (fun r9 M9 => if r9 = 0 then some ((-2), M9) else bd (F_X7_isWord x3 M9) (fun r17 M17 => if r17 = 0 then some ((-2), M17) else bd (F_X7_heardOnes M17) (fun r29 M29 => bdv (F_X7_meetsAll x1 r29 M29) (fun M32 => ckb (ix x3 10) (some (((M32.2 34 x3.toNatClampNeg) >>> (x2 &&& 31)) &&& 1, M32)))))))
set_option maxHeartbeats 4000000 in
set_option maxRecDepth 100000 in
theorem b_X7_strikes {M0 : Mem} {r0 : Int32} (hC : SX p m c s args cX7_strikes 4 RX7 G (AG G)) (hr : meth.sig.returnType = (some .int)) (hlk : meth.locks = false) (hn : ∀ i ∈ LsF, i ∈ gL G) : ∀ (x1 : Int32) (x2 : Int32) (x3 : Int32) (M : Mem) (H : Heap) (locs : List Loc) (ls : Array Slot), F_X7_strikes x1 x2 x3 M = some (r0, M0) → ST G (AG G) s M H locs → lv_has ls 4 [(0, .ref (G.1 61)), (1, .int x1), (2, .int x2), (3, .int x3)] → W p l e (RM 4 93) s m args below meth c H locs 0 0 (MQ below (QV G (some (.int r0)) M0) args s 0 0 (AG G)) (F0 m 0 ls []) := by
  obtain ⟨⟨hx, hb, hml, hown, hts⟩, hK, hG, hA⟩ := id hC
  intro x1 x2 x3 M H locs ls hF hS hl
  unfold F_X7_strikes at hF
  refine lv_iload_n hx hb dX7_strikes_0 rfl (lv_at hl 1 rfl) ?_
  obtain ⟨r1, M1, h1, hF⟩ := bd_some hF
  refine cS_ (As := [.int x1]) (v := some (.int r1)) (rest := []) (st1 := [.int r1]) hC hS (c_X7_isLaw l G hn x1 M _ _ h1) kS_X7_isLaw lm_X7_120 ⟨Nat.le_of_ble_eq_true rfl, Nat.le_of_ble_eq_true rfl⟩ rfl hl.1 (Nat.le_of_ble_eq_true rfl) dX7_strikes_1 ⟨Nat.le_refl _, Nat.le_refl _⟩ rfl (fun H locs hS => ?_)
  refine lv_if_eq (tgt := 23) hx hb dX7_strikes_4 (by decide) (fun hc => ?_) (fun hc => ?_)
  · rw [if_pos hc] at hF
    refine lv_bipush (v := (-2)) hx hb dX7_strikes_23 (by decide) ?_
    exact retI hC hS hr hlk hF dX7_strikes_25
  · rw [if_neg hc] at hF
    refine lv_aload_n hx hb dX7_strikes_7 rfl (lv_at hl 0 rfl) ?_
    refine lv_iload_n hx hb dX7_strikes_8 rfl (lv_at hl 2 rfl) ?_
    obtain ⟨r9, M9, h9, hF⟩ := bd_some hF
    refine cV_ (ci := 7) (i := 61) (C := RX7) (T := TX7) (N := 29) (As := [.int x2]) (v := some (.int r9)) (rest := []) (st1 := [.int r9]) hC hS (hn _ (by decide)) rfl rfl (c_X7_isWord l G hn x2 M1 _ _ h9) kV_X7_isWord lm_X7_111 ⟨Nat.le_of_ble_eq_true rfl, Nat.le_of_ble_eq_true rfl⟩ rfl hl.1 (Nat.le_of_ble_eq_true rfl) dX7_strikes_9 ⟨Nat.le_refl _, Nat.le_refl _⟩ rfl (fun H locs hS => ?_)
    refine lv_if_eq (tgt := 23) hx hb dX7_strikes_12 (by decide) (fun hc => ?_) (fun hc => ?_)
    · rw [if_pos hc] at hF
      refine lv_bipush (v := (-2)) hx hb dX7_strikes_23 (by decide) ?_
      exact retI hC hS hr hlk hF dX7_strikes_25
    · rw [if_neg hc] at hF
      refine lv_aload_n hx hb dX7_strikes_15 rfl (lv_at hl 0 rfl) ?_
      refine lv_iload_n hx hb dX7_strikes_16 rfl (lv_at hl 3 rfl) ?_
      obtain ⟨r17, M17, h17, hF⟩ := bd_some hF
      refine cV_ (ci := 7) (i := 61) (C := RX7) (T := TX7) (N := 29) (As := [.int x3]) (v := some (.int r17)) (rest := []) (st1 := [.int r17]) hC hS (hn _ (by decide)) rfl rfl (c_X7_isWord l G hn x3 M9 _ _ h17) kV_X7_isWord lm_X7_111 ⟨Nat.le_of_ble_eq_true rfl, Nat.le_of_ble_eq_true rfl⟩ rfl hl.1 (Nat.le_of_ble_eq_true rfl) dX7_strikes_17 ⟨Nat.le_refl _, Nat.le_refl _⟩ rfl (fun H locs hS => ?_)
      refine lv_if_ne (tgt := 26) hx hb dX7_strikes_20 (by decide) (fun hc => ?_) (fun hc => ?_)
      · rw [if_neg hc] at hF
        refine lv_aload_n hx hb dX7_strikes_26 rfl (lv_at hl 0 rfl) ?_
        refine lv_iload_n hx hb dX7_strikes_27 rfl (lv_at hl 1 rfl) ?_
        refine lv_aload_n hx hb dX7_strikes_28 rfl (lv_at hl 0 rfl) ?_
        obtain ⟨r29, M29, h29, hF⟩ := bd_some hF
        refine cV_ (ci := 7) (i := 61) (C := RX7) (T := TX7) (N := 29) (As := []) (v := some (.int r29)) (rest := [.int x1, .ref (G.1 61)]) (st1 := [.int r29, .int x1, .ref (G.1 61)]) hC hS (hn _ (by decide)) rfl rfl (c_X7_heardOnes l G hn M17 _ _ h29) kV_X7_heardOnes lm_X7_162 ⟨Nat.le_of_ble_eq_true rfl, Nat.le_of_ble_eq_true rfl⟩ rfl hl.1 (Nat.le_of_ble_eq_true rfl) dX7_strikes_29 ⟨Nat.le_refl _, Nat.le_refl _⟩ rfl (fun H locs hS => ?_)
        obtain ⟨M32, h32, hF⟩ := bdv_some hF
        refine cV_ (ci := 7) (i := 61) (C := RX7) (T := TX7) (N := 29) (As := [.int x1, .int r29]) (v := none) (rest := []) (st1 := []) hC hS (hn _ (by decide)) rfl rfl (c_X7_meetsAll l G hn x1 r29 M29 _ h32) kV_X7_meetsAll lm_X7_193 ⟨Nat.le_of_ble_eq_true rfl, Nat.le_of_ble_eq_true rfl⟩ rfl hl.1 (Nat.le_of_ble_eq_true rfl) dX7_strikes_32 ⟨Nat.le_refl _, Nat.le_refl _⟩ rfl (fun H locs hS => ?_)
        refine lv_aload_n hx hb dX7_strikes_35 rfl (lv_at hl 0 rfl) ?_
        refine gx (ci := 7) (k := 20) (v := .ref (G.1 34)) (C := RX7) (T := TX7) (N := 29) hC hS (hn _ (by decide)) rfl rfl in_X7 (by decide) rfl rfl lf_X7_46 dX7_strikes_36 ?_
        refine lv_iload_n hx hb dX7_strikes_39 rfl (lv_at hl 3 rfl) ?_
        obtain ⟨hi, hF⟩ := ckb_some hF
        refine ald hC hS (hn _ (by decide)) (by decide) rfl hi dX7_strikes_40 ?_
        refine lv_iload_n hx hb dX7_strikes_41 rfl (lv_at hl 2 rfl) ?_
        refine lv_ishr hx hb dX7_strikes_42 ?_
        refine lv_iconst (v := 1) hx hb dX7_strikes_43 (by decide) ?_
        refine lv_iand hx hb dX7_strikes_44 ?_
        exact retI hC hS hr hlk hF dX7_strikes_45
      · rw [if_pos hc] at hF
        refine lv_bipush (v := (-2)) hx hb dX7_strikes_23 (by decide) ?_
        exact retI hC hS hr hlk hF dX7_strikes_25
set_option maxRecDepth 100000 in
theorem c_X7_strikes (l : Launch) (G : GT) (hn : ∀ i ∈ LsF, i ∈ gL G) (x1 : Int32) (x2 : Int32) (x3 : Int32) (M : Mem) (r0 : Int32) (M0 : Mem) (hF : F_X7_strikes x1 x2 x3 M = some (r0, M0)) : MetG l G yX7_strikes cX7_strikes 4 (some .int) 4 93 [.ref (G.1 61), .int x1, .int x2, .int x3] M (some (.int r0)) M0 := by
  refine MetG.of (by decide) (Nat.le_of_ble_eq_true rfl) ?_
  intro p e s m args below meth c hC hr hlk hnm ls hS hl
  exact b_X7_strikes hC hr hlk hn _ _ _ _ _ _ _ hF hS hl
def F_X7_answers_36 (k2 : Int32 → Int32 → Int32 → Mem → Option (Int32 × Mem)) (x1 : Int32) (x2 : Int32) (x3 : Int32) (M : Mem) : Option (Int32 × Mem) := k2 x1 x2 (x3 + 1) M
def F_X7_answers_2 : Nat → Int32 → Int32 → Int32 → Mem → Option (Int32 × Mem)
  | 0, _, _, _, _ => none
  | n + 1, x1, x2, x3, M => if (M.1 40) ≤ x3 then some (1, M) else ckb (ix x2 10) (bd (F_X7_has (M.2 34 x2.toNatClampNeg) x3 M) (fun r17 M17 => if r17 = 0 then F_X7_answers_36 (F_X7_answers_2 n) x1 x2 x3 M17 else ckb (ix x3 10) (if ((M17.2 34 x3.toNatClampNeg) &&& x1) = 0 then some (0, M17) else F_X7_answers_36 (F_X7_answers_2 n) x1 x2 x3 M17)))
def F_X7_answers (x1 : Int32) (x2 : Int32) (M : Mem) : Option (Int32 × Mem) := F_X7_answers_2 fu x1 x2 0 M
set_option maxHeartbeats 4000000 in
set_option maxRecDepth 100000 in
theorem b_X7_answers_36 {k2 : Int32 → Int32 → Int32 → Mem → Option (Int32 × Mem)} {M0 : Mem} {r0 : Int32} (hC : SX p m c s args cX7_answers 4 RX7 G (AG G)) (hr : meth.sig.returnType = (some .boolean)) (hlk : meth.locks = false) (hn : ∀ i ∈ LsF, i ∈ gL G) (hk2 : ∀ (x1 : Int32) (x2 : Int32) (x3 : Int32) (M : Mem) (H : Heap) (locs : List Loc) (ls : Array Slot), k2 x1 x2 x3 M = some (r0, M0) → ST G (AG G) s M H locs → lv_has ls 4 [(0, .ref (G.1 61)), (1, .int x1), (2, .int x2), (3, .int x3)] → W p l e (RM 1 21) s m args below meth c H locs 0 0 (MQ below (QV G (some (.int r0)) M0) args s 0 0 (AG G)) (F0 m 2 ls [])) : ∀ (x1 : Int32) (x2 : Int32) (x3 : Int32) (M : Mem) (H : Heap) (locs : List Loc) (ls : Array Slot), F_X7_answers_36 k2 x1 x2 x3 M = some (r0, M0) → ST G (AG G) s M H locs → lv_has ls 4 [(0, .ref (G.1 61)), (1, .int x1), (2, .int x2), (3, .int x3)] → W p l e (RM 1 21) s m args below meth c H locs 0 0 (MQ below (QV G (some (.int r0)) M0) args s 0 0 (AG G)) (F0 m 36 ls []) := by
  obtain ⟨⟨hx, hb, hml, hown, hts⟩, hK, hG, hA⟩ := id hC
  intro x1 x2 x3 M H locs ls hF hS hl
  unfold F_X7_answers_36 at hF
  refine lv_iinc (v := x3 + 1) (lv' := [(3, .int (x3 + 1)), (0, .ref (G.1 61)), (1, .int x1), (2, .int x2)]) hx hb dX7_answers_36 hl (k := 3) rfl rfl (by decide) rfl (fun ls hl => ?_)
  refine lv_goto (tgt := 2) hx hb dX7_answers_39 (by decide) ?_
  exact hk2 _ _ _ _ _ _ _ hF hS (lv_sub hl [1, 2, 3, 0] rfl)
set_option maxHeartbeats 4000000 in
set_option maxRecDepth 100000 in
theorem b_X7_answers_2 {M0 : Mem} {r0 : Int32} (hC : SX p m c s args cX7_answers 4 RX7 G (AG G)) (hr : meth.sig.returnType = (some .boolean)) (hlk : meth.locks = false) (hn : ∀ i ∈ LsF, i ∈ gL G) : ∀ (n : Nat) (x1 : Int32) (x2 : Int32) (x3 : Int32) (M : Mem) (H : Heap) (locs : List Loc) (ls : Array Slot), F_X7_answers_2 n x1 x2 x3 M = some (r0, M0) → ST G (AG G) s M H locs → lv_has ls 4 [(0, .ref (G.1 61)), (1, .int x1), (2, .int x2), (3, .int x3)] → W p l e (RM 1 21) s m args below meth c H locs 0 0 (MQ below (QV G (some (.int r0)) M0) args s 0 0 (AG G)) (F0 m 2 ls []) := by
  obtain ⟨⟨hx, hb, hml, hown, hts⟩, hK, hG, hA⟩ := id hC
  intro n
  induction n with
  | zero =>
    intro x1 x2 x3 M H locs ls hF
    cases hF
  | succ n ih =>
    intro x1 x2 x3 M H locs ls hF hS hl
    unfold F_X7_answers_2 at hF
    refine lv_iload_n hx hb dX7_answers_2 rfl (lv_at hl 3 rfl) ?_
    refine lv_aload_n hx hb dX7_answers_3 rfl (lv_at hl 0 rfl) ?_
    refine gx (ci := 7) (k := 2) (v := .int (M.1 40)) (C := RX7) (T := TX7) (N := 29) hC hS (hn _ (by decide)) rfl rfl in_X7 (by decide) rfl rfl lf_X7_82 dX7_answers_4 ?_
    refine lv_icmp_ge (tgt := 42) hx hb dX7_answers_7 (by decide) (fun hc => ?_) (fun hc => ?_)
    · rw [if_pos hc] at hF
      refine lv_iconst (v := 1) hx hb dX7_answers_42 (by decide) ?_
      exact retZ hC hS hr hlk rfl hF dX7_answers_43
    · rw [if_neg hc] at hF
      refine lv_aload_n hx hb dX7_answers_10 rfl (lv_at hl 0 rfl) ?_
      refine gx (ci := 7) (k := 20) (v := .ref (G.1 34)) (C := RX7) (T := TX7) (N := 29) hC hS (hn _ (by decide)) rfl rfl in_X7 (by decide) rfl rfl lf_X7_46 dX7_answers_11 ?_
      refine lv_iload_n hx hb dX7_answers_14 rfl (lv_at hl 2 rfl) ?_
      obtain ⟨hi, hF⟩ := ckb_some hF
      refine ald hC hS (hn _ (by decide)) (by decide) rfl hi dX7_answers_15 ?_
      refine lv_iload_n hx hb dX7_answers_16 rfl (lv_at hl 3 rfl) ?_
      obtain ⟨r17, M17, h17, hF⟩ := bd_some hF
      refine cS_ (As := [.int (M.2 34 x2.toNatClampNeg), .int x3]) (v := some (.int r17)) (rest := []) (st1 := [.int r17]) hC hS (c_X7_has l G hn (M.2 34 x2.toNatClampNeg) x3 M _ _ h17) kS_X7_has lm_X7_151 ⟨Nat.le_of_ble_eq_true rfl, Nat.le_of_ble_eq_true rfl⟩ rfl hl.1 (Nat.le_of_ble_eq_true rfl) dX7_answers_17 ⟨Nat.le_refl _, Nat.le_refl _⟩ rfl (fun H locs hS => ?_)
      refine lv_if_eq (tgt := 36) hx hb dX7_answers_20 (by decide) (fun hc => ?_) (fun hc => ?_)
      · rw [if_pos hc] at hF
        exact b_X7_answers_36 hC hr hlk hn ih _ _ _ _ _ _ _ hF hS (lv_sub hl [0, 1, 2, 3] rfl)
      · rw [if_neg hc] at hF
        refine lv_aload_n hx hb dX7_answers_23 rfl (lv_at hl 0 rfl) ?_
        refine gx (ci := 7) (k := 20) (v := .ref (G.1 34)) (C := RX7) (T := TX7) (N := 29) hC hS (hn _ (by decide)) rfl rfl in_X7 (by decide) rfl rfl lf_X7_46 dX7_answers_24 ?_
        refine lv_iload_n hx hb dX7_answers_27 rfl (lv_at hl 3 rfl) ?_
        obtain ⟨hi, hF⟩ := ckb_some hF
        refine ald hC hS (hn _ (by decide)) (by decide) rfl hi dX7_answers_28 ?_
        refine lv_iload_n hx hb dX7_answers_29 rfl (lv_at hl 1 rfl) ?_
        refine lv_iand hx hb dX7_answers_30 ?_
        refine lv_if_ne (tgt := 36) hx hb dX7_answers_31 (by decide) (fun hc => ?_) (fun hc => ?_)
        · rw [if_neg hc] at hF
          exact b_X7_answers_36 hC hr hlk hn ih _ _ _ _ _ _ _ hF hS (lv_sub hl [0, 1, 2, 3] rfl)
        · rw [if_pos hc] at hF
          refine lv_iconst (v := 0) hx hb dX7_answers_34 (by decide) ?_
          exact retZ hC hS hr hlk rfl hF dX7_answers_35
set_option maxHeartbeats 4000000 in
set_option maxRecDepth 100000 in
theorem b_X7_answers {M0 : Mem} {r0 : Int32} (hC : SX p m c s args cX7_answers 4 RX7 G (AG G)) (hr : meth.sig.returnType = (some .boolean)) (hlk : meth.locks = false) (hn : ∀ i ∈ LsF, i ∈ gL G) : ∀ (x1 : Int32) (x2 : Int32) (M : Mem) (H : Heap) (locs : List Loc) (ls : Array Slot), F_X7_answers x1 x2 M = some (r0, M0) → ST G (AG G) s M H locs → lv_has ls 4 [(0, .ref (G.1 61)), (1, .int x1), (2, .int x2)] → W p l e (RM 1 21) s m args below meth c H locs 0 0 (MQ below (QV G (some (.int r0)) M0) args s 0 0 (AG G)) (F0 m 0 ls []) := by
  obtain ⟨⟨hx, hb, hml, hown, hts⟩, hK, hG, hA⟩ := id hC
  intro x1 x2 M H locs ls hF hS hl
  unfold F_X7_answers at hF
  refine lv_iconst (v := 0) hx hb dX7_answers_0 (by decide) ?_
  refine lv_istore_n (lv' := [(3, .int 0), (0, .ref (G.1 61)), (1, .int x1), (2, .int x2)]) hx hb dX7_answers_1 rfl hl (by decide) rfl (fun ls hl => ?_)
  exact b_X7_answers_2 hC hr hlk hn fu _ _ _ _ _ _ _ hF hS (lv_sub hl [1, 2, 3, 0] rfl)
set_option maxRecDepth 100000 in
theorem c_X7_answers (l : Launch) (G : GT) (hn : ∀ i ∈ LsF, i ∈ gL G) (x1 : Int32) (x2 : Int32) (M : Mem) (r0 : Int32) (M0 : Mem) (hF : F_X7_answers x1 x2 M = some (r0, M0)) : MetG l G yX7_answers cX7_answers 4 (some .boolean) 1 21 [.ref (G.1 61), .int x1, .int x2] M (some (.int r0)) M0 := by
  refine MetG.of (by decide) (Nat.le_of_ble_eq_true rfl) ?_
  intro p e s m args below meth c hC hr hlk hnm ls hS hl
  exact b_X7_answers hC hr hlk hn _ _ _ _ _ _ hF hS hl
def F_X7_isSound_53 (k15 : Int32 → Int32 → Mem → Option (Int32 × Mem)) (x1 : Int32) (x2 : Int32) (M : Mem) : Option (Int32 × Mem) := k15 x1 (x2 + 1) M
def F_X7_isSound_15 : Nat → Int32 → Int32 → Mem → Option (Int32 × Mem)
  | 0, _, _, _ => none
  | n + 1, x1, x2, M => if (M.1 40) ≤ x2 then some (1, M) else bd (F_X7_has x1 x2 M) (fun r25 M25 => if r25 = 0 then F_X7_isSound_53 (F_X7_isSound_15 n) x1 x2 M25 else ckb (ix x2 10) (if ((M25.2 34 x2.toNatClampNeg) &&& x1) = 0 then bd (F_X7_answers x1 x2 M25) (fun r45 M45 => if r45 = 0 then some (0, M45) else F_X7_isSound_53 (F_X7_isSound_15 n) x1 x2 M45) else some (0, M25)))
def F_X7_isSound (x1 : Int32) (M : Mem) : Option (Int32 × Mem) := if (x1 &&& ((M.1 47) ^^^ (-1))) = 0 then F_X7_isSound_15 fu x1 0 M else some (0, M)
set_option maxHeartbeats 4000000 in
set_option maxRecDepth 100000 in
theorem b_X7_isSound_53 {k15 : Int32 → Int32 → Mem → Option (Int32 × Mem)} {M0 : Mem} {r0 : Int32} (hC : SX p m c s args cX7_isSound 3 RX7 G (AG G)) (hr : meth.sig.returnType = (some .boolean)) (hlk : meth.locks = false) (hn : ∀ i ∈ LsF, i ∈ gL G) (hk15 : ∀ (x1 : Int32) (x2 : Int32) (M : Mem) (H : Heap) (locs : List Loc) (ls : Array Slot), k15 x1 x2 M = some (r0, M0) → ST G (AG G) s M H locs → lv_has ls 3 [(0, .ref (G.1 61)), (1, .int x1), (2, .int x2)] → W p l e (RM 2 44) s m args below meth c H locs 0 0 (MQ below (QV G (some (.int r0)) M0) args s 0 0 (AG G)) (F0 m 15 ls [])) : ∀ (x1 : Int32) (x2 : Int32) (M : Mem) (H : Heap) (locs : List Loc) (ls : Array Slot), F_X7_isSound_53 k15 x1 x2 M = some (r0, M0) → ST G (AG G) s M H locs → lv_has ls 3 [(0, .ref (G.1 61)), (1, .int x1), (2, .int x2)] → W p l e (RM 2 44) s m args below meth c H locs 0 0 (MQ below (QV G (some (.int r0)) M0) args s 0 0 (AG G)) (F0 m 53 ls []) := by
  obtain ⟨⟨hx, hb, hml, hown, hts⟩, hK, hG, hA⟩ := id hC
  intro x1 x2 M H locs ls hF hS hl
  unfold F_X7_isSound_53 at hF
  refine lv_iinc (v := x2 + 1) (lv' := [(2, .int (x2 + 1)), (0, .ref (G.1 61)), (1, .int x1)]) hx hb dX7_isSound_53 hl (k := 2) rfl rfl (by decide) rfl (fun ls hl => ?_)
  refine lv_goto (tgt := 15) hx hb dX7_isSound_56 (by decide) ?_
  exact hk15 _ _ _ _ _ _ hF hS (lv_sub hl [1, 2, 0] rfl)
set_option maxHeartbeats 4000000 in
set_option maxRecDepth 100000 in
theorem b_X7_isSound_15 {M0 : Mem} {r0 : Int32} (hC : SX p m c s args cX7_isSound 3 RX7 G (AG G)) (hr : meth.sig.returnType = (some .boolean)) (hlk : meth.locks = false) (hn : ∀ i ∈ LsF, i ∈ gL G) : ∀ (n : Nat) (x1 : Int32) (x2 : Int32) (M : Mem) (H : Heap) (locs : List Loc) (ls : Array Slot), F_X7_isSound_15 n x1 x2 M = some (r0, M0) → ST G (AG G) s M H locs → lv_has ls 3 [(0, .ref (G.1 61)), (1, .int x1), (2, .int x2)] → W p l e (RM 2 44) s m args below meth c H locs 0 0 (MQ below (QV G (some (.int r0)) M0) args s 0 0 (AG G)) (F0 m 15 ls []) := by
  obtain ⟨⟨hx, hb, hml, hown, hts⟩, hK, hG, hA⟩ := id hC
  intro n
  induction n with
  | zero =>
    intro x1 x2 M H locs ls hF
    cases hF
  | succ n ih =>
    intro x1 x2 M H locs ls hF hS hl
    unfold F_X7_isSound_15 at hF
    refine lv_iload_n hx hb dX7_isSound_15 rfl (lv_at hl 2 rfl) ?_
    refine lv_aload_n hx hb dX7_isSound_16 rfl (lv_at hl 0 rfl) ?_
    refine gx (ci := 7) (k := 2) (v := .int (M.1 40)) (C := RX7) (T := TX7) (N := 29) hC hS (hn _ (by decide)) rfl rfl in_X7 (by decide) rfl rfl lf_X7_82 dX7_isSound_17 ?_
    refine lv_icmp_ge (tgt := 59) hx hb dX7_isSound_20 (by decide) (fun hc => ?_) (fun hc => ?_)
    · rw [if_pos hc] at hF
      refine lv_iconst (v := 1) hx hb dX7_isSound_59 (by decide) ?_
      exact retZ hC hS hr hlk rfl hF dX7_isSound_60
    · rw [if_neg hc] at hF
      refine lv_iload_n hx hb dX7_isSound_23 rfl (lv_at hl 1 rfl) ?_
      refine lv_iload_n hx hb dX7_isSound_24 rfl (lv_at hl 2 rfl) ?_
      obtain ⟨r25, M25, h25, hF⟩ := bd_some hF
      refine cS_ (As := [.int x1, .int x2]) (v := some (.int r25)) (rest := []) (st1 := [.int r25]) hC hS (c_X7_has l G hn x1 x2 M _ _ h25) kS_X7_has lm_X7_151 ⟨Nat.le_of_ble_eq_true rfl, Nat.le_of_ble_eq_true rfl⟩ rfl hl.1 (Nat.le_of_ble_eq_true rfl) dX7_isSound_25 ⟨Nat.le_refl _, Nat.le_refl _⟩ rfl (fun H locs hS => ?_)
      refine lv_if_eq (tgt := 53) hx hb dX7_isSound_28 (by decide) (fun hc => ?_) (fun hc => ?_)
      · rw [if_pos hc] at hF
        exact b_X7_isSound_53 hC hr hlk hn ih _ _ _ _ _ _ hF hS (lv_sub hl [0, 1, 2] rfl)
      · rw [if_neg hc] at hF
        refine lv_aload_n hx hb dX7_isSound_31 rfl (lv_at hl 0 rfl) ?_
        refine gx (ci := 7) (k := 20) (v := .ref (G.1 34)) (C := RX7) (T := TX7) (N := 29) hC hS (hn _ (by decide)) rfl rfl in_X7 (by decide) rfl rfl lf_X7_46 dX7_isSound_32 ?_
        refine lv_iload_n hx hb dX7_isSound_35 rfl (lv_at hl 2 rfl) ?_
        obtain ⟨hi, hF⟩ := ckb_some hF
        refine ald hC hS (hn _ (by decide)) (by decide) rfl hi dX7_isSound_36 ?_
        refine lv_iload_n hx hb dX7_isSound_37 rfl (lv_at hl 1 rfl) ?_
        refine lv_iand hx hb dX7_isSound_38 ?_
        refine lv_if_ne (tgt := 51) hx hb dX7_isSound_39 (by decide) (fun hc => ?_) (fun hc => ?_)
        · rw [if_neg hc] at hF
          refine lv_iconst (v := 0) hx hb dX7_isSound_51 (by decide) ?_
          exact retZ hC hS hr hlk rfl hF dX7_isSound_52
        · rw [if_pos hc] at hF
          refine lv_aload_n hx hb dX7_isSound_42 rfl (lv_at hl 0 rfl) ?_
          refine lv_iload_n hx hb dX7_isSound_43 rfl (lv_at hl 1 rfl) ?_
          refine lv_iload_n hx hb dX7_isSound_44 rfl (lv_at hl 2 rfl) ?_
          obtain ⟨r45, M45, h45, hF⟩ := bd_some hF
          refine cV_ (ci := 7) (i := 61) (C := RX7) (T := TX7) (N := 29) (As := [.int x1, .int x2]) (v := some (.int r45)) (rest := []) (st1 := [.int r45]) hC hS (hn _ (by decide)) rfl rfl (c_X7_answers l G hn x1 x2 M25 _ _ h45) kV_X7_answers lm_X7_197 ⟨Nat.le_of_ble_eq_true rfl, Nat.le_of_ble_eq_true rfl⟩ rfl hl.1 (Nat.le_of_ble_eq_true rfl) dX7_isSound_45 ⟨Nat.le_refl _, Nat.le_refl _⟩ rfl (fun H locs hS => ?_)
          refine lv_if_ne (tgt := 53) hx hb dX7_isSound_48 (by decide) (fun hc => ?_) (fun hc => ?_)
          · rw [if_neg hc] at hF
            exact b_X7_isSound_53 hC hr hlk hn ih _ _ _ _ _ _ hF hS (lv_sub hl [0, 1, 2] rfl)
          · rw [if_pos hc] at hF
            refine lv_iconst (v := 0) hx hb dX7_isSound_51 (by decide) ?_
            exact retZ hC hS hr hlk rfl hF dX7_isSound_52
set_option maxHeartbeats 4000000 in
set_option maxRecDepth 100000 in
theorem b_X7_isSound {M0 : Mem} {r0 : Int32} (hC : SX p m c s args cX7_isSound 3 RX7 G (AG G)) (hr : meth.sig.returnType = (some .boolean)) (hlk : meth.locks = false) (hn : ∀ i ∈ LsF, i ∈ gL G) : ∀ (x1 : Int32) (M : Mem) (H : Heap) (locs : List Loc) (ls : Array Slot), F_X7_isSound x1 M = some (r0, M0) → ST G (AG G) s M H locs → lv_has ls 3 [(0, .ref (G.1 61)), (1, .int x1)] → W p l e (RM 2 44) s m args below meth c H locs 0 0 (MQ below (QV G (some (.int r0)) M0) args s 0 0 (AG G)) (F0 m 0 ls []) := by
  obtain ⟨⟨hx, hb, hml, hown, hts⟩, hK, hG, hA⟩ := id hC
  intro x1 M H locs ls hF hS hl
  unfold F_X7_isSound at hF
  refine lv_iload_n hx hb dX7_isSound_0 rfl (lv_at hl 1 rfl) ?_
  refine lv_aload_n hx hb dX7_isSound_1 rfl (lv_at hl 0 rfl) ?_
  refine gx (ci := 7) (k := 19) (v := .int (M.1 47)) (C := RX7) (T := TX7) (N := 29) hC hS (hn _ (by decide)) rfl rfl in_X7 (by decide) rfl rfl lf_X7_187 dX7_isSound_2 ?_
  refine lv_iconst (v := (-1)) hx hb dX7_isSound_5 (by decide) ?_
  refine lv_ixor hx hb dX7_isSound_6 ?_
  refine lv_iand hx hb dX7_isSound_7 ?_
  refine lv_if_eq (tgt := 13) hx hb dX7_isSound_8 (by decide) (fun hc => ?_) (fun hc => ?_)
  · rw [if_pos hc] at hF
    refine lv_iconst (v := 0) hx hb dX7_isSound_13 (by decide) ?_
    refine lv_istore_n (lv' := [(2, .int 0), (0, .ref (G.1 61)), (1, .int x1)]) hx hb dX7_isSound_14 rfl hl (by decide) rfl (fun ls hl => ?_)
    exact b_X7_isSound_15 hC hr hlk hn fu _ _ _ _ _ _ hF hS (lv_sub hl [1, 2, 0] rfl)
  · rw [if_neg hc] at hF
    refine lv_iconst (v := 0) hx hb dX7_isSound_11 (by decide) ?_
    exact retZ hC hS hr hlk rfl hF dX7_isSound_12
set_option maxRecDepth 100000 in
theorem c_X7_isSound (l : Launch) (G : GT) (hn : ∀ i ∈ LsF, i ∈ gL G) (x1 : Int32) (M : Mem) (r0 : Int32) (M0 : Mem) (hF : F_X7_isSound x1 M = some (r0, M0)) : MetG l G yX7_isSound cX7_isSound 3 (some .boolean) 2 44 [.ref (G.1 61), .int x1] M (some (.int r0)) M0 := by
  refine MetG.of (by decide) (Nat.le_of_ble_eq_true rfl) ?_
  intro p e s m args below meth c hC hr hlk hnm ls hS hl
  exact b_X7_isSound hC hr hlk hn _ _ _ _ _ hF hS hl
def F_X7_sound (x1 : Int32) (x2 : Int32) (M : Mem) : Option (Int32 × Mem) := bd (F_X7_isLaw x1 M) (fun r1 M1 => if r1 = 0 then some ((-2), M1) else bd (F_X7_all M1) (fun r10 M10 => bd (F_X7_in x2 0 r10 M10) (fun r13 M13 => if r13 = 0 then some ((-2), M13) else bd (F_X7_heardOnes M13) (fun r25 M25 => bdv (F_X7_meetsAll x1 r25 M25) (fun M28 => bd (F_X7_isSound x2 M28) (fun r33 M33 => if r33 = 0 then some (0, M33) else some (1, M33)))))))
set_option maxHeartbeats 4000000 in
set_option maxRecDepth 100000 in
theorem b_X7_sound {M0 : Mem} {r0 : Int32} (hC : SX p m c s args cX7_sound 3 RX7 G (AG G)) (hr : meth.sig.returnType = (some .int)) (hlk : meth.locks = false) (hn : ∀ i ∈ LsF, i ∈ gL G) : ∀ (x1 : Int32) (x2 : Int32) (M : Mem) (H : Heap) (locs : List Loc) (ls : Array Slot), F_X7_sound x1 x2 M = some (r0, M0) → ST G (AG G) s M H locs → lv_has ls 3 [(0, .ref (G.1 61)), (1, .int x1), (2, .int x2)] → W p l e (RM 4 93) s m args below meth c H locs 0 0 (MQ below (QV G (some (.int r0)) M0) args s 0 0 (AG G)) (F0 m 0 ls []) := by
  obtain ⟨⟨hx, hb, hml, hown, hts⟩, hK, hG, hA⟩ := id hC
  intro x1 x2 M H locs ls hF hS hl
  unfold F_X7_sound at hF
  refine lv_iload_n hx hb dX7_sound_0 rfl (lv_at hl 1 rfl) ?_
  obtain ⟨r1, M1, h1, hF⟩ := bd_some hF
  refine cS_ (As := [.int x1]) (v := some (.int r1)) (rest := []) (st1 := [.int r1]) hC hS (c_X7_isLaw l G hn x1 M _ _ h1) kS_X7_isLaw lm_X7_120 ⟨Nat.le_of_ble_eq_true rfl, Nat.le_of_ble_eq_true rfl⟩ rfl hl.1 (Nat.le_of_ble_eq_true rfl) dX7_sound_1 ⟨Nat.le_refl _, Nat.le_refl _⟩ rfl (fun H locs hS => ?_)
  refine lv_if_eq (tgt := 19) hx hb dX7_sound_4 (by decide) (fun hc => ?_) (fun hc => ?_)
  · rw [if_pos hc] at hF
    refine lv_bipush (v := (-2)) hx hb dX7_sound_19 (by decide) ?_
    exact retI hC hS hr hlk hF dX7_sound_21
  · rw [if_neg hc] at hF
    refine lv_iload_n hx hb dX7_sound_7 rfl (lv_at hl 2 rfl) ?_
    refine lv_iconst (v := 0) hx hb dX7_sound_8 (by decide) ?_
    refine lv_aload_n hx hb dX7_sound_9 rfl (lv_at hl 0 rfl) ?_
    obtain ⟨r10, M10, h10, hF⟩ := bd_some hF
    refine cV_ (ci := 7) (i := 61) (C := RX7) (T := TX7) (N := 29) (As := []) (v := some (.int r10)) (rest := [.int 0, .int x2]) (st1 := [.int r10, .int 0, .int x2]) hC hS (hn _ (by decide)) rfl rfl (c_X7_all l G hn M1 _ _ h10) kV_X7_all lm_X7_97 ⟨Nat.le_of_ble_eq_true rfl, Nat.le_of_ble_eq_true rfl⟩ rfl hl.1 (Nat.le_of_ble_eq_true rfl) dX7_sound_10 ⟨Nat.le_refl _, Nat.le_refl _⟩ rfl (fun H locs hS => ?_)
    obtain ⟨r13, M13, h13, hF⟩ := bd_some hF
    refine cS_ (As := [.int x2, .int 0, .int r10]) (v := some (.int r13)) (rest := []) (st1 := [.int r13]) hC hS (c_X7_in l G hn x2 0 r10 M10 _ _ h13) kS_X7_in lm_X7_71 ⟨Nat.le_of_ble_eq_true rfl, Nat.le_of_ble_eq_true rfl⟩ rfl hl.1 (Nat.le_of_ble_eq_true rfl) dX7_sound_13 ⟨Nat.le_refl _, Nat.le_refl _⟩ rfl (fun H locs hS => ?_)
    refine lv_if_ne (tgt := 22) hx hb dX7_sound_16 (by decide) (fun hc => ?_) (fun hc => ?_)
    · rw [if_neg hc] at hF
      refine lv_aload_n hx hb dX7_sound_22 rfl (lv_at hl 0 rfl) ?_
      refine lv_iload_n hx hb dX7_sound_23 rfl (lv_at hl 1 rfl) ?_
      refine lv_aload_n hx hb dX7_sound_24 rfl (lv_at hl 0 rfl) ?_
      obtain ⟨r25, M25, h25, hF⟩ := bd_some hF
      refine cV_ (ci := 7) (i := 61) (C := RX7) (T := TX7) (N := 29) (As := []) (v := some (.int r25)) (rest := [.int x1, .ref (G.1 61)]) (st1 := [.int r25, .int x1, .ref (G.1 61)]) hC hS (hn _ (by decide)) rfl rfl (c_X7_heardOnes l G hn M13 _ _ h25) kV_X7_heardOnes lm_X7_162 ⟨Nat.le_of_ble_eq_true rfl, Nat.le_of_ble_eq_true rfl⟩ rfl hl.1 (Nat.le_of_ble_eq_true rfl) dX7_sound_25 ⟨Nat.le_refl _, Nat.le_refl _⟩ rfl (fun H locs hS => ?_)
      obtain ⟨M28, h28, hF⟩ := bdv_some hF
      refine cV_ (ci := 7) (i := 61) (C := RX7) (T := TX7) (N := 29) (As := [.int x1, .int r25]) (v := none) (rest := []) (st1 := []) hC hS (hn _ (by decide)) rfl rfl (c_X7_meetsAll l G hn x1 r25 M25 _ h28) kV_X7_meetsAll lm_X7_193 ⟨Nat.le_of_ble_eq_true rfl, Nat.le_of_ble_eq_true rfl⟩ rfl hl.1 (Nat.le_of_ble_eq_true rfl) dX7_sound_28 ⟨Nat.le_refl _, Nat.le_refl _⟩ rfl (fun H locs hS => ?_)
      refine lv_aload_n hx hb dX7_sound_31 rfl (lv_at hl 0 rfl) ?_
      refine lv_iload_n hx hb dX7_sound_32 rfl (lv_at hl 2 rfl) ?_
      obtain ⟨r33, M33, h33, hF⟩ := bd_some hF
      refine cV_ (ci := 7) (i := 61) (C := RX7) (T := TX7) (N := 29) (As := [.int x2]) (v := some (.int r33)) (rest := []) (st1 := [.int r33]) hC hS (hn _ (by decide)) rfl rfl (c_X7_isSound l G hn x2 M28 _ _ h33) kV_X7_isSound lm_X7_200 ⟨Nat.le_of_ble_eq_true rfl, Nat.le_of_ble_eq_true rfl⟩ rfl hl.1 (Nat.le_of_ble_eq_true rfl) dX7_sound_33 ⟨Nat.le_refl _, Nat.le_refl _⟩ rfl (fun H locs hS => ?_)
      refine lv_if_eq (tgt := 43) hx hb dX7_sound_36 (by decide) (fun hc => ?_) (fun hc => ?_)
      · rw [if_pos hc] at hF
        refine lv_iconst (v := 0) hx hb dX7_sound_43 (by decide) ?_
        exact retI hC hS hr hlk hF dX7_sound_44
      · rw [if_neg hc] at hF
        refine lv_iconst (v := 1) hx hb dX7_sound_39 (by decide) ?_
        refine lv_goto (tgt := 44) hx hb dX7_sound_40 (by decide) ?_
        exact retI hC hS hr hlk hF dX7_sound_44
    · rw [if_pos hc] at hF
      refine lv_bipush (v := (-2)) hx hb dX7_sound_19 (by decide) ?_
      exact retI hC hS hr hlk hF dX7_sound_21
set_option maxRecDepth 100000 in
theorem c_X7_sound (l : Launch) (G : GT) (hn : ∀ i ∈ LsF, i ∈ gL G) (x1 : Int32) (x2 : Int32) (M : Mem) (r0 : Int32) (M0 : Mem) (hF : F_X7_sound x1 x2 M = some (r0, M0)) : MetG l G yX7_sound cX7_sound 3 (some .int) 4 93 [.ref (G.1 61), .int x1, .int x2] M (some (.int r0)) M0 := by
  refine MetG.of (by decide) (Nat.le_of_ble_eq_true rfl) ?_
  intro p e s m args below meth c hC hr hlk hnm ls hS hl
  exact b_X7_sound hC hr hlk hn _ _ _ _ _ _ hF hS hl
def F_X7_leastNow_71 (k4 : Int32 → Int32 → Mem → Option (Int32 × Mem)) (x3 : Int32) (t0 : Int32) (M : Mem) : Option (Int32 × Mem) := k4 x3 t0 M
def F_X7_leastNow_53 (k4 : Int32 → Int32 → Mem → Option (Int32 × Mem)) (k13 : Int32 → Int32 → Int32 → Mem → Option (Int32 × Mem)) (x1 : Int32) (x4 : Int32) (t0 : Int32) (t1 : Int32) (M : Mem) : Option (Int32 × Mem) := k13 x1 (t0 ||| t1) (x4 + 1) M
def F_X7_leastNow_52 (k4 : Int32 → Int32 → Mem → Option (Int32 × Mem)) (k13 : Int32 → Int32 → Int32 → Mem → Option (Int32 × Mem)) (x1 : Int32) (x4 : Int32) (t0 : Int32) (M : Mem) : Option (Int32 × Mem) := F_X7_leastNow_53 k4 k13 x1 x4 t0 0 M
def F_X7_leastNow_13 (k4 : Int32 → Int32 → Mem → Option (Int32 × Mem)) : Nat → Int32 → Int32 → Int32 → Mem → Option (Int32 × Mem)
  | 0, _, _, _, _ => none
  | n + 1, x1, x3, x4, M => if (M.1 40) ≤ x4 then if x3 = x1 then F_X7_leastNow_71 k4 x3 0 M else F_X7_leastNow_71 k4 x3 1 M else bd (F_X7_has (M.1 47) x4 M) (fun r29 M29 => if r29 = 0 then F_X7_leastNow_52 k4 (F_X7_leastNow_13 k4 n) x1 x4 x3 M29 else bd (F_X7_answers x1 x4 M29) (fun r39 M39 => if r39 = 0 then F_X7_leastNow_52 k4 (F_X7_leastNow_13 k4 n) x1 x4 x3 M39 else F_X7_leastNow_53 k4 (F_X7_leastNow_13 k4 n) x1 x4 x3 ((1 : Int32) <<< (x4 &&& 31)) M39))
def F_X7_leastNow_4 : Nat → Int32 → Int32 → Mem → Option (Int32 × Mem)
  | 0, _, _, _ => none
  | n + 1, x1, x2, M => if x2 = 0 then some (x1, M) else F_X7_leastNow_13 (F_X7_leastNow_4 n) fu x1 x1 0 M
def F_X7_leastNow (M : Mem) : Option (Int32 × Mem) := F_X7_leastNow_4 fu 0 1 M
set_option maxHeartbeats 4000000 in
set_option maxRecDepth 100000 in
theorem b_X7_leastNow_71 {k4 : Int32 → Int32 → Mem → Option (Int32 × Mem)} {M0 : Mem} {r0 : Int32} (hC : SX p m c s args cX7_leastNow 5 RX7 G (AG G)) (hr : meth.sig.returnType = (some .int)) (hlk : meth.locks = false) (hn : ∀ i ∈ LsF, i ∈ gL G) (hk4 : ∀ (x1 : Int32) (x2 : Int32) (M : Mem) (H : Heap) (locs : List Loc) (ls : Array Slot), k4 x1 x2 M = some (r0, M0) → ST G (AG G) s M H locs → lv_has ls 5 [(0, .ref (G.1 61)), (1, .int x1), (2, .int x2)] → W p l e (RM 2 44) s m args below meth c H locs 0 0 (MQ below (QV G (some (.int r0)) M0) args s 0 0 (AG G)) (F0 m 4 ls [])) : ∀ (x3 : Int32) (t0 : Int32) (M : Mem) (H : Heap) (locs : List Loc) (ls : Array Slot), F_X7_leastNow_71 k4 x3 t0 M = some (r0, M0) → ST G (AG G) s M H locs → lv_has ls 5 [(0, .ref (G.1 61)), (3, .int x3)] → W p l e (RM 2 44) s m args below meth c H locs 0 0 (MQ below (QV G (some (.int r0)) M0) args s 0 0 (AG G)) (F0 m 71 ls [.int t0]) := by
  obtain ⟨⟨hx, hb, hml, hown, hts⟩, hK, hG, hA⟩ := id hC
  intro x3 t0 M H locs ls hF hS hl
  unfold F_X7_leastNow_71 at hF
  refine lv_istore_n (lv' := [(2, .int t0), (0, .ref (G.1 61)), (3, .int x3)]) hx hb dX7_leastNow_71 rfl hl (by decide) rfl (fun ls hl => ?_)
  refine lv_iload_n hx hb dX7_leastNow_72 rfl (lv_at hl 2 rfl) ?_
  refine lv_istore_n (lv' := [(1, .int x3), (2, .int t0), (0, .ref (G.1 61)), (3, .int x3)]) hx hb dX7_leastNow_73 rfl hl (by decide) rfl (fun ls hl => ?_)
  refine lv_goto (tgt := 4) hx hb dX7_leastNow_74 (by decide) ?_
  exact hk4 _ _ _ _ _ _ hF hS (lv_sub hl [2, 0, 1] rfl)
set_option maxHeartbeats 4000000 in
set_option maxRecDepth 100000 in
theorem b_X7_leastNow_53 {k4 : Int32 → Int32 → Mem → Option (Int32 × Mem)} {k13 : Int32 → Int32 → Int32 → Mem → Option (Int32 × Mem)} {M0 : Mem} {r0 : Int32} (hC : SX p m c s args cX7_leastNow 5 RX7 G (AG G)) (hr : meth.sig.returnType = (some .int)) (hlk : meth.locks = false) (hn : ∀ i ∈ LsF, i ∈ gL G) (hk4 : ∀ (x1 : Int32) (x2 : Int32) (M : Mem) (H : Heap) (locs : List Loc) (ls : Array Slot), k4 x1 x2 M = some (r0, M0) → ST G (AG G) s M H locs → lv_has ls 5 [(0, .ref (G.1 61)), (1, .int x1), (2, .int x2)] → W p l e (RM 2 44) s m args below meth c H locs 0 0 (MQ below (QV G (some (.int r0)) M0) args s 0 0 (AG G)) (F0 m 4 ls [])) (hk13 : ∀ (x1 : Int32) (x3 : Int32) (x4 : Int32) (M : Mem) (H : Heap) (locs : List Loc) (ls : Array Slot), k13 x1 x3 x4 M = some (r0, M0) → ST G (AG G) s M H locs → lv_has ls 5 [(0, .ref (G.1 61)), (1, .int x1), (3, .int x3), (4, .int x4)] → W p l e (RM 2 44) s m args below meth c H locs 0 0 (MQ below (QV G (some (.int r0)) M0) args s 0 0 (AG G)) (F0 m 13 ls [])) : ∀ (x1 : Int32) (x4 : Int32) (t0 : Int32) (t1 : Int32) (M : Mem) (H : Heap) (locs : List Loc) (ls : Array Slot), F_X7_leastNow_53 k4 k13 x1 x4 t0 t1 M = some (r0, M0) → ST G (AG G) s M H locs → lv_has ls 5 [(0, .ref (G.1 61)), (1, .int x1), (4, .int x4)] → W p l e (RM 2 44) s m args below meth c H locs 0 0 (MQ below (QV G (some (.int r0)) M0) args s 0 0 (AG G)) (F0 m 53 ls [.int t1, .int t0]) := by
  obtain ⟨⟨hx, hb, hml, hown, hts⟩, hK, hG, hA⟩ := id hC
  intro x1 x4 t0 t1 M H locs ls hF hS hl
  unfold F_X7_leastNow_53 at hF
  refine lv_ior hx hb dX7_leastNow_53 ?_
  refine lv_istore_n (lv' := [(3, .int (t0 ||| t1)), (0, .ref (G.1 61)), (1, .int x1), (4, .int x4)]) hx hb dX7_leastNow_54 rfl hl (by decide) rfl (fun ls hl => ?_)
  refine lv_iinc (v := x4 + 1) (lv' := [(4, .int (x4 + 1)), (3, .int (t0 ||| t1)), (0, .ref (G.1 61)), (1, .int x1)]) hx hb dX7_leastNow_55 hl (k := 3) rfl rfl (by decide) rfl (fun ls hl => ?_)
  refine lv_goto (tgt := 13) hx hb dX7_leastNow_58 (by decide) ?_
  exact hk13 _ _ _ _ _ _ _ hF hS (lv_sub hl [2, 3, 1, 0] rfl)
set_option maxHeartbeats 4000000 in
set_option maxRecDepth 100000 in
theorem b_X7_leastNow_52 {k4 : Int32 → Int32 → Mem → Option (Int32 × Mem)} {k13 : Int32 → Int32 → Int32 → Mem → Option (Int32 × Mem)} {M0 : Mem} {r0 : Int32} (hC : SX p m c s args cX7_leastNow 5 RX7 G (AG G)) (hr : meth.sig.returnType = (some .int)) (hlk : meth.locks = false) (hn : ∀ i ∈ LsF, i ∈ gL G) (hk4 : ∀ (x1 : Int32) (x2 : Int32) (M : Mem) (H : Heap) (locs : List Loc) (ls : Array Slot), k4 x1 x2 M = some (r0, M0) → ST G (AG G) s M H locs → lv_has ls 5 [(0, .ref (G.1 61)), (1, .int x1), (2, .int x2)] → W p l e (RM 2 44) s m args below meth c H locs 0 0 (MQ below (QV G (some (.int r0)) M0) args s 0 0 (AG G)) (F0 m 4 ls [])) (hk13 : ∀ (x1 : Int32) (x3 : Int32) (x4 : Int32) (M : Mem) (H : Heap) (locs : List Loc) (ls : Array Slot), k13 x1 x3 x4 M = some (r0, M0) → ST G (AG G) s M H locs → lv_has ls 5 [(0, .ref (G.1 61)), (1, .int x1), (3, .int x3), (4, .int x4)] → W p l e (RM 2 44) s m args below meth c H locs 0 0 (MQ below (QV G (some (.int r0)) M0) args s 0 0 (AG G)) (F0 m 13 ls [])) : ∀ (x1 : Int32) (x4 : Int32) (t0 : Int32) (M : Mem) (H : Heap) (locs : List Loc) (ls : Array Slot), F_X7_leastNow_52 k4 k13 x1 x4 t0 M = some (r0, M0) → ST G (AG G) s M H locs → lv_has ls 5 [(0, .ref (G.1 61)), (1, .int x1), (4, .int x4)] → W p l e (RM 2 44) s m args below meth c H locs 0 0 (MQ below (QV G (some (.int r0)) M0) args s 0 0 (AG G)) (F0 m 52 ls [.int t0]) := by
  obtain ⟨⟨hx, hb, hml, hown, hts⟩, hK, hG, hA⟩ := id hC
  intro x1 x4 t0 M H locs ls hF hS hl
  unfold F_X7_leastNow_52 at hF
  refine lv_iconst (v := 0) hx hb dX7_leastNow_52 (by decide) ?_
  exact b_X7_leastNow_53 hC hr hlk hn hk4 hk13 _ _ _ _ _ _ _ _ hF hS (lv_sub hl [0, 1, 2] rfl)
set_option maxHeartbeats 4000000 in
set_option maxRecDepth 100000 in
theorem b_X7_leastNow_13 {k4 : Int32 → Int32 → Mem → Option (Int32 × Mem)} {M0 : Mem} {r0 : Int32} (hC : SX p m c s args cX7_leastNow 5 RX7 G (AG G)) (hr : meth.sig.returnType = (some .int)) (hlk : meth.locks = false) (hn : ∀ i ∈ LsF, i ∈ gL G) (hk4 : ∀ (x1 : Int32) (x2 : Int32) (M : Mem) (H : Heap) (locs : List Loc) (ls : Array Slot), k4 x1 x2 M = some (r0, M0) → ST G (AG G) s M H locs → lv_has ls 5 [(0, .ref (G.1 61)), (1, .int x1), (2, .int x2)] → W p l e (RM 2 44) s m args below meth c H locs 0 0 (MQ below (QV G (some (.int r0)) M0) args s 0 0 (AG G)) (F0 m 4 ls [])) : ∀ (n : Nat) (x1 : Int32) (x3 : Int32) (x4 : Int32) (M : Mem) (H : Heap) (locs : List Loc) (ls : Array Slot), F_X7_leastNow_13 k4 n x1 x3 x4 M = some (r0, M0) → ST G (AG G) s M H locs → lv_has ls 5 [(0, .ref (G.1 61)), (1, .int x1), (3, .int x3), (4, .int x4)] → W p l e (RM 2 44) s m args below meth c H locs 0 0 (MQ below (QV G (some (.int r0)) M0) args s 0 0 (AG G)) (F0 m 13 ls []) := by
  obtain ⟨⟨hx, hb, hml, hown, hts⟩, hK, hG, hA⟩ := id hC
  intro n
  induction n with
  | zero =>
    intro x1 x3 x4 M H locs ls hF
    cases hF
  | succ n ih =>
    intro x1 x3 x4 M H locs ls hF hS hl
    unfold F_X7_leastNow_13 at hF
    refine lv_iload hx hb dX7_leastNow_13 (lv_at hl 3 rfl) ?_
    refine lv_aload_n hx hb dX7_leastNow_15 rfl (lv_at hl 0 rfl) ?_
    refine gx (ci := 7) (k := 2) (v := .int (M.1 40)) (C := RX7) (T := TX7) (N := 29) hC hS (hn _ (by decide)) rfl rfl in_X7 (by decide) rfl rfl lf_X7_82 dX7_leastNow_16 ?_
    refine lv_icmp_ge (tgt := 61) hx hb dX7_leastNow_19 (by decide) (fun hc => ?_) (fun hc => ?_)
    · rw [if_pos hc] at hF
      refine lv_iload_n hx hb dX7_leastNow_61 rfl (lv_at hl 2 rfl) ?_
      refine lv_iload_n hx hb dX7_leastNow_62 rfl (lv_at hl 1 rfl) ?_
      refine lv_icmp_eq (tgt := 70) hx hb dX7_leastNow_63 (by decide) (fun hc => ?_) (fun hc => ?_)
      · rw [if_pos hc] at hF
        refine lv_iconst (v := 0) hx hb dX7_leastNow_70 (by decide) ?_
        exact b_X7_leastNow_71 hC hr hlk hn hk4 _ _ _ _ _ _ hF hS (lv_sub hl [0, 2] rfl)
      · rw [if_neg hc] at hF
        refine lv_iconst (v := 1) hx hb dX7_leastNow_66 (by decide) ?_
        refine lv_goto (tgt := 71) hx hb dX7_leastNow_67 (by decide) ?_
        exact b_X7_leastNow_71 hC hr hlk hn hk4 _ _ _ _ _ _ hF hS (lv_sub hl [0, 2] rfl)
    · rw [if_neg hc] at hF
      refine lv_iload_n hx hb dX7_leastNow_22 rfl (lv_at hl 2 rfl) ?_
      refine lv_aload_n hx hb dX7_leastNow_23 rfl (lv_at hl 0 rfl) ?_
      refine gx (ci := 7) (k := 19) (v := .int (M.1 47)) (C := RX7) (T := TX7) (N := 29) hC hS (hn _ (by decide)) rfl rfl in_X7 (by decide) rfl rfl lf_X7_187 dX7_leastNow_24 ?_
      refine lv_iload hx hb dX7_leastNow_27 (lv_at hl 3 rfl) ?_
      obtain ⟨r29, M29, h29, hF⟩ := bd_some hF
      refine cS_ (As := [.int (M.1 47), .int x4]) (v := some (.int r29)) (rest := [.int x3]) (st1 := [.int r29, .int x3]) hC hS (c_X7_has l G hn (M.1 47) x4 M _ _ h29) kS_X7_has lm_X7_151 ⟨Nat.le_of_ble_eq_true rfl, Nat.le_of_ble_eq_true rfl⟩ rfl hl.1 (Nat.le_of_ble_eq_true rfl) dX7_leastNow_29 ⟨Nat.le_refl _, Nat.le_refl _⟩ rfl (fun H locs hS => ?_)
      refine lv_if_eq (tgt := 52) hx hb dX7_leastNow_32 (by decide) (fun hc => ?_) (fun hc => ?_)
      · rw [if_pos hc] at hF
        exact b_X7_leastNow_52 hC hr hlk hn hk4 ih _ _ _ _ _ _ _ hF hS (lv_sub hl [0, 1, 3] rfl)
      · rw [if_neg hc] at hF
        refine lv_aload_n hx hb dX7_leastNow_35 rfl (lv_at hl 0 rfl) ?_
        refine lv_iload_n hx hb dX7_leastNow_36 rfl (lv_at hl 1 rfl) ?_
        refine lv_iload hx hb dX7_leastNow_37 (lv_at hl 3 rfl) ?_
        obtain ⟨r39, M39, h39, hF⟩ := bd_some hF
        refine cV_ (ci := 7) (i := 61) (C := RX7) (T := TX7) (N := 29) (As := [.int x1, .int x4]) (v := some (.int r39)) (rest := [.int x3]) (st1 := [.int r39, .int x3]) hC hS (hn _ (by decide)) rfl rfl (c_X7_answers l G hn x1 x4 M29 _ _ h39) kV_X7_answers lm_X7_197 ⟨Nat.le_of_ble_eq_true rfl, Nat.le_of_ble_eq_true rfl⟩ rfl hl.1 (Nat.le_of_ble_eq_true rfl) dX7_leastNow_39 ⟨Nat.le_refl _, Nat.le_refl _⟩ rfl (fun H locs hS => ?_)
        refine lv_if_eq (tgt := 52) hx hb dX7_leastNow_42 (by decide) (fun hc => ?_) (fun hc => ?_)
        · rw [if_pos hc] at hF
          exact b_X7_leastNow_52 hC hr hlk hn hk4 ih _ _ _ _ _ _ _ hF hS (lv_sub hl [0, 1, 3] rfl)
        · rw [if_neg hc] at hF
          refine lv_iconst (v := 1) hx hb dX7_leastNow_45 (by decide) ?_
          refine lv_iload hx hb dX7_leastNow_46 (lv_at hl 3 rfl) ?_
          refine lv_ishl hx hb dX7_leastNow_48 ?_
          refine lv_goto (tgt := 53) hx hb dX7_leastNow_49 (by decide) ?_
          exact b_X7_leastNow_53 hC hr hlk hn hk4 ih _ _ _ _ _ _ _ _ hF hS (lv_sub hl [0, 1, 3] rfl)
set_option maxHeartbeats 4000000 in
set_option maxRecDepth 100000 in
theorem b_X7_leastNow_4 {M0 : Mem} {r0 : Int32} (hC : SX p m c s args cX7_leastNow 5 RX7 G (AG G)) (hr : meth.sig.returnType = (some .int)) (hlk : meth.locks = false) (hn : ∀ i ∈ LsF, i ∈ gL G) : ∀ (n : Nat) (x1 : Int32) (x2 : Int32) (M : Mem) (H : Heap) (locs : List Loc) (ls : Array Slot), F_X7_leastNow_4 n x1 x2 M = some (r0, M0) → ST G (AG G) s M H locs → lv_has ls 5 [(0, .ref (G.1 61)), (1, .int x1), (2, .int x2)] → W p l e (RM 2 44) s m args below meth c H locs 0 0 (MQ below (QV G (some (.int r0)) M0) args s 0 0 (AG G)) (F0 m 4 ls []) := by
  obtain ⟨⟨hx, hb, hml, hown, hts⟩, hK, hG, hA⟩ := id hC
  intro n
  induction n with
  | zero =>
    intro x1 x2 M H locs ls hF
    cases hF
  | succ n ih =>
    intro x1 x2 M H locs ls hF hS hl
    unfold F_X7_leastNow_4 at hF
    refine lv_iload_n hx hb dX7_leastNow_4 rfl (lv_at hl 2 rfl) ?_
    refine lv_if_eq (tgt := 77) hx hb dX7_leastNow_5 (by decide) (fun hc => ?_) (fun hc => ?_)
    · rw [if_pos hc] at hF
      refine lv_iload_n hx hb dX7_leastNow_77 rfl (lv_at hl 1 rfl) ?_
      exact retI hC hS hr hlk hF dX7_leastNow_78
    · rw [if_neg hc] at hF
      refine lv_iload_n hx hb dX7_leastNow_8 rfl (lv_at hl 1 rfl) ?_
      refine lv_istore_n (lv' := [(3, .int x1), (0, .ref (G.1 61)), (1, .int x1), (2, .int x2)]) hx hb dX7_leastNow_9 rfl hl (by decide) rfl (fun ls hl => ?_)
      refine lv_iconst (v := 0) hx hb dX7_leastNow_10 (by decide) ?_
      refine lv_istore (lv' := [(4, .int 0), (3, .int x1), (0, .ref (G.1 61)), (1, .int x1), (2, .int x2)]) hx hb dX7_leastNow_11 hl (by decide) rfl (fun ls hl => ?_)
      exact b_X7_leastNow_13 hC hr hlk hn ih fu _ _ _ _ _ _ _ hF hS (lv_sub hl [2, 3, 1, 0] rfl)
set_option maxHeartbeats 4000000 in
set_option maxRecDepth 100000 in
theorem b_X7_leastNow {M0 : Mem} {r0 : Int32} (hC : SX p m c s args cX7_leastNow 5 RX7 G (AG G)) (hr : meth.sig.returnType = (some .int)) (hlk : meth.locks = false) (hn : ∀ i ∈ LsF, i ∈ gL G) : ∀ (M : Mem) (H : Heap) (locs : List Loc) (ls : Array Slot), F_X7_leastNow M = some (r0, M0) → ST G (AG G) s M H locs → lv_has ls 5 [(0, .ref (G.1 61))] → W p l e (RM 2 44) s m args below meth c H locs 0 0 (MQ below (QV G (some (.int r0)) M0) args s 0 0 (AG G)) (F0 m 0 ls []) := by
  obtain ⟨⟨hx, hb, hml, hown, hts⟩, hK, hG, hA⟩ := id hC
  intro M H locs ls hF hS hl
  unfold F_X7_leastNow at hF
  refine lv_iconst (v := 0) hx hb dX7_leastNow_0 (by decide) ?_
  refine lv_istore_n (lv' := [(1, .int 0), (0, .ref (G.1 61))]) hx hb dX7_leastNow_1 rfl hl (by decide) rfl (fun ls hl => ?_)
  refine lv_iconst (v := 1) hx hb dX7_leastNow_2 (by decide) ?_
  refine lv_istore_n (lv' := [(2, .int 1), (1, .int 0), (0, .ref (G.1 61))]) hx hb dX7_leastNow_3 rfl hl (by decide) rfl (fun ls hl => ?_)
  exact b_X7_leastNow_4 hC hr hlk hn fu _ _ _ _ _ _ hF hS (lv_sub hl [2, 1, 0] rfl)
set_option maxRecDepth 100000 in
theorem c_X7_leastNow (l : Launch) (G : GT) (hn : ∀ i ∈ LsF, i ∈ gL G) (M : Mem) (r0 : Int32) (M0 : Mem) (hF : F_X7_leastNow M = some (r0, M0)) : MetG l G yX7_leastNow cX7_leastNow 5 (some .int) 2 44 [.ref (G.1 61)] M (some (.int r0)) M0 := by
  refine MetG.of (by decide) (Nat.le_of_ble_eq_true rfl) ?_
  intro p e s m args below meth c hC hr hlk hnm ls hS hl
  exact b_X7_leastNow hC hr hlk hn _ _ _ _ hF hS hl
def F_X7_leastOf (x1 : Int32) (M : Mem) : Option (Int32 × Mem) := bd (F_X7_heardOnes M) (fun r3 M3 => bdv (F_X7_meetsAll x1 r3 M3) (fun M6 => bd (F_X7_leastNow M6) (fun r10 M10 => some (r10, M10))))
set_option maxHeartbeats 4000000 in
set_option maxRecDepth 100000 in
theorem b_X7_leastOf {M0 : Mem} {r0 : Int32} (hC : SX p m c s args cX7_leastOf 2 RX7 G (AG G)) (hr : meth.sig.returnType = (some .int)) (hlk : meth.locks = false) (hn : ∀ i ∈ LsF, i ∈ gL G) : ∀ (x1 : Int32) (M : Mem) (H : Heap) (locs : List Loc) (ls : Array Slot), F_X7_leastOf x1 M = some (r0, M0) → ST G (AG G) s M H locs → lv_has ls 2 [(0, .ref (G.1 61)), (1, .int x1)] → W p l e (RM 4 93) s m args below meth c H locs 0 0 (MQ below (QV G (some (.int r0)) M0) args s 0 0 (AG G)) (F0 m 0 ls []) := by
  obtain ⟨⟨hx, hb, hml, hown, hts⟩, hK, hG, hA⟩ := id hC
  intro x1 M H locs ls hF hS hl
  unfold F_X7_leastOf at hF
  refine lv_aload_n hx hb dX7_leastOf_0 rfl (lv_at hl 0 rfl) ?_
  refine lv_iload_n hx hb dX7_leastOf_1 rfl (lv_at hl 1 rfl) ?_
  refine lv_aload_n hx hb dX7_leastOf_2 rfl (lv_at hl 0 rfl) ?_
  obtain ⟨r3, M3, h3, hF⟩ := bd_some hF
  refine cV_ (ci := 7) (i := 61) (C := RX7) (T := TX7) (N := 29) (As := []) (v := some (.int r3)) (rest := [.int x1, .ref (G.1 61)]) (st1 := [.int r3, .int x1, .ref (G.1 61)]) hC hS (hn _ (by decide)) rfl rfl (c_X7_heardOnes l G hn M _ _ h3) kV_X7_heardOnes lm_X7_162 ⟨Nat.le_of_ble_eq_true rfl, Nat.le_of_ble_eq_true rfl⟩ rfl hl.1 (Nat.le_of_ble_eq_true rfl) dX7_leastOf_3 ⟨Nat.le_refl _, Nat.le_refl _⟩ rfl (fun H locs hS => ?_)
  obtain ⟨M6, h6, hF⟩ := bdv_some hF
  refine cV_ (ci := 7) (i := 61) (C := RX7) (T := TX7) (N := 29) (As := [.int x1, .int r3]) (v := none) (rest := []) (st1 := []) hC hS (hn _ (by decide)) rfl rfl (c_X7_meetsAll l G hn x1 r3 M3 _ h6) kV_X7_meetsAll lm_X7_193 ⟨Nat.le_of_ble_eq_true rfl, Nat.le_of_ble_eq_true rfl⟩ rfl hl.1 (Nat.le_of_ble_eq_true rfl) dX7_leastOf_6 ⟨Nat.le_refl _, Nat.le_refl _⟩ rfl (fun H locs hS => ?_)
  refine lv_aload_n hx hb dX7_leastOf_9 rfl (lv_at hl 0 rfl) ?_
  obtain ⟨r10, M10, h10, hF⟩ := bd_some hF
  refine cV_ (ci := 7) (i := 61) (C := RX7) (T := TX7) (N := 29) (As := []) (v := some (.int r10)) (rest := []) (st1 := [.int r10]) hC hS (hn _ (by decide)) rfl rfl (c_X7_leastNow l G hn M6 _ _ h10) kV_X7_leastNow lm_X7_203 ⟨Nat.le_of_ble_eq_true rfl, Nat.le_of_ble_eq_true rfl⟩ rfl hl.1 (Nat.le_of_ble_eq_true rfl) dX7_leastOf_10 ⟨Nat.le_refl _, Nat.le_refl _⟩ rfl (fun H locs hS => ?_)
  exact retI hC hS hr hlk hF dX7_leastOf_13
set_option maxRecDepth 100000 in
theorem c_X7_leastOf (l : Launch) (G : GT) (hn : ∀ i ∈ LsF, i ∈ gL G) (x1 : Int32) (M : Mem) (r0 : Int32) (M0 : Mem) (hF : F_X7_leastOf x1 M = some (r0, M0)) : MetG l G yX7_leastOf cX7_leastOf 2 (some .int) 4 93 [.ref (G.1 61), .int x1] M (some (.int r0)) M0 := by
  refine MetG.of (by decide) (Nat.le_of_ble_eq_true rfl) ?_
  intro p e s m args below meth c hC hr hlk hnm ls hS hl
  exact b_X7_leastOf hC hr hlk hn _ _ _ _ _ hF hS hl
def F_X7_least (x1 : Int32) (M : Mem) : Option (Int32 × Mem) := bd (F_X7_isLaw x1 M) (fun r1 M1 => if r1 = 0 then some ((-2), M1) else bd (F_X7_leastOf x1 M1) (fun r9 M9 => some (r9, M9)))
set_option maxHeartbeats 4000000 in
set_option maxRecDepth 100000 in
theorem b_X7_least {M0 : Mem} {r0 : Int32} (hC : SX p m c s args cX7_least 2 RX7 G (AG G)) (hr : meth.sig.returnType = (some .int)) (hlk : meth.locks = false) (hn : ∀ i ∈ LsF, i ∈ gL G) : ∀ (x1 : Int32) (M : Mem) (H : Heap) (locs : List Loc) (ls : Array Slot), F_X7_least x1 M = some (r0, M0) → ST G (AG G) s M H locs → lv_has ls 2 [(0, .ref (G.1 61)), (1, .int x1)] → W p l e (RM 5 114) s m args below meth c H locs 0 0 (MQ below (QV G (some (.int r0)) M0) args s 0 0 (AG G)) (F0 m 0 ls []) := by
  obtain ⟨⟨hx, hb, hml, hown, hts⟩, hK, hG, hA⟩ := id hC
  intro x1 M H locs ls hF hS hl
  unfold F_X7_least at hF
  refine lv_iload_n hx hb dX7_least_0 rfl (lv_at hl 1 rfl) ?_
  obtain ⟨r1, M1, h1, hF⟩ := bd_some hF
  refine cS_ (As := [.int x1]) (v := some (.int r1)) (rest := []) (st1 := [.int r1]) hC hS (c_X7_isLaw l G hn x1 M _ _ h1) kS_X7_isLaw lm_X7_120 ⟨Nat.le_of_ble_eq_true rfl, Nat.le_of_ble_eq_true rfl⟩ rfl hl.1 (Nat.le_of_ble_eq_true rfl) dX7_least_1 ⟨Nat.le_refl _, Nat.le_refl _⟩ rfl (fun H locs hS => ?_)
  refine lv_if_eq (tgt := 15) hx hb dX7_least_4 (by decide) (fun hc => ?_) (fun hc => ?_)
  · rw [if_pos hc] at hF
    refine lv_bipush (v := (-2)) hx hb dX7_least_15 (by decide) ?_
    exact retI hC hS hr hlk hF dX7_least_17
  · rw [if_neg hc] at hF
    refine lv_aload_n hx hb dX7_least_7 rfl (lv_at hl 0 rfl) ?_
    refine lv_iload_n hx hb dX7_least_8 rfl (lv_at hl 1 rfl) ?_
    obtain ⟨r9, M9, h9, hF⟩ := bd_some hF
    refine cV_ (ci := 7) (i := 61) (C := RX7) (T := TX7) (N := 29) (As := [.int x1]) (v := some (.int r9)) (rest := []) (st1 := [.int r9]) hC hS (hn _ (by decide)) rfl rfl (c_X7_leastOf l G hn x1 M1 _ _ h9) kV_X7_leastOf lm_X7_206 ⟨Nat.le_of_ble_eq_true rfl, Nat.le_of_ble_eq_true rfl⟩ rfl hl.1 (Nat.le_of_ble_eq_true rfl) dX7_least_9 ⟨Nat.le_refl _, Nat.le_refl _⟩ rfl (fun H locs hS => ?_)
    refine lv_goto (tgt := 17) hx hb dX7_least_12 (by decide) ?_
    exact retI hC hS hr hlk hF dX7_least_17
set_option maxRecDepth 100000 in
theorem c_X7_least (l : Launch) (G : GT) (hn : ∀ i ∈ LsF, i ∈ gL G) (x1 : Int32) (M : Mem) (r0 : Int32) (M0 : Mem) (hF : F_X7_least x1 M = some (r0, M0)) : MetG l G yX7_least cX7_least 2 (some .int) 5 114 [.ref (G.1 61), .int x1] M (some (.int r0)) M0 := by
  refine MetG.of (by decide) (Nat.le_of_ble_eq_true rfl) ?_
  intro p e s m args below meth c hC hr hlk hnm ls hS hl
  exact b_X7_least hC hr hlk hn _ _ _ _ _ hF hS hl
def F_X7_laysSounds_2 : Nat → Int32 → Mem → Option Mem
  | 0, _, _ => none
  | n + 1, x1, M => bd (F_X7_all M) (fun r4 M4 => if r4 < x1 then some M4 else bd (F_X7_isSound x1 M4) (fun r17 M17 => ckb (ix x1 1024) (F_X7_laysSounds_2 n (x1 + 1) (sa M17 35 x1.toNatClampNeg (vp_nar .boolean r17)))))
def F_X7_laysSounds (M : Mem) : Option Mem := F_X7_laysSounds_2 fu 0 M
set_option maxHeartbeats 4000000 in
set_option maxRecDepth 100000 in
theorem b_X7_laysSounds_2 {M0 : Mem} (hC : SX p m c s args cX7_laysSounds 2 RX7 G (AG G)) (hr : meth.sig.returnType = none) (hlk : meth.locks = false) (hn : ∀ i ∈ LsF, i ∈ gL G) : ∀ (n : Nat) (x1 : Int32) (M : Mem) (H : Heap) (locs : List Loc) (ls : Array Slot), F_X7_laysSounds_2 n x1 M = some M0 → ST G (AG G) s M H locs → lv_has ls 2 [(0, .ref (G.1 61)), (1, .int x1)] → W p l e (RM 3 66) s m args below meth c H locs 0 0 (MQ below (QV G none M0) args s 0 0 (AG G)) (F0 m 2 ls []) := by
  obtain ⟨⟨hx, hb, hml, hown, hts⟩, hK, hG, hA⟩ := id hC
  intro n
  induction n with
  | zero =>
    intro x1 M H locs ls hF
    cases hF
  | succ n ih =>
    intro x1 M H locs ls hF hS hl
    unfold F_X7_laysSounds_2 at hF
    refine lv_iload_n hx hb dX7_laysSounds_2 rfl (lv_at hl 1 rfl) ?_
    refine lv_aload_n hx hb dX7_laysSounds_3 rfl (lv_at hl 0 rfl) ?_
    obtain ⟨r4, M4, h4, hF⟩ := bd_some hF
    refine cV_ (ci := 7) (i := 61) (C := RX7) (T := TX7) (N := 29) (As := []) (v := some (.int r4)) (rest := [.int x1]) (st1 := [.int r4, .int x1]) hC hS (hn _ (by decide)) rfl rfl (c_X7_all l G hn M _ _ h4) kV_X7_all lm_X7_97 ⟨Nat.le_of_ble_eq_true rfl, Nat.le_of_ble_eq_true rfl⟩ rfl hl.1 (Nat.le_of_ble_eq_true rfl) dX7_laysSounds_4 ⟨Nat.le_refl _, Nat.le_refl _⟩ rfl (fun H locs hS => ?_)
    refine lv_icmp_gt (tgt := 27) hx hb dX7_laysSounds_7 (by decide) (fun hc => ?_) (fun hc => ?_)
    · rw [if_pos hc] at hF
      exact retV hC hS hr hlk hF dX7_laysSounds_27
    · rw [if_neg hc] at hF
      refine lv_aload_n hx hb dX7_laysSounds_10 rfl (lv_at hl 0 rfl) ?_
      refine gx (ci := 7) (k := 21) (v := .ref (G.1 35)) (C := RX7) (T := TX7) (N := 29) hC hS (hn _ (by decide)) rfl rfl in_X7 (by decide) rfl rfl lf_X7_49 dX7_laysSounds_11 ?_
      refine lv_iload_n hx hb dX7_laysSounds_14 rfl (lv_at hl 1 rfl) ?_
      refine lv_aload_n hx hb dX7_laysSounds_15 rfl (lv_at hl 0 rfl) ?_
      refine lv_iload_n hx hb dX7_laysSounds_16 rfl (lv_at hl 1 rfl) ?_
      obtain ⟨r17, M17, h17, hF⟩ := bd_some hF
      refine cV_ (ci := 7) (i := 61) (C := RX7) (T := TX7) (N := 29) (As := [.int x1]) (v := some (.int r17)) (rest := [.int x1, .ref (G.1 35)]) (st1 := [.int r17, .int x1, .ref (G.1 35)]) hC hS (hn _ (by decide)) rfl rfl (c_X7_isSound l G hn x1 M4 _ _ h17) kV_X7_isSound lm_X7_200 ⟨Nat.le_of_ble_eq_true rfl, Nat.le_of_ble_eq_true rfl⟩ rfl hl.1 (Nat.le_of_ble_eq_true rfl) dX7_laysSounds_17 ⟨Nat.le_refl _, Nat.le_refl _⟩ rfl (fun H locs hS => ?_)
      obtain ⟨hi, hF⟩ := ckb_some hF
      refine zst hC hS (hn _ (by decide)) (by decide) rfl hi dX7_laysSounds_20 (fun H locs hS => ?_)
      refine lv_iinc (v := x1 + 1) (lv' := [(1, .int (x1 + 1)), (0, .ref (G.1 61))]) hx hb dX7_laysSounds_21 hl (k := 1) rfl rfl (by decide) rfl (fun ls hl => ?_)
      refine lv_goto (tgt := 2) hx hb dX7_laysSounds_24 (by decide) ?_
      exact ih _ _ _ _ _ hF hS (lv_sub hl [1, 0] rfl)
set_option maxHeartbeats 4000000 in
set_option maxRecDepth 100000 in
theorem b_X7_laysSounds {M0 : Mem} (hC : SX p m c s args cX7_laysSounds 2 RX7 G (AG G)) (hr : meth.sig.returnType = none) (hlk : meth.locks = false) (hn : ∀ i ∈ LsF, i ∈ gL G) : ∀ (M : Mem) (H : Heap) (locs : List Loc) (ls : Array Slot), F_X7_laysSounds M = some M0 → ST G (AG G) s M H locs → lv_has ls 2 [(0, .ref (G.1 61))] → W p l e (RM 3 66) s m args below meth c H locs 0 0 (MQ below (QV G none M0) args s 0 0 (AG G)) (F0 m 0 ls []) := by
  obtain ⟨⟨hx, hb, hml, hown, hts⟩, hK, hG, hA⟩ := id hC
  intro M H locs ls hF hS hl
  unfold F_X7_laysSounds at hF
  refine lv_iconst (v := 0) hx hb dX7_laysSounds_0 (by decide) ?_
  refine lv_istore_n (lv' := [(1, .int 0), (0, .ref (G.1 61))]) hx hb dX7_laysSounds_1 rfl hl (by decide) rfl (fun ls hl => ?_)
  exact b_X7_laysSounds_2 hC hr hlk hn fu _ _ _ _ _ hF hS (lv_sub hl [1, 0] rfl)
set_option maxRecDepth 100000 in
theorem c_X7_laysSounds (l : Launch) (G : GT) (hn : ∀ i ∈ LsF, i ∈ gL G) (M : Mem) (M0 : Mem) (hF : F_X7_laysSounds M = some M0) : MetG l G yX7_laysSounds cX7_laysSounds 2 none 3 66 [.ref (G.1 61)] M none M0 := by
  refine MetG.of (by decide) (Nat.le_of_ble_eq_true rfl) ?_
  intro p e s m args below meth c hC hr hlk hnm ls hS hl
  exact b_X7_laysSounds hC hr hlk hn _ _ _ _ hF hS hl
def F_X7_isFull_46 (x1 : Int32) (M : Mem) : Option (Int32 × Mem) := ckb (ix x1 1024) (ckb (zb (M.2 35 x1.toNatClampNeg)) (some (M.2 35 x1.toNatClampNeg, M)))
def F_X7_isFull_40 (k4 : Int32 → Int32 → Mem → Option (Int32 × Mem)) (x1 : Int32) (x2 : Int32) (M : Mem) : Option (Int32 × Mem) := k4 x1 (x2 + 1) M
def F_X7_isFull_4 : Nat → Int32 → Int32 → Mem → Option (Int32 × Mem)
  | 0, _, _, _ => none
  | n + 1, x1, x2, M => bd (F_X7_all M) (fun r6 M6 => if r6 < x2 then F_X7_isFull_46 x1 M6 else ckb (ix x1 1024) (if (M6.2 35 x1.toNatClampNeg) = 0 then F_X7_isFull_46 x1 M6 else ckb (ix x2 1024) (if (M6.2 35 x2.toNatClampNeg) = 0 then F_X7_isFull_40 (F_X7_isFull_4 n) x1 x2 M6 else if (x1 &&& (x2 ^^^ (-1))) = 0 then some (0, M6) else F_X7_isFull_40 (F_X7_isFull_4 n) x1 x2 M6)))
def F_X7_isFull (x1 : Int32) (M : Mem) : Option (Int32 × Mem) := F_X7_isFull_4 fu x1 (x1 + 1) M
set_option maxHeartbeats 4000000 in
set_option maxRecDepth 100000 in
theorem b_X7_isFull_46 {M0 : Mem} {r0 : Int32} (hC : SX p m c s args cX7_isFull 3 RX7 G (AG G)) (hr : meth.sig.returnType = (some .boolean)) (hlk : meth.locks = false) (hn : ∀ i ∈ LsF, i ∈ gL G) : ∀ (x1 : Int32) (M : Mem) (H : Heap) (locs : List Loc) (ls : Array Slot), F_X7_isFull_46 x1 M = some (r0, M0) → ST G (AG G) s M H locs → lv_has ls 3 [(0, .ref (G.1 61)), (1, .int x1)] → W p l e (RM 1 20) s m args below meth c H locs 0 0 (MQ below (QV G (some (.int r0)) M0) args s 0 0 (AG G)) (F0 m 46 ls []) := by
  obtain ⟨⟨hx, hb, hml, hown, hts⟩, hK, hG, hA⟩ := id hC
  intro x1 M H locs ls hF hS hl
  unfold F_X7_isFull_46 at hF
  refine lv_aload_n hx hb dX7_isFull_46 rfl (lv_at hl 0 rfl) ?_
  refine gx (ci := 7) (k := 21) (v := .ref (G.1 35)) (C := RX7) (T := TX7) (N := 29) hC hS (hn _ (by decide)) rfl rfl in_X7 (by decide) rfl rfl lf_X7_49 dX7_isFull_47 ?_
  refine lv_iload_n hx hb dX7_isFull_50 rfl (lv_at hl 1 rfl) ?_
  obtain ⟨hi, hF⟩ := ckb_some hF
  refine zld hC hS (hn _ (by decide)) (by decide) rfl hi dX7_isFull_51 ?_
  obtain ⟨hz, hF⟩ := ckb_some hF
  exact retZ hC hS hr hlk (zb_n hz) hF dX7_isFull_52
set_option maxHeartbeats 4000000 in
set_option maxRecDepth 100000 in
theorem b_X7_isFull_40 {k4 : Int32 → Int32 → Mem → Option (Int32 × Mem)} {M0 : Mem} {r0 : Int32} (hC : SX p m c s args cX7_isFull 3 RX7 G (AG G)) (hr : meth.sig.returnType = (some .boolean)) (hlk : meth.locks = false) (hn : ∀ i ∈ LsF, i ∈ gL G) (hk4 : ∀ (x1 : Int32) (x2 : Int32) (M : Mem) (H : Heap) (locs : List Loc) (ls : Array Slot), k4 x1 x2 M = some (r0, M0) → ST G (AG G) s M H locs → lv_has ls 3 [(0, .ref (G.1 61)), (1, .int x1), (2, .int x2)] → W p l e (RM 1 20) s m args below meth c H locs 0 0 (MQ below (QV G (some (.int r0)) M0) args s 0 0 (AG G)) (F0 m 4 ls [])) : ∀ (x1 : Int32) (x2 : Int32) (M : Mem) (H : Heap) (locs : List Loc) (ls : Array Slot), F_X7_isFull_40 k4 x1 x2 M = some (r0, M0) → ST G (AG G) s M H locs → lv_has ls 3 [(0, .ref (G.1 61)), (1, .int x1), (2, .int x2)] → W p l e (RM 1 20) s m args below meth c H locs 0 0 (MQ below (QV G (some (.int r0)) M0) args s 0 0 (AG G)) (F0 m 40 ls []) := by
  obtain ⟨⟨hx, hb, hml, hown, hts⟩, hK, hG, hA⟩ := id hC
  intro x1 x2 M H locs ls hF hS hl
  unfold F_X7_isFull_40 at hF
  refine lv_iinc (v := x2 + 1) (lv' := [(2, .int (x2 + 1)), (0, .ref (G.1 61)), (1, .int x1)]) hx hb dX7_isFull_40 hl (k := 2) rfl rfl (by decide) rfl (fun ls hl => ?_)
  refine lv_goto (tgt := 4) hx hb dX7_isFull_43 (by decide) ?_
  exact hk4 _ _ _ _ _ _ hF hS (lv_sub hl [1, 2, 0] rfl)
set_option maxHeartbeats 4000000 in
set_option maxRecDepth 100000 in
theorem b_X7_isFull_4 {M0 : Mem} {r0 : Int32} (hC : SX p m c s args cX7_isFull 3 RX7 G (AG G)) (hr : meth.sig.returnType = (some .boolean)) (hlk : meth.locks = false) (hn : ∀ i ∈ LsF, i ∈ gL G) : ∀ (n : Nat) (x1 : Int32) (x2 : Int32) (M : Mem) (H : Heap) (locs : List Loc) (ls : Array Slot), F_X7_isFull_4 n x1 x2 M = some (r0, M0) → ST G (AG G) s M H locs → lv_has ls 3 [(0, .ref (G.1 61)), (1, .int x1), (2, .int x2)] → W p l e (RM 1 20) s m args below meth c H locs 0 0 (MQ below (QV G (some (.int r0)) M0) args s 0 0 (AG G)) (F0 m 4 ls []) := by
  obtain ⟨⟨hx, hb, hml, hown, hts⟩, hK, hG, hA⟩ := id hC
  intro n
  induction n with
  | zero =>
    intro x1 x2 M H locs ls hF
    cases hF
  | succ n ih =>
    intro x1 x2 M H locs ls hF hS hl
    unfold F_X7_isFull_4 at hF
    refine lv_iload_n hx hb dX7_isFull_4 rfl (lv_at hl 2 rfl) ?_
    refine lv_aload_n hx hb dX7_isFull_5 rfl (lv_at hl 0 rfl) ?_
    obtain ⟨r6, M6, h6, hF⟩ := bd_some hF
    refine cV_ (ci := 7) (i := 61) (C := RX7) (T := TX7) (N := 29) (As := []) (v := some (.int r6)) (rest := [.int x2]) (st1 := [.int r6, .int x2]) hC hS (hn _ (by decide)) rfl rfl (c_X7_all l G hn M _ _ h6) kV_X7_all lm_X7_97 ⟨Nat.le_of_ble_eq_true rfl, Nat.le_of_ble_eq_true rfl⟩ rfl hl.1 (Nat.le_of_ble_eq_true rfl) dX7_isFull_6 ⟨Nat.le_refl _, Nat.le_refl _⟩ rfl (fun H locs hS => ?_)
    refine lv_icmp_gt (tgt := 46) hx hb dX7_isFull_9 (by decide) (fun hc => ?_) (fun hc => ?_)
    · rw [if_pos hc] at hF
      exact b_X7_isFull_46 hC hr hlk hn _ _ _ _ _ hF hS (lv_sub hl [0, 1] rfl)
    · rw [if_neg hc] at hF
      refine lv_aload_n hx hb dX7_isFull_12 rfl (lv_at hl 0 rfl) ?_
      refine gx (ci := 7) (k := 21) (v := .ref (G.1 35)) (C := RX7) (T := TX7) (N := 29) hC hS (hn _ (by decide)) rfl rfl in_X7 (by decide) rfl rfl lf_X7_49 dX7_isFull_13 ?_
      refine lv_iload_n hx hb dX7_isFull_16 rfl (lv_at hl 1 rfl) ?_
      obtain ⟨hi, hF⟩ := ckb_some hF
      refine zld hC hS (hn _ (by decide)) (by decide) rfl hi dX7_isFull_17 ?_
      refine lv_if_eq (tgt := 46) hx hb dX7_isFull_18 (by decide) (fun hc => ?_) (fun hc => ?_)
      · rw [if_pos hc] at hF
        exact b_X7_isFull_46 hC hr hlk hn _ _ _ _ _ hF hS (lv_sub hl [0, 1] rfl)
      · rw [if_neg hc] at hF
        refine lv_aload_n hx hb dX7_isFull_21 rfl (lv_at hl 0 rfl) ?_
        refine gx (ci := 7) (k := 21) (v := .ref (G.1 35)) (C := RX7) (T := TX7) (N := 29) hC hS (hn _ (by decide)) rfl rfl in_X7 (by decide) rfl rfl lf_X7_49 dX7_isFull_22 ?_
        refine lv_iload_n hx hb dX7_isFull_25 rfl (lv_at hl 2 rfl) ?_
        obtain ⟨hi, hF⟩ := ckb_some hF
        refine zld hC hS (hn _ (by decide)) (by decide) rfl hi dX7_isFull_26 ?_
        refine lv_if_eq (tgt := 40) hx hb dX7_isFull_27 (by decide) (fun hc => ?_) (fun hc => ?_)
        · rw [if_pos hc] at hF
          exact b_X7_isFull_40 hC hr hlk hn ih _ _ _ _ _ _ hF hS (lv_sub hl [0, 1, 2] rfl)
        · rw [if_neg hc] at hF
          refine lv_iload_n hx hb dX7_isFull_30 rfl (lv_at hl 1 rfl) ?_
          refine lv_iload_n hx hb dX7_isFull_31 rfl (lv_at hl 2 rfl) ?_
          refine lv_iconst (v := (-1)) hx hb dX7_isFull_32 (by decide) ?_
          refine lv_ixor hx hb dX7_isFull_33 ?_
          refine lv_iand hx hb dX7_isFull_34 ?_
          refine lv_if_ne (tgt := 40) hx hb dX7_isFull_35 (by decide) (fun hc => ?_) (fun hc => ?_)
          · rw [if_neg hc] at hF
            exact b_X7_isFull_40 hC hr hlk hn ih _ _ _ _ _ _ hF hS (lv_sub hl [0, 1, 2] rfl)
          · rw [if_pos hc] at hF
            refine lv_iconst (v := 0) hx hb dX7_isFull_38 (by decide) ?_
            exact retZ hC hS hr hlk rfl hF dX7_isFull_39
set_option maxHeartbeats 4000000 in
set_option maxRecDepth 100000 in
theorem b_X7_isFull {M0 : Mem} {r0 : Int32} (hC : SX p m c s args cX7_isFull 3 RX7 G (AG G)) (hr : meth.sig.returnType = (some .boolean)) (hlk : meth.locks = false) (hn : ∀ i ∈ LsF, i ∈ gL G) : ∀ (x1 : Int32) (M : Mem) (H : Heap) (locs : List Loc) (ls : Array Slot), F_X7_isFull x1 M = some (r0, M0) → ST G (AG G) s M H locs → lv_has ls 3 [(0, .ref (G.1 61)), (1, .int x1)] → W p l e (RM 1 20) s m args below meth c H locs 0 0 (MQ below (QV G (some (.int r0)) M0) args s 0 0 (AG G)) (F0 m 0 ls []) := by
  obtain ⟨⟨hx, hb, hml, hown, hts⟩, hK, hG, hA⟩ := id hC
  intro x1 M H locs ls hF hS hl
  unfold F_X7_isFull at hF
  refine lv_iload_n hx hb dX7_isFull_0 rfl (lv_at hl 1 rfl) ?_
  refine lv_iconst (v := 1) hx hb dX7_isFull_1 (by decide) ?_
  refine lv_iadd hx hb dX7_isFull_2 ?_
  refine lv_istore_n (lv' := [(2, .int (x1 + 1)), (0, .ref (G.1 61)), (1, .int x1)]) hx hb dX7_isFull_3 rfl hl (by decide) rfl (fun ls hl => ?_)
  exact b_X7_isFull_4 hC hr hlk hn fu _ _ _ _ _ _ hF hS (lv_sub hl [1, 2, 0] rfl)
set_option maxRecDepth 100000 in
theorem c_X7_isFull (l : Launch) (G : GT) (hn : ∀ i ∈ LsF, i ∈ gL G) (x1 : Int32) (M : Mem) (r0 : Int32) (M0 : Mem) (hF : F_X7_isFull x1 M = some (r0, M0)) : MetG l G yX7_isFull cX7_isFull 3 (some .boolean) 1 20 [.ref (G.1 61), .int x1] M (some (.int r0)) M0 := by
  refine MetG.of (by decide) (Nat.le_of_ble_eq_true rfl) ?_
  intro p e s m args below meth c hC hr hlk hnm ls hS hl
  exact b_X7_isFull hC hr hlk hn _ _ _ _ _ hF hS hl
def F_X7_fullNow_47 (k18 : Int32 → Int32 → Int32 → Mem → Option (Int32 × Mem)) (x2 : Int32) (x3 : Int32) (x4 : Int32) (M : Mem) : Option (Int32 × Mem) := k18 x2 x3 (x4 + 1) M
def F_X7_fullNow_18 : Nat → Int32 → Int32 → Int32 → Mem → Option (Int32 × Mem)
  | 0, _, _, _, _ => none
  | n + 1, x2, x3, x4, M => bd (F_X7_all M) (fun r21 M21 => if r21 < x4 then if x2 = (-1) then some (x3, M21) else some ((-1), M21) else bd (F_X7_isFull x4 M21) (fun r30 M30 => if r30 = 0 then F_X7_fullNow_47 (F_X7_fullNow_18 n) x2 x3 x4 M30 else if x3 = x2 then some (x4, M30) else F_X7_fullNow_47 (F_X7_fullNow_18 n) x2 (x3 + 1) x4 M30))
def F_X7_fullNow (x1 : Int32) (x2 : Int32) (M : Mem) : Option (Int32 × Mem) := bd (F_X7_heardOnes M) (fun r3 M3 => bdv (F_X7_meetsAll x1 r3 M3) (fun M6 => bdv (F_X7_laysSounds M6) (fun M10 => F_X7_fullNow_18 fu x2 0 0 M10)))
set_option maxHeartbeats 4000000 in
set_option maxRecDepth 100000 in
theorem b_X7_fullNow_47 {k18 : Int32 → Int32 → Int32 → Mem → Option (Int32 × Mem)} {M0 : Mem} {r0 : Int32} (hC : SX p m c s args cX7_fullNow 5 RX7 G (AG G)) (hr : meth.sig.returnType = (some .int)) (hlk : meth.locks = false) (hn : ∀ i ∈ LsF, i ∈ gL G) (hk18 : ∀ (x2 : Int32) (x3 : Int32) (x4 : Int32) (M : Mem) (H : Heap) (locs : List Loc) (ls : Array Slot), k18 x2 x3 x4 M = some (r0, M0) → ST G (AG G) s M H locs → lv_has ls 5 [(0, .ref (G.1 61)), (2, .int x2), (3, .int x3), (4, .int x4)] → W p l e (RM 4 93) s m args below meth c H locs 0 0 (MQ below (QV G (some (.int r0)) M0) args s 0 0 (AG G)) (F0 m 18 ls [])) : ∀ (x2 : Int32) (x3 : Int32) (x4 : Int32) (M : Mem) (H : Heap) (locs : List Loc) (ls : Array Slot), F_X7_fullNow_47 k18 x2 x3 x4 M = some (r0, M0) → ST G (AG G) s M H locs → lv_has ls 5 [(0, .ref (G.1 61)), (2, .int x2), (3, .int x3), (4, .int x4)] → W p l e (RM 4 93) s m args below meth c H locs 0 0 (MQ below (QV G (some (.int r0)) M0) args s 0 0 (AG G)) (F0 m 47 ls []) := by
  obtain ⟨⟨hx, hb, hml, hown, hts⟩, hK, hG, hA⟩ := id hC
  intro x2 x3 x4 M H locs ls hF hS hl
  unfold F_X7_fullNow_47 at hF
  refine lv_iinc (v := x4 + 1) (lv' := [(4, .int (x4 + 1)), (0, .ref (G.1 61)), (2, .int x2), (3, .int x3)]) hx hb dX7_fullNow_47 hl (k := 3) rfl rfl (by decide) rfl (fun ls hl => ?_)
  refine lv_goto (tgt := 18) hx hb dX7_fullNow_50 (by decide) ?_
  exact hk18 _ _ _ _ _ _ _ hF hS (lv_sub hl [1, 2, 3, 0] rfl)
set_option maxHeartbeats 4000000 in
set_option maxRecDepth 100000 in
theorem b_X7_fullNow_18 {M0 : Mem} {r0 : Int32} (hC : SX p m c s args cX7_fullNow 5 RX7 G (AG G)) (hr : meth.sig.returnType = (some .int)) (hlk : meth.locks = false) (hn : ∀ i ∈ LsF, i ∈ gL G) : ∀ (n : Nat) (x2 : Int32) (x3 : Int32) (x4 : Int32) (M : Mem) (H : Heap) (locs : List Loc) (ls : Array Slot), F_X7_fullNow_18 n x2 x3 x4 M = some (r0, M0) → ST G (AG G) s M H locs → lv_has ls 5 [(0, .ref (G.1 61)), (2, .int x2), (3, .int x3), (4, .int x4)] → W p l e (RM 4 93) s m args below meth c H locs 0 0 (MQ below (QV G (some (.int r0)) M0) args s 0 0 (AG G)) (F0 m 18 ls []) := by
  obtain ⟨⟨hx, hb, hml, hown, hts⟩, hK, hG, hA⟩ := id hC
  intro n
  induction n with
  | zero =>
    intro x2 x3 x4 M H locs ls hF
    cases hF
  | succ n ih =>
    intro x2 x3 x4 M H locs ls hF hS hl
    unfold F_X7_fullNow_18 at hF
    refine lv_iload hx hb dX7_fullNow_18 (lv_at hl 3 rfl) ?_
    refine lv_aload_n hx hb dX7_fullNow_20 rfl (lv_at hl 0 rfl) ?_
    obtain ⟨r21, M21, h21, hF⟩ := bd_some hF
    refine cV_ (ci := 7) (i := 61) (C := RX7) (T := TX7) (N := 29) (As := []) (v := some (.int r21)) (rest := [.int x4]) (st1 := [.int r21, .int x4]) hC hS (hn _ (by decide)) rfl rfl (c_X7_all l G hn M _ _ h21) kV_X7_all lm_X7_97 ⟨Nat.le_of_ble_eq_true rfl, Nat.le_of_ble_eq_true rfl⟩ rfl hl.1 (Nat.le_of_ble_eq_true rfl) dX7_fullNow_21 ⟨Nat.le_refl _, Nat.le_refl _⟩ rfl (fun H locs hS => ?_)
    refine lv_icmp_gt (tgt := 53) hx hb dX7_fullNow_24 (by decide) (fun hc => ?_) (fun hc => ?_)
    · rw [if_pos hc] at hF
      refine lv_iload_n hx hb dX7_fullNow_53 rfl (lv_at hl 1 rfl) ?_
      refine lv_iconst (v := (-1)) hx hb dX7_fullNow_54 (by decide) ?_
      refine lv_icmp_ne (tgt := 62) hx hb dX7_fullNow_55 (by decide) (fun hc => ?_) (fun hc => ?_)
      · rw [if_neg hc] at hF
        refine lv_iconst (v := (-1)) hx hb dX7_fullNow_62 (by decide) ?_
        exact retI hC hS hr hlk hF dX7_fullNow_63
      · rw [if_pos hc] at hF
        refine lv_iload_n hx hb dX7_fullNow_58 rfl (lv_at hl 2 rfl) ?_
        refine lv_goto (tgt := 63) hx hb dX7_fullNow_59 (by decide) ?_
        exact retI hC hS hr hlk hF dX7_fullNow_63
    · rw [if_neg hc] at hF
      refine lv_aload_n hx hb dX7_fullNow_27 rfl (lv_at hl 0 rfl) ?_
      refine lv_iload hx hb dX7_fullNow_28 (lv_at hl 3 rfl) ?_
      obtain ⟨r30, M30, h30, hF⟩ := bd_some hF
      refine cV_ (ci := 7) (i := 61) (C := RX7) (T := TX7) (N := 29) (As := [.int x4]) (v := some (.int r30)) (rest := []) (st1 := [.int r30]) hC hS (hn _ (by decide)) rfl rfl (c_X7_isFull l G hn x4 M21 _ _ h30) kV_X7_isFull lm_X7_212 ⟨Nat.le_of_ble_eq_true rfl, Nat.le_of_ble_eq_true rfl⟩ rfl hl.1 (Nat.le_of_ble_eq_true rfl) dX7_fullNow_30 ⟨Nat.le_refl _, Nat.le_refl _⟩ rfl (fun H locs hS => ?_)
      refine lv_if_eq (tgt := 47) hx hb dX7_fullNow_33 (by decide) (fun hc => ?_) (fun hc => ?_)
      · rw [if_pos hc] at hF
        exact b_X7_fullNow_47 hC hr hlk hn ih _ _ _ _ _ _ _ hF hS (lv_sub hl [0, 1, 2, 3] rfl)
      · rw [if_neg hc] at hF
        refine lv_iload_n hx hb dX7_fullNow_36 rfl (lv_at hl 2 rfl) ?_
        refine lv_iload_n hx hb dX7_fullNow_37 rfl (lv_at hl 1 rfl) ?_
        refine lv_icmp_ne (tgt := 44) hx hb dX7_fullNow_38 (by decide) (fun hc => ?_) (fun hc => ?_)
        · rw [if_neg hc] at hF
          refine lv_iinc (v := x3 + 1) (lv' := [(3, .int (x3 + 1)), (0, .ref (G.1 61)), (2, .int x2), (4, .int x4)]) hx hb dX7_fullNow_44 hl (k := 2) rfl rfl (by decide) rfl (fun ls hl => ?_)
          exact b_X7_fullNow_47 hC hr hlk hn ih _ _ _ _ _ _ _ hF hS (lv_sub hl [1, 2, 0, 3] rfl)
        · rw [if_pos hc] at hF
          refine lv_iload hx hb dX7_fullNow_41 (lv_at hl 3 rfl) ?_
          exact retI hC hS hr hlk hF dX7_fullNow_43
set_option maxHeartbeats 4000000 in
set_option maxRecDepth 100000 in
theorem b_X7_fullNow {M0 : Mem} {r0 : Int32} (hC : SX p m c s args cX7_fullNow 5 RX7 G (AG G)) (hr : meth.sig.returnType = (some .int)) (hlk : meth.locks = false) (hn : ∀ i ∈ LsF, i ∈ gL G) : ∀ (x1 : Int32) (x2 : Int32) (M : Mem) (H : Heap) (locs : List Loc) (ls : Array Slot), F_X7_fullNow x1 x2 M = some (r0, M0) → ST G (AG G) s M H locs → lv_has ls 5 [(0, .ref (G.1 61)), (1, .int x1), (2, .int x2)] → W p l e (RM 4 93) s m args below meth c H locs 0 0 (MQ below (QV G (some (.int r0)) M0) args s 0 0 (AG G)) (F0 m 0 ls []) := by
  obtain ⟨⟨hx, hb, hml, hown, hts⟩, hK, hG, hA⟩ := id hC
  intro x1 x2 M H locs ls hF hS hl
  unfold F_X7_fullNow at hF
  refine lv_aload_n hx hb dX7_fullNow_0 rfl (lv_at hl 0 rfl) ?_
  refine lv_iload_n hx hb dX7_fullNow_1 rfl (lv_at hl 1 rfl) ?_
  refine lv_aload_n hx hb dX7_fullNow_2 rfl (lv_at hl 0 rfl) ?_
  obtain ⟨r3, M3, h3, hF⟩ := bd_some hF
  refine cV_ (ci := 7) (i := 61) (C := RX7) (T := TX7) (N := 29) (As := []) (v := some (.int r3)) (rest := [.int x1, .ref (G.1 61)]) (st1 := [.int r3, .int x1, .ref (G.1 61)]) hC hS (hn _ (by decide)) rfl rfl (c_X7_heardOnes l G hn M _ _ h3) kV_X7_heardOnes lm_X7_162 ⟨Nat.le_of_ble_eq_true rfl, Nat.le_of_ble_eq_true rfl⟩ rfl hl.1 (Nat.le_of_ble_eq_true rfl) dX7_fullNow_3 ⟨Nat.le_refl _, Nat.le_refl _⟩ rfl (fun H locs hS => ?_)
  obtain ⟨M6, h6, hF⟩ := bdv_some hF
  refine cV_ (ci := 7) (i := 61) (C := RX7) (T := TX7) (N := 29) (As := [.int x1, .int r3]) (v := none) (rest := []) (st1 := []) hC hS (hn _ (by decide)) rfl rfl (c_X7_meetsAll l G hn x1 r3 M3 _ h6) kV_X7_meetsAll lm_X7_193 ⟨Nat.le_of_ble_eq_true rfl, Nat.le_of_ble_eq_true rfl⟩ rfl hl.1 (Nat.le_of_ble_eq_true rfl) dX7_fullNow_6 ⟨Nat.le_refl _, Nat.le_refl _⟩ rfl (fun H locs hS => ?_)
  refine lv_aload_n hx hb dX7_fullNow_9 rfl (lv_at hl 0 rfl) ?_
  obtain ⟨M10, h10, hF⟩ := bdv_some hF
  refine cV_ (ci := 7) (i := 61) (C := RX7) (T := TX7) (N := 29) (As := []) (v := none) (rest := []) (st1 := []) hC hS (hn _ (by decide)) rfl rfl (c_X7_laysSounds l G hn M6 _ h10) kV_X7_laysSounds lm_X7_209 ⟨Nat.le_of_ble_eq_true rfl, Nat.le_of_ble_eq_true rfl⟩ rfl hl.1 (Nat.le_of_ble_eq_true rfl) dX7_fullNow_10 ⟨Nat.le_refl _, Nat.le_refl _⟩ rfl (fun H locs hS => ?_)
  refine lv_iconst (v := 0) hx hb dX7_fullNow_13 (by decide) ?_
  refine lv_istore_n (lv' := [(3, .int 0), (0, .ref (G.1 61)), (1, .int x1), (2, .int x2)]) hx hb dX7_fullNow_14 rfl hl (by decide) rfl (fun ls hl => ?_)
  refine lv_iconst (v := 0) hx hb dX7_fullNow_15 (by decide) ?_
  refine lv_istore (lv' := [(4, .int 0), (3, .int 0), (0, .ref (G.1 61)), (1, .int x1), (2, .int x2)]) hx hb dX7_fullNow_16 hl (by decide) rfl (fun ls hl => ?_)
  exact b_X7_fullNow_18 hC hr hlk hn fu _ _ _ _ _ _ _ hF hS (lv_sub hl [2, 4, 1, 0] rfl)
set_option maxRecDepth 100000 in
theorem c_X7_fullNow (l : Launch) (G : GT) (hn : ∀ i ∈ LsF, i ∈ gL G) (x1 : Int32) (x2 : Int32) (M : Mem) (r0 : Int32) (M0 : Mem) (hF : F_X7_fullNow x1 x2 M = some (r0, M0)) : MetG l G yX7_fullNow cX7_fullNow 5 (some .int) 4 93 [.ref (G.1 61), .int x1, .int x2] M (some (.int r0)) M0 := by
  refine MetG.of (by decide) (Nat.le_of_ble_eq_true rfl) ?_
  intro p e s m args below meth c hC hr hlk hnm ls hS hl
  exact b_X7_fullNow hC hr hlk hn _ _ _ _ _ _ hF hS hl
end
