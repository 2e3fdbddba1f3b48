section
variable {p : Program} {l : Launch} {e : Env} {s : State} {m : MethodId} {args : Array Value} {below : List Frame} {meth : Method} {c : Code} {G : GT}
def F_X6_isFewer_16 (M : Mem) : Option (Int32 × Mem) := some (1, M)
def F_X6_isFewer (x0 : Int32) (x1 : Int32) (M : Mem) : Option (Int32 × Mem) := if x1 = (-1) then F_X6_isFewer_16 M else bd (F_J6_bitCount_0f7a4 x0 M) (fun r6 M6 => bd (F_J6_bitCount_0f7a4 x1 M6) (fun r10 M10 => if r10 ≤ r6 then some (0, M10) else F_X6_isFewer_16 M10))
set_option maxHeartbeats 4000000 in
set_option maxRecDepth 100000 in
theorem b_X6_isFewer_16 {M0 : Mem} {r0 : Int32} (hC : SX p m c s args cX6_isFewer 2 RX6 G (AG G)) (hr : meth.sig.returnType = (some .boolean)) (hlk : meth.locks = false) (hn : ∀ i ∈ LsF, i ∈ gL G) : ∀ (M : Mem) (H : Heap) (locs : List Loc) (ls : Array Slot), F_X6_isFewer_16 M = some (r0, M0) → ST G (AG G) s M H locs → lv_has ls 2 [] → W p l e (RM 1 20) s m args below meth c H locs 0 0 (MQ below (QV G (some (.int r0)) M0) args s 0 0 (AG G)) (F0 m 16 ls []) := by
  obtain ⟨⟨hx, hb, hml, hown, hts⟩, hK, hG, hA⟩ := id hC
  intro M H locs ls hF hS hl
  unfold F_X6_isFewer_16 at hF
  refine lv_iconst (v := 1) hx hb dX6_isFewer_16 (by decide) ?_
  refine lv_goto (tgt := 21) hx hb dX6_isFewer_17 (by decide) ?_
  exact retZ hC hS hr hlk rfl hF dX6_isFewer_21
set_option maxHeartbeats 4000000 in
set_option maxRecDepth 100000 in
theorem b_X6_isFewer {M0 : Mem} {r0 : Int32} (hC : SX p m c s args cX6_isFewer 2 RX6 G (AG G)) (hr : meth.sig.returnType = (some .boolean)) (hlk : meth.locks = false) (hn : ∀ i ∈ LsF, i ∈ gL G) : ∀ (x0 : Int32) (x1 : Int32) (M : Mem) (H : Heap) (locs : List Loc) (ls : Array Slot), F_X6_isFewer x0 x1 M = some (r0, M0) → ST G (AG G) s M H locs → lv_has ls 2 [(0, .int x0), (1, .int x1)] → W p l e (RM 1 20) s m args below meth c H locs 0 0 (MQ below (QV G (some (.int r0)) M0) args s 0 0 (AG G)) (F0 m 0 ls []) := by
  obtain ⟨⟨hx, hb, hml, hown, hts⟩, hK, hG, hA⟩ := id hC
  intro x0 x1 M H locs ls hF hS hl
  unfold F_X6_isFewer at hF
  refine lv_iload_n hx hb dX6_isFewer_0 rfl (lv_at hl 1 rfl) ?_
  refine lv_iconst (v := (-1)) hx hb dX6_isFewer_1 (by decide) ?_
  refine lv_icmp_eq (tgt := 16) hx hb dX6_isFewer_2 (by decide) (fun hc => ?_) (fun hc => ?_)
  · rw [if_pos hc] at hF
    exact b_X6_isFewer_16 hC hr hlk hn _ _ _ _ hF hS (lv_sub hl [] rfl)
  · rw [if_neg hc] at hF
    refine lv_iload_n hx hb dX6_isFewer_5 rfl (lv_at hl 0 rfl) ?_
    obtain ⟨r6, M6, h6, hF⟩ := bd_some hF
    refine cS_ (As := [.int x0]) (v := some (.int r6)) (rest := []) (st1 := [.int r6]) hC hS (c_J6_bitCount_0f7a4 l G x0 M _ _ h6) kS_J6_bitCount_0f7a4 lm_X6_186 ⟨Nat.le_of_ble_eq_true rfl, Nat.le_of_ble_eq_true rfl⟩ rfl hl.1 (Nat.le_of_ble_eq_true rfl) dX6_isFewer_6 ⟨Nat.le_refl _, Nat.le_refl _⟩ rfl (fun H locs hS => ?_)
    refine lv_iload_n hx hb dX6_isFewer_9 rfl (lv_at hl 1 rfl) ?_
    obtain ⟨r10, M10, h10, hF⟩ := bd_some hF
    refine cS_ (As := [.int x1]) (v := some (.int r10)) (rest := [.int r6]) (st1 := [.int r10, .int r6]) hC hS (c_J6_bitCount_0f7a4 l G x1 M6 _ _ h10) kS_J6_bitCount_0f7a4 lm_X6_186 ⟨Nat.le_of_ble_eq_true rfl, Nat.le_of_ble_eq_true rfl⟩ rfl hl.1 (Nat.le_of_ble_eq_true rfl) dX6_isFewer_10 ⟨Nat.le_refl _, Nat.le_refl _⟩ rfl (fun H locs hS => ?_)
    refine lv_icmp_ge (tgt := 20) hx hb dX6_isFewer_13 (by decide) (fun hc => ?_) (fun hc => ?_)
    · rw [if_pos hc] at hF
      refine lv_iconst (v := 0) hx hb dX6_isFewer_20 (by decide) ?_
      exact retZ hC hS hr hlk rfl hF dX6_isFewer_21
    · rw [if_neg hc] at hF
      exact b_X6_isFewer_16 hC hr hlk hn _ _ _ _ hF hS (lv_sub hl [] rfl)
set_option maxRecDepth 100000 in
theorem c_X6_isFewer (l : Launch) (G : GT) (hn : ∀ i ∈ LsF, i ∈ gL G) (x0 : Int32) (x1 : Int32) (M : Mem) (r0 : Int32) (M0 : Mem) (hF : F_X6_isFewer x0 x1 M = some (r0, M0)) : MetG l G yX6_isFewer cX6_isFewer 2 (some .boolean) 1 20 [.int x0, .int x1] M (some (.int r0)) M0 := by
  refine MetG.of (by decide) (Nat.le_of_ble_eq_true rfl) ?_
  intro p e s m args below meth c hC hr hlk hnm ls hS hl
  exact b_X6_isFewer hC hr hlk hn _ _ _ _ _ _ hF hS hl
def F_X6_brings_132 (k57 : Int32 → Int32 → Int32 → Int32 → Mem → Option (Int32 × Mem)) (x1 : Int32) (x2 : Int32) (x3 : Int32) (x4 : Int32) (M : Mem) : Option (Int32 × Mem) := k57 x1 x2 x3 (x4 + 1) M
def F_X6_brings_57 : Nat → Int32 → Int32 → Int32 → Int32 → Mem → Option (Int32 × Mem)
  | 0, _, _, _, _, _ => none
  | n + 1, x1, x2, x3, x4, M => if (M.1 1) < x4 then some (x3, M) else if (x4 &&& ((M.1 1) ^^^ (-1))) = 0 then bd (F_X6_isFewer x4 x3 M) (fun r87 M87 => if r87 = 0 then F_X6_brings_132 (F_X6_brings_57 n) x1 x2 x3 x4 M87 else bd (F_X5_heardOnes M87) (fun r105 M105 => bdv (F_X0_takeUp 0 (r105 ||| x4) M105) (fun M111 => bd (F_X0_leastSet M111) (fun r118 M118 => if ((r118 >>> (x1 &&& 31)) &&& 1) = x2 then F_X6_brings_132 (F_X6_brings_57 n) x1 x2 x4 x4 M118 else F_X6_brings_132 (F_X6_brings_57 n) x1 x2 x3 x4 M118)))) else F_X6_brings_132 (F_X6_brings_57 n) x1 x2 x3 x4 M
def F_X6_brings_52 (x1 : Int32) (x2 : Int32) (M : Mem) : Option (Int32 × Mem) := F_X6_brings_57 fu x1 x2 (-1) 0 M
def F_X6_brings (x1 : Int32) (x2 : Int32) (M : Mem) : Option (Int32 × Mem) := bd (F_X5_has x1 M) (fun r5 M5 => if r5 = 0 then some ((-2), M5) else ckb (ix x1 10) (if (M5.2 2 x1.toNatClampNeg) = 0 then if (((M5.1 1) >>> (x1 &&& 31)) &&& 1) = 0 then if x2 = 0 then F_X6_brings_52 x1 x2 M5 else if x2 = 1 then F_X6_brings_52 x1 x2 M5 else some ((-2), M5) else some ((-2), M5) else some ((-2), M5)))
set_option maxHeartbeats 4000000 in
set_option maxRecDepth 100000 in
theorem b_X6_brings_132 {k57 : Int32 → Int32 → Int32 → Int32 → Mem → Option (Int32 × Mem)} {M0 : Mem} {r0 : Int32} (hC : SX p m c s args cX6_brings 5 RX6 G (AG G)) (hr : meth.sig.returnType = (some .int)) (hlk : meth.locks = false) (hn : ∀ i ∈ LsF, i ∈ gL G) (hk57 : ∀ (x1 : Int32) (x2 : Int32) (x3 : Int32) (x4 : Int32) (M : Mem) (H : Heap) (locs : List Loc) (ls : Array Slot), k57 x1 x2 x3 x4 M = some (r0, M0) → ST G (AG G) s M H locs → lv_has ls 5 [(0, .ref (G.1 50)), (1, .int x1), (2, .int x2), (3, .int x3), (4, .int x4)] → W p l e (RM 4 92) s m args below meth c H locs 0 0 (MQ below (QV G (some (.int r0)) M0) args s 0 0 (AG G)) (F0 m 57 ls [])) : ∀ (x1 : Int32) (x2 : Int32) (x3 : Int32) (x4 : Int32) (M : Mem) (H : Heap) (locs : List Loc) (ls : Array Slot), F_X6_brings_132 k57 x1 x2 x3 x4 M = some (r0, M0) → ST G (AG G) s M H locs → lv_has ls 5 [(0, .ref (G.1 50)), (1, .int x1), (2, .int x2), (3, .int x3), (4, .int x4)] → W p l e (RM 4 92) s m args below meth c H locs 0 0 (MQ below (QV G (some (.int r0)) M0) args s 0 0 (AG G)) (F0 m 132 ls []) := by
  obtain ⟨⟨hx, hb, hml, hown, hts⟩, hK, hG, hA⟩ := id hC
  intro x1 x2 x3 x4 M H locs ls hF hS hl
  unfold F_X6_brings_132 at hF
  refine lv_iinc (v := x4 + 1) (lv' := [(4, .int (x4 + 1)), (0, .ref (G.1 50)), (1, .int x1), (2, .int x2), (3, .int x3)]) hx hb dX6_brings_132 hl (k := 4) rfl rfl (by decide) rfl (fun ls hl => ?_)
  refine lv_goto (tgt := 57) hx hb dX6_brings_135 (by decide) ?_
  exact hk57 _ _ _ _ _ _ _ _ hF hS (lv_sub hl [1, 2, 3, 4, 0] rfl)
set_option maxHeartbeats 4000000 in
set_option maxRecDepth 100000 in
theorem b_X6_brings_57 {M0 : Mem} {r0 : Int32} (hC : SX p m c s args cX6_brings 5 RX6 G (AG G)) (hr : meth.sig.returnType = (some .int)) (hlk : meth.locks = false) (hn : ∀ i ∈ LsF, i ∈ gL G) : ∀ (n : Nat) (x1 : Int32) (x2 : Int32) (x3 : Int32) (x4 : Int32) (M : Mem) (H : Heap) (locs : List Loc) (ls : Array Slot), F_X6_brings_57 n x1 x2 x3 x4 M = some (r0, M0) → ST G (AG G) s M H locs → lv_has ls 5 [(0, .ref (G.1 50)), (1, .int x1), (2, .int x2), (3, .int x3), (4, .int x4)] → W p l e (RM 4 92) s m args below meth c H locs 0 0 (MQ below (QV G (some (.int r0)) M0) args s 0 0 (AG G)) (F0 m 57 ls []) := by
  obtain ⟨⟨hx, hb, hml, hown, hts⟩, hK, hG, hA⟩ := id hC
  intro n
  induction n with
  | zero =>
    intro x1 x2 x3 x4 M H locs ls hF
    cases hF
  | succ n ih =>
    intro x1 x2 x3 x4 M H locs ls hF hS hl
    unfold F_X6_brings_57 at hF
    refine lv_iload hx hb dX6_brings_57 (lv_at hl 4 rfl) ?_
    refine lv_aload_n hx hb dX6_brings_59 rfl (lv_at hl 0 rfl) ?_
    refine gx (ci := 6) (k := 1) (v := .ref (G.1 52)) (C := RX6) (T := TX6) (N := 8) hC hS (hn _ (by decide)) rfl rfl in_X6 (by decide) rfl rfl lf_X6_19 dX6_brings_60 ?_
    refine gxN (ci := 5) (k := 11) (v := .int (M.1 1)) (C := RX5) (T := TX5) (N := 13) hC hS (hn _ (by decide)) rfl rfl in_X5 (by decide) rfl rfl ln_X6_126 dX6_brings_63 ?_
    refine lv_icmp_gt (tgt := 138) hx hb dX6_brings_66 (by decide) (fun hc => ?_) (fun hc => ?_)
    · rw [if_pos hc] at hF
      refine lv_iload_n hx hb dX6_brings_138 rfl (lv_at hl 3 rfl) ?_
      exact retI hC hS hr hlk hF dX6_brings_139
    · rw [if_neg hc] at hF
      refine lv_iload hx hb dX6_brings_69 (lv_at hl 4 rfl) ?_
      refine lv_aload_n hx hb dX6_brings_71 rfl (lv_at hl 0 rfl) ?_
      refine gx (ci := 6) (k := 1) (v := .ref (G.1 52)) (C := RX6) (T := TX6) (N := 8) hC hS (hn _ (by decide)) rfl rfl in_X6 (by decide) rfl rfl lf_X6_19 dX6_brings_72 ?_
      refine gxN (ci := 5) (k := 11) (v := .int (M.1 1)) (C := RX5) (T := TX5) (N := 13) hC hS (hn _ (by decide)) rfl rfl in_X5 (by decide) rfl rfl ln_X6_126 dX6_brings_75 ?_
      refine lv_iconst (v := (-1)) hx hb dX6_brings_78 (by decide) ?_
      refine lv_ixor hx hb dX6_brings_79 ?_
      refine lv_iand hx hb dX6_brings_80 ?_
      refine lv_if_ne (tgt := 132) hx hb dX6_brings_81 (by decide) (fun hc => ?_) (fun hc => ?_)
      · rw [if_neg hc] at hF
        exact b_X6_brings_132 hC hr hlk hn ih _ _ _ _ _ _ _ _ hF hS (lv_sub hl [0, 1, 2, 3, 4] rfl)
      · rw [if_pos hc] at hF
        refine lv_iload hx hb dX6_brings_84 (lv_at hl 4 rfl) ?_
        refine lv_iload_n hx hb dX6_brings_86 rfl (lv_at hl 3 rfl) ?_
        obtain ⟨r87, M87, h87, hF⟩ := bd_some hF
        refine cS_ (As := [.int x4, .int x3]) (v := some (.int r87)) (rest := []) (st1 := [.int r87]) hC hS (c_X6_isFewer l G hn x4 x3 M _ _ h87) kS_X6_isFewer lm_X6_232 ⟨Nat.le_of_ble_eq_true rfl, Nat.le_of_ble_eq_true rfl⟩ rfl hl.1 (Nat.le_of_ble_eq_true rfl) dX6_brings_87 ⟨Nat.le_refl _, Nat.le_refl _⟩ rfl (fun H locs hS => ?_)
        refine lv_if_eq (tgt := 132) hx hb dX6_brings_90 (by decide) (fun hc => ?_) (fun hc => ?_)
        · rw [if_pos hc] at hF
          exact b_X6_brings_132 hC hr hlk hn ih _ _ _ _ _ _ _ _ hF hS (lv_sub hl [0, 1, 2, 3, 4] rfl)
        · rw [if_neg hc] at hF
          refine lv_aload_n hx hb dX6_brings_93 rfl (lv_at hl 0 rfl) ?_
          refine gx (ci := 6) (k := 6) (v := .ref (G.1 56)) (C := RX6) (T := TX6) (N := 8) hC hS (hn _ (by decide)) rfl rfl in_X6 (by decide) rfl rfl lf_X6_51 dX6_brings_94 ?_
          refine lv_aload_n hx hb dX6_brings_97 rfl (lv_at hl 0 rfl) ?_
          refine gx (ci := 6) (k := 2) (v := .ref (G.1 (53 + 0))) (C := RX6) (T := TX6) (N := 8) hC hS (hn _ (by decide)) rfl rfl in_X6 (by decide) rfl rfl lf_X6_26 dX6_brings_98 ?_
          refine lv_aload_n hx hb dX6_brings_101 rfl (lv_at hl 0 rfl) ?_
          refine gx (ci := 6) (k := 1) (v := .ref (G.1 52)) (C := RX6) (T := TX6) (N := 8) hC hS (hn _ (by decide)) rfl rfl in_X6 (by decide) rfl rfl lf_X6_19 dX6_brings_102 ?_
          obtain ⟨r105, M105, h105, hF⟩ := bd_some hF
          refine cV_ (ci := 5) (i := 52) (C := RX5) (T := TX5) (N := 13) (As := []) (v := some (.int r105)) (rest := [.ref (G.1 (53 + 0)), .ref (G.1 56)]) (st1 := [.int r105, .ref (G.1 (53 + 0)), .ref (G.1 56)]) hC hS (hn _ (by decide)) rfl rfl (c_X5_heardOnes l G hn M87 _ _ h105) kV_X5_heardOnes lm_X6_163 ⟨Nat.le_of_ble_eq_true rfl, Nat.le_of_ble_eq_true rfl⟩ rfl hl.1 (Nat.le_of_ble_eq_true rfl) dX6_brings_105 ⟨Nat.le_refl _, Nat.le_refl _⟩ rfl (fun H locs hS => ?_)
          refine lv_iload hx hb dX6_brings_108 (lv_at hl 4 rfl) ?_
          refine lv_ior hx hb dX6_brings_110 ?_
          obtain ⟨M111, h111, hF⟩ := bdv_some hF
          refine cV_ (ci := 0) (i := 56) (C := RX0) (T := TX0) (N := 6) (As := [.ref (G.1 (53 + 0)), .int (r105 ||| x4)]) (v := none) (rest := []) (st1 := []) hC hS (hn _ (by decide)) rfl rfl (c_X0_takeUp l G hn 0 (by decide) (r105 ||| x4) M105 _ h111) kV_X0_takeUp lm_X6_198 ⟨Nat.le_of_ble_eq_true rfl, Nat.le_of_ble_eq_true rfl⟩ rfl hl.1 (Nat.le_of_ble_eq_true rfl) dX6_brings_111 ⟨Nat.le_refl _, Nat.le_refl _⟩ rfl (fun H locs hS => ?_)
          refine lv_aload_n hx hb dX6_brings_114 rfl (lv_at hl 0 rfl) ?_
          refine gx (ci := 6) (k := 6) (v := .ref (G.1 56)) (C := RX6) (T := TX6) (N := 8) hC hS (hn _ (by decide)) rfl rfl in_X6 (by decide) rfl rfl lf_X6_51 dX6_brings_115 ?_
          obtain ⟨r118, M118, h118, hF⟩ := bd_some hF
          refine cV_ (ci := 0) (i := 56) (C := RX0) (T := TX0) (N := 6) (As := []) (v := some (.int r118)) (rest := []) (st1 := [.int r118]) hC hS (hn _ (by decide)) rfl rfl (c_X0_leastSet l G hn M111 _ _ h118) kV_X0_leastSet lm_X6_207 ⟨Nat.le_of_ble_eq_true rfl, Nat.le_of_ble_eq_true rfl⟩ rfl hl.1 (Nat.le_of_ble_eq_true rfl) dX6_brings_118 ⟨Nat.le_refl _, Nat.le_refl _⟩ rfl (fun H locs hS => ?_)
          refine lv_iload_n hx hb dX6_brings_121 rfl (lv_at hl 1 rfl) ?_
          refine lv_ishr hx hb dX6_brings_122 ?_
          refine lv_iconst (v := 1) hx hb dX6_brings_123 (by decide) ?_
          refine lv_iand hx hb dX6_brings_124 ?_
          refine lv_iload_n hx hb dX6_brings_125 rfl (lv_at hl 2 rfl) ?_
          refine lv_icmp_ne (tgt := 132) hx hb dX6_brings_126 (by decide) (fun hc => ?_) (fun hc => ?_)
          · rw [if_neg hc] at hF
            exact b_X6_brings_132 hC hr hlk hn ih _ _ _ _ _ _ _ _ hF hS (lv_sub hl [0, 1, 2, 3, 4] rfl)
          · rw [if_pos hc] at hF
            refine lv_iload hx hb dX6_brings_129 (lv_at hl 4 rfl) ?_
            refine lv_istore_n (lv' := [(3, .int x4), (0, .ref (G.1 50)), (1, .int x1), (2, .int x2), (4, .int x4)]) hx hb dX6_brings_131 rfl hl (by decide) rfl (fun ls hl => ?_)
            exact b_X6_brings_132 hC hr hlk hn ih _ _ _ _ _ _ _ _ hF hS (lv_sub hl [1, 2, 3, 0, 4] rfl)
set_option maxHeartbeats 4000000 in
set_option maxRecDepth 100000 in
theorem b_X6_brings_52 {M0 : Mem} {r0 : Int32} (hC : SX p m c s args cX6_brings 5 RX6 G (AG G)) (hr : meth.sig.returnType = (some .int)) (hlk : meth.locks = false) (hn : ∀ i ∈ LsF, i ∈ gL G) : ∀ (x1 : Int32) (x2 : Int32) (M : Mem) (H : Heap) (locs : List Loc) (ls : Array Slot), F_X6_brings_52 x1 x2 M = some (r0, M0) → ST G (AG G) s M H locs → lv_has ls 5 [(0, .ref (G.1 50)), (1, .int x1), (2, .int x2)] → W p l e (RM 4 92) s m args below meth c H locs 0 0 (MQ below (QV G (some (.int r0)) M0) args s 0 0 (AG G)) (F0 m 52 ls []) := by
  obtain ⟨⟨hx, hb, hml, hown, hts⟩, hK, hG, hA⟩ := id hC
  intro x1 x2 M H locs ls hF hS hl
  unfold F_X6_brings_52 at hF
  refine lv_iconst (v := (-1)) hx hb dX6_brings_52 (by decide) ?_
  refine lv_istore_n (lv' := [(3, .int ((-1))), (0, .ref (G.1 50)), (1, .int x1), (2, .int x2)]) hx hb dX6_brings_53 rfl hl (by decide) rfl (fun ls hl => ?_)
  refine lv_iconst (v := 0) hx hb dX6_brings_54 (by decide) ?_
  refine lv_istore (lv' := [(4, .int 0), (3, .int ((-1))), (0, .ref (G.1 50)), (1, .int x1), (2, .int x2)]) hx hb dX6_brings_55 hl (by decide) rfl (fun ls hl => ?_)
  exact b_X6_brings_57 hC hr hlk hn fu _ _ _ _ _ _ _ _ hF hS (lv_sub hl [2, 3, 4, 1, 0] rfl)
set_option maxHeartbeats 4000000 in
set_option maxRecDepth 100000 in
theorem b_X6_brings {M0 : Mem} {r0 : Int32} (hC : SX p m c s args cX6_brings 5 RX6 G (AG G)) (hr : meth.sig.returnType = (some .int)) (hlk : meth.locks = false) (hn : ∀ i ∈ LsF, i ∈ gL G) : ∀ (x1 : Int32) (x2 : Int32) (M : Mem) (H : Heap) (locs : List Loc) (ls : Array Slot), F_X6_brings x1 x2 M = some (r0, M0) → ST G (AG G) s M H locs → lv_has ls 5 [(0, .ref (G.1 50)), (1, .int x1), (2, .int x2)] → W p l e (RM 4 92) s m args below meth c H locs 0 0 (MQ below (QV G (some (.int r0)) M0) args s 0 0 (AG G)) (F0 m 0 ls []) := by
  obtain ⟨⟨hx, hb, hml, hown, hts⟩, hK, hG, hA⟩ := id hC
  intro x1 x2 M H locs ls hF hS hl
  unfold F_X6_brings at hF
  refine lv_aload_n hx hb dX6_brings_0 rfl (lv_at hl 0 rfl) ?_
  refine gx (ci := 6) (k := 1) (v := .ref (G.1 52)) (C := RX6) (T := TX6) (N := 8) hC hS (hn _ (by decide)) rfl rfl in_X6 (by decide) rfl rfl lf_X6_19 dX6_brings_1 ?_
  refine lv_iload_n hx hb dX6_brings_4 rfl (lv_at hl 1 rfl) ?_
  obtain ⟨r5, M5, h5, hF⟩ := bd_some hF
  refine cV_ (ci := 5) (i := 52) (C := RX5) (T := TX5) (N := 13) (As := [.int x1]) (v := some (.int r5)) (rest := []) (st1 := [.int r5]) hC hS (hn _ (by decide)) rfl rfl (c_X5_has l G hn x1 M _ _ h5) kV_X5_has lm_X6_108 ⟨Nat.le_of_ble_eq_true rfl, Nat.le_of_ble_eq_true rfl⟩ rfl hl.1 (Nat.le_of_ble_eq_true rfl) dX6_brings_5 ⟨Nat.le_refl _, Nat.le_refl _⟩ rfl (fun H locs hS => ?_)
  refine lv_if_eq (tgt := 37) hx hb dX6_brings_8 (by decide) (fun hc => ?_) (fun hc => ?_)
  · rw [if_pos hc] at hF
    refine lv_bipush (v := (-2)) hx hb dX6_brings_37 (by decide) ?_
    exact retI hC hS hr hlk hF dX6_brings_39
  · rw [if_neg hc] at hF
    refine lv_aload_n hx hb dX6_brings_11 rfl (lv_at hl 0 rfl) ?_
    refine gx (ci := 6) (k := 1) (v := .ref (G.1 52)) (C := RX6) (T := TX6) (N := 8) hC hS (hn _ (by decide)) rfl rfl in_X6 (by decide) rfl rfl lf_X6_19 dX6_brings_12 ?_
    refine gxN (ci := 5) (k := 0) (v := .ref (G.1 2)) (C := RX5) (T := TX5) (N := 13) hC hS (hn _ (by decide)) rfl rfl in_X5 (by decide) rfl rfl ln_X6_111 dX6_brings_15 ?_
    refine lv_iload_n hx hb dX6_brings_18 rfl (lv_at hl 1 rfl) ?_
    obtain ⟨hi, hF⟩ := ckb_some hF
    refine ald hC hS (hn _ (by decide)) (by decide) rfl hi dX6_brings_19 ?_
    refine lv_if_ne (tgt := 37) hx hb dX6_brings_20 (by decide) (fun hc => ?_) (fun hc => ?_)
    · rw [if_neg hc] at hF
      refine lv_bipush (v := (-2)) hx hb dX6_brings_37 (by decide) ?_
      exact retI hC hS hr hlk hF dX6_brings_39
    · rw [if_pos hc] at hF
      refine lv_aload_n hx hb dX6_brings_23 rfl (lv_at hl 0 rfl) ?_
      refine gx (ci := 6) (k := 1) (v := .ref (G.1 52)) (C := RX6) (T := TX6) (N := 8) hC hS (hn _ (by decide)) rfl rfl in_X6 (by decide) rfl rfl lf_X6_19 dX6_brings_24 ?_
      refine gxN (ci := 5) (k := 11) (v := .int (M5.1 1)) (C := RX5) (T := TX5) (N := 13) hC hS (hn _ (by decide)) rfl rfl in_X5 (by decide) rfl rfl ln_X6_126 dX6_brings_27 ?_
      refine lv_iload_n hx hb dX6_brings_30 rfl (lv_at hl 1 rfl) ?_
      refine lv_ishr hx hb dX6_brings_31 ?_
      refine lv_iconst (v := 1) hx hb dX6_brings_32 (by decide) ?_
      refine lv_iand hx hb dX6_brings_33 ?_
      refine lv_if_eq (tgt := 40) hx hb dX6_brings_34 (by decide) (fun hc => ?_) (fun hc => ?_)
      · rw [if_pos hc] at hF
        refine lv_iload_n hx hb dX6_brings_40 rfl (lv_at hl 2 rfl) ?_
        refine lv_if_eq (tgt := 52) hx hb dX6_brings_41 (by decide) (fun hc => ?_) (fun hc => ?_)
        · rw [if_pos hc] at hF
          exact b_X6_brings_52 hC hr hlk hn _ _ _ _ _ _ hF hS (lv_sub hl [0, 1, 2] rfl)
        · rw [if_neg hc] at hF
          refine lv_iload_n hx hb dX6_brings_44 rfl (lv_at hl 2 rfl) ?_
          refine lv_iconst (v := 1) hx hb dX6_brings_45 (by decide) ?_
          refine lv_icmp_eq (tgt := 52) hx hb dX6_brings_46 (by decide) (fun hc => ?_) (fun hc => ?_)
          · rw [if_pos hc] at hF
            exact b_X6_brings_52 hC hr hlk hn _ _ _ _ _ _ hF hS (lv_sub hl [0, 1, 2] rfl)
          · rw [if_neg hc] at hF
            refine lv_bipush (v := (-2)) hx hb dX6_brings_49 (by decide) ?_
            exact retI hC hS hr hlk hF dX6_brings_51
      · rw [if_neg hc] at hF
        refine lv_bipush (v := (-2)) hx hb dX6_brings_37 (by decide) ?_
        exact retI hC hS hr hlk hF dX6_brings_39
set_option maxRecDepth 100000 in
theorem c_X6_brings (l : Launch) (G : GT) (hn : ∀ i ∈ LsF, i ∈ gL G) (x1 : Int32) (x2 : Int32) (M : Mem) (r0 : Int32) (M0 : Mem) (hF : F_X6_brings x1 x2 M = some (r0, M0)) : MetG l G yX6_brings cX6_brings 5 (some .int) 4 92 [.ref (G.1 50), .int x1, .int x2] M (some (.int r0)) M0 := by
  refine MetG.of (by decide) (Nat.le_of_ble_eq_true rfl) ?_
  intro p e s m args below meth c hC hr hlk hnm ls hS hl
  exact b_X6_brings hC hr hlk hn _ _ _ _ _ _ hF hS hl
def F_X6_isHeardUnlike (x1 : Int32) (M : Mem) : Option (Int32 × Mem) := bdv (F_X1_byNumbers 0 x1 M) (fun M9 => bdv (F_X1_byNumbers 1 x1 M9) (fun M29 => if (M9.1 3) = (M29.1 3) then some (0, M29) else some (1, M29)))
set_option maxHeartbeats 4000000 in
set_option maxRecDepth 100000 in
theorem b_X6_isHeardUnlike {M0 : Mem} {r0 : Int32} (hC : SX p m c s args cX6_isHeardUnlike 3 RX6 G (AG G)) (hr : meth.sig.returnType = (some .boolean)) (hlk : meth.locks = false) (hn : ∀ i ∈ LsF, i ∈ gL G) : ∀ (x1 : Int32) (M : Mem) (H : Heap) (locs : List Loc) (ls : Array Slot), F_X6_isHeardUnlike x1 M = some (r0, M0) → ST G (AG G) s M H locs → lv_has ls 3 [(0, .ref (G.1 50)), (1, .int x1)] → W p l e (RM 4 94) s m args below meth c H locs 0 0 (MQ below (QV G (some (.int r0)) M0) args s 0 0 (AG G)) (F0 m 0 ls []) := by
  obtain ⟨⟨hx, hb, hml, hown, hts⟩, hK, hG, hA⟩ := id hC
  intro x1 M H locs ls hF hS hl
  unfold F_X6_isHeardUnlike at hF
  refine lv_aload_n hx hb dX6_isHeardUnlike_0 rfl (lv_at hl 0 rfl) ?_
  refine gx (ci := 6) (k := 5) (v := .ref (G.1 55)) (C := RX6) (T := TX6) (N := 8) hC hS (hn _ (by decide)) rfl rfl in_X6 (by decide) rfl rfl lf_X6_44 dX6_isHeardUnlike_1 ?_
  refine lv_aload_n hx hb dX6_isHeardUnlike_4 rfl (lv_at hl 0 rfl) ?_
  refine gx (ci := 6) (k := 2) (v := .ref (G.1 (53 + 0))) (C := RX6) (T := TX6) (N := 8) hC hS (hn _ (by decide)) rfl rfl in_X6 (by decide) rfl rfl lf_X6_26 dX6_isHeardUnlike_5 ?_
  refine lv_iload_n hx hb dX6_isHeardUnlike_8 rfl (lv_at hl 1 rfl) ?_
  obtain ⟨M9, h9, hF⟩ := bdv_some hF
  refine cV_ (ci := 1) (i := 55) (C := RX1) (T := TX1) (N := 4) (As := [.ref (G.1 (53 + 0)), .int x1]) (v := none) (rest := []) (st1 := []) hC hS (hn _ (by decide)) rfl rfl (c_X1_byNumbers l G hn 0 (by decide) x1 M _ h9) kV_X1_byNumbers lm_X6_166 ⟨Nat.le_of_ble_eq_true rfl, Nat.le_of_ble_eq_true rfl⟩ rfl hl.1 (Nat.le_of_ble_eq_true rfl) dX6_isHeardUnlike_9 ⟨Nat.le_refl _, Nat.le_refl _⟩ rfl (fun H locs hS => ?_)
  refine lv_aload_n hx hb dX6_isHeardUnlike_12 rfl (lv_at hl 0 rfl) ?_
  refine gx (ci := 6) (k := 5) (v := .ref (G.1 55)) (C := RX6) (T := TX6) (N := 8) hC hS (hn _ (by decide)) rfl rfl in_X6 (by decide) rfl rfl lf_X6_44 dX6_isHeardUnlike_13 ?_
  refine gxN (ci := 1) (k := 1) (v := .int (M9.1 3)) (C := RX1) (T := TX1) (N := 4) hC hS (hn _ (by decide)) rfl rfl in_X1 (by decide) rfl rfl ln_X6_243 dX6_isHeardUnlike_16 ?_
  refine lv_istore_n (lv' := [(2, .int (M9.1 3)), (0, .ref (G.1 50)), (1, .int x1)]) hx hb dX6_isHeardUnlike_19 rfl hl (by decide) rfl (fun ls hl => ?_)
  refine lv_aload_n hx hb dX6_isHeardUnlike_20 rfl (lv_at hl 1 rfl) ?_
  refine gx (ci := 6) (k := 5) (v := .ref (G.1 55)) (C := RX6) (T := TX6) (N := 8) hC hS (hn _ (by decide)) rfl rfl in_X6 (by decide) rfl rfl lf_X6_44 dX6_isHeardUnlike_21 ?_
  refine lv_aload_n hx hb dX6_isHeardUnlike_24 rfl (lv_at hl 1 rfl) ?_
  refine gx (ci := 6) (k := 3) (v := .ref (G.1 (53 + 1))) (C := RX6) (T := TX6) (N := 8) hC hS (hn _ (by decide)) rfl rfl in_X6 (by decide) rfl rfl lf_X6_30 dX6_isHeardUnlike_25 ?_
  refine lv_iload_n hx hb dX6_isHeardUnlike_28 rfl (lv_at hl 2 rfl) ?_
  obtain ⟨M29, h29, hF⟩ := bdv_some hF
  refine cV_ (ci := 1) (i := 55) (C := RX1) (T := TX1) (N := 4) (As := [.ref (G.1 (53 + 1)), .int x1]) (v := none) (rest := []) (st1 := []) hC hS (hn _ (by decide)) rfl rfl (c_X1_byNumbers l G hn 1 (by decide) x1 M9 _ h29) kV_X1_byNumbers lm_X6_166 ⟨Nat.le_of_ble_eq_true rfl, Nat.le_of_ble_eq_true rfl⟩ rfl hl.1 (Nat.le_of_ble_eq_true rfl) dX6_isHeardUnlike_29 ⟨Nat.le_refl _, Nat.le_refl _⟩ rfl (fun H locs hS => ?_)
  refine lv_iload_n hx hb dX6_isHeardUnlike_32 rfl (lv_at hl 0 rfl) ?_
  refine lv_aload_n hx hb dX6_isHeardUnlike_33 rfl (lv_at hl 1 rfl) ?_
  refine gx (ci := 6) (k := 5) (v := .ref (G.1 55)) (C := RX6) (T := TX6) (N := 8) hC hS (hn _ (by decide)) rfl rfl in_X6 (by decide) rfl rfl lf_X6_44 dX6_isHeardUnlike_34 ?_
  refine gxN (ci := 1) (k := 1) (v := .int (M29.1 3)) (C := RX1) (T := TX1) (N := 4) hC hS (hn _ (by decide)) rfl rfl in_X1 (by decide) rfl rfl ln_X6_243 dX6_isHeardUnlike_37 ?_
  refine lv_icmp_eq (tgt := 47) hx hb dX6_isHeardUnlike_40 (by decide) (fun hc => ?_) (fun hc => ?_)
  · rw [if_pos hc] at hF
    refine lv_iconst (v := 0) hx hb dX6_isHeardUnlike_47 (by decide) ?_
    exact retZ hC hS hr hlk rfl hF dX6_isHeardUnlike_48
  · rw [if_neg hc] at hF
    refine lv_iconst (v := 1) hx hb dX6_isHeardUnlike_43 (by decide) ?_
    refine lv_goto (tgt := 48) hx hb dX6_isHeardUnlike_44 (by decide) ?_
    exact retZ hC hS hr hlk rfl hF dX6_isHeardUnlike_48
set_option maxRecDepth 100000 in
theorem c_X6_isHeardUnlike (l : Launch) (G : GT) (hn : ∀ i ∈ LsF, i ∈ gL G) (x1 : Int32) (M : Mem) (r0 : Int32) (M0 : Mem) (hF : F_X6_isHeardUnlike x1 M = some (r0, M0)) : MetG l G yX6_isHeardUnlike cX6_isHeardUnlike 3 (some .boolean) 4 94 [.ref (G.1 50), .int x1] M (some (.int r0)) M0 := by
  refine MetG.of (by decide) (Nat.le_of_ble_eq_true rfl) ?_
  intro p e s m args below meth c hC hr hlk hnm ls hS hl
  exact b_X6_isHeardUnlike hC hr hlk hn _ _ _ _ _ hF hS hl
def F_X6_part_59 (k28 : Int32 → Int32 → Int32 → Mem → Option (Int32 × Mem)) (x1 : Int32) (x2 : Int32) (x3 : Int32) (M : Mem) : Option (Int32 × Mem) := k28 x1 x2 (x3 + 1) M
def F_X6_part_28 : Nat → Int32 → Int32 → Int32 → Mem → Option (Int32 × Mem)
  | 0, _, _, _, _ => none
  | n + 1, x1, x2, x3, M => if x1 < x3 then some (x2, M) else if (x3 &&& (x1 ^^^ (-1))) = 0 then bd (F_X6_isFewer x3 x2 M) (fun r43 M43 => if r43 = 0 then F_X6_part_59 (F_X6_part_28 n) x1 x2 x3 M43 else bd (F_X6_isHeardUnlike x3 M43) (fun r51 M51 => if r51 = 0 then F_X6_part_59 (F_X6_part_28 n) x1 x2 x3 M51 else F_X6_part_59 (F_X6_part_28 n) x1 x3 x3 M51)) else F_X6_part_59 (F_X6_part_28 n) x1 x2 x3 M
def F_X6_part (M : Mem) : Option (Int32 × Mem) := bd (F_X2_saysTheSameAs 0 1 M) (fun r8 M8 => if r8 = 0 then bd (F_X5_heardOnes M8) (fun r20 M20 => F_X6_part_28 fu r20 (-1) 1 M20) else some ((-1), M8))
set_option maxHeartbeats 4000000 in
set_option maxRecDepth 100000 in
theorem b_X6_part_59 {k28 : Int32 → Int32 → Int32 → Mem → Option (Int32 × Mem)} {M0 : Mem} {r0 : Int32} (hC : SX p m c s args cX6_part 4 RX6 G (AG G)) (hr : meth.sig.returnType = (some .int)) (hlk : meth.locks = false) (hn : ∀ i ∈ LsF, i ∈ gL G) (hk28 : ∀ (x1 : Int32) (x2 : Int32) (x3 : Int32) (M : Mem) (H : Heap) (locs : List Loc) (ls : Array Slot), k28 x1 x2 x3 M = some (r0, M0) → ST G (AG G) s M H locs → lv_has ls 4 [(0, .ref (G.1 50)), (1, .int x1), (2, .int x2), (3, .int x3)] → W p l e (RM 5 116) s m args below meth c H locs 0 0 (MQ below (QV G (some (.int r0)) M0) args s 0 0 (AG G)) (F0 m 28 ls [])) : ∀ (x1 : Int32) (x2 : Int32) (x3 : Int32) (M : Mem) (H : Heap) (locs : List Loc) (ls : Array Slot), F_X6_part_59 k28 x1 x2 x3 M = some (r0, M0) → ST G (AG G) s M H locs → lv_has ls 4 [(0, .ref (G.1 50)), (1, .int x1), (2, .int x2), (3, .int x3)] → W p l e (RM 5 116) s m args below meth c H locs 0 0 (MQ below (QV G (some (.int r0)) M0) args s 0 0 (AG G)) (F0 m 59 ls []) := by
  obtain ⟨⟨hx, hb, hml, hown, hts⟩, hK, hG, hA⟩ := id hC
  intro x1 x2 x3 M H locs ls hF hS hl
  unfold F_X6_part_59 at hF
  refine lv_iinc (v := x3 + 1) (lv' := [(3, .int (x3 + 1)), (0, .ref (G.1 50)), (1, .int x1), (2, .int x2)]) hx hb dX6_part_59 hl (k := 3) rfl rfl (by decide) rfl (fun ls hl => ?_)
  refine lv_goto (tgt := 28) hx hb dX6_part_62 (by decide) ?_
  exact hk28 _ _ _ _ _ _ _ hF hS (lv_sub hl [1, 2, 3, 0] rfl)
set_option maxHeartbeats 4000000 in
set_option maxRecDepth 100000 in
theorem b_X6_part_28 {M0 : Mem} {r0 : Int32} (hC : SX p m c s args cX6_part 4 RX6 G (AG G)) (hr : meth.sig.returnType = (some .int)) (hlk : meth.locks = false) (hn : ∀ i ∈ LsF, i ∈ gL G) : ∀ (n : Nat) (x1 : Int32) (x2 : Int32) (x3 : Int32) (M : Mem) (H : Heap) (locs : List Loc) (ls : Array Slot), F_X6_part_28 n x1 x2 x3 M = some (r0, M0) → ST G (AG G) s M H locs → lv_has ls 4 [(0, .ref (G.1 50)), (1, .int x1), (2, .int x2), (3, .int x3)] → W p l e (RM 5 116) s m args below meth c H locs 0 0 (MQ below (QV G (some (.int r0)) M0) args s 0 0 (AG G)) (F0 m 28 ls []) := by
  obtain ⟨⟨hx, hb, hml, hown, hts⟩, hK, hG, hA⟩ := id hC
  intro n
  induction n with
  | zero =>
    intro x1 x2 x3 M H locs ls hF
    cases hF
  | succ n ih =>
    intro x1 x2 x3 M H locs ls hF hS hl
    unfold F_X6_part_28 at hF
    refine lv_iload_n hx hb dX6_part_28 rfl (lv_at hl 3 rfl) ?_
    refine lv_iload_n hx hb dX6_part_29 rfl (lv_at hl 1 rfl) ?_
    refine lv_icmp_gt (tgt := 65) hx hb dX6_part_30 (by decide) (fun hc => ?_) (fun hc => ?_)
    · rw [if_pos hc] at hF
      refine lv_iload_n hx hb dX6_part_65 rfl (lv_at hl 2 rfl) ?_
      exact retI hC hS hr hlk hF dX6_part_66
    · rw [if_neg hc] at hF
      refine lv_iload_n hx hb dX6_part_33 rfl (lv_at hl 3 rfl) ?_
      refine lv_iload_n hx hb dX6_part_34 rfl (lv_at hl 1 rfl) ?_
      refine lv_iconst (v := (-1)) hx hb dX6_part_35 (by decide) ?_
      refine lv_ixor hx hb dX6_part_36 ?_
      refine lv_iand hx hb dX6_part_37 ?_
      refine lv_if_ne (tgt := 59) hx hb dX6_part_38 (by decide) (fun hc => ?_) (fun hc => ?_)
      · rw [if_neg hc] at hF
        exact b_X6_part_59 hC hr hlk hn ih _ _ _ _ _ _ _ hF hS (lv_sub hl [0, 1, 2, 3] rfl)
      · rw [if_pos hc] at hF
        refine lv_iload_n hx hb dX6_part_41 rfl (lv_at hl 3 rfl) ?_
        refine lv_iload_n hx hb dX6_part_42 rfl (lv_at hl 2 rfl) ?_
        obtain ⟨r43, M43, h43, hF⟩ := bd_some hF
        refine cS_ (As := [.int x3, .int x2]) (v := some (.int r43)) (rest := []) (st1 := [.int r43]) hC hS (c_X6_isFewer l G hn x3 x2 M _ _ h43) kS_X6_isFewer lm_X6_232 ⟨Nat.le_of_ble_eq_true rfl, Nat.le_of_ble_eq_true rfl⟩ rfl hl.1 (Nat.le_of_ble_eq_true rfl) dX6_part_43 ⟨Nat.le_refl _, Nat.le_refl _⟩ rfl (fun H locs hS => ?_)
        refine lv_if_eq (tgt := 59) hx hb dX6_part_46 (by decide) (fun hc => ?_) (fun hc => ?_)
        · rw [if_pos hc] at hF
          exact b_X6_part_59 hC hr hlk hn ih _ _ _ _ _ _ _ hF hS (lv_sub hl [0, 1, 2, 3] rfl)
        · rw [if_neg hc] at hF
          refine lv_aload_n hx hb dX6_part_49 rfl (lv_at hl 0 rfl) ?_
          refine lv_iload_n hx hb dX6_part_50 rfl (lv_at hl 3 rfl) ?_
          obtain ⟨r51, M51, h51, hF⟩ := bd_some hF
          refine cV_ (ci := 6) (i := 50) (C := RX6) (T := TX6) (N := 8) (As := [.int x3]) (v := some (.int r51)) (rest := []) (st1 := [.int r51]) hC hS (hn _ (by decide)) rfl rfl (c_X6_isHeardUnlike l G hn x3 M43 _ _ h51) kV_X6_isHeardUnlike lm_X6_240 ⟨Nat.le_of_ble_eq_true rfl, Nat.le_of_ble_eq_true rfl⟩ rfl hl.1 (Nat.le_of_ble_eq_true rfl) dX6_part_51 ⟨Nat.le_refl _, Nat.le_refl _⟩ rfl (fun H locs hS => ?_)
          refine lv_if_eq (tgt := 59) hx hb dX6_part_54 (by decide) (fun hc => ?_) (fun hc => ?_)
          · rw [if_pos hc] at hF
            exact b_X6_part_59 hC hr hlk hn ih _ _ _ _ _ _ _ hF hS (lv_sub hl [0, 1, 2, 3] rfl)
          · rw [if_neg hc] at hF
            refine lv_iload_n hx hb dX6_part_57 rfl (lv_at hl 3 rfl) ?_
            refine lv_istore_n (lv' := [(2, .int x3), (0, .ref (G.1 50)), (1, .int x1), (3, .int x3)]) hx hb dX6_part_58 rfl hl (by decide) rfl (fun ls hl => ?_)
            exact b_X6_part_59 hC hr hlk hn ih _ _ _ _ _ _ _ hF hS (lv_sub hl [1, 2, 0, 3] rfl)
set_option maxHeartbeats 4000000 in
set_option maxRecDepth 100000 in
theorem b_X6_part {M0 : Mem} {r0 : Int32} (hC : SX p m c s args cX6_part 4 RX6 G (AG G)) (hr : meth.sig.returnType = (some .int)) (hlk : meth.locks = false) (hn : ∀ i ∈ LsF, i ∈ gL G) : ∀ (M : Mem) (H : Heap) (locs : List Loc) (ls : Array Slot), F_X6_part M = some (r0, M0) → ST G (AG G) s M H locs → lv_has ls 4 [(0, .ref (G.1 50))] → W p l e (RM 5 116) s m args below meth c H locs 0 0 (MQ below (QV G (some (.int r0)) M0) args s 0 0 (AG G)) (F0 m 0 ls []) := by
  obtain ⟨⟨hx, hb, hml, hown, hts⟩, hK, hG, hA⟩ := id hC
  intro M H locs ls hF hS hl
  unfold F_X6_part at hF
  refine lv_aload_n hx hb dX6_part_0 rfl (lv_at hl 0 rfl) ?_
  refine gx (ci := 6) (k := 2) (v := .ref (G.1 (53 + 0))) (C := RX6) (T := TX6) (N := 8) hC hS (hn _ (by decide)) rfl rfl in_X6 (by decide) rfl rfl lf_X6_26 dX6_part_1 ?_
  refine lv_aload_n hx hb dX6_part_4 rfl (lv_at hl 0 rfl) ?_
  refine gx (ci := 6) (k := 3) (v := .ref (G.1 (53 + 1))) (C := RX6) (T := TX6) (N := 8) hC hS (hn _ (by decide)) rfl rfl in_X6 (by decide) rfl rfl lf_X6_30 dX6_part_5 ?_
  obtain ⟨r8, M8, h8, hF⟩ := bd_some hF
  refine cV_ (ci := 2) (i := 53 + 0) (C := RX2) (T := TX2) (N := 7) (As := [.ref (G.1 (53 + 1))]) (v := some (.int r8)) (rest := []) (st1 := [.int r8]) hC hS (hn _ (by decide)) (ceL (by decide)) rfl (c_X2_saysTheSameAs l G hn 0 1 (by decide) (by decide) M _ _ h8) kV_X2_saysTheSameAs lm_X6_236 ⟨Nat.le_of_ble_eq_true rfl, Nat.le_of_ble_eq_true rfl⟩ rfl hl.1 (Nat.le_of_ble_eq_true rfl) dX6_part_8 ⟨Nat.le_refl _, Nat.le_refl _⟩ rfl (fun H locs hS => ?_)
  refine lv_if_eq (tgt := 16) hx hb dX6_part_11 (by decide) (fun hc => ?_) (fun hc => ?_)
  · rw [if_pos hc] at hF
    refine lv_aload_n hx hb dX6_part_16 rfl (lv_at hl 0 rfl) ?_
    refine gx (ci := 6) (k := 1) (v := .ref (G.1 52)) (C := RX6) (T := TX6) (N := 8) hC hS (hn _ (by decide)) rfl rfl in_X6 (by decide) rfl rfl lf_X6_19 dX6_part_17 ?_
    obtain ⟨r20, M20, h20, hF⟩ := bd_some hF
    refine cV_ (ci := 5) (i := 52) (C := RX5) (T := TX5) (N := 13) (As := []) (v := some (.int r20)) (rest := []) (st1 := [.int r20]) hC hS (hn _ (by decide)) rfl rfl (c_X5_heardOnes l G hn M8 _ _ h20) kV_X5_heardOnes lm_X6_163 ⟨Nat.le_of_ble_eq_true rfl, Nat.le_of_ble_eq_true rfl⟩ rfl hl.1 (Nat.le_of_ble_eq_true rfl) dX6_part_20 ⟨Nat.le_refl _, Nat.le_refl _⟩ rfl (fun H locs hS => ?_)
    refine lv_istore_n (lv' := [(1, .int r20), (0, .ref (G.1 50))]) hx hb dX6_part_23 rfl hl (by decide) rfl (fun ls hl => ?_)
    refine lv_iconst (v := (-1)) hx hb dX6_part_24 (by decide) ?_
    refine lv_istore_n (lv' := [(2, .int ((-1))), (1, .int r20), (0, .ref (G.1 50))]) hx hb dX6_part_25 rfl hl (by decide) rfl (fun ls hl => ?_)
    refine lv_iconst (v := 1) hx hb dX6_part_26 (by decide) ?_
    refine lv_istore_n (lv' := [(3, .int 1), (2, .int ((-1))), (1, .int r20), (0, .ref (G.1 50))]) hx hb dX6_part_27 rfl hl (by decide) rfl (fun ls hl => ?_)
    exact b_X6_part_28 hC hr hlk hn fu _ _ _ _ _ _ _ hF hS (lv_sub hl [3, 2, 1, 0] rfl)
  · rw [if_neg hc] at hF
    refine lv_iconst (v := (-1)) hx hb dX6_part_14 (by decide) ?_
    exact retI hC hS hr hlk hF dX6_part_15
set_option maxRecDepth 100000 in
theorem c_X6_part (l : Launch) (G : GT) (hn : ∀ i ∈ LsF, i ∈ gL G) (M : Mem) (r0 : Int32) (M0 : Mem) (hF : F_X6_part M = some (r0, M0)) : MetG l G yX6_part cX6_part 4 (some .int) 5 116 [.ref (G.1 50)] M (some (.int r0)) M0 := by
  refine MetG.of (by decide) (Nat.le_of_ble_eq_true rfl) ?_
  intro p e s m args below meth c hC hr hlk hnm ls hS hl
  exact b_X6_part hC hr hlk hn _ _ _ _ hF hS hl
def F_X6_isForm_13 (M : Mem) : Option (Int32 × Mem) := some (0, M)
def F_X6_isForm (x0 : Int32) (M : Mem) : Option (Int32 × Mem) := if x0 < 0 then F_X6_isForm_13 M else if 3 ≤ x0 then F_X6_isForm_13 M else some (1, M)
set_option maxHeartbeats 4000000 in
set_option maxRecDepth 100000 in
theorem b_X6_isForm_13 {M0 : Mem} {r0 : Int32} (hC : SX p m c s args cX6_isForm 1 RX6 G (AG G)) (hr : meth.sig.returnType = (some .boolean)) (hlk : meth.locks = false) (hn : ∀ i ∈ LsF, i ∈ gL G) : ∀ (M : Mem) (H : Heap) (locs : List Loc) (ls : Array Slot), F_X6_isForm_13 M = some (r0, M0) → ST G (AG G) s M H locs → lv_has ls 1 [] → W p l e (RM 0 0) s m args below meth c H locs 0 0 (MQ below (QV G (some (.int r0)) M0) args s 0 0 (AG G)) (F0 m 13 ls []) := by
  obtain ⟨⟨hx, hb, hml, hown, hts⟩, hK, hG, hA⟩ := id hC
  intro M H locs ls hF hS hl
  unfold F_X6_isForm_13 at hF
  refine lv_iconst (v := 0) hx hb dX6_isForm_13 (by decide) ?_
  exact retZ hC hS hr hlk rfl hF dX6_isForm_14
set_option maxHeartbeats 4000000 in
set_option maxRecDepth 100000 in
theorem b_X6_isForm {M0 : Mem} {r0 : Int32} (hC : SX p m c s args cX6_isForm 1 RX6 G (AG G)) (hr : meth.sig.returnType = (some .boolean)) (hlk : meth.locks = false) (hn : ∀ i ∈ LsF, i ∈ gL G) : ∀ (x0 : Int32) (M : Mem) (H : Heap) (locs : List Loc) (ls : Array Slot), F_X6_isForm x0 M = some (r0, M0) → ST G (AG G) s M H locs → lv_has ls 1 [(0, .int x0)] → W p l e (RM 0 0) s m args below meth c H locs 0 0 (MQ below (QV G (some (.int r0)) M0) args s 0 0 (AG G)) (F0 m 0 ls []) := by
  obtain ⟨⟨hx, hb, hml, hown, hts⟩, hK, hG, hA⟩ := id hC
  intro x0 M H locs ls hF hS hl
  unfold F_X6_isForm at hF
  refine lv_iload_n hx hb dX6_isForm_0 rfl (lv_at hl 0 rfl) ?_
  refine lv_if_lt (tgt := 13) hx hb dX6_isForm_1 (by decide) (fun hc => ?_) (fun hc => ?_)
  · rw [if_pos hc] at hF
    exact b_X6_isForm_13 hC hr hlk hn _ _ _ _ hF hS (lv_sub hl [] rfl)
  · rw [if_neg hc] at hF
    refine lv_iload_n hx hb dX6_isForm_4 rfl (lv_at hl 0 rfl) ?_
    refine lv_iconst (v := 3) hx hb dX6_isForm_5 (by decide) ?_
    refine lv_icmp_ge (tgt := 13) hx hb dX6_isForm_6 (by decide) (fun hc => ?_) (fun hc => ?_)
    · rw [if_pos hc] at hF
      exact b_X6_isForm_13 hC hr hlk hn _ _ _ _ hF hS (lv_sub hl [] rfl)
    · rw [if_neg hc] at hF
      refine lv_iconst (v := 1) hx hb dX6_isForm_9 (by decide) ?_
      refine lv_goto (tgt := 14) hx hb dX6_isForm_10 (by decide) ?_
      exact retZ hC hS hr hlk rfl hF dX6_isForm_14
set_option maxRecDepth 100000 in
theorem c_X6_isForm (l : Launch) (G : GT) (hn : ∀ i ∈ LsF, i ∈ gL G) (x0 : Int32) (M : Mem) (r0 : Int32) (M0 : Mem) (hF : F_X6_isForm x0 M = some (r0, M0)) : MetG l G yX6_isForm cX6_isForm 1 (some .boolean) 0 0 [.int x0] M (some (.int r0)) M0 := by
  refine MetG.of (by decide) (Nat.le_of_ble_eq_true rfl) ?_
  intro p e s m args below meth c hC hr hlk hnm ls hS hl
  exact b_X6_isForm hC hr hlk hn _ _ _ _ _ hF hS hl
def F_X6_sheet (x1 : Int32) (x2 : Int32) (x3 : Int32) (M : Mem) : Option (Int32 × Mem) := bdo (F_X6_sheetOf x1 M) (fun M2 => some ((-2), M2)) (fun j2 M2 => ckb (decide (j2 < 4)) (bd (F_X6_isForm x2 M2) (fun r13 M13 => if r13 = 0 then some ((-2), M13) else if x3 ≤ 40 then if 0 ≤ x3 then bdv (F_X4_renew j2 x2 x3 M13) (fun M42 => some (x3, M42)) else bd (F_X6_find 5 M13) (fun r34 M34 => some (r34, M34)) else some ((-2), M13))))
set_option maxHeartbeats 4000000 in
set_option maxRecDepth 100000 in
theorem b_X6_sheet {M0 : Mem} {r0 : Int32} (hC : SX p m c s args cX6_sheet 5 RX6 G (AG G)) (hr : meth.sig.returnType = (some .int)) (hlk : meth.locks = false) (hn : ∀ i ∈ LsF, i ∈ gL G) : ∀ (x1 : Int32) (x2 : Int32) (x3 : Int32) (M : Mem) (H : Heap) (locs : List Loc) (ls : Array Slot), F_X6_sheet x1 x2 x3 M = some (r0, M0) → ST G (AG G) s M H locs → lv_has ls 5 [(0, .ref (G.1 50)), (1, .int x1), (2, .int x2), (3, .int x3)] → W p l e (RM 2 45) s m args below meth c H locs 0 0 (MQ below (QV G (some (.int r0)) M0) args s 0 0 (AG G)) (F0 m 0 ls []) := by
  obtain ⟨⟨hx, hb, hml, hown, hts⟩, hK, hG, hA⟩ := id hC
  intro x1 x2 x3 M H locs ls hF hS hl
  unfold F_X6_sheet at hF
  refine lv_aload_n hx hb dX6_sheet_0 rfl (lv_at hl 0 rfl) ?_
  refine lv_iload_n hx hb dX6_sheet_1 rfl (lv_at hl 1 rfl) ?_
  rcases bdo_some hF with ⟨M2, h2, hF⟩ | ⟨j2, M2, h2, hF⟩
  · refine cV_ (ci := 6) (i := 50) (C := RX6) (T := TX6) (N := 8) (As := [.int x1]) (v := some (rfv G 57 none)) (rest := []) (st1 := [.null]) hC hS (hn _ (by decide)) rfl rfl (c_X6_sheetOf l G hn x1 M _ _ h2) kV_X6_sheetOf lm_X6_87 ⟨Nat.le_of_ble_eq_true rfl, Nat.le_of_ble_eq_true rfl⟩ rfl hl.1 (Nat.le_of_ble_eq_true rfl) dX6_sheet_2 ⟨Nat.le_refl _, Nat.le_refl _⟩ rfl (fun H locs hS => ?_)
    refine lv_astoreN (lv' := [(4, .null), (0, .ref (G.1 50)), (1, .int x1), (2, .int x2), (3, .int x3)]) hx hb dX6_sheet_5 hl (by decide) rfl (fun ls hl => ?_)
    refine lv_aloadN hx hb dX6_sheet_7 (lv_at hl 0 rfl) ?_
    refine lv_ifnullN (tgt := 25) hx hb dX6_sheet_9 (by decide) ?_
    refine lv_bipush (v := (-2)) hx hb dX6_sheet_25 (by decide) ?_
    exact retI hC hS hr hlk hF dX6_sheet_27
  · obtain ⟨hj2, hF⟩ := ckb_some hF
    replace hj2 := of_decide_eq_true hj2
    refine cV_ (ci := 6) (i := 50) (C := RX6) (T := TX6) (N := 8) (As := [.int x1]) (v := some (rfv G 57 (some j2))) (rest := []) (st1 := [.ref (G.1 (57 + j2))]) hC hS (hn _ (by decide)) rfl rfl (c_X6_sheetOf l G hn x1 M _ _ h2) kV_X6_sheetOf lm_X6_87 ⟨Nat.le_of_ble_eq_true rfl, Nat.le_of_ble_eq_true rfl⟩ rfl hl.1 (Nat.le_of_ble_eq_true rfl) dX6_sheet_2 ⟨Nat.le_refl _, Nat.le_refl _⟩ rfl (fun H locs hS => ?_)
    refine lv_astore (lv' := [(4, .ref (G.1 (57 + j2))), (0, .ref (G.1 50)), (1, .int x1), (2, .int x2), (3, .int x3)]) hx hb dX6_sheet_5 hl (by decide) rfl (fun ls hl => ?_)
    refine lv_aload hx hb dX6_sheet_7 (lv_at hl 0 rfl) ?_
    refine lv_ifnull hx hb dX6_sheet_9 ?_
    refine lv_iload_n hx hb dX6_sheet_12 rfl (lv_at hl 3 rfl) ?_
    obtain ⟨r13, M13, h13, hF⟩ := bd_some hF
    refine cS_ (As := [.int x2]) (v := some (.int r13)) (rest := []) (st1 := [.int r13]) hC hS (c_X6_isForm l G hn x2 M2 _ _ h13) kS_X6_isForm lm_X6_246 ⟨Nat.le_of_ble_eq_true rfl, Nat.le_of_ble_eq_true rfl⟩ rfl hl.1 (Nat.le_of_ble_eq_true rfl) dX6_sheet_13 ⟨Nat.le_refl _, Nat.le_refl _⟩ rfl (fun H locs hS => ?_)
    refine lv_if_eq (tgt := 25) hx hb dX6_sheet_16 (by decide) (fun hc => ?_) (fun hc => ?_)
    · rw [if_pos hc] at hF
      refine lv_bipush (v := (-2)) hx hb dX6_sheet_25 (by decide) ?_
      exact retI hC hS hr hlk hF dX6_sheet_27
    · rw [if_neg hc] at hF
      refine lv_iload_n hx hb dX6_sheet_19 rfl (lv_at hl 4 rfl) ?_
      refine lv_bipush (v := 40) hx hb dX6_sheet_20 (by decide) ?_
      refine lv_icmp_le (tgt := 28) hx hb dX6_sheet_22 (by decide) (fun hc => ?_) (fun hc => ?_)
      · rw [if_pos hc] at hF
        refine lv_iload_n hx hb dX6_sheet_28 rfl (lv_at hl 4 rfl) ?_
        refine lv_if_ge (tgt := 38) hx hb dX6_sheet_29 (by decide) (fun hc => ?_) (fun hc => ?_)
        · rw [if_pos hc] at hF
          refine lv_aload hx hb dX6_sheet_38 (lv_at hl 0 rfl) ?_
          refine lv_iload_n hx hb dX6_sheet_40 rfl (lv_at hl 3 rfl) ?_
          refine lv_iload_n hx hb dX6_sheet_41 rfl (lv_at hl 4 rfl) ?_
          obtain ⟨M42, h42, hF⟩ := bdv_some hF
          refine cV_ (ci := 4) (i := 57 + j2) (C := RX4) (T := TX4) (N := 4) (As := [.int x2, .int x3]) (v := none) (rest := []) (st1 := []) hC hS (hn _ (mS hj2)) (ceS hj2) rfl (c_X4_renew l G hn j2 hj2 x2 x3 M13 _ h42) kV_X4_renew lm_X6_249 ⟨Nat.le_of_ble_eq_true rfl, Nat.le_of_ble_eq_true rfl⟩ rfl hl.1 (Nat.le_of_ble_eq_true rfl) dX6_sheet_42 ⟨Nat.le_refl _, Nat.le_refl _⟩ rfl (fun H locs hS => ?_)
          refine lv_iload_n hx hb dX6_sheet_45 rfl (lv_at hl 4 rfl) ?_
          exact retI hC hS hr hlk hF dX6_sheet_46
        · rw [if_neg hc] at hF
          refine lv_aload_n hx hb dX6_sheet_32 rfl (lv_at hl 1 rfl) ?_
          refine lv_iconst (v := 5) hx hb dX6_sheet_33 (by decide) ?_
          obtain ⟨r34, M34, h34, hF⟩ := bd_some hF
          refine cV_ (ci := 6) (i := 50) (C := RX6) (T := TX6) (N := 8) (As := [.int 5]) (v := some (.int r34)) (rest := []) (st1 := [.int r34]) hC hS (hn _ (by decide)) rfl rfl (c_X6_find l G hn 5 M13 _ _ h34) kV_X6_find lm_X6_95 ⟨Nat.le_of_ble_eq_true rfl, Nat.le_of_ble_eq_true rfl⟩ rfl hl.1 (Nat.le_of_ble_eq_true rfl) dX6_sheet_34 ⟨Nat.le_refl _, Nat.le_refl _⟩ rfl (fun H locs hS => ?_)
          exact retI hC hS hr hlk hF dX6_sheet_37
      · rw [if_neg hc] at hF
        refine lv_bipush (v := (-2)) hx hb dX6_sheet_25 (by decide) ?_
        exact retI hC hS hr hlk hF dX6_sheet_27
set_option maxRecDepth 100000 in
theorem c_X6_sheet (l : Launch) (G : GT) (hn : ∀ i ∈ LsF, i ∈ gL G) (x1 : Int32) (x2 : Int32) (x3 : Int32) (M : Mem) (r0 : Int32) (M0 : Mem) (hF : F_X6_sheet x1 x2 x3 M = some (r0, M0)) : MetG l G yX6_sheet cX6_sheet 5 (some .int) 2 45 [.ref (G.1 50), .int x1, .int x2, .int x3] M (some (.int r0)) M0 := by
  refine MetG.of (by decide) (Nat.le_of_ble_eq_true rfl) ?_
  intro p e s m args below meth c hC hr hlk hnm ls hS hl
  exact b_X6_sheet hC hr hlk hn _ _ _ _ _ _ _ hF hS hl
def F_X6_lose (x1 : Int32) (M : Mem) : Option (Int32 × Mem) := bdo (F_X6_sheetOf x1 M) (fun M2 => some ((-2), M2)) (fun j2 M2 => ckb (decide (j2 < 4)) (if (M2.1 (22 + 3 * j2)) = 0 then some ((sv M2 (22 + 3 * j2) 1).1 (22 + 3 * j2 + 2), sv M2 (22 + 3 * j2) 1) else bd (F_X6_find 1 M2) (fun r22 M22 => some (r22, M22))))
set_option maxHeartbeats 4000000 in
set_option maxRecDepth 100000 in
theorem b_X6_lose {M0 : Mem} {r0 : Int32} (hC : SX p m c s args cX6_lose 3 RX6 G (AG G)) (hr : meth.sig.returnType = (some .int)) (hlk : meth.locks = false) (hn : ∀ i ∈ LsF, i ∈ gL G) : ∀ (x1 : Int32) (M : Mem) (H : Heap) (locs : List Loc) (ls : Array Slot), F_X6_lose x1 M = some (r0, M0) → ST G (AG G) s M H locs → lv_has ls 3 [(0, .ref (G.1 50)), (1, .int x1)] → W p l e (RM 1 21) s m args below meth c H locs 0 0 (MQ below (QV G (some (.int r0)) M0) args s 0 0 (AG G)) (F0 m 0 ls []) := by
  obtain ⟨⟨hx, hb, hml, hown, hts⟩, hK, hG, hA⟩ := id hC
  intro x1 M H locs ls hF hS hl
  unfold F_X6_lose at hF
  refine lv_aload_n hx hb dX6_lose_0 rfl (lv_at hl 0 rfl) ?_
  refine lv_iload_n hx hb dX6_lose_1 rfl (lv_at hl 1 rfl) ?_
  rcases bdo_some hF with ⟨M2, h2, hF⟩ | ⟨j2, M2, h2, hF⟩
  · refine cV_ (ci := 6) (i := 50) (C := RX6) (T := TX6) (N := 8) (As := [.int x1]) (v := some (rfv G 57 none)) (rest := []) (st1 := [.null]) hC hS (hn _ (by decide)) rfl rfl (c_X6_sheetOf l G hn x1 M _ _ h2) kV_X6_sheetOf lm_X6_87 ⟨Nat.le_of_ble_eq_true rfl, Nat.le_of_ble_eq_true rfl⟩ rfl hl.1 (Nat.le_of_ble_eq_true rfl) dX6_lose_2 ⟨Nat.le_refl _, Nat.le_refl _⟩ rfl (fun H locs hS => ?_)
    refine lv_astore_nN (lv' := [(2, .null), (0, .ref (G.1 50)), (1, .int x1)]) hx hb dX6_lose_5 rfl hl (by decide) rfl (fun ls hl => ?_)
    refine lv_aload_nN hx hb dX6_lose_6 rfl (lv_at hl 0 rfl) ?_
    refine lv_ifnonnullN hx hb dX6_lose_7 ?_
    refine lv_bipush (v := (-2)) hx hb dX6_lose_10 (by decide) ?_
    exact retI hC hS hr hlk hF dX6_lose_12
  · obtain ⟨hj2, hF⟩ := ckb_some hF
    replace hj2 := of_decide_eq_true hj2
    refine cV_ (ci := 6) (i := 50) (C := RX6) (T := TX6) (N := 8) (As := [.int x1]) (v := some (rfv G 57 (some j2))) (rest := []) (st1 := [.ref (G.1 (57 + j2))]) hC hS (hn _ (by decide)) rfl rfl (c_X6_sheetOf l G hn x1 M _ _ h2) kV_X6_sheetOf lm_X6_87 ⟨Nat.le_of_ble_eq_true rfl, Nat.le_of_ble_eq_true rfl⟩ rfl hl.1 (Nat.le_of_ble_eq_true rfl) dX6_lose_2 ⟨Nat.le_refl _, Nat.le_refl _⟩ rfl (fun H locs hS => ?_)
    refine lv_astore_n (lv' := [(2, .ref (G.1 (57 + j2))), (0, .ref (G.1 50)), (1, .int x1)]) hx hb dX6_lose_5 rfl hl (by decide) rfl (fun ls hl => ?_)
    refine lv_aload_n hx hb dX6_lose_6 rfl (lv_at hl 0 rfl) ?_
    refine lv_ifnonnull (tgt := 13) hx hb dX6_lose_7 (by decide) ?_
    refine lv_aload_n hx hb dX6_lose_13 rfl (lv_at hl 0 rfl) ?_
    refine gxN (ci := 4) (k := 1) (v := .int (M2.1 (22 + 3 * j2))) (C := RX4) (T := TX4) (N := 4) hC hS (hn _ (mS hj2)) (ceS hj2) rfl in_X4 (by decide) rfl rfl ln_X6_91 dX6_lose_14 ?_
    refine lv_if_eq (tgt := 26) hx hb dX6_lose_17 (by decide) (fun hc => ?_) (fun hc => ?_)
    · rw [if_pos hc] at hF
      refine lv_aload_n hx hb dX6_lose_26 rfl (lv_at hl 0 rfl) ?_
      refine lv_iconst (v := 1) hx hb dX6_lose_27 (by decide) ?_
      refine pxN (ci := 4) (k := 1) (n := 22 + 3 * j2) (ty := .boolean) (C := RX4) (T := TX4) (N := 4) hC hS (hn _ (mS hj2)) (ceS hj2) rfl in_X4 tyX4_ok nmX4 (by decide) rfl rfl (by decide +kernel) rfl rfl (Nat.le_of_ble_eq_true rfl) (owS0 hj2) (seS0 hj2) ln_X6_91 dX6_lose_28 (fun H locs hS => ?_)
      refine lv_aload_n hx hb dX6_lose_31 rfl (lv_at hl 0 rfl) ?_
      refine gxN (ci := 4) (k := 3) (v := .int ((sv M2 (22 + 3 * j2) 1).1 (22 + 3 * j2 + 2))) (C := RX4) (T := TX4) (N := 4) hC hS (hn _ (mS hj2)) (ceS hj2) rfl in_X4 (by decide) rfl rfl ln_X6_99 dX6_lose_32 ?_
      exact retI hC hS hr hlk hF dX6_lose_35
    · rw [if_neg hc] at hF
      refine lv_aload_n hx hb dX6_lose_20 rfl (lv_at hl 1 rfl) ?_
      refine lv_iconst (v := 1) hx hb dX6_lose_21 (by decide) ?_
      obtain ⟨r22, M22, h22, hF⟩ := bd_some hF
      refine cV_ (ci := 6) (i := 50) (C := RX6) (T := TX6) (N := 8) (As := [.int 1]) (v := some (.int r22)) (rest := []) (st1 := [.int r22]) hC hS (hn _ (by decide)) rfl rfl (c_X6_find l G hn 1 M2 _ _ h22) kV_X6_find lm_X6_95 ⟨Nat.le_of_ble_eq_true rfl, Nat.le_of_ble_eq_true rfl⟩ rfl hl.1 (Nat.le_of_ble_eq_true rfl) dX6_lose_22 ⟨Nat.le_refl _, Nat.le_refl _⟩ rfl (fun H locs hS => ?_)
      exact retI hC hS hr hlk hF dX6_lose_25
set_option maxRecDepth 100000 in
theorem c_X6_lose (l : Launch) (G : GT) (hn : ∀ i ∈ LsF, i ∈ gL G) (x1 : Int32) (M : Mem) (r0 : Int32) (M0 : Mem) (hF : F_X6_lose x1 M = some (r0, M0)) : MetG l G yX6_lose cX6_lose 3 (some .int) 1 21 [.ref (G.1 50), .int x1] M (some (.int r0)) M0 := by
  refine MetG.of (by decide) (Nat.le_of_ble_eq_true rfl) ?_
  intro p e s m args below meth c hC hr hlk hnm ls hS hl
  exact b_X6_lose hC hr hlk hn _ _ _ _ _ hF hS hl
def F_X6_put (x1 : Int32) (x2 : Int32) (x3 : Int32) (x4 : Int32) (M : Mem) : Option (Int32 × Mem) := bdo (F_X6_sheetOf x1 M) (fun M2 => some ((-2), M2)) (fun j2 M2 => ckb (decide (j2 < 4)) (bd (F_X6_isForm x2 M2) (fun r13 M13 => if r13 = 0 then some ((-2), M13) else bd (F_X4_findingOf j2 x2 x3 M13) (fun r26 M26 => if r26 = 0 then bdv (F_X4_set j2 x3 x4 M26) (fun M48 => some (1, M48)) else bd (F_X6_find r26 M26) (fun r39 M39 => some (r39, M39))))))
set_option maxHeartbeats 4000000 in
set_option maxRecDepth 100000 in
theorem b_X6_put {M0 : Mem} {r0 : Int32} (hC : SX p m c s args cX6_put 7 RX6 G (AG G)) (hr : meth.sig.returnType = (some .int)) (hlk : meth.locks = false) (hn : ∀ i ∈ LsF, i ∈ gL G) : ∀ (x1 : Int32) (x2 : Int32) (x3 : Int32) (x4 : Int32) (M : Mem) (H : Heap) (locs : List Loc) (ls : Array Slot), F_X6_put x1 x2 x3 x4 M = some (r0, M0) → ST G (AG G) s M H locs → lv_has ls 7 [(0, .ref (G.1 50)), (1, .int x1), (2, .int x2), (3, .int x3), (4, .int x4)] → W p l e (RM 1 22) s m args below meth c H locs 0 0 (MQ below (QV G (some (.int r0)) M0) args s 0 0 (AG G)) (F0 m 0 ls []) := by
  obtain ⟨⟨hx, hb, hml, hown, hts⟩, hK, hG, hA⟩ := id hC
  intro x1 x2 x3 x4 M H locs ls hF hS hl
  unfold F_X6_put at hF
  refine lv_aload_n hx hb dX6_put_0 rfl (lv_at hl 0 rfl) ?_
  refine lv_iload_n hx hb dX6_put_1 rfl (lv_at hl 1 rfl) ?_
  rcases bdo_some hF with ⟨M2, h2, hF⟩ | ⟨j2, M2, h2, hF⟩
  · refine cV_ (ci := 6) (i := 50) (C := RX6) (T := TX6) (N := 8) (As := [.int x1]) (v := some (rfv G 57 none)) (rest := []) (st1 := [.null]) hC hS (hn _ (by decide)) rfl rfl (c_X6_sheetOf l G hn x1 M _ _ h2) kV_X6_sheetOf lm_X6_87 ⟨Nat.le_of_ble_eq_true rfl, Nat.le_of_ble_eq_true rfl⟩ rfl hl.1 (Nat.le_of_ble_eq_true rfl) dX6_put_2 ⟨Nat.le_refl _, Nat.le_refl _⟩ rfl (fun H locs hS => ?_)
    refine lv_astoreN (lv' := [(5, .null), (0, .ref (G.1 50)), (1, .int x1), (2, .int x2), (3, .int x3), (4, .int x4)]) hx hb dX6_put_5 hl (by decide) rfl (fun ls hl => ?_)
    refine lv_aloadN hx hb dX6_put_7 (lv_at hl 0 rfl) ?_
    refine lv_ifnullN (tgt := 19) hx hb dX6_put_9 (by decide) ?_
    refine lv_bipush (v := (-2)) hx hb dX6_put_19 (by decide) ?_
    exact retI hC hS hr hlk hF dX6_put_21
  · obtain ⟨hj2, hF⟩ := ckb_some hF
    replace hj2 := of_decide_eq_true hj2
    refine cV_ (ci := 6) (i := 50) (C := RX6) (T := TX6) (N := 8) (As := [.int x1]) (v := some (rfv G 57 (some j2))) (rest := []) (st1 := [.ref (G.1 (57 + j2))]) hC hS (hn _ (by decide)) rfl rfl (c_X6_sheetOf l G hn x1 M _ _ h2) kV_X6_sheetOf lm_X6_87 ⟨Nat.le_of_ble_eq_true rfl, Nat.le_of_ble_eq_true rfl⟩ rfl hl.1 (Nat.le_of_ble_eq_true rfl) dX6_put_2 ⟨Nat.le_refl _, Nat.le_refl _⟩ rfl (fun H locs hS => ?_)
    refine lv_astore (lv' := [(5, .ref (G.1 (57 + j2))), (0, .ref (G.1 50)), (1, .int x1), (2, .int x2), (3, .int x3), (4, .int x4)]) hx hb dX6_put_5 hl (by decide) rfl (fun ls hl => ?_)
    refine lv_aload hx hb dX6_put_7 (lv_at hl 0 rfl) ?_
    refine lv_ifnull hx hb dX6_put_9 ?_
    refine lv_iload_n hx hb dX6_put_12 rfl (lv_at hl 3 rfl) ?_
    obtain ⟨r13, M13, h13, hF⟩ := bd_some hF
    refine cS_ (As := [.int x2]) (v := some (.int r13)) (rest := []) (st1 := [.int r13]) hC hS (c_X6_isForm l G hn x2 M2 _ _ h13) kS_X6_isForm lm_X6_246 ⟨Nat.le_of_ble_eq_true rfl, Nat.le_of_ble_eq_true rfl⟩ rfl hl.1 (Nat.le_of_ble_eq_true rfl) dX6_put_13 ⟨Nat.le_refl _, Nat.le_refl _⟩ rfl (fun H locs hS => ?_)
    refine lv_if_ne (tgt := 22) hx hb dX6_put_16 (by decide) (fun hc => ?_) (fun hc => ?_)
    · rw [if_neg hc] at hF
      refine lv_aload hx hb dX6_put_22 (lv_at hl 0 rfl) ?_
      refine lv_iload_n hx hb dX6_put_24 rfl (lv_at hl 3 rfl) ?_
      refine lv_iload_n hx hb dX6_put_25 rfl (lv_at hl 4 rfl) ?_
      obtain ⟨r26, M26, h26, hF⟩ := bd_some hF
      refine cV_ (ci := 4) (i := 57 + j2) (C := RX4) (T := TX4) (N := 4) (As := [.int x2, .int x3]) (v := some (.int r26)) (rest := []) (st1 := [.int r26]) hC hS (hn _ (mS hj2)) (ceS hj2) rfl (c_X4_findingOf l G hn j2 hj2 x2 x3 M13 _ _ h26) kV_X4_findingOf lm_X6_253 ⟨Nat.le_of_ble_eq_true rfl, Nat.le_of_ble_eq_true rfl⟩ rfl hl.1 (Nat.le_of_ble_eq_true rfl) dX6_put_26 ⟨Nat.le_refl _, Nat.le_refl _⟩ rfl (fun H locs hS => ?_)
      refine lv_istore (lv' := [(6, .int r26), (5, .ref (G.1 (57 + j2))), (0, .ref (G.1 50)), (1, .int x1), (2, .int x2), (3, .int x3), (4, .int x4)]) hx hb dX6_put_29 hl (by decide) rfl (fun ls hl => ?_)
      refine lv_iload hx hb dX6_put_31 (lv_at hl 0 rfl) ?_
      refine lv_if_eq (tgt := 43) hx hb dX6_put_33 (by decide) (fun hc => ?_) (fun hc => ?_)
      · rw [if_pos hc] at hF
        refine lv_aload hx hb dX6_put_43 (lv_at hl 1 rfl) ?_
        refine lv_iload_n hx hb dX6_put_45 rfl (lv_at hl 5 rfl) ?_
        refine lv_iload hx hb dX6_put_46 (lv_at hl 6 rfl) ?_
        obtain ⟨M48, h48, hF⟩ := bdv_some hF
        refine cV_ (ci := 4) (i := 57 + j2) (C := RX4) (T := TX4) (N := 4) (As := [.int x3, .int x4]) (v := none) (rest := []) (st1 := []) hC hS (hn _ (mS hj2)) (ceS hj2) rfl (c_X4_set l G hn j2 hj2 x3 x4 M26 _ h48) kV_X4_set lm_X6_256 ⟨Nat.le_of_ble_eq_true rfl, Nat.le_of_ble_eq_true rfl⟩ rfl hl.1 (Nat.le_of_ble_eq_true rfl) dX6_put_48 ⟨Nat.le_refl _, Nat.le_refl _⟩ rfl (fun H locs hS => ?_)
        refine lv_iconst (v := 1) hx hb dX6_put_51 (by decide) ?_
        exact retI hC hS hr hlk hF dX6_put_52
      · rw [if_neg hc] at hF
        refine lv_aload_n hx hb dX6_put_36 rfl (lv_at hl 2 rfl) ?_
        refine lv_iload hx hb dX6_put_37 (lv_at hl 0 rfl) ?_
        obtain ⟨r39, M39, h39, hF⟩ := bd_some hF
        refine cV_ (ci := 6) (i := 50) (C := RX6) (T := TX6) (N := 8) (As := [.int r26]) (v := some (.int r39)) (rest := []) (st1 := [.int r39]) hC hS (hn _ (by decide)) rfl rfl (c_X6_find l G hn r26 M26 _ _ h39) kV_X6_find lm_X6_95 ⟨Nat.le_of_ble_eq_true rfl, Nat.le_of_ble_eq_true rfl⟩ rfl hl.1 (Nat.le_of_ble_eq_true rfl) dX6_put_39 ⟨Nat.le_refl _, Nat.le_refl _⟩ rfl (fun H locs hS => ?_)
        exact retI hC hS hr hlk hF dX6_put_42
    · rw [if_pos hc] at hF
      refine lv_bipush (v := (-2)) hx hb dX6_put_19 (by decide) ?_
      exact retI hC hS hr hlk hF dX6_put_21
set_option maxRecDepth 100000 in
theorem c_X6_put (l : Launch) (G : GT) (hn : ∀ i ∈ LsF, i ∈ gL G) (x1 : Int32) (x2 : Int32) (x3 : Int32) (x4 : Int32) (M : Mem) (r0 : Int32) (M0 : Mem) (hF : F_X6_put x1 x2 x3 x4 M = some (r0, M0)) : MetG l G yX6_put cX6_put 7 (some .int) 1 22 [.ref (G.1 50), .int x1, .int x2, .int x3, .int x4] M (some (.int r0)) M0 := by
  refine MetG.of (by decide) (Nat.le_of_ble_eq_true rfl) ?_
  intro p e s m args below meth c hC hr hlk hnm ls hS hl
  exact b_X6_put hC hr hlk hn _ _ _ _ _ _ _ _ hF hS hl
def F_X6_get (x1 : Int32) (x2 : Int32) (x3 : Int32) (M : Mem) : Option (Int32 × Mem) := bdo (F_X6_sheetOf x1 M) (fun M2 => some ((-2147483648), M2)) (fun j2 M2 => ckb (decide (j2 < 4)) (bd (F_X6_isForm x2 M2) (fun r13 M13 => if r13 = 0 then some ((-2147483648), M13) else bd (F_X4_findingOf j2 x2 x3 M13) (fun r27 M27 => if r27 = 0 then ckb (ix x3 (al (18 + j2))) (some (M27.2 (18 + j2) x3.toNatClampNeg, M27)) else bd (F_X6_find r27 M27) (fun r40 M40 => some ((-2147483648), M40))))))
set_option maxHeartbeats 4000000 in
set_option maxRecDepth 100000 in
theorem b_X6_get {M0 : Mem} {r0 : Int32} (hC : SX p m c s args cX6_get 6 RX6 G (AG G)) (hr : meth.sig.returnType = (some .int)) (hlk : meth.locks = false) (hn : ∀ i ∈ LsF, i ∈ gL G) : ∀ (x1 : Int32) (x2 : Int32) (x3 : Int32) (M : Mem) (H : Heap) (locs : List Loc) (ls : Array Slot), F_X6_get x1 x2 x3 M = some (r0, M0) → ST G (AG G) s M H locs → lv_has ls 6 [(0, .ref (G.1 50)), (1, .int x1), (2, .int x2), (3, .int x3)] → W p l e (RM 1 22) s m args below meth c H locs 0 0 (MQ below (QV G (some (.int r0)) M0) args s 0 0 (AG G)) (F0 m 0 ls []) := by
  obtain ⟨⟨hx, hb, hml, hown, hts⟩, hK, hG, hA⟩ := id hC
  intro x1 x2 x3 M H locs ls hF hS hl
  unfold F_X6_get at hF
  refine lv_aload_n hx hb dX6_get_0 rfl (lv_at hl 0 rfl) ?_
  refine lv_iload_n hx hb dX6_get_1 rfl (lv_at hl 1 rfl) ?_
  rcases bdo_some hF with ⟨M2, h2, hF⟩ | ⟨j2, M2, h2, hF⟩
  · refine cV_ (ci := 6) (i := 50) (C := RX6) (T := TX6) (N := 8) (As := [.int x1]) (v := some (rfv G 57 none)) (rest := []) (st1 := [.null]) hC hS (hn _ (by decide)) rfl rfl (c_X6_sheetOf l G hn x1 M _ _ h2) kV_X6_sheetOf lm_X6_87 ⟨Nat.le_of_ble_eq_true rfl, Nat.le_of_ble_eq_true rfl⟩ rfl hl.1 (Nat.le_of_ble_eq_true rfl) dX6_get_2 ⟨Nat.le_refl _, Nat.le_refl _⟩ rfl (fun H locs hS => ?_)
    refine lv_astoreN (lv' := [(4, .null), (0, .ref (G.1 50)), (1, .int x1), (2, .int x2), (3, .int x3)]) hx hb dX6_get_5 hl (by decide) rfl (fun ls hl => ?_)
    refine lv_aloadN hx hb dX6_get_7 (lv_at hl 0 rfl) ?_
    refine lv_ifnullN (tgt := 19) hx hb dX6_get_9 (by decide) ?_
    refine lv_ldcw (v := (-2147483648)) hx hb hown (hts _ lc_X6_259) dX6_get_19 ?_
    exact retI hC hS hr hlk hF dX6_get_22
  · obtain ⟨hj2, hF⟩ := ckb_some hF
    replace hj2 := of_decide_eq_true hj2
    refine cV_ (ci := 6) (i := 50) (C := RX6) (T := TX6) (N := 8) (As := [.int x1]) (v := some (rfv G 57 (some j2))) (rest := []) (st1 := [.ref (G.1 (57 + j2))]) hC hS (hn _ (by decide)) rfl rfl (c_X6_sheetOf l G hn x1 M _ _ h2) kV_X6_sheetOf lm_X6_87 ⟨Nat.le_of_ble_eq_true rfl, Nat.le_of_ble_eq_true rfl⟩ rfl hl.1 (Nat.le_of_ble_eq_true rfl) dX6_get_2 ⟨Nat.le_refl _, Nat.le_refl _⟩ rfl (fun H locs hS => ?_)
    refine lv_astore (lv' := [(4, .ref (G.1 (57 + j2))), (0, .ref (G.1 50)), (1, .int x1), (2, .int x2), (3, .int x3)]) hx hb dX6_get_5 hl (by decide) rfl (fun ls hl => ?_)
    refine lv_aload hx hb dX6_get_7 (lv_at hl 0 rfl) ?_
    refine lv_ifnull hx hb dX6_get_9 ?_
    refine lv_iload_n hx hb dX6_get_12 rfl (lv_at hl 3 rfl) ?_
    obtain ⟨r13, M13, h13, hF⟩ := bd_some hF
    refine cS_ (As := [.int x2]) (v := some (.int r13)) (rest := []) (st1 := [.int r13]) hC hS (c_X6_isForm l G hn x2 M2 _ _ h13) kS_X6_isForm lm_X6_246 ⟨Nat.le_of_ble_eq_true rfl, Nat.le_of_ble_eq_true rfl⟩ rfl hl.1 (Nat.le_of_ble_eq_true rfl) dX6_get_13 ⟨Nat.le_refl _, Nat.le_refl _⟩ rfl (fun H locs hS => ?_)
    refine lv_if_ne (tgt := 23) hx hb dX6_get_16 (by decide) (fun hc => ?_) (fun hc => ?_)
    · rw [if_neg hc] at hF
      refine lv_aload hx hb dX6_get_23 (lv_at hl 0 rfl) ?_
      refine lv_iload_n hx hb dX6_get_25 rfl (lv_at hl 3 rfl) ?_
      refine lv_iload_n hx hb dX6_get_26 rfl (lv_at hl 4 rfl) ?_
      obtain ⟨r27, M27, h27, hF⟩ := bd_some hF
      refine cV_ (ci := 4) (i := 57 + j2) (C := RX4) (T := TX4) (N := 4) (As := [.int x2, .int x3]) (v := some (.int r27)) (rest := []) (st1 := [.int r27]) hC hS (hn _ (mS hj2)) (ceS hj2) rfl (c_X4_findingOf l G hn j2 hj2 x2 x3 M13 _ _ h27) kV_X4_findingOf lm_X6_253 ⟨Nat.le_of_ble_eq_true rfl, Nat.le_of_ble_eq_true rfl⟩ rfl hl.1 (Nat.le_of_ble_eq_true rfl) dX6_get_27 ⟨Nat.le_refl _, Nat.le_refl _⟩ rfl (fun H locs hS => ?_)
      refine lv_istore (lv' := [(5, .int r27), (4, .ref (G.1 (57 + j2))), (0, .ref (G.1 50)), (1, .int x1), (2, .int x2), (3, .int x3)]) hx hb dX6_get_30 hl (by decide) rfl (fun ls hl => ?_)
      refine lv_iload hx hb dX6_get_32 (lv_at hl 0 rfl) ?_
      refine lv_if_eq (tgt := 48) hx hb dX6_get_34 (by decide) (fun hc => ?_) (fun hc => ?_)
      · rw [if_pos hc] at hF
        refine lv_aload hx hb dX6_get_48 (lv_at hl 1 rfl) ?_
        refine gxN (ci := 4) (k := 0) (v := .ref (G.1 (18 + j2))) (C := RX4) (T := TX4) (N := 4) hC hS (hn _ (mS hj2)) (ceS hj2) rfl in_X4 (by decide) rfl rfl ln_X6_100 dX6_get_50 ?_
        refine lv_iload_n hx hb dX6_get_53 rfl (lv_at hl 5 rfl) ?_
        obtain ⟨hi, hF⟩ := ckb_some hF
        refine ald hC hS (hn _ (mI hj2)) (kI hj2).1 (kI hj2).2 hi dX6_get_54 ?_
        exact retI hC hS hr hlk hF dX6_get_55
      · rw [if_neg hc] at hF
        refine lv_aload_n hx hb dX6_get_37 rfl (lv_at hl 2 rfl) ?_
        refine lv_iload hx hb dX6_get_38 (lv_at hl 0 rfl) ?_
        obtain ⟨r40, M40, h40, hF⟩ := bd_some hF
        refine cV_ (ci := 6) (i := 50) (C := RX6) (T := TX6) (N := 8) (As := [.int r27]) (v := some (.int r40)) (rest := []) (st1 := [.int r40]) hC hS (hn _ (by decide)) rfl rfl (c_X6_find l G hn r27 M27 _ _ h40) kV_X6_find lm_X6_95 ⟨Nat.le_of_ble_eq_true rfl, Nat.le_of_ble_eq_true rfl⟩ rfl hl.1 (Nat.le_of_ble_eq_true rfl) dX6_get_40 ⟨Nat.le_refl _, Nat.le_refl _⟩ rfl (fun H locs hS => ?_)
        refine lv_pop hx hb dX6_get_43 rfl ?_
        refine lv_ldcw (v := (-2147483648)) hx hb hown (hts _ lc_X6_259) dX6_get_44 ?_
        exact retI hC hS hr hlk hF dX6_get_47
    · rw [if_pos hc] at hF
      refine lv_ldcw (v := (-2147483648)) hx hb hown (hts _ lc_X6_259) dX6_get_19 ?_
      exact retI hC hS hr hlk hF dX6_get_22
set_option maxRecDepth 100000 in
theorem c_X6_get (l : Launch) (G : GT) (hn : ∀ i ∈ LsF, i ∈ gL G) (x1 : Int32) (x2 : Int32) (x3 : Int32) (M : Mem) (r0 : Int32) (M0 : Mem) (hF : F_X6_get x1 x2 x3 M = some (r0, M0)) : MetG l G yX6_get cX6_get 6 (some .int) 1 22 [.ref (G.1 50), .int x1, .int x2, .int x3] M (some (.int r0)) M0 := by
  refine MetG.of (by decide) (Nat.le_of_ble_eq_true rfl) ?_
  intro p e s m args below meth c hC hr hlk hnm ls hS hl
  exact b_X6_get hC hr hlk hn _ _ _ _ _ _ _ hF hS hl
def F_X6_copy_43 (M : Mem) : Option (Int32 × Mem) := bd (F_X6_find 1 M) (fun r45 M45 => some (r45, M45))
def F_X6_copy_91 (M : Mem) : Option (Int32 × Mem) := bd (F_X6_find 2 M) (fun r93 M93 => some (r93, M93))
def F_X6_copy (x1 : Int32) (x2 : Int32) (x3 : Int32) (x4 : Int32) (x5 : Int32) (M : Mem) : Option (Int32 × Mem) := bdo (F_X6_sheetOf x1 M) (fun M2 => bdo (F_X6_sheetOf x3 M2) (fun M9 => some ((-2), M9)) (fun j9 M9 => ckb (decide (j9 < 4)) (some ((-2), M9)))) (fun j2 M2 => ckb (decide (j2 < 4)) (bdo (F_X6_sheetOf x3 M2) (fun M9 => some ((-2), M9)) (fun j9 M9 => ckb (decide (j9 < 4)) (if (M9.1 (22 + 3 * j2)) = 0 then if (M9.1 (22 + 3 * j9)) = 0 then if (M9.1 (22 + 3 * j2 + 1)) = (M9.1 (22 + 3 * j9 + 1)) then bd (F_X4_holds j2 x2 x5 M9) (fun r73 M73 => if r73 = 0 then F_X6_copy_91 M73 else bd (F_X4_holds j9 x4 x5 M73) (fun r85 M85 => if r85 = 0 then F_X6_copy_91 M85 else ckb (cpok x2 (al (18 + j2)) x4 (al (18 + j9)) x5) (some (1, sr M85 (18 + j9) (va_cpy (M85.2 (18 + j2)) (M85.2 (18 + j9)) x2.toNatClampNeg x4.toNatClampNeg x5.toNatClampNeg))))) else bd (F_X6_find 4 M9) (fun r64 M64 => some (r64, M64)) else F_X6_copy_43 M9 else F_X6_copy_43 M9))))
set_option maxHeartbeats 4000000 in
set_option maxRecDepth 100000 in
theorem b_X6_copy_43 {M0 : Mem} {r0 : Int32} (hC : SX p m c s args cX6_copy 8 RX6 G (AG G)) (hr : meth.sig.returnType = (some .int)) (hlk : meth.locks = false) (hn : ∀ i ∈ LsF, i ∈ gL G) : ∀ (M : Mem) (H : Heap) (locs : List Loc) (ls : Array Slot), F_X6_copy_43 M = some (r0, M0) → ST G (AG G) s M H locs → lv_has ls 8 [(0, .ref (G.1 50))] → W p l e (RM 1 60) s m args below meth c H locs 0 0 (MQ below (QV G (some (.int r0)) M0) args s 0 0 (AG G)) (F0 m 43 ls []) := by
  obtain ⟨⟨hx, hb, hml, hown, hts⟩, hK, hG, hA⟩ := id hC
  intro M H locs ls hF hS hl
  unfold F_X6_copy_43 at hF
  refine lv_aload_n hx hb dX6_copy_43 rfl (lv_at hl 0 rfl) ?_
  refine lv_iconst (v := 1) hx hb dX6_copy_44 (by decide) ?_
  obtain ⟨r45, M45, h45, hF⟩ := bd_some hF
  refine cV_ (ci := 6) (i := 50) (C := RX6) (T := TX6) (N := 8) (As := [.int 1]) (v := some (.int r45)) (rest := []) (st1 := [.int r45]) hC hS (hn _ (by decide)) rfl rfl (c_X6_find l G hn 1 M _ _ h45) kV_X6_find lm_X6_95 ⟨Nat.le_of_ble_eq_true rfl, Nat.le_of_ble_eq_true rfl⟩ rfl hl.1 (Nat.le_of_ble_eq_true rfl) dX6_copy_45 ⟨Nat.le_refl _, Nat.le_refl _⟩ rfl (fun H locs hS => ?_)
  exact retI hC hS hr hlk hF dX6_copy_48
set_option maxHeartbeats 4000000 in
set_option maxRecDepth 100000 in
theorem b_X6_copy_91 {M0 : Mem} {r0 : Int32} (hC : SX p m c s args cX6_copy 8 RX6 G (AG G)) (hr : meth.sig.returnType = (some .int)) (hlk : meth.locks = false) (hn : ∀ i ∈ LsF, i ∈ gL G) : ∀ (M : Mem) (H : Heap) (locs : List Loc) (ls : Array Slot), F_X6_copy_91 M = some (r0, M0) → ST G (AG G) s M H locs → lv_has ls 8 [(0, .ref (G.1 50))] → W p l e (RM 1 60) s m args below meth c H locs 0 0 (MQ below (QV G (some (.int r0)) M0) args s 0 0 (AG G)) (F0 m 91 ls []) := by
  obtain ⟨⟨hx, hb, hml, hown, hts⟩, hK, hG, hA⟩ := id hC
  intro M H locs ls hF hS hl
  unfold F_X6_copy_91 at hF
  refine lv_aload_n hx hb dX6_copy_91 rfl (lv_at hl 0 rfl) ?_
  refine lv_iconst (v := 2) hx hb dX6_copy_92 (by decide) ?_
  obtain ⟨r93, M93, h93, hF⟩ := bd_some hF
  refine cV_ (ci := 6) (i := 50) (C := RX6) (T := TX6) (N := 8) (As := [.int 2]) (v := some (.int r93)) (rest := []) (st1 := [.int r93]) hC hS (hn _ (by decide)) rfl rfl (c_X6_find l G hn 2 M _ _ h93) kV_X6_find lm_X6_95 ⟨Nat.le_of_ble_eq_true rfl, Nat.le_of_ble_eq_true rfl⟩ rfl hl.1 (Nat.le_of_ble_eq_true rfl) dX6_copy_93 ⟨Nat.le_refl _, Nat.le_refl _⟩ rfl (fun H locs hS => ?_)
  exact retI hC hS hr hlk hF dX6_copy_96
set_option maxHeartbeats 4000000 in
set_option maxRecDepth 100000 in
theorem b_X6_copy {M0 : Mem} {r0 : Int32} (hC : SX p m c s args cX6_copy 8 RX6 G (AG G)) (hr : meth.sig.returnType = (some .int)) (hlk : meth.locks = false) (hn : ∀ i ∈ LsF, i ∈ gL G) : ∀ (x1 : Int32) (x2 : Int32) (x3 : Int32) (x4 : Int32) (x5 : Int32) (M : Mem) (H : Heap) (locs : List Loc) (ls : Array Slot), F_X6_copy x1 x2 x3 x4 x5 M = some (r0, M0) → ST G (AG G) s M H locs → lv_has ls 8 [(0, .ref (G.1 50)), (1, .int x1), (2, .int x2), (3, .int x3), (4, .int x4), (5, .int x5)] → W p l e (RM 1 60) s m args below meth c H locs 0 0 (MQ below (QV G (some (.int r0)) M0) args s 0 0 (AG G)) (F0 m 0 ls []) := by
  obtain ⟨⟨hx, hb, hml, hown, hts⟩, hK, hG, hA⟩ := id hC
  intro x1 x2 x3 x4 x5 M H locs ls hF hS hl
  unfold F_X6_copy at hF
  refine lv_aload_n hx hb dX6_copy_0 rfl (lv_at hl 0 rfl) ?_
  refine lv_iload_n hx hb dX6_copy_1 rfl (lv_at hl 1 rfl) ?_
  rcases bdo_some hF with ⟨M2, h2, hF⟩ | ⟨j2, M2, h2, hF⟩
  · refine cV_ (ci := 6) (i := 50) (C := RX6) (T := TX6) (N := 8) (As := [.int x1]) (v := some (rfv G 57 none)) (rest := []) (st1 := [.null]) hC hS (hn _ (by decide)) rfl rfl (c_X6_sheetOf l G hn x1 M _ _ h2) kV_X6_sheetOf lm_X6_87 ⟨Nat.le_of_ble_eq_true rfl, Nat.le_of_ble_eq_true rfl⟩ rfl hl.1 (Nat.le_of_ble_eq_true rfl) dX6_copy_2 ⟨Nat.le_refl _, Nat.le_refl _⟩ rfl (fun H locs hS => ?_)
    refine lv_astoreN (lv' := [(6, .null), (0, .ref (G.1 50)), (1, .int x1), (2, .int x2), (3, .int x3), (4, .int x4), (5, .int x5)]) hx hb dX6_copy_5 hl (by decide) rfl (fun ls hl => ?_)
    refine lv_aload_n hx hb dX6_copy_7 rfl (lv_at hl 1 rfl) ?_
    refine lv_iload_n hx hb dX6_copy_8 rfl (lv_at hl 4 rfl) ?_
    rcases bdo_some hF with ⟨M9, h9, hF⟩ | ⟨j9, M9, h9, hF⟩
    · refine cV_ (ci := 6) (i := 50) (C := RX6) (T := TX6) (N := 8) (As := [.int x3]) (v := some (rfv G 57 none)) (rest := []) (st1 := [.null]) hC hS (hn _ (by decide)) rfl rfl (c_X6_sheetOf l G hn x3 M2 _ _ h9) kV_X6_sheetOf lm_X6_87 ⟨Nat.le_of_ble_eq_true rfl, Nat.le_of_ble_eq_true rfl⟩ rfl hl.1 (Nat.le_of_ble_eq_true rfl) dX6_copy_9 ⟨Nat.le_refl _, Nat.le_refl _⟩ rfl (fun H locs hS => ?_)
      refine lv_astoreN (lv' := [(7, .null), (6, .null), (0, .ref (G.1 50)), (1, .int x1), (2, .int x2), (3, .int x3), (4, .int x4), (5, .int x5)]) hx hb dX6_copy_12 hl (by decide) rfl (fun ls hl => ?_)
      refine lv_aloadN hx hb dX6_copy_14 (lv_at hl 1 rfl) ?_
      refine lv_ifnullN (tgt := 24) hx hb dX6_copy_16 (by decide) ?_
      refine lv_bipush (v := (-2)) hx hb dX6_copy_24 (by decide) ?_
      exact retI hC hS hr hlk hF dX6_copy_26
    · obtain ⟨hj9, hF⟩ := ckb_some hF
      replace hj9 := of_decide_eq_true hj9
      refine cV_ (ci := 6) (i := 50) (C := RX6) (T := TX6) (N := 8) (As := [.int x3]) (v := some (rfv G 57 (some j9))) (rest := []) (st1 := [.ref (G.1 (57 + j9))]) hC hS (hn _ (by decide)) rfl rfl (c_X6_sheetOf l G hn x3 M2 _ _ h9) kV_X6_sheetOf lm_X6_87 ⟨Nat.le_of_ble_eq_true rfl, Nat.le_of_ble_eq_true rfl⟩ rfl hl.1 (Nat.le_of_ble_eq_true rfl) dX6_copy_9 ⟨Nat.le_refl _, Nat.le_refl _⟩ rfl (fun H locs hS => ?_)
      refine lv_astore (lv' := [(7, .ref (G.1 (57 + j9))), (6, .null), (0, .ref (G.1 50)), (1, .int x1), (2, .int x2), (3, .int x3), (4, .int x4), (5, .int x5)]) hx hb dX6_copy_12 hl (by decide) rfl (fun ls hl => ?_)
      refine lv_aloadN hx hb dX6_copy_14 (lv_at hl 1 rfl) ?_
      refine lv_ifnullN (tgt := 24) hx hb dX6_copy_16 (by decide) ?_
      refine lv_bipush (v := (-2)) hx hb dX6_copy_24 (by decide) ?_
      exact retI hC hS hr hlk hF dX6_copy_26
  · obtain ⟨hj2, hF⟩ := ckb_some hF
    replace hj2 := of_decide_eq_true hj2
    refine cV_ (ci := 6) (i := 50) (C := RX6) (T := TX6) (N := 8) (As := [.int x1]) (v := some (rfv G 57 (some j2))) (rest := []) (st1 := [.ref (G.1 (57 + j2))]) hC hS (hn _ (by decide)) rfl rfl (c_X6_sheetOf l G hn x1 M _ _ h2) kV_X6_sheetOf lm_X6_87 ⟨Nat.le_of_ble_eq_true rfl, Nat.le_of_ble_eq_true rfl⟩ rfl hl.1 (Nat.le_of_ble_eq_true rfl) dX6_copy_2 ⟨Nat.le_refl _, Nat.le_refl _⟩ rfl (fun H locs hS => ?_)
    refine lv_astore (lv' := [(6, .ref (G.1 (57 + j2))), (0, .ref (G.1 50)), (1, .int x1), (2, .int x2), (3, .int x3), (4, .int x4), (5, .int x5)]) hx hb dX6_copy_5 hl (by decide) rfl (fun ls hl => ?_)
    refine lv_aload_n hx hb dX6_copy_7 rfl (lv_at hl 1 rfl) ?_
    refine lv_iload_n hx hb dX6_copy_8 rfl (lv_at hl 4 rfl) ?_
    rcases bdo_some hF with ⟨M9, h9, hF⟩ | ⟨j9, M9, h9, hF⟩
    · refine cV_ (ci := 6) (i := 50) (C := RX6) (T := TX6) (N := 8) (As := [.int x3]) (v := some (rfv G 57 none)) (rest := []) (st1 := [.null]) hC hS (hn _ (by decide)) rfl rfl (c_X6_sheetOf l G hn x3 M2 _ _ h9) kV_X6_sheetOf lm_X6_87 ⟨Nat.le_of_ble_eq_true rfl, Nat.le_of_ble_eq_true rfl⟩ rfl hl.1 (Nat.le_of_ble_eq_true rfl) dX6_copy_9 ⟨Nat.le_refl _, Nat.le_refl _⟩ rfl (fun H locs hS => ?_)
      refine lv_astoreN (lv' := [(7, .null), (6, .ref (G.1 (57 + j2))), (0, .ref (G.1 50)), (1, .int x1), (2, .int x2), (3, .int x3), (4, .int x4), (5, .int x5)]) hx hb dX6_copy_12 hl (by decide) rfl (fun ls hl => ?_)
      refine lv_aload hx hb dX6_copy_14 (lv_at hl 1 rfl) ?_
      refine lv_ifnull hx hb dX6_copy_16 ?_
      refine lv_aloadN hx hb dX6_copy_19 (lv_at hl 0 rfl) ?_
      refine lv_ifnonnullN hx hb dX6_copy_21 ?_
      refine lv_bipush (v := (-2)) hx hb dX6_copy_24 (by decide) ?_
      exact retI hC hS hr hlk hF dX6_copy_26
    · obtain ⟨hj9, hF⟩ := ckb_some hF
      replace hj9 := of_decide_eq_true hj9
      refine cV_ (ci := 6) (i := 50) (C := RX6) (T := TX6) (N := 8) (As := [.int x3]) (v := some (rfv G 57 (some j9))) (rest := []) (st1 := [.ref (G.1 (57 + j9))]) hC hS (hn _ (by decide)) rfl rfl (c_X6_sheetOf l G hn x3 M2 _ _ h9) kV_X6_sheetOf lm_X6_87 ⟨Nat.le_of_ble_eq_true rfl, Nat.le_of_ble_eq_true rfl⟩ rfl hl.1 (Nat.le_of_ble_eq_true rfl) dX6_copy_9 ⟨Nat.le_refl _, Nat.le_refl _⟩ rfl (fun H locs hS => ?_)
      refine lv_astore (lv' := [(7, .ref (G.1 (57 + j9))), (6, .ref (G.1 (57 + j2))), (0, .ref (G.1 50)), (1, .int x1), (2, .int x2), (3, .int x3), (4, .int x4), (5, .int x5)]) hx hb dX6_copy_12 hl (by decide) rfl (fun ls hl => ?_)
      refine lv_aload hx hb dX6_copy_14 (lv_at hl 1 rfl) ?_
      refine lv_ifnull hx hb dX6_copy_16 ?_
      refine lv_aload hx hb dX6_copy_19 (lv_at hl 0 rfl) ?_
      refine lv_ifnonnull (tgt := 27) hx hb dX6_copy_21 (by decide) ?_
      refine lv_aload hx hb dX6_copy_27 (lv_at hl 1 rfl) ?_
      refine gxN (ci := 4) (k := 1) (v := .int (M9.1 (22 + 3 * j2))) (C := RX4) (T := TX4) (N := 4) hC hS (hn _ (mS hj2)) (ceS hj2) rfl in_X4 (by decide) rfl rfl ln_X6_91 dX6_copy_29 ?_
      refine lv_if_ne (tgt := 43) hx hb dX6_copy_32 (by decide) (fun hc => ?_) (fun hc => ?_)
      · rw [if_neg hc] at hF
        exact b_X6_copy_43 hC hr hlk hn _ _ _ _ hF hS (lv_sub hl [2] rfl)
      · rw [if_pos hc] at hF
        refine lv_aload hx hb dX6_copy_35 (lv_at hl 0 rfl) ?_
        refine gxN (ci := 4) (k := 1) (v := .int (M9.1 (22 + 3 * j9))) (C := RX4) (T := TX4) (N := 4) hC hS (hn _ (mS hj9)) (ceS hj9) rfl in_X4 (by decide) rfl rfl ln_X6_91 dX6_copy_37 ?_
        refine lv_if_eq (tgt := 49) hx hb dX6_copy_40 (by decide) (fun hc => ?_) (fun hc => ?_)
        · rw [if_pos hc] at hF
          refine lv_aload hx hb dX6_copy_49 (lv_at hl 1 rfl) ?_
          refine gxN (ci := 4) (k := 2) (v := .int (M9.1 (22 + 3 * j2 + 1))) (C := RX4) (T := TX4) (N := 4) hC hS (hn _ (mS hj2)) (ceS hj2) rfl in_X4 (by decide) rfl rfl ln_X6_260 dX6_copy_51 ?_
          refine lv_aload hx hb dX6_copy_54 (lv_at hl 0 rfl) ?_
          refine gxN (ci := 4) (k := 2) (v := .int (M9.1 (22 + 3 * j9 + 1))) (C := RX4) (T := TX4) (N := 4) hC hS (hn _ (mS hj9)) (ceS hj9) rfl in_X4 (by decide) rfl rfl ln_X6_260 dX6_copy_56 ?_
          refine lv_icmp_eq (tgt := 68) hx hb dX6_copy_59 (by decide) (fun hc => ?_) (fun hc => ?_)
          · rw [if_pos hc] at hF
            refine lv_aload hx hb dX6_copy_68 (lv_at hl 1 rfl) ?_
            refine lv_iload_n hx hb dX6_copy_70 rfl (lv_at hl 4 rfl) ?_
            refine lv_iload hx hb dX6_copy_71 (lv_at hl 7 rfl) ?_
            obtain ⟨r73, M73, h73, hF⟩ := bd_some hF
            refine cV_ (ci := 4) (i := 57 + j2) (C := RX4) (T := TX4) (N := 4) (As := [.int x2, .int x5]) (v := some (.int r73)) (rest := []) (st1 := [.int r73]) hC hS (hn _ (mS hj2)) (ceS hj2) rfl (c_X4_holds l G hn j2 hj2 x2 x5 M9 _ _ h73) kV_X4_holds lm_X6_263 ⟨Nat.le_of_ble_eq_true rfl, Nat.le_of_ble_eq_true rfl⟩ rfl hl.1 (Nat.le_of_ble_eq_true rfl) dX6_copy_73 ⟨Nat.le_refl _, Nat.le_refl _⟩ rfl (fun H locs hS => ?_)
            refine lv_if_eq (tgt := 91) hx hb dX6_copy_76 (by decide) (fun hc => ?_) (fun hc => ?_)
            · rw [if_pos hc] at hF
              exact b_X6_copy_91 hC hr hlk hn _ _ _ _ hF hS (lv_sub hl [2] rfl)
            · rw [if_neg hc] at hF
              refine lv_aload hx hb dX6_copy_79 (lv_at hl 0 rfl) ?_
              refine lv_iload hx hb dX6_copy_81 (lv_at hl 6 rfl) ?_
              refine lv_iload hx hb dX6_copy_83 (lv_at hl 7 rfl) ?_
              obtain ⟨r85, M85, h85, hF⟩ := bd_some hF
              refine cV_ (ci := 4) (i := 57 + j9) (C := RX4) (T := TX4) (N := 4) (As := [.int x4, .int x5]) (v := some (.int r85)) (rest := []) (st1 := [.int r85]) hC hS (hn _ (mS hj9)) (ceS hj9) rfl (c_X4_holds l G hn j9 hj9 x4 x5 M73 _ _ h85) kV_X4_holds lm_X6_263 ⟨Nat.le_of_ble_eq_true rfl, Nat.le_of_ble_eq_true rfl⟩ rfl hl.1 (Nat.le_of_ble_eq_true rfl) dX6_copy_85 ⟨Nat.le_refl _, Nat.le_refl _⟩ rfl (fun H locs hS => ?_)
              refine lv_if_ne (tgt := 97) hx hb dX6_copy_88 (by decide) (fun hc => ?_) (fun hc => ?_)
              · rw [if_neg hc] at hF
                refine lv_aload hx hb dX6_copy_97 (lv_at hl 1 rfl) ?_
                refine gxN (ci := 4) (k := 0) (v := .ref (G.1 (18 + j2))) (C := RX4) (T := TX4) (N := 4) hC hS (hn _ (mS hj2)) (ceS hj2) rfl in_X4 (by decide) rfl rfl ln_X6_100 dX6_copy_99 ?_
                refine lv_iload_n hx hb dX6_copy_102 rfl (lv_at hl 4 rfl) ?_
                refine lv_aload hx hb dX6_copy_103 (lv_at hl 0 rfl) ?_
                refine gxN (ci := 4) (k := 0) (v := .ref (G.1 (18 + j9))) (C := RX4) (T := TX4) (N := 4) hC hS (hn _ (mS hj9)) (ceS hj9) rfl in_X4 (by decide) rfl rfl ln_X6_100 dX6_copy_105 ?_
                refine lv_iload hx hb dX6_copy_108 (lv_at hl 6 rfl) ?_
                refine lv_iload hx hb dX6_copy_110 (lv_at hl 7 rfl) ?_
                obtain ⟨hi, hF⟩ := ckb_some hF
                refine cpy_ (rest := []) hC hS lm_X6_266 (hn _ (mI hj2)) (kI hj2).1 (kI hj2).2 (hn _ (mI hj9)) (kI hj9).1 (kI hj9).2 hi (Nat.le_of_ble_eq_true rfl) (Nat.le_of_ble_eq_true rfl) hl.1 dX6_copy_112 (fun H locs hS => ?_)
                refine lv_iconst (v := 1) hx hb dX6_copy_115 (by decide) ?_
                exact retI hC hS hr hlk hF dX6_copy_116
              · rw [if_pos hc] at hF
                exact b_X6_copy_91 hC hr hlk hn _ _ _ _ hF hS (lv_sub hl [2] rfl)
          · rw [if_neg hc] at hF
            refine lv_aload_n hx hb dX6_copy_62 rfl (lv_at hl 2 rfl) ?_
            refine lv_iconst (v := 4) hx hb dX6_copy_63 (by decide) ?_
            obtain ⟨r64, M64, h64, hF⟩ := bd_some hF
            refine cV_ (ci := 6) (i := 50) (C := RX6) (T := TX6) (N := 8) (As := [.int 4]) (v := some (.int r64)) (rest := []) (st1 := [.int r64]) hC hS (hn _ (by decide)) rfl rfl (c_X6_find l G hn 4 M9 _ _ h64) kV_X6_find lm_X6_95 ⟨Nat.le_of_ble_eq_true rfl, Nat.le_of_ble_eq_true rfl⟩ rfl hl.1 (Nat.le_of_ble_eq_true rfl) dX6_copy_64 ⟨Nat.le_refl _, Nat.le_refl _⟩ rfl (fun H locs hS => ?_)
            exact retI hC hS hr hlk hF dX6_copy_67
        · rw [if_neg hc] at hF
          exact b_X6_copy_43 hC hr hlk hn _ _ _ _ hF hS (lv_sub hl [2] rfl)
set_option maxRecDepth 100000 in
theorem c_X6_copy (l : Launch) (G : GT) (hn : ∀ i ∈ LsF, i ∈ gL G) (x1 : Int32) (x2 : Int32) (x3 : Int32) (x4 : Int32) (x5 : Int32) (M : Mem) (r0 : Int32) (M0 : Mem) (hF : F_X6_copy x1 x2 x3 x4 x5 M = some (r0, M0)) : MetG l G yX6_copy cX6_copy 8 (some .int) 1 60 [.ref (G.1 50), .int x1, .int x2, .int x3, .int x4, .int x5] M (some (.int r0)) M0 := by
  refine MetG.of (by decide) (Nat.le_of_ble_eq_true rfl) ?_
  intro p e s m args below meth c hC hr hlk hnm ls hS hl
  exact b_X6_copy hC hr hlk hn _ _ _ _ _ _ _ _ _ hF hS hl
def F_X6_write_57 (j2 : Nat) : Nat → Int32 → Int32 → Mem → Option (Int32 × Mem)
  | 0, _, _, _ => none
  | n + 1, x3, x4, M => if x3 ≤ x4 then some (x3, M) else bd (F_X1_onHead x4 M) (fun r72 M72 => bdv (F_X4_set j2 x4 r72 M72) (fun M75 => F_X6_write_57 j2 n x3 (x4 + 1) M75))
def F_X6_write (x1 : Int32) (M : Mem) : Option (Int32 × Mem) := bdo (F_X6_sheetOf x1 M) (fun M2 => some ((-2), M2)) (fun j2 M2 => ckb (decide (j2 < 4)) (if (M2.1 (22 + 3 * j2)) = 0 then bd (F_X5_heardOnes M2) (fun r38 M38 => bdv (F_X1_byNumbers 0 r38 M38) (fun M41 => F_X6_write_57 j2 fu (if 10 < (M41.1 (22 + 3 * j2 + 2)) then 10 else (M41.1 (22 + 3 * j2 + 2))) 0 M41)) else bd (F_X6_find 1 M2) (fun r22 M22 => some (r22, M22))))
set_option maxHeartbeats 4000000 in
set_option maxRecDepth 100000 in
theorem b_X6_write_57 {j2 : Nat} {M0 : Mem} {r0 : Int32} (hC : SX p m c s args cX6_write 5 RX6 G (AG G)) (hr : meth.sig.returnType = (some .int)) (hlk : meth.locks = false) (hn : ∀ i ∈ LsF, i ∈ gL G) (hj2 : j2 < 4) : ∀ (n : Nat) (x3 : Int32) (x4 : Int32) (M : Mem) (H : Heap) (locs : List Loc) (ls : Array Slot), F_X6_write_57 j2 n x3 x4 M = some (r0, M0) → ST G (AG G) s M H locs → lv_has ls 5 [(0, .ref (G.1 50)), (2, .ref (G.1 (57 + j2))), (3, .int x3), (4, .int x4)] → W p l e (RM 4 94) s m args below meth c H locs 0 0 (MQ below (QV G (some (.int r0)) M0) args s 0 0 (AG G)) (F0 m 57 ls []) := by
  obtain ⟨⟨hx, hb, hml, hown, hts⟩, hK, hG, hA⟩ := id hC
  intro n
  induction n with
  | zero =>
    intro x3 x4 M H locs ls hF
    cases hF
  | succ n ih =>
    intro x3 x4 M H locs ls hF hS hl
    unfold F_X6_write_57 at hF
    refine lv_iload hx hb dX6_write_57 (lv_at hl 3 rfl) ?_
    refine lv_iload_n hx hb dX6_write_59 rfl (lv_at hl 2 rfl) ?_
    refine lv_icmp_ge (tgt := 84) hx hb dX6_write_60 (by decide) (fun hc => ?_) (fun hc => ?_)
    · rw [if_pos hc] at hF
      refine lv_iload_n hx hb dX6_write_84 rfl (lv_at hl 2 rfl) ?_
      exact retI hC hS hr hlk hF dX6_write_85
    · rw [if_neg hc] at hF
      refine lv_aload_n hx hb dX6_write_63 rfl (lv_at hl 1 rfl) ?_
      refine lv_iload hx hb dX6_write_64 (lv_at hl 3 rfl) ?_
      refine lv_aload_n hx hb dX6_write_66 rfl (lv_at hl 0 rfl) ?_
      refine gx (ci := 6) (k := 5) (v := .ref (G.1 55)) (C := RX6) (T := TX6) (N := 8) hC hS (hn _ (by decide)) rfl rfl in_X6 (by decide) rfl rfl lf_X6_44 dX6_write_67 ?_
      refine lv_iload hx hb dX6_write_70 (lv_at hl 3 rfl) ?_
      obtain ⟨r72, M72, h72, hF⟩ := bd_some hF
      refine cV_ (ci := 1) (i := 55) (C := RX1) (T := TX1) (N := 4) (As := [.int x4]) (v := some (.int r72)) (rest := [.int x4, .ref (G.1 (57 + j2))]) (st1 := [.int r72, .int x4, .ref (G.1 (57 + j2))]) hC hS (hn _ (by decide)) rfl rfl (c_X1_onHead l G hn x4 M _ _ h72) kV_X1_onHead lm_X6_183 ⟨Nat.le_of_ble_eq_true rfl, Nat.le_of_ble_eq_true rfl⟩ rfl hl.1 (Nat.le_of_ble_eq_true rfl) dX6_write_72 ⟨Nat.le_refl _, Nat.le_refl _⟩ rfl (fun H locs hS => ?_)
      obtain ⟨M75, h75, hF⟩ := bdv_some hF
      refine cV_ (ci := 4) (i := 57 + j2) (C := RX4) (T := TX4) (N := 4) (As := [.int x4, .int r72]) (v := none) (rest := []) (st1 := []) hC hS (hn _ (mS hj2)) (ceS hj2) rfl (c_X4_set l G hn j2 hj2 x4 r72 M72 _ h75) kV_X4_set lm_X6_256 ⟨Nat.le_of_ble_eq_true rfl, Nat.le_of_ble_eq_true rfl⟩ rfl hl.1 (Nat.le_of_ble_eq_true rfl) dX6_write_75 ⟨Nat.le_refl _, Nat.le_refl _⟩ rfl (fun H locs hS => ?_)
      refine lv_iinc (v := x4 + 1) (lv' := [(4, .int (x4 + 1)), (0, .ref (G.1 50)), (2, .ref (G.1 (57 + j2))), (3, .int x3)]) hx hb dX6_write_78 hl (k := 3) rfl rfl (by decide) rfl (fun ls hl => ?_)
      refine lv_goto (tgt := 57) hx hb dX6_write_81 (by decide) ?_
      exact ih _ _ _ _ _ _ hF hS (lv_sub hl [1, 2, 3, 0] rfl)
set_option maxHeartbeats 4000000 in
set_option maxRecDepth 100000 in
theorem b_X6_write {M0 : Mem} {r0 : Int32} (hC : SX p m c s args cX6_write 5 RX6 G (AG G)) (hr : meth.sig.returnType = (some .int)) (hlk : meth.locks = false) (hn : ∀ i ∈ LsF, i ∈ gL G) : ∀ (x1 : Int32) (M : Mem) (H : Heap) (locs : List Loc) (ls : Array Slot), F_X6_write x1 M = some (r0, M0) → ST G (AG G) s M H locs → lv_has ls 5 [(0, .ref (G.1 50)), (1, .int x1)] → W p l e (RM 4 94) s m args below meth c H locs 0 0 (MQ below (QV G (some (.int r0)) M0) args s 0 0 (AG G)) (F0 m 0 ls []) := by
  obtain ⟨⟨hx, hb, hml, hown, hts⟩, hK, hG, hA⟩ := id hC
  intro x1 M H locs ls hF hS hl
  unfold F_X6_write at hF
  refine lv_aload_n hx hb dX6_write_0 rfl (lv_at hl 0 rfl) ?_
  refine lv_iload_n hx hb dX6_write_1 rfl (lv_at hl 1 rfl) ?_
  rcases bdo_some hF with ⟨M2, h2, hF⟩ | ⟨j2, M2, h2, hF⟩
  · refine cV_ (ci := 6) (i := 50) (C := RX6) (T := TX6) (N := 8) (As := [.int x1]) (v := some (rfv G 57 none)) (rest := []) (st1 := [.null]) hC hS (hn _ (by decide)) rfl rfl (c_X6_sheetOf l G hn x1 M _ _ h2) kV_X6_sheetOf lm_X6_87 ⟨Nat.le_of_ble_eq_true rfl, Nat.le_of_ble_eq_true rfl⟩ rfl hl.1 (Nat.le_of_ble_eq_true rfl) dX6_write_2 ⟨Nat.le_refl _, Nat.le_refl _⟩ rfl (fun H locs hS => ?_)
    refine lv_astore_nN (lv' := [(2, .null), (0, .ref (G.1 50)), (1, .int x1)]) hx hb dX6_write_5 rfl hl (by decide) rfl (fun ls hl => ?_)
    refine lv_aload_nN hx hb dX6_write_6 rfl (lv_at hl 0 rfl) ?_
    refine lv_ifnonnullN hx hb dX6_write_7 ?_
    refine lv_bipush (v := (-2)) hx hb dX6_write_10 (by decide) ?_
    exact retI hC hS hr hlk hF dX6_write_12
  · obtain ⟨hj2, hF⟩ := ckb_some hF
    replace hj2 := of_decide_eq_true hj2
    refine cV_ (ci := 6) (i := 50) (C := RX6) (T := TX6) (N := 8) (As := [.int x1]) (v := some (rfv G 57 (some j2))) (rest := []) (st1 := [.ref (G.1 (57 + j2))]) hC hS (hn _ (by decide)) rfl rfl (c_X6_sheetOf l G hn x1 M _ _ h2) kV_X6_sheetOf lm_X6_87 ⟨Nat.le_of_ble_eq_true rfl, Nat.le_of_ble_eq_true rfl⟩ rfl hl.1 (Nat.le_of_ble_eq_true rfl) dX6_write_2 ⟨Nat.le_refl _, Nat.le_refl _⟩ rfl (fun H locs hS => ?_)
    refine lv_astore_n (lv' := [(2, .ref (G.1 (57 + j2))), (0, .ref (G.1 50)), (1, .int x1)]) hx hb dX6_write_5 rfl hl (by decide) rfl (fun ls hl => ?_)
    refine lv_aload_n hx hb dX6_write_6 rfl (lv_at hl 0 rfl) ?_
    refine lv_ifnonnull (tgt := 13) hx hb dX6_write_7 (by decide) ?_
    refine lv_aload_n hx hb dX6_write_13 rfl (lv_at hl 0 rfl) ?_
    refine gxN (ci := 4) (k := 1) (v := .int (M2.1 (22 + 3 * j2))) (C := RX4) (T := TX4) (N := 4) hC hS (hn _ (mS hj2)) (ceS hj2) rfl in_X4 (by decide) rfl rfl ln_X6_91 dX6_write_14 ?_
    refine lv_if_eq (tgt := 26) hx hb dX6_write_17 (by decide) (fun hc => ?_) (fun hc => ?_)
    · rw [if_pos hc] at hF
      refine lv_aload_n hx hb dX6_write_26 rfl (lv_at hl 1 rfl) ?_
      refine gx (ci := 6) (k := 5) (v := .ref (G.1 55)) (C := RX6) (T := TX6) (N := 8) hC hS (hn _ (by decide)) rfl rfl in_X6 (by decide) rfl rfl lf_X6_44 dX6_write_27 ?_
      refine lv_aload_n hx hb dX6_write_30 rfl (lv_at hl 1 rfl) ?_
      refine gx (ci := 6) (k := 2) (v := .ref (G.1 (53 + 0))) (C := RX6) (T := TX6) (N := 8) hC hS (hn _ (by decide)) rfl rfl in_X6 (by decide) rfl rfl lf_X6_26 dX6_write_31 ?_
      refine lv_aload_n hx hb dX6_write_34 rfl (lv_at hl 1 rfl) ?_
      refine gx (ci := 6) (k := 1) (v := .ref (G.1 52)) (C := RX6) (T := TX6) (N := 8) hC hS (hn _ (by decide)) rfl rfl in_X6 (by decide) rfl rfl lf_X6_19 dX6_write_35 ?_
      obtain ⟨r38, M38, h38, hF⟩ := bd_some hF
      refine cV_ (ci := 5) (i := 52) (C := RX5) (T := TX5) (N := 13) (As := []) (v := some (.int r38)) (rest := [.ref (G.1 (53 + 0)), .ref (G.1 55)]) (st1 := [.int r38, .ref (G.1 (53 + 0)), .ref (G.1 55)]) hC hS (hn _ (by decide)) rfl rfl (c_X5_heardOnes l G hn M2 _ _ h38) kV_X5_heardOnes lm_X6_163 ⟨Nat.le_of_ble_eq_true rfl, Nat.le_of_ble_eq_true rfl⟩ rfl hl.1 (Nat.le_of_ble_eq_true rfl) dX6_write_38 ⟨Nat.le_refl _, Nat.le_refl _⟩ rfl (fun H locs hS => ?_)
      obtain ⟨M41, h41, hF⟩ := bdv_some hF
      refine cV_ (ci := 1) (i := 55) (C := RX1) (T := TX1) (N := 4) (As := [.ref (G.1 (53 + 0)), .int r38]) (v := none) (rest := []) (st1 := []) hC hS (hn _ (by decide)) rfl rfl (c_X1_byNumbers l G hn 0 (by decide) r38 M38 _ h41) kV_X1_byNumbers lm_X6_166 ⟨Nat.le_of_ble_eq_true rfl, Nat.le_of_ble_eq_true rfl⟩ rfl hl.1 (Nat.le_of_ble_eq_true rfl) dX6_write_41 ⟨Nat.le_refl _, Nat.le_refl _⟩ rfl (fun H locs hS => ?_)
      refine lv_aload_n hx hb dX6_write_44 rfl (lv_at hl 0 rfl) ?_
      refine gxN (ci := 4) (k := 3) (v := .int (M41.1 (22 + 3 * j2 + 2))) (C := RX4) (T := TX4) (N := 4) hC hS (hn _ (mS hj2)) (ceS hj2) rfl in_X4 (by decide) rfl rfl ln_X6_99 dX6_write_45 ?_
      refine lv_bipush (v := 10) hx hb dX6_write_48 (by decide) ?_
      refine va_mmin (rest := []) hx hb (hml.trans hl.1.symm) hown (hts _ lm_X6_272) (hts _ mx_min.1) (hts _ mx_min.2.1) (hts _ mx_min.2.2) (Nat.le_of_ble_eq_true rfl) (Nat.le_of_ble_eq_true rfl) (Nat.le_refl _) (Nat.le_refl _) dX6_write_50 ?_
      refine lv_istore_n (lv' := [(3, .int (if 10 < (M41.1 (22 + 3 * j2 + 2)) then 10 else (M41.1 (22 + 3 * j2 + 2)))), (2, .ref (G.1 (57 + j2))), (0, .ref (G.1 50)), (1, .int x1)]) hx hb dX6_write_53 rfl hl (by decide) rfl (fun ls hl => ?_)
      refine lv_iconst (v := 0) hx hb dX6_write_54 (by decide) ?_
      refine lv_istore (lv' := [(4, .int 0), (3, .int (if 10 < (M41.1 (22 + 3 * j2 + 2)) then 10 else (M41.1 (22 + 3 * j2 + 2)))), (2, .ref (G.1 (57 + j2))), (0, .ref (G.1 50)), (1, .int x1)]) hx hb dX6_write_55 hl (by decide) rfl (fun ls hl => ?_)
      exact b_X6_write_57 hC hr hlk hn hj2 fu _ _ _ _ _ _ hF hS (lv_sub hl [3, 2, 1, 0] rfl)
    · rw [if_neg hc] at hF
      refine lv_aload_n hx hb dX6_write_20 rfl (lv_at hl 1 rfl) ?_
      refine lv_iconst (v := 1) hx hb dX6_write_21 (by decide) ?_
      obtain ⟨r22, M22, h22, hF⟩ := bd_some hF
      refine cV_ (ci := 6) (i := 50) (C := RX6) (T := TX6) (N := 8) (As := [.int 1]) (v := some (.int r22)) (rest := []) (st1 := [.int r22]) hC hS (hn _ (by decide)) rfl rfl (c_X6_find l G hn 1 M2 _ _ h22) kV_X6_find lm_X6_95 ⟨Nat.le_of_ble_eq_true rfl, Nat.le_of_ble_eq_true rfl⟩ rfl hl.1 (Nat.le_of_ble_eq_true rfl) dX6_write_22 ⟨Nat.le_refl _, Nat.le_refl _⟩ rfl (fun H locs hS => ?_)
      exact retI hC hS hr hlk hF dX6_write_25
set_option maxRecDepth 100000 in
theorem c_X6_write (l : Launch) (G : GT) (hn : ∀ i ∈ LsF, i ∈ gL G) (x1 : Int32) (M : Mem) (r0 : Int32) (M0 : Mem) (hF : F_X6_write x1 M = some (r0, M0)) : MetG l G yX6_write cX6_write 5 (some .int) 4 94 [.ref (G.1 50), .int x1] M (some (.int r0)) M0 := by
  refine MetG.of (by decide) (Nat.le_of_ble_eq_true rfl) ?_
  intro p e s m args below meth c hC hr hlk hnm ls hS hl
  exact b_X6_write hC hr hlk hn _ _ _ _ _ hF hS hl
def F_X6_count (x1 : Int32) (M : Mem) : Option (Int32 × Mem) := if x1 = 0 then some (M.1 0, M) else if x1 = 1 then some (M.1 1, M) else if x1 = 2 then some (M.1 (10 + 6 * 0), M) else if x1 = 3 then some (M.1 (10 + 6 * 1), M) else if x1 = 4 then bd (F_X3_number M) (fun r88 M88 => some (r88, M88)) else if x1 = 5 then some (M.1 2, M) else if x1 = 6 then some ((-2), M) else if x1 = 7 then some ((-2), M) else if x1 = 8 then some (M.1 7, M) else some ((-2), M)
set_option maxHeartbeats 4000000 in
set_option maxRecDepth 100000 in
theorem b_X6_count {M0 : Mem} {r0 : Int32} (hC : SX p m c s args cX6_count 2 RX6 G (AG G)) (hr : meth.sig.returnType = (some .int)) (hlk : meth.locks = false) (hn : ∀ i ∈ LsF, i ∈ gL G) : ∀ (x1 : Int32) (M : Mem) (H : Heap) (locs : List Loc) (ls : Array Slot), F_X6_count x1 M = some (r0, M0) → ST G (AG G) s M H locs → lv_has ls 2 [(0, .ref (G.1 50)), (1, .int x1)] → W p l e (RM 1 23) s m args below meth c H locs 0 0 (MQ below (QV G (some (.int r0)) M0) args s 0 0 (AG G)) (F0 m 0 ls []) := by
  obtain ⟨⟨hx, hb, hml, hown, hts⟩, hK, hG, hA⟩ := id hC
  intro x1 M H locs ls hF hS hl
  unfold F_X6_count at hF
  refine lv_iload_n hx hb dX6_count_0 rfl (lv_at hl 1 rfl) ?_
  by_cases hc0 : x1 = 0
  · rw [if_pos hc0] at hF
    refine lv_tableIn (off := 51) (tgt := 52) hx hb dX6_count_1 (by rw [hc0]; decide) (by rw [hc0]; decide) (by rw [hc0]; rfl) (by decide) ?_
    refine lv_aload_n hx hb dX6_count_52 rfl (lv_at hl 0 rfl) ?_
    refine gx (ci := 6) (k := 1) (v := .ref (G.1 52)) (C := RX6) (T := TX6) (N := 8) hC hS (hn _ (by decide)) rfl rfl in_X6 (by decide) rfl rfl lf_X6_19 dX6_count_53 ?_
    refine gxN (ci := 5) (k := 10) (v := .int (M.1 0)) (C := RX5) (T := TX5) (N := 13) hC hS (hn _ (by decide)) rfl rfl in_X5 (by decide) rfl rfl ln_X6_80 dX6_count_56 ?_
    exact retI hC hS hr hlk hF dX6_count_59
  rw [if_neg hc0] at hF
  by_cases hc1 : x1 = 1
  · rw [if_pos hc1] at hF
    refine lv_tableIn (off := 59) (tgt := 60) hx hb dX6_count_1 (by rw [hc1]; decide) (by rw [hc1]; decide) (by rw [hc1]; rfl) (by decide) ?_
    refine lv_aload_n hx hb dX6_count_60 rfl (lv_at hl 0 rfl) ?_
    refine gx (ci := 6) (k := 1) (v := .ref (G.1 52)) (C := RX6) (T := TX6) (N := 8) hC hS (hn _ (by decide)) rfl rfl in_X6 (by decide) rfl rfl lf_X6_19 dX6_count_61 ?_
    refine gxN (ci := 5) (k := 11) (v := .int (M.1 1)) (C := RX5) (T := TX5) (N := 13) hC hS (hn _ (by decide)) rfl rfl in_X5 (by decide) rfl rfl ln_X6_126 dX6_count_64 ?_
    exact retI hC hS hr hlk hF dX6_count_67
  rw [if_neg hc1] at hF
  by_cases hc2 : x1 = 2
  · rw [if_pos hc2] at hF
    refine lv_tableIn (off := 67) (tgt := 68) hx hb dX6_count_1 (by rw [hc2]; decide) (by rw [hc2]; decide) (by rw [hc2]; rfl) (by decide) ?_
    refine lv_aload_n hx hb dX6_count_68 rfl (lv_at hl 0 rfl) ?_
    refine gx (ci := 6) (k := 2) (v := .ref (G.1 (53 + 0))) (C := RX6) (T := TX6) (N := 8) hC hS (hn _ (by decide)) rfl rfl in_X6 (by decide) rfl rfl lf_X6_26 dX6_count_69 ?_
    refine gxN (ci := 2) (k := 1) (v := .int (M.1 (10 + 6 * 0))) (C := RX2) (T := TX2) (N := 7) hC hS (hn _ (by decide)) (ceL (by decide)) rfl in_X2 (by decide) rfl rfl ln_X6_140 dX6_count_72 ?_
    exact retI hC hS hr hlk hF dX6_count_75
  rw [if_neg hc2] at hF
  by_cases hc3 : x1 = 3
  · rw [if_pos hc3] at hF
    refine lv_tableIn (off := 75) (tgt := 76) hx hb dX6_count_1 (by rw [hc3]; decide) (by rw [hc3]; decide) (by rw [hc3]; rfl) (by decide) ?_
    refine lv_aload_n hx hb dX6_count_76 rfl (lv_at hl 0 rfl) ?_
    refine gx (ci := 6) (k := 3) (v := .ref (G.1 (53 + 1))) (C := RX6) (T := TX6) (N := 8) hC hS (hn _ (by decide)) rfl rfl in_X6 (by decide) rfl rfl lf_X6_30 dX6_count_77 ?_
    refine gxN (ci := 2) (k := 1) (v := .int (M.1 (10 + 6 * 1))) (C := RX2) (T := TX2) (N := 7) hC hS (hn _ (by decide)) (ceL (by decide)) rfl in_X2 (by decide) rfl rfl ln_X6_140 dX6_count_80 ?_
    exact retI hC hS hr hlk hF dX6_count_83
  rw [if_neg hc3] at hF
  by_cases hc4 : x1 = 4
  · rw [if_pos hc4] at hF
    refine lv_tableIn (off := 83) (tgt := 84) hx hb dX6_count_1 (by rw [hc4]; decide) (by rw [hc4]; decide) (by rw [hc4]; rfl) (by decide) ?_
    refine lv_aload_n hx hb dX6_count_84 rfl (lv_at hl 0 rfl) ?_
    refine gx (ci := 6) (k := 0) (v := .ref (G.1 51)) (C := RX6) (T := TX6) (N := 8) hC hS (hn _ (by decide)) rfl rfl in_X6 (by decide) rfl rfl lf_X6_10 dX6_count_85 ?_
    obtain ⟨r88, M88, h88, hF⟩ := bd_some hF
    refine cV_ (ci := 3) (i := 51) (C := RX3) (T := TX3) (N := 2) (As := []) (v := some (.int r88)) (rest := []) (st1 := [.int r88]) hC hS (hn _ (by decide)) rfl rfl (c_X3_number l G (fun i h => hn i (subR i h)) M _ _ h88) kV_X3_number lm_X6_277 ⟨Nat.le_of_ble_eq_true rfl, Nat.le_of_ble_eq_true rfl⟩ rfl hl.1 (Nat.le_of_ble_eq_true rfl) dX6_count_88 ⟨Nat.le_refl _, Nat.le_refl _⟩ rfl (fun H locs hS => ?_)
    exact retI hC hS hr hlk hF dX6_count_91
  rw [if_neg hc4] at hF
  by_cases hc5 : x1 = 5
  · rw [if_pos hc5] at hF
    refine lv_tableIn (off := 91) (tgt := 92) hx hb dX6_count_1 (by rw [hc5]; decide) (by rw [hc5]; decide) (by rw [hc5]; rfl) (by decide) ?_
    refine lv_aload_n hx hb dX6_count_92 rfl (lv_at hl 0 rfl) ?_
    refine gx (ci := 6) (k := 1) (v := .ref (G.1 52)) (C := RX6) (T := TX6) (N := 8) hC hS (hn _ (by decide)) rfl rfl in_X6 (by decide) rfl rfl lf_X6_19 dX6_count_93 ?_
    refine gxN (ci := 5) (k := 12) (v := .int (M.1 2)) (C := RX5) (T := TX5) (N := 13) hC hS (hn _ (by decide)) rfl rfl in_X5 (by decide) rfl rfl ln_X6_129 dX6_count_96 ?_
    exact retI hC hS hr hlk hF dX6_count_99
  rw [if_neg hc5] at hF
  by_cases hc6 : x1 = 6
  · rw [if_pos hc6] at hF
    refine lv_tableIn (off := 104) (tgt := 105) hx hb dX6_count_1 (by rw [hc6]; decide) (by rw [hc6]; decide) (by rw [hc6]; rfl) (by decide) ?_
    refine lv_bipush (v := (-2)) hx hb dX6_count_105 (by decide) ?_
    exact retI hC hS hr hlk hF dX6_count_107
  rw [if_neg hc6] at hF
  by_cases hc7 : x1 = 7
  · rw [if_pos hc7] at hF
    refine lv_tableIn (off := 104) (tgt := 105) hx hb dX6_count_1 (by rw [hc7]; decide) (by rw [hc7]; decide) (by rw [hc7]; rfl) (by decide) ?_
    refine lv_bipush (v := (-2)) hx hb dX6_count_105 (by decide) ?_
    exact retI hC hS hr hlk hF dX6_count_107
  rw [if_neg hc7] at hF
  by_cases hc8 : x1 = 8
  · rw [if_pos hc8] at hF
    refine lv_tableIn (off := 99) (tgt := 100) hx hb dX6_count_1 (by rw [hc8]; decide) (by rw [hc8]; decide) (by rw [hc8]; rfl) (by decide) ?_
    refine lv_aload_n hx hb dX6_count_100 rfl (lv_at hl 0 rfl) ?_
    refine gx (ci := 6) (k := 7) (v := .int (M.1 7)) (C := RX6) (T := TX6) (N := 8) hC hS (hn _ (by decide)) rfl rfl in_X6 (by decide) rfl rfl lf_X6_55 dX6_count_101 ?_
    exact retI hC hS hr hlk hF dX6_count_104
  rw [if_neg hc8] at hF
  have hc0 := neI hc0
  have hc1 := neI hc1
  have hc2 := neI hc2
  have hc3 := neI hc3
  have hc4 := neI hc4
  have hc5 := neI hc5
  have hc6 := neI hc6
  have hc7 := neI hc7
  have hc8 := neI hc8
  refine lv_tableOut (tgt := 105) hx hb dX6_count_1 (tOut0_8 hc0 hc1 hc2 hc3 hc4 hc5 hc6 hc7 hc8) (by decide) ?_
  refine lv_bipush (v := (-2)) hx hb dX6_count_105 (by decide) ?_
  exact retI hC hS hr hlk hF dX6_count_107
set_option maxRecDepth 100000 in
theorem c_X6_count (l : Launch) (G : GT) (hn : ∀ i ∈ LsF, i ∈ gL G) (x1 : Int32) (M : Mem) (r0 : Int32) (M0 : Mem) (hF : F_X6_count x1 M = some (r0, M0)) : MetG l G yX6_count cX6_count 2 (some .int) 1 23 [.ref (G.1 50), .int x1] M (some (.int r0)) M0 := by
  refine MetG.of (by decide) (Nat.le_of_ble_eq_true rfl) ?_
  intro p e s m args below meth c hC hr hlk hnm ls hS hl
  exact b_X6_count hC hr hlk hn _ _ _ _ _ hF hS hl
def F_X6_digestOfLaw_49 : Nat → Int32 → Int64 → Int32 → Mem → Option (Int64 × Mem)
  | 0, _, _, _, _ => none
  | n + 1, x3, y4, x6, M => if 2 < x6 then bd (F_X6_least x3 M) (fun r86 M86 => bd (F_X6_full x3 (-1) M86) (fun r102 M102 => some ((31 * ((31 * y4) + (r86.toInt64))) + (r102.toInt64), M102))) else bd (F_X6_heard x3 x6 M) (fun r65 M65 => F_X6_digestOfLaw_49 n x3 ((31 * y4) + (r65.toInt64)) (x6 + 1) M65)
def F_X6_digestOfLaw_17 : Nat → Int32 → Int64 → Int32 → Mem → Option (Int64 × Mem)
  | 0, _, _, _, _ => none
  | n + 1, x3, y4, x6, M => if 3 < x6 then F_X6_digestOfLaw_49 fu x3 y4 0 M else bd (F_X6_law x3 x6 M) (fun r33 M33 => F_X6_digestOfLaw_17 n x3 ((31 * y4) + (r33.toInt64)) (x6 + 1) M33)
def F_X6_digestOfLaw (y1 : Int64) (x3 : Int32) (M : Mem) : Option (Int64 × Mem) := bd (F_X6_fault x3 M) (fun r7 M7 => F_X6_digestOfLaw_17 fu x3 ((31 * y1) + (r7.toInt64)) 0 M7)
set_option maxHeartbeats 4000000 in
set_option maxRecDepth 100000 in
theorem b_X6_digestOfLaw_49 {M0 : Mem} {r0 : Int64} (hC : SX p m c s args cX6_digestOfLaw 7 RX6 G (AG G)) (hr : meth.sig.returnType = (some .long)) (hlk : meth.locks = false) (hn : ∀ i ∈ LsF, i ∈ gL G) : ∀ (n : Nat) (x3 : Int32) (y4 : Int64) (x6 : Int32) (M : Mem) (H : Heap) (locs : List Loc) (ls : Array Slot), F_X6_digestOfLaw_49 n x3 y4 x6 M = some (r0, M0) → ST G (AG G) s M H locs → lv_has ls 7 [(0, .ref (G.1 50)), (3, .int x3), (4, .long y4), (6, .int x6)] → W p l e (RM 5 117) s m args below meth c H locs 0 0 (MQ below (QV G (some (.long r0)) M0) args s 0 0 (AG G)) (F0 m 49 ls []) := by
  obtain ⟨⟨hx, hb, hml, hown, hts⟩, hK, hG, hA⟩ := id hC
  intro n
  induction n with
  | zero =>
    intro x3 y4 x6 M H locs ls hF
    cases hF
  | succ n ih =>
    intro x3 y4 x6 M H locs ls hF hS hl
    unfold F_X6_digestOfLaw_49 at hF
    refine lv_iload hx hb dX6_digestOfLaw_49 (lv_at hl 3 rfl) ?_
    refine lv_iconst (v := 2) hx hb dX6_digestOfLaw_51 (by decide) ?_
    refine lv_icmp_gt (tgt := 78) hx hb dX6_digestOfLaw_52 (by decide) (fun hc => ?_) (fun hc => ?_)
    · rw [if_pos hc] at hF
      refine lv_ldc2 (v := 31) hx hb hown (hts _ lc_X6_282) dX6_digestOfLaw_78 ?_
      refine lv_lload hx hb dX6_digestOfLaw_81 (lv_at hl 2 rfl) ?_
      refine lv_lmul hx hb dX6_digestOfLaw_83 ?_
      refine lv_aload_n hx hb dX6_digestOfLaw_84 rfl (lv_at hl 0 rfl) ?_
      refine lv_iload_n hx hb dX6_digestOfLaw_85 rfl (lv_at hl 1 rfl) ?_
      obtain ⟨r86, M86, h86, hF⟩ := bd_some hF
      refine cV_ (ci := 6) (i := 50) (C := RX6) (T := TX6) (N := 8) (As := [.int x3]) (v := some (.int r86)) (rest := [.long (31 * y4)]) (st1 := [.int r86, .long (31 * y4)]) hC hS (hn _ (by decide)) rfl rfl (c_X6_least l G hn x3 M _ _ h86) kV_X6_least lm_X6_309 ⟨Nat.le_of_ble_eq_true rfl, Nat.le_of_ble_eq_true rfl⟩ rfl hl.1 (Nat.le_of_ble_eq_true rfl) dX6_digestOfLaw_86 ⟨Nat.le_refl _, Nat.le_refl _⟩ rfl (fun H locs hS => ?_)
      refine lv_i2l hx hb dX6_digestOfLaw_89 rfl ?_
      refine lv_ladd hx hb dX6_digestOfLaw_90 ?_
      refine lv_lstore (lv' := [(4, .long ((31 * y4) + (r86.toInt64))), (0, .ref (G.1 50)), (3, .int x3), (6, .int x6)]) hx hb dX6_digestOfLaw_91 hl (by decide) rfl (fun ls hl => ?_)
      refine lv_ldc2 (v := 31) hx hb hown (hts _ lc_X6_282) dX6_digestOfLaw_93 ?_
      refine lv_lload hx hb dX6_digestOfLaw_96 (lv_at hl 0 rfl) ?_
      refine lv_lmul hx hb dX6_digestOfLaw_98 ?_
      refine lv_aload_n hx hb dX6_digestOfLaw_99 rfl (lv_at hl 1 rfl) ?_
      refine lv_iload_n hx hb dX6_digestOfLaw_100 rfl (lv_at hl 2 rfl) ?_
      refine lv_iconst (v := (-1)) hx hb dX6_digestOfLaw_101 (by decide) ?_
      obtain ⟨r102, M102, h102, hF⟩ := bd_some hF
      refine cV_ (ci := 6) (i := 50) (C := RX6) (T := TX6) (N := 8) (As := [.int x3, .int ((-1))]) (v := some (.int r102)) (rest := [.long (31 * ((31 * y4) + (r86.toInt64)))]) (st1 := [.int r102, .long (31 * ((31 * y4) + (r86.toInt64)))]) hC hS (hn _ (by decide)) rfl rfl (c_X6_full l G hn x3 (-1) M86 _ _ h102) kV_X6_full lm_X6_312 ⟨Nat.le_of_ble_eq_true rfl, Nat.le_of_ble_eq_true rfl⟩ rfl hl.1 (Nat.le_of_ble_eq_true rfl) dX6_digestOfLaw_102 ⟨Nat.le_refl _, Nat.le_refl _⟩ rfl (fun H locs hS => ?_)
      refine lv_i2l hx hb dX6_digestOfLaw_105 rfl ?_
      refine lv_ladd hx hb dX6_digestOfLaw_106 ?_
      exact retL hC hS hr hlk hF dX6_digestOfLaw_107
    · rw [if_neg hc] at hF
      refine lv_ldc2 (v := 31) hx hb hown (hts _ lc_X6_282) dX6_digestOfLaw_55 ?_
      refine lv_lload hx hb dX6_digestOfLaw_58 (lv_at hl 2 rfl) ?_
      refine lv_lmul hx hb dX6_digestOfLaw_60 ?_
      refine lv_aload_n hx hb dX6_digestOfLaw_61 rfl (lv_at hl 0 rfl) ?_
      refine lv_iload_n hx hb dX6_digestOfLaw_62 rfl (lv_at hl 1 rfl) ?_
      refine lv_iload hx hb dX6_digestOfLaw_63 (lv_at hl 3 rfl) ?_
      obtain ⟨r65, M65, h65, hF⟩ := bd_some hF
      refine cV_ (ci := 6) (i := 50) (C := RX6) (T := TX6) (N := 8) (As := [.int x3, .int x6]) (v := some (.int r65)) (rest := [.long (31 * y4)]) (st1 := [.int r65, .long (31 * y4)]) hC hS (hn _ (by decide)) rfl rfl (c_X6_heard l G hn x3 x6 M _ _ h65) kV_X6_heard lm_X6_306 ⟨Nat.le_of_ble_eq_true rfl, Nat.le_of_ble_eq_true rfl⟩ rfl hl.1 (Nat.le_of_ble_eq_true rfl) dX6_digestOfLaw_65 ⟨Nat.le_refl _, Nat.le_refl _⟩ rfl (fun H locs hS => ?_)
      refine lv_i2l hx hb dX6_digestOfLaw_68 rfl ?_
      refine lv_ladd hx hb dX6_digestOfLaw_69 ?_
      refine lv_lstore (lv' := [(4, .long ((31 * y4) + (r65.toInt64))), (0, .ref (G.1 50)), (3, .int x3), (6, .int x6)]) hx hb dX6_digestOfLaw_70 hl (by decide) rfl (fun ls hl => ?_)
      refine lv_iinc (v := x6 + 1) (lv' := [(6, .int (x6 + 1)), (4, .long ((31 * y4) + (r65.toInt64))), (0, .ref (G.1 50)), (3, .int x3)]) hx hb dX6_digestOfLaw_72 hl (k := 3) rfl rfl (by decide) rfl (fun ls hl => ?_)
      refine lv_goto (tgt := 49) hx hb dX6_digestOfLaw_75 (by decide) ?_
      exact ih _ _ _ _ _ _ _ hF hS (lv_sub hl [2, 3, 1, 0] rfl)
set_option maxHeartbeats 4000000 in
set_option maxRecDepth 100000 in
theorem b_X6_digestOfLaw_17 {M0 : Mem} {r0 : Int64} (hC : SX p m c s args cX6_digestOfLaw 7 RX6 G (AG G)) (hr : meth.sig.returnType = (some .long)) (hlk : meth.locks = false) (hn : ∀ i ∈ LsF, i ∈ gL G) : ∀ (n : Nat) (x3 : Int32) (y4 : Int64) (x6 : Int32) (M : Mem) (H : Heap) (locs : List Loc) (ls : Array Slot), F_X6_digestOfLaw_17 n x3 y4 x6 M = some (r0, M0) → ST G (AG G) s M H locs → lv_has ls 7 [(0, .ref (G.1 50)), (3, .int x3), (4, .long y4), (6, .int x6)] → W p l e (RM 5 117) s m args below meth c H locs 0 0 (MQ below (QV G (some (.long r0)) M0) args s 0 0 (AG G)) (F0 m 17 ls []) := by
  obtain ⟨⟨hx, hb, hml, hown, hts⟩, hK, hG, hA⟩ := id hC
  intro n
  induction n with
  | zero =>
    intro x3 y4 x6 M H locs ls hF
    cases hF
  | succ n ih =>
    intro x3 y4 x6 M H locs ls hF hS hl
    unfold F_X6_digestOfLaw_17 at hF
    refine lv_iload hx hb dX6_digestOfLaw_17 (lv_at hl 3 rfl) ?_
    refine lv_iconst (v := 3) hx hb dX6_digestOfLaw_19 (by decide) ?_
    refine lv_icmp_gt (tgt := 46) hx hb dX6_digestOfLaw_20 (by decide) (fun hc => ?_) (fun hc => ?_)
    · rw [if_pos hc] at hF
      refine lv_iconst (v := 0) hx hb dX6_digestOfLaw_46 (by decide) ?_
      refine lv_istore (lv' := [(6, .int 0), (0, .ref (G.1 50)), (3, .int x3), (4, .long y4)]) hx hb dX6_digestOfLaw_47 hl (by decide) rfl (fun ls hl => ?_)
      exact b_X6_digestOfLaw_49 hC hr hlk hn fu _ _ _ _ _ _ _ hF hS (lv_sub hl [1, 2, 3, 0] rfl)
    · rw [if_neg hc] at hF
      refine lv_ldc2 (v := 31) hx hb hown (hts _ lc_X6_282) dX6_digestOfLaw_23 ?_
      refine lv_lload hx hb dX6_digestOfLaw_26 (lv_at hl 2 rfl) ?_
      refine lv_lmul hx hb dX6_digestOfLaw_28 ?_
      refine lv_aload_n hx hb dX6_digestOfLaw_29 rfl (lv_at hl 0 rfl) ?_
      refine lv_iload_n hx hb dX6_digestOfLaw_30 rfl (lv_at hl 1 rfl) ?_
      refine lv_iload hx hb dX6_digestOfLaw_31 (lv_at hl 3 rfl) ?_
      obtain ⟨r33, M33, h33, hF⟩ := bd_some hF
      refine cV_ (ci := 6) (i := 50) (C := RX6) (T := TX6) (N := 8) (As := [.int x3, .int x6]) (v := some (.int r33)) (rest := [.long (31 * y4)]) (st1 := [.int r33, .long (31 * y4)]) hC hS (hn _ (by decide)) rfl rfl (c_X6_law l G hn x3 x6 M _ _ h33) kV_X6_law lm_X6_303 ⟨Nat.le_of_ble_eq_true rfl, Nat.le_of_ble_eq_true rfl⟩ rfl hl.1 (Nat.le_of_ble_eq_true rfl) dX6_digestOfLaw_33 ⟨Nat.le_refl _, Nat.le_refl _⟩ rfl (fun H locs hS => ?_)
      refine lv_i2l hx hb dX6_digestOfLaw_36 rfl ?_
      refine lv_ladd hx hb dX6_digestOfLaw_37 ?_
      refine lv_lstore (lv' := [(4, .long ((31 * y4) + (r33.toInt64))), (0, .ref (G.1 50)), (3, .int x3), (6, .int x6)]) hx hb dX6_digestOfLaw_38 hl (by decide) rfl (fun ls hl => ?_)
      refine lv_iinc (v := x6 + 1) (lv' := [(6, .int (x6 + 1)), (4, .long ((31 * y4) + (r33.toInt64))), (0, .ref (G.1 50)), (3, .int x3)]) hx hb dX6_digestOfLaw_40 hl (k := 3) rfl rfl (by decide) rfl (fun ls hl => ?_)
      refine lv_goto (tgt := 17) hx hb dX6_digestOfLaw_43 (by decide) ?_
      exact ih _ _ _ _ _ _ _ hF hS (lv_sub hl [2, 3, 1, 0] rfl)
set_option maxHeartbeats 4000000 in
set_option maxRecDepth 100000 in
theorem b_X6_digestOfLaw {M0 : Mem} {r0 : Int64} (hC : SX p m c s args cX6_digestOfLaw 7 RX6 G (AG G)) (hr : meth.sig.returnType = (some .long)) (hlk : meth.locks = false) (hn : ∀ i ∈ LsF, i ∈ gL G) : ∀ (y1 : Int64) (x3 : Int32) (M : Mem) (H : Heap) (locs : List Loc) (ls : Array Slot), F_X6_digestOfLaw y1 x3 M = some (r0, M0) → ST G (AG G) s M H locs → lv_has ls 7 [(0, .ref (G.1 50)), (1, .long y1), (3, .int x3)] → W p l e (RM 5 117) s m args below meth c H locs 0 0 (MQ below (QV G (some (.long r0)) M0) args s 0 0 (AG G)) (F0 m 0 ls []) := by
  obtain ⟨⟨hx, hb, hml, hown, hts⟩, hK, hG, hA⟩ := id hC
  intro y1 x3 M H locs ls hF hS hl
  unfold F_X6_digestOfLaw at hF
  refine lv_ldc2 (v := 31) hx hb hown (hts _ lc_X6_282) dX6_digestOfLaw_0 ?_
  refine lv_lload_n hx hb dX6_digestOfLaw_3 rfl (lv_at hl 1 rfl) ?_
  refine lv_lmul hx hb dX6_digestOfLaw_4 ?_
  refine lv_aload_n hx hb dX6_digestOfLaw_5 rfl (lv_at hl 0 rfl) ?_
  refine lv_iload_n hx hb dX6_digestOfLaw_6 rfl (lv_at hl 2 rfl) ?_
  obtain ⟨r7, M7, h7, hF⟩ := bd_some hF
  refine cV_ (ci := 6) (i := 50) (C := RX6) (T := TX6) (N := 8) (As := [.int x3]) (v := some (.int r7)) (rest := [.long (31 * y1)]) (st1 := [.int r7, .long (31 * y1)]) hC hS (hn _ (by decide)) rfl rfl (c_X6_fault l G hn x3 M _ _ h7) kV_X6_fault lm_X6_300 ⟨Nat.le_of_ble_eq_true rfl, Nat.le_of_ble_eq_true rfl⟩ rfl hl.1 (Nat.le_of_ble_eq_true rfl) dX6_digestOfLaw_7 ⟨Nat.le_refl _, Nat.le_refl _⟩ rfl (fun H locs hS => ?_)
  refine lv_i2l hx hb dX6_digestOfLaw_10 rfl ?_
  refine lv_ladd hx hb dX6_digestOfLaw_11 ?_
  refine lv_lstore (lv' := [(4, .long ((31 * y1) + (r7.toInt64))), (0, .ref (G.1 50)), (1, .long y1), (3, .int x3)]) hx hb dX6_digestOfLaw_12 hl (by decide) rfl (fun ls hl => ?_)
  refine lv_iconst (v := 0) hx hb dX6_digestOfLaw_14 (by decide) ?_
  refine lv_istore (lv' := [(6, .int 0), (4, .long ((31 * y1) + (r7.toInt64))), (0, .ref (G.1 50)), (1, .long y1), (3, .int x3)]) hx hb dX6_digestOfLaw_15 hl (by decide) rfl (fun ls hl => ?_)
  exact b_X6_digestOfLaw_17 hC hr hlk hn fu _ _ _ _ _ _ _ hF hS (lv_sub hl [2, 4, 1, 0] rfl)
set_option maxRecDepth 100000 in
theorem c_X6_digestOfLaw (l : Launch) (G : GT) (hn : ∀ i ∈ LsF, i ∈ gL G) (y1 : Int64) (x3 : Int32) (M : Mem) (r0 : Int64) (M0 : Mem) (hF : F_X6_digestOfLaw y1 x3 M = some (r0, M0)) : MetG l G yX6_digestOfLaw cX6_digestOfLaw 7 (some .long) 5 117 [.ref (G.1 50), .long y1, .int x3] M (some (.long r0)) M0 := by
  refine MetG.of (by decide) (Nat.le_of_ble_eq_true rfl) ?_
  intro p e s m args below meth c hC hr hlk hnm ls hS hl
  exact b_X6_digestOfLaw hC hr hlk hn _ _ _ _ _ _ hF hS hl
def F_X6_digest_46 (k32 : Int64 → Int32 → Mem → Option (Int64 × Mem)) : Nat → Int64 → Int32 → Int32 → Mem → Option (Int64 × Mem)
  | 0, _, _, _, _ => none
  | n + 1, y1, x3, x4, M => if 6 < x4 then k32 y1 (x3 + 1) M else bd (F_X6_is x3 x4 M) (fun r62 M62 => F_X6_digest_46 k32 n ((31 * y1) + (r62.toInt64)) x3 (x4 + 1) M62)
def F_X6_digest_32 : Nat → Int64 → Int32 → Mem → Option (Int64 × Mem)
  | 0, _, _, _ => none
  | n + 1, y1, x3, M => if (M.1 0) ≤ x3 then bd (F_X6_digestOfLaw y1 0 M) (fun r83 M83 => bd (F_X6_digestOfLaw r83 1 M83) (fun r90 M90 => bd (F_X6_ring M90) (fun r100 M100 => bd (F_X6_most M100) (fun r112 M112 => some ((31 * ((31 * r90) + (r100.toInt64))) + (r112.toInt64), M112))))) else F_X6_digest_46 (F_X6_digest_32 n) fu y1 x3 0 M
def F_X6_digest_6 : Nat → Int64 → Int32 → Mem → Option (Int64 × Mem)
  | 0, _, _, _ => none
  | n + 1, y1, x3, M => if 5 < x3 then F_X6_digest_32 fu y1 0 M else bd (F_X6_count x3 M) (fun r18 M18 => F_X6_digest_6 n ((31 * y1) + (r18.toInt64)) (x3 + 1) M18)
def F_X6_digest (M : Mem) : Option (Int64 × Mem) := F_X6_digest_6 fu 17 0 M
set_option maxHeartbeats 4000000 in
set_option maxRecDepth 100000 in
theorem b_X6_digest_46 {k32 : Int64 → Int32 → Mem → Option (Int64 × Mem)} {M0 : Mem} {r0 : Int64} (hC : SX p m c s args cX6_digest 5 RX6 G (AG G)) (hr : meth.sig.returnType = (some .long)) (hlk : meth.locks = false) (hn : ∀ i ∈ LsF, i ∈ gL G) (hk32 : ∀ (y1 : Int64) (x3 : Int32) (M : Mem) (H : Heap) (locs : List Loc) (ls : Array Slot), k32 y1 x3 M = some (r0, M0) → ST G (AG G) s M H locs → lv_has ls 5 [(0, .ref (G.1 50)), (1, .long y1), (3, .int x3)] → W p l e (RM 6 143) s m args below meth c H locs 0 0 (MQ below (QV G (some (.long r0)) M0) args s 0 0 (AG G)) (F0 m 32 ls [])) : ∀ (n : Nat) (y1 : Int64) (x3 : Int32) (x4 : Int32) (M : Mem) (H : Heap) (locs : List Loc) (ls : Array Slot), F_X6_digest_46 k32 n y1 x3 x4 M = some (r0, M0) → ST G (AG G) s M H locs → lv_has ls 5 [(0, .ref (G.1 50)), (1, .long y1), (3, .int x3), (4, .int x4)] → W p l e (RM 6 143) s m args below meth c H locs 0 0 (MQ below (QV G (some (.long r0)) M0) args s 0 0 (AG G)) (F0 m 46 ls []) := by
  obtain ⟨⟨hx, hb, hml, hown, hts⟩, hK, hG, hA⟩ := id hC
  intro n
  induction n with
  | zero =>
    intro y1 x3 x4 M H locs ls hF
    cases hF
  | succ n ih =>
    intro y1 x3 x4 M H locs ls hF hS hl
    unfold F_X6_digest_46 at hF
    refine lv_iload hx hb dX6_digest_46 (lv_at hl 3 rfl) ?_
    refine lv_bipush (v := 6) hx hb dX6_digest_48 (by decide) ?_
    refine lv_icmp_gt (tgt := 74) hx hb dX6_digest_50 (by decide) (fun hc => ?_) (fun hc => ?_)
    · rw [if_pos hc] at hF
      refine lv_iinc (v := x3 + 1) (lv' := [(3, .int (x3 + 1)), (0, .ref (G.1 50)), (1, .long y1), (4, .int x4)]) hx hb dX6_digest_74 hl (k := 2) rfl rfl (by decide) rfl (fun ls hl => ?_)
      refine lv_goto (tgt := 32) hx hb dX6_digest_77 (by decide) ?_
      exact hk32 _ _ _ _ _ _ hF hS (lv_sub hl [1, 2, 0] rfl)
    · rw [if_neg hc] at hF
      refine lv_ldc2 (v := 31) hx hb hown (hts _ lc_X6_282) dX6_digest_53 ?_
      refine lv_lload_n hx hb dX6_digest_56 rfl (lv_at hl 1 rfl) ?_
      refine lv_lmul hx hb dX6_digest_57 ?_
      refine lv_aload_n hx hb dX6_digest_58 rfl (lv_at hl 0 rfl) ?_
      refine lv_iload_n hx hb dX6_digest_59 rfl (lv_at hl 2 rfl) ?_
      refine lv_iload hx hb dX6_digest_60 (lv_at hl 3 rfl) ?_
      obtain ⟨r62, M62, h62, hF⟩ := bd_some hF
      refine cV_ (ci := 6) (i := 50) (C := RX6) (T := TX6) (N := 8) (As := [.int x3, .int x4]) (v := some (.int r62)) (rest := [.long (31 * y1)]) (st1 := [.int r62, .long (31 * y1)]) hC hS (hn _ (by decide)) rfl rfl (c_X6_is l G hn x3 x4 M _ _ h62) kV_X6_is lm_X6_287 ⟨Nat.le_of_ble_eq_true rfl, Nat.le_of_ble_eq_true rfl⟩ rfl hl.1 (Nat.le_of_ble_eq_true rfl) dX6_digest_62 ⟨Nat.le_refl _, Nat.le_refl _⟩ rfl (fun H locs hS => ?_)
      refine lv_i2l hx hb dX6_digest_65 rfl ?_
      refine lv_ladd hx hb dX6_digest_66 ?_
      refine lv_lstore_n (lv' := [(1, .long ((31 * y1) + (r62.toInt64))), (0, .ref (G.1 50)), (3, .int x3), (4, .int x4)]) hx hb dX6_digest_67 rfl hl (by decide) rfl (fun ls hl => ?_)
      refine lv_iinc (v := x4 + 1) (lv' := [(4, .int (x4 + 1)), (1, .long ((31 * y1) + (r62.toInt64))), (0, .ref (G.1 50)), (3, .int x3)]) hx hb dX6_digest_68 hl (k := 3) rfl rfl (by decide) rfl (fun ls hl => ?_)
      refine lv_goto (tgt := 46) hx hb dX6_digest_71 (by decide) ?_
      exact ih _ _ _ _ _ _ _ hF hS (lv_sub hl [2, 1, 3, 0] rfl)
set_option maxHeartbeats 4000000 in
set_option maxRecDepth 100000 in
theorem b_X6_digest_32 {M0 : Mem} {r0 : Int64} (hC : SX p m c s args cX6_digest 5 RX6 G (AG G)) (hr : meth.sig.returnType = (some .long)) (hlk : meth.locks = false) (hn : ∀ i ∈ LsF, i ∈ gL G) : ∀ (n : Nat) (y1 : Int64) (x3 : Int32) (M : Mem) (H : Heap) (locs : List Loc) (ls : Array Slot), F_X6_digest_32 n y1 x3 M = some (r0, M0) → ST G (AG G) s M H locs → lv_has ls 5 [(0, .ref (G.1 50)), (1, .long y1), (3, .int x3)] → W p l e (RM 6 143) s m args below meth c H locs 0 0 (MQ below (QV G (some (.long r0)) M0) args s 0 0 (AG G)) (F0 m 32 ls []) := by
  obtain ⟨⟨hx, hb, hml, hown, hts⟩, hK, hG, hA⟩ := id hC
  intro n
  induction n with
  | zero =>
    intro y1 x3 M H locs ls hF
    cases hF
  | succ n ih =>
    intro y1 x3 M H locs ls hF hS hl
    unfold F_X6_digest_32 at hF
    refine lv_iload_n hx hb dX6_digest_32 rfl (lv_at hl 2 rfl) ?_
    refine lv_aload_n hx hb dX6_digest_33 rfl (lv_at hl 0 rfl) ?_
    refine gx (ci := 6) (k := 1) (v := .ref (G.1 52)) (C := RX6) (T := TX6) (N := 8) hC hS (hn _ (by decide)) rfl rfl in_X6 (by decide) rfl rfl lf_X6_19 dX6_digest_34 ?_
    refine gxN (ci := 5) (k := 10) (v := .int (M.1 0)) (C := RX5) (T := TX5) (N := 13) hC hS (hn _ (by decide)) rfl rfl in_X5 (by decide) rfl rfl ln_X6_80 dX6_digest_37 ?_
    refine lv_icmp_ge (tgt := 80) hx hb dX6_digest_40 (by decide) (fun hc => ?_) (fun hc => ?_)
    · rw [if_pos hc] at hF
      refine lv_aload_n hx hb dX6_digest_80 rfl (lv_at hl 0 rfl) ?_
      refine lv_lload_n hx hb dX6_digest_81 rfl (lv_at hl 1 rfl) ?_
      refine lv_iconst (v := 0) hx hb dX6_digest_82 (by decide) ?_
      obtain ⟨r83, M83, h83, hF⟩ := bd_some hF
      refine cV_ (ci := 6) (i := 50) (C := RX6) (T := TX6) (N := 8) (As := [.long y1, .int 0]) (v := some (.long r83)) (rest := []) (st1 := [.long r83]) hC hS (hn _ (by decide)) rfl rfl (c_X6_digestOfLaw l G hn y1 0 M _ _ h83) kV_X6_digestOfLaw lm_X6_290 ⟨Nat.le_of_ble_eq_true rfl, Nat.le_of_ble_eq_true rfl⟩ rfl hl.1 (Nat.le_of_ble_eq_true rfl) dX6_digest_83 ⟨Nat.le_refl _, Nat.le_refl _⟩ rfl (fun H locs hS => ?_)
      refine lv_lstore_n (lv' := [(1, .long r83), (0, .ref (G.1 50)), (3, .int x3)]) hx hb dX6_digest_86 rfl hl (by decide) rfl (fun ls hl => ?_)
      refine lv_aload_n hx hb dX6_digest_87 rfl (lv_at hl 1 rfl) ?_
      refine lv_lload_n hx hb dX6_digest_88 rfl (lv_at hl 0 rfl) ?_
      refine lv_iconst (v := 1) hx hb dX6_digest_89 (by decide) ?_
      obtain ⟨r90, M90, h90, hF⟩ := bd_some hF
      refine cV_ (ci := 6) (i := 50) (C := RX6) (T := TX6) (N := 8) (As := [.long r83, .int 1]) (v := some (.long r90)) (rest := []) (st1 := [.long r90]) hC hS (hn _ (by decide)) rfl rfl (c_X6_digestOfLaw l G hn r83 1 M83 _ _ h90) kV_X6_digestOfLaw lm_X6_290 ⟨Nat.le_of_ble_eq_true rfl, Nat.le_of_ble_eq_true rfl⟩ rfl hl.1 (Nat.le_of_ble_eq_true rfl) dX6_digest_90 ⟨Nat.le_refl _, Nat.le_refl _⟩ rfl (fun H locs hS => ?_)
      refine lv_lstore_n (lv' := [(1, .long r90), (0, .ref (G.1 50)), (3, .int x3)]) hx hb dX6_digest_93 rfl hl (by decide) rfl (fun ls hl => ?_)
      refine lv_ldc2 (v := 31) hx hb hown (hts _ lc_X6_282) dX6_digest_94 ?_
      refine lv_lload_n hx hb dX6_digest_97 rfl (lv_at hl 0 rfl) ?_
      refine lv_lmul hx hb dX6_digest_98 ?_
      refine lv_aload_n hx hb dX6_digest_99 rfl (lv_at hl 1 rfl) ?_
      obtain ⟨r100, M100, h100, hF⟩ := bd_some hF
      refine cV_ (ci := 6) (i := 50) (C := RX6) (T := TX6) (N := 8) (As := []) (v := some (.int r100)) (rest := [.long (31 * r90)]) (st1 := [.int r100, .long (31 * r90)]) hC hS (hn _ (by decide)) rfl rfl (c_X6_ring l G hn M90 _ _ h100) kV_X6_ring lm_X6_294 ⟨Nat.le_of_ble_eq_true rfl, Nat.le_of_ble_eq_true rfl⟩ rfl hl.1 (Nat.le_of_ble_eq_true rfl) dX6_digest_100 ⟨Nat.le_refl _, Nat.le_refl _⟩ rfl (fun H locs hS => ?_)
      refine lv_i2l hx hb dX6_digest_103 rfl ?_
      refine lv_ladd hx hb dX6_digest_104 ?_
      refine lv_lstore_n (lv' := [(1, .long ((31 * r90) + (r100.toInt64))), (0, .ref (G.1 50)), (3, .int x3)]) hx hb dX6_digest_105 rfl hl (by decide) rfl (fun ls hl => ?_)
      refine lv_ldc2 (v := 31) hx hb hown (hts _ lc_X6_282) dX6_digest_106 ?_
      refine lv_lload_n hx hb dX6_digest_109 rfl (lv_at hl 0 rfl) ?_
      refine lv_lmul hx hb dX6_digest_110 ?_
      refine lv_aload_n hx hb dX6_digest_111 rfl (lv_at hl 1 rfl) ?_
      obtain ⟨r112, M112, h112, hF⟩ := bd_some hF
      refine cV_ (ci := 6) (i := 50) (C := RX6) (T := TX6) (N := 8) (As := []) (v := some (.int r112)) (rest := [.long (31 * ((31 * r90) + (r100.toInt64)))]) (st1 := [.int r112, .long (31 * ((31 * r90) + (r100.toInt64)))]) hC hS (hn _ (by decide)) rfl rfl (c_X6_most l G hn M100 _ _ h112) kV_X6_most lm_X6_297 ⟨Nat.le_of_ble_eq_true rfl, Nat.le_of_ble_eq_true rfl⟩ rfl hl.1 (Nat.le_of_ble_eq_true rfl) dX6_digest_112 ⟨Nat.le_refl _, Nat.le_refl _⟩ rfl (fun H locs hS => ?_)
      refine lv_i2l hx hb dX6_digest_115 rfl ?_
      refine lv_ladd hx hb dX6_digest_116 ?_
      exact retL hC hS hr hlk hF dX6_digest_117
    · rw [if_neg hc] at hF
      refine lv_iconst (v := 0) hx hb dX6_digest_43 (by decide) ?_
      refine lv_istore (lv' := [(4, .int 0), (0, .ref (G.1 50)), (1, .long y1), (3, .int x3)]) hx hb dX6_digest_44 hl (by decide) rfl (fun ls hl => ?_)
      exact b_X6_digest_46 hC hr hlk hn ih fu _ _ _ _ _ _ _ hF hS (lv_sub hl [1, 2, 3, 0] rfl)
set_option maxHeartbeats 4000000 in
set_option maxRecDepth 100000 in
theorem b_X6_digest_6 {M0 : Mem} {r0 : Int64} (hC : SX p m c s args cX6_digest 5 RX6 G (AG G)) (hr : meth.sig.returnType = (some .long)) (hlk : meth.locks = false) (hn : ∀ i ∈ LsF, i ∈ gL G) : ∀ (n : Nat) (y1 : Int64) (x3 : Int32) (M : Mem) (H : Heap) (locs : List Loc) (ls : Array Slot), F_X6_digest_6 n y1 x3 M = some (r0, M0) → ST G (AG G) s M H locs → lv_has ls 5 [(0, .ref (G.1 50)), (1, .long y1), (3, .int x3)] → W p l e (RM 6 143) s m args below meth c H locs 0 0 (MQ below (QV G (some (.long r0)) M0) args s 0 0 (AG G)) (F0 m 6 ls []) := by
  obtain ⟨⟨hx, hb, hml, hown, hts⟩, hK, hG, hA⟩ := id hC
  intro n
  induction n with
  | zero =>
    intro y1 x3 M H locs ls hF
    cases hF
  | succ n ih =>
    intro y1 x3 M H locs ls hF hS hl
    unfold F_X6_digest_6 at hF
    refine lv_iload_n hx hb dX6_digest_6 rfl (lv_at hl 2 rfl) ?_
    refine lv_iconst (v := 5) hx hb dX6_digest_7 (by decide) ?_
    refine lv_icmp_gt (tgt := 30) hx hb dX6_digest_8 (by decide) (fun hc => ?_) (fun hc => ?_)
    · rw [if_pos hc] at hF
      refine lv_iconst (v := 0) hx hb dX6_digest_30 (by decide) ?_
      refine lv_istore_n (lv' := [(3, .int 0), (0, .ref (G.1 50)), (1, .long y1)]) hx hb dX6_digest_31 rfl hl (by decide) rfl (fun ls hl => ?_)
      exact b_X6_digest_32 hC hr hlk hn fu _ _ _ _ _ _ hF hS (lv_sub hl [1, 2, 0] rfl)
    · rw [if_neg hc] at hF
      refine lv_ldc2 (v := 31) hx hb hown (hts _ lc_X6_282) dX6_digest_11 ?_
      refine lv_lload_n hx hb dX6_digest_14 rfl (lv_at hl 1 rfl) ?_
      refine lv_lmul hx hb dX6_digest_15 ?_
      refine lv_aload_n hx hb dX6_digest_16 rfl (lv_at hl 0 rfl) ?_
      refine lv_iload_n hx hb dX6_digest_17 rfl (lv_at hl 2 rfl) ?_
      obtain ⟨r18, M18, h18, hF⟩ := bd_some hF
      refine cV_ (ci := 6) (i := 50) (C := RX6) (T := TX6) (N := 8) (As := [.int x3]) (v := some (.int r18)) (rest := [.long (31 * y1)]) (st1 := [.int r18, .long (31 * y1)]) hC hS (hn _ (by decide)) rfl rfl (c_X6_count l G hn x3 M _ _ h18) kV_X6_count lm_X6_284 ⟨Nat.le_of_ble_eq_true rfl, Nat.le_of_ble_eq_true rfl⟩ rfl hl.1 (Nat.le_of_ble_eq_true rfl) dX6_digest_18 ⟨Nat.le_refl _, Nat.le_refl _⟩ rfl (fun H locs hS => ?_)
      refine lv_i2l hx hb dX6_digest_21 rfl ?_
      refine lv_ladd hx hb dX6_digest_22 ?_
      refine lv_lstore_n (lv' := [(1, .long ((31 * y1) + (r18.toInt64))), (0, .ref (G.1 50)), (3, .int x3)]) hx hb dX6_digest_23 rfl hl (by decide) rfl (fun ls hl => ?_)
      refine lv_iinc (v := x3 + 1) (lv' := [(3, .int (x3 + 1)), (1, .long ((31 * y1) + (r18.toInt64))), (0, .ref (G.1 50))]) hx hb dX6_digest_24 hl (k := 2) rfl rfl (by decide) rfl (fun ls hl => ?_)
      refine lv_goto (tgt := 6) hx hb dX6_digest_27 (by decide) ?_
      exact ih _ _ _ _ _ _ hF hS (lv_sub hl [2, 1, 0] rfl)
set_option maxHeartbeats 4000000 in
set_option maxRecDepth 100000 in
theorem b_X6_digest {M0 : Mem} {r0 : Int64} (hC : SX p m c s args cX6_digest 5 RX6 G (AG G)) (hr : meth.sig.returnType = (some .long)) (hlk : meth.locks = false) (hn : ∀ i ∈ LsF, i ∈ gL G) : ∀ (M : Mem) (H : Heap) (locs : List Loc) (ls : Array Slot), F_X6_digest M = some (r0, M0) → ST G (AG G) s M H locs → lv_has ls 5 [(0, .ref (G.1 50))] → W p l e (RM 6 143) s m args below meth c H locs 0 0 (MQ below (QV G (some (.long r0)) M0) args s 0 0 (AG G)) (F0 m 0 ls []) := by
  obtain ⟨⟨hx, hb, hml, hown, hts⟩, hK, hG, hA⟩ := id hC
  intro M H locs ls hF hS hl
  unfold F_X6_digest at hF
  refine lv_ldc2 (v := 17) hx hb hown (hts _ lc_X6_280) dX6_digest_0 ?_
  refine lv_lstore_n (lv' := [(1, .long 17), (0, .ref (G.1 50))]) hx hb dX6_digest_3 rfl hl (by decide) rfl (fun ls hl => ?_)
  refine lv_iconst (v := 0) hx hb dX6_digest_4 (by decide) ?_
  refine lv_istore_n (lv' := [(3, .int 0), (1, .long 17), (0, .ref (G.1 50))]) hx hb dX6_digest_5 rfl hl (by decide) rfl (fun ls hl => ?_)
  exact b_X6_digest_6 hC hr hlk hn fu _ _ _ _ _ _ hF hS (lv_sub hl [2, 1, 0] rfl)
set_option maxRecDepth 100000 in
theorem c_X6_digest (l : Launch) (G : GT) (hn : ∀ i ∈ LsF, i ∈ gL G) (M : Mem) (r0 : Int64) (M0 : Mem) (hF : F_X6_digest M = some (r0, M0)) : MetG l G yX6_digest cX6_digest 5 (some .long) 6 143 [.ref (G.1 50)] M (some (.long r0)) M0 := by
  refine MetG.of (by decide) (Nat.le_of_ble_eq_true rfl) ?_
  intro p e s m args below meth c hC hr hlk hnm ls hS hl
  exact b_X6_digest hC hr hlk hn _ _ _ _ hF hS hl
end
