section
variable {p : Program} {l : Launch} {e : Env} {s : State} {m : MethodId} {args : Array Value} {below : List Frame} {meth : Method} {c : Code} {G : GT}
def F_X6_isTown_14 (M : Mem) : Option (Int32 × Mem) := some (0, M)
def F_X6_isTown (x0 : Int32) (M : Mem) : Option (Int32 × Mem) := if x0 < 0 then F_X6_isTown_14 M else if 6 ≤ x0 then F_X6_isTown_14 M else some (1, M)
set_option maxHeartbeats 4000000 in
set_option maxRecDepth 100000 in
theorem b_X6_isTown_14 {M0 : Mem} {r0 : Int32} (hC : SX p m c s args cX6_isTown 1 RX6 G (AG G)) (hr : meth.sig.returnType = (some .boolean)) (hlk : meth.locks = false) (hn : ∀ i ∈ LsF, i ∈ gL G) : ∀ (M : Mem) (H : Heap) (locs : List Loc) (ls : Array Slot), F_X6_isTown_14 M = some (r0, M0) → ST G (AG G) s M H locs → lv_has ls 1 [] → W p l e (RM 0 0) s m args below meth c H locs 0 0 (MQ below (QV G (some (.int r0)) M0) args s 0 0 (AG G)) (F0 m 14 ls []) := by
  obtain ⟨⟨hx, hb, hml, hown, hts⟩, hK, hG, hA⟩ := id hC
  intro M H locs ls hF hS hl
  unfold F_X6_isTown_14 at hF
  refine lv_iconst (v := 0) hx hb dX6_isTown_14 (by decide) ?_
  exact retZ hC hS hr hlk rfl hF dX6_isTown_15
set_option maxHeartbeats 4000000 in
set_option maxRecDepth 100000 in
theorem b_X6_isTown {M0 : Mem} {r0 : Int32} (hC : SX p m c s args cX6_isTown 1 RX6 G (AG G)) (hr : meth.sig.returnType = (some .boolean)) (hlk : meth.locks = false) (hn : ∀ i ∈ LsF, i ∈ gL G) : ∀ (x0 : Int32) (M : Mem) (H : Heap) (locs : List Loc) (ls : Array Slot), F_X6_isTown x0 M = some (r0, M0) → ST G (AG G) s M H locs → lv_has ls 1 [(0, .int x0)] → W p l e (RM 0 0) s m args below meth c H locs 0 0 (MQ below (QV G (some (.int r0)) M0) args s 0 0 (AG G)) (F0 m 0 ls []) := by
  obtain ⟨⟨hx, hb, hml, hown, hts⟩, hK, hG, hA⟩ := id hC
  intro x0 M H locs ls hF hS hl
  unfold F_X6_isTown at hF
  refine lv_iload_n hx hb dX6_isTown_0 rfl (lv_at hl 0 rfl) ?_
  refine lv_if_lt (tgt := 14) hx hb dX6_isTown_1 (by decide) (fun hc => ?_) (fun hc => ?_)
  · rw [if_pos hc] at hF
    exact b_X6_isTown_14 hC hr hlk hn _ _ _ _ hF hS (lv_sub hl [] rfl)
  · rw [if_neg hc] at hF
    refine lv_iload_n hx hb dX6_isTown_4 rfl (lv_at hl 0 rfl) ?_
    refine lv_bipush (v := 6) hx hb dX6_isTown_5 (by decide) ?_
    refine lv_icmp_ge (tgt := 14) hx hb dX6_isTown_7 (by decide) (fun hc => ?_) (fun hc => ?_)
    · rw [if_pos hc] at hF
      exact b_X6_isTown_14 hC hr hlk hn _ _ _ _ hF hS (lv_sub hl [] rfl)
    · rw [if_neg hc] at hF
      refine lv_iconst (v := 1) hx hb dX6_isTown_10 (by decide) ?_
      refine lv_goto (tgt := 15) hx hb dX6_isTown_11 (by decide) ?_
      exact retZ hC hS hr hlk rfl hF dX6_isTown_15
set_option maxRecDepth 100000 in
theorem c_X6_isTown (l : Launch) (G : GT) (hn : ∀ i ∈ LsF, i ∈ gL G) (x0 : Int32) (M : Mem) (r0 : Int32) (M0 : Mem) (hF : F_X6_isTown x0 M = some (r0, M0)) : MetG l G yX6_isTown cX6_isTown 1 (some .boolean) 0 0 [.int x0] M (some (.int r0)) M0 := by
  refine MetG.of (by decide) (Nat.le_of_ble_eq_true rfl) ?_
  intro p e s m args below meth c hC hr hlk hnm ls hS hl
  exact b_X6_isTown hC hr hlk hn _ _ _ _ _ hF hS hl
def F_X6_road (x1 : Int32) (x2 : Int32) (x3 : Int32) (M : Mem) : Option (Int32 × Mem) := bd (F_X6_isTown x1 M) (fun r1 M1 => if r1 = 0 then some ((-2), M1) else bd (F_X6_isTown x2 M1) (fun r8 M8 => if r8 = 0 then some ((-2), M8) else if x1 = x2 then some ((-2), M8) else if x3 < 0 then some ((-2), M8) else if x3 ≤ 99 then bd (F_X3_build x1 x2 x3 M8) (fun r39 M39 => bdv (F_X5_weighAll M39) (fun M52 => some (r39, M52))) else some ((-2), M8)))
set_option maxHeartbeats 4000000 in
set_option maxRecDepth 100000 in
theorem b_X6_road {M0 : Mem} {r0 : Int32} (hC : SX p m c s args cX6_road 5 RX6 G (AG G)) (hr : meth.sig.returnType = (some .int)) (hlk : meth.locks = false) (hn : ∀ i ∈ LsF, i ∈ gL G) : ∀ (x1 : Int32) (x2 : Int32) (x3 : Int32) (M : Mem) (H : Heap) (locs : List Loc) (ls : Array Slot), F_X6_road x1 x2 x3 M = some (r0, M0) → ST G (AG G) s M H locs → lv_has ls 5 [(0, .ref (G.1 50)), (1, .int x1), (2, .int x2), (3, .int x3)] → W p l e (RM 3 75) s m args below meth c H locs 0 0 (MQ below (QV G (some (.int r0)) M0) args s 0 0 (AG G)) (F0 m 0 ls []) := by
  obtain ⟨⟨hx, hb, hml, hown, hts⟩, hK, hG, hA⟩ := id hC
  intro x1 x2 x3 M H locs ls hF hS hl
  unfold F_X6_road at hF
  refine lv_iload_n hx hb dX6_road_0 rfl (lv_at hl 1 rfl) ?_
  obtain ⟨r1, M1, h1, hF⟩ := bd_some hF
  refine cS_ (As := [.int x1]) (v := some (.int r1)) (rest := []) (st1 := [.int r1]) hC hS (c_X6_isTown l G hn x1 M _ _ h1) kS_X6_isTown lm_X6_60 ⟨Nat.le_of_ble_eq_true rfl, Nat.le_of_ble_eq_true rfl⟩ rfl hl.1 (Nat.le_of_ble_eq_true rfl) dX6_road_1 ⟨Nat.le_refl _, Nat.le_refl _⟩ rfl (fun H locs hS => ?_)
  refine lv_if_eq (tgt := 29) hx hb dX6_road_4 (by decide) (fun hc => ?_) (fun hc => ?_)
  · rw [if_pos hc] at hF
    refine lv_bipush (v := (-2)) hx hb dX6_road_29 (by decide) ?_
    exact retI hC hS hr hlk hF dX6_road_31
  · rw [if_neg hc] at hF
    refine lv_iload_n hx hb dX6_road_7 rfl (lv_at hl 2 rfl) ?_
    obtain ⟨r8, M8, h8, hF⟩ := bd_some hF
    refine cS_ (As := [.int x2]) (v := some (.int r8)) (rest := []) (st1 := [.int r8]) hC hS (c_X6_isTown l G hn x2 M1 _ _ h8) kS_X6_isTown lm_X6_60 ⟨Nat.le_of_ble_eq_true rfl, Nat.le_of_ble_eq_true rfl⟩ rfl hl.1 (Nat.le_of_ble_eq_true rfl) dX6_road_8 ⟨Nat.le_refl _, Nat.le_refl _⟩ rfl (fun H locs hS => ?_)
    refine lv_if_eq (tgt := 29) hx hb dX6_road_11 (by decide) (fun hc => ?_) (fun hc => ?_)
    · rw [if_pos hc] at hF
      refine lv_bipush (v := (-2)) hx hb dX6_road_29 (by decide) ?_
      exact retI hC hS hr hlk hF dX6_road_31
    · rw [if_neg hc] at hF
      refine lv_iload_n hx hb dX6_road_14 rfl (lv_at hl 1 rfl) ?_
      refine lv_iload_n hx hb dX6_road_15 rfl (lv_at hl 2 rfl) ?_
      refine lv_icmp_eq (tgt := 29) hx hb dX6_road_16 (by decide) (fun hc => ?_) (fun hc => ?_)
      · rw [if_pos hc] at hF
        refine lv_bipush (v := (-2)) hx hb dX6_road_29 (by decide) ?_
        exact retI hC hS hr hlk hF dX6_road_31
      · rw [if_neg hc] at hF
        refine lv_iload_n hx hb dX6_road_19 rfl (lv_at hl 3 rfl) ?_
        refine lv_if_lt (tgt := 29) hx hb dX6_road_20 (by decide) (fun hc => ?_) (fun hc => ?_)
        · rw [if_pos hc] at hF
          refine lv_bipush (v := (-2)) hx hb dX6_road_29 (by decide) ?_
          exact retI hC hS hr hlk hF dX6_road_31
        · rw [if_neg hc] at hF
          refine lv_iload_n hx hb dX6_road_23 rfl (lv_at hl 3 rfl) ?_
          refine lv_bipush (v := 99) hx hb dX6_road_24 (by decide) ?_
          refine lv_icmp_le (tgt := 32) hx hb dX6_road_26 (by decide) (fun hc => ?_) (fun hc => ?_)
          · rw [if_pos hc] at hF
            refine lv_aload_n hx hb dX6_road_32 rfl (lv_at hl 0 rfl) ?_
            refine gx (ci := 6) (k := 0) (v := .ref (G.1 51)) (C := RX6) (T := TX6) (N := 8) hC hS (hn _ (by decide)) rfl rfl in_X6 (by decide) rfl rfl lf_X6_10 dX6_road_33 ?_
            refine lv_iload_n hx hb dX6_road_36 rfl (lv_at hl 1 rfl) ?_
            refine lv_iload_n hx hb dX6_road_37 rfl (lv_at hl 2 rfl) ?_
            refine lv_iload_n hx hb dX6_road_38 rfl (lv_at hl 3 rfl) ?_
            obtain ⟨r39, M39, h39, hF⟩ := bd_some hF
            refine cV_ (ci := 3) (i := 51) (C := RX3) (T := TX3) (N := 2) (As := [.int x1, .int x2, .int x3]) (v := some (.int r39)) (rest := []) (st1 := [.int r39]) hC hS (hn _ (by decide)) rfl rfl (c_X3_build l G (fun i h => hn i (subR i h)) x1 x2 x3 M8 _ _ h39) kV_X3_build lm_X6_64 ⟨Nat.le_of_ble_eq_true rfl, Nat.le_of_ble_eq_true rfl⟩ rfl hl.1 (Nat.le_of_ble_eq_true rfl) dX6_road_39 ⟨Nat.le_refl _, Nat.le_refl _⟩ rfl (fun H locs hS => ?_)
            refine lv_istore (lv' := [(4, .int r39), (0, .ref (G.1 50)), (1, .int x1), (2, .int x2), (3, .int x3)]) hx hb dX6_road_42 hl (by decide) rfl (fun ls hl => ?_)
            refine lv_aload_n hx hb dX6_road_44 rfl (lv_at hl 1 rfl) ?_
            refine gx (ci := 6) (k := 1) (v := .ref (G.1 52)) (C := RX6) (T := TX6) (N := 8) hC hS (hn _ (by decide)) rfl rfl in_X6 (by decide) rfl rfl lf_X6_19 dX6_road_45 ?_
            refine lv_aload_n hx hb dX6_road_48 rfl (lv_at hl 1 rfl) ?_
            refine gx (ci := 6) (k := 0) (v := .ref (G.1 51)) (C := RX6) (T := TX6) (N := 8) hC hS (hn _ (by decide)) rfl rfl in_X6 (by decide) rfl rfl lf_X6_10 dX6_road_49 ?_
            obtain ⟨M52, h52, hF⟩ := bdv_some hF
            refine cV_ (ci := 5) (i := 52) (C := RX5) (T := TX5) (N := 13) (As := [.ref (G.1 51)]) (v := none) (rest := []) (st1 := []) hC hS (hn _ (by decide)) rfl rfl (c_X5_weighAll l G hn M39 _ h52) kV_X5_weighAll lm_X6_68 ⟨Nat.le_of_ble_eq_true rfl, Nat.le_of_ble_eq_true rfl⟩ rfl hl.1 (Nat.le_of_ble_eq_true rfl) dX6_road_52 ⟨Nat.le_refl _, Nat.le_refl _⟩ rfl (fun H locs hS => ?_)
            refine lv_iload hx hb dX6_road_55 (lv_at hl 0 rfl) ?_
            exact retI hC hS hr hlk hF dX6_road_57
          · rw [if_neg hc] at hF
            refine lv_bipush (v := (-2)) hx hb dX6_road_29 (by decide) ?_
            exact retI hC hS hr hlk hF dX6_road_31
set_option maxRecDepth 100000 in
theorem c_X6_road (l : Launch) (G : GT) (hn : ∀ i ∈ LsF, i ∈ gL G) (x1 : Int32) (x2 : Int32) (x3 : Int32) (M : Mem) (r0 : Int32) (M0 : Mem) (hF : F_X6_road x1 x2 x3 M = some (r0, M0)) : MetG l G yX6_road cX6_road 5 (some .int) 3 75 [.ref (G.1 50), .int x1, .int x2, .int x3] M (some (.int r0)) M0 := by
  refine MetG.of (by decide) (Nat.le_of_ble_eq_true rfl) ?_
  intro p e s m args below meth c hC hr hlk hnm ls hS hl
  exact b_X6_road hC hr hlk hn _ _ _ _ _ _ _ hF hS hl
def F_X6_away_26 (M : Mem) : Option (Int32 × Mem) := some ((-2), M)
def F_X6_away (x1 : Int32) (x2 : Int32) (M : Mem) : Option (Int32 × Mem) := bd (F_X6_isTown x1 M) (fun r1 M1 => if r1 = 0 then F_X6_away_26 M1 else bd (F_X6_isTown x2 M1) (fun r8 M8 => if r8 = 0 then F_X6_away_26 M8 else bd (F_X3_between x1 x2 M8) (fun r20 M20 => some (r20, M20))))
set_option maxHeartbeats 4000000 in
set_option maxRecDepth 100000 in
theorem b_X6_away_26 {M0 : Mem} {r0 : Int32} (hC : SX p m c s args cX6_away 3 RX6 G (AG G)) (hr : meth.sig.returnType = (some .int)) (hlk : meth.locks = false) (hn : ∀ i ∈ LsF, i ∈ gL G) : ∀ (M : Mem) (H : Heap) (locs : List Loc) (ls : Array Slot), F_X6_away_26 M = some (r0, M0) → ST G (AG G) s M H locs → lv_has ls 3 [] → W p l e (RM 1 22) s m args below meth c H locs 0 0 (MQ below (QV G (some (.int r0)) M0) args s 0 0 (AG G)) (F0 m 26 ls []) := by
  obtain ⟨⟨hx, hb, hml, hown, hts⟩, hK, hG, hA⟩ := id hC
  intro M H locs ls hF hS hl
  unfold F_X6_away_26 at hF
  refine lv_bipush (v := (-2)) hx hb dX6_away_26 (by decide) ?_
  exact retI hC hS hr hlk hF dX6_away_28
set_option maxHeartbeats 4000000 in
set_option maxRecDepth 100000 in
theorem b_X6_away {M0 : Mem} {r0 : Int32} (hC : SX p m c s args cX6_away 3 RX6 G (AG G)) (hr : meth.sig.returnType = (some .int)) (hlk : meth.locks = false) (hn : ∀ i ∈ LsF, i ∈ gL G) : ∀ (x1 : Int32) (x2 : Int32) (M : Mem) (H : Heap) (locs : List Loc) (ls : Array Slot), F_X6_away x1 x2 M = some (r0, M0) → ST G (AG G) s M H locs → lv_has ls 3 [(0, .ref (G.1 50)), (1, .int x1), (2, .int x2)] → W p l e (RM 1 22) s m args below meth c H locs 0 0 (MQ below (QV G (some (.int r0)) M0) args s 0 0 (AG G)) (F0 m 0 ls []) := by
  obtain ⟨⟨hx, hb, hml, hown, hts⟩, hK, hG, hA⟩ := id hC
  intro x1 x2 M H locs ls hF hS hl
  unfold F_X6_away at hF
  refine lv_iload_n hx hb dX6_away_0 rfl (lv_at hl 1 rfl) ?_
  obtain ⟨r1, M1, h1, hF⟩ := bd_some hF
  refine cS_ (As := [.int x1]) (v := some (.int r1)) (rest := []) (st1 := [.int r1]) hC hS (c_X6_isTown l G hn x1 M _ _ h1) kS_X6_isTown lm_X6_60 ⟨Nat.le_of_ble_eq_true rfl, Nat.le_of_ble_eq_true rfl⟩ rfl hl.1 (Nat.le_of_ble_eq_true rfl) dX6_away_1 ⟨Nat.le_refl _, Nat.le_refl _⟩ rfl (fun H locs hS => ?_)
  refine lv_if_eq (tgt := 26) hx hb dX6_away_4 (by decide) (fun hc => ?_) (fun hc => ?_)
  · rw [if_pos hc] at hF
    exact b_X6_away_26 hC hr hlk hn _ _ _ _ hF hS (lv_sub hl [] rfl)
  · rw [if_neg hc] at hF
    refine lv_iload_n hx hb dX6_away_7 rfl (lv_at hl 2 rfl) ?_
    obtain ⟨r8, M8, h8, hF⟩ := bd_some hF
    refine cS_ (As := [.int x2]) (v := some (.int r8)) (rest := []) (st1 := [.int r8]) hC hS (c_X6_isTown l G hn x2 M1 _ _ h8) kS_X6_isTown lm_X6_60 ⟨Nat.le_of_ble_eq_true rfl, Nat.le_of_ble_eq_true rfl⟩ rfl hl.1 (Nat.le_of_ble_eq_true rfl) dX6_away_8 ⟨Nat.le_refl _, Nat.le_refl _⟩ rfl (fun H locs hS => ?_)
    refine lv_if_eq (tgt := 26) hx hb dX6_away_11 (by decide) (fun hc => ?_) (fun hc => ?_)
    · rw [if_pos hc] at hF
      exact b_X6_away_26 hC hr hlk hn _ _ _ _ hF hS (lv_sub hl [] rfl)
    · rw [if_neg hc] at hF
      refine lv_aload_n hx hb dX6_away_14 rfl (lv_at hl 0 rfl) ?_
      refine gx (ci := 6) (k := 0) (v := .ref (G.1 51)) (C := RX6) (T := TX6) (N := 8) hC hS (hn _ (by decide)) rfl rfl in_X6 (by decide) rfl rfl lf_X6_10 dX6_away_15 ?_
      refine lv_iload_n hx hb dX6_away_18 rfl (lv_at hl 1 rfl) ?_
      refine lv_iload_n hx hb dX6_away_19 rfl (lv_at hl 2 rfl) ?_
      obtain ⟨r20, M20, h20, hF⟩ := bd_some hF
      refine cV_ (ci := 3) (i := 51) (C := RX3) (T := TX3) (N := 2) (As := [.int x1, .int x2]) (v := some (.int r20)) (rest := []) (st1 := [.int r20]) hC hS (hn _ (by decide)) rfl rfl (c_X3_between l G (fun i h => hn i (subR i h)) x1 x2 M8 _ _ h20) kV_X3_between lm_X6_72 ⟨Nat.le_of_ble_eq_true rfl, Nat.le_of_ble_eq_true rfl⟩ rfl hl.1 (Nat.le_of_ble_eq_true rfl) dX6_away_20 ⟨Nat.le_refl _, Nat.le_refl _⟩ rfl (fun H locs hS => ?_)
      refine lv_goto (tgt := 28) hx hb dX6_away_23 (by decide) ?_
      exact retI hC hS hr hlk hF dX6_away_28
set_option maxRecDepth 100000 in
theorem c_X6_away (l : Launch) (G : GT) (hn : ∀ i ∈ LsF, i ∈ gL G) (x1 : Int32) (x2 : Int32) (M : Mem) (r0 : Int32) (M0 : Mem) (hF : F_X6_away x1 x2 M = some (r0, M0)) : MetG l G yX6_away cX6_away 3 (some .int) 1 22 [.ref (G.1 50), .int x1, .int x2] M (some (.int r0)) M0 := by
  refine MetG.of (by decide) (Nat.le_of_ble_eq_true rfl) ?_
  intro p e s m args below meth c hC hr hlk hnm ls hS hl
  exact b_X6_away hC hr hlk hn _ _ _ _ _ _ hF hS hl
def F_X6_mayBeTold_65 (M : Mem) : Option (Int32 × Mem) := some (0, M)
def F_X6_mayBeTold (x1 : Int32) (x2 : Int32) (x3 : Int32) (x4 : Int32) (x5 : Int32) (M : Mem) : Option (Int32 × Mem) := if x1 < 0 then some (0, M) else if 2 < x1 then some (0, M) else if x2 < 1 then some (0, M) else if x2 ≤ 1023 then bd (F_X6_isTown x3 M) (fun r24 M24 => if r24 = 0 then some (0, M24) else if x4 < 0 then some (0, M24) else if x4 ≤ 999 then if x1 = 0 then if x5 < 0 then F_X6_mayBeTold_65 M24 else if 99 < x5 then F_X6_mayBeTold_65 M24 else some (1, M24) else bd (F_X5_has x5 M24) (fun r75 M75 => ckb (zb r75) (some (r75, M75))) else some (0, M24)) else some (0, M)
set_option maxHeartbeats 4000000 in
set_option maxRecDepth 100000 in
theorem b_X6_mayBeTold_65 {M0 : Mem} {r0 : Int32} (hC : SX p m c s args cX6_mayBeTold 6 RX6 G (AG G)) (hr : meth.sig.returnType = (some .boolean)) (hlk : meth.locks = false) (hn : ∀ i ∈ LsF, i ∈ gL G) : ∀ (M : Mem) (H : Heap) (locs : List Loc) (ls : Array Slot), F_X6_mayBeTold_65 M = some (r0, M0) → ST G (AG G) s M H locs → lv_has ls 6 [] → W p l e (RM 1 21) s m args below meth c H locs 0 0 (MQ below (QV G (some (.int r0)) M0) args s 0 0 (AG G)) (F0 m 65 ls []) := by
  obtain ⟨⟨hx, hb, hml, hown, hts⟩, hK, hG, hA⟩ := id hC
  intro M H locs ls hF hS hl
  unfold F_X6_mayBeTold_65 at hF
  refine lv_iconst (v := 0) hx hb dX6_mayBeTold_65 (by decide) ?_
  refine lv_goto (tgt := 78) hx hb dX6_mayBeTold_66 (by decide) ?_
  exact retZ hC hS hr hlk rfl hF dX6_mayBeTold_78
set_option maxHeartbeats 4000000 in
set_option maxRecDepth 100000 in
theorem b_X6_mayBeTold {M0 : Mem} {r0 : Int32} (hC : SX p m c s args cX6_mayBeTold 6 RX6 G (AG G)) (hr : meth.sig.returnType = (some .boolean)) (hlk : meth.locks = false) (hn : ∀ i ∈ LsF, i ∈ gL G) : ∀ (x1 : Int32) (x2 : Int32) (x3 : Int32) (x4 : Int32) (x5 : Int32) (M : Mem) (H : Heap) (locs : List Loc) (ls : Array Slot), F_X6_mayBeTold x1 x2 x3 x4 x5 M = some (r0, M0) → ST G (AG G) s M H locs → lv_has ls 6 [(0, .ref (G.1 50)), (1, .int x1), (2, .int x2), (3, .int x3), (4, .int x4), (5, .int x5)] → W p l e (RM 1 21) s m args below meth c H locs 0 0 (MQ below (QV G (some (.int r0)) M0) args s 0 0 (AG G)) (F0 m 0 ls []) := by
  obtain ⟨⟨hx, hb, hml, hown, hts⟩, hK, hG, hA⟩ := id hC
  intro x1 x2 x3 x4 x5 M H locs ls hF hS hl
  unfold F_X6_mayBeTold at hF
  refine lv_iload_n hx hb dX6_mayBeTold_0 rfl (lv_at hl 1 rfl) ?_
  refine lv_if_lt (tgt := 21) hx hb dX6_mayBeTold_1 (by decide) (fun hc => ?_) (fun hc => ?_)
  · rw [if_pos hc] at hF
    refine lv_iconst (v := 0) hx hb dX6_mayBeTold_21 (by decide) ?_
    exact retZ hC hS hr hlk rfl hF dX6_mayBeTold_22
  · rw [if_neg hc] at hF
    refine lv_iload_n hx hb dX6_mayBeTold_4 rfl (lv_at hl 1 rfl) ?_
    refine lv_iconst (v := 2) hx hb dX6_mayBeTold_5 (by decide) ?_
    refine lv_icmp_gt (tgt := 21) hx hb dX6_mayBeTold_6 (by decide) (fun hc => ?_) (fun hc => ?_)
    · rw [if_pos hc] at hF
      refine lv_iconst (v := 0) hx hb dX6_mayBeTold_21 (by decide) ?_
      exact retZ hC hS hr hlk rfl hF dX6_mayBeTold_22
    · rw [if_neg hc] at hF
      refine lv_iload_n hx hb dX6_mayBeTold_9 rfl (lv_at hl 2 rfl) ?_
      refine lv_iconst (v := 1) hx hb dX6_mayBeTold_10 (by decide) ?_
      refine lv_icmp_lt (tgt := 21) hx hb dX6_mayBeTold_11 (by decide) (fun hc => ?_) (fun hc => ?_)
      · rw [if_pos hc] at hF
        refine lv_iconst (v := 0) hx hb dX6_mayBeTold_21 (by decide) ?_
        exact retZ hC hS hr hlk rfl hF dX6_mayBeTold_22
      · rw [if_neg hc] at hF
        refine lv_iload_n hx hb dX6_mayBeTold_14 rfl (lv_at hl 2 rfl) ?_
        refine lv_sipush (v := 1023) hx hb dX6_mayBeTold_15 (by decide) ?_
        refine lv_icmp_le (tgt := 23) hx hb dX6_mayBeTold_18 (by decide) (fun hc => ?_) (fun hc => ?_)
        · rw [if_pos hc] at hF
          refine lv_iload_n hx hb dX6_mayBeTold_23 rfl (lv_at hl 3 rfl) ?_
          obtain ⟨r24, M24, h24, hF⟩ := bd_some hF
          refine cS_ (As := [.int x3]) (v := some (.int r24)) (rest := []) (st1 := [.int r24]) hC hS (c_X6_isTown l G hn x3 M _ _ h24) kS_X6_isTown lm_X6_60 ⟨Nat.le_of_ble_eq_true rfl, Nat.le_of_ble_eq_true rfl⟩ rfl hl.1 (Nat.le_of_ble_eq_true rfl) dX6_mayBeTold_24 ⟨Nat.le_refl _, Nat.le_refl _⟩ rfl (fun H locs hS => ?_)
          refine lv_if_eq (tgt := 43) hx hb dX6_mayBeTold_27 (by decide) (fun hc => ?_) (fun hc => ?_)
          · rw [if_pos hc] at hF
            refine lv_iconst (v := 0) hx hb dX6_mayBeTold_43 (by decide) ?_
            exact retZ hC hS hr hlk rfl hF dX6_mayBeTold_44
          · rw [if_neg hc] at hF
            refine lv_iload hx hb dX6_mayBeTold_30 (lv_at hl 4 rfl) ?_
            refine lv_if_lt (tgt := 43) hx hb dX6_mayBeTold_32 (by decide) (fun hc => ?_) (fun hc => ?_)
            · rw [if_pos hc] at hF
              refine lv_iconst (v := 0) hx hb dX6_mayBeTold_43 (by decide) ?_
              exact retZ hC hS hr hlk rfl hF dX6_mayBeTold_44
            · rw [if_neg hc] at hF
              refine lv_iload hx hb dX6_mayBeTold_35 (lv_at hl 4 rfl) ?_
              refine lv_sipush (v := 999) hx hb dX6_mayBeTold_37 (by decide) ?_
              refine lv_icmp_le (tgt := 45) hx hb dX6_mayBeTold_40 (by decide) (fun hc => ?_) (fun hc => ?_)
              · rw [if_pos hc] at hF
                refine lv_iload_n hx hb dX6_mayBeTold_45 rfl (lv_at hl 1 rfl) ?_
                refine lv_if_ne (tgt := 69) hx hb dX6_mayBeTold_46 (by decide) (fun hc => ?_) (fun hc => ?_)
                · rw [if_neg hc] at hF
                  refine lv_aload_n hx hb dX6_mayBeTold_69 rfl (lv_at hl 0 rfl) ?_
                  refine gx (ci := 6) (k := 1) (v := .ref (G.1 52)) (C := RX6) (T := TX6) (N := 8) hC hS (hn _ (by decide)) rfl rfl in_X6 (by decide) rfl rfl lf_X6_19 dX6_mayBeTold_70 ?_
                  refine lv_iload hx hb dX6_mayBeTold_73 (lv_at hl 5 rfl) ?_
                  obtain ⟨r75, M75, h75, hF⟩ := bd_some hF
                  refine cV_ (ci := 5) (i := 52) (C := RX5) (T := TX5) (N := 13) (As := [.int x5]) (v := some (.int r75)) (rest := []) (st1 := [.int r75]) hC hS (hn _ (by decide)) rfl rfl (c_X5_has l G hn x5 M24 _ _ h75) kV_X5_has lm_X6_108 ⟨Nat.le_of_ble_eq_true rfl, Nat.le_of_ble_eq_true rfl⟩ rfl hl.1 (Nat.le_of_ble_eq_true rfl) dX6_mayBeTold_75 ⟨Nat.le_refl _, Nat.le_refl _⟩ rfl (fun H locs hS => ?_)
                  obtain ⟨hz, hF⟩ := ckb_some hF
                  exact retZ hC hS hr hlk (zb_n hz) hF dX6_mayBeTold_78
                · rw [if_pos hc] at hF
                  refine lv_iload hx hb dX6_mayBeTold_49 (lv_at hl 5 rfl) ?_
                  refine lv_if_lt (tgt := 65) hx hb dX6_mayBeTold_51 (by decide) (fun hc => ?_) (fun hc => ?_)
                  · rw [if_pos hc] at hF
                    exact b_X6_mayBeTold_65 hC hr hlk hn _ _ _ _ hF hS (lv_sub hl [] rfl)
                  · rw [if_neg hc] at hF
                    refine lv_iload hx hb dX6_mayBeTold_54 (lv_at hl 5 rfl) ?_
                    refine lv_bipush (v := 99) hx hb dX6_mayBeTold_56 (by decide) ?_
                    refine lv_icmp_gt (tgt := 65) hx hb dX6_mayBeTold_58 (by decide) (fun hc => ?_) (fun hc => ?_)
                    · rw [if_pos hc] at hF
                      exact b_X6_mayBeTold_65 hC hr hlk hn _ _ _ _ hF hS (lv_sub hl [] rfl)
                    · rw [if_neg hc] at hF
                      refine lv_iconst (v := 1) hx hb dX6_mayBeTold_61 (by decide) ?_
                      refine lv_goto (tgt := 78) hx hb dX6_mayBeTold_62 (by decide) ?_
                      exact retZ hC hS hr hlk rfl hF dX6_mayBeTold_78
              · rw [if_neg hc] at hF
                refine lv_iconst (v := 0) hx hb dX6_mayBeTold_43 (by decide) ?_
                exact retZ hC hS hr hlk rfl hF dX6_mayBeTold_44
        · rw [if_neg hc] at hF
          refine lv_iconst (v := 0) hx hb dX6_mayBeTold_21 (by decide) ?_
          exact retZ hC hS hr hlk rfl hF dX6_mayBeTold_22
set_option maxRecDepth 100000 in
theorem c_X6_mayBeTold (l : Launch) (G : GT) (hn : ∀ i ∈ LsF, i ∈ gL G) (x1 : Int32) (x2 : Int32) (x3 : Int32) (x4 : Int32) (x5 : Int32) (M : Mem) (r0 : Int32) (M0 : Mem) (hF : F_X6_mayBeTold x1 x2 x3 x4 x5 M = some (r0, M0)) : MetG l G yX6_mayBeTold cX6_mayBeTold 6 (some .boolean) 1 21 [.ref (G.1 50), .int x1, .int x2, .int x3, .int x4, .int x5] M (some (.int r0)) M0 := by
  refine MetG.of (by decide) (Nat.le_of_ble_eq_true rfl) ?_
  intro p e s m args below meth c hC hr hlk hnm ls hS hl
  exact b_X6_mayBeTold hC hr hlk hn _ _ _ _ _ _ _ _ _ hF hS hl
def F_X6_word (x1 : Int32) (x2 : Int32) (x3 : Int32) (x4 : Int32) (x5 : Int32) (M : Mem) : Option (Int32 × Mem) := bd (F_X6_mayBeTold x1 x2 x3 x4 x5 M) (fun r8 M8 => if r8 = 0 then some ((-2), M8) else if (M8.1 0) < 10 then bd (F_X5_tell x1 x2 x3 x4 x5 M8) (fun r47 M47 => some (r47, M47)) else some ((-4), M8))
set_option maxHeartbeats 4000000 in
set_option maxRecDepth 100000 in
theorem b_X6_word {M0 : Mem} {r0 : Int32} (hC : SX p m c s args cX6_word 6 RX6 G (AG G)) (hr : meth.sig.returnType = (some .int)) (hlk : meth.locks = false) (hn : ∀ i ∈ LsF, i ∈ gL G) : ∀ (x1 : Int32) (x2 : Int32) (x3 : Int32) (x4 : Int32) (x5 : Int32) (M : Mem) (H : Heap) (locs : List Loc) (ls : Array Slot), F_X6_word x1 x2 x3 x4 x5 M = some (r0, M0) → ST G (AG G) s M H locs → lv_has ls 6 [(0, .ref (G.1 50)), (1, .int x1), (2, .int x2), (3, .int x3), (4, .int x4), (5, .int x5)] → W p l e (RM 4 102) s m args below meth c H locs 0 0 (MQ below (QV G (some (.int r0)) M0) args s 0 0 (AG G)) (F0 m 0 ls []) := by
  obtain ⟨⟨hx, hb, hml, hown, hts⟩, hK, hG, hA⟩ := id hC
  intro x1 x2 x3 x4 x5 M H locs ls hF hS hl
  unfold F_X6_word at hF
  refine lv_aload_n hx hb dX6_word_0 rfl (lv_at hl 0 rfl) ?_
  refine lv_iload_n hx hb dX6_word_1 rfl (lv_at hl 1 rfl) ?_
  refine lv_iload_n hx hb dX6_word_2 rfl (lv_at hl 2 rfl) ?_
  refine lv_iload_n hx hb dX6_word_3 rfl (lv_at hl 3 rfl) ?_
  refine lv_iload hx hb dX6_word_4 (lv_at hl 4 rfl) ?_
  refine lv_iload hx hb dX6_word_6 (lv_at hl 5 rfl) ?_
  obtain ⟨r8, M8, h8, hF⟩ := bd_some hF
  refine cV_ (ci := 6) (i := 50) (C := RX6) (T := TX6) (N := 8) (As := [.int x1, .int x2, .int x3, .int x4, .int x5]) (v := some (.int r8)) (rest := []) (st1 := [.int r8]) hC hS (hn _ (by decide)) rfl rfl (c_X6_mayBeTold l G hn x1 x2 x3 x4 x5 M _ _ h8) kV_X6_mayBeTold lm_X6_76 ⟨Nat.le_of_ble_eq_true rfl, Nat.le_of_ble_eq_true rfl⟩ rfl hl.1 (Nat.le_of_ble_eq_true rfl) dX6_word_8 ⟨Nat.le_refl _, Nat.le_refl _⟩ rfl (fun H locs hS => ?_)
  refine lv_if_ne (tgt := 17) hx hb dX6_word_11 (by decide) (fun hc => ?_) (fun hc => ?_)
  · rw [if_neg hc] at hF
    refine lv_aload_n hx hb dX6_word_17 rfl (lv_at hl 0 rfl) ?_
    refine gx (ci := 6) (k := 1) (v := .ref (G.1 52)) (C := RX6) (T := TX6) (N := 8) hC hS (hn _ (by decide)) rfl rfl in_X6 (by decide) rfl rfl lf_X6_19 dX6_word_18 ?_
    refine gxN (ci := 5) (k := 10) (v := .int (M8.1 0)) (C := RX5) (T := TX5) (N := 13) hC hS (hn _ (by decide)) rfl rfl in_X5 (by decide) rfl rfl ln_X6_80 dX6_word_21 ?_
    refine lv_bipush (v := 10) hx hb dX6_word_24 (by decide) ?_
    refine lv_icmp_lt (tgt := 32) hx hb dX6_word_26 (by decide) (fun hc => ?_) (fun hc => ?_)
    · rw [if_pos hc] at hF
      refine lv_aload_n hx hb dX6_word_32 rfl (lv_at hl 0 rfl) ?_
      refine gx (ci := 6) (k := 1) (v := .ref (G.1 52)) (C := RX6) (T := TX6) (N := 8) hC hS (hn _ (by decide)) rfl rfl in_X6 (by decide) rfl rfl lf_X6_19 dX6_word_33 ?_
      refine lv_iload_n hx hb dX6_word_36 rfl (lv_at hl 1 rfl) ?_
      refine lv_iload_n hx hb dX6_word_37 rfl (lv_at hl 2 rfl) ?_
      refine lv_iload_n hx hb dX6_word_38 rfl (lv_at hl 3 rfl) ?_
      refine lv_iload hx hb dX6_word_39 (lv_at hl 4 rfl) ?_
      refine lv_iload hx hb dX6_word_41 (lv_at hl 5 rfl) ?_
      refine lv_aload_n hx hb dX6_word_43 rfl (lv_at hl 0 rfl) ?_
      refine gx (ci := 6) (k := 0) (v := .ref (G.1 51)) (C := RX6) (T := TX6) (N := 8) hC hS (hn _ (by decide)) rfl rfl in_X6 (by decide) rfl rfl lf_X6_10 dX6_word_44 ?_
      obtain ⟨r47, M47, h47, hF⟩ := bd_some hF
      refine cV_ (ci := 5) (i := 52) (C := RX5) (T := TX5) (N := 13) (As := [.int x1, .int x2, .int x3, .int x4, .int x5, .ref (G.1 51)]) (v := some (.int r47)) (rest := []) (st1 := [.int r47]) hC hS (hn _ (by decide)) rfl rfl (c_X5_tell l G hn x1 x2 x3 x4 x5 M8 _ _ h47) kV_X5_tell lm_X6_83 ⟨Nat.le_of_ble_eq_true rfl, Nat.le_of_ble_eq_true rfl⟩ rfl hl.1 (Nat.le_of_ble_eq_true rfl) dX6_word_47 ⟨Nat.le_refl _, Nat.le_refl _⟩ rfl (fun H locs hS => ?_)
      exact retI hC hS hr hlk hF dX6_word_50
    · rw [if_neg hc] at hF
      refine lv_bipush (v := (-4)) hx hb dX6_word_29 (by decide) ?_
      exact retI hC hS hr hlk hF dX6_word_31
  · rw [if_pos hc] at hF
    refine lv_bipush (v := (-2)) hx hb dX6_word_14 (by decide) ?_
    exact retI hC hS hr hlk hF dX6_word_16
set_option maxRecDepth 100000 in
theorem c_X6_word (l : Launch) (G : GT) (hn : ∀ i ∈ LsF, i ∈ gL G) (x1 : Int32) (x2 : Int32) (x3 : Int32) (x4 : Int32) (x5 : Int32) (M : Mem) (r0 : Int32) (M0 : Mem) (hF : F_X6_word x1 x2 x3 x4 x5 M = some (r0, M0)) : MetG l G yX6_word cX6_word 6 (some .int) 4 102 [.ref (G.1 50), .int x1, .int x2, .int x3, .int x4, .int x5] M (some (.int r0)) M0 := by
  refine MetG.of (by decide) (Nat.le_of_ble_eq_true rfl) ?_
  intro p e s m args below meth c hC hr hlk hnm ls hS hl
  exact b_X6_word hC hr hlk hn _ _ _ _ _ _ _ _ _ hF hS hl
def F_X6_sheetOf_18 (M : Mem) : Option (Option Nat × Mem) := some (none, M)
def F_X6_sheetOf (x1 : Int32) (M : Mem) : Option (Option Nat × Mem) := if x1 < 0 then F_X6_sheetOf_18 M else if 4 ≤ x1 then F_X6_sheetOf_18 M else ckb (ix x1 4) (some (some x1.toNatClampNeg, M))
set_option maxHeartbeats 4000000 in
set_option maxRecDepth 100000 in
theorem b_X6_sheetOf_18 {M0 : Mem} {r0 : Option Nat} (hC : SX p m c s args cX6_sheetOf 2 RX6 G (AG G)) (hr : meth.sig.returnType = (some (.object "HeardWords$Sheet"))) (hlk : meth.locks = false) (hn : ∀ i ∈ LsF, i ∈ gL G) : ∀ (M : Mem) (H : Heap) (locs : List Loc) (ls : Array Slot), F_X6_sheetOf_18 M = some (r0, M0) → ST G (AG G) s M H locs → lv_has ls 2 [] → W p l e (RM 0 0) s m args below meth c H locs 0 0 (MQ below (QV G (some (rfv G 57 r0)) M0) args s 0 0 (AG G)) (F0 m 18 ls []) := by
  obtain ⟨⟨hx, hb, hml, hown, hts⟩, hK, hG, hA⟩ := id hC
  intro M H locs ls hF hS hl
  unfold F_X6_sheetOf_18 at hF
  refine lv_null hx hb dX6_sheetOf_18 ?_
  exact retA (b := 57) (x := none) hC hS hr hlk hF dX6_sheetOf_19
set_option maxHeartbeats 4000000 in
set_option maxRecDepth 100000 in
theorem b_X6_sheetOf {M0 : Mem} {r0 : Option Nat} (hC : SX p m c s args cX6_sheetOf 2 RX6 G (AG G)) (hr : meth.sig.returnType = (some (.object "HeardWords$Sheet"))) (hlk : meth.locks = false) (hn : ∀ i ∈ LsF, i ∈ gL G) : ∀ (x1 : Int32) (M : Mem) (H : Heap) (locs : List Loc) (ls : Array Slot), F_X6_sheetOf x1 M = some (r0, M0) → ST G (AG G) s M H locs → lv_has ls 2 [(0, .ref (G.1 50)), (1, .int x1)] → W p l e (RM 0 0) s m args below meth c H locs 0 0 (MQ below (QV G (some (rfv G 57 r0)) M0) args s 0 0 (AG G)) (F0 m 0 ls []) := by
  obtain ⟨⟨hx, hb, hml, hown, hts⟩, hK, hG, hA⟩ := id hC
  intro x1 M H locs ls hF hS hl
  unfold F_X6_sheetOf at hF
  refine lv_iload_n hx hb dX6_sheetOf_0 rfl (lv_at hl 1 rfl) ?_
  refine lv_if_lt (tgt := 18) hx hb dX6_sheetOf_1 (by decide) (fun hc => ?_) (fun hc => ?_)
  · rw [if_pos hc] at hF
    exact b_X6_sheetOf_18 hC hr hlk hn _ _ _ _ hF hS (lv_sub hl [] rfl)
  · rw [if_neg hc] at hF
    refine lv_iload_n hx hb dX6_sheetOf_4 rfl (lv_at hl 1 rfl) ?_
    refine lv_iconst (v := 4) hx hb dX6_sheetOf_5 (by decide) ?_
    refine lv_icmp_ge (tgt := 18) hx hb dX6_sheetOf_6 (by decide) (fun hc => ?_) (fun hc => ?_)
    · rw [if_pos hc] at hF
      exact b_X6_sheetOf_18 hC hr hlk hn _ _ _ _ hF hS (lv_sub hl [] rfl)
    · rw [if_neg hc] at hF
      refine lv_aload_n hx hb dX6_sheetOf_9 rfl (lv_at hl 0 rfl) ?_
      refine gx (ci := 6) (k := 4) (v := .ref (G.1 62)) (C := RX6) (T := TX6) (N := 8) hC hS (hn _ (by decide)) rfl rfl in_X6 (by decide) rfl rfl lf_X6_35 dX6_sheetOf_10 ?_
      refine lv_iload_n hx hb dX6_sheetOf_13 rfl (lv_at hl 1 rfl) ?_
      obtain ⟨hi, hF⟩ := ckb_some hF
      refine shl_ hC hS (hn _ (by decide)) hi dX6_sheetOf_14 ?_
      refine lv_goto (tgt := 19) hx hb dX6_sheetOf_15 (by decide) ?_
      exact retA (b := 57) (x := some x1.toNatClampNeg) hC hS hr hlk hF dX6_sheetOf_19
set_option maxRecDepth 100000 in
theorem c_X6_sheetOf (l : Launch) (G : GT) (hn : ∀ i ∈ LsF, i ∈ gL G) (x1 : Int32) (M : Mem) (r0 : Option Nat) (M0 : Mem) (hF : F_X6_sheetOf x1 M = some (r0, M0)) : MetG l G yX6_sheetOf cX6_sheetOf 2 (some (.object "HeardWords$Sheet")) 0 0 [.ref (G.1 50), .int x1] M (some (rfv G 57 r0)) M0 := by
  refine MetG.of (by decide) (Nat.le_of_ble_eq_true rfl) ?_
  intro p e s m args below meth c hC hr hlk hnm ls hS hl
  exact b_X6_sheetOf hC hr hlk hn _ _ _ _ _ hF hS hl
def F_X6_find (x1 : Int32) (M : Mem) : Option (Int32 × Mem) := some ((-10) - x1, sv M 7 x1)
set_option maxHeartbeats 4000000 in
set_option maxRecDepth 100000 in
theorem b_X6_find {M0 : Mem} {r0 : Int32} (hC : SX p m c s args cX6_find 2 RX6 G (AG G)) (hr : meth.sig.returnType = (some .int)) (hlk : meth.locks = false) (hn : ∀ i ∈ LsF, i ∈ gL G) : ∀ (x1 : Int32) (M : Mem) (H : Heap) (locs : List Loc) (ls : Array Slot), F_X6_find x1 M = some (r0, M0) → ST G (AG G) s M H locs → lv_has ls 2 [(0, .ref (G.1 50)), (1, .int x1)] → W p l e (RM 0 0) s m args below meth c H locs 0 0 (MQ below (QV G (some (.int r0)) M0) args s 0 0 (AG G)) (F0 m 0 ls []) := by
  obtain ⟨⟨hx, hb, hml, hown, hts⟩, hK, hG, hA⟩ := id hC
  intro x1 M H locs ls hF hS hl
  unfold F_X6_find at hF
  refine lv_aload_n hx hb dX6_find_0 rfl (lv_at hl 0 rfl) ?_
  refine lv_iload_n hx hb dX6_find_1 rfl (lv_at hl 1 rfl) ?_
  refine px (ci := 6) (k := 7) (n := 7) (ty := .int) (C := RX6) (T := TX6) (N := 8) hC hS (hn _ (by decide)) rfl rfl in_X6 tyX6_ok nmX6 (by decide) rfl rfl (by decide +kernel) rfl rfl (Nat.le_of_ble_eq_true rfl) rfl se_X6_7 lf_X6_55 dX6_find_2 (fun H locs hS => ?_)
  refine lv_bipush (v := (-10)) hx hb dX6_find_5 (by decide) ?_
  refine lv_iload_n hx hb dX6_find_7 rfl (lv_at hl 1 rfl) ?_
  refine lv_isub hx hb dX6_find_8 ?_
  exact retI hC hS hr hlk hF dX6_find_9
set_option maxRecDepth 100000 in
theorem c_X6_find (l : Launch) (G : GT) (hn : ∀ i ∈ LsF, i ∈ gL G) (x1 : Int32) (M : Mem) (r0 : Int32) (M0 : Mem) (hF : F_X6_find x1 M = some (r0, M0)) : MetG l G yX6_find cX6_find 2 (some .int) 0 0 [.ref (G.1 50), .int x1] M (some (.int r0)) M0 := by
  refine MetG.of (by decide) (Nat.le_of_ble_eq_true rfl) ?_
  intro p e s m args below meth c hC hr hlk hnm ls hS hl
  exact b_X6_find hC hr hlk hn _ _ _ _ _ hF hS hl
def F_X6_read_31 (j2 : Nat) : Nat → Int32 → Int32 → Mem → Option (Int32 × Mem)
  | 0, _, _, _ => none
  | n + 1, x3, x4, M => if (M.1 (22 + 3 * j2 + 2)) < (x4 + 5) then some (x3, M) else ckb (ix x4 (al (18 + j2))) (ckb (ix (x4 + 1) (al (18 + j2))) (ckb (ix (x4 + 2) (al (18 + j2))) (ckb (ix (x4 + 3) (al (18 + j2))) (ckb (ix (x4 + 4) (al (18 + j2))) (bd (F_X6_word (M.2 (18 + j2) x4.toNatClampNeg) (M.2 (18 + j2) (x4 + 1).toNatClampNeg) (M.2 (18 + j2) (x4 + 2).toNatClampNeg) (M.2 (18 + j2) (x4 + 3).toNatClampNeg) (M.2 (18 + j2) (x4 + 4).toNatClampNeg) M) (fun r82 M82 => if 0 ≤ r82 then F_X6_read_31 j2 n (x3 + 1) (x4 + 5) M82 else some (x3, M82)))))))
def F_X6_read (x1 : Int32) (M : Mem) : Option (Int32 × Mem) := bdo (F_X6_sheetOf x1 M) (fun M2 => some ((-2), M2)) (fun j2 M2 => ckb (decide (j2 < 4)) (if (M2.1 (22 + 3 * j2)) = 0 then F_X6_read_31 j2 fu 0 0 M2 else bd (F_X6_find 1 M2) (fun r22 M22 => some (r22, M22))))
set_option maxHeartbeats 4000000 in
set_option maxRecDepth 100000 in
theorem b_X6_read_31 {j2 : Nat} {M0 : Mem} {r0 : Int32} (hC : SX p m c s args cX6_read 6 RX6 G (AG G)) (hr : meth.sig.returnType = (some .int)) (hlk : meth.locks = false) (hn : ∀ i ∈ LsF, i ∈ gL G) (hj2 : j2 < 4) : ∀ (n : Nat) (x3 : Int32) (x4 : Int32) (M : Mem) (H : Heap) (locs : List Loc) (ls : Array Slot), F_X6_read_31 j2 n x3 x4 M = some (r0, M0) → ST G (AG G) s M H locs → lv_has ls 6 [(0, .ref (G.1 50)), (2, .ref (G.1 (57 + j2))), (3, .int x3), (4, .int x4)] → W p l e (RM 5 127) s m args below meth c H locs 0 0 (MQ below (QV G (some (.int r0)) M0) args s 0 0 (AG G)) (F0 m 31 ls []) := by
  obtain ⟨⟨hx, hb, hml, hown, hts⟩, hK, hG, hA⟩ := id hC
  intro n
  induction n with
  | zero =>
    intro x3 x4 M H locs ls hF
    cases hF
  | succ n ih =>
    intro x3 x4 M H locs ls hF hS hl
    unfold F_X6_read_31 at hF
    refine lv_iload hx hb dX6_read_31 (lv_at hl 3 rfl) ?_
    refine lv_iconst (v := 5) hx hb dX6_read_33 (by decide) ?_
    refine lv_iadd hx hb dX6_read_34 ?_
    refine lv_aload_n hx hb dX6_read_35 rfl (lv_at hl 1 rfl) ?_
    refine gxN (ci := 4) (k := 3) (v := .int (M.1 (22 + 3 * j2 + 2))) (C := RX4) (T := TX4) (N := 4) hC hS (hn _ (mS hj2)) (ceS hj2) rfl in_X4 (by decide) rfl rfl ln_X6_99 dX6_read_36 ?_
    refine lv_icmp_gt (tgt := 99) hx hb dX6_read_39 (by decide) (fun hc => ?_) (fun hc => ?_)
    · rw [if_pos hc] at hF
      refine lv_iload_n hx hb dX6_read_99 rfl (lv_at hl 2 rfl) ?_
      exact retI hC hS hr hlk hF dX6_read_100
    · rw [if_neg hc] at hF
      refine lv_aload_n hx hb dX6_read_42 rfl (lv_at hl 1 rfl) ?_
      refine gxN (ci := 4) (k := 0) (v := .ref (G.1 (18 + j2))) (C := RX4) (T := TX4) (N := 4) hC hS (hn _ (mS hj2)) (ceS hj2) rfl in_X4 (by decide) rfl rfl ln_X6_100 dX6_read_43 ?_
      refine lv_astore (lv' := [(5, .ref (G.1 (18 + j2))), (0, .ref (G.1 50)), (2, .ref (G.1 (57 + j2))), (3, .int x3), (4, .int x4)]) hx hb dX6_read_46 hl (by decide) rfl (fun ls hl => ?_)
      refine lv_aload_n hx hb dX6_read_48 rfl (lv_at hl 1 rfl) ?_
      refine lv_aload hx hb dX6_read_49 (lv_at hl 0 rfl) ?_
      refine lv_iload hx hb dX6_read_51 (lv_at hl 4 rfl) ?_
      obtain ⟨hi, hF⟩ := ckb_some hF
      refine ald hC hS (hn _ (mI hj2)) (kI hj2).1 (kI hj2).2 hi dX6_read_53 ?_
      refine lv_aload hx hb dX6_read_54 (lv_at hl 0 rfl) ?_
      refine lv_iload hx hb dX6_read_56 (lv_at hl 4 rfl) ?_
      refine lv_iconst (v := 1) hx hb dX6_read_58 (by decide) ?_
      refine lv_iadd hx hb dX6_read_59 ?_
      obtain ⟨hi, hF⟩ := ckb_some hF
      refine ald hC hS (hn _ (mI hj2)) (kI hj2).1 (kI hj2).2 hi dX6_read_60 ?_
      refine lv_aload hx hb dX6_read_61 (lv_at hl 0 rfl) ?_
      refine lv_iload hx hb dX6_read_63 (lv_at hl 4 rfl) ?_
      refine lv_iconst (v := 2) hx hb dX6_read_65 (by decide) ?_
      refine lv_iadd hx hb dX6_read_66 ?_
      obtain ⟨hi, hF⟩ := ckb_some hF
      refine ald hC hS (hn _ (mI hj2)) (kI hj2).1 (kI hj2).2 hi dX6_read_67 ?_
      refine lv_aload hx hb dX6_read_68 (lv_at hl 0 rfl) ?_
      refine lv_iload hx hb dX6_read_70 (lv_at hl 4 rfl) ?_
      refine lv_iconst (v := 3) hx hb dX6_read_72 (by decide) ?_
      refine lv_iadd hx hb dX6_read_73 ?_
      obtain ⟨hi, hF⟩ := ckb_some hF
      refine ald hC hS (hn _ (mI hj2)) (kI hj2).1 (kI hj2).2 hi dX6_read_74 ?_
      refine lv_aload hx hb dX6_read_75 (lv_at hl 0 rfl) ?_
      refine lv_iload hx hb dX6_read_77 (lv_at hl 4 rfl) ?_
      refine lv_iconst (v := 4) hx hb dX6_read_79 (by decide) ?_
      refine lv_iadd hx hb dX6_read_80 ?_
      obtain ⟨hi, hF⟩ := ckb_some hF
      refine ald hC hS (hn _ (mI hj2)) (kI hj2).1 (kI hj2).2 hi dX6_read_81 ?_
      obtain ⟨r82, M82, h82, hF⟩ := bd_some hF
      refine cV_ (ci := 6) (i := 50) (C := RX6) (T := TX6) (N := 8) (As := [.int (M.2 (18 + j2) x4.toNatClampNeg), .int (M.2 (18 + j2) (x4 + 1).toNatClampNeg), .int (M.2 (18 + j2) (x4 + 2).toNatClampNeg), .int (M.2 (18 + j2) (x4 + 3).toNatClampNeg), .int (M.2 (18 + j2) (x4 + 4).toNatClampNeg)]) (v := some (.int r82)) (rest := []) (st1 := [.int r82]) hC hS (hn _ (by decide)) rfl rfl (c_X6_word l G hn (M.2 (18 + j2) x4.toNatClampNeg) (M.2 (18 + j2) (x4 + 1).toNatClampNeg) (M.2 (18 + j2) (x4 + 2).toNatClampNeg) (M.2 (18 + j2) (x4 + 3).toNatClampNeg) (M.2 (18 + j2) (x4 + 4).toNatClampNeg) M _ _ h82) kV_X6_word lm_X6_104 ⟨Nat.le_of_ble_eq_true rfl, Nat.le_of_ble_eq_true rfl⟩ rfl hl.1 (Nat.le_of_ble_eq_true rfl) dX6_read_82 ⟨Nat.le_refl _, Nat.le_refl _⟩ rfl (fun H locs hS => ?_)
      refine lv_if_ge (tgt := 90) hx hb dX6_read_85 (by decide) (fun hc => ?_) (fun hc => ?_)
      · rw [if_pos hc] at hF
        refine lv_iinc (v := x3 + 1) (lv' := [(3, .int (x3 + 1)), (5, .ref (G.1 (18 + j2))), (0, .ref (G.1 50)), (2, .ref (G.1 (57 + j2))), (4, .int x4)]) hx hb dX6_read_90 hl (k := 3) rfl rfl (by decide) rfl (fun ls hl => ?_)
        refine lv_iinc (v := x4 + 5) (lv' := [(4, .int (x4 + 5)), (3, .int (x3 + 1)), (5, .ref (G.1 (18 + j2))), (0, .ref (G.1 50)), (2, .ref (G.1 (57 + j2)))]) hx hb dX6_read_93 hl (k := 4) rfl rfl (by decide) rfl (fun ls hl => ?_)
        refine lv_goto (tgt := 31) hx hb dX6_read_96 (by decide) ?_
        exact ih _ _ _ _ _ _ hF hS (lv_sub hl [3, 4, 1, 0] rfl)
      · rw [if_neg hc] at hF
        refine lv_iload_n hx hb dX6_read_88 rfl (lv_at hl 3 rfl) ?_
        exact retI hC hS hr hlk hF dX6_read_89
set_option maxHeartbeats 4000000 in
set_option maxRecDepth 100000 in
theorem b_X6_read {M0 : Mem} {r0 : Int32} (hC : SX p m c s args cX6_read 6 RX6 G (AG G)) (hr : meth.sig.returnType = (some .int)) (hlk : meth.locks = false) (hn : ∀ i ∈ LsF, i ∈ gL G) : ∀ (x1 : Int32) (M : Mem) (H : Heap) (locs : List Loc) (ls : Array Slot), F_X6_read x1 M = some (r0, M0) → ST G (AG G) s M H locs → lv_has ls 6 [(0, .ref (G.1 50)), (1, .int x1)] → W p l e (RM 5 127) s m args below meth c H locs 0 0 (MQ below (QV G (some (.int r0)) M0) args s 0 0 (AG G)) (F0 m 0 ls []) := by
  obtain ⟨⟨hx, hb, hml, hown, hts⟩, hK, hG, hA⟩ := id hC
  intro x1 M H locs ls hF hS hl
  unfold F_X6_read at hF
  refine lv_aload_n hx hb dX6_read_0 rfl (lv_at hl 0 rfl) ?_
  refine lv_iload_n hx hb dX6_read_1 rfl (lv_at hl 1 rfl) ?_
  rcases bdo_some hF with ⟨M2, h2, hF⟩ | ⟨j2, M2, h2, hF⟩
  · refine cV_ (ci := 6) (i := 50) (C := RX6) (T := TX6) (N := 8) (As := [.int x1]) (v := some (rfv G 57 none)) (rest := []) (st1 := [.null]) hC hS (hn _ (by decide)) rfl rfl (c_X6_sheetOf l G hn x1 M _ _ h2) kV_X6_sheetOf lm_X6_87 ⟨Nat.le_of_ble_eq_true rfl, Nat.le_of_ble_eq_true rfl⟩ rfl hl.1 (Nat.le_of_ble_eq_true rfl) dX6_read_2 ⟨Nat.le_refl _, Nat.le_refl _⟩ rfl (fun H locs hS => ?_)
    refine lv_astore_nN (lv' := [(2, .null), (0, .ref (G.1 50)), (1, .int x1)]) hx hb dX6_read_5 rfl hl (by decide) rfl (fun ls hl => ?_)
    refine lv_aload_nN hx hb dX6_read_6 rfl (lv_at hl 0 rfl) ?_
    refine lv_ifnonnullN hx hb dX6_read_7 ?_
    refine lv_bipush (v := (-2)) hx hb dX6_read_10 (by decide) ?_
    exact retI hC hS hr hlk hF dX6_read_12
  · obtain ⟨hj2, hF⟩ := ckb_some hF
    replace hj2 := of_decide_eq_true hj2
    refine cV_ (ci := 6) (i := 50) (C := RX6) (T := TX6) (N := 8) (As := [.int x1]) (v := some (rfv G 57 (some j2))) (rest := []) (st1 := [.ref (G.1 (57 + j2))]) hC hS (hn _ (by decide)) rfl rfl (c_X6_sheetOf l G hn x1 M _ _ h2) kV_X6_sheetOf lm_X6_87 ⟨Nat.le_of_ble_eq_true rfl, Nat.le_of_ble_eq_true rfl⟩ rfl hl.1 (Nat.le_of_ble_eq_true rfl) dX6_read_2 ⟨Nat.le_refl _, Nat.le_refl _⟩ rfl (fun H locs hS => ?_)
    refine lv_astore_n (lv' := [(2, .ref (G.1 (57 + j2))), (0, .ref (G.1 50)), (1, .int x1)]) hx hb dX6_read_5 rfl hl (by decide) rfl (fun ls hl => ?_)
    refine lv_aload_n hx hb dX6_read_6 rfl (lv_at hl 0 rfl) ?_
    refine lv_ifnonnull (tgt := 13) hx hb dX6_read_7 (by decide) ?_
    refine lv_aload_n hx hb dX6_read_13 rfl (lv_at hl 0 rfl) ?_
    refine gxN (ci := 4) (k := 1) (v := .int (M2.1 (22 + 3 * j2))) (C := RX4) (T := TX4) (N := 4) hC hS (hn _ (mS hj2)) (ceS hj2) rfl in_X4 (by decide) rfl rfl ln_X6_91 dX6_read_14 ?_
    refine lv_if_eq (tgt := 26) hx hb dX6_read_17 (by decide) (fun hc => ?_) (fun hc => ?_)
    · rw [if_pos hc] at hF
      refine lv_iconst (v := 0) hx hb dX6_read_26 (by decide) ?_
      refine lv_istore_n (lv' := [(3, .int 0), (2, .ref (G.1 (57 + j2))), (0, .ref (G.1 50)), (1, .int x1)]) hx hb dX6_read_27 rfl hl (by decide) rfl (fun ls hl => ?_)
      refine lv_iconst (v := 0) hx hb dX6_read_28 (by decide) ?_
      refine lv_istore (lv' := [(4, .int 0), (3, .int 0), (2, .ref (G.1 (57 + j2))), (0, .ref (G.1 50)), (1, .int x1)]) hx hb dX6_read_29 hl (by decide) rfl (fun ls hl => ?_)
      exact b_X6_read_31 hC hr hlk hn hj2 fu _ _ _ _ _ _ hF hS (lv_sub hl [3, 2, 1, 0] rfl)
    · rw [if_neg hc] at hF
      refine lv_aload_n hx hb dX6_read_20 rfl (lv_at hl 1 rfl) ?_
      refine lv_iconst (v := 1) hx hb dX6_read_21 (by decide) ?_
      obtain ⟨r22, M22, h22, hF⟩ := bd_some hF
      refine cV_ (ci := 6) (i := 50) (C := RX6) (T := TX6) (N := 8) (As := [.int 1]) (v := some (.int r22)) (rest := []) (st1 := [.int r22]) hC hS (hn _ (by decide)) rfl rfl (c_X6_find l G hn 1 M2 _ _ h22) kV_X6_find lm_X6_95 ⟨Nat.le_of_ble_eq_true rfl, Nat.le_of_ble_eq_true rfl⟩ rfl hl.1 (Nat.le_of_ble_eq_true rfl) dX6_read_22 ⟨Nat.le_refl _, Nat.le_refl _⟩ rfl (fun H locs hS => ?_)
      exact retI hC hS hr hlk hF dX6_read_25
set_option maxRecDepth 100000 in
theorem c_X6_read (l : Launch) (G : GT) (hn : ∀ i ∈ LsF, i ∈ gL G) (x1 : Int32) (M : Mem) (r0 : Int32) (M0 : Mem) (hF : F_X6_read x1 M = some (r0, M0)) : MetG l G yX6_read cX6_read 6 (some .int) 5 127 [.ref (G.1 50), .int x1] M (some (.int r0)) M0 := by
  refine MetG.of (by decide) (Nat.le_of_ble_eq_true rfl) ?_
  intro p e s m args below meth c hC hr hlk hnm ls hS hl
  exact b_X6_read hC hr hlk hn _ _ _ _ _ hF hS hl
def F_X6_is (x1 : Int32) (x2 : Int32) (M : Mem) : Option (Int32 × Mem) := bd (F_X5_has x1 M) (fun r5 M5 => if r5 = 0 then some ((-2), M5) else if x2 = 0 then ckb (ix x1 10) (some (M5.2 2 x1.toNatClampNeg, M5)) else if x2 = 1 then ckb (ix x1 10) (some (M5.2 3 x1.toNatClampNeg, M5)) else if x2 = 2 then ckb (ix x1 10) (some (M5.2 5 x1.toNatClampNeg, M5)) else if x2 = 3 then ckb (ix x1 10) (some (M5.2 6 x1.toNatClampNeg, M5)) else if x2 = 4 then ckb (ix x1 10) (some (M5.2 7 x1.toNatClampNeg, M5)) else if x2 = 5 then some (((M5.1 1) >>> (x1 &&& 31)) &&& 1, M5) else if x2 = 6 then some (((M5.1 2) >>> (x1 &&& 31)) &&& 1, M5) else some ((-2), M5))
set_option maxHeartbeats 4000000 in
set_option maxRecDepth 100000 in
theorem b_X6_is {M0 : Mem} {r0 : Int32} (hC : SX p m c s args cX6_is 3 RX6 G (AG G)) (hr : meth.sig.returnType = (some .int)) (hlk : meth.locks = false) (hn : ∀ i ∈ LsF, i ∈ gL G) : ∀ (x1 : Int32) (x2 : Int32) (M : Mem) (H : Heap) (locs : List Loc) (ls : Array Slot), F_X6_is x1 x2 M = some (r0, M0) → ST G (AG G) s M H locs → lv_has ls 3 [(0, .ref (G.1 50)), (1, .int x1), (2, .int x2)] → W p l e (RM 1 21) s m args below meth c H locs 0 0 (MQ below (QV G (some (.int r0)) M0) args s 0 0 (AG G)) (F0 m 0 ls []) := by
  obtain ⟨⟨hx, hb, hml, hown, hts⟩, hK, hG, hA⟩ := id hC
  intro x1 x2 M H locs ls hF hS hl
  unfold F_X6_is at hF
  refine lv_aload_n hx hb dX6_is_0 rfl (lv_at hl 0 rfl) ?_
  refine gx (ci := 6) (k := 1) (v := .ref (G.1 52)) (C := RX6) (T := TX6) (N := 8) hC hS (hn _ (by decide)) rfl rfl in_X6 (by decide) rfl rfl lf_X6_19 dX6_is_1 ?_
  refine lv_iload_n hx hb dX6_is_4 rfl (lv_at hl 1 rfl) ?_
  obtain ⟨r5, M5, h5, hF⟩ := bd_some hF
  refine cV_ (ci := 5) (i := 52) (C := RX5) (T := TX5) (N := 13) (As := [.int x1]) (v := some (.int r5)) (rest := []) (st1 := [.int r5]) hC hS (hn _ (by decide)) rfl rfl (c_X5_has l G hn x1 M _ _ h5) kV_X5_has lm_X6_108 ⟨Nat.le_of_ble_eq_true rfl, Nat.le_of_ble_eq_true rfl⟩ rfl hl.1 (Nat.le_of_ble_eq_true rfl) dX6_is_5 ⟨Nat.le_refl _, Nat.le_refl _⟩ rfl (fun H locs hS => ?_)
  refine lv_if_ne (tgt := 14) hx hb dX6_is_8 (by decide) (fun hc => ?_) (fun hc => ?_)
  · rw [if_neg hc] at hF
    refine lv_iload_n hx hb dX6_is_14 rfl (lv_at hl 2 rfl) ?_
    by_cases hc0 : x2 = 0
    · rw [if_pos hc0] at hF
      refine lv_tableIn (off := 41) (tgt := 56) hx hb dX6_is_15 (by rw [hc0]; decide) (by rw [hc0]; decide) (by rw [hc0]; rfl) (by decide) ?_
      refine lv_aload_n hx hb dX6_is_56 rfl (lv_at hl 0 rfl) ?_
      refine gx (ci := 6) (k := 1) (v := .ref (G.1 52)) (C := RX6) (T := TX6) (N := 8) hC hS (hn _ (by decide)) rfl rfl in_X6 (by decide) rfl rfl lf_X6_19 dX6_is_57 ?_
      refine gxN (ci := 5) (k := 0) (v := .ref (G.1 2)) (C := RX5) (T := TX5) (N := 13) hC hS (hn _ (by decide)) rfl rfl in_X5 (by decide) rfl rfl ln_X6_111 dX6_is_60 ?_
      refine lv_iload_n hx hb dX6_is_63 rfl (lv_at hl 1 rfl) ?_
      obtain ⟨hi, hF⟩ := ckb_some hF
      refine ald hC hS (hn _ (by decide)) (by decide) rfl hi dX6_is_64 ?_
      exact retI hC hS hr hlk hF dX6_is_65
    rw [if_neg hc0] at hF
    by_cases hc1 : x2 = 1
    · rw [if_pos hc1] at hF
      refine lv_tableIn (off := 51) (tgt := 66) hx hb dX6_is_15 (by rw [hc1]; decide) (by rw [hc1]; decide) (by rw [hc1]; rfl) (by decide) ?_
      refine lv_aload_n hx hb dX6_is_66 rfl (lv_at hl 0 rfl) ?_
      refine gx (ci := 6) (k := 1) (v := .ref (G.1 52)) (C := RX6) (T := TX6) (N := 8) hC hS (hn _ (by decide)) rfl rfl in_X6 (by decide) rfl rfl lf_X6_19 dX6_is_67 ?_
      refine gxN (ci := 5) (k := 1) (v := .ref (G.1 3)) (C := RX5) (T := TX5) (N := 13) hC hS (hn _ (by decide)) rfl rfl in_X5 (by decide) rfl rfl ln_X6_114 dX6_is_70 ?_
      refine lv_iload_n hx hb dX6_is_73 rfl (lv_at hl 1 rfl) ?_
      obtain ⟨hi, hF⟩ := ckb_some hF
      refine ald hC hS (hn _ (by decide)) (by decide) rfl hi dX6_is_74 ?_
      exact retI hC hS hr hlk hF dX6_is_75
    rw [if_neg hc1] at hF
    by_cases hc2 : x2 = 2
    · rw [if_pos hc2] at hF
      refine lv_tableIn (off := 61) (tgt := 76) hx hb dX6_is_15 (by rw [hc2]; decide) (by rw [hc2]; decide) (by rw [hc2]; rfl) (by decide) ?_
      refine lv_aload_n hx hb dX6_is_76 rfl (lv_at hl 0 rfl) ?_
      refine gx (ci := 6) (k := 1) (v := .ref (G.1 52)) (C := RX6) (T := TX6) (N := 8) hC hS (hn _ (by decide)) rfl rfl in_X6 (by decide) rfl rfl lf_X6_19 dX6_is_77 ?_
      refine gxN (ci := 5) (k := 3) (v := .ref (G.1 5)) (C := RX5) (T := TX5) (N := 13) hC hS (hn _ (by decide)) rfl rfl in_X5 (by decide) rfl rfl ln_X6_117 dX6_is_80 ?_
      refine lv_iload_n hx hb dX6_is_83 rfl (lv_at hl 1 rfl) ?_
      obtain ⟨hi, hF⟩ := ckb_some hF
      refine ald hC hS (hn _ (by decide)) (by decide) rfl hi dX6_is_84 ?_
      exact retI hC hS hr hlk hF dX6_is_85
    rw [if_neg hc2] at hF
    by_cases hc3 : x2 = 3
    · rw [if_pos hc3] at hF
      refine lv_tableIn (off := 71) (tgt := 86) hx hb dX6_is_15 (by rw [hc3]; decide) (by rw [hc3]; decide) (by rw [hc3]; rfl) (by decide) ?_
      refine lv_aload_n hx hb dX6_is_86 rfl (lv_at hl 0 rfl) ?_
      refine gx (ci := 6) (k := 1) (v := .ref (G.1 52)) (C := RX6) (T := TX6) (N := 8) hC hS (hn _ (by decide)) rfl rfl in_X6 (by decide) rfl rfl lf_X6_19 dX6_is_87 ?_
      refine gxN (ci := 5) (k := 4) (v := .ref (G.1 6)) (C := RX5) (T := TX5) (N := 13) hC hS (hn _ (by decide)) rfl rfl in_X5 (by decide) rfl rfl ln_X6_120 dX6_is_90 ?_
      refine lv_iload_n hx hb dX6_is_93 rfl (lv_at hl 1 rfl) ?_
      obtain ⟨hi, hF⟩ := ckb_some hF
      refine ald hC hS (hn _ (by decide)) (by decide) rfl hi dX6_is_94 ?_
      exact retI hC hS hr hlk hF dX6_is_95
    rw [if_neg hc3] at hF
    by_cases hc4 : x2 = 4
    · rw [if_pos hc4] at hF
      refine lv_tableIn (off := 81) (tgt := 96) hx hb dX6_is_15 (by rw [hc4]; decide) (by rw [hc4]; decide) (by rw [hc4]; rfl) (by decide) ?_
      refine lv_aload_n hx hb dX6_is_96 rfl (lv_at hl 0 rfl) ?_
      refine gx (ci := 6) (k := 1) (v := .ref (G.1 52)) (C := RX6) (T := TX6) (N := 8) hC hS (hn _ (by decide)) rfl rfl in_X6 (by decide) rfl rfl lf_X6_19 dX6_is_97 ?_
      refine gxN (ci := 5) (k := 5) (v := .ref (G.1 7)) (C := RX5) (T := TX5) (N := 13) hC hS (hn _ (by decide)) rfl rfl in_X5 (by decide) rfl rfl ln_X6_123 dX6_is_100 ?_
      refine lv_iload_n hx hb dX6_is_103 rfl (lv_at hl 1 rfl) ?_
      obtain ⟨hi, hF⟩ := ckb_some hF
      refine ald hC hS (hn _ (by decide)) (by decide) rfl hi dX6_is_104 ?_
      exact retI hC hS hr hlk hF dX6_is_105
    rw [if_neg hc4] at hF
    by_cases hc5 : x2 = 5
    · rw [if_pos hc5] at hF
      refine lv_tableIn (off := 91) (tgt := 106) hx hb dX6_is_15 (by rw [hc5]; decide) (by rw [hc5]; decide) (by rw [hc5]; rfl) (by decide) ?_
      refine lv_aload_n hx hb dX6_is_106 rfl (lv_at hl 0 rfl) ?_
      refine gx (ci := 6) (k := 1) (v := .ref (G.1 52)) (C := RX6) (T := TX6) (N := 8) hC hS (hn _ (by decide)) rfl rfl in_X6 (by decide) rfl rfl lf_X6_19 dX6_is_107 ?_
      refine gxN (ci := 5) (k := 11) (v := .int (M5.1 1)) (C := RX5) (T := TX5) (N := 13) hC hS (hn _ (by decide)) rfl rfl in_X5 (by decide) rfl rfl ln_X6_126 dX6_is_110 ?_
      refine lv_iload_n hx hb dX6_is_113 rfl (lv_at hl 1 rfl) ?_
      refine lv_ishr hx hb dX6_is_114 ?_
      refine lv_iconst (v := 1) hx hb dX6_is_115 (by decide) ?_
      refine lv_iand hx hb dX6_is_116 ?_
      exact retI hC hS hr hlk hF dX6_is_117
    rw [if_neg hc5] at hF
    by_cases hc6 : x2 = 6
    · rw [if_pos hc6] at hF
      refine lv_tableIn (off := 103) (tgt := 118) hx hb dX6_is_15 (by rw [hc6]; decide) (by rw [hc6]; decide) (by rw [hc6]; rfl) (by decide) ?_
      refine lv_aload_n hx hb dX6_is_118 rfl (lv_at hl 0 rfl) ?_
      refine gx (ci := 6) (k := 1) (v := .ref (G.1 52)) (C := RX6) (T := TX6) (N := 8) hC hS (hn _ (by decide)) rfl rfl in_X6 (by decide) rfl rfl lf_X6_19 dX6_is_119 ?_
      refine gxN (ci := 5) (k := 12) (v := .int (M5.1 2)) (C := RX5) (T := TX5) (N := 13) hC hS (hn _ (by decide)) rfl rfl in_X5 (by decide) rfl rfl ln_X6_129 dX6_is_122 ?_
      refine lv_iload_n hx hb dX6_is_125 rfl (lv_at hl 1 rfl) ?_
      refine lv_ishr hx hb dX6_is_126 ?_
      refine lv_iconst (v := 1) hx hb dX6_is_127 (by decide) ?_
      refine lv_iand hx hb dX6_is_128 ?_
      exact retI hC hS hr hlk hF dX6_is_129
    rw [if_neg hc6] at hF
    have hc0 := neI hc0
    have hc1 := neI hc1
    have hc2 := neI hc2
    have hc3 := neI hc3
    have hc4 := neI hc4
    have hc5 := neI hc5
    have hc6 := neI hc6
    refine lv_tableOut (tgt := 130) hx hb dX6_is_15 (tOut0_6 hc0 hc1 hc2 hc3 hc4 hc5 hc6) (by decide) ?_
    refine lv_bipush (v := (-2)) hx hb dX6_is_130 (by decide) ?_
    exact retI hC hS hr hlk hF dX6_is_132
  · rw [if_pos hc] at hF
    refine lv_bipush (v := (-2)) hx hb dX6_is_11 (by decide) ?_
    exact retI hC hS hr hlk hF dX6_is_13
set_option maxRecDepth 100000 in
theorem c_X6_is (l : Launch) (G : GT) (hn : ∀ i ∈ LsF, i ∈ gL G) (x1 : Int32) (x2 : Int32) (M : Mem) (r0 : Int32) (M0 : Mem) (hF : F_X6_is x1 x2 M = some (r0, M0)) : MetG l G yX6_is cX6_is 3 (some .int) 1 21 [.ref (G.1 50), .int x1, .int x2] M (some (.int r0)) M0 := by
  refine MetG.of (by decide) (Nat.le_of_ble_eq_true rfl) ?_
  intro p e s m args below meth c hC hr hlk hnm ls hS hl
  exact b_X6_is hC hr hlk hn _ _ _ _ _ _ hF hS hl
def F_X6_keep (x1 : Int32) (M : Mem) : Option (Int32 × Mem) := bd (F_X5_all M) (fun r5 M5 => if (x1 &&& (r5 ^^^ (-1))) = 0 then some (M5.1 1, sv M5 1 x1) else some ((-2), M5))
set_option maxHeartbeats 4000000 in
set_option maxRecDepth 100000 in
theorem b_X6_keep {M0 : Mem} {r0 : Int32} (hC : SX p m c s args cX6_keep 3 RX6 G (AG G)) (hr : meth.sig.returnType = (some .int)) (hlk : meth.locks = false) (hn : ∀ i ∈ LsF, i ∈ gL G) : ∀ (x1 : Int32) (M : Mem) (H : Heap) (locs : List Loc) (ls : Array Slot), F_X6_keep x1 M = some (r0, M0) → ST G (AG G) s M H locs → lv_has ls 3 [(0, .ref (G.1 50)), (1, .int x1)] → W p l e (RM 1 20) s m args below meth c H locs 0 0 (MQ below (QV G (some (.int r0)) M0) args s 0 0 (AG G)) (F0 m 0 ls []) := by
  obtain ⟨⟨hx, hb, hml, hown, hts⟩, hK, hG, hA⟩ := id hC
  intro x1 M H locs ls hF hS hl
  unfold F_X6_keep at hF
  refine lv_iload_n hx hb dX6_keep_0 rfl (lv_at hl 1 rfl) ?_
  refine lv_aload_n hx hb dX6_keep_1 rfl (lv_at hl 0 rfl) ?_
  refine gx (ci := 6) (k := 1) (v := .ref (G.1 52)) (C := RX6) (T := TX6) (N := 8) hC hS (hn _ (by decide)) rfl rfl in_X6 (by decide) rfl rfl lf_X6_19 dX6_keep_2 ?_
  obtain ⟨r5, M5, h5, hF⟩ := bd_some hF
  refine cV_ (ci := 5) (i := 52) (C := RX5) (T := TX5) (N := 13) (As := []) (v := some (.int r5)) (rest := [.int x1]) (st1 := [.int r5, .int x1]) hC hS (hn _ (by decide)) rfl rfl (c_X5_all l G hn M _ _ h5) kV_X5_all lm_X6_132 ⟨Nat.le_of_ble_eq_true rfl, Nat.le_of_ble_eq_true rfl⟩ rfl hl.1 (Nat.le_of_ble_eq_true rfl) dX6_keep_5 ⟨Nat.le_refl _, Nat.le_refl _⟩ rfl (fun H locs hS => ?_)
  refine lv_iconst (v := (-1)) hx hb dX6_keep_8 (by decide) ?_
  refine lv_ixor hx hb dX6_keep_9 ?_
  refine lv_iand hx hb dX6_keep_10 ?_
  refine lv_if_eq (tgt := 17) hx hb dX6_keep_11 (by decide) (fun hc => ?_) (fun hc => ?_)
  · rw [if_pos hc] at hF
    refine lv_aload_n hx hb dX6_keep_17 rfl (lv_at hl 0 rfl) ?_
    refine gx (ci := 6) (k := 1) (v := .ref (G.1 52)) (C := RX6) (T := TX6) (N := 8) hC hS (hn _ (by decide)) rfl rfl in_X6 (by decide) rfl rfl lf_X6_19 dX6_keep_18 ?_
    refine gxN (ci := 5) (k := 11) (v := .int (M5.1 1)) (C := RX5) (T := TX5) (N := 13) hC hS (hn _ (by decide)) rfl rfl in_X5 (by decide) rfl rfl ln_X6_126 dX6_keep_21 ?_
    refine lv_istore_n (lv' := [(2, .int (M5.1 1)), (0, .ref (G.1 50)), (1, .int x1)]) hx hb dX6_keep_24 rfl hl (by decide) rfl (fun ls hl => ?_)
    refine lv_aload_n hx hb dX6_keep_25 rfl (lv_at hl 1 rfl) ?_
    refine gx (ci := 6) (k := 1) (v := .ref (G.1 52)) (C := RX6) (T := TX6) (N := 8) hC hS (hn _ (by decide)) rfl rfl in_X6 (by decide) rfl rfl lf_X6_19 dX6_keep_26 ?_
    refine lv_iload_n hx hb dX6_keep_29 rfl (lv_at hl 2 rfl) ?_
    refine pxN (ci := 5) (k := 11) (n := 1) (ty := .int) (C := RX5) (T := TX5) (N := 13) hC hS (hn _ (by decide)) rfl rfl in_X5 tyX5_ok nmX5 (by decide) rfl rfl (by decide +kernel) rfl rfl (Nat.le_of_ble_eq_true rfl) rfl se_X5_11 ln_X6_126 dX6_keep_30 (fun H locs hS => ?_)
    refine lv_iload_n hx hb dX6_keep_33 rfl (lv_at hl 0 rfl) ?_
    exact retI hC hS hr hlk hF dX6_keep_34
  · rw [if_neg hc] at hF
    refine lv_bipush (v := (-2)) hx hb dX6_keep_14 (by decide) ?_
    exact retI hC hS hr hlk hF dX6_keep_16
set_option maxRecDepth 100000 in
theorem c_X6_keep (l : Launch) (G : GT) (hn : ∀ i ∈ LsF, i ∈ gL G) (x1 : Int32) (M : Mem) (r0 : Int32) (M0 : Mem) (hF : F_X6_keep x1 M = some (r0, M0)) : MetG l G yX6_keep cX6_keep 3 (some .int) 1 20 [.ref (G.1 50), .int x1] M (some (.int r0)) M0 := by
  refine MetG.of (by decide) (Nat.le_of_ble_eq_true rfl) ?_
  intro p e s m args below meth c hC hr hlk hnm ls hS hl
  exact b_X6_keep hC hr hlk hn _ _ _ _ _ hF hS hl
def F_X6_lawOf (x1 : Int32) (M : Mem) : Option (Option Nat × Mem) := if x1 = 0 then some (some 0, M) else if x1 = 1 then some (some 1, M) else some (none, M)
set_option maxHeartbeats 4000000 in
set_option maxRecDepth 100000 in
theorem b_X6_lawOf {M0 : Mem} {r0 : Option Nat} (hC : SX p m c s args cX6_lawOf 2 RX6 G (AG G)) (hr : meth.sig.returnType = (some (.object "HeardWords$Law"))) (hlk : meth.locks = false) (hn : ∀ i ∈ LsF, i ∈ gL G) : ∀ (x1 : Int32) (M : Mem) (H : Heap) (locs : List Loc) (ls : Array Slot), F_X6_lawOf x1 M = some (r0, M0) → ST G (AG G) s M H locs → lv_has ls 2 [(0, .ref (G.1 50)), (1, .int x1)] → W p l e (RM 0 0) s m args below meth c H locs 0 0 (MQ below (QV G (some (rfv G 53 r0)) M0) args s 0 0 (AG G)) (F0 m 0 ls []) := by
  obtain ⟨⟨hx, hb, hml, hown, hts⟩, hK, hG, hA⟩ := id hC
  intro x1 M H locs ls hF hS hl
  unfold F_X6_lawOf at hF
  refine lv_iload_n hx hb dX6_lawOf_0 rfl (lv_at hl 1 rfl) ?_
  refine lv_if_ne (tgt := 9) hx hb dX6_lawOf_1 (by decide) (fun hc => ?_) (fun hc => ?_)
  · rw [if_neg hc] at hF
    refine lv_iload_n hx hb dX6_lawOf_9 rfl (lv_at hl 1 rfl) ?_
    refine lv_iconst (v := 1) hx hb dX6_lawOf_10 (by decide) ?_
    refine lv_icmp_ne (tgt := 21) hx hb dX6_lawOf_11 (by decide) (fun hc => ?_) (fun hc => ?_)
    · rw [if_neg hc] at hF
      refine lv_null hx hb dX6_lawOf_21 ?_
      exact retA (b := 53) (x := none) hC hS hr hlk hF dX6_lawOf_22
    · rw [if_pos hc] at hF
      refine lv_aload_n hx hb dX6_lawOf_14 rfl (lv_at hl 0 rfl) ?_
      refine gx (ci := 6) (k := 3) (v := .ref (G.1 (53 + 1))) (C := RX6) (T := TX6) (N := 8) hC hS (hn _ (by decide)) rfl rfl in_X6 (by decide) rfl rfl lf_X6_30 dX6_lawOf_15 ?_
      refine lv_goto (tgt := 22) hx hb dX6_lawOf_18 (by decide) ?_
      exact retA (b := 53) (x := some 1) hC hS hr hlk hF dX6_lawOf_22
  · rw [if_pos hc] at hF
    refine lv_aload_n hx hb dX6_lawOf_4 rfl (lv_at hl 0 rfl) ?_
    refine gx (ci := 6) (k := 2) (v := .ref (G.1 (53 + 0))) (C := RX6) (T := TX6) (N := 8) hC hS (hn _ (by decide)) rfl rfl in_X6 (by decide) rfl rfl lf_X6_26 dX6_lawOf_5 ?_
    exact retA (b := 53) (x := some 0) hC hS hr hlk hF dX6_lawOf_8
set_option maxRecDepth 100000 in
theorem c_X6_lawOf (l : Launch) (G : GT) (hn : ∀ i ∈ LsF, i ∈ gL G) (x1 : Int32) (M : Mem) (r0 : Option Nat) (M0 : Mem) (hF : F_X6_lawOf x1 M = some (r0, M0)) : MetG l G yX6_lawOf cX6_lawOf 2 (some (.object "HeardWords$Law")) 0 0 [.ref (G.1 50), .int x1] M (some (rfv G 53 r0)) M0 := by
  refine MetG.of (by decide) (Nat.le_of_ble_eq_true rfl) ?_
  intro p e s m args below meth c hC hr hlk hnm ls hS hl
  exact b_X6_lawOf hC hr hlk hn _ _ _ _ _ hF hS hl
def F_X6_type (x1 : Int32) (x2 : Int32) (M : Mem) : Option (Int32 × Mem) := bdo (F_X6_lawOf x1 M) (fun M2 => some ((-2), M2)) (fun j2 M2 => ckb (decide (j2 < 2)) (if x2 < 0 then some ((-2), M2) else if x2 ≤ 255 then if (M2.1 (10 + 6 * j2)) < 40 then bdv (F_X2_append j2 x2 M2) (fun M38 => some (M38.1 (10 + 6 * j2), M38)) else some ((-4), M2) else some ((-2), M2)))
set_option maxHeartbeats 4000000 in
set_option maxRecDepth 100000 in
theorem b_X6_type {M0 : Mem} {r0 : Int32} (hC : SX p m c s args cX6_type 4 RX6 G (AG G)) (hr : meth.sig.returnType = (some .int)) (hlk : meth.locks = false) (hn : ∀ i ∈ LsF, i ∈ gL G) : ∀ (x1 : Int32) (x2 : Int32) (M : Mem) (H : Heap) (locs : List Loc) (ls : Array Slot), F_X6_type x1 x2 M = some (r0, M0) → ST G (AG G) s M H locs → lv_has ls 4 [(0, .ref (G.1 50)), (1, .int x1), (2, .int x2)] → W p l e (RM 9 190) s m args below meth c H locs 0 0 (MQ below (QV G (some (.int r0)) M0) args s 0 0 (AG G)) (F0 m 0 ls []) := by
  obtain ⟨⟨hx, hb, hml, hown, hts⟩, hK, hG, hA⟩ := id hC
  intro x1 x2 M H locs ls hF hS hl
  unfold F_X6_type at hF
  refine lv_aload_n hx hb dX6_type_0 rfl (lv_at hl 0 rfl) ?_
  refine lv_iload_n hx hb dX6_type_1 rfl (lv_at hl 1 rfl) ?_
  rcases bdo_some hF with ⟨M2, h2, hF⟩ | ⟨j2, M2, h2, hF⟩
  · refine cV_ (ci := 6) (i := 50) (C := RX6) (T := TX6) (N := 8) (As := [.int x1]) (v := some (rfv G 53 none)) (rest := []) (st1 := [.null]) hC hS (hn _ (by decide)) rfl rfl (c_X6_lawOf l G hn x1 M _ _ h2) kV_X6_lawOf lm_X6_136 ⟨Nat.le_of_ble_eq_true rfl, Nat.le_of_ble_eq_true rfl⟩ rfl hl.1 (Nat.le_of_ble_eq_true rfl) dX6_type_2 ⟨Nat.le_refl _, Nat.le_refl _⟩ rfl (fun H locs hS => ?_)
    refine lv_astore_nN (lv' := [(3, .null), (0, .ref (G.1 50)), (1, .int x1), (2, .int x2)]) hx hb dX6_type_5 rfl hl (by decide) rfl (fun ls hl => ?_)
    refine lv_aload_nN hx hb dX6_type_6 rfl (lv_at hl 0 rfl) ?_
    refine lv_ifnullN (tgt := 21) hx hb dX6_type_7 (by decide) ?_
    refine lv_bipush (v := (-2)) hx hb dX6_type_21 (by decide) ?_
    exact retI hC hS hr hlk hF dX6_type_23
  · obtain ⟨hj2, hF⟩ := ckb_some hF
    replace hj2 := of_decide_eq_true hj2
    refine cV_ (ci := 6) (i := 50) (C := RX6) (T := TX6) (N := 8) (As := [.int x1]) (v := some (rfv G 53 (some j2))) (rest := []) (st1 := [.ref (G.1 (53 + j2))]) hC hS (hn _ (by decide)) rfl rfl (c_X6_lawOf l G hn x1 M _ _ h2) kV_X6_lawOf lm_X6_136 ⟨Nat.le_of_ble_eq_true rfl, Nat.le_of_ble_eq_true rfl⟩ rfl hl.1 (Nat.le_of_ble_eq_true rfl) dX6_type_2 ⟨Nat.le_refl _, Nat.le_refl _⟩ rfl (fun H locs hS => ?_)
    refine lv_astore_n (lv' := [(3, .ref (G.1 (53 + j2))), (0, .ref (G.1 50)), (1, .int x1), (2, .int x2)]) hx hb dX6_type_5 rfl hl (by decide) rfl (fun ls hl => ?_)
    refine lv_aload_n hx hb dX6_type_6 rfl (lv_at hl 0 rfl) ?_
    refine lv_ifnull hx hb dX6_type_7 ?_
    refine lv_iload_n hx hb dX6_type_10 rfl (lv_at hl 3 rfl) ?_
    refine lv_if_lt (tgt := 21) hx hb dX6_type_11 (by decide) (fun hc => ?_) (fun hc => ?_)
    · rw [if_pos hc] at hF
      refine lv_bipush (v := (-2)) hx hb dX6_type_21 (by decide) ?_
      exact retI hC hS hr hlk hF dX6_type_23
    · rw [if_neg hc] at hF
      refine lv_iload_n hx hb dX6_type_14 rfl (lv_at hl 3 rfl) ?_
      refine lv_sipush (v := 255) hx hb dX6_type_15 (by decide) ?_
      refine lv_icmp_le (tgt := 24) hx hb dX6_type_18 (by decide) (fun hc => ?_) (fun hc => ?_)
      · rw [if_pos hc] at hF
        refine lv_aload_n hx hb dX6_type_24 rfl (lv_at hl 0 rfl) ?_
        refine gxN (ci := 2) (k := 1) (v := .int (M2.1 (10 + 6 * j2))) (C := RX2) (T := TX2) (N := 7) hC hS (hn _ (mL hj2)) (ceL hj2) rfl in_X2 (by decide) rfl rfl ln_X6_140 dX6_type_25 ?_
        refine lv_bipush (v := 40) hx hb dX6_type_28 (by decide) ?_
        refine lv_icmp_lt (tgt := 36) hx hb dX6_type_30 (by decide) (fun hc => ?_) (fun hc => ?_)
        · rw [if_pos hc] at hF
          refine lv_aload_n hx hb dX6_type_36 rfl (lv_at hl 0 rfl) ?_
          refine lv_iload_n hx hb dX6_type_37 rfl (lv_at hl 3 rfl) ?_
          obtain ⟨M38, h38, hF⟩ := bdv_some hF
          refine cV_ (ci := 2) (i := 53 + j2) (C := RX2) (T := TX2) (N := 7) (As := [.int x2]) (v := none) (rest := []) (st1 := []) hC hS (hn _ (mL hj2)) (ceL hj2) rfl (c_X2_append l G hn j2 hj2 x2 M2 _ h38) kV_X2_append lm_X6_141 ⟨Nat.le_of_ble_eq_true rfl, Nat.le_of_ble_eq_true rfl⟩ rfl hl.1 (Nat.le_of_ble_eq_true rfl) dX6_type_38 ⟨Nat.le_refl _, Nat.le_refl _⟩ rfl (fun H locs hS => ?_)
          refine lv_aload_n hx hb dX6_type_41 rfl (lv_at hl 0 rfl) ?_
          refine gxN (ci := 2) (k := 1) (v := .int (M38.1 (10 + 6 * j2))) (C := RX2) (T := TX2) (N := 7) hC hS (hn _ (mL hj2)) (ceL hj2) rfl in_X2 (by decide) rfl rfl ln_X6_140 dX6_type_42 ?_
          exact retI hC hS hr hlk hF dX6_type_45
        · rw [if_neg hc] at hF
          refine lv_bipush (v := (-4)) hx hb dX6_type_33 (by decide) ?_
          exact retI hC hS hr hlk hF dX6_type_35
      · rw [if_neg hc] at hF
        refine lv_bipush (v := (-2)) hx hb dX6_type_21 (by decide) ?_
        exact retI hC hS hr hlk hF dX6_type_23
set_option maxRecDepth 100000 in
theorem c_X6_type (l : Launch) (G : GT) (hn : ∀ i ∈ LsF, i ∈ gL G) (x1 : Int32) (x2 : Int32) (M : Mem) (r0 : Int32) (M0 : Mem) (hF : F_X6_type x1 x2 M = some (r0, M0)) : MetG l G yX6_type cX6_type 4 (some .int) 9 190 [.ref (G.1 50), .int x1, .int x2] M (some (.int r0)) M0 := by
  refine MetG.of (by decide) (Nat.le_of_ble_eq_true rfl) ?_
  intro p e s m args below meth c hC hr hlk hnm ls hS hl
  exact b_X6_type hC hr hlk hn _ _ _ _ _ _ hF hS hl
def F_X6_wipe (x1 : Int32) (M : Mem) : Option (Int32 × Mem) := bdo (F_X6_lawOf x1 M) (fun M2 => some ((-2), M2)) (fun j2 M2 => ckb (decide (j2 < 2)) (bdv (F_X2_empty j2 M2) (fun M19 => some (M2.1 (10 + 6 * j2), M19))))
set_option maxHeartbeats 4000000 in
set_option maxRecDepth 100000 in
theorem b_X6_wipe {M0 : Mem} {r0 : Int32} (hC : SX p m c s args cX6_wipe 4 RX6 G (AG G)) (hr : meth.sig.returnType = (some .int)) (hlk : meth.locks = false) (hn : ∀ i ∈ LsF, i ∈ gL G) : ∀ (x1 : Int32) (M : Mem) (H : Heap) (locs : List Loc) (ls : Array Slot), F_X6_wipe x1 M = some (r0, M0) → ST G (AG G) s M H locs → lv_has ls 4 [(0, .ref (G.1 50)), (1, .int x1)] → W p l e (RM 9 189) s m args below meth c H locs 0 0 (MQ below (QV G (some (.int r0)) M0) args s 0 0 (AG G)) (F0 m 0 ls []) := by
  obtain ⟨⟨hx, hb, hml, hown, hts⟩, hK, hG, hA⟩ := id hC
  intro x1 M H locs ls hF hS hl
  unfold F_X6_wipe at hF
  refine lv_aload_n hx hb dX6_wipe_0 rfl (lv_at hl 0 rfl) ?_
  refine lv_iload_n hx hb dX6_wipe_1 rfl (lv_at hl 1 rfl) ?_
  rcases bdo_some hF with ⟨M2, h2, hF⟩ | ⟨j2, M2, h2, hF⟩
  · refine cV_ (ci := 6) (i := 50) (C := RX6) (T := TX6) (N := 8) (As := [.int x1]) (v := some (rfv G 53 none)) (rest := []) (st1 := [.null]) hC hS (hn _ (by decide)) rfl rfl (c_X6_lawOf l G hn x1 M _ _ h2) kV_X6_lawOf lm_X6_136 ⟨Nat.le_of_ble_eq_true rfl, Nat.le_of_ble_eq_true rfl⟩ rfl hl.1 (Nat.le_of_ble_eq_true rfl) dX6_wipe_2 ⟨Nat.le_refl _, Nat.le_refl _⟩ rfl (fun H locs hS => ?_)
    refine lv_astore_nN (lv' := [(2, .null), (0, .ref (G.1 50)), (1, .int x1)]) hx hb dX6_wipe_5 rfl hl (by decide) rfl (fun ls hl => ?_)
    refine lv_aload_nN hx hb dX6_wipe_6 rfl (lv_at hl 0 rfl) ?_
    refine lv_ifnonnullN hx hb dX6_wipe_7 ?_
    refine lv_bipush (v := (-2)) hx hb dX6_wipe_10 (by decide) ?_
    exact retI hC hS hr hlk hF dX6_wipe_12
  · obtain ⟨hj2, hF⟩ := ckb_some hF
    replace hj2 := of_decide_eq_true hj2
    refine cV_ (ci := 6) (i := 50) (C := RX6) (T := TX6) (N := 8) (As := [.int x1]) (v := some (rfv G 53 (some j2))) (rest := []) (st1 := [.ref (G.1 (53 + j2))]) hC hS (hn _ (by decide)) rfl rfl (c_X6_lawOf l G hn x1 M _ _ h2) kV_X6_lawOf lm_X6_136 ⟨Nat.le_of_ble_eq_true rfl, Nat.le_of_ble_eq_true rfl⟩ rfl hl.1 (Nat.le_of_ble_eq_true rfl) dX6_wipe_2 ⟨Nat.le_refl _, Nat.le_refl _⟩ rfl (fun H locs hS => ?_)
    refine lv_astore_n (lv' := [(2, .ref (G.1 (53 + j2))), (0, .ref (G.1 50)), (1, .int x1)]) hx hb dX6_wipe_5 rfl hl (by decide) rfl (fun ls hl => ?_)
    refine lv_aload_n hx hb dX6_wipe_6 rfl (lv_at hl 0 rfl) ?_
    refine lv_ifnonnull (tgt := 13) hx hb dX6_wipe_7 (by decide) ?_
    refine lv_aload_n hx hb dX6_wipe_13 rfl (lv_at hl 0 rfl) ?_
    refine gxN (ci := 2) (k := 1) (v := .int (M2.1 (10 + 6 * j2))) (C := RX2) (T := TX2) (N := 7) hC hS (hn _ (mL hj2)) (ceL hj2) rfl in_X2 (by decide) rfl rfl ln_X6_140 dX6_wipe_14 ?_
    refine lv_istore_n (lv' := [(3, .int (M2.1 (10 + 6 * j2))), (2, .ref (G.1 (53 + j2))), (0, .ref (G.1 50)), (1, .int x1)]) hx hb dX6_wipe_17 rfl hl (by decide) rfl (fun ls hl => ?_)
    refine lv_aload_n hx hb dX6_wipe_18 rfl (lv_at hl 1 rfl) ?_
    obtain ⟨M19, h19, hF⟩ := bdv_some hF
    refine cV_ (ci := 2) (i := 53 + j2) (C := RX2) (T := TX2) (N := 7) (As := []) (v := none) (rest := []) (st1 := []) hC hS (hn _ (mL hj2)) (ceL hj2) rfl (c_X2_empty l G hn j2 hj2 M2 _ h19) kV_X2_empty lm_X6_145 ⟨Nat.le_of_ble_eq_true rfl, Nat.le_of_ble_eq_true rfl⟩ rfl hl.1 (Nat.le_of_ble_eq_true rfl) dX6_wipe_19 ⟨Nat.le_refl _, Nat.le_refl _⟩ rfl (fun H locs hS => ?_)
    refine lv_iload_n hx hb dX6_wipe_22 rfl (lv_at hl 0 rfl) ?_
    exact retI hC hS hr hlk hF dX6_wipe_23
set_option maxRecDepth 100000 in
theorem c_X6_wipe (l : Launch) (G : GT) (hn : ∀ i ∈ LsF, i ∈ gL G) (x1 : Int32) (M : Mem) (r0 : Int32) (M0 : Mem) (hF : F_X6_wipe x1 M = some (r0, M0)) : MetG l G yX6_wipe cX6_wipe 4 (some .int) 9 189 [.ref (G.1 50), .int x1] M (some (.int r0)) M0 := by
  refine MetG.of (by decide) (Nat.le_of_ble_eq_true rfl) ?_
  intro p e s m args below meth c hC hr hlk hnm ls hS hl
  exact b_X6_wipe hC hr hlk hn _ _ _ _ _ hF hS hl
def F_X6_fault (x1 : Int32) (M : Mem) : Option (Int32 × Mem) := bdo (F_X6_lawOf x1 M) (fun M2 => some ((-2), M2)) (fun j2 M2 => ckb (decide (j2 < 2)) (some (M2.1 (10 + 6 * j2 + 1), M2)))
set_option maxHeartbeats 4000000 in
set_option maxRecDepth 100000 in
theorem b_X6_fault {M0 : Mem} {r0 : Int32} (hC : SX p m c s args cX6_fault 3 RX6 G (AG G)) (hr : meth.sig.returnType = (some .int)) (hlk : meth.locks = false) (hn : ∀ i ∈ LsF, i ∈ gL G) : ∀ (x1 : Int32) (M : Mem) (H : Heap) (locs : List Loc) (ls : Array Slot), F_X6_fault x1 M = some (r0, M0) → ST G (AG G) s M H locs → lv_has ls 3 [(0, .ref (G.1 50)), (1, .int x1)] → W p l e (RM 1 21) s m args below meth c H locs 0 0 (MQ below (QV G (some (.int r0)) M0) args s 0 0 (AG G)) (F0 m 0 ls []) := by
  obtain ⟨⟨hx, hb, hml, hown, hts⟩, hK, hG, hA⟩ := id hC
  intro x1 M H locs ls hF hS hl
  unfold F_X6_fault at hF
  refine lv_aload_n hx hb dX6_fault_0 rfl (lv_at hl 0 rfl) ?_
  refine lv_iload_n hx hb dX6_fault_1 rfl (lv_at hl 1 rfl) ?_
  rcases bdo_some hF with ⟨M2, h2, hF⟩ | ⟨j2, M2, h2, hF⟩
  · refine cV_ (ci := 6) (i := 50) (C := RX6) (T := TX6) (N := 8) (As := [.int x1]) (v := some (rfv G 53 none)) (rest := []) (st1 := [.null]) hC hS (hn _ (by decide)) rfl rfl (c_X6_lawOf l G hn x1 M _ _ h2) kV_X6_lawOf lm_X6_136 ⟨Nat.le_of_ble_eq_true rfl, Nat.le_of_ble_eq_true rfl⟩ rfl hl.1 (Nat.le_of_ble_eq_true rfl) dX6_fault_2 ⟨Nat.le_refl _, Nat.le_refl _⟩ rfl (fun H locs hS => ?_)
    refine lv_astore_nN (lv' := [(2, .null), (0, .ref (G.1 50)), (1, .int x1)]) hx hb dX6_fault_5 rfl hl (by decide) rfl (fun ls hl => ?_)
    refine lv_aload_nN hx hb dX6_fault_6 rfl (lv_at hl 0 rfl) ?_
    refine lv_ifnonnullN hx hb dX6_fault_7 ?_
    refine lv_bipush (v := (-2)) hx hb dX6_fault_10 (by decide) ?_
    refine lv_goto (tgt := 19) hx hb dX6_fault_12 (by decide) ?_
    exact retI hC hS hr hlk hF dX6_fault_19
  · obtain ⟨hj2, hF⟩ := ckb_some hF
    replace hj2 := of_decide_eq_true hj2
    refine cV_ (ci := 6) (i := 50) (C := RX6) (T := TX6) (N := 8) (As := [.int x1]) (v := some (rfv G 53 (some j2))) (rest := []) (st1 := [.ref (G.1 (53 + j2))]) hC hS (hn _ (by decide)) rfl rfl (c_X6_lawOf l G hn x1 M _ _ h2) kV_X6_lawOf lm_X6_136 ⟨Nat.le_of_ble_eq_true rfl, Nat.le_of_ble_eq_true rfl⟩ rfl hl.1 (Nat.le_of_ble_eq_true rfl) dX6_fault_2 ⟨Nat.le_refl _, Nat.le_refl _⟩ rfl (fun H locs hS => ?_)
    refine lv_astore_n (lv' := [(2, .ref (G.1 (53 + j2))), (0, .ref (G.1 50)), (1, .int x1)]) hx hb dX6_fault_5 rfl hl (by decide) rfl (fun ls hl => ?_)
    refine lv_aload_n hx hb dX6_fault_6 rfl (lv_at hl 0 rfl) ?_
    refine lv_ifnonnull (tgt := 15) hx hb dX6_fault_7 (by decide) ?_
    refine lv_aload_n hx hb dX6_fault_15 rfl (lv_at hl 0 rfl) ?_
    refine gxN (ci := 2) (k := 2) (v := .int (M2.1 (10 + 6 * j2 + 1))) (C := RX2) (T := TX2) (N := 7) hC hS (hn _ (mL hj2)) (ceL hj2) rfl in_X2 (by decide) rfl rfl ln_X6_148 dX6_fault_16 ?_
    exact retI hC hS hr hlk hF dX6_fault_19
set_option maxRecDepth 100000 in
theorem c_X6_fault (l : Launch) (G : GT) (hn : ∀ i ∈ LsF, i ∈ gL G) (x1 : Int32) (M : Mem) (r0 : Int32) (M0 : Mem) (hF : F_X6_fault x1 M = some (r0, M0)) : MetG l G yX6_fault cX6_fault 3 (some .int) 1 21 [.ref (G.1 50), .int x1] M (some (.int r0)) M0 := by
  refine MetG.of (by decide) (Nat.le_of_ble_eq_true rfl) ?_
  intro p e s m args below meth c hC hr hlk hnm ls hS hl
  exact b_X6_fault hC hr hlk hn _ _ _ _ _ hF hS hl
def F_X6_law (x1 : Int32) (x2 : Int32) (M : Mem) : Option (Int32 × Mem) := bdo (F_X6_lawOf x1 M) (fun M2 => some ((-2), M2)) (fun j2 M2 => ckb (decide (j2 < 2)) (if x2 = 0 then some (M2.1 (10 + 6 * j2 + 2), M2) else if x2 = 1 then some (M2.1 (10 + 6 * j2 + 3), M2) else if x2 = 2 then some (M2.1 (10 + 6 * j2 + 4), M2) else if x2 = 3 then some (M2.1 (10 + 6 * j2 + 5), M2) else some ((-2), M2)))
set_option maxHeartbeats 4000000 in
set_option maxRecDepth 100000 in
theorem b_X6_law {M0 : Mem} {r0 : Int32} (hC : SX p m c s args cX6_law 4 RX6 G (AG G)) (hr : meth.sig.returnType = (some .int)) (hlk : meth.locks = false) (hn : ∀ i ∈ LsF, i ∈ gL G) : ∀ (x1 : Int32) (x2 : Int32) (M : Mem) (H : Heap) (locs : List Loc) (ls : Array Slot), F_X6_law x1 x2 M = some (r0, M0) → ST G (AG G) s M H locs → lv_has ls 4 [(0, .ref (G.1 50)), (1, .int x1), (2, .int x2)] → W p l e (RM 1 21) s m args below meth c H locs 0 0 (MQ below (QV G (some (.int r0)) M0) args s 0 0 (AG G)) (F0 m 0 ls []) := by
  obtain ⟨⟨hx, hb, hml, hown, hts⟩, hK, hG, hA⟩ := id hC
  intro x1 x2 M H locs ls hF hS hl
  unfold F_X6_law at hF
  refine lv_aload_n hx hb dX6_law_0 rfl (lv_at hl 0 rfl) ?_
  refine lv_iload_n hx hb dX6_law_1 rfl (lv_at hl 1 rfl) ?_
  rcases bdo_some hF with ⟨M2, h2, hF⟩ | ⟨j2, M2, h2, hF⟩
  · refine cV_ (ci := 6) (i := 50) (C := RX6) (T := TX6) (N := 8) (As := [.int x1]) (v := some (rfv G 53 none)) (rest := []) (st1 := [.null]) hC hS (hn _ (by decide)) rfl rfl (c_X6_lawOf l G hn x1 M _ _ h2) kV_X6_lawOf lm_X6_136 ⟨Nat.le_of_ble_eq_true rfl, Nat.le_of_ble_eq_true rfl⟩ rfl hl.1 (Nat.le_of_ble_eq_true rfl) dX6_law_2 ⟨Nat.le_refl _, Nat.le_refl _⟩ rfl (fun H locs hS => ?_)
    refine lv_astore_nN (lv' := [(3, .null), (0, .ref (G.1 50)), (1, .int x1), (2, .int x2)]) hx hb dX6_law_5 rfl hl (by decide) rfl (fun ls hl => ?_)
    refine lv_aload_nN hx hb dX6_law_6 rfl (lv_at hl 0 rfl) ?_
    refine lv_ifnonnullN hx hb dX6_law_7 ?_
    refine lv_bipush (v := (-2)) hx hb dX6_law_10 (by decide) ?_
    exact retI hC hS hr hlk hF dX6_law_12
  · obtain ⟨hj2, hF⟩ := ckb_some hF
    replace hj2 := of_decide_eq_true hj2
    refine cV_ (ci := 6) (i := 50) (C := RX6) (T := TX6) (N := 8) (As := [.int x1]) (v := some (rfv G 53 (some j2))) (rest := []) (st1 := [.ref (G.1 (53 + j2))]) hC hS (hn _ (by decide)) rfl rfl (c_X6_lawOf l G hn x1 M _ _ h2) kV_X6_lawOf lm_X6_136 ⟨Nat.le_of_ble_eq_true rfl, Nat.le_of_ble_eq_true rfl⟩ rfl hl.1 (Nat.le_of_ble_eq_true rfl) dX6_law_2 ⟨Nat.le_refl _, Nat.le_refl _⟩ rfl (fun H locs hS => ?_)
    refine lv_astore_n (lv' := [(3, .ref (G.1 (53 + j2))), (0, .ref (G.1 50)), (1, .int x1), (2, .int x2)]) hx hb dX6_law_5 rfl hl (by decide) rfl (fun ls hl => ?_)
    refine lv_aload_n hx hb dX6_law_6 rfl (lv_at hl 0 rfl) ?_
    refine lv_ifnonnull (tgt := 13) hx hb dX6_law_7 (by decide) ?_
    refine lv_iload_n hx hb dX6_law_13 rfl (lv_at hl 3 rfl) ?_
    by_cases hc0 : x2 = 0
    · rw [if_pos hc0] at hF
      refine lv_tableIn (off := 30) (tgt := 44) hx hb dX6_law_14 (by rw [hc0]; decide) (by rw [hc0]; decide) (by rw [hc0]; rfl) (by decide) ?_
      refine lv_aload_n hx hb dX6_law_44 rfl (lv_at hl 0 rfl) ?_
      refine gxN (ci := 2) (k := 3) (v := .int (M2.1 (10 + 6 * j2 + 2))) (C := RX2) (T := TX2) (N := 7) hC hS (hn _ (mL hj2)) (ceL hj2) rfl in_X2 (by decide) rfl rfl ln_X6_151 dX6_law_45 ?_
      exact retI hC hS hr hlk hF dX6_law_48
    rw [if_neg hc0] at hF
    by_cases hc1 : x2 = 1
    · rw [if_pos hc1] at hF
      refine lv_tableIn (off := 35) (tgt := 49) hx hb dX6_law_14 (by rw [hc1]; decide) (by rw [hc1]; decide) (by rw [hc1]; rfl) (by decide) ?_
      refine lv_aload_n hx hb dX6_law_49 rfl (lv_at hl 0 rfl) ?_
      refine gxN (ci := 2) (k := 4) (v := .int (M2.1 (10 + 6 * j2 + 3))) (C := RX2) (T := TX2) (N := 7) hC hS (hn _ (mL hj2)) (ceL hj2) rfl in_X2 (by decide) rfl rfl ln_X6_154 dX6_law_50 ?_
      exact retI hC hS hr hlk hF dX6_law_53
    rw [if_neg hc1] at hF
    by_cases hc2 : x2 = 2
    · rw [if_pos hc2] at hF
      refine lv_tableIn (off := 40) (tgt := 54) hx hb dX6_law_14 (by rw [hc2]; decide) (by rw [hc2]; decide) (by rw [hc2]; rfl) (by decide) ?_
      refine lv_aload_n hx hb dX6_law_54 rfl (lv_at hl 0 rfl) ?_
      refine gxN (ci := 2) (k := 5) (v := .int (M2.1 (10 + 6 * j2 + 4))) (C := RX2) (T := TX2) (N := 7) hC hS (hn _ (mL hj2)) (ceL hj2) rfl in_X2 (by decide) rfl rfl ln_X6_157 dX6_law_55 ?_
      exact retI hC hS hr hlk hF dX6_law_58
    rw [if_neg hc2] at hF
    by_cases hc3 : x2 = 3
    · rw [if_pos hc3] at hF
      refine lv_tableIn (off := 45) (tgt := 59) hx hb dX6_law_14 (by rw [hc3]; decide) (by rw [hc3]; decide) (by rw [hc3]; rfl) (by decide) ?_
      refine lv_aload_n hx hb dX6_law_59 rfl (lv_at hl 0 rfl) ?_
      refine gxN (ci := 2) (k := 6) (v := .int (M2.1 (10 + 6 * j2 + 5))) (C := RX2) (T := TX2) (N := 7) hC hS (hn _ (mL hj2)) (ceL hj2) rfl in_X2 (by decide) rfl rfl ln_X6_160 dX6_law_60 ?_
      exact retI hC hS hr hlk hF dX6_law_63
    rw [if_neg hc3] at hF
    have hc0 := neI hc0
    have hc1 := neI hc1
    have hc2 := neI hc2
    have hc3 := neI hc3
    refine lv_tableOut (tgt := 64) hx hb dX6_law_14 (tOut0_3 hc0 hc1 hc2 hc3) (by decide) ?_
    refine lv_bipush (v := (-2)) hx hb dX6_law_64 (by decide) ?_
    exact retI hC hS hr hlk hF dX6_law_66
set_option maxRecDepth 100000 in
theorem c_X6_law (l : Launch) (G : GT) (hn : ∀ i ∈ LsF, i ∈ gL G) (x1 : Int32) (x2 : Int32) (M : Mem) (r0 : Int32) (M0 : Mem) (hF : F_X6_law x1 x2 M = some (r0, M0)) : MetG l G yX6_law cX6_law 4 (some .int) 1 21 [.ref (G.1 50), .int x1, .int x2] M (some (.int r0)) M0 := by
  refine MetG.of (by decide) (Nat.le_of_ble_eq_true rfl) ?_
  intro p e s m args below meth c hC hr hlk hnm ls hS hl
  exact b_X6_law hC hr hlk hn _ _ _ _ _ _ hF hS hl
def F_X6_heard (x1 : Int32) (x2 : Int32) (M : Mem) : Option (Int32 × Mem) := bdo (F_X6_lawOf x1 M) (fun M2 => some ((-2), M2)) (fun j2 M2 => ckb (decide (j2 < 2)) (if x2 < 0 then some ((-2), M2) else if x2 ≤ 2 then bd (F_X5_heardOnes M2) (fun r31 M31 => bdv (F_X1_byNumbers j2 r31 M31) (fun M34 => bd (F_X1_outcome x2 M34) (fun r42 M42 => some (r42, M42)))) else some ((-2), M2)))
set_option maxHeartbeats 4000000 in
set_option maxRecDepth 100000 in
theorem b_X6_heard {M0 : Mem} {r0 : Int32} (hC : SX p m c s args cX6_heard 4 RX6 G (AG G)) (hr : meth.sig.returnType = (some .int)) (hlk : meth.locks = false) (hn : ∀ i ∈ LsF, i ∈ gL G) : ∀ (x1 : Int32) (x2 : Int32) (M : Mem) (H : Heap) (locs : List Loc) (ls : Array Slot), F_X6_heard x1 x2 M = some (r0, M0) → ST G (AG G) s M H locs → lv_has ls 4 [(0, .ref (G.1 50)), (1, .int x1), (2, .int x2)] → W p l e (RM 4 94) s m args below meth c H locs 0 0 (MQ below (QV G (some (.int r0)) M0) args s 0 0 (AG G)) (F0 m 0 ls []) := by
  obtain ⟨⟨hx, hb, hml, hown, hts⟩, hK, hG, hA⟩ := id hC
  intro x1 x2 M H locs ls hF hS hl
  unfold F_X6_heard at hF
  refine lv_aload_n hx hb dX6_heard_0 rfl (lv_at hl 0 rfl) ?_
  refine lv_iload_n hx hb dX6_heard_1 rfl (lv_at hl 1 rfl) ?_
  rcases bdo_some hF with ⟨M2, h2, hF⟩ | ⟨j2, M2, h2, hF⟩
  · refine cV_ (ci := 6) (i := 50) (C := RX6) (T := TX6) (N := 8) (As := [.int x1]) (v := some (rfv G 53 none)) (rest := []) (st1 := [.null]) hC hS (hn _ (by decide)) rfl rfl (c_X6_lawOf l G hn x1 M _ _ h2) kV_X6_lawOf lm_X6_136 ⟨Nat.le_of_ble_eq_true rfl, Nat.le_of_ble_eq_true rfl⟩ rfl hl.1 (Nat.le_of_ble_eq_true rfl) dX6_heard_2 ⟨Nat.le_refl _, Nat.le_refl _⟩ rfl (fun H locs hS => ?_)
    refine lv_astore_nN (lv' := [(3, .null), (0, .ref (G.1 50)), (1, .int x1), (2, .int x2)]) hx hb dX6_heard_5 rfl hl (by decide) rfl (fun ls hl => ?_)
    refine lv_aload_nN hx hb dX6_heard_6 rfl (lv_at hl 0 rfl) ?_
    refine lv_ifnullN (tgt := 19) hx hb dX6_heard_7 (by decide) ?_
    refine lv_bipush (v := (-2)) hx hb dX6_heard_19 (by decide) ?_
    exact retI hC hS hr hlk hF dX6_heard_21
  · obtain ⟨hj2, hF⟩ := ckb_some hF
    replace hj2 := of_decide_eq_true hj2
    refine cV_ (ci := 6) (i := 50) (C := RX6) (T := TX6) (N := 8) (As := [.int x1]) (v := some (rfv G 53 (some j2))) (rest := []) (st1 := [.ref (G.1 (53 + j2))]) hC hS (hn _ (by decide)) rfl rfl (c_X6_lawOf l G hn x1 M _ _ h2) kV_X6_lawOf lm_X6_136 ⟨Nat.le_of_ble_eq_true rfl, Nat.le_of_ble_eq_true rfl⟩ rfl hl.1 (Nat.le_of_ble_eq_true rfl) dX6_heard_2 ⟨Nat.le_refl _, Nat.le_refl _⟩ rfl (fun H locs hS => ?_)
    refine lv_astore_n (lv' := [(3, .ref (G.1 (53 + j2))), (0, .ref (G.1 50)), (1, .int x1), (2, .int x2)]) hx hb dX6_heard_5 rfl hl (by decide) rfl (fun ls hl => ?_)
    refine lv_aload_n hx hb dX6_heard_6 rfl (lv_at hl 0 rfl) ?_
    refine lv_ifnull hx hb dX6_heard_7 ?_
    refine lv_iload_n hx hb dX6_heard_10 rfl (lv_at hl 3 rfl) ?_
    refine lv_if_lt (tgt := 19) hx hb dX6_heard_11 (by decide) (fun hc => ?_) (fun hc => ?_)
    · rw [if_pos hc] at hF
      refine lv_bipush (v := (-2)) hx hb dX6_heard_19 (by decide) ?_
      exact retI hC hS hr hlk hF dX6_heard_21
    · rw [if_neg hc] at hF
      refine lv_iload_n hx hb dX6_heard_14 rfl (lv_at hl 3 rfl) ?_
      refine lv_iconst (v := 2) hx hb dX6_heard_15 (by decide) ?_
      refine lv_icmp_le (tgt := 22) hx hb dX6_heard_16 (by decide) (fun hc => ?_) (fun hc => ?_)
      · rw [if_pos hc] at hF
        refine lv_aload_n hx hb dX6_heard_22 rfl (lv_at hl 1 rfl) ?_
        refine gx (ci := 6) (k := 5) (v := .ref (G.1 55)) (C := RX6) (T := TX6) (N := 8) hC hS (hn _ (by decide)) rfl rfl in_X6 (by decide) rfl rfl lf_X6_44 dX6_heard_23 ?_
        refine lv_aload_n hx hb dX6_heard_26 rfl (lv_at hl 0 rfl) ?_
        refine lv_aload_n hx hb dX6_heard_27 rfl (lv_at hl 1 rfl) ?_
        refine gx (ci := 6) (k := 1) (v := .ref (G.1 52)) (C := RX6) (T := TX6) (N := 8) hC hS (hn _ (by decide)) rfl rfl in_X6 (by decide) rfl rfl lf_X6_19 dX6_heard_28 ?_
        obtain ⟨r31, M31, h31, hF⟩ := bd_some hF
        refine cV_ (ci := 5) (i := 52) (C := RX5) (T := TX5) (N := 13) (As := []) (v := some (.int r31)) (rest := [.ref (G.1 (53 + j2)), .ref (G.1 55)]) (st1 := [.int r31, .ref (G.1 (53 + j2)), .ref (G.1 55)]) hC hS (hn _ (by decide)) rfl rfl (c_X5_heardOnes l G hn M2 _ _ h31) kV_X5_heardOnes lm_X6_163 ⟨Nat.le_of_ble_eq_true rfl, Nat.le_of_ble_eq_true rfl⟩ rfl hl.1 (Nat.le_of_ble_eq_true rfl) dX6_heard_31 ⟨Nat.le_refl _, Nat.le_refl _⟩ rfl (fun H locs hS => ?_)
        obtain ⟨M34, h34, hF⟩ := bdv_some hF
        refine cV_ (ci := 1) (i := 55) (C := RX1) (T := TX1) (N := 4) (As := [.ref (G.1 (53 + j2)), .int r31]) (v := none) (rest := []) (st1 := []) hC hS (hn _ (by decide)) rfl rfl (c_X1_byNumbers l G hn j2 hj2 r31 M31 _ h34) kV_X1_byNumbers lm_X6_166 ⟨Nat.le_of_ble_eq_true rfl, Nat.le_of_ble_eq_true rfl⟩ rfl hl.1 (Nat.le_of_ble_eq_true rfl) dX6_heard_34 ⟨Nat.le_refl _, Nat.le_refl _⟩ rfl (fun H locs hS => ?_)
        refine lv_aload_n hx hb dX6_heard_37 rfl (lv_at hl 1 rfl) ?_
        refine gx (ci := 6) (k := 5) (v := .ref (G.1 55)) (C := RX6) (T := TX6) (N := 8) hC hS (hn _ (by decide)) rfl rfl in_X6 (by decide) rfl rfl lf_X6_44 dX6_heard_38 ?_
        refine lv_iload_n hx hb dX6_heard_41 rfl (lv_at hl 3 rfl) ?_
        obtain ⟨r42, M42, h42, hF⟩ := bd_some hF
        refine cV_ (ci := 1) (i := 55) (C := RX1) (T := TX1) (N := 4) (As := [.int x2]) (v := some (.int r42)) (rest := []) (st1 := [.int r42]) hC hS (hn _ (by decide)) rfl rfl (c_X1_outcome l G hn x2 M34 _ _ h42) kV_X1_outcome lm_X6_170 ⟨Nat.le_of_ble_eq_true rfl, Nat.le_of_ble_eq_true rfl⟩ rfl hl.1 (Nat.le_of_ble_eq_true rfl) dX6_heard_42 ⟨Nat.le_refl _, Nat.le_refl _⟩ rfl (fun H locs hS => ?_)
        exact retI hC hS hr hlk hF dX6_heard_45
      · rw [if_neg hc] at hF
        refine lv_bipush (v := (-2)) hx hb dX6_heard_19 (by decide) ?_
        exact retI hC hS hr hlk hF dX6_heard_21
set_option maxRecDepth 100000 in
theorem c_X6_heard (l : Launch) (G : GT) (hn : ∀ i ∈ LsF, i ∈ gL G) (x1 : Int32) (x2 : Int32) (M : Mem) (r0 : Int32) (M0 : Mem) (hF : F_X6_heard x1 x2 M = some (r0, M0)) : MetG l G yX6_heard cX6_heard 4 (some .int) 4 94 [.ref (G.1 50), .int x1, .int x2] M (some (.int r0)) M0 := by
  refine MetG.of (by decide) (Nat.le_of_ble_eq_true rfl) ?_
  intro p e s m args below meth c hC hr hlk hnm ls hS hl
  exact b_X6_heard hC hr hlk hn _ _ _ _ _ _ hF hS hl
end
