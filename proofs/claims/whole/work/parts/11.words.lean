section
variable {p : Program} {l : Launch} {e : Env} {s : State} {m : MethodId} {args : Array Value} {below : List Frame} {meth : Method} {c : Code} {G : GT}
def F_X5_has_16 (M : Mem) : Option (Int32 × Mem) := some (0, M)
def F_X5_has (x1 : Int32) (M : Mem) : Option (Int32 × Mem) := if x1 < 0 then F_X5_has_16 M else if (M.1 0) ≤ x1 then F_X5_has_16 M else some (1, M)
set_option maxHeartbeats 4000000 in
set_option maxRecDepth 100000 in
theorem b_X5_has_16 {M0 : Mem} {r0 : Int32} (hC : SX p m c s args cX5_has 2 RX5 G (AG G)) (hr : meth.sig.returnType = (some .boolean)) (hlk : meth.locks = false) (hn : ∀ i ∈ LsF, i ∈ gL G) : ∀ (M : Mem) (H : Heap) (locs : List Loc) (ls : Array Slot), F_X5_has_16 M = some (r0, M0) → ST G (AG G) s M H locs → lv_has ls 2 [] → W p l e (RM 0 0) s m args below meth c H locs 0 0 (MQ below (QV G (some (.int r0)) M0) args s 0 0 (AG G)) (F0 m 16 ls []) := by
  obtain ⟨⟨hx, hb, hml, hown, hts⟩, hK, hG, hA⟩ := id hC
  intro M H locs ls hF hS hl
  unfold F_X5_has_16 at hF
  refine lv_iconst (v := 0) hx hb dX5_has_16 (by decide) ?_
  exact retZ hC hS hr hlk rfl hF dX5_has_17
set_option maxHeartbeats 4000000 in
set_option maxRecDepth 100000 in
theorem b_X5_has {M0 : Mem} {r0 : Int32} (hC : SX p m c s args cX5_has 2 RX5 G (AG G)) (hr : meth.sig.returnType = (some .boolean)) (hlk : meth.locks = false) (hn : ∀ i ∈ LsF, i ∈ gL G) : ∀ (x1 : Int32) (M : Mem) (H : Heap) (locs : List Loc) (ls : Array Slot), F_X5_has x1 M = some (r0, M0) → ST G (AG G) s M H locs → lv_has ls 2 [(0, .ref (G.1 52)), (1, .int x1)] → W p l e (RM 0 0) s m args below meth c H locs 0 0 (MQ below (QV G (some (.int r0)) M0) args s 0 0 (AG G)) (F0 m 0 ls []) := by
  obtain ⟨⟨hx, hb, hml, hown, hts⟩, hK, hG, hA⟩ := id hC
  intro x1 M H locs ls hF hS hl
  unfold F_X5_has at hF
  refine lv_iload_n hx hb dX5_has_0 rfl (lv_at hl 1 rfl) ?_
  refine lv_if_lt (tgt := 16) hx hb dX5_has_1 (by decide) (fun hc => ?_) (fun hc => ?_)
  · rw [if_pos hc] at hF
    exact b_X5_has_16 hC hr hlk hn _ _ _ _ hF hS (lv_sub hl [] rfl)
  · rw [if_neg hc] at hF
    refine lv_iload_n hx hb dX5_has_4 rfl (lv_at hl 1 rfl) ?_
    refine lv_aload_n hx hb dX5_has_5 rfl (lv_at hl 0 rfl) ?_
    refine gx (ci := 5) (k := 10) (v := .int (M.1 0)) (C := RX5) (T := TX5) (N := 13) hC hS (hn _ (by decide)) rfl rfl in_X5 (by decide) rfl rfl lf_X5_42 dX5_has_6 ?_
    refine lv_icmp_ge (tgt := 16) hx hb dX5_has_9 (by decide) (fun hc => ?_) (fun hc => ?_)
    · rw [if_pos hc] at hF
      exact b_X5_has_16 hC hr hlk hn _ _ _ _ hF hS (lv_sub hl [] rfl)
    · rw [if_neg hc] at hF
      refine lv_iconst (v := 1) hx hb dX5_has_12 (by decide) ?_
      refine lv_goto (tgt := 17) hx hb dX5_has_13 (by decide) ?_
      exact retZ hC hS hr hlk rfl hF dX5_has_17
set_option maxRecDepth 100000 in
theorem c_X5_has (l : Launch) (G : GT) (hn : ∀ i ∈ LsF, i ∈ gL G) (x1 : Int32) (M : Mem) (r0 : Int32) (M0 : Mem) (hF : F_X5_has x1 M = some (r0, M0)) : MetG l G yX5_has cX5_has 2 (some .boolean) 0 0 [.ref (G.1 52), .int x1] M (some (.int r0)) M0 := by
  refine MetG.of (by decide) (Nat.le_of_ble_eq_true rfl) ?_
  intro p e s m args below meth c hC hr hlk hnm ls hS hl
  exact b_X5_has hC hr hlk hn _ _ _ _ _ hF hS hl
def F_X5_all (M : Mem) : Option (Int32 × Mem) := some (((1 : Int32) <<< ((M.1 0) &&& 31)) - 1, M)
set_option maxHeartbeats 4000000 in
set_option maxRecDepth 100000 in
theorem b_X5_all {M0 : Mem} {r0 : Int32} (hC : SX p m c s args cX5_all 1 RX5 G (AG G)) (hr : meth.sig.returnType = (some .int)) (hlk : meth.locks = false) (hn : ∀ i ∈ LsF, i ∈ gL G) : ∀ (M : Mem) (H : Heap) (locs : List Loc) (ls : Array Slot), F_X5_all M = some (r0, M0) → ST G (AG G) s M H locs → lv_has ls 1 [(0, .ref (G.1 52))] → W p l e (RM 0 0) s m args below meth c H locs 0 0 (MQ below (QV G (some (.int r0)) M0) args s 0 0 (AG G)) (F0 m 0 ls []) := by
  obtain ⟨⟨hx, hb, hml, hown, hts⟩, hK, hG, hA⟩ := id hC
  intro M H locs ls hF hS hl
  unfold F_X5_all at hF
  refine lv_iconst (v := 1) hx hb dX5_all_0 (by decide) ?_
  refine lv_aload_n hx hb dX5_all_1 rfl (lv_at hl 0 rfl) ?_
  refine gx (ci := 5) (k := 10) (v := .int (M.1 0)) (C := RX5) (T := TX5) (N := 13) hC hS (hn _ (by decide)) rfl rfl in_X5 (by decide) rfl rfl lf_X5_42 dX5_all_2 ?_
  refine lv_ishl hx hb dX5_all_5 ?_
  refine lv_iconst (v := 1) hx hb dX5_all_6 (by decide) ?_
  refine lv_isub hx hb dX5_all_7 ?_
  exact retI hC hS hr hlk hF dX5_all_8
set_option maxRecDepth 100000 in
theorem c_X5_all (l : Launch) (G : GT) (hn : ∀ i ∈ LsF, i ∈ gL G) (M : Mem) (r0 : Int32) (M0 : Mem) (hF : F_X5_all M = some (r0, M0)) : MetG l G yX5_all cX5_all 1 (some .int) 0 0 [.ref (G.1 52)] M (some (.int r0)) M0 := by
  refine MetG.of (by decide) (Nat.le_of_ble_eq_true rfl) ?_
  intro p e s m args below meth c hC hr hlk hnm ls hS hl
  exact b_X5_all hC hr hlk hn _ _ _ _ hF hS hl
def F_X5_heardOnes (M : Mem) : Option (Int32 × Mem) := bd (F_X5_all M) (fun r1 M1 => some (r1 &&& ((M1.1 1) ^^^ (-1)), M1))
set_option maxHeartbeats 4000000 in
set_option maxRecDepth 100000 in
theorem b_X5_heardOnes {M0 : Mem} {r0 : Int32} (hC : SX p m c s args cX5_heardOnes 1 RX5 G (AG G)) (hr : meth.sig.returnType = (some .int)) (hlk : meth.locks = false) (hn : ∀ i ∈ LsF, i ∈ gL G) : ∀ (M : Mem) (H : Heap) (locs : List Loc) (ls : Array Slot), F_X5_heardOnes M = some (r0, M0) → ST G (AG G) s M H locs → lv_has ls 1 [(0, .ref (G.1 52))] → W p l e (RM 1 20) s m args below meth c H locs 0 0 (MQ below (QV G (some (.int r0)) M0) args s 0 0 (AG G)) (F0 m 0 ls []) := by
  obtain ⟨⟨hx, hb, hml, hown, hts⟩, hK, hG, hA⟩ := id hC
  intro M H locs ls hF hS hl
  unfold F_X5_heardOnes at hF
  refine lv_aload_n hx hb dX5_heardOnes_0 rfl (lv_at hl 0 rfl) ?_
  obtain ⟨r1, M1, h1, hF⟩ := bd_some hF
  refine cV_ (ci := 5) (i := 52) (C := RX5) (T := TX5) (N := 13) (As := []) (v := some (.int r1)) (rest := []) (st1 := [.int r1]) hC hS (hn _ (by decide)) rfl rfl (c_X5_all l G hn M _ _ h1) kV_X5_all lm_X5_52 ⟨Nat.le_of_ble_eq_true rfl, Nat.le_of_ble_eq_true rfl⟩ rfl hl.1 (Nat.le_of_ble_eq_true rfl) dX5_heardOnes_1 ⟨Nat.le_refl _, Nat.le_refl _⟩ rfl (fun H locs hS => ?_)
  refine lv_aload_n hx hb dX5_heardOnes_4 rfl (lv_at hl 0 rfl) ?_
  refine gx (ci := 5) (k := 11) (v := .int (M1.1 1)) (C := RX5) (T := TX5) (N := 13) hC hS (hn _ (by decide)) rfl rfl in_X5 (by decide) rfl rfl lf_X5_46 dX5_heardOnes_5 ?_
  refine lv_iconst (v := (-1)) hx hb dX5_heardOnes_8 (by decide) ?_
  refine lv_ixor hx hb dX5_heardOnes_9 ?_
  refine lv_iand hx hb dX5_heardOnes_10 ?_
  exact retI hC hS hr hlk hF dX5_heardOnes_11
set_option maxRecDepth 100000 in
theorem c_X5_heardOnes (l : Launch) (G : GT) (hn : ∀ i ∈ LsF, i ∈ gL G) (M : Mem) (r0 : Int32) (M0 : Mem) (hF : F_X5_heardOnes M = some (r0, M0)) : MetG l G yX5_heardOnes cX5_heardOnes 1 (some .int) 1 20 [.ref (G.1 52)] M (some (.int r0)) M0 := by
  refine MetG.of (by decide) (Nat.le_of_ble_eq_true rfl) ?_
  intro p e s m args below meth c hC hr hlk hnm ls hS hl
  exact b_X5_heardOnes hC hr hlk hn _ _ _ _ hF hS hl
def F_J6_bitCount_0f7a4 (x0 : Int32) (M : Mem) : Option (Int32 × Mem) := some ((((((((x0 - (((x0.toUInt32 >>> ((1 : Int32).toUInt32 &&& Int32.toUInt32 31)).toInt32) &&& 1431655765)) &&& 858993459) + ((((x0 - (((x0.toUInt32 >>> ((1 : Int32).toUInt32 &&& Int32.toUInt32 31)).toInt32) &&& 1431655765)).toUInt32 >>> ((2 : Int32).toUInt32 &&& Int32.toUInt32 31)).toInt32) &&& 858993459)) + (((((x0 - (((x0.toUInt32 >>> ((1 : Int32).toUInt32 &&& Int32.toUInt32 31)).toInt32) &&& 1431655765)) &&& 858993459) + ((((x0 - (((x0.toUInt32 >>> ((1 : Int32).toUInt32 &&& Int32.toUInt32 31)).toInt32) &&& 1431655765)).toUInt32 >>> ((2 : Int32).toUInt32 &&& Int32.toUInt32 31)).toInt32) &&& 858993459)).toUInt32 >>> ((4 : Int32).toUInt32 &&& Int32.toUInt32 31)).toInt32)) &&& 252645135) + (((((((x0 - (((x0.toUInt32 >>> ((1 : Int32).toUInt32 &&& Int32.toUInt32 31)).toInt32) &&& 1431655765)) &&& 858993459) + ((((x0 - (((x0.toUInt32 >>> ((1 : Int32).toUInt32 &&& Int32.toUInt32 31)).toInt32) &&& 1431655765)).toUInt32 >>> ((2 : Int32).toUInt32 &&& Int32.toUInt32 31)).toInt32) &&& 858993459)) + (((((x0 - (((x0.toUInt32 >>> ((1 : Int32).toUInt32 &&& Int32.toUInt32 31)).toInt32) &&& 1431655765)) &&& 858993459) + ((((x0 - (((x0.toUInt32 >>> ((1 : Int32).toUInt32 &&& Int32.toUInt32 31)).toInt32) &&& 1431655765)).toUInt32 >>> ((2 : Int32).toUInt32 &&& Int32.toUInt32 31)).toInt32) &&& 858993459)).toUInt32 >>> ((4 : Int32).toUInt32 &&& Int32.toUInt32 31)).toInt32)) &&& 252645135).toUInt32 >>> ((8 : Int32).toUInt32 &&& Int32.toUInt32 31)).toInt32)) + ((((((((x0 - (((x0.toUInt32 >>> ((1 : Int32).toUInt32 &&& Int32.toUInt32 31)).toInt32) &&& 1431655765)) &&& 858993459) + ((((x0 - (((x0.toUInt32 >>> ((1 : Int32).toUInt32 &&& Int32.toUInt32 31)).toInt32) &&& 1431655765)).toUInt32 >>> ((2 : Int32).toUInt32 &&& Int32.toUInt32 31)).toInt32) &&& 858993459)) + (((((x0 - (((x0.toUInt32 >>> ((1 : Int32).toUInt32 &&& Int32.toUInt32 31)).toInt32) &&& 1431655765)) &&& 858993459) + ((((x0 - (((x0.toUInt32 >>> ((1 : Int32).toUInt32 &&& Int32.toUInt32 31)).toInt32) &&& 1431655765)).toUInt32 >>> ((2 : Int32).toUInt32 &&& Int32.toUInt32 31)).toInt32) &&& 858993459)).toUInt32 >>> ((4 : Int32).toUInt32 &&& Int32.toUInt32 31)).toInt32)) &&& 252645135) + (((((((x0 - (((x0.toUInt32 >>> ((1 : Int32).toUInt32 &&& Int32.toUInt32 31)).toInt32) &&& 1431655765)) &&& 858993459) + ((((x0 - (((x0.toUInt32 >>> ((1 : Int32).toUInt32 &&& Int32.toUInt32 31)).toInt32) &&& 1431655765)).toUInt32 >>> ((2 : Int32).toUInt32 &&& Int32.toUInt32 31)).toInt32) &&& 858993459)) + (((((x0 - (((x0.toUInt32 >>> ((1 : Int32).toUInt32 &&& Int32.toUInt32 31)).toInt32) &&& 1431655765)) &&& 858993459) + ((((x0 - (((x0.toUInt32 >>> ((1 : Int32).toUInt32 &&& Int32.toUInt32 31)).toInt32) &&& 1431655765)).toUInt32 >>> ((2 : Int32).toUInt32 &&& Int32.toUInt32 31)).toInt32) &&& 858993459)).toUInt32 >>> ((4 : Int32).toUInt32 &&& Int32.toUInt32 31)).toInt32)) &&& 252645135).toUInt32 >>> ((8 : Int32).toUInt32 &&& Int32.toUInt32 31)).toInt32)).toUInt32 >>> ((16 : Int32).toUInt32 &&& Int32.toUInt32 31)).toInt32)) &&& 63, M)
set_option maxHeartbeats 4000000 in
set_option maxRecDepth 100000 in
theorem b_J6_bitCount_0f7a4 {M0 : Mem} {r0 : Int32} (hC : SX p m c s args cJ6_bitCount_0f7a4 1 RJ6 G (AG G)) (hr : meth.sig.returnType = (some .int)) (hlk : meth.locks = false) : ∀ (x0 : Int32) (M : Mem) (H : Heap) (locs : List Loc) (ls : Array Slot), F_J6_bitCount_0f7a4 x0 M = some (r0, M0) → ST G (AG G) s M H locs → lv_has ls 1 [(0, .int x0)] → W p l e (RM 0 0) s m args below meth c H locs 0 0 (MQ below (QV G (some (.int r0)) M0) args s 0 0 (AG G)) (F0 m 0 ls []) := by
  obtain ⟨⟨hx, hb, hml, hown, hts⟩, hK, hG, hA⟩ := id hC
  intro x0 M H locs ls hF hS hl
  unfold F_J6_bitCount_0f7a4 at hF
  refine lv_iload_n hx hb dJ6_bitCount_0f7a4_0 rfl (lv_at hl 0 rfl) ?_
  refine lv_iload_n hx hb dJ6_bitCount_0f7a4_1 rfl (lv_at hl 0 rfl) ?_
  refine lv_iconst (v := 1) hx hb dJ6_bitCount_0f7a4_2 (by decide) ?_
  refine lv_iushr hx hb dJ6_bitCount_0f7a4_3 rfl ?_
  refine lv_ldcw (v := 1431655765) hx hb hown (hts _ lc_J6_265) dJ6_bitCount_0f7a4_4 ?_
  refine lv_iand hx hb dJ6_bitCount_0f7a4_7 ?_
  refine lv_isub hx hb dJ6_bitCount_0f7a4_8 ?_
  refine lv_istore_n (lv' := [(0, .int (x0 - (((x0.toUInt32 >>> ((1 : Int32).toUInt32 &&& Int32.toUInt32 31)).toInt32) &&& 1431655765)))]) hx hb dJ6_bitCount_0f7a4_9 rfl hl (by decide) rfl (fun ls hl => ?_)
  refine lv_iload_n hx hb dJ6_bitCount_0f7a4_10 rfl (lv_at hl 0 rfl) ?_
  refine lv_ldcw (v := 858993459) hx hb hown (hts _ lc_J6_266) dJ6_bitCount_0f7a4_11 ?_
  refine lv_iand hx hb dJ6_bitCount_0f7a4_14 ?_
  refine lv_iload_n hx hb dJ6_bitCount_0f7a4_15 rfl (lv_at hl 0 rfl) ?_
  refine lv_iconst (v := 2) hx hb dJ6_bitCount_0f7a4_16 (by decide) ?_
  refine lv_iushr hx hb dJ6_bitCount_0f7a4_17 rfl ?_
  refine lv_ldcw (v := 858993459) hx hb hown (hts _ lc_J6_266) dJ6_bitCount_0f7a4_18 ?_
  refine lv_iand hx hb dJ6_bitCount_0f7a4_21 ?_
  refine lv_iadd hx hb dJ6_bitCount_0f7a4_22 ?_
  refine lv_istore_n (lv' := [(0, .int (((x0 - (((x0.toUInt32 >>> ((1 : Int32).toUInt32 &&& Int32.toUInt32 31)).toInt32) &&& 1431655765)) &&& 858993459) + ((((x0 - (((x0.toUInt32 >>> ((1 : Int32).toUInt32 &&& Int32.toUInt32 31)).toInt32) &&& 1431655765)).toUInt32 >>> ((2 : Int32).toUInt32 &&& Int32.toUInt32 31)).toInt32) &&& 858993459)))]) hx hb dJ6_bitCount_0f7a4_23 rfl hl (by decide) rfl (fun ls hl => ?_)
  refine lv_iload_n hx hb dJ6_bitCount_0f7a4_24 rfl (lv_at hl 0 rfl) ?_
  refine lv_iload_n hx hb dJ6_bitCount_0f7a4_25 rfl (lv_at hl 0 rfl) ?_
  refine lv_iconst (v := 4) hx hb dJ6_bitCount_0f7a4_26 (by decide) ?_
  refine lv_iushr hx hb dJ6_bitCount_0f7a4_27 rfl ?_
  refine lv_iadd hx hb dJ6_bitCount_0f7a4_28 ?_
  refine lv_ldcw (v := 252645135) hx hb hown (hts _ lc_J6_267) dJ6_bitCount_0f7a4_29 ?_
  refine lv_iand hx hb dJ6_bitCount_0f7a4_32 ?_
  refine lv_istore_n (lv' := [(0, .int (((((x0 - (((x0.toUInt32 >>> ((1 : Int32).toUInt32 &&& Int32.toUInt32 31)).toInt32) &&& 1431655765)) &&& 858993459) + ((((x0 - (((x0.toUInt32 >>> ((1 : Int32).toUInt32 &&& Int32.toUInt32 31)).toInt32) &&& 1431655765)).toUInt32 >>> ((2 : Int32).toUInt32 &&& Int32.toUInt32 31)).toInt32) &&& 858993459)) + (((((x0 - (((x0.toUInt32 >>> ((1 : Int32).toUInt32 &&& Int32.toUInt32 31)).toInt32) &&& 1431655765)) &&& 858993459) + ((((x0 - (((x0.toUInt32 >>> ((1 : Int32).toUInt32 &&& Int32.toUInt32 31)).toInt32) &&& 1431655765)).toUInt32 >>> ((2 : Int32).toUInt32 &&& Int32.toUInt32 31)).toInt32) &&& 858993459)).toUInt32 >>> ((4 : Int32).toUInt32 &&& Int32.toUInt32 31)).toInt32)) &&& 252645135))]) hx hb dJ6_bitCount_0f7a4_33 rfl hl (by decide) rfl (fun ls hl => ?_)
  refine lv_iload_n hx hb dJ6_bitCount_0f7a4_34 rfl (lv_at hl 0 rfl) ?_
  refine lv_iload_n hx hb dJ6_bitCount_0f7a4_35 rfl (lv_at hl 0 rfl) ?_
  refine lv_bipush (v := 8) hx hb dJ6_bitCount_0f7a4_36 (by decide) ?_
  refine lv_iushr hx hb dJ6_bitCount_0f7a4_38 rfl ?_
  refine lv_iadd hx hb dJ6_bitCount_0f7a4_39 ?_
  refine lv_istore_n (lv' := [(0, .int ((((((x0 - (((x0.toUInt32 >>> ((1 : Int32).toUInt32 &&& Int32.toUInt32 31)).toInt32) &&& 1431655765)) &&& 858993459) + ((((x0 - (((x0.toUInt32 >>> ((1 : Int32).toUInt32 &&& Int32.toUInt32 31)).toInt32) &&& 1431655765)).toUInt32 >>> ((2 : Int32).toUInt32 &&& Int32.toUInt32 31)).toInt32) &&& 858993459)) + (((((x0 - (((x0.toUInt32 >>> ((1 : Int32).toUInt32 &&& Int32.toUInt32 31)).toInt32) &&& 1431655765)) &&& 858993459) + ((((x0 - (((x0.toUInt32 >>> ((1 : Int32).toUInt32 &&& Int32.toUInt32 31)).toInt32) &&& 1431655765)).toUInt32 >>> ((2 : Int32).toUInt32 &&& Int32.toUInt32 31)).toInt32) &&& 858993459)).toUInt32 >>> ((4 : Int32).toUInt32 &&& Int32.toUInt32 31)).toInt32)) &&& 252645135) + (((((((x0 - (((x0.toUInt32 >>> ((1 : Int32).toUInt32 &&& Int32.toUInt32 31)).toInt32) &&& 1431655765)) &&& 858993459) + ((((x0 - (((x0.toUInt32 >>> ((1 : Int32).toUInt32 &&& Int32.toUInt32 31)).toInt32) &&& 1431655765)).toUInt32 >>> ((2 : Int32).toUInt32 &&& Int32.toUInt32 31)).toInt32) &&& 858993459)) + (((((x0 - (((x0.toUInt32 >>> ((1 : Int32).toUInt32 &&& Int32.toUInt32 31)).toInt32) &&& 1431655765)) &&& 858993459) + ((((x0 - (((x0.toUInt32 >>> ((1 : Int32).toUInt32 &&& Int32.toUInt32 31)).toInt32) &&& 1431655765)).toUInt32 >>> ((2 : Int32).toUInt32 &&& Int32.toUInt32 31)).toInt32) &&& 858993459)).toUInt32 >>> ((4 : Int32).toUInt32 &&& Int32.toUInt32 31)).toInt32)) &&& 252645135).toUInt32 >>> ((8 : Int32).toUInt32 &&& Int32.toUInt32 31)).toInt32)))]) hx hb dJ6_bitCount_0f7a4_40 rfl hl (by decide) rfl (fun ls hl => ?_)
  refine lv_iload_n hx hb dJ6_bitCount_0f7a4_41 rfl (lv_at hl 0 rfl) ?_
  refine lv_iload_n hx hb dJ6_bitCount_0f7a4_42 rfl (lv_at hl 0 rfl) ?_
  refine lv_bipush (v := 16) hx hb dJ6_bitCount_0f7a4_43 (by decide) ?_
  refine lv_iushr hx hb dJ6_bitCount_0f7a4_45 rfl ?_
  refine lv_iadd hx hb dJ6_bitCount_0f7a4_46 ?_
  refine lv_istore_n (lv' := [(0, .int (((((((x0 - (((x0.toUInt32 >>> ((1 : Int32).toUInt32 &&& Int32.toUInt32 31)).toInt32) &&& 1431655765)) &&& 858993459) + ((((x0 - (((x0.toUInt32 >>> ((1 : Int32).toUInt32 &&& Int32.toUInt32 31)).toInt32) &&& 1431655765)).toUInt32 >>> ((2 : Int32).toUInt32 &&& Int32.toUInt32 31)).toInt32) &&& 858993459)) + (((((x0 - (((x0.toUInt32 >>> ((1 : Int32).toUInt32 &&& Int32.toUInt32 31)).toInt32) &&& 1431655765)) &&& 858993459) + ((((x0 - (((x0.toUInt32 >>> ((1 : Int32).toUInt32 &&& Int32.toUInt32 31)).toInt32) &&& 1431655765)).toUInt32 >>> ((2 : Int32).toUInt32 &&& Int32.toUInt32 31)).toInt32) &&& 858993459)).toUInt32 >>> ((4 : Int32).toUInt32 &&& Int32.toUInt32 31)).toInt32)) &&& 252645135) + (((((((x0 - (((x0.toUInt32 >>> ((1 : Int32).toUInt32 &&& Int32.toUInt32 31)).toInt32) &&& 1431655765)) &&& 858993459) + ((((x0 - (((x0.toUInt32 >>> ((1 : Int32).toUInt32 &&& Int32.toUInt32 31)).toInt32) &&& 1431655765)).toUInt32 >>> ((2 : Int32).toUInt32 &&& Int32.toUInt32 31)).toInt32) &&& 858993459)) + (((((x0 - (((x0.toUInt32 >>> ((1 : Int32).toUInt32 &&& Int32.toUInt32 31)).toInt32) &&& 1431655765)) &&& 858993459) + ((((x0 - (((x0.toUInt32 >>> ((1 : Int32).toUInt32 &&& Int32.toUInt32 31)).toInt32) &&& 1431655765)).toUInt32 >>> ((2 : Int32).toUInt32 &&& Int32.toUInt32 31)).toInt32) &&& 858993459)).toUInt32 >>> ((4 : Int32).toUInt32 &&& Int32.toUInt32 31)).toInt32)) &&& 252645135).toUInt32 >>> ((8 : Int32).toUInt32 &&& Int32.toUInt32 31)).toInt32)) + ((((((((x0 - (((x0.toUInt32 >>> ((1 : Int32).toUInt32 &&& Int32.toUInt32 31)).toInt32) &&& 1431655765)) &&& 858993459) + ((((x0 - (((x0.toUInt32 >>> ((1 : Int32).toUInt32 &&& Int32.toUInt32 31)).toInt32) &&& 1431655765)).toUInt32 >>> ((2 : Int32).toUInt32 &&& Int32.toUInt32 31)).toInt32) &&& 858993459)) + (((((x0 - (((x0.toUInt32 >>> ((1 : Int32).toUInt32 &&& Int32.toUInt32 31)).toInt32) &&& 1431655765)) &&& 858993459) + ((((x0 - (((x0.toUInt32 >>> ((1 : Int32).toUInt32 &&& Int32.toUInt32 31)).toInt32) &&& 1431655765)).toUInt32 >>> ((2 : Int32).toUInt32 &&& Int32.toUInt32 31)).toInt32) &&& 858993459)).toUInt32 >>> ((4 : Int32).toUInt32 &&& Int32.toUInt32 31)).toInt32)) &&& 252645135) + (((((((x0 - (((x0.toUInt32 >>> ((1 : Int32).toUInt32 &&& Int32.toUInt32 31)).toInt32) &&& 1431655765)) &&& 858993459) + ((((x0 - (((x0.toUInt32 >>> ((1 : Int32).toUInt32 &&& Int32.toUInt32 31)).toInt32) &&& 1431655765)).toUInt32 >>> ((2 : Int32).toUInt32 &&& Int32.toUInt32 31)).toInt32) &&& 858993459)) + (((((x0 - (((x0.toUInt32 >>> ((1 : Int32).toUInt32 &&& Int32.toUInt32 31)).toInt32) &&& 1431655765)) &&& 858993459) + ((((x0 - (((x0.toUInt32 >>> ((1 : Int32).toUInt32 &&& Int32.toUInt32 31)).toInt32) &&& 1431655765)).toUInt32 >>> ((2 : Int32).toUInt32 &&& Int32.toUInt32 31)).toInt32) &&& 858993459)).toUInt32 >>> ((4 : Int32).toUInt32 &&& Int32.toUInt32 31)).toInt32)) &&& 252645135).toUInt32 >>> ((8 : Int32).toUInt32 &&& Int32.toUInt32 31)).toInt32)).toUInt32 >>> ((16 : Int32).toUInt32 &&& Int32.toUInt32 31)).toInt32)))]) hx hb dJ6_bitCount_0f7a4_47 rfl hl (by decide) rfl (fun ls hl => ?_)
  refine lv_iload_n hx hb dJ6_bitCount_0f7a4_48 rfl (lv_at hl 0 rfl) ?_
  refine lv_bipush (v := 63) hx hb dJ6_bitCount_0f7a4_49 (by decide) ?_
  refine lv_iand hx hb dJ6_bitCount_0f7a4_51 ?_
  exact retI hC hS hr hlk hF dJ6_bitCount_0f7a4_52
set_option maxRecDepth 100000 in
theorem c_J6_bitCount_0f7a4 (l : Launch) (G : GT) (x0 : Int32) (M : Mem) (r0 : Int32) (M0 : Mem) (hF : F_J6_bitCount_0f7a4 x0 M = some (r0, M0)) : MetG l G yJ6_bitCount_0f7a4 cJ6_bitCount_0f7a4 1 (some .int) 0 0 [.int x0] M (some (.int r0)) M0 := by
  refine MetG.of (by decide) (Nat.le_of_ble_eq_true rfl) ?_
  intro p e s m args below meth c hC hr hlk hnm ls hS hl
  exact b_J6_bitCount_0f7a4 hC hr hlk _ _ _ _ _ hF hS hl
def F_J7_fill_53178_5 (a0 : Nat) : Nat → Int32 → Int32 → Int32 → Mem → Option Mem
  | 0, _, _, _, _ => none
  | n + 1, x1, x2, x3, M => if x3 ≤ x2 then some M else ckb (ix x2 (al a0)) (F_J7_fill_53178_5 a0 n x1 (x2 + 1) x3 (sa M a0 x2.toNatClampNeg x1))
def F_J7_fill_53178 (a0 : Nat) (x1 : Int32) (M : Mem) : Option Mem := F_J7_fill_53178_5 a0 fu x1 0 (Int32.ofNat (al a0)) M
set_option maxHeartbeats 4000000 in
set_option maxRecDepth 100000 in
theorem b_J7_fill_53178_5 {a0 : Nat} {M0 : Mem} (hC : SX p m c s args cJ7_fill_53178 4 RJ7 G (AG G)) (hr : meth.sig.returnType = none) (hlk : meth.locks = false) (ha0 : a0 ∈ gL G ∧ a0 < 50 ∧ ak a0 = 0) : ∀ (n : Nat) (x1 : Int32) (x2 : Int32) (x3 : Int32) (M : Mem) (H : Heap) (locs : List Loc) (ls : Array Slot), F_J7_fill_53178_5 a0 n x1 x2 x3 M = some M0 → ST G (AG G) s M H locs → lv_has ls 4 [(0, .ref (G.1 a0)), (1, .int x1), (2, .int x2), (3, .int x3)] → W p l e (RM 0 0) s m args below meth c H locs 0 0 (MQ below (QV G none M0) args s 0 0 (AG G)) (F0 m 5 ls []) := by
  obtain ⟨⟨hx, hb, hml, hown, hts⟩, hK, hG, hA⟩ := id hC
  intro n
  induction n with
  | zero =>
    intro x1 x2 x3 M H locs ls hF
    cases hF
  | succ n ih =>
    intro x1 x2 x3 M H locs ls hF hS hl
    unfold F_J7_fill_53178_5 at hF
    refine lv_iload_n hx hb dJ7_fill_53178_5 rfl (lv_at hl 2 rfl) ?_
    refine lv_iload_n hx hb dJ7_fill_53178_6 rfl (lv_at hl 3 rfl) ?_
    refine lv_icmp_ge (tgt := 20) hx hb dJ7_fill_53178_7 (by decide) (fun hc => ?_) (fun hc => ?_)
    · rw [if_pos hc] at hF
      exact retV hC hS hr hlk hF dJ7_fill_53178_20
    · rw [if_neg hc] at hF
      refine lv_aload_n hx hb dJ7_fill_53178_10 rfl (lv_at hl 0 rfl) ?_
      refine lv_iload_n hx hb dJ7_fill_53178_11 rfl (lv_at hl 2 rfl) ?_
      refine lv_iload_n hx hb dJ7_fill_53178_12 rfl (lv_at hl 1 rfl) ?_
      obtain ⟨hi, hF⟩ := ckb_some hF
      refine ast hC hS ha0.1 ha0.2.1 ha0.2.2 hi dJ7_fill_53178_13 (fun H locs hS => ?_)
      refine lv_iinc (v := x2 + 1) (lv' := [(2, .int (x2 + 1)), (0, .ref (G.1 a0)), (1, .int x1), (3, .int x3)]) hx hb dJ7_fill_53178_14 hl (k := 2) rfl rfl (by decide) rfl (fun ls hl => ?_)
      refine lv_goto (tgt := 5) hx hb dJ7_fill_53178_17 (by decide) ?_
      exact ih _ _ _ _ _ _ _ hF hS (lv_sub hl [1, 2, 0, 3] rfl)
set_option maxHeartbeats 4000000 in
set_option maxRecDepth 100000 in
theorem b_J7_fill_53178 {a0 : Nat} {M0 : Mem} (hC : SX p m c s args cJ7_fill_53178 4 RJ7 G (AG G)) (hr : meth.sig.returnType = none) (hlk : meth.locks = false) (ha0 : a0 ∈ gL G ∧ a0 < 50 ∧ ak a0 = 0) : ∀ (x1 : Int32) (M : Mem) (H : Heap) (locs : List Loc) (ls : Array Slot), F_J7_fill_53178 a0 x1 M = some M0 → ST G (AG G) s M H locs → lv_has ls 4 [(0, .ref (G.1 a0)), (1, .int x1)] → W p l e (RM 0 0) s m args below meth c H locs 0 0 (MQ below (QV G none M0) args s 0 0 (AG G)) (F0 m 0 ls []) := by
  obtain ⟨⟨hx, hb, hml, hown, hts⟩, hK, hG, hA⟩ := id hC
  intro x1 M H locs ls hF hS hl
  unfold F_J7_fill_53178 at hF
  refine lv_iconst (v := 0) hx hb dJ7_fill_53178_0 (by decide) ?_
  refine lv_istore_n (lv' := [(2, .int 0), (0, .ref (G.1 a0)), (1, .int x1)]) hx hb dJ7_fill_53178_1 rfl hl (by decide) rfl (fun ls hl => ?_)
  refine lv_aload_n hx hb dJ7_fill_53178_2 rfl (lv_at hl 1 rfl) ?_
  refine alen_ hC hS ha0.1 ha0.2.1 ha0.2.2 dJ7_fill_53178_3 ?_
  refine lv_istore_n (lv' := [(3, .int (Int32.ofNat (al a0))), (2, .int 0), (0, .ref (G.1 a0)), (1, .int x1)]) hx hb dJ7_fill_53178_4 rfl hl (by decide) rfl (fun ls hl => ?_)
  exact b_J7_fill_53178_5 hC hr hlk ha0 fu _ _ _ _ _ _ _ hF hS (lv_sub hl [2, 3, 1, 0] rfl)
set_option maxRecDepth 100000 in
theorem c_J7_fill_53178 (l : Launch) (G : GT) (a0 : Nat) (ha0 : a0 ∈ gL G ∧ a0 < 50 ∧ ak a0 = 0) (x1 : Int32) (M : Mem) (M0 : Mem) (hF : F_J7_fill_53178 a0 x1 M = some M0) : MetG l G yJ7_fill_53178 cJ7_fill_53178 4 none 0 0 [.ref (G.1 a0), .int x1] M none M0 := by
  refine MetG.of (by decide) (Nat.le_of_ble_eq_true rfl) ?_
  intro p e s m args below meth c hC hr hlk hnm ls hS hl
  exact b_J7_fill_53178 hC hr hlk ha0 _ _ _ _ _ hF hS hl
def F_X5_isTooFar (x1 : Int32) (x2 : Int32) (M : Mem) : Option (Int32 × Mem) := ckb (ix x1 10) (ckb (ix x2 10) (bd (F_X3_between (M.2 5 x1.toNatClampNeg) (M.2 5 x2.toNatClampNeg) M) (fun r13 M13 => ckb (ix x1 10) (ckb (ix x2 10) (if r13 ≤ (if 0 ≤ ((M13.2 6 x1.toNatClampNeg) - (M13.2 6 x2.toNatClampNeg)) then ((M13.2 6 x1.toNatClampNeg) - (M13.2 6 x2.toNatClampNeg)) else 0 - ((M13.2 6 x1.toNatClampNeg) - (M13.2 6 x2.toNatClampNeg))) then some (0, M13) else some (1, M13))))))
set_option maxHeartbeats 4000000 in
set_option maxRecDepth 100000 in
theorem b_X5_isTooFar {M0 : Mem} {r0 : Int32} (hC : SX p m c s args cX5_isTooFar 4 RX5 G (AG G)) (hr : meth.sig.returnType = (some .boolean)) (hlk : meth.locks = false) (hn : ∀ i ∈ LsF, i ∈ gL G) : ∀ (x1 : Int32) (x2 : Int32) (M : Mem) (H : Heap) (locs : List Loc) (ls : Array Slot), F_X5_isTooFar x1 x2 M = some (r0, M0) → ST G (AG G) s M H locs → lv_has ls 4 [(0, .ref (G.1 52)), (1, .int x1), (2, .int x2), (3, .ref (G.1 51))] → W p l e (RM 1 30) s m args below meth c H locs 0 0 (MQ below (QV G (some (.int r0)) M0) args s 0 0 (AG G)) (F0 m 0 ls []) := by
  obtain ⟨⟨hx, hb, hml, hown, hts⟩, hK, hG, hA⟩ := id hC
  intro x1 x2 M H locs ls hF hS hl
  unfold F_X5_isTooFar at hF
  refine lv_aload_n hx hb dX5_isTooFar_0 rfl (lv_at hl 3 rfl) ?_
  refine lv_aload_n hx hb dX5_isTooFar_1 rfl (lv_at hl 0 rfl) ?_
  refine gx (ci := 5) (k := 3) (v := .ref (G.1 5)) (C := RX5) (T := TX5) (N := 13) hC hS (hn _ (by decide)) rfl rfl in_X5 (by decide) rfl rfl lf_X5_21 dX5_isTooFar_2 ?_
  refine lv_iload_n hx hb dX5_isTooFar_5 rfl (lv_at hl 1 rfl) ?_
  obtain ⟨hi, hF⟩ := ckb_some hF
  refine ald hC hS (hn _ (by decide)) (by decide) rfl hi dX5_isTooFar_6 ?_
  refine lv_aload_n hx hb dX5_isTooFar_7 rfl (lv_at hl 0 rfl) ?_
  refine gx (ci := 5) (k := 3) (v := .ref (G.1 5)) (C := RX5) (T := TX5) (N := 13) hC hS (hn _ (by decide)) rfl rfl in_X5 (by decide) rfl rfl lf_X5_21 dX5_isTooFar_8 ?_
  refine lv_iload_n hx hb dX5_isTooFar_11 rfl (lv_at hl 2 rfl) ?_
  obtain ⟨hi, hF⟩ := ckb_some hF
  refine ald hC hS (hn _ (by decide)) (by decide) rfl hi dX5_isTooFar_12 ?_
  obtain ⟨r13, M13, h13, hF⟩ := bd_some hF
  refine cV_ (ci := 3) (i := 51) (C := RX3) (T := TX3) (N := 2) (As := [.int (M.2 5 x1.toNatClampNeg), .int (M.2 5 x2.toNatClampNeg)]) (v := some (.int r13)) (rest := []) (st1 := [.int r13]) hC hS (hn _ (by decide)) rfl rfl (c_X3_between l G (fun i h => hn i (subR i h)) (M.2 5 x1.toNatClampNeg) (M.2 5 x2.toNatClampNeg) M _ _ h13) kV_X3_between lm_X5_76 ⟨Nat.le_of_ble_eq_true rfl, Nat.le_of_ble_eq_true rfl⟩ rfl hl.1 (Nat.le_of_ble_eq_true rfl) dX5_isTooFar_13 ⟨Nat.le_refl _, Nat.le_refl _⟩ rfl (fun H locs hS => ?_)
  refine lv_aload_n hx hb dX5_isTooFar_16 rfl (lv_at hl 0 rfl) ?_
  refine gx (ci := 5) (k := 4) (v := .ref (G.1 6)) (C := RX5) (T := TX5) (N := 13) hC hS (hn _ (by decide)) rfl rfl in_X5 (by decide) rfl rfl lf_X5_24 dX5_isTooFar_17 ?_
  refine lv_iload_n hx hb dX5_isTooFar_20 rfl (lv_at hl 1 rfl) ?_
  obtain ⟨hi, hF⟩ := ckb_some hF
  refine ald hC hS (hn _ (by decide)) (by decide) rfl hi dX5_isTooFar_21 ?_
  refine lv_aload_n hx hb dX5_isTooFar_22 rfl (lv_at hl 0 rfl) ?_
  refine gx (ci := 5) (k := 4) (v := .ref (G.1 6)) (C := RX5) (T := TX5) (N := 13) hC hS (hn _ (by decide)) rfl rfl in_X5 (by decide) rfl rfl lf_X5_24 dX5_isTooFar_23 ?_
  refine lv_iload_n hx hb dX5_isTooFar_26 rfl (lv_at hl 2 rfl) ?_
  obtain ⟨hi, hF⟩ := ckb_some hF
  refine ald hC hS (hn _ (by decide)) (by decide) rfl hi dX5_isTooFar_27 ?_
  refine lv_isub hx hb dX5_isTooFar_28 ?_
  refine va_mabs (rest := [.int r13]) hx hb (hml.trans hl.1.symm) hown (hts _ lm_X5_82) (hts _ mx_abs.1) (hts _ mx_abs.2.1) (hts _ mx_abs.2.2) (Nat.le_of_ble_eq_true rfl) (Nat.le_of_ble_eq_true rfl) (Nat.le_refl _) (Nat.le_refl _) dX5_isTooFar_29 ?_
  refine lv_icmp_le (tgt := 39) hx hb dX5_isTooFar_32 (by decide) (fun hc => ?_) (fun hc => ?_)
  · rw [if_pos hc] at hF
    refine lv_iconst (v := 0) hx hb dX5_isTooFar_39 (by decide) ?_
    exact retZ hC hS hr hlk rfl hF dX5_isTooFar_40
  · rw [if_neg hc] at hF
    refine lv_iconst (v := 1) hx hb dX5_isTooFar_35 (by decide) ?_
    refine lv_goto (tgt := 40) hx hb dX5_isTooFar_36 (by decide) ?_
    exact retZ hC hS hr hlk rfl hF dX5_isTooFar_40
set_option maxRecDepth 100000 in
theorem c_X5_isTooFar (l : Launch) (G : GT) (hn : ∀ i ∈ LsF, i ∈ gL G) (x1 : Int32) (x2 : Int32) (M : Mem) (r0 : Int32) (M0 : Mem) (hF : F_X5_isTooFar x1 x2 M = some (r0, M0)) : MetG l G yX5_isTooFar cX5_isTooFar 4 (some .boolean) 1 30 [.ref (G.1 52), .int x1, .int x2, .ref (G.1 51)] M (some (.int r0)) M0 := by
  refine MetG.of (by decide) (Nat.le_of_ble_eq_true rfl) ?_
  intro p e s m args below meth c hC hr hlk hnm ls hS hl
  exact b_X5_isTooFar hC hr hlk hn _ _ _ _ _ _ hF hS hl
def F_X5_weighAll_99 (k23 : Int32 → Mem → Option Mem) (x2 : Int32) (M : Mem) : Option Mem := k23 (x2 + 1) M
def F_X5_weighAll_23 : Nat → Int32 → Mem → Option Mem
  | 0, _, _ => none
  | n + 1, x2, M => if (M.1 0) ≤ x2 then some M else ckb (ix x2 10) (if (M.2 2 x2.toNatClampNeg) = 2 then ckb (ix x2 10) (bd (F_X5_isTooFar x2 (M.2 7 x2.toNatClampNeg) M) (fun r50 M50 => if r50 = 0 then F_X5_weighAll_99 (F_X5_weighAll_23 n) x2 M50 else ckb (ix x2 10) (ckb (ix x2 10) (ckb (ix x2 10) (ckb (ix ((sa (sv M50 2 ((M50.1 2) ||| ((1 : Int32) <<< (x2 &&& 31)))) 9 x2.toNatClampNeg ((1 : Int32) <<< (((sv M50 2 ((M50.1 2) ||| ((1 : Int32) <<< (x2 &&& 31)))).2 7 x2.toNatClampNeg) &&& 31))).2 7 x2.toNatClampNeg) 10) (ckb (ix ((sa (sv M50 2 ((M50.1 2) ||| ((1 : Int32) <<< (x2 &&& 31)))) 9 x2.toNatClampNeg ((1 : Int32) <<< (((sv M50 2 ((M50.1 2) ||| ((1 : Int32) <<< (x2 &&& 31)))).2 7 x2.toNatClampNeg) &&& 31))).2 7 x2.toNatClampNeg) 10) (F_X5_weighAll_99 (F_X5_weighAll_23 n) x2 (sa (sa (sv M50 2 ((M50.1 2) ||| ((1 : Int32) <<< (x2 &&& 31)))) 9 x2.toNatClampNeg ((1 : Int32) <<< (((sv M50 2 ((M50.1 2) ||| ((1 : Int32) <<< (x2 &&& 31)))).2 7 x2.toNatClampNeg) &&& 31))) 10 ((sa (sv M50 2 ((M50.1 2) ||| ((1 : Int32) <<< (x2 &&& 31)))) 9 x2.toNatClampNeg ((1 : Int32) <<< (((sv M50 2 ((M50.1 2) ||| ((1 : Int32) <<< (x2 &&& 31)))).2 7 x2.toNatClampNeg) &&& 31))).2 7 x2.toNatClampNeg).toNatClampNeg (((sa (sv M50 2 ((M50.1 2) ||| ((1 : Int32) <<< (x2 &&& 31)))) 9 x2.toNatClampNeg ((1 : Int32) <<< (((sv M50 2 ((M50.1 2) ||| ((1 : Int32) <<< (x2 &&& 31)))).2 7 x2.toNatClampNeg) &&& 31))).2 10 ((sa (sv M50 2 ((M50.1 2) ||| ((1 : Int32) <<< (x2 &&& 31)))) 9 x2.toNatClampNeg ((1 : Int32) <<< (((sv M50 2 ((M50.1 2) ||| ((1 : Int32) <<< (x2 &&& 31)))).2 7 x2.toNatClampNeg) &&& 31))).2 7 x2.toNatClampNeg).toNatClampNeg) ||| ((1 : Int32) <<< (x2 &&& 31))))))))))) else F_X5_weighAll_99 (F_X5_weighAll_23 n) x2 M)
def F_X5_weighAll (M : Mem) : Option Mem := bdv (F_J7_fill_53178 9 0 (sv M 2 0)) (fun M10 => bdv (F_J7_fill_53178 10 0 M10) (fun M18 => F_X5_weighAll_23 fu 0 M18))
set_option maxHeartbeats 4000000 in
set_option maxRecDepth 100000 in
theorem b_X5_weighAll_99 {k23 : Int32 → Mem → Option Mem} {M0 : Mem} (hC : SX p m c s args cX5_weighAll 3 RX5 G (AG G)) (hr : meth.sig.returnType = none) (hlk : meth.locks = false) (hn : ∀ i ∈ LsF, i ∈ gL G) (hk23 : ∀ (x2 : Int32) (M : Mem) (H : Heap) (locs : List Loc) (ls : Array Slot), k23 x2 M = some M0 → ST G (AG G) s M H locs → lv_has ls 3 [(0, .ref (G.1 52)), (1, .ref (G.1 51)), (2, .int x2)] → W p l e (RM 2 53) s m args below meth c H locs 0 0 (MQ below (QV G none M0) args s 0 0 (AG G)) (F0 m 23 ls [])) : ∀ (x2 : Int32) (M : Mem) (H : Heap) (locs : List Loc) (ls : Array Slot), F_X5_weighAll_99 k23 x2 M = some M0 → ST G (AG G) s M H locs → lv_has ls 3 [(0, .ref (G.1 52)), (1, .ref (G.1 51)), (2, .int x2)] → W p l e (RM 2 53) s m args below meth c H locs 0 0 (MQ below (QV G none M0) args s 0 0 (AG G)) (F0 m 99 ls []) := by
  obtain ⟨⟨hx, hb, hml, hown, hts⟩, hK, hG, hA⟩ := id hC
  intro x2 M H locs ls hF hS hl
  unfold F_X5_weighAll_99 at hF
  refine lv_iinc (v := x2 + 1) (lv' := [(2, .int (x2 + 1)), (0, .ref (G.1 52)), (1, .ref (G.1 51))]) hx hb dX5_weighAll_99 hl (k := 2) rfl rfl (by decide) rfl (fun ls hl => ?_)
  refine lv_goto (tgt := 23) hx hb dX5_weighAll_102 (by decide) ?_
  exact hk23 _ _ _ _ _ hF hS (lv_sub hl [1, 2, 0] rfl)
set_option maxHeartbeats 4000000 in
set_option maxRecDepth 100000 in
theorem b_X5_weighAll_23 {M0 : Mem} (hC : SX p m c s args cX5_weighAll 3 RX5 G (AG G)) (hr : meth.sig.returnType = none) (hlk : meth.locks = false) (hn : ∀ i ∈ LsF, i ∈ gL G) : ∀ (n : Nat) (x2 : Int32) (M : Mem) (H : Heap) (locs : List Loc) (ls : Array Slot), F_X5_weighAll_23 n x2 M = some M0 → ST G (AG G) s M H locs → lv_has ls 3 [(0, .ref (G.1 52)), (1, .ref (G.1 51)), (2, .int x2)] → W p l e (RM 2 53) s m args below meth c H locs 0 0 (MQ below (QV G none M0) args s 0 0 (AG G)) (F0 m 23 ls []) := by
  obtain ⟨⟨hx, hb, hml, hown, hts⟩, hK, hG, hA⟩ := id hC
  intro n
  induction n with
  | zero =>
    intro x2 M H locs ls hF
    cases hF
  | succ n ih =>
    intro x2 M H locs ls hF hS hl
    unfold F_X5_weighAll_23 at hF
    refine lv_iload_n hx hb dX5_weighAll_23 rfl (lv_at hl 2 rfl) ?_
    refine lv_aload_n hx hb dX5_weighAll_24 rfl (lv_at hl 0 rfl) ?_
    refine gx (ci := 5) (k := 10) (v := .int (M.1 0)) (C := RX5) (T := TX5) (N := 13) hC hS (hn _ (by decide)) rfl rfl in_X5 (by decide) rfl rfl lf_X5_42 dX5_weighAll_25 ?_
    refine lv_icmp_ge (tgt := 105) hx hb dX5_weighAll_28 (by decide) (fun hc => ?_) (fun hc => ?_)
    · rw [if_pos hc] at hF
      exact retV hC hS hr hlk hF dX5_weighAll_105
    · rw [if_neg hc] at hF
      refine lv_aload_n hx hb dX5_weighAll_31 rfl (lv_at hl 0 rfl) ?_
      refine gx (ci := 5) (k := 0) (v := .ref (G.1 2)) (C := RX5) (T := TX5) (N := 13) hC hS (hn _ (by decide)) rfl rfl in_X5 (by decide) rfl rfl lf_X5_9 dX5_weighAll_32 ?_
      refine lv_iload_n hx hb dX5_weighAll_35 rfl (lv_at hl 2 rfl) ?_
      obtain ⟨hi, hF⟩ := ckb_some hF
      refine ald hC hS (hn _ (by decide)) (by decide) rfl hi dX5_weighAll_36 ?_
      refine lv_iconst (v := 2) hx hb dX5_weighAll_37 (by decide) ?_
      refine lv_icmp_ne (tgt := 99) hx hb dX5_weighAll_38 (by decide) (fun hc => ?_) (fun hc => ?_)
      · rw [if_neg hc] at hF
        exact b_X5_weighAll_99 hC hr hlk hn ih _ _ _ _ _ hF hS (lv_sub hl [0, 1, 2] rfl)
      · rw [if_pos hc] at hF
        refine lv_aload_n hx hb dX5_weighAll_41 rfl (lv_at hl 0 rfl) ?_
        refine lv_iload_n hx hb dX5_weighAll_42 rfl (lv_at hl 2 rfl) ?_
        refine lv_aload_n hx hb dX5_weighAll_43 rfl (lv_at hl 0 rfl) ?_
        refine gx (ci := 5) (k := 5) (v := .ref (G.1 7)) (C := RX5) (T := TX5) (N := 13) hC hS (hn _ (by decide)) rfl rfl in_X5 (by decide) rfl rfl lf_X5_27 dX5_weighAll_44 ?_
        refine lv_iload_n hx hb dX5_weighAll_47 rfl (lv_at hl 2 rfl) ?_
        obtain ⟨hi, hF⟩ := ckb_some hF
        refine ald hC hS (hn _ (by decide)) (by decide) rfl hi dX5_weighAll_48 ?_
        refine lv_aload_n hx hb dX5_weighAll_49 rfl (lv_at hl 1 rfl) ?_
        obtain ⟨r50, M50, h50, hF⟩ := bd_some hF
        refine cV_ (ci := 5) (i := 52) (C := RX5) (T := TX5) (N := 13) (As := [.int x2, .int (M.2 7 x2.toNatClampNeg), .ref (G.1 51)]) (v := some (.int r50)) (rest := []) (st1 := [.int r50]) hC hS (hn _ (by decide)) rfl rfl (c_X5_isTooFar l G hn x2 (M.2 7 x2.toNatClampNeg) M _ _ h50) kV_X5_isTooFar lm_X5_72 ⟨Nat.le_of_ble_eq_true rfl, Nat.le_of_ble_eq_true rfl⟩ rfl hl.1 (Nat.le_of_ble_eq_true rfl) dX5_weighAll_50 ⟨Nat.le_refl _, Nat.le_refl _⟩ rfl (fun H locs hS => ?_)
        refine lv_if_eq (tgt := 99) hx hb dX5_weighAll_53 (by decide) (fun hc => ?_) (fun hc => ?_)
        · rw [if_pos hc] at hF
          exact b_X5_weighAll_99 hC hr hlk hn ih _ _ _ _ _ hF hS (lv_sub hl [0, 1, 2] rfl)
        · rw [if_neg hc] at hF
          refine lv_aload_n hx hb dX5_weighAll_56 rfl (lv_at hl 0 rfl) ?_
          refine lv_dup hx hb dX5_weighAll_57 rfl ?_
          refine gx (ci := 5) (k := 12) (v := .int (M50.1 2)) (C := RX5) (T := TX5) (N := 13) hC hS (hn _ (by decide)) rfl rfl in_X5 (by decide) rfl rfl lf_X5_49 dX5_weighAll_58 ?_
          refine lv_iconst (v := 1) hx hb dX5_weighAll_61 (by decide) ?_
          refine lv_iload_n hx hb dX5_weighAll_62 rfl (lv_at hl 2 rfl) ?_
          refine lv_ishl hx hb dX5_weighAll_63 ?_
          refine lv_ior hx hb dX5_weighAll_64 ?_
          refine px (ci := 5) (k := 12) (n := 2) (ty := .int) (C := RX5) (T := TX5) (N := 13) hC hS (hn _ (by decide)) rfl rfl in_X5 tyX5_ok nmX5 (by decide) rfl rfl (by decide +kernel) rfl rfl (Nat.le_of_ble_eq_true rfl) rfl se_X5_12 lf_X5_49 dX5_weighAll_65 (fun H locs hS => ?_)
          refine lv_aload_n hx hb dX5_weighAll_68 rfl (lv_at hl 0 rfl) ?_
          refine gx (ci := 5) (k := 7) (v := .ref (G.1 9)) (C := RX5) (T := TX5) (N := 13) hC hS (hn _ (by decide)) rfl rfl in_X5 (by decide) rfl rfl lf_X5_33 dX5_weighAll_69 ?_
          refine lv_iload_n hx hb dX5_weighAll_72 rfl (lv_at hl 2 rfl) ?_
          refine lv_iconst (v := 1) hx hb dX5_weighAll_73 (by decide) ?_
          refine lv_aload_n hx hb dX5_weighAll_74 rfl (lv_at hl 0 rfl) ?_
          refine gx (ci := 5) (k := 5) (v := .ref (G.1 7)) (C := RX5) (T := TX5) (N := 13) hC hS (hn _ (by decide)) rfl rfl in_X5 (by decide) rfl rfl lf_X5_27 dX5_weighAll_75 ?_
          refine lv_iload_n hx hb dX5_weighAll_78 rfl (lv_at hl 2 rfl) ?_
          obtain ⟨hi, hF⟩ := ckb_some hF
          refine ald hC hS (hn _ (by decide)) (by decide) rfl hi dX5_weighAll_79 ?_
          refine lv_ishl hx hb dX5_weighAll_80 ?_
          obtain ⟨hi, hF⟩ := ckb_some hF
          refine ast hC hS (hn _ (by decide)) (by decide) rfl hi dX5_weighAll_81 (fun H locs hS => ?_)
          refine lv_aload_n hx hb dX5_weighAll_82 rfl (lv_at hl 0 rfl) ?_
          refine gx (ci := 5) (k := 8) (v := .ref (G.1 10)) (C := RX5) (T := TX5) (N := 13) hC hS (hn _ (by decide)) rfl rfl in_X5 (by decide) rfl rfl lf_X5_36 dX5_weighAll_83 ?_
          refine lv_aload_n hx hb dX5_weighAll_86 rfl (lv_at hl 0 rfl) ?_
          refine gx (ci := 5) (k := 5) (v := .ref (G.1 7)) (C := RX5) (T := TX5) (N := 13) hC hS (hn _ (by decide)) rfl rfl in_X5 (by decide) rfl rfl lf_X5_27 dX5_weighAll_87 ?_
          refine lv_iload_n hx hb dX5_weighAll_90 rfl (lv_at hl 2 rfl) ?_
          obtain ⟨hi, hF⟩ := ckb_some hF
          refine ald hC hS (hn _ (by decide)) (by decide) rfl hi dX5_weighAll_91 ?_
          refine lv_dup2_11 hx hb dX5_weighAll_92 rfl rfl ?_
          obtain ⟨hi, hF⟩ := ckb_some hF
          refine ald hC hS (hn _ (by decide)) (by decide) rfl hi dX5_weighAll_93 ?_
          refine lv_iconst (v := 1) hx hb dX5_weighAll_94 (by decide) ?_
          refine lv_iload_n hx hb dX5_weighAll_95 rfl (lv_at hl 2 rfl) ?_
          refine lv_ishl hx hb dX5_weighAll_96 ?_
          refine lv_ior hx hb dX5_weighAll_97 ?_
          obtain ⟨hi, hF⟩ := ckb_some hF
          refine ast hC hS (hn _ (by decide)) (by decide) rfl hi dX5_weighAll_98 (fun H locs hS => ?_)
          exact b_X5_weighAll_99 hC hr hlk hn ih _ _ _ _ _ hF hS (lv_sub hl [0, 1, 2] rfl)
set_option maxHeartbeats 4000000 in
set_option maxRecDepth 100000 in
theorem b_X5_weighAll {M0 : Mem} (hC : SX p m c s args cX5_weighAll 3 RX5 G (AG G)) (hr : meth.sig.returnType = none) (hlk : meth.locks = false) (hn : ∀ i ∈ LsF, i ∈ gL G) : ∀ (M : Mem) (H : Heap) (locs : List Loc) (ls : Array Slot), F_X5_weighAll M = some M0 → ST G (AG G) s M H locs → lv_has ls 3 [(0, .ref (G.1 52)), (1, .ref (G.1 51))] → W p l e (RM 2 53) s m args below meth c H locs 0 0 (MQ below (QV G none M0) args s 0 0 (AG G)) (F0 m 0 ls []) := by
  obtain ⟨⟨hx, hb, hml, hown, hts⟩, hK, hG, hA⟩ := id hC
  intro M H locs ls hF hS hl
  unfold F_X5_weighAll at hF
  refine lv_aload_n hx hb dX5_weighAll_0 rfl (lv_at hl 0 rfl) ?_
  refine lv_iconst (v := 0) hx hb dX5_weighAll_1 (by decide) ?_
  refine px (ci := 5) (k := 12) (n := 2) (ty := .int) (C := RX5) (T := TX5) (N := 13) hC hS (hn _ (by decide)) rfl rfl in_X5 tyX5_ok nmX5 (by decide) rfl rfl (by decide +kernel) rfl rfl (Nat.le_of_ble_eq_true rfl) rfl se_X5_12 lf_X5_49 dX5_weighAll_2 (fun H locs hS => ?_)
  refine lv_aload_n hx hb dX5_weighAll_5 rfl (lv_at hl 0 rfl) ?_
  refine gx (ci := 5) (k := 7) (v := .ref (G.1 9)) (C := RX5) (T := TX5) (N := 13) hC hS (hn _ (by decide)) rfl rfl in_X5 (by decide) rfl rfl lf_X5_33 dX5_weighAll_6 ?_
  refine lv_iconst (v := 0) hx hb dX5_weighAll_9 (by decide) ?_
  obtain ⟨M10, h10, hF⟩ := bdv_some hF
  refine cS_ (As := [.ref (G.1 9), .int 0]) (v := none) (rest := []) (st1 := []) hC hS (c_J7_fill_53178 l G 9 ⟨(hn _ (by decide)), (by decide), rfl⟩ 0 (sv M 2 0) _ h10) kS_J7_fill_53178 lm_X5_66 ⟨Nat.le_of_ble_eq_true rfl, Nat.le_of_ble_eq_true rfl⟩ rfl hl.1 (Nat.le_of_ble_eq_true rfl) dX5_weighAll_10 ⟨Nat.le_refl _, Nat.le_refl _⟩ rfl (fun H locs hS => ?_)
  refine lv_aload_n hx hb dX5_weighAll_13 rfl (lv_at hl 0 rfl) ?_
  refine gx (ci := 5) (k := 8) (v := .ref (G.1 10)) (C := RX5) (T := TX5) (N := 13) hC hS (hn _ (by decide)) rfl rfl in_X5 (by decide) rfl rfl lf_X5_36 dX5_weighAll_14 ?_
  refine lv_iconst (v := 0) hx hb dX5_weighAll_17 (by decide) ?_
  obtain ⟨M18, h18, hF⟩ := bdv_some hF
  refine cS_ (As := [.ref (G.1 10), .int 0]) (v := none) (rest := []) (st1 := []) hC hS (c_J7_fill_53178 l G 10 ⟨(hn _ (by decide)), (by decide), rfl⟩ 0 M10 _ h18) kS_J7_fill_53178 lm_X5_66 ⟨Nat.le_of_ble_eq_true rfl, Nat.le_of_ble_eq_true rfl⟩ rfl hl.1 (Nat.le_of_ble_eq_true rfl) dX5_weighAll_18 ⟨Nat.le_refl _, Nat.le_refl _⟩ rfl (fun H locs hS => ?_)
  refine lv_iconst (v := 0) hx hb dX5_weighAll_21 (by decide) ?_
  refine lv_istore_n (lv' := [(2, .int 0), (0, .ref (G.1 52)), (1, .ref (G.1 51))]) hx hb dX5_weighAll_22 rfl hl (by decide) rfl (fun ls hl => ?_)
  exact b_X5_weighAll_23 hC hr hlk hn fu _ _ _ _ _ hF hS (lv_sub hl [1, 2, 0] rfl)
set_option maxRecDepth 100000 in
theorem c_X5_weighAll (l : Launch) (G : GT) (hn : ∀ i ∈ LsF, i ∈ gL G) (M : Mem) (M0 : Mem) (hF : F_X5_weighAll M = some M0) : MetG l G yX5_weighAll cX5_weighAll 3 none 2 53 [.ref (G.1 52), .ref (G.1 51)] M none M0 := by
  refine MetG.of (by decide) (Nat.le_of_ble_eq_true rfl) ?_
  intro p e s m args below meth c hC hr hlk hnm ls hS hl
  exact b_X5_weighAll hC hr hlk hn _ _ _ _ hF hS hl
def F_X5_tell_102 (x7 : Int32) (M : Mem) : Option (Int32 × Mem) := bdv (F_X5_weighAll M) (fun M105 => some (x7, M105))
def F_X5_tell (x1 : Int32) (x2 : Int32) (x3 : Int32) (x4 : Int32) (x5 : Int32) (M : Mem) : Option (Int32 × Mem) := ckb (ix (M.1 0) 10) (ckb (ix (M.1 0) 10) (bd (F_J6_bitCount_0f7a4 x2 (sa (sa M 2 (M.1 0).toNatClampNeg x1) 3 (M.1 0).toNatClampNeg x2)) (fun r29 M29 => ckb (ix (M.1 0) 10) (ckb (ix (M.1 0) 10) (ckb (ix (M.1 0) 10) (ckb (ix (M.1 0) 10) (if x1 = 1 then ckb (ix (M.1 0) 10) (ckb (ix (M.1 0) 10) (ckb (ix x5 10) (ckb (ix x5 10) (F_X5_tell_102 (M.1 0) (sa (sa (sv (sa (sa (sa (sa M29 4 (M.1 0).toNatClampNeg r29) 5 (M.1 0).toNatClampNeg x3) 6 (M.1 0).toNatClampNeg x4) 7 (M.1 0).toNatClampNeg x5) 0 (((sa (sa (sa (sa M29 4 (M.1 0).toNatClampNeg r29) 5 (M.1 0).toNatClampNeg x3) 6 (M.1 0).toNatClampNeg x4) 7 (M.1 0).toNatClampNeg x5).1 0) + 1)) 8 (M.1 0).toNatClampNeg (((sv (sa (sa (sa (sa M29 4 (M.1 0).toNatClampNeg r29) 5 (M.1 0).toNatClampNeg x3) 6 (M.1 0).toNatClampNeg x4) 7 (M.1 0).toNatClampNeg x5) 0 (((sa (sa (sa (sa M29 4 (M.1 0).toNatClampNeg r29) 5 (M.1 0).toNatClampNeg x3) 6 (M.1 0).toNatClampNeg x4) 7 (M.1 0).toNatClampNeg x5).1 0) + 1)).2 8 (M.1 0).toNatClampNeg) ||| ((1 : Int32) <<< (x5 &&& 31)))) 8 x5.toNatClampNeg (((sa (sv (sa (sa (sa (sa M29 4 (M.1 0).toNatClampNeg r29) 5 (M.1 0).toNatClampNeg x3) 6 (M.1 0).toNatClampNeg x4) 7 (M.1 0).toNatClampNeg x5) 0 (((sa (sa (sa (sa M29 4 (M.1 0).toNatClampNeg r29) 5 (M.1 0).toNatClampNeg x3) 6 (M.1 0).toNatClampNeg x4) 7 (M.1 0).toNatClampNeg x5).1 0) + 1)) 8 (M.1 0).toNatClampNeg (((sv (sa (sa (sa (sa M29 4 (M.1 0).toNatClampNeg r29) 5 (M.1 0).toNatClampNeg x3) 6 (M.1 0).toNatClampNeg x4) 7 (M.1 0).toNatClampNeg x5) 0 (((sa (sa (sa (sa M29 4 (M.1 0).toNatClampNeg r29) 5 (M.1 0).toNatClampNeg x3) 6 (M.1 0).toNatClampNeg x4) 7 (M.1 0).toNatClampNeg x5).1 0) + 1)).2 8 (M.1 0).toNatClampNeg) ||| ((1 : Int32) <<< (x5 &&& 31)))).2 8 x5.toNatClampNeg) ||| ((1 : Int32) <<< ((M.1 0) &&& 31)))))))) else F_X5_tell_102 (M.1 0) (sv (sa (sa (sa (sa M29 4 (M.1 0).toNatClampNeg r29) 5 (M.1 0).toNatClampNeg x3) 6 (M.1 0).toNatClampNeg x4) 7 (M.1 0).toNatClampNeg x5) 0 (((sa (sa (sa (sa M29 4 (M.1 0).toNatClampNeg r29) 5 (M.1 0).toNatClampNeg x3) 6 (M.1 0).toNatClampNeg x4) 7 (M.1 0).toNatClampNeg x5).1 0) + 1)))))))))
set_option maxHeartbeats 4000000 in
set_option maxRecDepth 100000 in
theorem b_X5_tell_102 {M0 : Mem} {r0 : Int32} (hC : SX p m c s args cX5_tell 8 RX5 G (AG G)) (hr : meth.sig.returnType = (some .int)) (hlk : meth.locks = false) (hn : ∀ i ∈ LsF, i ∈ gL G) : ∀ (x7 : Int32) (M : Mem) (H : Heap) (locs : List Loc) (ls : Array Slot), F_X5_tell_102 x7 M = some (r0, M0) → ST G (AG G) s M H locs → lv_has ls 8 [(0, .ref (G.1 52)), (6, .ref (G.1 51)), (7, .int x7)] → W p l e (RM 3 75) s m args below meth c H locs 0 0 (MQ below (QV G (some (.int r0)) M0) args s 0 0 (AG G)) (F0 m 102 ls []) := by
  obtain ⟨⟨hx, hb, hml, hown, hts⟩, hK, hG, hA⟩ := id hC
  intro x7 M H locs ls hF hS hl
  unfold F_X5_tell_102 at hF
  refine lv_aload_n hx hb dX5_tell_102 rfl (lv_at hl 0 rfl) ?_
  refine lv_aload hx hb dX5_tell_103 (lv_at hl 1 rfl) ?_
  obtain ⟨M105, h105, hF⟩ := bdv_some hF
  refine cV_ (ci := 5) (i := 52) (C := RX5) (T := TX5) (N := 13) (As := [.ref (G.1 51)]) (v := none) (rest := []) (st1 := []) hC hS (hn _ (by decide)) rfl rfl (c_X5_weighAll l G hn M _ h105) kV_X5_weighAll lm_X5_62 ⟨Nat.le_of_ble_eq_true rfl, Nat.le_of_ble_eq_true rfl⟩ rfl hl.1 (Nat.le_of_ble_eq_true rfl) dX5_tell_105 ⟨Nat.le_refl _, Nat.le_refl _⟩ rfl (fun H locs hS => ?_)
  refine lv_iload hx hb dX5_tell_108 (lv_at hl 2 rfl) ?_
  exact retI hC hS hr hlk hF dX5_tell_110
set_option maxHeartbeats 4000000 in
set_option maxRecDepth 100000 in
theorem b_X5_tell {M0 : Mem} {r0 : Int32} (hC : SX p m c s args cX5_tell 8 RX5 G (AG G)) (hr : meth.sig.returnType = (some .int)) (hlk : meth.locks = false) (hn : ∀ i ∈ LsF, i ∈ gL G) : ∀ (x1 : Int32) (x2 : Int32) (x3 : Int32) (x4 : Int32) (x5 : Int32) (M : Mem) (H : Heap) (locs : List Loc) (ls : Array Slot), F_X5_tell x1 x2 x3 x4 x5 M = some (r0, M0) → ST G (AG G) s M H locs → lv_has ls 8 [(0, .ref (G.1 52)), (1, .int x1), (2, .int x2), (3, .int x3), (4, .int x4), (5, .int x5), (6, .ref (G.1 51))] → W p l e (RM 3 75) s m args below meth c H locs 0 0 (MQ below (QV G (some (.int r0)) M0) args s 0 0 (AG G)) (F0 m 0 ls []) := by
  obtain ⟨⟨hx, hb, hml, hown, hts⟩, hK, hG, hA⟩ := id hC
  intro x1 x2 x3 x4 x5 M H locs ls hF hS hl
  unfold F_X5_tell at hF
  refine lv_aload_n hx hb dX5_tell_0 rfl (lv_at hl 0 rfl) ?_
  refine gx (ci := 5) (k := 10) (v := .int (M.1 0)) (C := RX5) (T := TX5) (N := 13) hC hS (hn _ (by decide)) rfl rfl in_X5 (by decide) rfl rfl lf_X5_42 dX5_tell_1 ?_
  refine lv_istore (lv' := [(7, .int (M.1 0)), (0, .ref (G.1 52)), (1, .int x1), (2, .int x2), (3, .int x3), (4, .int x4), (5, .int x5), (6, .ref (G.1 51))]) hx hb dX5_tell_4 hl (by decide) rfl (fun ls hl => ?_)
  refine lv_aload_n hx hb dX5_tell_6 rfl (lv_at hl 1 rfl) ?_
  refine gx (ci := 5) (k := 0) (v := .ref (G.1 2)) (C := RX5) (T := TX5) (N := 13) hC hS (hn _ (by decide)) rfl rfl in_X5 (by decide) rfl rfl lf_X5_9 dX5_tell_7 ?_
  refine lv_iload hx hb dX5_tell_10 (lv_at hl 0 rfl) ?_
  refine lv_iload_n hx hb dX5_tell_12 rfl (lv_at hl 2 rfl) ?_
  obtain ⟨hi, hF⟩ := ckb_some hF
  refine ast hC hS (hn _ (by decide)) (by decide) rfl hi dX5_tell_13 (fun H locs hS => ?_)
  refine lv_aload_n hx hb dX5_tell_14 rfl (lv_at hl 1 rfl) ?_
  refine gx (ci := 5) (k := 1) (v := .ref (G.1 3)) (C := RX5) (T := TX5) (N := 13) hC hS (hn _ (by decide)) rfl rfl in_X5 (by decide) rfl rfl lf_X5_15 dX5_tell_15 ?_
  refine lv_iload hx hb dX5_tell_18 (lv_at hl 0 rfl) ?_
  refine lv_iload_n hx hb dX5_tell_20 rfl (lv_at hl 3 rfl) ?_
  obtain ⟨hi, hF⟩ := ckb_some hF
  refine ast hC hS (hn _ (by decide)) (by decide) rfl hi dX5_tell_21 (fun H locs hS => ?_)
  refine lv_aload_n hx hb dX5_tell_22 rfl (lv_at hl 1 rfl) ?_
  refine gx (ci := 5) (k := 2) (v := .ref (G.1 4)) (C := RX5) (T := TX5) (N := 13) hC hS (hn _ (by decide)) rfl rfl in_X5 (by decide) rfl rfl lf_X5_18 dX5_tell_23 ?_
  refine lv_iload hx hb dX5_tell_26 (lv_at hl 0 rfl) ?_
  refine lv_iload_n hx hb dX5_tell_28 rfl (lv_at hl 3 rfl) ?_
  obtain ⟨r29, M29, h29, hF⟩ := bd_some hF
  refine cS_ (As := [.int x2]) (v := some (.int r29)) (rest := [.int (M.1 0), .ref (G.1 4)]) (st1 := [.int r29, .int (M.1 0), .ref (G.1 4)]) hC hS (c_J6_bitCount_0f7a4 l G x2 (sa (sa M 2 (M.1 0).toNatClampNeg x1) 3 (M.1 0).toNatClampNeg x2) _ _ h29) kS_J6_bitCount_0f7a4 lm_X5_56 ⟨Nat.le_of_ble_eq_true rfl, Nat.le_of_ble_eq_true rfl⟩ rfl hl.1 (Nat.le_of_ble_eq_true rfl) dX5_tell_29 ⟨Nat.le_refl _, Nat.le_refl _⟩ rfl (fun H locs hS => ?_)
  obtain ⟨hi, hF⟩ := ckb_some hF
  refine ast hC hS (hn _ (by decide)) (by decide) rfl hi dX5_tell_32 (fun H locs hS => ?_)
  refine lv_aload_n hx hb dX5_tell_33 rfl (lv_at hl 1 rfl) ?_
  refine gx (ci := 5) (k := 3) (v := .ref (G.1 5)) (C := RX5) (T := TX5) (N := 13) hC hS (hn _ (by decide)) rfl rfl in_X5 (by decide) rfl rfl lf_X5_21 dX5_tell_34 ?_
  refine lv_iload hx hb dX5_tell_37 (lv_at hl 0 rfl) ?_
  refine lv_iload_n hx hb dX5_tell_39 rfl (lv_at hl 4 rfl) ?_
  obtain ⟨hi, hF⟩ := ckb_some hF
  refine ast hC hS (hn _ (by decide)) (by decide) rfl hi dX5_tell_40 (fun H locs hS => ?_)
  refine lv_aload_n hx hb dX5_tell_41 rfl (lv_at hl 1 rfl) ?_
  refine gx (ci := 5) (k := 4) (v := .ref (G.1 6)) (C := RX5) (T := TX5) (N := 13) hC hS (hn _ (by decide)) rfl rfl in_X5 (by decide) rfl rfl lf_X5_24 dX5_tell_42 ?_
  refine lv_iload hx hb dX5_tell_45 (lv_at hl 0 rfl) ?_
  refine lv_iload hx hb dX5_tell_47 (lv_at hl 5 rfl) ?_
  obtain ⟨hi, hF⟩ := ckb_some hF
  refine ast hC hS (hn _ (by decide)) (by decide) rfl hi dX5_tell_49 (fun H locs hS => ?_)
  refine lv_aload_n hx hb dX5_tell_50 rfl (lv_at hl 1 rfl) ?_
  refine gx (ci := 5) (k := 5) (v := .ref (G.1 7)) (C := RX5) (T := TX5) (N := 13) hC hS (hn _ (by decide)) rfl rfl in_X5 (by decide) rfl rfl lf_X5_27 dX5_tell_51 ?_
  refine lv_iload hx hb dX5_tell_54 (lv_at hl 0 rfl) ?_
  refine lv_iload hx hb dX5_tell_56 (lv_at hl 6 rfl) ?_
  obtain ⟨hi, hF⟩ := ckb_some hF
  refine ast hC hS (hn _ (by decide)) (by decide) rfl hi dX5_tell_58 (fun H locs hS => ?_)
  refine lv_aload_n hx hb dX5_tell_59 rfl (lv_at hl 1 rfl) ?_
  refine lv_dup hx hb dX5_tell_60 rfl ?_
  refine gx (ci := 5) (k := 10) (v := .int ((sa (sa (sa (sa M29 4 (M.1 0).toNatClampNeg r29) 5 (M.1 0).toNatClampNeg x3) 6 (M.1 0).toNatClampNeg x4) 7 (M.1 0).toNatClampNeg x5).1 0)) (C := RX5) (T := TX5) (N := 13) hC hS (hn _ (by decide)) rfl rfl in_X5 (by decide) rfl rfl lf_X5_42 dX5_tell_61 ?_
  refine lv_iconst (v := 1) hx hb dX5_tell_64 (by decide) ?_
  refine lv_iadd hx hb dX5_tell_65 ?_
  refine px (ci := 5) (k := 10) (n := 0) (ty := .int) (C := RX5) (T := TX5) (N := 13) hC hS (hn _ (by decide)) rfl rfl in_X5 tyX5_ok nmX5 (by decide) rfl rfl (by decide +kernel) rfl rfl (Nat.le_of_ble_eq_true rfl) rfl se_X5_10 lf_X5_42 dX5_tell_66 (fun H locs hS => ?_)
  refine lv_iload_n hx hb dX5_tell_69 rfl (lv_at hl 2 rfl) ?_
  refine lv_iconst (v := 1) hx hb dX5_tell_70 (by decide) ?_
  refine lv_icmp_ne (tgt := 102) hx hb dX5_tell_71 (by decide) (fun hc => ?_) (fun hc => ?_)
  · rw [if_neg hc] at hF
    exact b_X5_tell_102 hC hr hlk hn _ _ _ _ _ hF hS (lv_sub hl [1, 7, 0] rfl)
  · rw [if_pos hc] at hF
    refine lv_aload_n hx hb dX5_tell_74 rfl (lv_at hl 1 rfl) ?_
    refine gx (ci := 5) (k := 6) (v := .ref (G.1 8)) (C := RX5) (T := TX5) (N := 13) hC hS (hn _ (by decide)) rfl rfl in_X5 (by decide) rfl rfl lf_X5_30 dX5_tell_75 ?_
    refine lv_iload hx hb dX5_tell_78 (lv_at hl 0 rfl) ?_
    refine lv_dup2_11 hx hb dX5_tell_80 rfl rfl ?_
    obtain ⟨hi, hF⟩ := ckb_some hF
    refine ald hC hS (hn _ (by decide)) (by decide) rfl hi dX5_tell_81 ?_
    refine lv_iconst (v := 1) hx hb dX5_tell_82 (by decide) ?_
    refine lv_iload hx hb dX5_tell_83 (lv_at hl 6 rfl) ?_
    refine lv_ishl hx hb dX5_tell_85 ?_
    refine lv_ior hx hb dX5_tell_86 ?_
    obtain ⟨hi, hF⟩ := ckb_some hF
    refine ast hC hS (hn _ (by decide)) (by decide) rfl hi dX5_tell_87 (fun H locs hS => ?_)
    refine lv_aload_n hx hb dX5_tell_88 rfl (lv_at hl 1 rfl) ?_
    refine gx (ci := 5) (k := 6) (v := .ref (G.1 8)) (C := RX5) (T := TX5) (N := 13) hC hS (hn _ (by decide)) rfl rfl in_X5 (by decide) rfl rfl lf_X5_30 dX5_tell_89 ?_
    refine lv_iload hx hb dX5_tell_92 (lv_at hl 6 rfl) ?_
    refine lv_dup2_11 hx hb dX5_tell_94 rfl rfl ?_
    obtain ⟨hi, hF⟩ := ckb_some hF
    refine ald hC hS (hn _ (by decide)) (by decide) rfl hi dX5_tell_95 ?_
    refine lv_iconst (v := 1) hx hb dX5_tell_96 (by decide) ?_
    refine lv_iload hx hb dX5_tell_97 (lv_at hl 0 rfl) ?_
    refine lv_ishl hx hb dX5_tell_99 ?_
    refine lv_ior hx hb dX5_tell_100 ?_
    obtain ⟨hi, hF⟩ := ckb_some hF
    refine ast hC hS (hn _ (by decide)) (by decide) rfl hi dX5_tell_101 (fun H locs hS => ?_)
    exact b_X5_tell_102 hC hr hlk hn _ _ _ _ _ hF hS (lv_sub hl [1, 7, 0] rfl)
set_option maxRecDepth 100000 in
theorem c_X5_tell (l : Launch) (G : GT) (hn : ∀ i ∈ LsF, i ∈ gL G) (x1 : Int32) (x2 : Int32) (x3 : Int32) (x4 : Int32) (x5 : Int32) (M : Mem) (r0 : Int32) (M0 : Mem) (hF : F_X5_tell x1 x2 x3 x4 x5 M = some (r0, M0)) : MetG l G yX5_tell cX5_tell 8 (some .int) 3 75 [.ref (G.1 52), .int x1, .int x2, .int x3, .int x4, .int x5, .ref (G.1 51)] M (some (.int r0)) M0 := by
  refine MetG.of (by decide) (Nat.le_of_ble_eq_true rfl) ?_
  intro p e s m args below meth c hC hr hlk hnm ls hS hl
  exact b_X5_tell hC hr hlk hn _ _ _ _ _ _ _ _ _ hF hS hl
def F_X5_longestChain_71 (k20 : Int32 → Int32 → Int32 → Mem → Option (Int32 × Mem)) (x1 : Int32) (x2 : Int32) (x3 : Int32) (M : Mem) : Option (Int32 × Mem) := k20 x1 x2 (x3 + (-1)) M
def F_X5_longestChain_20 : Nat → Int32 → Int32 → Int32 → Mem → Option (Int32 × Mem)
  | 0, _, _, _, _ => none
  | n + 1, x1, x2, x3, M => if x3 ≤ x1 then ckb (ix x1 10) (some (M.2 11 x1.toNatClampNeg, M)) else if (((M.1 2) &&& x2) &&& ((1 : Int32) <<< (x3 &&& 31))) = 0 then F_X5_longestChain_71 (F_X5_longestChain_20 n) x1 x2 x3 M else ckb (ix x3 10) (ckb (ix x3 10) (ckb (ix (M.2 7 x3.toNatClampNeg) 10) (ckb (ix x3 10) (ckb (ix (M.2 7 x3.toNatClampNeg) 10) (F_X5_longestChain_71 (F_X5_longestChain_20 n) x1 x2 x3 (sa M 11 (M.2 7 x3.toNatClampNeg).toNatClampNeg (if (M.2 11 (M.2 7 x3.toNatClampNeg).toNatClampNeg) < ((M.2 11 x3.toNatClampNeg) + 1) then ((M.2 11 x3.toNatClampNeg) + 1) else (M.2 11 (M.2 7 x3.toNatClampNeg).toNatClampNeg))))))))
def F_X5_longestChain (x1 : Int32) (M : Mem) : Option (Int32 × Mem) := bd (F_X5_heardOnes M) (fun r1 M1 => bdv (F_J7_fill_53178 11 0 M1) (fun M10 => F_X5_longestChain_20 fu x1 r1 ((M10.1 0) - 1) M10))
set_option maxHeartbeats 4000000 in
set_option maxRecDepth 100000 in
theorem b_X5_longestChain_71 {k20 : Int32 → Int32 → Int32 → Mem → Option (Int32 × Mem)} {M0 : Mem} {r0 : Int32} (hC : SX p m c s args cX5_longestChain 4 RX5 G (AG G)) (hr : meth.sig.returnType = (some .int)) (hlk : meth.locks = false) (hn : ∀ i ∈ LsF, i ∈ gL G) (hk20 : ∀ (x1 : Int32) (x2 : Int32) (x3 : Int32) (M : Mem) (H : Heap) (locs : List Loc) (ls : Array Slot), k20 x1 x2 x3 M = some (r0, M0) → ST G (AG G) s M H locs → lv_has ls 4 [(0, .ref (G.1 52)), (1, .int x1), (2, .int x2), (3, .int x3)] → W p l e (RM 2 40) s m args below meth c H locs 0 0 (MQ below (QV G (some (.int r0)) M0) args s 0 0 (AG G)) (F0 m 20 ls [])) : ∀ (x1 : Int32) (x2 : Int32) (x3 : Int32) (M : Mem) (H : Heap) (locs : List Loc) (ls : Array Slot), F_X5_longestChain_71 k20 x1 x2 x3 M = some (r0, M0) → ST G (AG G) s M H locs → lv_has ls 4 [(0, .ref (G.1 52)), (1, .int x1), (2, .int x2), (3, .int x3)] → W p l e (RM 2 40) s m args below meth c H locs 0 0 (MQ below (QV G (some (.int r0)) M0) args s 0 0 (AG G)) (F0 m 71 ls []) := by
  obtain ⟨⟨hx, hb, hml, hown, hts⟩, hK, hG, hA⟩ := id hC
  intro x1 x2 x3 M H locs ls hF hS hl
  unfold F_X5_longestChain_71 at hF
  refine lv_iinc (v := x3 + (-1)) (lv' := [(3, .int (x3 + (-1))), (0, .ref (G.1 52)), (1, .int x1), (2, .int x2)]) hx hb dX5_longestChain_71 hl (k := 3) rfl rfl (by decide) rfl (fun ls hl => ?_)
  refine lv_goto (tgt := 20) hx hb dX5_longestChain_74 (by decide) ?_
  exact hk20 _ _ _ _ _ _ _ hF hS (lv_sub hl [1, 2, 3, 0] rfl)
set_option maxHeartbeats 4000000 in
set_option maxRecDepth 100000 in
theorem b_X5_longestChain_20 {M0 : Mem} {r0 : Int32} (hC : SX p m c s args cX5_longestChain 4 RX5 G (AG G)) (hr : meth.sig.returnType = (some .int)) (hlk : meth.locks = false) (hn : ∀ i ∈ LsF, i ∈ gL G) : ∀ (n : Nat) (x1 : Int32) (x2 : Int32) (x3 : Int32) (M : Mem) (H : Heap) (locs : List Loc) (ls : Array Slot), F_X5_longestChain_20 n x1 x2 x3 M = some (r0, M0) → ST G (AG G) s M H locs → lv_has ls 4 [(0, .ref (G.1 52)), (1, .int x1), (2, .int x2), (3, .int x3)] → W p l e (RM 2 40) s m args below meth c H locs 0 0 (MQ below (QV G (some (.int r0)) M0) args s 0 0 (AG G)) (F0 m 20 ls []) := by
  obtain ⟨⟨hx, hb, hml, hown, hts⟩, hK, hG, hA⟩ := id hC
  intro n
  induction n with
  | zero =>
    intro x1 x2 x3 M H locs ls hF
    cases hF
  | succ n ih =>
    intro x1 x2 x3 M H locs ls hF hS hl
    unfold F_X5_longestChain_20 at hF
    refine lv_iload_n hx hb dX5_longestChain_20 rfl (lv_at hl 3 rfl) ?_
    refine lv_iload_n hx hb dX5_longestChain_21 rfl (lv_at hl 1 rfl) ?_
    refine lv_icmp_le (tgt := 77) hx hb dX5_longestChain_22 (by decide) (fun hc => ?_) (fun hc => ?_)
    · rw [if_pos hc] at hF
      refine lv_aload_n hx hb dX5_longestChain_77 rfl (lv_at hl 0 rfl) ?_
      refine gx (ci := 5) (k := 9) (v := .ref (G.1 11)) (C := RX5) (T := TX5) (N := 13) hC hS (hn _ (by decide)) rfl rfl in_X5 (by decide) rfl rfl lf_X5_39 dX5_longestChain_78 ?_
      refine lv_iload_n hx hb dX5_longestChain_81 rfl (lv_at hl 1 rfl) ?_
      obtain ⟨hi, hF⟩ := ckb_some hF
      refine ald hC hS (hn _ (by decide)) (by decide) rfl hi dX5_longestChain_82 ?_
      exact retI hC hS hr hlk hF dX5_longestChain_83
    · rw [if_neg hc] at hF
      refine lv_aload_n hx hb dX5_longestChain_25 rfl (lv_at hl 0 rfl) ?_
      refine gx (ci := 5) (k := 12) (v := .int (M.1 2)) (C := RX5) (T := TX5) (N := 13) hC hS (hn _ (by decide)) rfl rfl in_X5 (by decide) rfl rfl lf_X5_49 dX5_longestChain_26 ?_
      refine lv_iload_n hx hb dX5_longestChain_29 rfl (lv_at hl 2 rfl) ?_
      refine lv_iand hx hb dX5_longestChain_30 ?_
      refine lv_iconst (v := 1) hx hb dX5_longestChain_31 (by decide) ?_
      refine lv_iload_n hx hb dX5_longestChain_32 rfl (lv_at hl 3 rfl) ?_
      refine lv_ishl hx hb dX5_longestChain_33 ?_
      refine lv_iand hx hb dX5_longestChain_34 ?_
      refine lv_if_eq (tgt := 71) hx hb dX5_longestChain_35 (by decide) (fun hc => ?_) (fun hc => ?_)
      · rw [if_pos hc] at hF
        exact b_X5_longestChain_71 hC hr hlk hn ih _ _ _ _ _ _ _ hF hS (lv_sub hl [0, 1, 2, 3] rfl)
      · rw [if_neg hc] at hF
        refine lv_aload_n hx hb dX5_longestChain_38 rfl (lv_at hl 0 rfl) ?_
        refine gx (ci := 5) (k := 9) (v := .ref (G.1 11)) (C := RX5) (T := TX5) (N := 13) hC hS (hn _ (by decide)) rfl rfl in_X5 (by decide) rfl rfl lf_X5_39 dX5_longestChain_39 ?_
        refine lv_aload_n hx hb dX5_longestChain_42 rfl (lv_at hl 0 rfl) ?_
        refine gx (ci := 5) (k := 5) (v := .ref (G.1 7)) (C := RX5) (T := TX5) (N := 13) hC hS (hn _ (by decide)) rfl rfl in_X5 (by decide) rfl rfl lf_X5_27 dX5_longestChain_43 ?_
        refine lv_iload_n hx hb dX5_longestChain_46 rfl (lv_at hl 3 rfl) ?_
        obtain ⟨hi, hF⟩ := ckb_some hF
        refine ald hC hS (hn _ (by decide)) (by decide) rfl hi dX5_longestChain_47 ?_
        refine lv_aload_n hx hb dX5_longestChain_48 rfl (lv_at hl 0 rfl) ?_
        refine gx (ci := 5) (k := 9) (v := .ref (G.1 11)) (C := RX5) (T := TX5) (N := 13) hC hS (hn _ (by decide)) rfl rfl in_X5 (by decide) rfl rfl lf_X5_39 dX5_longestChain_49 ?_
        refine lv_aload_n hx hb dX5_longestChain_52 rfl (lv_at hl 0 rfl) ?_
        refine gx (ci := 5) (k := 5) (v := .ref (G.1 7)) (C := RX5) (T := TX5) (N := 13) hC hS (hn _ (by decide)) rfl rfl in_X5 (by decide) rfl rfl lf_X5_27 dX5_longestChain_53 ?_
        refine lv_iload_n hx hb dX5_longestChain_56 rfl (lv_at hl 3 rfl) ?_
        obtain ⟨hi, hF⟩ := ckb_some hF
        refine ald hC hS (hn _ (by decide)) (by decide) rfl hi dX5_longestChain_57 ?_
        obtain ⟨hi, hF⟩ := ckb_some hF
        refine ald hC hS (hn _ (by decide)) (by decide) rfl hi dX5_longestChain_58 ?_
        refine lv_aload_n hx hb dX5_longestChain_59 rfl (lv_at hl 0 rfl) ?_
        refine gx (ci := 5) (k := 9) (v := .ref (G.1 11)) (C := RX5) (T := TX5) (N := 13) hC hS (hn _ (by decide)) rfl rfl in_X5 (by decide) rfl rfl lf_X5_39 dX5_longestChain_60 ?_
        refine lv_iload_n hx hb dX5_longestChain_63 rfl (lv_at hl 3 rfl) ?_
        obtain ⟨hi, hF⟩ := ckb_some hF
        refine ald hC hS (hn _ (by decide)) (by decide) rfl hi dX5_longestChain_64 ?_
        refine lv_iconst (v := 1) hx hb dX5_longestChain_65 (by decide) ?_
        refine lv_iadd hx hb dX5_longestChain_66 ?_
        refine va_mmax (rest := [.int (M.2 7 x3.toNatClampNeg), .ref (G.1 11)]) hx hb (hml.trans hl.1.symm) hown (hts _ lm_X5_90) (hts _ mx_max.1) (hts _ mx_max.2.1) (hts _ mx_max.2.2) (Nat.le_of_ble_eq_true rfl) (Nat.le_of_ble_eq_true rfl) (Nat.le_refl _) (Nat.le_refl _) dX5_longestChain_67 ?_
        obtain ⟨hi, hF⟩ := ckb_some hF
        refine ast hC hS (hn _ (by decide)) (by decide) rfl hi dX5_longestChain_70 (fun H locs hS => ?_)
        exact b_X5_longestChain_71 hC hr hlk hn ih _ _ _ _ _ _ _ hF hS (lv_sub hl [0, 1, 2, 3] rfl)
set_option maxHeartbeats 4000000 in
set_option maxRecDepth 100000 in
theorem b_X5_longestChain {M0 : Mem} {r0 : Int32} (hC : SX p m c s args cX5_longestChain 4 RX5 G (AG G)) (hr : meth.sig.returnType = (some .int)) (hlk : meth.locks = false) (hn : ∀ i ∈ LsF, i ∈ gL G) : ∀ (x1 : Int32) (M : Mem) (H : Heap) (locs : List Loc) (ls : Array Slot), F_X5_longestChain x1 M = some (r0, M0) → ST G (AG G) s M H locs → lv_has ls 4 [(0, .ref (G.1 52)), (1, .int x1)] → W p l e (RM 2 40) s m args below meth c H locs 0 0 (MQ below (QV G (some (.int r0)) M0) args s 0 0 (AG G)) (F0 m 0 ls []) := by
  obtain ⟨⟨hx, hb, hml, hown, hts⟩, hK, hG, hA⟩ := id hC
  intro x1 M H locs ls hF hS hl
  unfold F_X5_longestChain at hF
  refine lv_aload_n hx hb dX5_longestChain_0 rfl (lv_at hl 0 rfl) ?_
  obtain ⟨r1, M1, h1, hF⟩ := bd_some hF
  refine cV_ (ci := 5) (i := 52) (C := RX5) (T := TX5) (N := 13) (As := []) (v := some (.int r1)) (rest := []) (st1 := [.int r1]) hC hS (hn _ (by decide)) rfl rfl (c_X5_heardOnes l G hn M _ _ h1) kV_X5_heardOnes lm_X5_87 ⟨Nat.le_of_ble_eq_true rfl, Nat.le_of_ble_eq_true rfl⟩ rfl hl.1 (Nat.le_of_ble_eq_true rfl) dX5_longestChain_1 ⟨Nat.le_refl _, Nat.le_refl _⟩ rfl (fun H locs hS => ?_)
  refine lv_istore_n (lv' := [(2, .int r1), (0, .ref (G.1 52)), (1, .int x1)]) hx hb dX5_longestChain_4 rfl hl (by decide) rfl (fun ls hl => ?_)
  refine lv_aload_n hx hb dX5_longestChain_5 rfl (lv_at hl 1 rfl) ?_
  refine gx (ci := 5) (k := 9) (v := .ref (G.1 11)) (C := RX5) (T := TX5) (N := 13) hC hS (hn _ (by decide)) rfl rfl in_X5 (by decide) rfl rfl lf_X5_39 dX5_longestChain_6 ?_
  refine lv_iconst (v := 0) hx hb dX5_longestChain_9 (by decide) ?_
  obtain ⟨M10, h10, hF⟩ := bdv_some hF
  refine cS_ (As := [.ref (G.1 11), .int 0]) (v := none) (rest := []) (st1 := []) hC hS (c_J7_fill_53178 l G 11 ⟨(hn _ (by decide)), (by decide), rfl⟩ 0 M1 _ h10) kS_J7_fill_53178 lm_X5_66 ⟨Nat.le_of_ble_eq_true rfl, Nat.le_of_ble_eq_true rfl⟩ rfl hl.1 (Nat.le_of_ble_eq_true rfl) dX5_longestChain_10 ⟨Nat.le_refl _, Nat.le_refl _⟩ rfl (fun H locs hS => ?_)
  refine lv_aload_n hx hb dX5_longestChain_13 rfl (lv_at hl 1 rfl) ?_
  refine gx (ci := 5) (k := 10) (v := .int (M10.1 0)) (C := RX5) (T := TX5) (N := 13) hC hS (hn _ (by decide)) rfl rfl in_X5 (by decide) rfl rfl lf_X5_42 dX5_longestChain_14 ?_
  refine lv_iconst (v := 1) hx hb dX5_longestChain_17 (by decide) ?_
  refine lv_isub hx hb dX5_longestChain_18 ?_
  refine lv_istore_n (lv' := [(3, .int ((M10.1 0) - 1)), (2, .int r1), (0, .ref (G.1 52)), (1, .int x1)]) hx hb dX5_longestChain_19 rfl hl (by decide) rfl (fun ls hl => ?_)
  exact b_X5_longestChain_20 hC hr hlk hn fu _ _ _ _ _ _ _ hF hS (lv_sub hl [2, 3, 1, 0] rfl)
set_option maxRecDepth 100000 in
theorem c_X5_longestChain (l : Launch) (G : GT) (hn : ∀ i ∈ LsF, i ∈ gL G) (x1 : Int32) (M : Mem) (r0 : Int32) (M0 : Mem) (hF : F_X5_longestChain x1 M = some (r0, M0)) : MetG l G yX5_longestChain cX5_longestChain 4 (some .int) 2 40 [.ref (G.1 52), .int x1] M (some (.int r0)) M0 := by
  refine MetG.of (by decide) (Nat.le_of_ble_eq_true rfl) ?_
  intro p e s m args below meth c hC hr hlk hnm ls hS hl
  exact b_X5_longestChain hC hr hlk hn _ _ _ _ _ hF hS hl
end
