section
variable {p : Program} {l : Launch} {e : Env} {s : State} {m : MethodId} {args : Array Value} {below : List Frame} {meth : Method} {c : Code} {G : GT}
def F_X7_law (x1 : Int32) (x2 : Int32) (M : Mem) : Option (Int32 × Mem) := bd (F_X7_isLaw x1 M) (fun r1 M1 => if r1 = 0 then some ((-2), M1) else bd (F_X7_in x2 0 3 M1) (fun r10 M10 => if r10 = 0 then some ((-2), M10) else bdv (F_X7_reads x1 M10) (fun M21 => ckb (ix ((4 * x1) + x2) 8) (some (M21.2 32 ((4 * x1) + x2).toNatClampNeg, M21)))))
set_option maxHeartbeats 4000000 in
set_option maxRecDepth 100000 in
theorem b_X7_law {M0 : Mem} {r0 : Int32} (hC : SX p m c s args cX7_law 3 RX7 G (AG G)) (hr : meth.sig.returnType = (some .int)) (hlk : meth.locks = false) (hn : ∀ i ∈ LsF, i ∈ gL G) : ∀ (x1 : Int32) (x2 : Int32) (M : Mem) (H : Heap) (locs : List Loc) (ls : Array Slot), F_X7_law x1 x2 M = some (r0, M0) → ST G (AG G) s M H locs → lv_has ls 3 [(0, .ref (G.1 61)), (1, .int x1), (2, .int x2)] → W p l e (RM 3 68) s m args below meth c H locs 0 0 (MQ below (QV G (some (.int r0)) M0) args s 0 0 (AG G)) (F0 m 0 ls []) := by
  obtain ⟨⟨hx, hb, hml, hown, hts⟩, hK, hG, hA⟩ := id hC
  intro x1 x2 M H locs ls hF hS hl
  unfold F_X7_law at hF
  refine lv_iload_n hx hb dX7_law_0 rfl (lv_at hl 1 rfl) ?_
  obtain ⟨r1, M1, h1, hF⟩ := bd_some hF
  refine cS_ (As := [.int x1]) (v := some (.int r1)) (rest := []) (st1 := [.int r1]) hC hS (c_X7_isLaw l G hn x1 M _ _ h1) kS_X7_isLaw lm_X7_120 ⟨Nat.le_of_ble_eq_true rfl, Nat.le_of_ble_eq_true rfl⟩ rfl hl.1 (Nat.le_of_ble_eq_true rfl) dX7_law_1 ⟨Nat.le_refl _, Nat.le_refl _⟩ rfl (fun H locs hS => ?_)
  refine lv_if_eq (tgt := 16) hx hb dX7_law_4 (by decide) (fun hc => ?_) (fun hc => ?_)
  · rw [if_pos hc] at hF
    refine lv_bipush (v := (-2)) hx hb dX7_law_16 (by decide) ?_
    exact retI hC hS hr hlk hF dX7_law_18
  · rw [if_neg hc] at hF
    refine lv_iload_n hx hb dX7_law_7 rfl (lv_at hl 2 rfl) ?_
    refine lv_iconst (v := 0) hx hb dX7_law_8 (by decide) ?_
    refine lv_iconst (v := 3) hx hb dX7_law_9 (by decide) ?_
    obtain ⟨r10, M10, h10, hF⟩ := bd_some hF
    refine cS_ (As := [.int x2, .int 0, .int 3]) (v := some (.int r10)) (rest := []) (st1 := [.int r10]) hC hS (c_X7_in l G hn x2 0 3 M1 _ _ h10) kS_X7_in lm_X7_71 ⟨Nat.le_of_ble_eq_true rfl, Nat.le_of_ble_eq_true rfl⟩ rfl hl.1 (Nat.le_of_ble_eq_true rfl) dX7_law_10 ⟨Nat.le_refl _, Nat.le_refl _⟩ rfl (fun H locs hS => ?_)
    refine lv_if_ne (tgt := 19) hx hb dX7_law_13 (by decide) (fun hc => ?_) (fun hc => ?_)
    · rw [if_neg hc] at hF
      refine lv_aload_n hx hb dX7_law_19 rfl (lv_at hl 0 rfl) ?_
      refine lv_iload_n hx hb dX7_law_20 rfl (lv_at hl 1 rfl) ?_
      obtain ⟨M21, h21, hF⟩ := bdv_some hF
      refine cV_ (ci := 7) (i := 61) (C := RX7) (T := TX7) (N := 29) (As := [.int x1]) (v := none) (rest := []) (st1 := []) hC hS (hn _ (by decide)) rfl rfl (c_X7_reads l G hn x1 M10 _ h21) kV_X7_reads lm_X7_133 ⟨Nat.le_of_ble_eq_true rfl, Nat.le_of_ble_eq_true rfl⟩ rfl hl.1 (Nat.le_of_ble_eq_true rfl) dX7_law_21 ⟨Nat.le_refl _, Nat.le_refl _⟩ rfl (fun H locs hS => ?_)
      refine lv_aload_n hx hb dX7_law_24 rfl (lv_at hl 0 rfl) ?_
      refine gx (ci := 7) (k := 13) (v := .ref (G.1 32)) (C := RX7) (T := TX7) (N := 29) hC hS (hn _ (by decide)) rfl rfl in_X7 (by decide) rfl rfl lf_X7_40 dX7_law_25 ?_
      refine lv_iconst (v := 4) hx hb dX7_law_28 (by decide) ?_
      refine lv_iload_n hx hb dX7_law_29 rfl (lv_at hl 1 rfl) ?_
      refine lv_imul hx hb dX7_law_30 ?_
      refine lv_iload_n hx hb dX7_law_31 rfl (lv_at hl 2 rfl) ?_
      refine lv_iadd hx hb dX7_law_32 ?_
      obtain ⟨hi, hF⟩ := ckb_some hF
      refine ald hC hS (hn _ (by decide)) (by decide) rfl hi dX7_law_33 ?_
      exact retI hC hS hr hlk hF dX7_law_34
    · rw [if_pos hc] at hF
      refine lv_bipush (v := (-2)) hx hb dX7_law_16 (by decide) ?_
      exact retI hC hS hr hlk hF dX7_law_18
set_option maxRecDepth 100000 in
theorem c_X7_law (l : Launch) (G : GT) (hn : ∀ i ∈ LsF, i ∈ gL G) (x1 : Int32) (x2 : Int32) (M : Mem) (r0 : Int32) (M0 : Mem) (hF : F_X7_law x1 x2 M = some (r0, M0)) : MetG l G yX7_law cX7_law 3 (some .int) 3 68 [.ref (G.1 61), .int x1, .int x2] M (some (.int r0)) M0 := by
  refine MetG.of (by decide) (Nat.le_of_ble_eq_true rfl) ?_
  intro p e s m args below meth c hC hr hlk hnm ls hS hl
  exact b_X7_law hC hr hlk hn _ _ _ _ _ _ hF hS hl
def F_X7_undoes (x1 : Int32) (x2 : Int32) (M : Mem) : Option Mem := if x2 = 0 then some (sv (sv (sv M 44 ((M.1 44) &&& (((1 : Int32) <<< (x1 &&& 31)) ^^^ (-1)))) 45 (((sv M 44 ((M.1 44) &&& (((1 : Int32) <<< (x1 &&& 31)) ^^^ (-1)))).1 45) ||| ((1 : Int32) <<< (x1 &&& 31)))) 46 (((sv (sv M 44 ((M.1 44) &&& (((1 : Int32) <<< (x1 &&& 31)) ^^^ (-1)))) 45 (((sv M 44 ((M.1 44) &&& (((1 : Int32) <<< (x1 &&& 31)) ^^^ (-1)))).1 45) ||| ((1 : Int32) <<< (x1 &&& 31)))).1 46) ||| 0)) else ckb (ix x1 10) (some (sv (sv (sv M 44 ((M.1 44) &&& (((1 : Int32) <<< (x1 &&& 31)) ^^^ (-1)))) 45 (((sv M 44 ((M.1 44) &&& (((1 : Int32) <<< (x1 &&& 31)) ^^^ (-1)))).1 45) ||| ((1 : Int32) <<< (x1 &&& 31)))) 46 (((sv (sv M 44 ((M.1 44) &&& (((1 : Int32) <<< (x1 &&& 31)) ^^^ (-1)))) 45 (((sv M 44 ((M.1 44) &&& (((1 : Int32) <<< (x1 &&& 31)) ^^^ (-1)))).1 45) ||| ((1 : Int32) <<< (x1 &&& 31)))).1 46) ||| ((sv (sv M 44 ((M.1 44) &&& (((1 : Int32) <<< (x1 &&& 31)) ^^^ (-1)))) 45 (((sv M 44 ((M.1 44) &&& (((1 : Int32) <<< (x1 &&& 31)) ^^^ (-1)))).1 45) ||| ((1 : Int32) <<< (x1 &&& 31)))).2 25 x1.toNatClampNeg))))
set_option maxHeartbeats 4000000 in
set_option maxRecDepth 100000 in
theorem b_X7_undoes {M0 : Mem} (hC : SX p m c s args cX7_undoes 3 RX7 G (AG G)) (hr : meth.sig.returnType = none) (hlk : meth.locks = false) (hn : ∀ i ∈ LsF, i ∈ gL G) : ∀ (x1 : Int32) (x2 : Int32) (M : Mem) (H : Heap) (locs : List Loc) (ls : Array Slot), F_X7_undoes x1 x2 M = some M0 → ST G (AG G) s M H locs → lv_has ls 3 [(0, .ref (G.1 61)), (1, .int x1), (2, .int x2)] → W p l e (RM 0 0) s m args below meth c H locs 0 0 (MQ below (QV G none M0) args s 0 0 (AG G)) (F0 m 0 ls []) := by
  obtain ⟨⟨hx, hb, hml, hown, hts⟩, hK, hG, hA⟩ := id hC
  intro x1 x2 M H locs ls hF hS hl
  unfold F_X7_undoes at hF
  refine lv_aload_n hx hb dX7_undoes_0 rfl (lv_at hl 0 rfl) ?_
  refine lv_dup hx hb dX7_undoes_1 rfl ?_
  refine gx (ci := 7) (k := 16) (v := .int (M.1 44)) (C := RX7) (T := TX7) (N := 29) hC hS (hn _ (by decide)) rfl rfl in_X7 (by decide) rfl rfl lf_X7_136 dX7_undoes_2 ?_
  refine lv_iconst (v := 1) hx hb dX7_undoes_5 (by decide) ?_
  refine lv_iload_n hx hb dX7_undoes_6 rfl (lv_at hl 1 rfl) ?_
  refine lv_ishl hx hb dX7_undoes_7 ?_
  refine lv_iconst (v := (-1)) hx hb dX7_undoes_8 (by decide) ?_
  refine lv_ixor hx hb dX7_undoes_9 ?_
  refine lv_iand hx hb dX7_undoes_10 ?_
  refine px (ci := 7) (k := 16) (n := 44) (ty := .int) (C := RX7) (T := TX7) (N := 29) hC hS (hn _ (by decide)) rfl rfl in_X7 tyX7_ok nmX7 (by decide) rfl rfl (by decide +kernel) rfl rfl (Nat.le_of_ble_eq_true rfl) rfl se_X7_16 lf_X7_136 dX7_undoes_11 (fun H locs hS => ?_)
  refine lv_aload_n hx hb dX7_undoes_14 rfl (lv_at hl 0 rfl) ?_
  refine lv_dup hx hb dX7_undoes_15 rfl ?_
  refine gx (ci := 7) (k := 17) (v := .int ((sv M 44 ((M.1 44) &&& (((1 : Int32) <<< (x1 &&& 31)) ^^^ (-1)))).1 45)) (C := RX7) (T := TX7) (N := 29) hC hS (hn _ (by decide)) rfl rfl in_X7 (by decide) rfl rfl lf_X7_139 dX7_undoes_16 ?_
  refine lv_iconst (v := 1) hx hb dX7_undoes_19 (by decide) ?_
  refine lv_iload_n hx hb dX7_undoes_20 rfl (lv_at hl 1 rfl) ?_
  refine lv_ishl hx hb dX7_undoes_21 ?_
  refine lv_ior hx hb dX7_undoes_22 ?_
  refine px (ci := 7) (k := 17) (n := 45) (ty := .int) (C := RX7) (T := TX7) (N := 29) hC hS (hn _ (by decide)) rfl rfl in_X7 tyX7_ok nmX7 (by decide) rfl rfl (by decide +kernel) rfl rfl (Nat.le_of_ble_eq_true rfl) rfl se_X7_17 lf_X7_139 dX7_undoes_23 (fun H locs hS => ?_)
  refine lv_aload_n hx hb dX7_undoes_26 rfl (lv_at hl 0 rfl) ?_
  refine lv_dup hx hb dX7_undoes_27 rfl ?_
  refine gx (ci := 7) (k := 18) (v := .int ((sv (sv M 44 ((M.1 44) &&& (((1 : Int32) <<< (x1 &&& 31)) ^^^ (-1)))) 45 (((sv M 44 ((M.1 44) &&& (((1 : Int32) <<< (x1 &&& 31)) ^^^ (-1)))).1 45) ||| ((1 : Int32) <<< (x1 &&& 31)))).1 46)) (C := RX7) (T := TX7) (N := 29) hC hS (hn _ (by decide)) rfl rfl in_X7 (by decide) rfl rfl lf_X7_142 dX7_undoes_28 ?_
  refine lv_iload_n hx hb dX7_undoes_31 rfl (lv_at hl 2 rfl) ?_
  refine lv_if_eq (tgt := 44) hx hb dX7_undoes_32 (by decide) (fun hc => ?_) (fun hc => ?_)
  · rw [if_pos hc] at hF
    refine lv_iconst (v := 0) hx hb dX7_undoes_44 (by decide) ?_
    refine lv_ior hx hb dX7_undoes_45 ?_
    refine px (ci := 7) (k := 18) (n := 46) (ty := .int) (C := RX7) (T := TX7) (N := 29) hC hS (hn _ (by decide)) rfl rfl in_X7 tyX7_ok nmX7 (by decide) rfl rfl (by decide +kernel) rfl rfl (Nat.le_of_ble_eq_true rfl) rfl se_X7_18 lf_X7_142 dX7_undoes_46 (fun H locs hS => ?_)
    exact retV hC hS hr hlk hF dX7_undoes_49
  · rw [if_neg hc] at hF
    refine lv_aload_n hx hb dX7_undoes_35 rfl (lv_at hl 0 rfl) ?_
    refine gx (ci := 7) (k := 4) (v := .ref (G.1 25)) (C := RX7) (T := TX7) (N := 29) hC hS (hn _ (by decide)) rfl rfl in_X7 (by decide) rfl rfl lf_X7_19 dX7_undoes_36 ?_
    refine lv_iload_n hx hb dX7_undoes_39 rfl (lv_at hl 1 rfl) ?_
    obtain ⟨hi, hF⟩ := ckb_some hF
    refine ald hC hS (hn _ (by decide)) (by decide) rfl hi dX7_undoes_40 ?_
    refine lv_goto (tgt := 45) hx hb dX7_undoes_41 (by decide) ?_
    refine lv_ior hx hb dX7_undoes_45 ?_
    refine px (ci := 7) (k := 18) (n := 46) (ty := .int) (C := RX7) (T := TX7) (N := 29) hC hS (hn _ (by decide)) rfl rfl in_X7 tyX7_ok nmX7 (by decide) rfl rfl (by decide +kernel) rfl rfl (Nat.le_of_ble_eq_true rfl) rfl se_X7_18 lf_X7_142 dX7_undoes_46 (fun H locs hS => ?_)
    exact retV hC hS hr hlk hF dX7_undoes_49
set_option maxRecDepth 100000 in
theorem c_X7_undoes (l : Launch) (G : GT) (hn : ∀ i ∈ LsF, i ∈ gL G) (x1 : Int32) (x2 : Int32) (M : Mem) (M0 : Mem) (hF : F_X7_undoes x1 x2 M = some M0) : MetG l G yX7_undoes cX7_undoes 3 none 0 0 [.ref (G.1 61), .int x1, .int x2] M none M0 := by
  refine MetG.of (by decide) (Nat.le_of_ble_eq_true rfl) ?_
  intro p e s m args below meth c hC hr hlk hnm ls hS hl
  exact b_X7_undoes hC hr hlk hn _ _ _ _ _ _ hF hS hl
def F_X7_quarrel_44 (M : Mem) : Option (Int32 × Mem) := some (0, M)
def F_X7_quarrel_40 (M : Mem) : Option (Int32 × Mem) := some (1, M)
def F_X7_quarrel_20 (x1 : Int32) (x2 : Int32) (M : Mem) : Option (Int32 × Mem) := ckb (ix x2 10) (if (M.2 24 x2.toNatClampNeg) = 1 then ckb (ix x2 10) (if (M.2 28 x2.toNatClampNeg) = x1 then F_X7_quarrel_40 M else F_X7_quarrel_44 M) else F_X7_quarrel_44 M)
def F_X7_quarrel (x1 : Int32) (x2 : Int32) (M : Mem) : Option (Int32 × Mem) := ckb (ix x1 10) (if (M.2 24 x1.toNatClampNeg) = 1 then ckb (ix x1 10) (if (M.2 28 x1.toNatClampNeg) = x2 then F_X7_quarrel_40 M else F_X7_quarrel_20 x1 x2 M) else F_X7_quarrel_20 x1 x2 M)
set_option maxHeartbeats 4000000 in
set_option maxRecDepth 100000 in
theorem b_X7_quarrel_44 {M0 : Mem} {r0 : Int32} (hC : SX p m c s args cX7_quarrel 3 RX7 G (AG G)) (hr : meth.sig.returnType = (some .boolean)) (hlk : meth.locks = false) (hn : ∀ i ∈ LsF, i ∈ gL G) : ∀ (M : Mem) (H : Heap) (locs : List Loc) (ls : Array Slot), F_X7_quarrel_44 M = some (r0, M0) → ST G (AG G) s M H locs → lv_has ls 3 [] → W p l e (RM 0 0) s m args below meth c H locs 0 0 (MQ below (QV G (some (.int r0)) M0) args s 0 0 (AG G)) (F0 m 44 ls []) := by
  obtain ⟨⟨hx, hb, hml, hown, hts⟩, hK, hG, hA⟩ := id hC
  intro M H locs ls hF hS hl
  unfold F_X7_quarrel_44 at hF
  refine lv_iconst (v := 0) hx hb dX7_quarrel_44 (by decide) ?_
  exact retZ hC hS hr hlk rfl hF dX7_quarrel_45
set_option maxHeartbeats 4000000 in
set_option maxRecDepth 100000 in
theorem b_X7_quarrel_40 {M0 : Mem} {r0 : Int32} (hC : SX p m c s args cX7_quarrel 3 RX7 G (AG G)) (hr : meth.sig.returnType = (some .boolean)) (hlk : meth.locks = false) (hn : ∀ i ∈ LsF, i ∈ gL G) : ∀ (M : Mem) (H : Heap) (locs : List Loc) (ls : Array Slot), F_X7_quarrel_40 M = some (r0, M0) → ST G (AG G) s M H locs → lv_has ls 3 [] → W p l e (RM 0 0) s m args below meth c H locs 0 0 (MQ below (QV G (some (.int r0)) M0) args s 0 0 (AG G)) (F0 m 40 ls []) := by
  obtain ⟨⟨hx, hb, hml, hown, hts⟩, hK, hG, hA⟩ := id hC
  intro M H locs ls hF hS hl
  unfold F_X7_quarrel_40 at hF
  refine lv_iconst (v := 1) hx hb dX7_quarrel_40 (by decide) ?_
  refine lv_goto (tgt := 45) hx hb dX7_quarrel_41 (by decide) ?_
  exact retZ hC hS hr hlk rfl hF dX7_quarrel_45
set_option maxHeartbeats 4000000 in
set_option maxRecDepth 100000 in
theorem b_X7_quarrel_20 {M0 : Mem} {r0 : Int32} (hC : SX p m c s args cX7_quarrel 3 RX7 G (AG G)) (hr : meth.sig.returnType = (some .boolean)) (hlk : meth.locks = false) (hn : ∀ i ∈ LsF, i ∈ gL G) : ∀ (x1 : Int32) (x2 : Int32) (M : Mem) (H : Heap) (locs : List Loc) (ls : Array Slot), F_X7_quarrel_20 x1 x2 M = some (r0, M0) → ST G (AG G) s M H locs → lv_has ls 3 [(0, .ref (G.1 61)), (1, .int x1), (2, .int x2)] → W p l e (RM 0 0) s m args below meth c H locs 0 0 (MQ below (QV G (some (.int r0)) M0) args s 0 0 (AG G)) (F0 m 20 ls []) := by
  obtain ⟨⟨hx, hb, hml, hown, hts⟩, hK, hG, hA⟩ := id hC
  intro x1 x2 M H locs ls hF hS hl
  unfold F_X7_quarrel_20 at hF
  refine lv_aload_n hx hb dX7_quarrel_20 rfl (lv_at hl 0 rfl) ?_
  refine gx (ci := 7) (k := 3) (v := .ref (G.1 24)) (C := RX7) (T := TX7) (N := 29) hC hS (hn _ (by decide)) rfl rfl in_X7 (by decide) rfl rfl lf_X7_16 dX7_quarrel_21 ?_
  refine lv_iload_n hx hb dX7_quarrel_24 rfl (lv_at hl 2 rfl) ?_
  obtain ⟨hi, hF⟩ := ckb_some hF
  refine ald hC hS (hn _ (by decide)) (by decide) rfl hi dX7_quarrel_25 ?_
  refine lv_iconst (v := 1) hx hb dX7_quarrel_26 (by decide) ?_
  refine lv_icmp_ne (tgt := 44) hx hb dX7_quarrel_27 (by decide) (fun hc => ?_) (fun hc => ?_)
  · rw [if_neg hc] at hF
    exact b_X7_quarrel_44 hC hr hlk hn _ _ _ _ hF hS (lv_sub hl [] rfl)
  · rw [if_pos hc] at hF
    refine lv_aload_n hx hb dX7_quarrel_30 rfl (lv_at hl 0 rfl) ?_
    refine gx (ci := 7) (k := 7) (v := .ref (G.1 28)) (C := RX7) (T := TX7) (N := 29) hC hS (hn _ (by decide)) rfl rfl in_X7 (by decide) rfl rfl lf_X7_28 dX7_quarrel_31 ?_
    refine lv_iload_n hx hb dX7_quarrel_34 rfl (lv_at hl 2 rfl) ?_
    obtain ⟨hi, hF⟩ := ckb_some hF
    refine ald hC hS (hn _ (by decide)) (by decide) rfl hi dX7_quarrel_35 ?_
    refine lv_iload_n hx hb dX7_quarrel_36 rfl (lv_at hl 1 rfl) ?_
    refine lv_icmp_ne (tgt := 44) hx hb dX7_quarrel_37 (by decide) (fun hc => ?_) (fun hc => ?_)
    · rw [if_neg hc] at hF
      exact b_X7_quarrel_44 hC hr hlk hn _ _ _ _ hF hS (lv_sub hl [] rfl)
    · rw [if_pos hc] at hF
      exact b_X7_quarrel_40 hC hr hlk hn _ _ _ _ hF hS (lv_sub hl [] rfl)
set_option maxHeartbeats 4000000 in
set_option maxRecDepth 100000 in
theorem b_X7_quarrel {M0 : Mem} {r0 : Int32} (hC : SX p m c s args cX7_quarrel 3 RX7 G (AG G)) (hr : meth.sig.returnType = (some .boolean)) (hlk : meth.locks = false) (hn : ∀ i ∈ LsF, i ∈ gL G) : ∀ (x1 : Int32) (x2 : Int32) (M : Mem) (H : Heap) (locs : List Loc) (ls : Array Slot), F_X7_quarrel x1 x2 M = some (r0, M0) → ST G (AG G) s M H locs → lv_has ls 3 [(0, .ref (G.1 61)), (1, .int x1), (2, .int x2)] → W p l e (RM 0 0) s m args below meth c H locs 0 0 (MQ below (QV G (some (.int r0)) M0) args s 0 0 (AG G)) (F0 m 0 ls []) := by
  obtain ⟨⟨hx, hb, hml, hown, hts⟩, hK, hG, hA⟩ := id hC
  intro x1 x2 M H locs ls hF hS hl
  unfold F_X7_quarrel at hF
  refine lv_aload_n hx hb dX7_quarrel_0 rfl (lv_at hl 0 rfl) ?_
  refine gx (ci := 7) (k := 3) (v := .ref (G.1 24)) (C := RX7) (T := TX7) (N := 29) hC hS (hn _ (by decide)) rfl rfl in_X7 (by decide) rfl rfl lf_X7_16 dX7_quarrel_1 ?_
  refine lv_iload_n hx hb dX7_quarrel_4 rfl (lv_at hl 1 rfl) ?_
  obtain ⟨hi, hF⟩ := ckb_some hF
  refine ald hC hS (hn _ (by decide)) (by decide) rfl hi dX7_quarrel_5 ?_
  refine lv_iconst (v := 1) hx hb dX7_quarrel_6 (by decide) ?_
  refine lv_icmp_ne (tgt := 20) hx hb dX7_quarrel_7 (by decide) (fun hc => ?_) (fun hc => ?_)
  · rw [if_neg hc] at hF
    exact b_X7_quarrel_20 hC hr hlk hn _ _ _ _ _ _ hF hS (lv_sub hl [0, 1, 2] rfl)
  · rw [if_pos hc] at hF
    refine lv_aload_n hx hb dX7_quarrel_10 rfl (lv_at hl 0 rfl) ?_
    refine gx (ci := 7) (k := 7) (v := .ref (G.1 28)) (C := RX7) (T := TX7) (N := 29) hC hS (hn _ (by decide)) rfl rfl in_X7 (by decide) rfl rfl lf_X7_28 dX7_quarrel_11 ?_
    refine lv_iload_n hx hb dX7_quarrel_14 rfl (lv_at hl 1 rfl) ?_
    obtain ⟨hi, hF⟩ := ckb_some hF
    refine ald hC hS (hn _ (by decide)) (by decide) rfl hi dX7_quarrel_15 ?_
    refine lv_iload_n hx hb dX7_quarrel_16 rfl (lv_at hl 2 rfl) ?_
    refine lv_icmp_eq (tgt := 40) hx hb dX7_quarrel_17 (by decide) (fun hc => ?_) (fun hc => ?_)
    · rw [if_pos hc] at hF
      exact b_X7_quarrel_40 hC hr hlk hn _ _ _ _ hF hS (lv_sub hl [] rfl)
    · rw [if_neg hc] at hF
      exact b_X7_quarrel_20 hC hr hlk hn _ _ _ _ _ _ hF hS (lv_sub hl [0, 1, 2] rfl)
set_option maxRecDepth 100000 in
theorem c_X7_quarrel (l : Launch) (G : GT) (hn : ∀ i ∈ LsF, i ∈ gL G) (x1 : Int32) (x2 : Int32) (M : Mem) (r0 : Int32) (M0 : Mem) (hF : F_X7_quarrel x1 x2 M = some (r0, M0)) : MetG l G yX7_quarrel cX7_quarrel 3 (some .boolean) 0 0 [.ref (G.1 61), .int x1, .int x2] M (some (.int r0)) M0 := by
  refine MetG.of (by decide) (Nat.le_of_ble_eq_true rfl) ?_
  intro p e s m args below meth c hC hr hlk hnm ls hS hl
  exact b_X7_quarrel hC hr hlk hn _ _ _ _ _ _ hF hS hl
def F_X7_hears_462 (k80 : Int32 → Int32 → Int32 → Int32 → Int32 → Mem → Option Mem) (x2 : Int32) (x3 : Int32) (x4 : Int32) (x5 : Int32) (x6 : Int32) (M : Mem) : Option Mem := k80 x2 x3 x4 x5 (x6 + 1) M
def F_X7_hears_441 (k80 : Int32 → Int32 → Int32 → Int32 → Int32 → Mem → Option Mem) (k386 : Int32 → Int32 → Int32 → Int32 → Int32 → Int32 → Int32 → Int32 → Mem → Option Mem) (x2 : Int32) (x3 : Int32) (x4 : Int32) (x5 : Int32) (x6 : Int32) (x7 : Int32) (x10 : Int32) (t0 : Int32) (M : Mem) : Option Mem := k386 x2 x3 x4 x5 x6 x7 t0 (x10 + 1) M
def F_X7_hears_436 (k80 : Int32 → Int32 → Int32 → Int32 → Int32 → Mem → Option Mem) (k386 : Int32 → Int32 → Int32 → Int32 → Int32 → Int32 → Int32 → Int32 → Mem → Option Mem) (x2 : Int32) (x3 : Int32) (x4 : Int32) (x5 : Int32) (x6 : Int32) (x7 : Int32) (x10 : Int32) (M : Mem) : Option Mem := F_X7_hears_441 k80 k386 x2 x3 x4 x5 x6 x7 x10 1 M
def F_X7_hears_440 (k80 : Int32 → Int32 → Int32 → Int32 → Int32 → Mem → Option Mem) (k386 : Int32 → Int32 → Int32 → Int32 → Int32 → Int32 → Int32 → Int32 → Mem → Option Mem) (x2 : Int32) (x3 : Int32) (x4 : Int32) (x5 : Int32) (x6 : Int32) (x7 : Int32) (x10 : Int32) (M : Mem) : Option Mem := F_X7_hears_441 k80 k386 x2 x3 x4 x5 x6 x7 x10 0 M
def F_X7_hears_386 (k80 : Int32 → Int32 → Int32 → Int32 → Int32 → Mem → Option Mem) : Nat → Int32 → Int32 → Int32 → Int32 → Int32 → Int32 → Int32 → Int32 → Mem → Option Mem
  | 0, _, _, _, _, _, _, _, _, _ => none
  | n + 1, x2, x3, x4, x5, x6, x7, x9, x10, M => if (M.1 40) ≤ x10 then if x9 = 0 then F_X7_hears_462 k80 x2 x3 x4 x5 x6 M else bdv (F_X7_undoes x7 x4 M) (fun M459 => F_X7_hears_462 k80 x2 x3 x4 x5 x6 M459) else if x9 = 0 then bd (F_X7_has (M.1 44) x10 M) (fun r406 M406 => if r406 = 0 then F_X7_hears_440 k80 (F_X7_hears_386 k80 n) x2 x3 x4 x5 x6 x7 x10 M406 else bd (F_X7_has (M406.1 42) x10 M406) (fun r418 M418 => if r418 = 0 then F_X7_hears_440 k80 (F_X7_hears_386 k80 n) x2 x3 x4 x5 x6 x7 x10 M418 else ckb (ix x10 10) (if (M418.2 28 x10.toNatClampNeg) = x7 then F_X7_hears_436 k80 (F_X7_hears_386 k80 n) x2 x3 x4 x5 x6 x7 x10 M418 else F_X7_hears_440 k80 (F_X7_hears_386 k80 n) x2 x3 x4 x5 x6 x7 x10 M418))) else F_X7_hears_436 k80 (F_X7_hears_386 k80 n) x2 x3 x4 x5 x6 x7 x10 M
def F_X7_hears_380 (k80 : Int32 → Int32 → Int32 → Int32 → Int32 → Mem → Option Mem) (x2 : Int32) (x3 : Int32) (x4 : Int32) (x5 : Int32) (x6 : Int32) (x7 : Int32) (M : Mem) : Option Mem := F_X7_hears_386 k80 fu x2 x3 x4 x5 x6 x7 0 0 M
def F_X7_hears_317 (k80 : Int32 → Int32 → Int32 → Int32 → Int32 → Mem → Option Mem) (k164 : Int32 → Int32 → Int32 → Int32 → Int32 → Int32 → Int32 → Int32 → Mem → Option Mem) (x2 : Int32) (x3 : Int32) (x4 : Int32) (x5 : Int32) (x6 : Int32) (x7 : Int32) (x8 : Int32) (x9 : Int32) (M : Mem) : Option Mem := k164 x2 x3 x4 x5 x6 x7 x8 (x9 + 1) M
def F_X7_hears_302 (k80 : Int32 → Int32 → Int32 → Int32 → Int32 → Mem → Option Mem) (k164 : Int32 → Int32 → Int32 → Int32 → Int32 → Int32 → Int32 → Int32 → Mem → Option Mem) (x2 : Int32) (x3 : Int32) (x4 : Int32) (x5 : Int32) (x6 : Int32) (x7 : Int32) (x8 : Int32) (x9 : Int32) (M : Mem) : Option Mem := F_X7_hears_317 k80 k164 x2 x3 x4 x5 x6 x7 x8 x9 (sv M 44 ((M.1 44) &&& (((1 : Int32) <<< (x9 &&& 31)) ^^^ (-1))))
def F_X7_hears_285 (k80 : Int32 → Int32 → Int32 → Int32 → Int32 → Mem → Option Mem) (k164 : Int32 → Int32 → Int32 → Int32 → Int32 → Int32 → Int32 → Int32 → Mem → Option Mem) (x2 : Int32) (x3 : Int32) (x4 : Int32) (x5 : Int32) (x6 : Int32) (x7 : Int32) (x8 : Int32) (x9 : Int32) (x10 : Int32) (x11 : Int32) (x12 : Int32) (M : Mem) : Option Mem := if x12 = 0 then if x3 = 2 then if x10 ≤ x11 then F_X7_hears_317 k80 k164 x2 x3 x4 x5 x6 x7 x8 x9 M else F_X7_hears_302 k80 k164 x2 x3 x4 x5 x6 x7 x8 x9 M else F_X7_hears_317 k80 k164 x2 x3 x4 x5 x6 x7 x8 x9 M else F_X7_hears_302 k80 k164 x2 x3 x4 x5 x6 x7 x8 x9 M
def F_X7_hears_270 (k80 : Int32 → Int32 → Int32 → Int32 → Int32 → Mem → Option Mem) (k164 : Int32 → Int32 → Int32 → Int32 → Int32 → Int32 → Int32 → Int32 → Mem → Option Mem) (x2 : Int32) (x3 : Int32) (x4 : Int32) (x5 : Int32) (x6 : Int32) (x7 : Int32) (x8 : Int32) (x9 : Int32) (x10 : Int32) (x11 : Int32) (x12 : Int32) (M : Mem) : Option Mem := F_X7_hears_285 k80 k164 x2 x3 x4 x5 x6 x7 x8 x9 x10 x11 x12 (sv M 44 ((M.1 44) &&& (((1 : Int32) <<< (x7 &&& 31)) ^^^ (-1))))
def F_X7_hears_251 (k80 : Int32 → Int32 → Int32 → Int32 → Int32 → Mem → Option Mem) (k164 : Int32 → Int32 → Int32 → Int32 → Int32 → Int32 → Int32 → Int32 → Mem → Option Mem) (x2 : Int32) (x3 : Int32) (x4 : Int32) (x5 : Int32) (x6 : Int32) (x7 : Int32) (x8 : Int32) (x9 : Int32) (x10 : Int32) (x11 : Int32) (t0 : Int32) (M : Mem) : Option Mem := if t0 = 0 then if x3 = 1 then F_X7_hears_270 k80 k164 x2 x3 x4 x5 x6 x7 x8 x9 x10 x11 t0 M else if x11 ≤ x10 then F_X7_hears_285 k80 k164 x2 x3 x4 x5 x6 x7 x8 x9 x10 x11 t0 M else F_X7_hears_270 k80 k164 x2 x3 x4 x5 x6 x7 x8 x9 x10 x11 t0 M else F_X7_hears_270 k80 k164 x2 x3 x4 x5 x6 x7 x8 x9 x10 x11 t0 M
def F_X7_hears_246 (k80 : Int32 → Int32 → Int32 → Int32 → Int32 → Mem → Option Mem) (k164 : Int32 → Int32 → Int32 → Int32 → Int32 → Int32 → Int32 → Int32 → Mem → Option Mem) (x2 : Int32) (x3 : Int32) (x4 : Int32) (x5 : Int32) (x6 : Int32) (x7 : Int32) (x8 : Int32) (x9 : Int32) (x10 : Int32) (x11 : Int32) (M : Mem) : Option Mem := F_X7_hears_251 k80 k164 x2 x3 x4 x5 x6 x7 x8 x9 x10 x11 1 M
def F_X7_hears_250 (k80 : Int32 → Int32 → Int32 → Int32 → Int32 → Mem → Option Mem) (k164 : Int32 → Int32 → Int32 → Int32 → Int32 → Int32 → Int32 → Int32 → Mem → Option Mem) (x2 : Int32) (x3 : Int32) (x4 : Int32) (x5 : Int32) (x6 : Int32) (x7 : Int32) (x8 : Int32) (x9 : Int32) (x10 : Int32) (x11 : Int32) (M : Mem) : Option Mem := F_X7_hears_251 k80 k164 x2 x3 x4 x5 x6 x7 x8 x9 x10 x11 0 M
def F_X7_hears_164 (k80 : Int32 → Int32 → Int32 → Int32 → Int32 → Mem → Option Mem) : Nat → Int32 → Int32 → Int32 → Int32 → Int32 → Int32 → Int32 → Int32 → Mem → Option Mem
  | 0, _, _, _, _, _, _, _, _, _ => none
  | n + 1, x2, x3, x4, x5, x6, x7, x8, x9, M => if (M.1 40) ≤ x9 then bd (F_X7_has (M.1 44) x7 M) (fun r329 M329 => if r329 = 0 then F_X7_hears_462 k80 x2 x3 x4 x5 x6 M329 else bd (F_X7_has (M329.1 42) x7 M329) (fun r341 M341 => if r341 = 0 then F_X7_hears_380 k80 x2 x3 x4 x5 x6 x7 M341 else ckb (ix x7 10) (bd (F_X7_has (M341.1 44) (M341.2 28 x7.toNatClampNeg) M341) (fun r358 M358 => if r358 = 0 then F_X7_hears_380 k80 x2 x3 x4 x5 x6 x7 M358 else ckb (ix x7 10) (bdv (F_X7_undoes (M358.2 28 x7.toNatClampNeg) x4 M358) (fun M374 => F_X7_hears_462 k80 x2 x3 x4 x5 x6 M374)))))) else bd (F_X7_has x8 x9 M) (fun r177 M177 => if r177 = 0 then F_X7_hears_317 k80 (F_X7_hears_164 k80 n) x2 x3 x4 x5 x6 x7 x8 x9 M177 else bd (F_X7_has (M177.1 44) x7 M177) (fun r189 M189 => if r189 = 0 then F_X7_hears_317 k80 (F_X7_hears_164 k80 n) x2 x3 x4 x5 x6 x7 x8 x9 M189 else bd (F_X7_quarrel x7 x9 M189) (fun r200 M200 => if r200 = 0 then F_X7_hears_317 k80 (F_X7_hears_164 k80 n) x2 x3 x4 x5 x6 x7 x8 x9 M200 else ckb (ix x7 10) (bd (F_X7_ones (M200.2 25 x7.toNatClampNeg) M200) (fun r213 M213 => ckb (ix x9 10) (bd (F_X7_ones (M213.2 25 x9.toNatClampNeg) M213) (fun r225 M225 => if x3 = 0 then F_X7_hears_246 k80 (F_X7_hears_164 k80 n) x2 x3 x4 x5 x6 x7 x8 x9 r213 r225 M225 else if x3 = 2 then if r213 = r225 then F_X7_hears_246 k80 (F_X7_hears_164 k80 n) x2 x3 x4 x5 x6 x7 x8 x9 r213 r225 M225 else F_X7_hears_250 k80 (F_X7_hears_164 k80 n) x2 x3 x4 x5 x6 x7 x8 x9 r213 r225 M225 else F_X7_hears_250 k80 (F_X7_hears_164 k80 n) x2 x3 x4 x5 x6 x7 x8 x9 r213 r225 M225)))))))
def F_X7_hears_142 (k80 : Int32 → Int32 → Int32 → Int32 → Int32 → Mem → Option Mem) (x2 : Int32) (x3 : Int32) (x4 : Int32) (x5 : Int32) (x6 : Int32) (x7 : Int32) (M : Mem) : Option Mem := F_X7_hears_164 k80 fu x2 x3 x4 x5 x6 x7 (M.1 44) 0 (sv M 44 ((M.1 44) ||| ((1 : Int32) <<< (x7 &&& 31))))
def F_X7_hears_80 : Nat → Int32 → Int32 → Int32 → Int32 → Int32 → Mem → Option Mem
  | 0, _, _, _, _, _, _ => none
  | n + 1, x2, x3, x4, x5, x6, M => if (M.1 43) ≤ x6 then some M else ckb (ix x6 10) (ckb (ix (M.2 33 x6.toNatClampNeg) 10) (bd (F_X7_ones ((M.2 25 (M.2 33 x6.toNatClampNeg).toNatClampNeg) &&& ((M.1 46) ^^^ (-1))) M) (fun r112 M112 => if r112 < x2 then F_X7_hears_462 (F_X7_hears_80 n) x2 x3 x4 x5 x6 M112 else if x5 = 0 then ckb (ix (M.2 33 x6.toNatClampNeg) 10) (if ((M112.2 25 (M.2 33 x6.toNatClampNeg).toNatClampNeg) &&& (M112.1 46)) = 0 then F_X7_hears_142 (F_X7_hears_80 n) x2 x3 x4 x5 x6 (M.2 33 x6.toNatClampNeg) M112 else F_X7_hears_462 (F_X7_hears_80 n) x2 x3 x4 x5 x6 M112) else F_X7_hears_142 (F_X7_hears_80 n) x2 x3 x4 x5 x6 (M.2 33 x6.toNatClampNeg) M112)))
def F_X7_hears_60 (x2 : Int32) (x3 : Int32) (x4 : Int32) (t0 : Int32) (M : Mem) : Option Mem := F_X7_hears_80 fu x2 x3 x4 t0 0 (sv (sv (sv M 44 0) 45 0) 46 0)
def F_X7_hears_39 (x1 : Int32) (x2 : Int32) (x3 : Int32) (t0 : Int32) (M : Mem) : Option Mem := ckb (ix ((4 * x1) + 3) 8) (if (M.2 32 ((4 * x1) + 3).toNatClampNeg) = 1 then F_X7_hears_60 x2 x3 t0 1 M else F_X7_hears_60 x2 x3 t0 0 M)
def F_X7_hears (x1 : Int32) (M : Mem) : Option Mem := ckb (ix (4 * x1) 8) (ckb (ix ((4 * x1) + 1) 8) (ckb (ix ((4 * x1) + 2) 8) (if (M.2 32 ((4 * x1) + 2).toNatClampNeg) = 1 then F_X7_hears_39 x1 (M.2 32 (4 * x1).toNatClampNeg) (M.2 32 ((4 * x1) + 1).toNatClampNeg) 1 M else F_X7_hears_39 x1 (M.2 32 (4 * x1).toNatClampNeg) (M.2 32 ((4 * x1) + 1).toNatClampNeg) 0 M)))
set_option maxHeartbeats 4000000 in
set_option maxRecDepth 100000 in
theorem b_X7_hears_462 {k80 : Int32 → Int32 → Int32 → Int32 → Int32 → Mem → Option Mem} {M0 : Mem} (hC : SX p m c s args cX7_hears 13 RX7 G (AG G)) (hr : meth.sig.returnType = none) (hlk : meth.locks = false) (hn : ∀ i ∈ LsF, i ∈ gL G) (hk80 : ∀ (x2 : Int32) (x3 : Int32) (x4 : Int32) (x5 : Int32) (x6 : Int32) (M : Mem) (H : Heap) (locs : List Loc) (ls : Array Slot), k80 x2 x3 x4 x5 x6 M = some M0 → ST G (AG G) s M H locs → lv_has ls 13 [(0, .ref (G.1 61)), (2, .int x2), (3, .int x3), (4, .int x4), (5, .int x5), (6, .int x6)] → W p l e (RM 1 22) s m args below meth c H locs 0 0 (MQ below (QV G none M0) args s 0 0 (AG G)) (F0 m 80 ls [])) : ∀ (x2 : Int32) (x3 : Int32) (x4 : Int32) (x5 : Int32) (x6 : Int32) (M : Mem) (H : Heap) (locs : List Loc) (ls : Array Slot), F_X7_hears_462 k80 x2 x3 x4 x5 x6 M = some M0 → ST G (AG G) s M H locs → lv_has ls 13 [(0, .ref (G.1 61)), (2, .int x2), (3, .int x3), (4, .int x4), (5, .int x5), (6, .int x6)] → W p l e (RM 1 22) s m args below meth c H locs 0 0 (MQ below (QV G none M0) args s 0 0 (AG G)) (F0 m 462 ls []) := by
  obtain ⟨⟨hx, hb, hml, hown, hts⟩, hK, hG, hA⟩ := id hC
  intro x2 x3 x4 x5 x6 M H locs ls hF hS hl
  unfold F_X7_hears_462 at hF
  refine lv_iinc (v := x6 + 1) (lv' := [(6, .int (x6 + 1)), (0, .ref (G.1 61)), (2, .int x2), (3, .int x3), (4, .int x4), (5, .int x5)]) hx hb dX7_hears_462 hl (k := 5) rfl rfl (by decide) rfl (fun ls hl => ?_)
  refine lv_goto (tgt := 80) hx hb dX7_hears_465 (by decide) ?_
  exact hk80 _ _ _ _ _ _ _ _ _ hF hS (lv_sub hl [1, 2, 3, 4, 5, 0] rfl)
set_option maxHeartbeats 4000000 in
set_option maxRecDepth 100000 in
theorem b_X7_hears_441 {k80 : Int32 → Int32 → Int32 → Int32 → Int32 → Mem → Option Mem} {k386 : Int32 → Int32 → Int32 → Int32 → Int32 → Int32 → Int32 → Int32 → Mem → Option Mem} {M0 : Mem} (hC : SX p m c s args cX7_hears 13 RX7 G (AG G)) (hr : meth.sig.returnType = none) (hlk : meth.locks = false) (hn : ∀ i ∈ LsF, i ∈ gL G) (hk80 : ∀ (x2 : Int32) (x3 : Int32) (x4 : Int32) (x5 : Int32) (x6 : Int32) (M : Mem) (H : Heap) (locs : List Loc) (ls : Array Slot), k80 x2 x3 x4 x5 x6 M = some M0 → ST G (AG G) s M H locs → lv_has ls 13 [(0, .ref (G.1 61)), (2, .int x2), (3, .int x3), (4, .int x4), (5, .int x5), (6, .int x6)] → W p l e (RM 1 22) s m args below meth c H locs 0 0 (MQ below (QV G none M0) args s 0 0 (AG G)) (F0 m 80 ls [])) (hk386 : ∀ (x2 : Int32) (x3 : Int32) (x4 : Int32) (x5 : Int32) (x6 : Int32) (x7 : Int32) (x9 : Int32) (x10 : Int32) (M : Mem) (H : Heap) (locs : List Loc) (ls : Array Slot), k386 x2 x3 x4 x5 x6 x7 x9 x10 M = some M0 → ST G (AG G) s M H locs → lv_has ls 13 [(0, .ref (G.1 61)), (2, .int x2), (3, .int x3), (4, .int x4), (5, .int x5), (6, .int x6), (7, .int x7), (9, .int x9), (10, .int x10)] → W p l e (RM 1 22) s m args below meth c H locs 0 0 (MQ below (QV G none M0) args s 0 0 (AG G)) (F0 m 386 ls [])) : ∀ (x2 : Int32) (x3 : Int32) (x4 : Int32) (x5 : Int32) (x6 : Int32) (x7 : Int32) (x10 : Int32) (t0 : Int32) (M : Mem) (H : Heap) (locs : List Loc) (ls : Array Slot), F_X7_hears_441 k80 k386 x2 x3 x4 x5 x6 x7 x10 t0 M = some M0 → ST G (AG G) s M H locs → lv_has ls 13 [(0, .ref (G.1 61)), (2, .int x2), (3, .int x3), (4, .int x4), (5, .int x5), (6, .int x6), (7, .int x7), (10, .int x10)] → W p l e (RM 1 22) s m args below meth c H locs 0 0 (MQ below (QV G none M0) args s 0 0 (AG G)) (F0 m 441 ls [.int t0]) := by
  obtain ⟨⟨hx, hb, hml, hown, hts⟩, hK, hG, hA⟩ := id hC
  intro x2 x3 x4 x5 x6 x7 x10 t0 M H locs ls hF hS hl
  unfold F_X7_hears_441 at hF
  refine lv_istore (lv' := [(9, .int t0), (0, .ref (G.1 61)), (2, .int x2), (3, .int x3), (4, .int x4), (5, .int x5), (6, .int x6), (7, .int x7), (10, .int x10)]) hx hb dX7_hears_441 hl (by decide) rfl (fun ls hl => ?_)
  refine lv_iinc (v := x10 + 1) (lv' := [(10, .int (x10 + 1)), (9, .int t0), (0, .ref (G.1 61)), (2, .int x2), (3, .int x3), (4, .int x4), (5, .int x5), (6, .int x6), (7, .int x7)]) hx hb dX7_hears_443 hl (k := 8) rfl rfl (by decide) rfl (fun ls hl => ?_)
  refine lv_goto (tgt := 386) hx hb dX7_hears_446 (by decide) ?_
  exact hk386 _ _ _ _ _ _ _ _ _ _ _ _ hF hS (lv_sub hl [2, 3, 4, 5, 6, 7, 8, 1, 0] rfl)
set_option maxHeartbeats 4000000 in
set_option maxRecDepth 100000 in
theorem b_X7_hears_436 {k80 : Int32 → Int32 → Int32 → Int32 → Int32 → Mem → Option Mem} {k386 : Int32 → Int32 → Int32 → Int32 → Int32 → Int32 → Int32 → Int32 → Mem → Option Mem} {M0 : Mem} (hC : SX p m c s args cX7_hears 13 RX7 G (AG G)) (hr : meth.sig.returnType = none) (hlk : meth.locks = false) (hn : ∀ i ∈ LsF, i ∈ gL G) (hk80 : ∀ (x2 : Int32) (x3 : Int32) (x4 : Int32) (x5 : Int32) (x6 : Int32) (M : Mem) (H : Heap) (locs : List Loc) (ls : Array Slot), k80 x2 x3 x4 x5 x6 M = some M0 → ST G (AG G) s M H locs → lv_has ls 13 [(0, .ref (G.1 61)), (2, .int x2), (3, .int x3), (4, .int x4), (5, .int x5), (6, .int x6)] → W p l e (RM 1 22) s m args below meth c H locs 0 0 (MQ below (QV G none M0) args s 0 0 (AG G)) (F0 m 80 ls [])) (hk386 : ∀ (x2 : Int32) (x3 : Int32) (x4 : Int32) (x5 : Int32) (x6 : Int32) (x7 : Int32) (x9 : Int32) (x10 : Int32) (M : Mem) (H : Heap) (locs : List Loc) (ls : Array Slot), k386 x2 x3 x4 x5 x6 x7 x9 x10 M = some M0 → ST G (AG G) s M H locs → lv_has ls 13 [(0, .ref (G.1 61)), (2, .int x2), (3, .int x3), (4, .int x4), (5, .int x5), (6, .int x6), (7, .int x7), (9, .int x9), (10, .int x10)] → W p l e (RM 1 22) s m args below meth c H locs 0 0 (MQ below (QV G none M0) args s 0 0 (AG G)) (F0 m 386 ls [])) : ∀ (x2 : Int32) (x3 : Int32) (x4 : Int32) (x5 : Int32) (x6 : Int32) (x7 : Int32) (x10 : Int32) (M : Mem) (H : Heap) (locs : List Loc) (ls : Array Slot), F_X7_hears_436 k80 k386 x2 x3 x4 x5 x6 x7 x10 M = some M0 → ST G (AG G) s M H locs → lv_has ls 13 [(0, .ref (G.1 61)), (2, .int x2), (3, .int x3), (4, .int x4), (5, .int x5), (6, .int x6), (7, .int x7), (10, .int x10)] → W p l e (RM 1 22) s m args below meth c H locs 0 0 (MQ below (QV G none M0) args s 0 0 (AG G)) (F0 m 436 ls []) := by
  obtain ⟨⟨hx, hb, hml, hown, hts⟩, hK, hG, hA⟩ := id hC
  intro x2 x3 x4 x5 x6 x7 x10 M H locs ls hF hS hl
  unfold F_X7_hears_436 at hF
  refine lv_iconst (v := 1) hx hb dX7_hears_436 (by decide) ?_
  refine lv_goto (tgt := 441) hx hb dX7_hears_437 (by decide) ?_
  exact b_X7_hears_441 hC hr hlk hn hk80 hk386 _ _ _ _ _ _ _ _ _ _ _ _ hF hS (lv_sub hl [0, 1, 2, 3, 4, 5, 6, 7] rfl)
set_option maxHeartbeats 4000000 in
set_option maxRecDepth 100000 in
theorem b_X7_hears_440 {k80 : Int32 → Int32 → Int32 → Int32 → Int32 → Mem → Option Mem} {k386 : Int32 → Int32 → Int32 → Int32 → Int32 → Int32 → Int32 → Int32 → Mem → Option Mem} {M0 : Mem} (hC : SX p m c s args cX7_hears 13 RX7 G (AG G)) (hr : meth.sig.returnType = none) (hlk : meth.locks = false) (hn : ∀ i ∈ LsF, i ∈ gL G) (hk80 : ∀ (x2 : Int32) (x3 : Int32) (x4 : Int32) (x5 : Int32) (x6 : Int32) (M : Mem) (H : Heap) (locs : List Loc) (ls : Array Slot), k80 x2 x3 x4 x5 x6 M = some M0 → ST G (AG G) s M H locs → lv_has ls 13 [(0, .ref (G.1 61)), (2, .int x2), (3, .int x3), (4, .int x4), (5, .int x5), (6, .int x6)] → W p l e (RM 1 22) s m args below meth c H locs 0 0 (MQ below (QV G none M0) args s 0 0 (AG G)) (F0 m 80 ls [])) (hk386 : ∀ (x2 : Int32) (x3 : Int32) (x4 : Int32) (x5 : Int32) (x6 : Int32) (x7 : Int32) (x9 : Int32) (x10 : Int32) (M : Mem) (H : Heap) (locs : List Loc) (ls : Array Slot), k386 x2 x3 x4 x5 x6 x7 x9 x10 M = some M0 → ST G (AG G) s M H locs → lv_has ls 13 [(0, .ref (G.1 61)), (2, .int x2), (3, .int x3), (4, .int x4), (5, .int x5), (6, .int x6), (7, .int x7), (9, .int x9), (10, .int x10)] → W p l e (RM 1 22) s m args below meth c H locs 0 0 (MQ below (QV G none M0) args s 0 0 (AG G)) (F0 m 386 ls [])) : ∀ (x2 : Int32) (x3 : Int32) (x4 : Int32) (x5 : Int32) (x6 : Int32) (x7 : Int32) (x10 : Int32) (M : Mem) (H : Heap) (locs : List Loc) (ls : Array Slot), F_X7_hears_440 k80 k386 x2 x3 x4 x5 x6 x7 x10 M = some M0 → ST G (AG G) s M H locs → lv_has ls 13 [(0, .ref (G.1 61)), (2, .int x2), (3, .int x3), (4, .int x4), (5, .int x5), (6, .int x6), (7, .int x7), (10, .int x10)] → W p l e (RM 1 22) s m args below meth c H locs 0 0 (MQ below (QV G none M0) args s 0 0 (AG G)) (F0 m 440 ls []) := by
  obtain ⟨⟨hx, hb, hml, hown, hts⟩, hK, hG, hA⟩ := id hC
  intro x2 x3 x4 x5 x6 x7 x10 M H locs ls hF hS hl
  unfold F_X7_hears_440 at hF
  refine lv_iconst (v := 0) hx hb dX7_hears_440 (by decide) ?_
  exact b_X7_hears_441 hC hr hlk hn hk80 hk386 _ _ _ _ _ _ _ _ _ _ _ _ hF hS (lv_sub hl [0, 1, 2, 3, 4, 5, 6, 7] rfl)
set_option maxHeartbeats 4000000 in
set_option maxRecDepth 100000 in
theorem b_X7_hears_386 {k80 : Int32 → Int32 → Int32 → Int32 → Int32 → Mem → Option Mem} {M0 : Mem} (hC : SX p m c s args cX7_hears 13 RX7 G (AG G)) (hr : meth.sig.returnType = none) (hlk : meth.locks = false) (hn : ∀ i ∈ LsF, i ∈ gL G) (hk80 : ∀ (x2 : Int32) (x3 : Int32) (x4 : Int32) (x5 : Int32) (x6 : Int32) (M : Mem) (H : Heap) (locs : List Loc) (ls : Array Slot), k80 x2 x3 x4 x5 x6 M = some M0 → ST G (AG G) s M H locs → lv_has ls 13 [(0, .ref (G.1 61)), (2, .int x2), (3, .int x3), (4, .int x4), (5, .int x5), (6, .int x6)] → W p l e (RM 1 22) s m args below meth c H locs 0 0 (MQ below (QV G none M0) args s 0 0 (AG G)) (F0 m 80 ls [])) : ∀ (n : Nat) (x2 : Int32) (x3 : Int32) (x4 : Int32) (x5 : Int32) (x6 : Int32) (x7 : Int32) (x9 : Int32) (x10 : Int32) (M : Mem) (H : Heap) (locs : List Loc) (ls : Array Slot), F_X7_hears_386 k80 n x2 x3 x4 x5 x6 x7 x9 x10 M = some M0 → ST G (AG G) s M H locs → lv_has ls 13 [(0, .ref (G.1 61)), (2, .int x2), (3, .int x3), (4, .int x4), (5, .int x5), (6, .int x6), (7, .int x7), (9, .int x9), (10, .int x10)] → W p l e (RM 1 22) s m args below meth c H locs 0 0 (MQ below (QV G none M0) args s 0 0 (AG G)) (F0 m 386 ls []) := by
  obtain ⟨⟨hx, hb, hml, hown, hts⟩, hK, hG, hA⟩ := id hC
  intro n
  induction n with
  | zero =>
    intro x2 x3 x4 x5 x6 x7 x9 x10 M H locs ls hF
    cases hF
  | succ n ih =>
    intro x2 x3 x4 x5 x6 x7 x9 x10 M H locs ls hF hS hl
    unfold F_X7_hears_386 at hF
    refine lv_iload hx hb dX7_hears_386 (lv_at hl 8 rfl) ?_
    refine lv_aload_n hx hb dX7_hears_388 rfl (lv_at hl 0 rfl) ?_
    refine gx (ci := 7) (k := 2) (v := .int (M.1 40)) (C := RX7) (T := TX7) (N := 29) hC hS (hn _ (by decide)) rfl rfl in_X7 (by decide) rfl rfl lf_X7_82 dX7_hears_389 ?_
    refine lv_icmp_ge (tgt := 449) hx hb dX7_hears_392 (by decide) (fun hc => ?_) (fun hc => ?_)
    · rw [if_pos hc] at hF
      refine lv_iload hx hb dX7_hears_449 (lv_at hl 7 rfl) ?_
      refine lv_if_eq (tgt := 462) hx hb dX7_hears_451 (by decide) (fun hc => ?_) (fun hc => ?_)
      · rw [if_pos hc] at hF
        exact b_X7_hears_462 hC hr hlk hn hk80 _ _ _ _ _ _ _ _ _ hF hS (lv_sub hl [0, 1, 2, 3, 4, 5] rfl)
      · rw [if_neg hc] at hF
        refine lv_aload_n hx hb dX7_hears_454 rfl (lv_at hl 0 rfl) ?_
        refine lv_iload hx hb dX7_hears_455 (lv_at hl 6 rfl) ?_
        refine lv_iload hx hb dX7_hears_457 (lv_at hl 3 rfl) ?_
        obtain ⟨M459, h459, hF⟩ := bdv_some hF
        refine cV_ (ci := 7) (i := 61) (C := RX7) (T := TX7) (N := 29) (As := [.int x7, .int x4]) (v := none) (rest := []) (st1 := []) hC hS (hn _ (by decide)) rfl rfl (c_X7_undoes l G hn x7 x4 M _ h459) kV_X7_undoes lm_X7_158 ⟨Nat.le_of_ble_eq_true rfl, Nat.le_of_ble_eq_true rfl⟩ rfl hl.1 (Nat.le_of_ble_eq_true rfl) dX7_hears_459 ⟨Nat.le_refl _, Nat.le_refl _⟩ rfl (fun H locs hS => ?_)
        exact b_X7_hears_462 hC hr hlk hn hk80 _ _ _ _ _ _ _ _ _ hF hS (lv_sub hl [0, 1, 2, 3, 4, 5] rfl)
    · rw [if_neg hc] at hF
      refine lv_iload hx hb dX7_hears_395 (lv_at hl 7 rfl) ?_
      refine lv_if_ne (tgt := 436) hx hb dX7_hears_397 (by decide) (fun hc => ?_) (fun hc => ?_)
      · rw [if_neg hc] at hF
        exact b_X7_hears_436 hC hr hlk hn hk80 ih _ _ _ _ _ _ _ _ _ _ _ hF hS (lv_sub hl [0, 1, 2, 3, 4, 5, 6, 8] rfl)
      · rw [if_pos hc] at hF
        refine lv_aload_n hx hb dX7_hears_400 rfl (lv_at hl 0 rfl) ?_
        refine gx (ci := 7) (k := 16) (v := .int (M.1 44)) (C := RX7) (T := TX7) (N := 29) hC hS (hn _ (by decide)) rfl rfl in_X7 (by decide) rfl rfl lf_X7_136 dX7_hears_401 ?_
        refine lv_iload hx hb dX7_hears_404 (lv_at hl 8 rfl) ?_
        obtain ⟨r406, M406, h406, hF⟩ := bd_some hF
        refine cS_ (As := [.int (M.1 44), .int x10]) (v := some (.int r406)) (rest := []) (st1 := [.int r406]) hC hS (c_X7_has l G hn (M.1 44) x10 M _ _ h406) kS_X7_has lm_X7_151 ⟨Nat.le_of_ble_eq_true rfl, Nat.le_of_ble_eq_true rfl⟩ rfl hl.1 (Nat.le_of_ble_eq_true rfl) dX7_hears_406 ⟨Nat.le_refl _, Nat.le_refl _⟩ rfl (fun H locs hS => ?_)
        refine lv_if_eq (tgt := 440) hx hb dX7_hears_409 (by decide) (fun hc => ?_) (fun hc => ?_)
        · rw [if_pos hc] at hF
          exact b_X7_hears_440 hC hr hlk hn hk80 ih _ _ _ _ _ _ _ _ _ _ _ hF hS (lv_sub hl [0, 1, 2, 3, 4, 5, 6, 8] rfl)
        · rw [if_neg hc] at hF
          refine lv_aload_n hx hb dX7_hears_412 rfl (lv_at hl 0 rfl) ?_
          refine gx (ci := 7) (k := 9) (v := .int (M406.1 42)) (C := RX7) (T := TX7) (N := 29) hC hS (hn _ (by decide)) rfl rfl in_X7 (by decide) rfl rfl lf_X7_104 dX7_hears_413 ?_
          refine lv_iload hx hb dX7_hears_416 (lv_at hl 8 rfl) ?_
          obtain ⟨r418, M418, h418, hF⟩ := bd_some hF
          refine cS_ (As := [.int (M406.1 42), .int x10]) (v := some (.int r418)) (rest := []) (st1 := [.int r418]) hC hS (c_X7_has l G hn (M406.1 42) x10 M406 _ _ h418) kS_X7_has lm_X7_151 ⟨Nat.le_of_ble_eq_true rfl, Nat.le_of_ble_eq_true rfl⟩ rfl hl.1 (Nat.le_of_ble_eq_true rfl) dX7_hears_418 ⟨Nat.le_refl _, Nat.le_refl _⟩ rfl (fun H locs hS => ?_)
          refine lv_if_eq (tgt := 440) hx hb dX7_hears_421 (by decide) (fun hc => ?_) (fun hc => ?_)
          · rw [if_pos hc] at hF
            exact b_X7_hears_440 hC hr hlk hn hk80 ih _ _ _ _ _ _ _ _ _ _ _ hF hS (lv_sub hl [0, 1, 2, 3, 4, 5, 6, 8] rfl)
          · rw [if_neg hc] at hF
            refine lv_aload_n hx hb dX7_hears_424 rfl (lv_at hl 0 rfl) ?_
            refine gx (ci := 7) (k := 7) (v := .ref (G.1 28)) (C := RX7) (T := TX7) (N := 29) hC hS (hn _ (by decide)) rfl rfl in_X7 (by decide) rfl rfl lf_X7_28 dX7_hears_425 ?_
            refine lv_iload hx hb dX7_hears_428 (lv_at hl 8 rfl) ?_
            obtain ⟨hi, hF⟩ := ckb_some hF
            refine ald hC hS (hn _ (by decide)) (by decide) rfl hi dX7_hears_430 ?_
            refine lv_iload hx hb dX7_hears_431 (lv_at hl 6 rfl) ?_
            refine lv_icmp_ne (tgt := 440) hx hb dX7_hears_433 (by decide) (fun hc => ?_) (fun hc => ?_)
            · rw [if_neg hc] at hF
              exact b_X7_hears_440 hC hr hlk hn hk80 ih _ _ _ _ _ _ _ _ _ _ _ hF hS (lv_sub hl [0, 1, 2, 3, 4, 5, 6, 8] rfl)
            · rw [if_pos hc] at hF
              exact b_X7_hears_436 hC hr hlk hn hk80 ih _ _ _ _ _ _ _ _ _ _ _ hF hS (lv_sub hl [0, 1, 2, 3, 4, 5, 6, 8] rfl)
set_option maxHeartbeats 4000000 in
set_option maxRecDepth 100000 in
theorem b_X7_hears_380 {k80 : Int32 → Int32 → Int32 → Int32 → Int32 → Mem → Option Mem} {M0 : Mem} (hC : SX p m c s args cX7_hears 13 RX7 G (AG G)) (hr : meth.sig.returnType = none) (hlk : meth.locks = false) (hn : ∀ i ∈ LsF, i ∈ gL G) (hk80 : ∀ (x2 : Int32) (x3 : Int32) (x4 : Int32) (x5 : Int32) (x6 : Int32) (M : Mem) (H : Heap) (locs : List Loc) (ls : Array Slot), k80 x2 x3 x4 x5 x6 M = some M0 → ST G (AG G) s M H locs → lv_has ls 13 [(0, .ref (G.1 61)), (2, .int x2), (3, .int x3), (4, .int x4), (5, .int x5), (6, .int x6)] → W p l e (RM 1 22) s m args below meth c H locs 0 0 (MQ below (QV G none M0) args s 0 0 (AG G)) (F0 m 80 ls [])) : ∀ (x2 : Int32) (x3 : Int32) (x4 : Int32) (x5 : Int32) (x6 : Int32) (x7 : Int32) (M : Mem) (H : Heap) (locs : List Loc) (ls : Array Slot), F_X7_hears_380 k80 x2 x3 x4 x5 x6 x7 M = some M0 → ST G (AG G) s M H locs → lv_has ls 13 [(0, .ref (G.1 61)), (2, .int x2), (3, .int x3), (4, .int x4), (5, .int x5), (6, .int x6), (7, .int x7)] → W p l e (RM 1 22) s m args below meth c H locs 0 0 (MQ below (QV G none M0) args s 0 0 (AG G)) (F0 m 380 ls []) := by
  obtain ⟨⟨hx, hb, hml, hown, hts⟩, hK, hG, hA⟩ := id hC
  intro x2 x3 x4 x5 x6 x7 M H locs ls hF hS hl
  unfold F_X7_hears_380 at hF
  refine lv_iconst (v := 0) hx hb dX7_hears_380 (by decide) ?_
  refine lv_istore (lv' := [(9, .int 0), (0, .ref (G.1 61)), (2, .int x2), (3, .int x3), (4, .int x4), (5, .int x5), (6, .int x6), (7, .int x7)]) hx hb dX7_hears_381 hl (by decide) rfl (fun ls hl => ?_)
  refine lv_iconst (v := 0) hx hb dX7_hears_383 (by decide) ?_
  refine lv_istore (lv' := [(10, .int 0), (9, .int 0), (0, .ref (G.1 61)), (2, .int x2), (3, .int x3), (4, .int x4), (5, .int x5), (6, .int x6), (7, .int x7)]) hx hb dX7_hears_384 hl (by decide) rfl (fun ls hl => ?_)
  exact b_X7_hears_386 hC hr hlk hn hk80 fu _ _ _ _ _ _ _ _ _ _ _ _ hF hS (lv_sub hl [2, 3, 4, 5, 6, 7, 8, 1, 0] rfl)
set_option maxHeartbeats 4000000 in
set_option maxRecDepth 100000 in
theorem b_X7_hears_317 {k80 : Int32 → Int32 → Int32 → Int32 → Int32 → Mem → Option Mem} {k164 : Int32 → Int32 → Int32 → Int32 → Int32 → Int32 → Int32 → Int32 → Mem → Option Mem} {M0 : Mem} (hC : SX p m c s args cX7_hears 13 RX7 G (AG G)) (hr : meth.sig.returnType = none) (hlk : meth.locks = false) (hn : ∀ i ∈ LsF, i ∈ gL G) (hk80 : ∀ (x2 : Int32) (x3 : Int32) (x4 : Int32) (x5 : Int32) (x6 : Int32) (M : Mem) (H : Heap) (locs : List Loc) (ls : Array Slot), k80 x2 x3 x4 x5 x6 M = some M0 → ST G (AG G) s M H locs → lv_has ls 13 [(0, .ref (G.1 61)), (2, .int x2), (3, .int x3), (4, .int x4), (5, .int x5), (6, .int x6)] → W p l e (RM 1 22) s m args below meth c H locs 0 0 (MQ below (QV G none M0) args s 0 0 (AG G)) (F0 m 80 ls [])) (hk164 : ∀ (x2 : Int32) (x3 : Int32) (x4 : Int32) (x5 : Int32) (x6 : Int32) (x7 : Int32) (x8 : Int32) (x9 : Int32) (M : Mem) (H : Heap) (locs : List Loc) (ls : Array Slot), k164 x2 x3 x4 x5 x6 x7 x8 x9 M = some M0 → ST G (AG G) s M H locs → lv_has ls 13 [(0, .ref (G.1 61)), (2, .int x2), (3, .int x3), (4, .int x4), (5, .int x5), (6, .int x6), (7, .int x7), (8, .int x8), (9, .int x9)] → W p l e (RM 1 22) s m args below meth c H locs 0 0 (MQ below (QV G none M0) args s 0 0 (AG G)) (F0 m 164 ls [])) : ∀ (x2 : Int32) (x3 : Int32) (x4 : Int32) (x5 : Int32) (x6 : Int32) (x7 : Int32) (x8 : Int32) (x9 : Int32) (M : Mem) (H : Heap) (locs : List Loc) (ls : Array Slot), F_X7_hears_317 k80 k164 x2 x3 x4 x5 x6 x7 x8 x9 M = some M0 → ST G (AG G) s M H locs → lv_has ls 13 [(0, .ref (G.1 61)), (2, .int x2), (3, .int x3), (4, .int x4), (5, .int x5), (6, .int x6), (7, .int x7), (8, .int x8), (9, .int x9)] → W p l e (RM 1 22) s m args below meth c H locs 0 0 (MQ below (QV G none M0) args s 0 0 (AG G)) (F0 m 317 ls []) := by
  obtain ⟨⟨hx, hb, hml, hown, hts⟩, hK, hG, hA⟩ := id hC
  intro x2 x3 x4 x5 x6 x7 x8 x9 M H locs ls hF hS hl
  unfold F_X7_hears_317 at hF
  refine lv_iinc (v := x9 + 1) (lv' := [(9, .int (x9 + 1)), (0, .ref (G.1 61)), (2, .int x2), (3, .int x3), (4, .int x4), (5, .int x5), (6, .int x6), (7, .int x7), (8, .int x8)]) hx hb dX7_hears_317 hl (k := 8) rfl rfl (by decide) rfl (fun ls hl => ?_)
  refine lv_goto (tgt := 164) hx hb dX7_hears_320 (by decide) ?_
  exact hk164 _ _ _ _ _ _ _ _ _ _ _ _ hF hS (lv_sub hl [1, 2, 3, 4, 5, 6, 7, 8, 0] rfl)
set_option maxHeartbeats 4000000 in
set_option maxRecDepth 100000 in
theorem b_X7_hears_302 {k80 : Int32 → Int32 → Int32 → Int32 → Int32 → Mem → Option Mem} {k164 : Int32 → Int32 → Int32 → Int32 → Int32 → Int32 → Int32 → Int32 → Mem → Option Mem} {M0 : Mem} (hC : SX p m c s args cX7_hears 13 RX7 G (AG G)) (hr : meth.sig.returnType = none) (hlk : meth.locks = false) (hn : ∀ i ∈ LsF, i ∈ gL G) (hk80 : ∀ (x2 : Int32) (x3 : Int32) (x4 : Int32) (x5 : Int32) (x6 : Int32) (M : Mem) (H : Heap) (locs : List Loc) (ls : Array Slot), k80 x2 x3 x4 x5 x6 M = some M0 → ST G (AG G) s M H locs → lv_has ls 13 [(0, .ref (G.1 61)), (2, .int x2), (3, .int x3), (4, .int x4), (5, .int x5), (6, .int x6)] → W p l e (RM 1 22) s m args below meth c H locs 0 0 (MQ below (QV G none M0) args s 0 0 (AG G)) (F0 m 80 ls [])) (hk164 : ∀ (x2 : Int32) (x3 : Int32) (x4 : Int32) (x5 : Int32) (x6 : Int32) (x7 : Int32) (x8 : Int32) (x9 : Int32) (M : Mem) (H : Heap) (locs : List Loc) (ls : Array Slot), k164 x2 x3 x4 x5 x6 x7 x8 x9 M = some M0 → ST G (AG G) s M H locs → lv_has ls 13 [(0, .ref (G.1 61)), (2, .int x2), (3, .int x3), (4, .int x4), (5, .int x5), (6, .int x6), (7, .int x7), (8, .int x8), (9, .int x9)] → W p l e (RM 1 22) s m args below meth c H locs 0 0 (MQ below (QV G none M0) args s 0 0 (AG G)) (F0 m 164 ls [])) : ∀ (x2 : Int32) (x3 : Int32) (x4 : Int32) (x5 : Int32) (x6 : Int32) (x7 : Int32) (x8 : Int32) (x9 : Int32) (M : Mem) (H : Heap) (locs : List Loc) (ls : Array Slot), F_X7_hears_302 k80 k164 x2 x3 x4 x5 x6 x7 x8 x9 M = some M0 → ST G (AG G) s M H locs → lv_has ls 13 [(0, .ref (G.1 61)), (2, .int x2), (3, .int x3), (4, .int x4), (5, .int x5), (6, .int x6), (7, .int x7), (8, .int x8), (9, .int x9)] → W p l e (RM 1 22) s m args below meth c H locs 0 0 (MQ below (QV G none M0) args s 0 0 (AG G)) (F0 m 302 ls []) := by
  obtain ⟨⟨hx, hb, hml, hown, hts⟩, hK, hG, hA⟩ := id hC
  intro x2 x3 x4 x5 x6 x7 x8 x9 M H locs ls hF hS hl
  unfold F_X7_hears_302 at hF
  refine lv_aload_n hx hb dX7_hears_302 rfl (lv_at hl 0 rfl) ?_
  refine lv_dup hx hb dX7_hears_303 rfl ?_
  refine gx (ci := 7) (k := 16) (v := .int (M.1 44)) (C := RX7) (T := TX7) (N := 29) hC hS (hn _ (by decide)) rfl rfl in_X7 (by decide) rfl rfl lf_X7_136 dX7_hears_304 ?_
  refine lv_iconst (v := 1) hx hb dX7_hears_307 (by decide) ?_
  refine lv_iload hx hb dX7_hears_308 (lv_at hl 8 rfl) ?_
  refine lv_ishl hx hb dX7_hears_310 ?_
  refine lv_iconst (v := (-1)) hx hb dX7_hears_311 (by decide) ?_
  refine lv_ixor hx hb dX7_hears_312 ?_
  refine lv_iand hx hb dX7_hears_313 ?_
  refine px (ci := 7) (k := 16) (n := 44) (ty := .int) (C := RX7) (T := TX7) (N := 29) hC hS (hn _ (by decide)) rfl rfl in_X7 tyX7_ok nmX7 (by decide) rfl rfl (by decide +kernel) rfl rfl (Nat.le_of_ble_eq_true rfl) rfl se_X7_16 lf_X7_136 dX7_hears_314 (fun H locs hS => ?_)
  exact b_X7_hears_317 hC hr hlk hn hk80 hk164 _ _ _ _ _ _ _ _ _ _ _ _ hF hS (lv_sub hl [0, 1, 2, 3, 4, 5, 6, 7, 8] rfl)
set_option maxHeartbeats 4000000 in
set_option maxRecDepth 100000 in
theorem b_X7_hears_285 {k80 : Int32 → Int32 → Int32 → Int32 → Int32 → Mem → Option Mem} {k164 : Int32 → Int32 → Int32 → Int32 → Int32 → Int32 → Int32 → Int32 → Mem → Option Mem} {M0 : Mem} (hC : SX p m c s args cX7_hears 13 RX7 G (AG G)) (hr : meth.sig.returnType = none) (hlk : meth.locks = false) (hn : ∀ i ∈ LsF, i ∈ gL G) (hk80 : ∀ (x2 : Int32) (x3 : Int32) (x4 : Int32) (x5 : Int32) (x6 : Int32) (M : Mem) (H : Heap) (locs : List Loc) (ls : Array Slot), k80 x2 x3 x4 x5 x6 M = some M0 → ST G (AG G) s M H locs → lv_has ls 13 [(0, .ref (G.1 61)), (2, .int x2), (3, .int x3), (4, .int x4), (5, .int x5), (6, .int x6)] → W p l e (RM 1 22) s m args below meth c H locs 0 0 (MQ below (QV G none M0) args s 0 0 (AG G)) (F0 m 80 ls [])) (hk164 : ∀ (x2 : Int32) (x3 : Int32) (x4 : Int32) (x5 : Int32) (x6 : Int32) (x7 : Int32) (x8 : Int32) (x9 : Int32) (M : Mem) (H : Heap) (locs : List Loc) (ls : Array Slot), k164 x2 x3 x4 x5 x6 x7 x8 x9 M = some M0 → ST G (AG G) s M H locs → lv_has ls 13 [(0, .ref (G.1 61)), (2, .int x2), (3, .int x3), (4, .int x4), (5, .int x5), (6, .int x6), (7, .int x7), (8, .int x8), (9, .int x9)] → W p l e (RM 1 22) s m args below meth c H locs 0 0 (MQ below (QV G none M0) args s 0 0 (AG G)) (F0 m 164 ls [])) : ∀ (x2 : Int32) (x3 : Int32) (x4 : Int32) (x5 : Int32) (x6 : Int32) (x7 : Int32) (x8 : Int32) (x9 : Int32) (x10 : Int32) (x11 : Int32) (x12 : Int32) (M : Mem) (H : Heap) (locs : List Loc) (ls : Array Slot), F_X7_hears_285 k80 k164 x2 x3 x4 x5 x6 x7 x8 x9 x10 x11 x12 M = some M0 → ST G (AG G) s M H locs → lv_has ls 13 [(0, .ref (G.1 61)), (2, .int x2), (3, .int x3), (4, .int x4), (5, .int x5), (6, .int x6), (7, .int x7), (8, .int x8), (9, .int x9), (10, .int x10), (11, .int x11), (12, .int x12)] → W p l e (RM 1 22) s m args below meth c H locs 0 0 (MQ below (QV G none M0) args s 0 0 (AG G)) (F0 m 285 ls []) := by
  obtain ⟨⟨hx, hb, hml, hown, hts⟩, hK, hG, hA⟩ := id hC
  intro x2 x3 x4 x5 x6 x7 x8 x9 x10 x11 x12 M H locs ls hF hS hl
  unfold F_X7_hears_285 at hF
  refine lv_iload hx hb dX7_hears_285 (lv_at hl 11 rfl) ?_
  refine lv_if_ne (tgt := 302) hx hb dX7_hears_287 (by decide) (fun hc => ?_) (fun hc => ?_)
  · rw [if_neg hc] at hF
    exact b_X7_hears_302 hC hr hlk hn hk80 hk164 _ _ _ _ _ _ _ _ _ _ _ _ hF hS (lv_sub hl [0, 1, 2, 3, 4, 5, 6, 7, 8] rfl)
  · rw [if_pos hc] at hF
    refine lv_iload_n hx hb dX7_hears_290 rfl (lv_at hl 2 rfl) ?_
    refine lv_iconst (v := 2) hx hb dX7_hears_291 (by decide) ?_
    refine lv_icmp_ne (tgt := 317) hx hb dX7_hears_292 (by decide) (fun hc => ?_) (fun hc => ?_)
    · rw [if_neg hc] at hF
      exact b_X7_hears_317 hC hr hlk hn hk80 hk164 _ _ _ _ _ _ _ _ _ _ _ _ hF hS (lv_sub hl [0, 1, 2, 3, 4, 5, 6, 7, 8] rfl)
    · rw [if_pos hc] at hF
      refine lv_iload hx hb dX7_hears_295 (lv_at hl 10 rfl) ?_
      refine lv_iload hx hb dX7_hears_297 (lv_at hl 9 rfl) ?_
      refine lv_icmp_ge (tgt := 317) hx hb dX7_hears_299 (by decide) (fun hc => ?_) (fun hc => ?_)
      · rw [if_pos hc] at hF
        exact b_X7_hears_317 hC hr hlk hn hk80 hk164 _ _ _ _ _ _ _ _ _ _ _ _ hF hS (lv_sub hl [0, 1, 2, 3, 4, 5, 6, 7, 8] rfl)
      · rw [if_neg hc] at hF
        exact b_X7_hears_302 hC hr hlk hn hk80 hk164 _ _ _ _ _ _ _ _ _ _ _ _ hF hS (lv_sub hl [0, 1, 2, 3, 4, 5, 6, 7, 8] rfl)
set_option maxHeartbeats 4000000 in
set_option maxRecDepth 100000 in
theorem b_X7_hears_270 {k80 : Int32 → Int32 → Int32 → Int32 → Int32 → Mem → Option Mem} {k164 : Int32 → Int32 → Int32 → Int32 → Int32 → Int32 → Int32 → Int32 → Mem → Option Mem} {M0 : Mem} (hC : SX p m c s args cX7_hears 13 RX7 G (AG G)) (hr : meth.sig.returnType = none) (hlk : meth.locks = false) (hn : ∀ i ∈ LsF, i ∈ gL G) (hk80 : ∀ (x2 : Int32) (x3 : Int32) (x4 : Int32) (x5 : Int32) (x6 : Int32) (M : Mem) (H : Heap) (locs : List Loc) (ls : Array Slot), k80 x2 x3 x4 x5 x6 M = some M0 → ST G (AG G) s M H locs → lv_has ls 13 [(0, .ref (G.1 61)), (2, .int x2), (3, .int x3), (4, .int x4), (5, .int x5), (6, .int x6)] → W p l e (RM 1 22) s m args below meth c H locs 0 0 (MQ below (QV G none M0) args s 0 0 (AG G)) (F0 m 80 ls [])) (hk164 : ∀ (x2 : Int32) (x3 : Int32) (x4 : Int32) (x5 : Int32) (x6 : Int32) (x7 : Int32) (x8 : Int32) (x9 : Int32) (M : Mem) (H : Heap) (locs : List Loc) (ls : Array Slot), k164 x2 x3 x4 x5 x6 x7 x8 x9 M = some M0 → ST G (AG G) s M H locs → lv_has ls 13 [(0, .ref (G.1 61)), (2, .int x2), (3, .int x3), (4, .int x4), (5, .int x5), (6, .int x6), (7, .int x7), (8, .int x8), (9, .int x9)] → W p l e (RM 1 22) s m args below meth c H locs 0 0 (MQ below (QV G none M0) args s 0 0 (AG G)) (F0 m 164 ls [])) : ∀ (x2 : Int32) (x3 : Int32) (x4 : Int32) (x5 : Int32) (x6 : Int32) (x7 : Int32) (x8 : Int32) (x9 : Int32) (x10 : Int32) (x11 : Int32) (x12 : Int32) (M : Mem) (H : Heap) (locs : List Loc) (ls : Array Slot), F_X7_hears_270 k80 k164 x2 x3 x4 x5 x6 x7 x8 x9 x10 x11 x12 M = some M0 → ST G (AG G) s M H locs → lv_has ls 13 [(0, .ref (G.1 61)), (2, .int x2), (3, .int x3), (4, .int x4), (5, .int x5), (6, .int x6), (7, .int x7), (8, .int x8), (9, .int x9), (10, .int x10), (11, .int x11), (12, .int x12)] → W p l e (RM 1 22) s m args below meth c H locs 0 0 (MQ below (QV G none M0) args s 0 0 (AG G)) (F0 m 270 ls []) := by
  obtain ⟨⟨hx, hb, hml, hown, hts⟩, hK, hG, hA⟩ := id hC
  intro x2 x3 x4 x5 x6 x7 x8 x9 x10 x11 x12 M H locs ls hF hS hl
  unfold F_X7_hears_270 at hF
  refine lv_aload_n hx hb dX7_hears_270 rfl (lv_at hl 0 rfl) ?_
  refine lv_dup hx hb dX7_hears_271 rfl ?_
  refine gx (ci := 7) (k := 16) (v := .int (M.1 44)) (C := RX7) (T := TX7) (N := 29) hC hS (hn _ (by decide)) rfl rfl in_X7 (by decide) rfl rfl lf_X7_136 dX7_hears_272 ?_
  refine lv_iconst (v := 1) hx hb dX7_hears_275 (by decide) ?_
  refine lv_iload hx hb dX7_hears_276 (lv_at hl 6 rfl) ?_
  refine lv_ishl hx hb dX7_hears_278 ?_
  refine lv_iconst (v := (-1)) hx hb dX7_hears_279 (by decide) ?_
  refine lv_ixor hx hb dX7_hears_280 ?_
  refine lv_iand hx hb dX7_hears_281 ?_
  refine px (ci := 7) (k := 16) (n := 44) (ty := .int) (C := RX7) (T := TX7) (N := 29) hC hS (hn _ (by decide)) rfl rfl in_X7 tyX7_ok nmX7 (by decide) rfl rfl (by decide +kernel) rfl rfl (Nat.le_of_ble_eq_true rfl) rfl se_X7_16 lf_X7_136 dX7_hears_282 (fun H locs hS => ?_)
  exact b_X7_hears_285 hC hr hlk hn hk80 hk164 _ _ _ _ _ _ _ _ _ _ _ _ _ _ _ hF hS (lv_sub hl [0, 1, 2, 3, 4, 5, 6, 7, 8, 9, 10, 11] rfl)
set_option maxHeartbeats 4000000 in
set_option maxRecDepth 100000 in
theorem b_X7_hears_251 {k80 : Int32 → Int32 → Int32 → Int32 → Int32 → Mem → Option Mem} {k164 : Int32 → Int32 → Int32 → Int32 → Int32 → Int32 → Int32 → Int32 → Mem → Option Mem} {M0 : Mem} (hC : SX p m c s args cX7_hears 13 RX7 G (AG G)) (hr : meth.sig.returnType = none) (hlk : meth.locks = false) (hn : ∀ i ∈ LsF, i ∈ gL G) (hk80 : ∀ (x2 : Int32) (x3 : Int32) (x4 : Int32) (x5 : Int32) (x6 : Int32) (M : Mem) (H : Heap) (locs : List Loc) (ls : Array Slot), k80 x2 x3 x4 x5 x6 M = some M0 → ST G (AG G) s M H locs → lv_has ls 13 [(0, .ref (G.1 61)), (2, .int x2), (3, .int x3), (4, .int x4), (5, .int x5), (6, .int x6)] → W p l e (RM 1 22) s m args below meth c H locs 0 0 (MQ below (QV G none M0) args s 0 0 (AG G)) (F0 m 80 ls [])) (hk164 : ∀ (x2 : Int32) (x3 : Int32) (x4 : Int32) (x5 : Int32) (x6 : Int32) (x7 : Int32) (x8 : Int32) (x9 : Int32) (M : Mem) (H : Heap) (locs : List Loc) (ls : Array Slot), k164 x2 x3 x4 x5 x6 x7 x8 x9 M = some M0 → ST G (AG G) s M H locs → lv_has ls 13 [(0, .ref (G.1 61)), (2, .int x2), (3, .int x3), (4, .int x4), (5, .int x5), (6, .int x6), (7, .int x7), (8, .int x8), (9, .int x9)] → W p l e (RM 1 22) s m args below meth c H locs 0 0 (MQ below (QV G none M0) args s 0 0 (AG G)) (F0 m 164 ls [])) : ∀ (x2 : Int32) (x3 : Int32) (x4 : Int32) (x5 : Int32) (x6 : Int32) (x7 : Int32) (x8 : Int32) (x9 : Int32) (x10 : Int32) (x11 : Int32) (t0 : Int32) (M : Mem) (H : Heap) (locs : List Loc) (ls : Array Slot), F_X7_hears_251 k80 k164 x2 x3 x4 x5 x6 x7 x8 x9 x10 x11 t0 M = some M0 → ST G (AG G) s M H locs → lv_has ls 13 [(0, .ref (G.1 61)), (2, .int x2), (3, .int x3), (4, .int x4), (5, .int x5), (6, .int x6), (7, .int x7), (8, .int x8), (9, .int x9), (10, .int x10), (11, .int x11)] → W p l e (RM 1 22) s m args below meth c H locs 0 0 (MQ below (QV G none M0) args s 0 0 (AG G)) (F0 m 251 ls [.int t0]) := by
  obtain ⟨⟨hx, hb, hml, hown, hts⟩, hK, hG, hA⟩ := id hC
  intro x2 x3 x4 x5 x6 x7 x8 x9 x10 x11 t0 M H locs ls hF hS hl
  unfold F_X7_hears_251 at hF
  refine lv_istore (lv' := [(12, .int t0), (0, .ref (G.1 61)), (2, .int x2), (3, .int x3), (4, .int x4), (5, .int x5), (6, .int x6), (7, .int x7), (8, .int x8), (9, .int x9), (10, .int x10), (11, .int x11)]) hx hb dX7_hears_251 hl (by decide) rfl (fun ls hl => ?_)
  refine lv_iload hx hb dX7_hears_253 (lv_at hl 0 rfl) ?_
  refine lv_if_ne (tgt := 270) hx hb dX7_hears_255 (by decide) (fun hc => ?_) (fun hc => ?_)
  · rw [if_neg hc] at hF
    exact b_X7_hears_270 hC hr hlk hn hk80 hk164 _ _ _ _ _ _ _ _ _ _ _ _ _ _ _ hF hS (lv_sub hl [1, 2, 3, 4, 5, 6, 7, 8, 9, 10, 11, 0] rfl)
  · rw [if_pos hc] at hF
    refine lv_iload_n hx hb dX7_hears_258 rfl (lv_at hl 3 rfl) ?_
    refine lv_iconst (v := 1) hx hb dX7_hears_259 (by decide) ?_
    refine lv_icmp_eq (tgt := 270) hx hb dX7_hears_260 (by decide) (fun hc => ?_) (fun hc => ?_)
    · rw [if_pos hc] at hF
      exact b_X7_hears_270 hC hr hlk hn hk80 hk164 _ _ _ _ _ _ _ _ _ _ _ _ _ _ _ hF hS (lv_sub hl [1, 2, 3, 4, 5, 6, 7, 8, 9, 10, 11, 0] rfl)
    · rw [if_neg hc] at hF
      refine lv_iload hx hb dX7_hears_263 (lv_at hl 10 rfl) ?_
      refine lv_iload hx hb dX7_hears_265 (lv_at hl 11 rfl) ?_
      refine lv_icmp_ge (tgt := 285) hx hb dX7_hears_267 (by decide) (fun hc => ?_) (fun hc => ?_)
      · rw [if_pos hc] at hF
        exact b_X7_hears_285 hC hr hlk hn hk80 hk164 _ _ _ _ _ _ _ _ _ _ _ _ _ _ _ hF hS (lv_sub hl [1, 2, 3, 4, 5, 6, 7, 8, 9, 10, 11, 0] rfl)
      · rw [if_neg hc] at hF
        exact b_X7_hears_270 hC hr hlk hn hk80 hk164 _ _ _ _ _ _ _ _ _ _ _ _ _ _ _ hF hS (lv_sub hl [1, 2, 3, 4, 5, 6, 7, 8, 9, 10, 11, 0] rfl)
set_option maxHeartbeats 4000000 in
set_option maxRecDepth 100000 in
theorem b_X7_hears_246 {k80 : Int32 → Int32 → Int32 → Int32 → Int32 → Mem → Option Mem} {k164 : Int32 → Int32 → Int32 → Int32 → Int32 → Int32 → Int32 → Int32 → Mem → Option Mem} {M0 : Mem} (hC : SX p m c s args cX7_hears 13 RX7 G (AG G)) (hr : meth.sig.returnType = none) (hlk : meth.locks = false) (hn : ∀ i ∈ LsF, i ∈ gL G) (hk80 : ∀ (x2 : Int32) (x3 : Int32) (x4 : Int32) (x5 : Int32) (x6 : Int32) (M : Mem) (H : Heap) (locs : List Loc) (ls : Array Slot), k80 x2 x3 x4 x5 x6 M = some M0 → ST G (AG G) s M H locs → lv_has ls 13 [(0, .ref (G.1 61)), (2, .int x2), (3, .int x3), (4, .int x4), (5, .int x5), (6, .int x6)] → W p l e (RM 1 22) s m args below meth c H locs 0 0 (MQ below (QV G none M0) args s 0 0 (AG G)) (F0 m 80 ls [])) (hk164 : ∀ (x2 : Int32) (x3 : Int32) (x4 : Int32) (x5 : Int32) (x6 : Int32) (x7 : Int32) (x8 : Int32) (x9 : Int32) (M : Mem) (H : Heap) (locs : List Loc) (ls : Array Slot), k164 x2 x3 x4 x5 x6 x7 x8 x9 M = some M0 → ST G (AG G) s M H locs → lv_has ls 13 [(0, .ref (G.1 61)), (2, .int x2), (3, .int x3), (4, .int x4), (5, .int x5), (6, .int x6), (7, .int x7), (8, .int x8), (9, .int x9)] → W p l e (RM 1 22) s m args below meth c H locs 0 0 (MQ below (QV G none M0) args s 0 0 (AG G)) (F0 m 164 ls [])) : ∀ (x2 : Int32) (x3 : Int32) (x4 : Int32) (x5 : Int32) (x6 : Int32) (x7 : Int32) (x8 : Int32) (x9 : Int32) (x10 : Int32) (x11 : Int32) (M : Mem) (H : Heap) (locs : List Loc) (ls : Array Slot), F_X7_hears_246 k80 k164 x2 x3 x4 x5 x6 x7 x8 x9 x10 x11 M = some M0 → ST G (AG G) s M H locs → lv_has ls 13 [(0, .ref (G.1 61)), (2, .int x2), (3, .int x3), (4, .int x4), (5, .int x5), (6, .int x6), (7, .int x7), (8, .int x8), (9, .int x9), (10, .int x10), (11, .int x11)] → W p l e (RM 1 22) s m args below meth c H locs 0 0 (MQ below (QV G none M0) args s 0 0 (AG G)) (F0 m 246 ls []) := by
  obtain ⟨⟨hx, hb, hml, hown, hts⟩, hK, hG, hA⟩ := id hC
  intro x2 x3 x4 x5 x6 x7 x8 x9 x10 x11 M H locs ls hF hS hl
  unfold F_X7_hears_246 at hF
  refine lv_iconst (v := 1) hx hb dX7_hears_246 (by decide) ?_
  refine lv_goto (tgt := 251) hx hb dX7_hears_247 (by decide) ?_
  exact b_X7_hears_251 hC hr hlk hn hk80 hk164 _ _ _ _ _ _ _ _ _ _ _ _ _ _ _ hF hS (lv_sub hl [0, 1, 2, 3, 4, 5, 6, 7, 8, 9, 10] rfl)
set_option maxHeartbeats 4000000 in
set_option maxRecDepth 100000 in
theorem b_X7_hears_250 {k80 : Int32 → Int32 → Int32 → Int32 → Int32 → Mem → Option Mem} {k164 : Int32 → Int32 → Int32 → Int32 → Int32 → Int32 → Int32 → Int32 → Mem → Option Mem} {M0 : Mem} (hC : SX p m c s args cX7_hears 13 RX7 G (AG G)) (hr : meth.sig.returnType = none) (hlk : meth.locks = false) (hn : ∀ i ∈ LsF, i ∈ gL G) (hk80 : ∀ (x2 : Int32) (x3 : Int32) (x4 : Int32) (x5 : Int32) (x6 : Int32) (M : Mem) (H : Heap) (locs : List Loc) (ls : Array Slot), k80 x2 x3 x4 x5 x6 M = some M0 → ST G (AG G) s M H locs → lv_has ls 13 [(0, .ref (G.1 61)), (2, .int x2), (3, .int x3), (4, .int x4), (5, .int x5), (6, .int x6)] → W p l e (RM 1 22) s m args below meth c H locs 0 0 (MQ below (QV G none M0) args s 0 0 (AG G)) (F0 m 80 ls [])) (hk164 : ∀ (x2 : Int32) (x3 : Int32) (x4 : Int32) (x5 : Int32) (x6 : Int32) (x7 : Int32) (x8 : Int32) (x9 : Int32) (M : Mem) (H : Heap) (locs : List Loc) (ls : Array Slot), k164 x2 x3 x4 x5 x6 x7 x8 x9 M = some M0 → ST G (AG G) s M H locs → lv_has ls 13 [(0, .ref (G.1 61)), (2, .int x2), (3, .int x3), (4, .int x4), (5, .int x5), (6, .int x6), (7, .int x7), (8, .int x8), (9, .int x9)] → W p l e (RM 1 22) s m args below meth c H locs 0 0 (MQ below (QV G none M0) args s 0 0 (AG G)) (F0 m 164 ls [])) : ∀ (x2 : Int32) (x3 : Int32) (x4 : Int32) (x5 : Int32) (x6 : Int32) (x7 : Int32) (x8 : Int32) (x9 : Int32) (x10 : Int32) (x11 : Int32) (M : Mem) (H : Heap) (locs : List Loc) (ls : Array Slot), F_X7_hears_250 k80 k164 x2 x3 x4 x5 x6 x7 x8 x9 x10 x11 M = some M0 → ST G (AG G) s M H locs → lv_has ls 13 [(0, .ref (G.1 61)), (2, .int x2), (3, .int x3), (4, .int x4), (5, .int x5), (6, .int x6), (7, .int x7), (8, .int x8), (9, .int x9), (10, .int x10), (11, .int x11)] → W p l e (RM 1 22) s m args below meth c H locs 0 0 (MQ below (QV G none M0) args s 0 0 (AG G)) (F0 m 250 ls []) := by
  obtain ⟨⟨hx, hb, hml, hown, hts⟩, hK, hG, hA⟩ := id hC
  intro x2 x3 x4 x5 x6 x7 x8 x9 x10 x11 M H locs ls hF hS hl
  unfold F_X7_hears_250 at hF
  refine lv_iconst (v := 0) hx hb dX7_hears_250 (by decide) ?_
  exact b_X7_hears_251 hC hr hlk hn hk80 hk164 _ _ _ _ _ _ _ _ _ _ _ _ _ _ _ hF hS (lv_sub hl [0, 1, 2, 3, 4, 5, 6, 7, 8, 9, 10] rfl)
set_option maxHeartbeats 4000000 in
set_option maxRecDepth 100000 in
theorem b_X7_hears_164 {k80 : Int32 → Int32 → Int32 → Int32 → Int32 → Mem → Option Mem} {M0 : Mem} (hC : SX p m c s args cX7_hears 13 RX7 G (AG G)) (hr : meth.sig.returnType = none) (hlk : meth.locks = false) (hn : ∀ i ∈ LsF, i ∈ gL G) (hk80 : ∀ (x2 : Int32) (x3 : Int32) (x4 : Int32) (x5 : Int32) (x6 : Int32) (M : Mem) (H : Heap) (locs : List Loc) (ls : Array Slot), k80 x2 x3 x4 x5 x6 M = some M0 → ST G (AG G) s M H locs → lv_has ls 13 [(0, .ref (G.1 61)), (2, .int x2), (3, .int x3), (4, .int x4), (5, .int x5), (6, .int x6)] → W p l e (RM 1 22) s m args below meth c H locs 0 0 (MQ below (QV G none M0) args s 0 0 (AG G)) (F0 m 80 ls [])) : ∀ (n : Nat) (x2 : Int32) (x3 : Int32) (x4 : Int32) (x5 : Int32) (x6 : Int32) (x7 : Int32) (x8 : Int32) (x9 : Int32) (M : Mem) (H : Heap) (locs : List Loc) (ls : Array Slot), F_X7_hears_164 k80 n x2 x3 x4 x5 x6 x7 x8 x9 M = some M0 → ST G (AG G) s M H locs → lv_has ls 13 [(0, .ref (G.1 61)), (2, .int x2), (3, .int x3), (4, .int x4), (5, .int x5), (6, .int x6), (7, .int x7), (8, .int x8), (9, .int x9)] → W p l e (RM 1 22) s m args below meth c H locs 0 0 (MQ below (QV G none M0) args s 0 0 (AG G)) (F0 m 164 ls []) := by
  obtain ⟨⟨hx, hb, hml, hown, hts⟩, hK, hG, hA⟩ := id hC
  intro n
  induction n with
  | zero =>
    intro x2 x3 x4 x5 x6 x7 x8 x9 M H locs ls hF
    cases hF
  | succ n ih =>
    intro x2 x3 x4 x5 x6 x7 x8 x9 M H locs ls hF hS hl
    unfold F_X7_hears_164 at hF
    refine lv_iload hx hb dX7_hears_164 (lv_at hl 8 rfl) ?_
    refine lv_aload_n hx hb dX7_hears_166 rfl (lv_at hl 0 rfl) ?_
    refine gx (ci := 7) (k := 2) (v := .int (M.1 40)) (C := RX7) (T := TX7) (N := 29) hC hS (hn _ (by decide)) rfl rfl in_X7 (by decide) rfl rfl lf_X7_82 dX7_hears_167 ?_
    refine lv_icmp_ge (tgt := 323) hx hb dX7_hears_170 (by decide) (fun hc => ?_) (fun hc => ?_)
    · rw [if_pos hc] at hF
      refine lv_aload_n hx hb dX7_hears_323 rfl (lv_at hl 0 rfl) ?_
      refine gx (ci := 7) (k := 16) (v := .int (M.1 44)) (C := RX7) (T := TX7) (N := 29) hC hS (hn _ (by decide)) rfl rfl in_X7 (by decide) rfl rfl lf_X7_136 dX7_hears_324 ?_
      refine lv_iload hx hb dX7_hears_327 (lv_at hl 6 rfl) ?_
      obtain ⟨r329, M329, h329, hF⟩ := bd_some hF
      refine cS_ (As := [.int (M.1 44), .int x7]) (v := some (.int r329)) (rest := []) (st1 := [.int r329]) hC hS (c_X7_has l G hn (M.1 44) x7 M _ _ h329) kS_X7_has lm_X7_151 ⟨Nat.le_of_ble_eq_true rfl, Nat.le_of_ble_eq_true rfl⟩ rfl hl.1 (Nat.le_of_ble_eq_true rfl) dX7_hears_329 ⟨Nat.le_refl _, Nat.le_refl _⟩ rfl (fun H locs hS => ?_)
      refine lv_if_eq (tgt := 462) hx hb dX7_hears_332 (by decide) (fun hc => ?_) (fun hc => ?_)
      · rw [if_pos hc] at hF
        exact b_X7_hears_462 hC hr hlk hn hk80 _ _ _ _ _ _ _ _ _ hF hS (lv_sub hl [0, 1, 2, 3, 4, 5] rfl)
      · rw [if_neg hc] at hF
        refine lv_aload_n hx hb dX7_hears_335 rfl (lv_at hl 0 rfl) ?_
        refine gx (ci := 7) (k := 9) (v := .int (M329.1 42)) (C := RX7) (T := TX7) (N := 29) hC hS (hn _ (by decide)) rfl rfl in_X7 (by decide) rfl rfl lf_X7_104 dX7_hears_336 ?_
        refine lv_iload hx hb dX7_hears_339 (lv_at hl 6 rfl) ?_
        obtain ⟨r341, M341, h341, hF⟩ := bd_some hF
        refine cS_ (As := [.int (M329.1 42), .int x7]) (v := some (.int r341)) (rest := []) (st1 := [.int r341]) hC hS (c_X7_has l G hn (M329.1 42) x7 M329 _ _ h341) kS_X7_has lm_X7_151 ⟨Nat.le_of_ble_eq_true rfl, Nat.le_of_ble_eq_true rfl⟩ rfl hl.1 (Nat.le_of_ble_eq_true rfl) dX7_hears_341 ⟨Nat.le_refl _, Nat.le_refl _⟩ rfl (fun H locs hS => ?_)
        refine lv_if_eq (tgt := 380) hx hb dX7_hears_344 (by decide) (fun hc => ?_) (fun hc => ?_)
        · rw [if_pos hc] at hF
          exact b_X7_hears_380 hC hr hlk hn hk80 _ _ _ _ _ _ _ _ _ _ hF hS (lv_sub hl [0, 1, 2, 3, 4, 5, 6] rfl)
        · rw [if_neg hc] at hF
          refine lv_aload_n hx hb dX7_hears_347 rfl (lv_at hl 0 rfl) ?_
          refine gx (ci := 7) (k := 16) (v := .int (M341.1 44)) (C := RX7) (T := TX7) (N := 29) hC hS (hn _ (by decide)) rfl rfl in_X7 (by decide) rfl rfl lf_X7_136 dX7_hears_348 ?_
          refine lv_aload_n hx hb dX7_hears_351 rfl (lv_at hl 0 rfl) ?_
          refine gx (ci := 7) (k := 7) (v := .ref (G.1 28)) (C := RX7) (T := TX7) (N := 29) hC hS (hn _ (by decide)) rfl rfl in_X7 (by decide) rfl rfl lf_X7_28 dX7_hears_352 ?_
          refine lv_iload hx hb dX7_hears_355 (lv_at hl 6 rfl) ?_
          obtain ⟨hi, hF⟩ := ckb_some hF
          refine ald hC hS (hn _ (by decide)) (by decide) rfl hi dX7_hears_357 ?_
          obtain ⟨r358, M358, h358, hF⟩ := bd_some hF
          refine cS_ (As := [.int (M341.1 44), .int (M341.2 28 x7.toNatClampNeg)]) (v := some (.int r358)) (rest := []) (st1 := [.int r358]) hC hS (c_X7_has l G hn (M341.1 44) (M341.2 28 x7.toNatClampNeg) M341 _ _ h358) kS_X7_has lm_X7_151 ⟨Nat.le_of_ble_eq_true rfl, Nat.le_of_ble_eq_true rfl⟩ rfl hl.1 (Nat.le_of_ble_eq_true rfl) dX7_hears_358 ⟨Nat.le_refl _, Nat.le_refl _⟩ rfl (fun H locs hS => ?_)
          refine lv_if_eq (tgt := 380) hx hb dX7_hears_361 (by decide) (fun hc => ?_) (fun hc => ?_)
          · rw [if_pos hc] at hF
            exact b_X7_hears_380 hC hr hlk hn hk80 _ _ _ _ _ _ _ _ _ _ hF hS (lv_sub hl [0, 1, 2, 3, 4, 5, 6] rfl)
          · rw [if_neg hc] at hF
            refine lv_aload_n hx hb dX7_hears_364 rfl (lv_at hl 0 rfl) ?_
            refine lv_aload_n hx hb dX7_hears_365 rfl (lv_at hl 0 rfl) ?_
            refine gx (ci := 7) (k := 7) (v := .ref (G.1 28)) (C := RX7) (T := TX7) (N := 29) hC hS (hn _ (by decide)) rfl rfl in_X7 (by decide) rfl rfl lf_X7_28 dX7_hears_366 ?_
            refine lv_iload hx hb dX7_hears_369 (lv_at hl 6 rfl) ?_
            obtain ⟨hi, hF⟩ := ckb_some hF
            refine ald hC hS (hn _ (by decide)) (by decide) rfl hi dX7_hears_371 ?_
            refine lv_iload hx hb dX7_hears_372 (lv_at hl 3 rfl) ?_
            obtain ⟨M374, h374, hF⟩ := bdv_some hF
            refine cV_ (ci := 7) (i := 61) (C := RX7) (T := TX7) (N := 29) (As := [.int (M358.2 28 x7.toNatClampNeg), .int x4]) (v := none) (rest := []) (st1 := []) hC hS (hn _ (by decide)) rfl rfl (c_X7_undoes l G hn (M358.2 28 x7.toNatClampNeg) x4 M358 _ h374) kV_X7_undoes lm_X7_158 ⟨Nat.le_of_ble_eq_true rfl, Nat.le_of_ble_eq_true rfl⟩ rfl hl.1 (Nat.le_of_ble_eq_true rfl) dX7_hears_374 ⟨Nat.le_refl _, Nat.le_refl _⟩ rfl (fun H locs hS => ?_)
            refine lv_goto (tgt := 462) hx hb dX7_hears_377 (by decide) ?_
            exact b_X7_hears_462 hC hr hlk hn hk80 _ _ _ _ _ _ _ _ _ hF hS (lv_sub hl [0, 1, 2, 3, 4, 5] rfl)
    · rw [if_neg hc] at hF
      refine lv_iload hx hb dX7_hears_173 (lv_at hl 7 rfl) ?_
      refine lv_iload hx hb dX7_hears_175 (lv_at hl 8 rfl) ?_
      obtain ⟨r177, M177, h177, hF⟩ := bd_some hF
      refine cS_ (As := [.int x8, .int x9]) (v := some (.int r177)) (rest := []) (st1 := [.int r177]) hC hS (c_X7_has l G hn x8 x9 M _ _ h177) kS_X7_has lm_X7_151 ⟨Nat.le_of_ble_eq_true rfl, Nat.le_of_ble_eq_true rfl⟩ rfl hl.1 (Nat.le_of_ble_eq_true rfl) dX7_hears_177 ⟨Nat.le_refl _, Nat.le_refl _⟩ rfl (fun H locs hS => ?_)
      refine lv_if_eq (tgt := 317) hx hb dX7_hears_180 (by decide) (fun hc => ?_) (fun hc => ?_)
      · rw [if_pos hc] at hF
        exact b_X7_hears_317 hC hr hlk hn hk80 ih _ _ _ _ _ _ _ _ _ _ _ _ hF hS (lv_sub hl [0, 1, 2, 3, 4, 5, 6, 7, 8] rfl)
      · rw [if_neg hc] at hF
        refine lv_aload_n hx hb dX7_hears_183 rfl (lv_at hl 0 rfl) ?_
        refine gx (ci := 7) (k := 16) (v := .int (M177.1 44)) (C := RX7) (T := TX7) (N := 29) hC hS (hn _ (by decide)) rfl rfl in_X7 (by decide) rfl rfl lf_X7_136 dX7_hears_184 ?_
        refine lv_iload hx hb dX7_hears_187 (lv_at hl 6 rfl) ?_
        obtain ⟨r189, M189, h189, hF⟩ := bd_some hF
        refine cS_ (As := [.int (M177.1 44), .int x7]) (v := some (.int r189)) (rest := []) (st1 := [.int r189]) hC hS (c_X7_has l G hn (M177.1 44) x7 M177 _ _ h189) kS_X7_has lm_X7_151 ⟨Nat.le_of_ble_eq_true rfl, Nat.le_of_ble_eq_true rfl⟩ rfl hl.1 (Nat.le_of_ble_eq_true rfl) dX7_hears_189 ⟨Nat.le_refl _, Nat.le_refl _⟩ rfl (fun H locs hS => ?_)
        refine lv_if_eq (tgt := 317) hx hb dX7_hears_192 (by decide) (fun hc => ?_) (fun hc => ?_)
        · rw [if_pos hc] at hF
          exact b_X7_hears_317 hC hr hlk hn hk80 ih _ _ _ _ _ _ _ _ _ _ _ _ hF hS (lv_sub hl [0, 1, 2, 3, 4, 5, 6, 7, 8] rfl)
        · rw [if_neg hc] at hF
          refine lv_aload_n hx hb dX7_hears_195 rfl (lv_at hl 0 rfl) ?_
          refine lv_iload hx hb dX7_hears_196 (lv_at hl 6 rfl) ?_
          refine lv_iload hx hb dX7_hears_198 (lv_at hl 8 rfl) ?_
          obtain ⟨r200, M200, h200, hF⟩ := bd_some hF
          refine cV_ (ci := 7) (i := 61) (C := RX7) (T := TX7) (N := 29) (As := [.int x7, .int x9]) (v := some (.int r200)) (rest := []) (st1 := [.int r200]) hC hS (hn _ (by decide)) rfl rfl (c_X7_quarrel l G hn x7 x9 M189 _ _ h200) kV_X7_quarrel lm_X7_155 ⟨Nat.le_of_ble_eq_true rfl, Nat.le_of_ble_eq_true rfl⟩ rfl hl.1 (Nat.le_of_ble_eq_true rfl) dX7_hears_200 ⟨Nat.le_refl _, Nat.le_refl _⟩ rfl (fun H locs hS => ?_)
          refine lv_if_eq (tgt := 317) hx hb dX7_hears_203 (by decide) (fun hc => ?_) (fun hc => ?_)
          · rw [if_pos hc] at hF
            exact b_X7_hears_317 hC hr hlk hn hk80 ih _ _ _ _ _ _ _ _ _ _ _ _ hF hS (lv_sub hl [0, 1, 2, 3, 4, 5, 6, 7, 8] rfl)
          · rw [if_neg hc] at hF
            refine lv_aload_n hx hb dX7_hears_206 rfl (lv_at hl 0 rfl) ?_
            refine gx (ci := 7) (k := 4) (v := .ref (G.1 25)) (C := RX7) (T := TX7) (N := 29) hC hS (hn _ (by decide)) rfl rfl in_X7 (by decide) rfl rfl lf_X7_19 dX7_hears_207 ?_
            refine lv_iload hx hb dX7_hears_210 (lv_at hl 6 rfl) ?_
            obtain ⟨hi, hF⟩ := ckb_some hF
            refine ald hC hS (hn _ (by decide)) (by decide) rfl hi dX7_hears_212 ?_
            obtain ⟨r213, M213, h213, hF⟩ := bd_some hF
            refine cS_ (As := [.int (M200.2 25 x7.toNatClampNeg)]) (v := some (.int r213)) (rest := []) (st1 := [.int r213]) hC hS (c_X7_ones l G hn (M200.2 25 x7.toNatClampNeg) M200 _ _ h213) kS_X7_ones lm_X7_148 ⟨Nat.le_of_ble_eq_true rfl, Nat.le_of_ble_eq_true rfl⟩ rfl hl.1 (Nat.le_of_ble_eq_true rfl) dX7_hears_213 ⟨Nat.le_refl _, Nat.le_refl _⟩ rfl (fun H locs hS => ?_)
            refine lv_istore (lv' := [(10, .int r213), (0, .ref (G.1 61)), (2, .int x2), (3, .int x3), (4, .int x4), (5, .int x5), (6, .int x6), (7, .int x7), (8, .int x8), (9, .int x9)]) hx hb dX7_hears_216 hl (by decide) rfl (fun ls hl => ?_)
            refine lv_aload_n hx hb dX7_hears_218 rfl (lv_at hl 1 rfl) ?_
            refine gx (ci := 7) (k := 4) (v := .ref (G.1 25)) (C := RX7) (T := TX7) (N := 29) hC hS (hn _ (by decide)) rfl rfl in_X7 (by decide) rfl rfl lf_X7_19 dX7_hears_219 ?_
            refine lv_iload hx hb dX7_hears_222 (lv_at hl 9 rfl) ?_
            obtain ⟨hi, hF⟩ := ckb_some hF
            refine ald hC hS (hn _ (by decide)) (by decide) rfl hi dX7_hears_224 ?_
            obtain ⟨r225, M225, h225, hF⟩ := bd_some hF
            refine cS_ (As := [.int (M213.2 25 x9.toNatClampNeg)]) (v := some (.int r225)) (rest := []) (st1 := [.int r225]) hC hS (c_X7_ones l G hn (M213.2 25 x9.toNatClampNeg) M213 _ _ h225) kS_X7_ones lm_X7_148 ⟨Nat.le_of_ble_eq_true rfl, Nat.le_of_ble_eq_true rfl⟩ rfl hl.1 (Nat.le_of_ble_eq_true rfl) dX7_hears_225 ⟨Nat.le_refl _, Nat.le_refl _⟩ rfl (fun H locs hS => ?_)
            refine lv_istore (lv' := [(11, .int r225), (10, .int r213), (0, .ref (G.1 61)), (2, .int x2), (3, .int x3), (4, .int x4), (5, .int x5), (6, .int x6), (7, .int x7), (8, .int x8), (9, .int x9)]) hx hb dX7_hears_228 hl (by decide) rfl (fun ls hl => ?_)
            refine lv_iload_n hx hb dX7_hears_230 rfl (lv_at hl 4 rfl) ?_
            refine lv_if_eq (tgt := 246) hx hb dX7_hears_231 (by decide) (fun hc => ?_) (fun hc => ?_)
            · rw [if_pos hc] at hF
              exact b_X7_hears_246 hC hr hlk hn hk80 ih _ _ _ _ _ _ _ _ _ _ _ _ _ _ hF hS (lv_sub hl [2, 3, 4, 5, 6, 7, 8, 9, 10, 1, 0] rfl)
            · rw [if_neg hc] at hF
              refine lv_iload_n hx hb dX7_hears_234 rfl (lv_at hl 4 rfl) ?_
              refine lv_iconst (v := 2) hx hb dX7_hears_235 (by decide) ?_
              refine lv_icmp_ne (tgt := 250) hx hb dX7_hears_236 (by decide) (fun hc => ?_) (fun hc => ?_)
              · rw [if_neg hc] at hF
                exact b_X7_hears_250 hC hr hlk hn hk80 ih _ _ _ _ _ _ _ _ _ _ _ _ _ _ hF hS (lv_sub hl [2, 3, 4, 5, 6, 7, 8, 9, 10, 1, 0] rfl)
              · rw [if_pos hc] at hF
                refine lv_iload hx hb dX7_hears_239 (lv_at hl 1 rfl) ?_
                refine lv_iload hx hb dX7_hears_241 (lv_at hl 0 rfl) ?_
                refine lv_icmp_ne (tgt := 250) hx hb dX7_hears_243 (by decide) (fun hc => ?_) (fun hc => ?_)
                · rw [if_neg hc] at hF
                  exact b_X7_hears_250 hC hr hlk hn hk80 ih _ _ _ _ _ _ _ _ _ _ _ _ _ _ hF hS (lv_sub hl [2, 3, 4, 5, 6, 7, 8, 9, 10, 1, 0] rfl)
                · rw [if_pos hc] at hF
                  exact b_X7_hears_246 hC hr hlk hn hk80 ih _ _ _ _ _ _ _ _ _ _ _ _ _ _ hF hS (lv_sub hl [2, 3, 4, 5, 6, 7, 8, 9, 10, 1, 0] rfl)
set_option maxHeartbeats 4000000 in
set_option maxRecDepth 100000 in
theorem b_X7_hears_142 {k80 : Int32 → Int32 → Int32 → Int32 → Int32 → Mem → Option Mem} {M0 : Mem} (hC : SX p m c s args cX7_hears 13 RX7 G (AG G)) (hr : meth.sig.returnType = none) (hlk : meth.locks = false) (hn : ∀ i ∈ LsF, i ∈ gL G) (hk80 : ∀ (x2 : Int32) (x3 : Int32) (x4 : Int32) (x5 : Int32) (x6 : Int32) (M : Mem) (H : Heap) (locs : List Loc) (ls : Array Slot), k80 x2 x3 x4 x5 x6 M = some M0 → ST G (AG G) s M H locs → lv_has ls 13 [(0, .ref (G.1 61)), (2, .int x2), (3, .int x3), (4, .int x4), (5, .int x5), (6, .int x6)] → W p l e (RM 1 22) s m args below meth c H locs 0 0 (MQ below (QV G none M0) args s 0 0 (AG G)) (F0 m 80 ls [])) : ∀ (x2 : Int32) (x3 : Int32) (x4 : Int32) (x5 : Int32) (x6 : Int32) (x7 : Int32) (M : Mem) (H : Heap) (locs : List Loc) (ls : Array Slot), F_X7_hears_142 k80 x2 x3 x4 x5 x6 x7 M = some M0 → ST G (AG G) s M H locs → lv_has ls 13 [(0, .ref (G.1 61)), (2, .int x2), (3, .int x3), (4, .int x4), (5, .int x5), (6, .int x6), (7, .int x7)] → W p l e (RM 1 22) s m args below meth c H locs 0 0 (MQ below (QV G none M0) args s 0 0 (AG G)) (F0 m 142 ls []) := by
  obtain ⟨⟨hx, hb, hml, hown, hts⟩, hK, hG, hA⟩ := id hC
  intro x2 x3 x4 x5 x6 x7 M H locs ls hF hS hl
  unfold F_X7_hears_142 at hF
  refine lv_aload_n hx hb dX7_hears_142 rfl (lv_at hl 0 rfl) ?_
  refine gx (ci := 7) (k := 16) (v := .int (M.1 44)) (C := RX7) (T := TX7) (N := 29) hC hS (hn _ (by decide)) rfl rfl in_X7 (by decide) rfl rfl lf_X7_136 dX7_hears_143 ?_
  refine lv_istore (lv' := [(8, .int (M.1 44)), (0, .ref (G.1 61)), (2, .int x2), (3, .int x3), (4, .int x4), (5, .int x5), (6, .int x6), (7, .int x7)]) hx hb dX7_hears_146 hl (by decide) rfl (fun ls hl => ?_)
  refine lv_aload_n hx hb dX7_hears_148 rfl (lv_at hl 1 rfl) ?_
  refine lv_dup hx hb dX7_hears_149 rfl ?_
  refine gx (ci := 7) (k := 16) (v := .int (M.1 44)) (C := RX7) (T := TX7) (N := 29) hC hS (hn _ (by decide)) rfl rfl in_X7 (by decide) rfl rfl lf_X7_136 dX7_hears_150 ?_
  refine lv_iconst (v := 1) hx hb dX7_hears_153 (by decide) ?_
  refine lv_iload hx hb dX7_hears_154 (lv_at hl 7 rfl) ?_
  refine lv_ishl hx hb dX7_hears_156 ?_
  refine lv_ior hx hb dX7_hears_157 ?_
  refine px (ci := 7) (k := 16) (n := 44) (ty := .int) (C := RX7) (T := TX7) (N := 29) hC hS (hn _ (by decide)) rfl rfl in_X7 tyX7_ok nmX7 (by decide) rfl rfl (by decide +kernel) rfl rfl (Nat.le_of_ble_eq_true rfl) rfl se_X7_16 lf_X7_136 dX7_hears_158 (fun H locs hS => ?_)
  refine lv_iconst (v := 0) hx hb dX7_hears_161 (by decide) ?_
  refine lv_istore (lv' := [(9, .int 0), (8, .int (M.1 44)), (0, .ref (G.1 61)), (2, .int x2), (3, .int x3), (4, .int x4), (5, .int x5), (6, .int x6), (7, .int x7)]) hx hb dX7_hears_162 hl (by decide) rfl (fun ls hl => ?_)
  exact b_X7_hears_164 hC hr hlk hn hk80 fu _ _ _ _ _ _ _ _ _ _ _ _ hF hS (lv_sub hl [2, 3, 4, 5, 6, 7, 8, 1, 0] rfl)
set_option maxHeartbeats 4000000 in
set_option maxRecDepth 100000 in
theorem b_X7_hears_80 {M0 : Mem} (hC : SX p m c s args cX7_hears 13 RX7 G (AG G)) (hr : meth.sig.returnType = none) (hlk : meth.locks = false) (hn : ∀ i ∈ LsF, i ∈ gL G) : ∀ (n : Nat) (x2 : Int32) (x3 : Int32) (x4 : Int32) (x5 : Int32) (x6 : Int32) (M : Mem) (H : Heap) (locs : List Loc) (ls : Array Slot), F_X7_hears_80 n x2 x3 x4 x5 x6 M = some M0 → ST G (AG G) s M H locs → lv_has ls 13 [(0, .ref (G.1 61)), (2, .int x2), (3, .int x3), (4, .int x4), (5, .int x5), (6, .int x6)] → W p l e (RM 1 22) s m args below meth c H locs 0 0 (MQ below (QV G none M0) args s 0 0 (AG G)) (F0 m 80 ls []) := by
  obtain ⟨⟨hx, hb, hml, hown, hts⟩, hK, hG, hA⟩ := id hC
  intro n
  induction n with
  | zero =>
    intro x2 x3 x4 x5 x6 M H locs ls hF
    cases hF
  | succ n ih =>
    intro x2 x3 x4 x5 x6 M H locs ls hF hS hl
    unfold F_X7_hears_80 at hF
    refine lv_iload hx hb dX7_hears_80 (lv_at hl 5 rfl) ?_
    refine lv_aload_n hx hb dX7_hears_82 rfl (lv_at hl 0 rfl) ?_
    refine gx (ci := 7) (k := 15) (v := .int (M.1 43)) (C := RX7) (T := TX7) (N := 29) hC hS (hn _ (by decide)) rfl rfl in_X7 (by decide) rfl rfl lf_X7_145 dX7_hears_83 ?_
    refine lv_icmp_ge (tgt := 468) hx hb dX7_hears_86 (by decide) (fun hc => ?_) (fun hc => ?_)
    · rw [if_pos hc] at hF
      exact retV hC hS hr hlk hF dX7_hears_468
    · rw [if_neg hc] at hF
      refine lv_aload_n hx hb dX7_hears_89 rfl (lv_at hl 0 rfl) ?_
      refine gx (ci := 7) (k := 14) (v := .ref (G.1 33)) (C := RX7) (T := TX7) (N := 29) hC hS (hn _ (by decide)) rfl rfl in_X7 (by decide) rfl rfl lf_X7_43 dX7_hears_90 ?_
      refine lv_iload hx hb dX7_hears_93 (lv_at hl 5 rfl) ?_
      obtain ⟨hi, hF⟩ := ckb_some hF
      refine ald hC hS (hn _ (by decide)) (by decide) rfl hi dX7_hears_95 ?_
      refine lv_istore (lv' := [(7, .int (M.2 33 x6.toNatClampNeg)), (0, .ref (G.1 61)), (2, .int x2), (3, .int x3), (4, .int x4), (5, .int x5), (6, .int x6)]) hx hb dX7_hears_96 hl (by decide) rfl (fun ls hl => ?_)
      refine lv_aload_n hx hb dX7_hears_98 rfl (lv_at hl 1 rfl) ?_
      refine gx (ci := 7) (k := 4) (v := .ref (G.1 25)) (C := RX7) (T := TX7) (N := 29) hC hS (hn _ (by decide)) rfl rfl in_X7 (by decide) rfl rfl lf_X7_19 dX7_hears_99 ?_
      refine lv_iload hx hb dX7_hears_102 (lv_at hl 0 rfl) ?_
      obtain ⟨hi, hF⟩ := ckb_some hF
      refine ald hC hS (hn _ (by decide)) (by decide) rfl hi dX7_hears_104 ?_
      refine lv_aload_n hx hb dX7_hears_105 rfl (lv_at hl 1 rfl) ?_
      refine gx (ci := 7) (k := 18) (v := .int (M.1 46)) (C := RX7) (T := TX7) (N := 29) hC hS (hn _ (by decide)) rfl rfl in_X7 (by decide) rfl rfl lf_X7_142 dX7_hears_106 ?_
      refine lv_iconst (v := (-1)) hx hb dX7_hears_109 (by decide) ?_
      refine lv_ixor hx hb dX7_hears_110 ?_
      refine lv_iand hx hb dX7_hears_111 ?_
      obtain ⟨r112, M112, h112, hF⟩ := bd_some hF
      refine cS_ (As := [.int ((M.2 25 (M.2 33 x6.toNatClampNeg).toNatClampNeg) &&& ((M.1 46) ^^^ (-1)))]) (v := some (.int r112)) (rest := []) (st1 := [.int r112]) hC hS (c_X7_ones l G hn ((M.2 25 (M.2 33 x6.toNatClampNeg).toNatClampNeg) &&& ((M.1 46) ^^^ (-1))) M _ _ h112) kS_X7_ones lm_X7_148 ⟨Nat.le_of_ble_eq_true rfl, Nat.le_of_ble_eq_true rfl⟩ rfl hl.1 (Nat.le_of_ble_eq_true rfl) dX7_hears_112 ⟨Nat.le_refl _, Nat.le_refl _⟩ rfl (fun H locs hS => ?_)
      refine lv_iload_n hx hb dX7_hears_115 rfl (lv_at hl 2 rfl) ?_
      refine lv_icmp_lt (tgt := 462) hx hb dX7_hears_116 (by decide) (fun hc => ?_) (fun hc => ?_)
      · rw [if_pos hc] at hF
        exact b_X7_hears_462 hC hr hlk hn ih _ _ _ _ _ _ _ _ _ hF hS (lv_sub hl [1, 2, 3, 4, 5, 6] rfl)
      · rw [if_neg hc] at hF
        refine lv_iload hx hb dX7_hears_119 (lv_at hl 5 rfl) ?_
        refine lv_if_ne (tgt := 142) hx hb dX7_hears_121 (by decide) (fun hc => ?_) (fun hc => ?_)
        · rw [if_neg hc] at hF
          exact b_X7_hears_142 hC hr hlk hn ih _ _ _ _ _ _ _ _ _ _ hF hS (lv_sub hl [1, 2, 3, 4, 5, 6, 0] rfl)
        · rw [if_pos hc] at hF
          refine lv_aload_n hx hb dX7_hears_124 rfl (lv_at hl 1 rfl) ?_
          refine gx (ci := 7) (k := 4) (v := .ref (G.1 25)) (C := RX7) (T := TX7) (N := 29) hC hS (hn _ (by decide)) rfl rfl in_X7 (by decide) rfl rfl lf_X7_19 dX7_hears_125 ?_
          refine lv_iload hx hb dX7_hears_128 (lv_at hl 0 rfl) ?_
          obtain ⟨hi, hF⟩ := ckb_some hF
          refine ald hC hS (hn _ (by decide)) (by decide) rfl hi dX7_hears_130 ?_
          refine lv_aload_n hx hb dX7_hears_131 rfl (lv_at hl 1 rfl) ?_
          refine gx (ci := 7) (k := 18) (v := .int (M112.1 46)) (C := RX7) (T := TX7) (N := 29) hC hS (hn _ (by decide)) rfl rfl in_X7 (by decide) rfl rfl lf_X7_142 dX7_hears_132 ?_
          refine lv_iand hx hb dX7_hears_135 ?_
          refine lv_if_eq (tgt := 142) hx hb dX7_hears_136 (by decide) (fun hc => ?_) (fun hc => ?_)
          · rw [if_pos hc] at hF
            exact b_X7_hears_142 hC hr hlk hn ih _ _ _ _ _ _ _ _ _ _ hF hS (lv_sub hl [1, 2, 3, 4, 5, 6, 0] rfl)
          · rw [if_neg hc] at hF
            refine lv_goto (tgt := 462) hx hb dX7_hears_139 (by decide) ?_
            exact b_X7_hears_462 hC hr hlk hn ih _ _ _ _ _ _ _ _ _ hF hS (lv_sub hl [1, 2, 3, 4, 5, 6] rfl)
set_option maxHeartbeats 4000000 in
set_option maxRecDepth 100000 in
theorem b_X7_hears_60 {M0 : Mem} (hC : SX p m c s args cX7_hears 13 RX7 G (AG G)) (hr : meth.sig.returnType = none) (hlk : meth.locks = false) (hn : ∀ i ∈ LsF, i ∈ gL G) : ∀ (x2 : Int32) (x3 : Int32) (x4 : Int32) (t0 : Int32) (M : Mem) (H : Heap) (locs : List Loc) (ls : Array Slot), F_X7_hears_60 x2 x3 x4 t0 M = some M0 → ST G (AG G) s M H locs → lv_has ls 13 [(0, .ref (G.1 61)), (2, .int x2), (3, .int x3), (4, .int x4)] → W p l e (RM 1 22) s m args below meth c H locs 0 0 (MQ below (QV G none M0) args s 0 0 (AG G)) (F0 m 60 ls [.int t0]) := by
  obtain ⟨⟨hx, hb, hml, hown, hts⟩, hK, hG, hA⟩ := id hC
  intro x2 x3 x4 t0 M H locs ls hF hS hl
  unfold F_X7_hears_60 at hF
  refine lv_istore (lv' := [(5, .int t0), (0, .ref (G.1 61)), (2, .int x2), (3, .int x3), (4, .int x4)]) hx hb dX7_hears_60 hl (by decide) rfl (fun ls hl => ?_)
  refine lv_aload_n hx hb dX7_hears_62 rfl (lv_at hl 1 rfl) ?_
  refine lv_iconst (v := 0) hx hb dX7_hears_63 (by decide) ?_
  refine px (ci := 7) (k := 16) (n := 44) (ty := .int) (C := RX7) (T := TX7) (N := 29) hC hS (hn _ (by decide)) rfl rfl in_X7 tyX7_ok nmX7 (by decide) rfl rfl (by decide +kernel) rfl rfl (Nat.le_of_ble_eq_true rfl) rfl se_X7_16 lf_X7_136 dX7_hears_64 (fun H locs hS => ?_)
  refine lv_aload_n hx hb dX7_hears_67 rfl (lv_at hl 1 rfl) ?_
  refine lv_iconst (v := 0) hx hb dX7_hears_68 (by decide) ?_
  refine px (ci := 7) (k := 17) (n := 45) (ty := .int) (C := RX7) (T := TX7) (N := 29) hC hS (hn _ (by decide)) rfl rfl in_X7 tyX7_ok nmX7 (by decide) rfl rfl (by decide +kernel) rfl rfl (Nat.le_of_ble_eq_true rfl) rfl se_X7_17 lf_X7_139 dX7_hears_69 (fun H locs hS => ?_)
  refine lv_aload_n hx hb dX7_hears_72 rfl (lv_at hl 1 rfl) ?_
  refine lv_iconst (v := 0) hx hb dX7_hears_73 (by decide) ?_
  refine px (ci := 7) (k := 18) (n := 46) (ty := .int) (C := RX7) (T := TX7) (N := 29) hC hS (hn _ (by decide)) rfl rfl in_X7 tyX7_ok nmX7 (by decide) rfl rfl (by decide +kernel) rfl rfl (Nat.le_of_ble_eq_true rfl) rfl se_X7_18 lf_X7_142 dX7_hears_74 (fun H locs hS => ?_)
  refine lv_iconst (v := 0) hx hb dX7_hears_77 (by decide) ?_
  refine lv_istore (lv' := [(6, .int 0), (5, .int t0), (0, .ref (G.1 61)), (2, .int x2), (3, .int x3), (4, .int x4)]) hx hb dX7_hears_78 hl (by decide) rfl (fun ls hl => ?_)
  exact b_X7_hears_80 hC hr hlk hn fu _ _ _ _ _ _ _ _ _ hF hS (lv_sub hl [2, 3, 4, 5, 1, 0] rfl)
set_option maxHeartbeats 4000000 in
set_option maxRecDepth 100000 in
theorem b_X7_hears_39 {M0 : Mem} (hC : SX p m c s args cX7_hears 13 RX7 G (AG G)) (hr : meth.sig.returnType = none) (hlk : meth.locks = false) (hn : ∀ i ∈ LsF, i ∈ gL G) : ∀ (x1 : Int32) (x2 : Int32) (x3 : Int32) (t0 : Int32) (M : Mem) (H : Heap) (locs : List Loc) (ls : Array Slot), F_X7_hears_39 x1 x2 x3 t0 M = some M0 → ST G (AG G) s M H locs → lv_has ls 13 [(0, .ref (G.1 61)), (1, .int x1), (2, .int x2), (3, .int x3)] → W p l e (RM 1 22) s m args below meth c H locs 0 0 (MQ below (QV G none M0) args s 0 0 (AG G)) (F0 m 39 ls [.int t0]) := by
  obtain ⟨⟨hx, hb, hml, hown, hts⟩, hK, hG, hA⟩ := id hC
  intro x1 x2 x3 t0 M H locs ls hF hS hl
  unfold F_X7_hears_39 at hF
  refine lv_istore (lv' := [(4, .int t0), (0, .ref (G.1 61)), (1, .int x1), (2, .int x2), (3, .int x3)]) hx hb dX7_hears_39 hl (by decide) rfl (fun ls hl => ?_)
  refine lv_aload_n hx hb dX7_hears_41 rfl (lv_at hl 1 rfl) ?_
  refine gx (ci := 7) (k := 13) (v := .ref (G.1 32)) (C := RX7) (T := TX7) (N := 29) hC hS (hn _ (by decide)) rfl rfl in_X7 (by decide) rfl rfl lf_X7_40 dX7_hears_42 ?_
  refine lv_iconst (v := 4) hx hb dX7_hears_45 (by decide) ?_
  refine lv_iload_n hx hb dX7_hears_46 rfl (lv_at hl 2 rfl) ?_
  refine lv_imul hx hb dX7_hears_47 ?_
  refine lv_iconst (v := 3) hx hb dX7_hears_48 (by decide) ?_
  refine lv_iadd hx hb dX7_hears_49 ?_
  obtain ⟨hi, hF⟩ := ckb_some hF
  refine ald hC hS (hn _ (by decide)) (by decide) rfl hi dX7_hears_50 ?_
  refine lv_iconst (v := 1) hx hb dX7_hears_51 (by decide) ?_
  refine lv_icmp_ne (tgt := 59) hx hb dX7_hears_52 (by decide) (fun hc => ?_) (fun hc => ?_)
  · rw [if_neg hc] at hF
    refine lv_iconst (v := 0) hx hb dX7_hears_59 (by decide) ?_
    exact b_X7_hears_60 hC hr hlk hn _ _ _ _ _ _ _ _ hF hS (lv_sub hl [1, 3, 4, 0] rfl)
  · rw [if_pos hc] at hF
    refine lv_iconst (v := 1) hx hb dX7_hears_55 (by decide) ?_
    refine lv_goto (tgt := 60) hx hb dX7_hears_56 (by decide) ?_
    exact b_X7_hears_60 hC hr hlk hn _ _ _ _ _ _ _ _ hF hS (lv_sub hl [1, 3, 4, 0] rfl)
set_option maxHeartbeats 4000000 in
set_option maxRecDepth 100000 in
theorem b_X7_hears {M0 : Mem} (hC : SX p m c s args cX7_hears 13 RX7 G (AG G)) (hr : meth.sig.returnType = none) (hlk : meth.locks = false) (hn : ∀ i ∈ LsF, i ∈ gL G) : ∀ (x1 : Int32) (M : Mem) (H : Heap) (locs : List Loc) (ls : Array Slot), F_X7_hears x1 M = some M0 → ST G (AG G) s M H locs → lv_has ls 13 [(0, .ref (G.1 61)), (1, .int x1)] → W p l e (RM 1 22) s m args below meth c H locs 0 0 (MQ below (QV G none M0) args s 0 0 (AG G)) (F0 m 0 ls []) := by
  obtain ⟨⟨hx, hb, hml, hown, hts⟩, hK, hG, hA⟩ := id hC
  intro x1 M H locs ls hF hS hl
  unfold F_X7_hears at hF
  refine lv_aload_n hx hb dX7_hears_0 rfl (lv_at hl 0 rfl) ?_
  refine gx (ci := 7) (k := 13) (v := .ref (G.1 32)) (C := RX7) (T := TX7) (N := 29) hC hS (hn _ (by decide)) rfl rfl in_X7 (by decide) rfl rfl lf_X7_40 dX7_hears_1 ?_
  refine lv_iconst (v := 4) hx hb dX7_hears_4 (by decide) ?_
  refine lv_iload_n hx hb dX7_hears_5 rfl (lv_at hl 1 rfl) ?_
  refine lv_imul hx hb dX7_hears_6 ?_
  obtain ⟨hi, hF⟩ := ckb_some hF
  refine ald hC hS (hn _ (by decide)) (by decide) rfl hi dX7_hears_7 ?_
  refine lv_istore_n (lv' := [(2, .int (M.2 32 (4 * x1).toNatClampNeg)), (0, .ref (G.1 61)), (1, .int x1)]) hx hb dX7_hears_8 rfl hl (by decide) rfl (fun ls hl => ?_)
  refine lv_aload_n hx hb dX7_hears_9 rfl (lv_at hl 1 rfl) ?_
  refine gx (ci := 7) (k := 13) (v := .ref (G.1 32)) (C := RX7) (T := TX7) (N := 29) hC hS (hn _ (by decide)) rfl rfl in_X7 (by decide) rfl rfl lf_X7_40 dX7_hears_10 ?_
  refine lv_iconst (v := 4) hx hb dX7_hears_13 (by decide) ?_
  refine lv_iload_n hx hb dX7_hears_14 rfl (lv_at hl 2 rfl) ?_
  refine lv_imul hx hb dX7_hears_15 ?_
  refine lv_iconst (v := 1) hx hb dX7_hears_16 (by decide) ?_
  refine lv_iadd hx hb dX7_hears_17 ?_
  obtain ⟨hi, hF⟩ := ckb_some hF
  refine ald hC hS (hn _ (by decide)) (by decide) rfl hi dX7_hears_18 ?_
  refine lv_istore_n (lv' := [(3, .int (M.2 32 ((4 * x1) + 1).toNatClampNeg)), (2, .int (M.2 32 (4 * x1).toNatClampNeg)), (0, .ref (G.1 61)), (1, .int x1)]) hx hb dX7_hears_19 rfl hl (by decide) rfl (fun ls hl => ?_)
  refine lv_aload_n hx hb dX7_hears_20 rfl (lv_at hl 2 rfl) ?_
  refine gx (ci := 7) (k := 13) (v := .ref (G.1 32)) (C := RX7) (T := TX7) (N := 29) hC hS (hn _ (by decide)) rfl rfl in_X7 (by decide) rfl rfl lf_X7_40 dX7_hears_21 ?_
  refine lv_iconst (v := 4) hx hb dX7_hears_24 (by decide) ?_
  refine lv_iload_n hx hb dX7_hears_25 rfl (lv_at hl 3 rfl) ?_
  refine lv_imul hx hb dX7_hears_26 ?_
  refine lv_iconst (v := 2) hx hb dX7_hears_27 (by decide) ?_
  refine lv_iadd hx hb dX7_hears_28 ?_
  obtain ⟨hi, hF⟩ := ckb_some hF
  refine ald hC hS (hn _ (by decide)) (by decide) rfl hi dX7_hears_29 ?_
  refine lv_iconst (v := 1) hx hb dX7_hears_30 (by decide) ?_
  refine lv_icmp_ne (tgt := 38) hx hb dX7_hears_31 (by decide) (fun hc => ?_) (fun hc => ?_)
  · rw [if_neg hc] at hF
    refine lv_iconst (v := 0) hx hb dX7_hears_38 (by decide) ?_
    exact b_X7_hears_39 hC hr hlk hn _ _ _ _ _ _ _ _ hF hS (lv_sub hl [2, 3, 1, 0] rfl)
  · rw [if_pos hc] at hF
    refine lv_iconst (v := 1) hx hb dX7_hears_34 (by decide) ?_
    refine lv_goto (tgt := 39) hx hb dX7_hears_35 (by decide) ?_
    exact b_X7_hears_39 hC hr hlk hn _ _ _ _ _ _ _ _ hF hS (lv_sub hl [2, 3, 1, 0] rfl)
set_option maxRecDepth 100000 in
theorem c_X7_hears (l : Launch) (G : GT) (hn : ∀ i ∈ LsF, i ∈ gL G) (x1 : Int32) (M : Mem) (M0 : Mem) (hF : F_X7_hears x1 M = some M0) : MetG l G yX7_hears cX7_hears 13 none 1 22 [.ref (G.1 61), .int x1] M none M0 := by
  refine MetG.of (by decide) (Nat.le_of_ble_eq_true rfl) ?_
  intro p e s m args below meth c hC hr hlk hnm ls hS hl
  exact b_X7_hears hC hr hlk hn _ _ _ _ _ hF hS hl
def F_X7_lines_43 (k7 : Int32 → Int32 → Mem → Option Mem) (x1 : Int32) (x2 : Int32) (M : Mem) : Option Mem := k7 x1 (x2 + 1) M
def F_X7_lines_7 : Nat → Int32 → Int32 → Mem → Option Mem
  | 0, _, _, _ => none
  | n + 1, x1, x2, M => if (M.1 40) ≤ x2 then some M else bd (F_X7_has x1 x2 M) (fun r17 M17 => if r17 = 0 then F_X7_lines_43 (F_X7_lines_7 n) x1 x2 M17 else ckb (ix (M17.1 43) 10) (F_X7_lines_43 (F_X7_lines_7 n) x1 x2 (sv (sa M17 33 (M17.1 43).toNatClampNeg x2) 43 (((sa M17 33 (M17.1 43).toNatClampNeg x2).1 43) + 1))))
def F_X7_lines (x1 : Int32) (M : Mem) : Option Mem := F_X7_lines_7 fu x1 0 (sv M 43 0)
set_option maxHeartbeats 4000000 in
set_option maxRecDepth 100000 in
theorem b_X7_lines_43 {k7 : Int32 → Int32 → Mem → Option Mem} {M0 : Mem} (hC : SX p m c s args cX7_lines 3 RX7 G (AG G)) (hr : meth.sig.returnType = none) (hlk : meth.locks = false) (hn : ∀ i ∈ LsF, i ∈ gL G) (hk7 : ∀ (x1 : Int32) (x2 : Int32) (M : Mem) (H : Heap) (locs : List Loc) (ls : Array Slot), k7 x1 x2 M = some M0 → ST G (AG G) s M H locs → lv_has ls 3 [(0, .ref (G.1 61)), (1, .int x1), (2, .int x2)] → W p l e (RM 1 21) s m args below meth c H locs 0 0 (MQ below (QV G none M0) args s 0 0 (AG G)) (F0 m 7 ls [])) : ∀ (x1 : Int32) (x2 : Int32) (M : Mem) (H : Heap) (locs : List Loc) (ls : Array Slot), F_X7_lines_43 k7 x1 x2 M = some M0 → ST G (AG G) s M H locs → lv_has ls 3 [(0, .ref (G.1 61)), (1, .int x1), (2, .int x2)] → W p l e (RM 1 21) s m args below meth c H locs 0 0 (MQ below (QV G none M0) args s 0 0 (AG G)) (F0 m 43 ls []) := by
  obtain ⟨⟨hx, hb, hml, hown, hts⟩, hK, hG, hA⟩ := id hC
  intro x1 x2 M H locs ls hF hS hl
  unfold F_X7_lines_43 at hF
  refine lv_iinc (v := x2 + 1) (lv' := [(2, .int (x2 + 1)), (0, .ref (G.1 61)), (1, .int x1)]) hx hb dX7_lines_43 hl (k := 2) rfl rfl (by decide) rfl (fun ls hl => ?_)
  refine lv_goto (tgt := 7) hx hb dX7_lines_46 (by decide) ?_
  exact hk7 _ _ _ _ _ _ hF hS (lv_sub hl [1, 2, 0] rfl)
set_option maxHeartbeats 4000000 in
set_option maxRecDepth 100000 in
theorem b_X7_lines_7 {M0 : Mem} (hC : SX p m c s args cX7_lines 3 RX7 G (AG G)) (hr : meth.sig.returnType = none) (hlk : meth.locks = false) (hn : ∀ i ∈ LsF, i ∈ gL G) : ∀ (n : Nat) (x1 : Int32) (x2 : Int32) (M : Mem) (H : Heap) (locs : List Loc) (ls : Array Slot), F_X7_lines_7 n x1 x2 M = some M0 → ST G (AG G) s M H locs → lv_has ls 3 [(0, .ref (G.1 61)), (1, .int x1), (2, .int x2)] → W p l e (RM 1 21) s m args below meth c H locs 0 0 (MQ below (QV G none M0) args s 0 0 (AG G)) (F0 m 7 ls []) := by
  obtain ⟨⟨hx, hb, hml, hown, hts⟩, hK, hG, hA⟩ := id hC
  intro n
  induction n with
  | zero =>
    intro x1 x2 M H locs ls hF
    cases hF
  | succ n ih =>
    intro x1 x2 M H locs ls hF hS hl
    unfold F_X7_lines_7 at hF
    refine lv_iload_n hx hb dX7_lines_7 rfl (lv_at hl 2 rfl) ?_
    refine lv_aload_n hx hb dX7_lines_8 rfl (lv_at hl 0 rfl) ?_
    refine gx (ci := 7) (k := 2) (v := .int (M.1 40)) (C := RX7) (T := TX7) (N := 29) hC hS (hn _ (by decide)) rfl rfl in_X7 (by decide) rfl rfl lf_X7_82 dX7_lines_9 ?_
    refine lv_icmp_ge (tgt := 49) hx hb dX7_lines_12 (by decide) (fun hc => ?_) (fun hc => ?_)
    · rw [if_pos hc] at hF
      exact retV hC hS hr hlk hF dX7_lines_49
    · rw [if_neg hc] at hF
      refine lv_iload_n hx hb dX7_lines_15 rfl (lv_at hl 1 rfl) ?_
      refine lv_iload_n hx hb dX7_lines_16 rfl (lv_at hl 2 rfl) ?_
      obtain ⟨r17, M17, h17, hF⟩ := bd_some hF
      refine cS_ (As := [.int x1, .int x2]) (v := some (.int r17)) (rest := []) (st1 := [.int r17]) hC hS (c_X7_has l G hn x1 x2 M _ _ h17) kS_X7_has lm_X7_151 ⟨Nat.le_of_ble_eq_true rfl, Nat.le_of_ble_eq_true rfl⟩ rfl hl.1 (Nat.le_of_ble_eq_true rfl) dX7_lines_17 ⟨Nat.le_refl _, Nat.le_refl _⟩ rfl (fun H locs hS => ?_)
      refine lv_if_eq (tgt := 43) hx hb dX7_lines_20 (by decide) (fun hc => ?_) (fun hc => ?_)
      · rw [if_pos hc] at hF
        exact b_X7_lines_43 hC hr hlk hn ih _ _ _ _ _ _ hF hS (lv_sub hl [0, 1, 2] rfl)
      · rw [if_neg hc] at hF
        refine lv_aload_n hx hb dX7_lines_23 rfl (lv_at hl 0 rfl) ?_
        refine gx (ci := 7) (k := 14) (v := .ref (G.1 33)) (C := RX7) (T := TX7) (N := 29) hC hS (hn _ (by decide)) rfl rfl in_X7 (by decide) rfl rfl lf_X7_43 dX7_lines_24 ?_
        refine lv_aload_n hx hb dX7_lines_27 rfl (lv_at hl 0 rfl) ?_
        refine gx (ci := 7) (k := 15) (v := .int (M17.1 43)) (C := RX7) (T := TX7) (N := 29) hC hS (hn _ (by decide)) rfl rfl in_X7 (by decide) rfl rfl lf_X7_145 dX7_lines_28 ?_
        refine lv_iload_n hx hb dX7_lines_31 rfl (lv_at hl 2 rfl) ?_
        obtain ⟨hi, hF⟩ := ckb_some hF
        refine ast hC hS (hn _ (by decide)) (by decide) rfl hi dX7_lines_32 (fun H locs hS => ?_)
        refine lv_aload_n hx hb dX7_lines_33 rfl (lv_at hl 0 rfl) ?_
        refine lv_dup hx hb dX7_lines_34 rfl ?_
        refine gx (ci := 7) (k := 15) (v := .int ((sa M17 33 (M17.1 43).toNatClampNeg x2).1 43)) (C := RX7) (T := TX7) (N := 29) hC hS (hn _ (by decide)) rfl rfl in_X7 (by decide) rfl rfl lf_X7_145 dX7_lines_35 ?_
        refine lv_iconst (v := 1) hx hb dX7_lines_38 (by decide) ?_
        refine lv_iadd hx hb dX7_lines_39 ?_
        refine px (ci := 7) (k := 15) (n := 43) (ty := .int) (C := RX7) (T := TX7) (N := 29) hC hS (hn _ (by decide)) rfl rfl in_X7 tyX7_ok nmX7 (by decide) rfl rfl (by decide +kernel) rfl rfl (Nat.le_of_ble_eq_true rfl) rfl se_X7_15 lf_X7_145 dX7_lines_40 (fun H locs hS => ?_)
        exact b_X7_lines_43 hC hr hlk hn ih _ _ _ _ _ _ hF hS (lv_sub hl [0, 1, 2] rfl)
set_option maxHeartbeats 4000000 in
set_option maxRecDepth 100000 in
theorem b_X7_lines {M0 : Mem} (hC : SX p m c s args cX7_lines 3 RX7 G (AG G)) (hr : meth.sig.returnType = none) (hlk : meth.locks = false) (hn : ∀ i ∈ LsF, i ∈ gL G) : ∀ (x1 : Int32) (M : Mem) (H : Heap) (locs : List Loc) (ls : Array Slot), F_X7_lines x1 M = some M0 → ST G (AG G) s M H locs → lv_has ls 3 [(0, .ref (G.1 61)), (1, .int x1)] → W p l e (RM 1 21) s m args below meth c H locs 0 0 (MQ below (QV G none M0) args s 0 0 (AG G)) (F0 m 0 ls []) := by
  obtain ⟨⟨hx, hb, hml, hown, hts⟩, hK, hG, hA⟩ := id hC
  intro x1 M H locs ls hF hS hl
  unfold F_X7_lines at hF
  refine lv_aload_n hx hb dX7_lines_0 rfl (lv_at hl 0 rfl) ?_
  refine lv_iconst (v := 0) hx hb dX7_lines_1 (by decide) ?_
  refine px (ci := 7) (k := 15) (n := 43) (ty := .int) (C := RX7) (T := TX7) (N := 29) hC hS (hn _ (by decide)) rfl rfl in_X7 tyX7_ok nmX7 (by decide) rfl rfl (by decide +kernel) rfl rfl (Nat.le_of_ble_eq_true rfl) rfl se_X7_15 lf_X7_145 dX7_lines_2 (fun H locs hS => ?_)
  refine lv_iconst (v := 0) hx hb dX7_lines_5 (by decide) ?_
  refine lv_istore_n (lv' := [(2, .int 0), (0, .ref (G.1 61)), (1, .int x1)]) hx hb dX7_lines_6 rfl hl (by decide) rfl (fun ls hl => ?_)
  exact b_X7_lines_7 hC hr hlk hn fu _ _ _ _ _ _ hF hS (lv_sub hl [1, 2, 0] rfl)
set_option maxRecDepth 100000 in
theorem c_X7_lines (l : Launch) (G : GT) (hn : ∀ i ∈ LsF, i ∈ gL G) (x1 : Int32) (M : Mem) (M0 : Mem) (hF : F_X7_lines x1 M = some M0) : MetG l G yX7_lines cX7_lines 3 none 1 21 [.ref (G.1 61), .int x1] M none M0 := by
  refine MetG.of (by decide) (Nat.le_of_ble_eq_true rfl) ?_
  intro p e s m args below meth c hC hr hlk hnm ls hS hl
  exact b_X7_lines hC hr hlk hn _ _ _ _ _ hF hS hl
def F_X7_tells (x1 : Int32) (M : Mem) : Option (Int32 × Mem) := if x1 = 0 then some (M.1 44, M) else if x1 = 1 then some (M.1 45, M) else some (M.1 46, M)
set_option maxHeartbeats 4000000 in
set_option maxRecDepth 100000 in
theorem b_X7_tells {M0 : Mem} {r0 : Int32} (hC : SX p m c s args cX7_tells 2 RX7 G (AG G)) (hr : meth.sig.returnType = (some .int)) (hlk : meth.locks = false) (hn : ∀ i ∈ LsF, i ∈ gL G) : ∀ (x1 : Int32) (M : Mem) (H : Heap) (locs : List Loc) (ls : Array Slot), F_X7_tells x1 M = some (r0, M0) → ST G (AG G) s M H locs → lv_has ls 2 [(0, .ref (G.1 61)), (1, .int x1)] → W p l e (RM 0 0) s m args below meth c H locs 0 0 (MQ below (QV G (some (.int r0)) M0) args s 0 0 (AG G)) (F0 m 0 ls []) := by
  obtain ⟨⟨hx, hb, hml, hown, hts⟩, hK, hG, hA⟩ := id hC
  intro x1 M H locs ls hF hS hl
  unfold F_X7_tells at hF
  refine lv_iload_n hx hb dX7_tells_0 rfl (lv_at hl 1 rfl) ?_
  refine lv_if_ne (tgt := 11) hx hb dX7_tells_1 (by decide) (fun hc => ?_) (fun hc => ?_)
  · rw [if_neg hc] at hF
    refine lv_iload_n hx hb dX7_tells_11 rfl (lv_at hl 1 rfl) ?_
    refine lv_iconst (v := 1) hx hb dX7_tells_12 (by decide) ?_
    refine lv_icmp_ne (tgt := 23) hx hb dX7_tells_13 (by decide) (fun hc => ?_) (fun hc => ?_)
    · rw [if_neg hc] at hF
      refine lv_aload_n hx hb dX7_tells_23 rfl (lv_at hl 0 rfl) ?_
      refine gx (ci := 7) (k := 18) (v := .int (M.1 46)) (C := RX7) (T := TX7) (N := 29) hC hS (hn _ (by decide)) rfl rfl in_X7 (by decide) rfl rfl lf_X7_142 dX7_tells_24 ?_
      exact retI hC hS hr hlk hF dX7_tells_27
    · rw [if_pos hc] at hF
      refine lv_aload_n hx hb dX7_tells_16 rfl (lv_at hl 0 rfl) ?_
      refine gx (ci := 7) (k := 17) (v := .int (M.1 45)) (C := RX7) (T := TX7) (N := 29) hC hS (hn _ (by decide)) rfl rfl in_X7 (by decide) rfl rfl lf_X7_139 dX7_tells_17 ?_
      refine lv_goto (tgt := 27) hx hb dX7_tells_20 (by decide) ?_
      exact retI hC hS hr hlk hF dX7_tells_27
  · rw [if_pos hc] at hF
    refine lv_aload_n hx hb dX7_tells_4 rfl (lv_at hl 0 rfl) ?_
    refine gx (ci := 7) (k := 16) (v := .int (M.1 44)) (C := RX7) (T := TX7) (N := 29) hC hS (hn _ (by decide)) rfl rfl in_X7 (by decide) rfl rfl lf_X7_136 dX7_tells_5 ?_
    refine lv_goto (tgt := 27) hx hb dX7_tells_8 (by decide) ?_
    exact retI hC hS hr hlk hF dX7_tells_27
set_option maxRecDepth 100000 in
theorem c_X7_tells (l : Launch) (G : GT) (hn : ∀ i ∈ LsF, i ∈ gL G) (x1 : Int32) (M : Mem) (r0 : Int32) (M0 : Mem) (hF : F_X7_tells x1 M = some (r0, M0)) : MetG l G yX7_tells cX7_tells 2 (some .int) 0 0 [.ref (G.1 61), .int x1] M (some (.int r0)) M0 := by
  refine MetG.of (by decide) (Nat.le_of_ble_eq_true rfl) ?_
  intro p e s m args below meth c hC hr hlk hnm ls hS hl
  exact b_X7_tells hC hr hlk hn _ _ _ _ _ hF hS hl
def F_X7_hearsAll (x1 : Int32) (M : Mem) : Option Mem := bdv (F_X7_reads x1 M) (fun M2 => bdv (F_X7_laysPossible M2) (fun M6 => bd (F_X7_heardOnes M6) (fun r11 M11 => bdv (F_X7_lines r11 M11) (fun M14 => bdv (F_X7_hears x1 M14) (fun M19 => some M19)))))
set_option maxHeartbeats 4000000 in
set_option maxRecDepth 100000 in
theorem b_X7_hearsAll {M0 : Mem} (hC : SX p m c s args cX7_hearsAll 2 RX7 G (AG G)) (hr : meth.sig.returnType = none) (hlk : meth.locks = false) (hn : ∀ i ∈ LsF, i ∈ gL G) : ∀ (x1 : Int32) (M : Mem) (H : Heap) (locs : List Loc) (ls : Array Slot), F_X7_hearsAll x1 M = some M0 → ST G (AG G) s M H locs → lv_has ls 2 [(0, .ref (G.1 61)), (1, .int x1)] → W p l e (RM 3 68) s m args below meth c H locs 0 0 (MQ below (QV G none M0) args s 0 0 (AG G)) (F0 m 0 ls []) := by
  obtain ⟨⟨hx, hb, hml, hown, hts⟩, hK, hG, hA⟩ := id hC
  intro x1 M H locs ls hF hS hl
  unfold F_X7_hearsAll at hF
  refine lv_aload_n hx hb dX7_hearsAll_0 rfl (lv_at hl 0 rfl) ?_
  refine lv_iload_n hx hb dX7_hearsAll_1 rfl (lv_at hl 1 rfl) ?_
  obtain ⟨M2, h2, hF⟩ := bdv_some hF
  refine cV_ (ci := 7) (i := 61) (C := RX7) (T := TX7) (N := 29) (As := [.int x1]) (v := none) (rest := []) (st1 := []) hC hS (hn _ (by decide)) rfl rfl (c_X7_reads l G hn x1 M _ h2) kV_X7_reads lm_X7_133 ⟨Nat.le_of_ble_eq_true rfl, Nat.le_of_ble_eq_true rfl⟩ rfl hl.1 (Nat.le_of_ble_eq_true rfl) dX7_hearsAll_2 ⟨Nat.le_refl _, Nat.le_refl _⟩ rfl (fun H locs hS => ?_)
  refine lv_aload_n hx hb dX7_hearsAll_5 rfl (lv_at hl 0 rfl) ?_
  obtain ⟨M6, h6, hF⟩ := bdv_some hF
  refine cV_ (ci := 7) (i := 61) (C := RX7) (T := TX7) (N := 29) (As := []) (v := none) (rest := []) (st1 := []) hC hS (hn _ (by decide)) rfl rfl (c_X7_laysPossible l G hn M2 _ h6) kV_X7_laysPossible lm_X7_114 ⟨Nat.le_of_ble_eq_true rfl, Nat.le_of_ble_eq_true rfl⟩ rfl hl.1 (Nat.le_of_ble_eq_true rfl) dX7_hearsAll_6 ⟨Nat.le_refl _, Nat.le_refl _⟩ rfl (fun H locs hS => ?_)
  refine lv_aload_n hx hb dX7_hearsAll_9 rfl (lv_at hl 0 rfl) ?_
  refine lv_aload_n hx hb dX7_hearsAll_10 rfl (lv_at hl 0 rfl) ?_
  obtain ⟨r11, M11, h11, hF⟩ := bd_some hF
  refine cV_ (ci := 7) (i := 61) (C := RX7) (T := TX7) (N := 29) (As := []) (v := some (.int r11)) (rest := [.ref (G.1 61)]) (st1 := [.int r11, .ref (G.1 61)]) hC hS (hn _ (by decide)) rfl rfl (c_X7_heardOnes l G hn M6 _ _ h11) kV_X7_heardOnes lm_X7_162 ⟨Nat.le_of_ble_eq_true rfl, Nat.le_of_ble_eq_true rfl⟩ rfl hl.1 (Nat.le_of_ble_eq_true rfl) dX7_hearsAll_11 ⟨Nat.le_refl _, Nat.le_refl _⟩ rfl (fun H locs hS => ?_)
  obtain ⟨M14, h14, hF⟩ := bdv_some hF
  refine cV_ (ci := 7) (i := 61) (C := RX7) (T := TX7) (N := 29) (As := [.int r11]) (v := none) (rest := []) (st1 := []) hC hS (hn _ (by decide)) rfl rfl (c_X7_lines l G hn r11 M11 _ h14) kV_X7_lines lm_X7_165 ⟨Nat.le_of_ble_eq_true rfl, Nat.le_of_ble_eq_true rfl⟩ rfl hl.1 (Nat.le_of_ble_eq_true rfl) dX7_hearsAll_14 ⟨Nat.le_refl _, Nat.le_refl _⟩ rfl (fun H locs hS => ?_)
  refine lv_aload_n hx hb dX7_hearsAll_17 rfl (lv_at hl 0 rfl) ?_
  refine lv_iload_n hx hb dX7_hearsAll_18 rfl (lv_at hl 1 rfl) ?_
  obtain ⟨M19, h19, hF⟩ := bdv_some hF
  refine cV_ (ci := 7) (i := 61) (C := RX7) (T := TX7) (N := 29) (As := [.int x1]) (v := none) (rest := []) (st1 := []) hC hS (hn _ (by decide)) rfl rfl (c_X7_hears l G hn x1 M14 _ h19) kV_X7_hears lm_X7_168 ⟨Nat.le_of_ble_eq_true rfl, Nat.le_of_ble_eq_true rfl⟩ rfl hl.1 (Nat.le_of_ble_eq_true rfl) dX7_hearsAll_19 ⟨Nat.le_refl _, Nat.le_refl _⟩ rfl (fun H locs hS => ?_)
  exact retV hC hS hr hlk hF dX7_hearsAll_22
set_option maxRecDepth 100000 in
theorem c_X7_hearsAll (l : Launch) (G : GT) (hn : ∀ i ∈ LsF, i ∈ gL G) (x1 : Int32) (M : Mem) (M0 : Mem) (hF : F_X7_hearsAll x1 M = some M0) : MetG l G yX7_hearsAll cX7_hearsAll 2 none 3 68 [.ref (G.1 61), .int x1] M none M0 := by
  refine MetG.of (by decide) (Nat.le_of_ble_eq_true rfl) ?_
  intro p e s m args below meth c hC hr hlk hnm ls hS hl
  exact b_X7_hearsAll hC hr hlk hn _ _ _ _ _ hF hS hl
def F_X7_heardNow (x1 : Int32) (x2 : Int32) (M : Mem) : Option (Int32 × Mem) := bdv (F_X7_hearsAll x1 M) (fun M2 => bd (F_X7_tells x2 M2) (fun r7 M7 => some (r7, M7)))
set_option maxHeartbeats 4000000 in
set_option maxRecDepth 100000 in
theorem b_X7_heardNow {M0 : Mem} {r0 : Int32} (hC : SX p m c s args cX7_heardNow 3 RX7 G (AG G)) (hr : meth.sig.returnType = (some .int)) (hlk : meth.locks = false) (hn : ∀ i ∈ LsF, i ∈ gL G) : ∀ (x1 : Int32) (x2 : Int32) (M : Mem) (H : Heap) (locs : List Loc) (ls : Array Slot), F_X7_heardNow x1 x2 M = some (r0, M0) → ST G (AG G) s M H locs → lv_has ls 3 [(0, .ref (G.1 61)), (1, .int x1), (2, .int x2)] → W p l e (RM 4 89) s m args below meth c H locs 0 0 (MQ below (QV G (some (.int r0)) M0) args s 0 0 (AG G)) (F0 m 0 ls []) := by
  obtain ⟨⟨hx, hb, hml, hown, hts⟩, hK, hG, hA⟩ := id hC
  intro x1 x2 M H locs ls hF hS hl
  unfold F_X7_heardNow at hF
  refine lv_aload_n hx hb dX7_heardNow_0 rfl (lv_at hl 0 rfl) ?_
  refine lv_iload_n hx hb dX7_heardNow_1 rfl (lv_at hl 1 rfl) ?_
  obtain ⟨M2, h2, hF⟩ := bdv_some hF
  refine cV_ (ci := 7) (i := 61) (C := RX7) (T := TX7) (N := 29) (As := [.int x1]) (v := none) (rest := []) (st1 := []) hC hS (hn _ (by decide)) rfl rfl (c_X7_hearsAll l G hn x1 M _ h2) kV_X7_hearsAll lm_X7_171 ⟨Nat.le_of_ble_eq_true rfl, Nat.le_of_ble_eq_true rfl⟩ rfl hl.1 (Nat.le_of_ble_eq_true rfl) dX7_heardNow_2 ⟨Nat.le_refl _, Nat.le_refl _⟩ rfl (fun H locs hS => ?_)
  refine lv_aload_n hx hb dX7_heardNow_5 rfl (lv_at hl 0 rfl) ?_
  refine lv_iload_n hx hb dX7_heardNow_6 rfl (lv_at hl 2 rfl) ?_
  obtain ⟨r7, M7, h7, hF⟩ := bd_some hF
  refine cV_ (ci := 7) (i := 61) (C := RX7) (T := TX7) (N := 29) (As := [.int x2]) (v := some (.int r7)) (rest := []) (st1 := [.int r7]) hC hS (hn _ (by decide)) rfl rfl (c_X7_tells l G hn x2 M2 _ _ h7) kV_X7_tells lm_X7_174 ⟨Nat.le_of_ble_eq_true rfl, Nat.le_of_ble_eq_true rfl⟩ rfl hl.1 (Nat.le_of_ble_eq_true rfl) dX7_heardNow_7 ⟨Nat.le_refl _, Nat.le_refl _⟩ rfl (fun H locs hS => ?_)
  exact retI hC hS hr hlk hF dX7_heardNow_10
set_option maxRecDepth 100000 in
theorem c_X7_heardNow (l : Launch) (G : GT) (hn : ∀ i ∈ LsF, i ∈ gL G) (x1 : Int32) (x2 : Int32) (M : Mem) (r0 : Int32) (M0 : Mem) (hF : F_X7_heardNow x1 x2 M = some (r0, M0)) : MetG l G yX7_heardNow cX7_heardNow 3 (some .int) 4 89 [.ref (G.1 61), .int x1, .int x2] M (some (.int r0)) M0 := by
  refine MetG.of (by decide) (Nat.le_of_ble_eq_true rfl) ?_
  intro p e s m args below meth c hC hr hlk hnm ls hS hl
  exact b_X7_heardNow hC hr hlk hn _ _ _ _ _ _ hF hS hl
def F_X7_heard_25 (M : Mem) : Option (Int32 × Mem) := some ((-2), M)
def F_X7_heard (x1 : Int32) (x2 : Int32) (M : Mem) : Option (Int32 × Mem) := bd (F_X7_isLaw x1 M) (fun r1 M1 => if r1 = 0 then F_X7_heard_25 M1 else bd (F_X7_in x2 0 2 M1) (fun r10 M10 => if r10 = 0 then F_X7_heard_25 M10 else bd (F_X7_heardNow x1 x2 M10) (fun r19 M19 => some (r19, M19))))
set_option maxHeartbeats 4000000 in
set_option maxRecDepth 100000 in
theorem b_X7_heard_25 {M0 : Mem} {r0 : Int32} (hC : SX p m c s args cX7_heard 3 RX7 G (AG G)) (hr : meth.sig.returnType = (some .int)) (hlk : meth.locks = false) (hn : ∀ i ∈ LsF, i ∈ gL G) : ∀ (M : Mem) (H : Heap) (locs : List Loc) (ls : Array Slot), F_X7_heard_25 M = some (r0, M0) → ST G (AG G) s M H locs → lv_has ls 3 [] → W p l e (RM 5 111) s m args below meth c H locs 0 0 (MQ below (QV G (some (.int r0)) M0) args s 0 0 (AG G)) (F0 m 25 ls []) := by
  obtain ⟨⟨hx, hb, hml, hown, hts⟩, hK, hG, hA⟩ := id hC
  intro M H locs ls hF hS hl
  unfold F_X7_heard_25 at hF
  refine lv_bipush (v := (-2)) hx hb dX7_heard_25 (by decide) ?_
  exact retI hC hS hr hlk hF dX7_heard_27
set_option maxHeartbeats 4000000 in
set_option maxRecDepth 100000 in
theorem b_X7_heard {M0 : Mem} {r0 : Int32} (hC : SX p m c s args cX7_heard 3 RX7 G (AG G)) (hr : meth.sig.returnType = (some .int)) (hlk : meth.locks = false) (hn : ∀ i ∈ LsF, i ∈ gL G) : ∀ (x1 : Int32) (x2 : Int32) (M : Mem) (H : Heap) (locs : List Loc) (ls : Array Slot), F_X7_heard x1 x2 M = some (r0, M0) → ST G (AG G) s M H locs → lv_has ls 3 [(0, .ref (G.1 61)), (1, .int x1), (2, .int x2)] → W p l e (RM 5 111) s m args below meth c H locs 0 0 (MQ below (QV G (some (.int r0)) M0) args s 0 0 (AG G)) (F0 m 0 ls []) := by
  obtain ⟨⟨hx, hb, hml, hown, hts⟩, hK, hG, hA⟩ := id hC
  intro x1 x2 M H locs ls hF hS hl
  unfold F_X7_heard at hF
  refine lv_iload_n hx hb dX7_heard_0 rfl (lv_at hl 1 rfl) ?_
  obtain ⟨r1, M1, h1, hF⟩ := bd_some hF
  refine cS_ (As := [.int x1]) (v := some (.int r1)) (rest := []) (st1 := [.int r1]) hC hS (c_X7_isLaw l G hn x1 M _ _ h1) kS_X7_isLaw lm_X7_120 ⟨Nat.le_of_ble_eq_true rfl, Nat.le_of_ble_eq_true rfl⟩ rfl hl.1 (Nat.le_of_ble_eq_true rfl) dX7_heard_1 ⟨Nat.le_refl _, Nat.le_refl _⟩ rfl (fun H locs hS => ?_)
  refine lv_if_eq (tgt := 25) hx hb dX7_heard_4 (by decide) (fun hc => ?_) (fun hc => ?_)
  · rw [if_pos hc] at hF
    exact b_X7_heard_25 hC hr hlk hn _ _ _ _ hF hS (lv_sub hl [] rfl)
  · rw [if_neg hc] at hF
    refine lv_iload_n hx hb dX7_heard_7 rfl (lv_at hl 2 rfl) ?_
    refine lv_iconst (v := 0) hx hb dX7_heard_8 (by decide) ?_
    refine lv_iconst (v := 2) hx hb dX7_heard_9 (by decide) ?_
    obtain ⟨r10, M10, h10, hF⟩ := bd_some hF
    refine cS_ (As := [.int x2, .int 0, .int 2]) (v := some (.int r10)) (rest := []) (st1 := [.int r10]) hC hS (c_X7_in l G hn x2 0 2 M1 _ _ h10) kS_X7_in lm_X7_71 ⟨Nat.le_of_ble_eq_true rfl, Nat.le_of_ble_eq_true rfl⟩ rfl hl.1 (Nat.le_of_ble_eq_true rfl) dX7_heard_10 ⟨Nat.le_refl _, Nat.le_refl _⟩ rfl (fun H locs hS => ?_)
    refine lv_if_eq (tgt := 25) hx hb dX7_heard_13 (by decide) (fun hc => ?_) (fun hc => ?_)
    · rw [if_pos hc] at hF
      exact b_X7_heard_25 hC hr hlk hn _ _ _ _ hF hS (lv_sub hl [] rfl)
    · rw [if_neg hc] at hF
      refine lv_aload_n hx hb dX7_heard_16 rfl (lv_at hl 0 rfl) ?_
      refine lv_iload_n hx hb dX7_heard_17 rfl (lv_at hl 1 rfl) ?_
      refine lv_iload_n hx hb dX7_heard_18 rfl (lv_at hl 2 rfl) ?_
      obtain ⟨r19, M19, h19, hF⟩ := bd_some hF
      refine cV_ (ci := 7) (i := 61) (C := RX7) (T := TX7) (N := 29) (As := [.int x1, .int x2]) (v := some (.int r19)) (rest := []) (st1 := [.int r19]) hC hS (hn _ (by decide)) rfl rfl (c_X7_heardNow l G hn x1 x2 M10 _ _ h19) kV_X7_heardNow lm_X7_177 ⟨Nat.le_of_ble_eq_true rfl, Nat.le_of_ble_eq_true rfl⟩ rfl hl.1 (Nat.le_of_ble_eq_true rfl) dX7_heard_19 ⟨Nat.le_refl _, Nat.le_refl _⟩ rfl (fun H locs hS => ?_)
      refine lv_goto (tgt := 27) hx hb dX7_heard_22 (by decide) ?_
      exact retI hC hS hr hlk hF dX7_heard_27
set_option maxRecDepth 100000 in
theorem c_X7_heard (l : Launch) (G : GT) (hn : ∀ i ∈ LsF, i ∈ gL G) (x1 : Int32) (x2 : Int32) (M : Mem) (r0 : Int32) (M0 : Mem) (hF : F_X7_heard x1 x2 M = some (r0, M0)) : MetG l G yX7_heard cX7_heard 3 (some .int) 5 111 [.ref (G.1 61), .int x1, .int x2] M (some (.int r0)) M0 := by
  refine MetG.of (by decide) (Nat.le_of_ble_eq_true rfl) ?_
  intro p e s m args below meth c hC hr hlk hnm ls hS hl
  exact b_X7_heard hC hr hlk hn _ _ _ _ _ _ hF hS hl
def F_X7_ordered_47 : Nat → Int32 → Int32 → Int32 → Int32 → Int32 → Mem → Option (Int32 × Mem)
  | 0, _, _, _, _, _, _ => none
  | n + 1, x1, x2, x3, x4, x5, M => ckb (ix x2 4) (if (M.2 39 x2.toNatClampNeg) ≤ x5 then ckb (ix x2 4) (bdv (F_X7_reads x1 (sv M 43 (M.2 39 x2.toNatClampNeg))) (fun M142 => bdv (F_X7_laysPossible M142) (fun M146 => bdv (F_X7_hears x1 M146) (fun M151 => bd (F_X7_tells x3 M151) (fun r156 M156 => some (r156, M156)))))) else ckb (ix ((40 * x2) + x5) 160) (bd (F_X7_isWord (M.2 40 ((40 * x2) + x5).toNatClampNeg) M) (fun r75 M75 => if r75 = 0 then some ((-3), M75) else bd (F_X7_has (M75.1 41) (M.2 40 ((40 * x2) + x5).toNatClampNeg) M75) (fun r87 M87 => if r87 = 0 then bd (F_X7_has x4 (M.2 40 ((40 * x2) + x5).toNatClampNeg) M87) (fun r97 M97 => if r97 = 0 then ckb (ix x5 10) (F_X7_ordered_47 n x1 x2 x3 (x4 ||| ((1 : Int32) <<< ((M.2 40 ((40 * x2) + x5).toNatClampNeg) &&& 31))) (x5 + 1) (sa M97 33 x5.toNatClampNeg (M.2 40 ((40 * x2) + x5).toNatClampNeg))) else some ((-3), M97)) else some ((-3), M87)))))
def F_X7_ordered (x1 : Int32) (x2 : Int32) (x3 : Int32) (M : Mem) : Option (Int32 × Mem) := bd (F_X7_isLaw x1 M) (fun r1 M1 => if r1 = 0 then some ((-2), M1) else bd (F_X7_isSheet x2 M1) (fun r8 M8 => if r8 = 0 then some ((-2), M8) else bd (F_X7_in x3 0 2 M8) (fun r17 M17 => if r17 = 0 then some ((-2), M17) else ckb (ix x2 4) (if (M17.2 37 x2.toNatClampNeg) = 0 then bd (F_X7_meets 1 M17) (fun r37 M37 => some (r37, M37)) else F_X7_ordered_47 fu x1 x2 x3 0 0 M17))))
set_option maxHeartbeats 4000000 in
set_option maxRecDepth 100000 in
theorem b_X7_ordered_47 {M0 : Mem} {r0 : Int32} (hC : SX p m c s args cX7_ordered 7 RX7 G (AG G)) (hr : meth.sig.returnType = (some .int)) (hlk : meth.locks = false) (hn : ∀ i ∈ LsF, i ∈ gL G) : ∀ (n : Nat) (x1 : Int32) (x2 : Int32) (x3 : Int32) (x4 : Int32) (x5 : Int32) (M : Mem) (H : Heap) (locs : List Loc) (ls : Array Slot), F_X7_ordered_47 n x1 x2 x3 x4 x5 M = some (r0, M0) → ST G (AG G) s M H locs → lv_has ls 7 [(0, .ref (G.1 61)), (1, .int x1), (2, .int x2), (3, .int x3), (4, .int x4), (5, .int x5)] → W p l e (RM 3 68) s m args below meth c H locs 0 0 (MQ below (QV G (some (.int r0)) M0) args s 0 0 (AG G)) (F0 m 47 ls []) := by
  obtain ⟨⟨hx, hb, hml, hown, hts⟩, hK, hG, hA⟩ := id hC
  intro n
  induction n with
  | zero =>
    intro x1 x2 x3 x4 x5 M H locs ls hF
    cases hF
  | succ n ih =>
    intro x1 x2 x3 x4 x5 M H locs ls hF hS hl
    unfold F_X7_ordered_47 at hF
    refine lv_iload hx hb dX7_ordered_47 (lv_at hl 5 rfl) ?_
    refine lv_aload_n hx hb dX7_ordered_49 rfl (lv_at hl 0 rfl) ?_
    refine gx (ci := 7) (k := 25) (v := .ref (G.1 39)) (C := RX7) (T := TX7) (N := 29) hC hS (hn _ (by decide)) rfl rfl in_X7 (by decide) rfl rfl lf_X7_62 dX7_ordered_50 ?_
    refine lv_iload_n hx hb dX7_ordered_53 rfl (lv_at hl 2 rfl) ?_
    obtain ⟨hi, hF⟩ := ckb_some hF
    refine ald hC hS (hn _ (by decide)) (by decide) rfl hi dX7_ordered_54 ?_
    refine lv_icmp_ge (tgt := 130) hx hb dX7_ordered_55 (by decide) (fun hc => ?_) (fun hc => ?_)
    · rw [if_pos hc] at hF
      refine lv_aload_n hx hb dX7_ordered_130 rfl (lv_at hl 0 rfl) ?_
      refine lv_aload_n hx hb dX7_ordered_131 rfl (lv_at hl 0 rfl) ?_
      refine gx (ci := 7) (k := 25) (v := .ref (G.1 39)) (C := RX7) (T := TX7) (N := 29) hC hS (hn _ (by decide)) rfl rfl in_X7 (by decide) rfl rfl lf_X7_62 dX7_ordered_132 ?_
      refine lv_iload_n hx hb dX7_ordered_135 rfl (lv_at hl 2 rfl) ?_
      obtain ⟨hi, hF⟩ := ckb_some hF
      refine ald hC hS (hn _ (by decide)) (by decide) rfl hi dX7_ordered_136 ?_
      refine px (ci := 7) (k := 15) (n := 43) (ty := .int) (C := RX7) (T := TX7) (N := 29) hC hS (hn _ (by decide)) rfl rfl in_X7 tyX7_ok nmX7 (by decide) rfl rfl (by decide +kernel) rfl rfl (Nat.le_of_ble_eq_true rfl) rfl se_X7_15 lf_X7_145 dX7_ordered_137 (fun H locs hS => ?_)
      refine lv_aload_n hx hb dX7_ordered_140 rfl (lv_at hl 0 rfl) ?_
      refine lv_iload_n hx hb dX7_ordered_141 rfl (lv_at hl 1 rfl) ?_
      obtain ⟨M142, h142, hF⟩ := bdv_some hF
      refine cV_ (ci := 7) (i := 61) (C := RX7) (T := TX7) (N := 29) (As := [.int x1]) (v := none) (rest := []) (st1 := []) hC hS (hn _ (by decide)) rfl rfl (c_X7_reads l G hn x1 (sv M 43 (M.2 39 x2.toNatClampNeg)) _ h142) kV_X7_reads lm_X7_133 ⟨Nat.le_of_ble_eq_true rfl, Nat.le_of_ble_eq_true rfl⟩ rfl hl.1 (Nat.le_of_ble_eq_true rfl) dX7_ordered_142 ⟨Nat.le_refl _, Nat.le_refl _⟩ rfl (fun H locs hS => ?_)
      refine lv_aload_n hx hb dX7_ordered_145 rfl (lv_at hl 0 rfl) ?_
      obtain ⟨M146, h146, hF⟩ := bdv_some hF
      refine cV_ (ci := 7) (i := 61) (C := RX7) (T := TX7) (N := 29) (As := []) (v := none) (rest := []) (st1 := []) hC hS (hn _ (by decide)) rfl rfl (c_X7_laysPossible l G hn M142 _ h146) kV_X7_laysPossible lm_X7_114 ⟨Nat.le_of_ble_eq_true rfl, Nat.le_of_ble_eq_true rfl⟩ rfl hl.1 (Nat.le_of_ble_eq_true rfl) dX7_ordered_146 ⟨Nat.le_refl _, Nat.le_refl _⟩ rfl (fun H locs hS => ?_)
      refine lv_aload_n hx hb dX7_ordered_149 rfl (lv_at hl 0 rfl) ?_
      refine lv_iload_n hx hb dX7_ordered_150 rfl (lv_at hl 1 rfl) ?_
      obtain ⟨M151, h151, hF⟩ := bdv_some hF
      refine cV_ (ci := 7) (i := 61) (C := RX7) (T := TX7) (N := 29) (As := [.int x1]) (v := none) (rest := []) (st1 := []) hC hS (hn _ (by decide)) rfl rfl (c_X7_hears l G hn x1 M146 _ h151) kV_X7_hears lm_X7_168 ⟨Nat.le_of_ble_eq_true rfl, Nat.le_of_ble_eq_true rfl⟩ rfl hl.1 (Nat.le_of_ble_eq_true rfl) dX7_ordered_151 ⟨Nat.le_refl _, Nat.le_refl _⟩ rfl (fun H locs hS => ?_)
      refine lv_aload_n hx hb dX7_ordered_154 rfl (lv_at hl 0 rfl) ?_
      refine lv_iload_n hx hb dX7_ordered_155 rfl (lv_at hl 3 rfl) ?_
      obtain ⟨r156, M156, h156, hF⟩ := bd_some hF
      refine cV_ (ci := 7) (i := 61) (C := RX7) (T := TX7) (N := 29) (As := [.int x3]) (v := some (.int r156)) (rest := []) (st1 := [.int r156]) hC hS (hn _ (by decide)) rfl rfl (c_X7_tells l G hn x3 M151 _ _ h156) kV_X7_tells lm_X7_174 ⟨Nat.le_of_ble_eq_true rfl, Nat.le_of_ble_eq_true rfl⟩ rfl hl.1 (Nat.le_of_ble_eq_true rfl) dX7_ordered_156 ⟨Nat.le_refl _, Nat.le_refl _⟩ rfl (fun H locs hS => ?_)
      exact retI hC hS hr hlk hF dX7_ordered_159
    · rw [if_neg hc] at hF
      refine lv_aload_n hx hb dX7_ordered_58 rfl (lv_at hl 0 rfl) ?_
      refine gx (ci := 7) (k := 26) (v := .ref (G.1 40)) (C := RX7) (T := TX7) (N := 29) hC hS (hn _ (by decide)) rfl rfl in_X7 (by decide) rfl rfl lf_X7_65 dX7_ordered_59 ?_
      refine lv_bipush (v := 40) hx hb dX7_ordered_62 (by decide) ?_
      refine lv_iload_n hx hb dX7_ordered_64 rfl (lv_at hl 2 rfl) ?_
      refine lv_imul hx hb dX7_ordered_65 ?_
      refine lv_iload hx hb dX7_ordered_66 (lv_at hl 5 rfl) ?_
      refine lv_iadd hx hb dX7_ordered_68 ?_
      obtain ⟨hi, hF⟩ := ckb_some hF
      refine ald hC hS (hn _ (by decide)) (by decide) rfl hi dX7_ordered_69 ?_
      refine lv_istore (lv' := [(6, .int (M.2 40 ((40 * x2) + x5).toNatClampNeg)), (0, .ref (G.1 61)), (1, .int x1), (2, .int x2), (3, .int x3), (4, .int x4), (5, .int x5)]) hx hb dX7_ordered_70 hl (by decide) rfl (fun ls hl => ?_)
      refine lv_aload_n hx hb dX7_ordered_72 rfl (lv_at hl 1 rfl) ?_
      refine lv_iload hx hb dX7_ordered_73 (lv_at hl 0 rfl) ?_
      obtain ⟨r75, M75, h75, hF⟩ := bd_some hF
      refine cV_ (ci := 7) (i := 61) (C := RX7) (T := TX7) (N := 29) (As := [.int (M.2 40 ((40 * x2) + x5).toNatClampNeg)]) (v := some (.int r75)) (rest := []) (st1 := [.int r75]) hC hS (hn _ (by decide)) rfl rfl (c_X7_isWord l G hn (M.2 40 ((40 * x2) + x5).toNatClampNeg) M _ _ h75) kV_X7_isWord lm_X7_111 ⟨Nat.le_of_ble_eq_true rfl, Nat.le_of_ble_eq_true rfl⟩ rfl hl.1 (Nat.le_of_ble_eq_true rfl) dX7_ordered_75 ⟨Nat.le_refl _, Nat.le_refl _⟩ rfl (fun H locs hS => ?_)
      refine lv_if_eq (tgt := 103) hx hb dX7_ordered_78 (by decide) (fun hc => ?_) (fun hc => ?_)
      · rw [if_pos hc] at hF
        refine lv_bipush (v := (-3)) hx hb dX7_ordered_103 (by decide) ?_
        exact retI hC hS hr hlk hF dX7_ordered_105
      · rw [if_neg hc] at hF
        refine lv_aload_n hx hb dX7_ordered_81 rfl (lv_at hl 1 rfl) ?_
        refine gx (ci := 7) (k := 8) (v := .int (M75.1 41)) (C := RX7) (T := TX7) (N := 29) hC hS (hn _ (by decide)) rfl rfl in_X7 (by decide) rfl rfl lf_X7_101 dX7_ordered_82 ?_
        refine lv_iload hx hb dX7_ordered_85 (lv_at hl 0 rfl) ?_
        obtain ⟨r87, M87, h87, hF⟩ := bd_some hF
        refine cS_ (As := [.int (M75.1 41), .int (M.2 40 ((40 * x2) + x5).toNatClampNeg)]) (v := some (.int r87)) (rest := []) (st1 := [.int r87]) hC hS (c_X7_has l G hn (M75.1 41) (M.2 40 ((40 * x2) + x5).toNatClampNeg) M75 _ _ h87) kS_X7_has lm_X7_151 ⟨Nat.le_of_ble_eq_true rfl, Nat.le_of_ble_eq_true rfl⟩ rfl hl.1 (Nat.le_of_ble_eq_true rfl) dX7_ordered_87 ⟨Nat.le_refl _, Nat.le_refl _⟩ rfl (fun H locs hS => ?_)
        refine lv_if_ne (tgt := 103) hx hb dX7_ordered_90 (by decide) (fun hc => ?_) (fun hc => ?_)
        · rw [if_neg hc] at hF
          refine lv_bipush (v := (-3)) hx hb dX7_ordered_103 (by decide) ?_
          exact retI hC hS hr hlk hF dX7_ordered_105
        · rw [if_pos hc] at hF
          refine lv_iload hx hb dX7_ordered_93 (lv_at hl 5 rfl) ?_
          refine lv_iload hx hb dX7_ordered_95 (lv_at hl 0 rfl) ?_
          obtain ⟨r97, M97, h97, hF⟩ := bd_some hF
          refine cS_ (As := [.int x4, .int (M.2 40 ((40 * x2) + x5).toNatClampNeg)]) (v := some (.int r97)) (rest := []) (st1 := [.int r97]) hC hS (c_X7_has l G hn x4 (M.2 40 ((40 * x2) + x5).toNatClampNeg) M87 _ _ h97) kS_X7_has lm_X7_151 ⟨Nat.le_of_ble_eq_true rfl, Nat.le_of_ble_eq_true rfl⟩ rfl hl.1 (Nat.le_of_ble_eq_true rfl) dX7_ordered_97 ⟨Nat.le_refl _, Nat.le_refl _⟩ rfl (fun H locs hS => ?_)
          refine lv_if_eq (tgt := 106) hx hb dX7_ordered_100 (by decide) (fun hc => ?_) (fun hc => ?_)
          · rw [if_pos hc] at hF
            refine lv_iload hx hb dX7_ordered_106 (lv_at hl 5 rfl) ?_
            refine lv_iconst (v := 1) hx hb dX7_ordered_108 (by decide) ?_
            refine lv_iload hx hb dX7_ordered_109 (lv_at hl 0 rfl) ?_
            refine lv_ishl hx hb dX7_ordered_111 ?_
            refine lv_ior hx hb dX7_ordered_112 ?_
            refine lv_istore (lv' := [(4, .int (x4 ||| ((1 : Int32) <<< ((M.2 40 ((40 * x2) + x5).toNatClampNeg) &&& 31)))), (6, .int (M.2 40 ((40 * x2) + x5).toNatClampNeg)), (0, .ref (G.1 61)), (1, .int x1), (2, .int x2), (3, .int x3), (5, .int x5)]) hx hb dX7_ordered_113 hl (by decide) rfl (fun ls hl => ?_)
            refine lv_aload_n hx hb dX7_ordered_115 rfl (lv_at hl 2 rfl) ?_
            refine gx (ci := 7) (k := 14) (v := .ref (G.1 33)) (C := RX7) (T := TX7) (N := 29) hC hS (hn _ (by decide)) rfl rfl in_X7 (by decide) rfl rfl lf_X7_43 dX7_ordered_116 ?_
            refine lv_iload hx hb dX7_ordered_119 (lv_at hl 6 rfl) ?_
            refine lv_iload hx hb dX7_ordered_121 (lv_at hl 1 rfl) ?_
            obtain ⟨hi, hF⟩ := ckb_some hF
            refine ast hC hS (hn _ (by decide)) (by decide) rfl hi dX7_ordered_123 (fun H locs hS => ?_)
            refine lv_iinc (v := x5 + 1) (lv' := [(5, .int (x5 + 1)), (4, .int (x4 ||| ((1 : Int32) <<< ((M.2 40 ((40 * x2) + x5).toNatClampNeg) &&& 31)))), (6, .int (M.2 40 ((40 * x2) + x5).toNatClampNeg)), (0, .ref (G.1 61)), (1, .int x1), (2, .int x2), (3, .int x3)]) hx hb dX7_ordered_124 hl (k := 6) rfl rfl (by decide) rfl (fun ls hl => ?_)
            refine lv_goto (tgt := 47) hx hb dX7_ordered_127 (by decide) ?_
            exact ih _ _ _ _ _ _ _ _ _ hF hS (lv_sub hl [3, 4, 5, 6, 1, 0] rfl)
          · rw [if_neg hc] at hF
            refine lv_bipush (v := (-3)) hx hb dX7_ordered_103 (by decide) ?_
            exact retI hC hS hr hlk hF dX7_ordered_105
set_option maxHeartbeats 4000000 in
set_option maxRecDepth 100000 in
theorem b_X7_ordered {M0 : Mem} {r0 : Int32} (hC : SX p m c s args cX7_ordered 7 RX7 G (AG G)) (hr : meth.sig.returnType = (some .int)) (hlk : meth.locks = false) (hn : ∀ i ∈ LsF, i ∈ gL G) : ∀ (x1 : Int32) (x2 : Int32) (x3 : Int32) (M : Mem) (H : Heap) (locs : List Loc) (ls : Array Slot), F_X7_ordered x1 x2 x3 M = some (r0, M0) → ST G (AG G) s M H locs → lv_has ls 7 [(0, .ref (G.1 61)), (1, .int x1), (2, .int x2), (3, .int x3)] → W p l e (RM 3 68) s m args below meth c H locs 0 0 (MQ below (QV G (some (.int r0)) M0) args s 0 0 (AG G)) (F0 m 0 ls []) := by
  obtain ⟨⟨hx, hb, hml, hown, hts⟩, hK, hG, hA⟩ := id hC
  intro x1 x2 x3 M H locs ls hF hS hl
  unfold F_X7_ordered at hF
  refine lv_iload_n hx hb dX7_ordered_0 rfl (lv_at hl 1 rfl) ?_
  obtain ⟨r1, M1, h1, hF⟩ := bd_some hF
  refine cS_ (As := [.int x1]) (v := some (.int r1)) (rest := []) (st1 := [.int r1]) hC hS (c_X7_isLaw l G hn x1 M _ _ h1) kS_X7_isLaw lm_X7_120 ⟨Nat.le_of_ble_eq_true rfl, Nat.le_of_ble_eq_true rfl⟩ rfl hl.1 (Nat.le_of_ble_eq_true rfl) dX7_ordered_1 ⟨Nat.le_refl _, Nat.le_refl _⟩ rfl (fun H locs hS => ?_)
  refine lv_if_eq (tgt := 23) hx hb dX7_ordered_4 (by decide) (fun hc => ?_) (fun hc => ?_)
  · rw [if_pos hc] at hF
    refine lv_bipush (v := (-2)) hx hb dX7_ordered_23 (by decide) ?_
    exact retI hC hS hr hlk hF dX7_ordered_25
  · rw [if_neg hc] at hF
    refine lv_iload_n hx hb dX7_ordered_7 rfl (lv_at hl 2 rfl) ?_
    obtain ⟨r8, M8, h8, hF⟩ := bd_some hF
    refine cS_ (As := [.int x2]) (v := some (.int r8)) (rest := []) (st1 := [.int r8]) hC hS (c_X7_isSheet l G hn x2 M1 _ _ h8) kS_X7_isSheet lm_X7_90 ⟨Nat.le_of_ble_eq_true rfl, Nat.le_of_ble_eq_true rfl⟩ rfl hl.1 (Nat.le_of_ble_eq_true rfl) dX7_ordered_8 ⟨Nat.le_refl _, Nat.le_refl _⟩ rfl (fun H locs hS => ?_)
    refine lv_if_eq (tgt := 23) hx hb dX7_ordered_11 (by decide) (fun hc => ?_) (fun hc => ?_)
    · rw [if_pos hc] at hF
      refine lv_bipush (v := (-2)) hx hb dX7_ordered_23 (by decide) ?_
      exact retI hC hS hr hlk hF dX7_ordered_25
    · rw [if_neg hc] at hF
      refine lv_iload_n hx hb dX7_ordered_14 rfl (lv_at hl 3 rfl) ?_
      refine lv_iconst (v := 0) hx hb dX7_ordered_15 (by decide) ?_
      refine lv_iconst (v := 2) hx hb dX7_ordered_16 (by decide) ?_
      obtain ⟨r17, M17, h17, hF⟩ := bd_some hF
      refine cS_ (As := [.int x3, .int 0, .int 2]) (v := some (.int r17)) (rest := []) (st1 := [.int r17]) hC hS (c_X7_in l G hn x3 0 2 M8 _ _ h17) kS_X7_in lm_X7_71 ⟨Nat.le_of_ble_eq_true rfl, Nat.le_of_ble_eq_true rfl⟩ rfl hl.1 (Nat.le_of_ble_eq_true rfl) dX7_ordered_17 ⟨Nat.le_refl _, Nat.le_refl _⟩ rfl (fun H locs hS => ?_)
      refine lv_if_ne (tgt := 26) hx hb dX7_ordered_20 (by decide) (fun hc => ?_) (fun hc => ?_)
      · rw [if_neg hc] at hF
        refine lv_aload_n hx hb dX7_ordered_26 rfl (lv_at hl 0 rfl) ?_
        refine gx (ci := 7) (k := 23) (v := .ref (G.1 37)) (C := RX7) (T := TX7) (N := 29) hC hS (hn _ (by decide)) rfl rfl in_X7 (by decide) rfl rfl lf_X7_56 dX7_ordered_27 ?_
        refine lv_iload_n hx hb dX7_ordered_30 rfl (lv_at hl 2 rfl) ?_
        obtain ⟨hi, hF⟩ := ckb_some hF
        refine zld hC hS (hn _ (by decide)) (by decide) rfl hi dX7_ordered_31 ?_
        refine lv_if_ne (tgt := 41) hx hb dX7_ordered_32 (by decide) (fun hc => ?_) (fun hc => ?_)
        · rw [if_neg hc] at hF
          refine lv_iconst (v := 0) hx hb dX7_ordered_41 (by decide) ?_
          refine lv_istore (lv' := [(4, .int 0), (0, .ref (G.1 61)), (1, .int x1), (2, .int x2), (3, .int x3)]) hx hb dX7_ordered_42 hl (by decide) rfl (fun ls hl => ?_)
          refine lv_iconst (v := 0) hx hb dX7_ordered_44 (by decide) ?_
          refine lv_istore (lv' := [(5, .int 0), (4, .int 0), (0, .ref (G.1 61)), (1, .int x1), (2, .int x2), (3, .int x3)]) hx hb dX7_ordered_45 hl (by decide) rfl (fun ls hl => ?_)
          exact b_X7_ordered_47 hC hr hlk hn fu _ _ _ _ _ _ _ _ _ hF hS (lv_sub hl [2, 3, 4, 5, 1, 0] rfl)
        · rw [if_pos hc] at hF
          refine lv_aload_n hx hb dX7_ordered_35 rfl (lv_at hl 0 rfl) ?_
          refine lv_iconst (v := 1) hx hb dX7_ordered_36 (by decide) ?_
          obtain ⟨r37, M37, h37, hF⟩ := bd_some hF
          refine cV_ (ci := 7) (i := 61) (C := RX7) (T := TX7) (N := 29) (As := [.int 1]) (v := some (.int r37)) (rest := []) (st1 := [.int r37]) hC hS (hn _ (by decide)) rfl rfl (c_X7_meets l G hn 1 M17 _ _ h37) kV_X7_meets lm_X7_93 ⟨Nat.le_of_ble_eq_true rfl, Nat.le_of_ble_eq_true rfl⟩ rfl hl.1 (Nat.le_of_ble_eq_true rfl) dX7_ordered_37 ⟨Nat.le_refl _, Nat.le_refl _⟩ rfl (fun H locs hS => ?_)
          exact retI hC hS hr hlk hF dX7_ordered_40
      · rw [if_pos hc] at hF
        refine lv_bipush (v := (-2)) hx hb dX7_ordered_23 (by decide) ?_
        exact retI hC hS hr hlk hF dX7_ordered_25
set_option maxRecDepth 100000 in
theorem c_X7_ordered (l : Launch) (G : GT) (hn : ∀ i ∈ LsF, i ∈ gL G) (x1 : Int32) (x2 : Int32) (x3 : Int32) (M : Mem) (r0 : Int32) (M0 : Mem) (hF : F_X7_ordered x1 x2 x3 M = some (r0, M0)) : MetG l G yX7_ordered cX7_ordered 7 (some .int) 3 68 [.ref (G.1 61), .int x1, .int x2, .int x3] M (some (.int r0)) M0 := by
  refine MetG.of (by decide) (Nat.le_of_ble_eq_true rfl) ?_
  intro p e s m args below meth c hC hr hlk hnm ls hS hl
  exact b_X7_ordered hC hr hlk hn _ _ _ _ _ _ _ hF hS hl
def F_X7_headNow_56 (k4 : Int32 → Int32 → Int32 → Mem → Option (Int32 × Mem)) (x1 : Int32) (x3 : Int32) (t0 : Int32) (t1 : Int32) (M : Mem) : Option (Int32 × Mem) := k4 x1 (t0 + t1) (x3 + 1) M
def F_X7_headNow_55 (k4 : Int32 → Int32 → Int32 → Mem → Option (Int32 × Mem)) (x1 : Int32) (x3 : Int32) (t0 : Int32) (M : Mem) : Option (Int32 × Mem) := F_X7_headNow_56 k4 x1 x3 t0 0 M
def F_X7_headNow_4 : Nat → Int32 → Int32 → Int32 → Mem → Option (Int32 × Mem)
  | 0, _, _, _, _ => none
  | n + 1, x1, x2, x3, M => if (M.1 40) ≤ x3 then some (x2, M) else ckb (ix x3 10) (if (M.2 24 x3.toNatClampNeg) = 0 then bd (F_X7_has (M.1 45) x3 M) (fun r27 M27 => if r27 = 0 then F_X7_headNow_55 (F_X7_headNow_4 n) x1 x3 x2 M27 else ckb (ix x3 10) (bd (F_X7_has (M27.2 25 x3.toNatClampNeg) x1 M27) (fun r40 M40 => if r40 = 0 then F_X7_headNow_55 (F_X7_headNow_4 n) x1 x3 x2 M40 else ckb (ix x3 10) (F_X7_headNow_56 (F_X7_headNow_4 n) x1 x3 x2 (M40.2 28 x3.toNatClampNeg) M40)))) else F_X7_headNow_55 (F_X7_headNow_4 n) x1 x3 x2 M)
def F_X7_headNow (x1 : Int32) (M : Mem) : Option (Int32 × Mem) := F_X7_headNow_4 fu x1 0 0 M
set_option maxHeartbeats 4000000 in
set_option maxRecDepth 100000 in
theorem b_X7_headNow_56 {k4 : Int32 → Int32 → Int32 → Mem → Option (Int32 × Mem)} {M0 : Mem} {r0 : Int32} (hC : SX p m c s args cX7_headNow 4 RX7 G (AG G)) (hr : meth.sig.returnType = (some .int)) (hlk : meth.locks = false) (hn : ∀ i ∈ LsF, i ∈ gL G) (hk4 : ∀ (x1 : Int32) (x2 : Int32) (x3 : Int32) (M : Mem) (H : Heap) (locs : List Loc) (ls : Array Slot), k4 x1 x2 x3 M = some (r0, M0) → ST G (AG G) s M H locs → lv_has ls 4 [(0, .ref (G.1 61)), (1, .int x1), (2, .int x2), (3, .int x3)] → W p l e (RM 1 21) s m args below meth c H locs 0 0 (MQ below (QV G (some (.int r0)) M0) args s 0 0 (AG G)) (F0 m 4 ls [])) : ∀ (x1 : Int32) (x3 : Int32) (t0 : Int32) (t1 : Int32) (M : Mem) (H : Heap) (locs : List Loc) (ls : Array Slot), F_X7_headNow_56 k4 x1 x3 t0 t1 M = some (r0, M0) → ST G (AG G) s M H locs → lv_has ls 4 [(0, .ref (G.1 61)), (1, .int x1), (3, .int x3)] → W p l e (RM 1 21) s m args below meth c H locs 0 0 (MQ below (QV G (some (.int r0)) M0) args s 0 0 (AG G)) (F0 m 56 ls [.int t1, .int t0]) := by
  obtain ⟨⟨hx, hb, hml, hown, hts⟩, hK, hG, hA⟩ := id hC
  intro x1 x3 t0 t1 M H locs ls hF hS hl
  unfold F_X7_headNow_56 at hF
  refine lv_iadd hx hb dX7_headNow_56 ?_
  refine lv_istore_n (lv' := [(2, .int (t0 + t1)), (0, .ref (G.1 61)), (1, .int x1), (3, .int x3)]) hx hb dX7_headNow_57 rfl hl (by decide) rfl (fun ls hl => ?_)
  refine lv_iinc (v := x3 + 1) (lv' := [(3, .int (x3 + 1)), (2, .int (t0 + t1)), (0, .ref (G.1 61)), (1, .int x1)]) hx hb dX7_headNow_58 hl (k := 3) rfl rfl (by decide) rfl (fun ls hl => ?_)
  refine lv_goto (tgt := 4) hx hb dX7_headNow_61 (by decide) ?_
  exact hk4 _ _ _ _ _ _ _ hF hS (lv_sub hl [2, 3, 1, 0] rfl)
set_option maxHeartbeats 4000000 in
set_option maxRecDepth 100000 in
theorem b_X7_headNow_55 {k4 : Int32 → Int32 → Int32 → Mem → Option (Int32 × Mem)} {M0 : Mem} {r0 : Int32} (hC : SX p m c s args cX7_headNow 4 RX7 G (AG G)) (hr : meth.sig.returnType = (some .int)) (hlk : meth.locks = false) (hn : ∀ i ∈ LsF, i ∈ gL G) (hk4 : ∀ (x1 : Int32) (x2 : Int32) (x3 : Int32) (M : Mem) (H : Heap) (locs : List Loc) (ls : Array Slot), k4 x1 x2 x3 M = some (r0, M0) → ST G (AG G) s M H locs → lv_has ls 4 [(0, .ref (G.1 61)), (1, .int x1), (2, .int x2), (3, .int x3)] → W p l e (RM 1 21) s m args below meth c H locs 0 0 (MQ below (QV G (some (.int r0)) M0) args s 0 0 (AG G)) (F0 m 4 ls [])) : ∀ (x1 : Int32) (x3 : Int32) (t0 : Int32) (M : Mem) (H : Heap) (locs : List Loc) (ls : Array Slot), F_X7_headNow_55 k4 x1 x3 t0 M = some (r0, M0) → ST G (AG G) s M H locs → lv_has ls 4 [(0, .ref (G.1 61)), (1, .int x1), (3, .int x3)] → W p l e (RM 1 21) s m args below meth c H locs 0 0 (MQ below (QV G (some (.int r0)) M0) args s 0 0 (AG G)) (F0 m 55 ls [.int t0]) := by
  obtain ⟨⟨hx, hb, hml, hown, hts⟩, hK, hG, hA⟩ := id hC
  intro x1 x3 t0 M H locs ls hF hS hl
  unfold F_X7_headNow_55 at hF
  refine lv_iconst (v := 0) hx hb dX7_headNow_55 (by decide) ?_
  exact b_X7_headNow_56 hC hr hlk hn hk4 _ _ _ _ _ _ _ _ hF hS (lv_sub hl [0, 1, 2] rfl)
set_option maxHeartbeats 4000000 in
set_option maxRecDepth 100000 in
theorem b_X7_headNow_4 {M0 : Mem} {r0 : Int32} (hC : SX p m c s args cX7_headNow 4 RX7 G (AG G)) (hr : meth.sig.returnType = (some .int)) (hlk : meth.locks = false) (hn : ∀ i ∈ LsF, i ∈ gL G) : ∀ (n : Nat) (x1 : Int32) (x2 : Int32) (x3 : Int32) (M : Mem) (H : Heap) (locs : List Loc) (ls : Array Slot), F_X7_headNow_4 n x1 x2 x3 M = some (r0, M0) → ST G (AG G) s M H locs → lv_has ls 4 [(0, .ref (G.1 61)), (1, .int x1), (2, .int x2), (3, .int x3)] → W p l e (RM 1 21) s m args below meth c H locs 0 0 (MQ below (QV G (some (.int r0)) M0) args s 0 0 (AG G)) (F0 m 4 ls []) := by
  obtain ⟨⟨hx, hb, hml, hown, hts⟩, hK, hG, hA⟩ := id hC
  intro n
  induction n with
  | zero =>
    intro x1 x2 x3 M H locs ls hF
    cases hF
  | succ n ih =>
    intro x1 x2 x3 M H locs ls hF hS hl
    unfold F_X7_headNow_4 at hF
    refine lv_iload_n hx hb dX7_headNow_4 rfl (lv_at hl 3 rfl) ?_
    refine lv_aload_n hx hb dX7_headNow_5 rfl (lv_at hl 0 rfl) ?_
    refine gx (ci := 7) (k := 2) (v := .int (M.1 40)) (C := RX7) (T := TX7) (N := 29) hC hS (hn _ (by decide)) rfl rfl in_X7 (by decide) rfl rfl lf_X7_82 dX7_headNow_6 ?_
    refine lv_icmp_ge (tgt := 64) hx hb dX7_headNow_9 (by decide) (fun hc => ?_) (fun hc => ?_)
    · rw [if_pos hc] at hF
      refine lv_iload_n hx hb dX7_headNow_64 rfl (lv_at hl 2 rfl) ?_
      exact retI hC hS hr hlk hF dX7_headNow_65
    · rw [if_neg hc] at hF
      refine lv_iload_n hx hb dX7_headNow_12 rfl (lv_at hl 2 rfl) ?_
      refine lv_aload_n hx hb dX7_headNow_13 rfl (lv_at hl 0 rfl) ?_
      refine gx (ci := 7) (k := 3) (v := .ref (G.1 24)) (C := RX7) (T := TX7) (N := 29) hC hS (hn _ (by decide)) rfl rfl in_X7 (by decide) rfl rfl lf_X7_16 dX7_headNow_14 ?_
      refine lv_iload_n hx hb dX7_headNow_17 rfl (lv_at hl 3 rfl) ?_
      obtain ⟨hi, hF⟩ := ckb_some hF
      refine ald hC hS (hn _ (by decide)) (by decide) rfl hi dX7_headNow_18 ?_
      refine lv_if_ne (tgt := 55) hx hb dX7_headNow_19 (by decide) (fun hc => ?_) (fun hc => ?_)
      · rw [if_neg hc] at hF
        exact b_X7_headNow_55 hC hr hlk hn ih _ _ _ _ _ _ _ hF hS (lv_sub hl [0, 1, 3] rfl)
      · rw [if_pos hc] at hF
        refine lv_aload_n hx hb dX7_headNow_22 rfl (lv_at hl 0 rfl) ?_
        refine gx (ci := 7) (k := 17) (v := .int (M.1 45)) (C := RX7) (T := TX7) (N := 29) hC hS (hn _ (by decide)) rfl rfl in_X7 (by decide) rfl rfl lf_X7_139 dX7_headNow_23 ?_
        refine lv_iload_n hx hb dX7_headNow_26 rfl (lv_at hl 3 rfl) ?_
        obtain ⟨r27, M27, h27, hF⟩ := bd_some hF
        refine cS_ (As := [.int (M.1 45), .int x3]) (v := some (.int r27)) (rest := [.int x2]) (st1 := [.int r27, .int x2]) hC hS (c_X7_has l G hn (M.1 45) x3 M _ _ h27) kS_X7_has lm_X7_151 ⟨Nat.le_of_ble_eq_true rfl, Nat.le_of_ble_eq_true rfl⟩ rfl hl.1 (Nat.le_of_ble_eq_true rfl) dX7_headNow_27 ⟨Nat.le_refl _, Nat.le_refl _⟩ rfl (fun H locs hS => ?_)
        refine lv_if_eq (tgt := 55) hx hb dX7_headNow_30 (by decide) (fun hc => ?_) (fun hc => ?_)
        · rw [if_pos hc] at hF
          exact b_X7_headNow_55 hC hr hlk hn ih _ _ _ _ _ _ _ hF hS (lv_sub hl [0, 1, 3] rfl)
        · rw [if_neg hc] at hF
          refine lv_aload_n hx hb dX7_headNow_33 rfl (lv_at hl 0 rfl) ?_
          refine gx (ci := 7) (k := 4) (v := .ref (G.1 25)) (C := RX7) (T := TX7) (N := 29) hC hS (hn _ (by decide)) rfl rfl in_X7 (by decide) rfl rfl lf_X7_19 dX7_headNow_34 ?_
          refine lv_iload_n hx hb dX7_headNow_37 rfl (lv_at hl 3 rfl) ?_
          obtain ⟨hi, hF⟩ := ckb_some hF
          refine ald hC hS (hn _ (by decide)) (by decide) rfl hi dX7_headNow_38 ?_
          refine lv_iload_n hx hb dX7_headNow_39 rfl (lv_at hl 1 rfl) ?_
          obtain ⟨r40, M40, h40, hF⟩ := bd_some hF
          refine cS_ (As := [.int (M27.2 25 x3.toNatClampNeg), .int x1]) (v := some (.int r40)) (rest := [.int x2]) (st1 := [.int r40, .int x2]) hC hS (c_X7_has l G hn (M27.2 25 x3.toNatClampNeg) x1 M27 _ _ h40) kS_X7_has lm_X7_151 ⟨Nat.le_of_ble_eq_true rfl, Nat.le_of_ble_eq_true rfl⟩ rfl hl.1 (Nat.le_of_ble_eq_true rfl) dX7_headNow_40 ⟨Nat.le_refl _, Nat.le_refl _⟩ rfl (fun H locs hS => ?_)
          refine lv_if_eq (tgt := 55) hx hb dX7_headNow_43 (by decide) (fun hc => ?_) (fun hc => ?_)
          · rw [if_pos hc] at hF
            exact b_X7_headNow_55 hC hr hlk hn ih _ _ _ _ _ _ _ hF hS (lv_sub hl [0, 1, 3] rfl)
          · rw [if_neg hc] at hF
            refine lv_aload_n hx hb dX7_headNow_46 rfl (lv_at hl 0 rfl) ?_
            refine gx (ci := 7) (k := 7) (v := .ref (G.1 28)) (C := RX7) (T := TX7) (N := 29) hC hS (hn _ (by decide)) rfl rfl in_X7 (by decide) rfl rfl lf_X7_28 dX7_headNow_47 ?_
            refine lv_iload_n hx hb dX7_headNow_50 rfl (lv_at hl 3 rfl) ?_
            obtain ⟨hi, hF⟩ := ckb_some hF
            refine ald hC hS (hn _ (by decide)) (by decide) rfl hi dX7_headNow_51 ?_
            refine lv_goto (tgt := 56) hx hb dX7_headNow_52 (by decide) ?_
            exact b_X7_headNow_56 hC hr hlk hn ih _ _ _ _ _ _ _ _ hF hS (lv_sub hl [0, 1, 3] rfl)
set_option maxHeartbeats 4000000 in
set_option maxRecDepth 100000 in
theorem b_X7_headNow {M0 : Mem} {r0 : Int32} (hC : SX p m c s args cX7_headNow 4 RX7 G (AG G)) (hr : meth.sig.returnType = (some .int)) (hlk : meth.locks = false) (hn : ∀ i ∈ LsF, i ∈ gL G) : ∀ (x1 : Int32) (M : Mem) (H : Heap) (locs : List Loc) (ls : Array Slot), F_X7_headNow x1 M = some (r0, M0) → ST G (AG G) s M H locs → lv_has ls 4 [(0, .ref (G.1 61)), (1, .int x1)] → W p l e (RM 1 21) s m args below meth c H locs 0 0 (MQ below (QV G (some (.int r0)) M0) args s 0 0 (AG G)) (F0 m 0 ls []) := by
  obtain ⟨⟨hx, hb, hml, hown, hts⟩, hK, hG, hA⟩ := id hC
  intro x1 M H locs ls hF hS hl
  unfold F_X7_headNow at hF
  refine lv_iconst (v := 0) hx hb dX7_headNow_0 (by decide) ?_
  refine lv_istore_n (lv' := [(2, .int 0), (0, .ref (G.1 61)), (1, .int x1)]) hx hb dX7_headNow_1 rfl hl (by decide) rfl (fun ls hl => ?_)
  refine lv_iconst (v := 0) hx hb dX7_headNow_2 (by decide) ?_
  refine lv_istore_n (lv' := [(3, .int 0), (2, .int 0), (0, .ref (G.1 61)), (1, .int x1)]) hx hb dX7_headNow_3 rfl hl (by decide) rfl (fun ls hl => ?_)
  exact b_X7_headNow_4 hC hr hlk hn fu _ _ _ _ _ _ _ hF hS (lv_sub hl [2, 3, 1, 0] rfl)
set_option maxRecDepth 100000 in
theorem c_X7_headNow (l : Launch) (G : GT) (hn : ∀ i ∈ LsF, i ∈ gL G) (x1 : Int32) (M : Mem) (r0 : Int32) (M0 : Mem) (hF : F_X7_headNow x1 M = some (r0, M0)) : MetG l G yX7_headNow cX7_headNow 4 (some .int) 1 21 [.ref (G.1 61), .int x1] M (some (.int r0)) M0 := by
  refine MetG.of (by decide) (Nat.le_of_ble_eq_true rfl) ?_
  intro p e s m args below meth c hC hr hlk hnm ls hS hl
  exact b_X7_headNow hC hr hlk hn _ _ _ _ _ hF hS hl
def F_X7_head (x1 : Int32) (x2 : Int32) (M : Mem) : Option (Int32 × Mem) := bd (F_X7_isLaw x1 M) (fun r1 M1 => if r1 = 0 then some ((-2), M1) else bd (F_X7_in x2 0 9 M1) (fun r11 M11 => if r11 = 0 then some ((-2), M11) else bdv (F_X7_hearsAll x1 M11) (fun M22 => bd (F_X7_headNow x2 M22) (fun r27 M27 => some (r27, M27)))))
set_option maxHeartbeats 4000000 in
set_option maxRecDepth 100000 in
theorem b_X7_head {M0 : Mem} {r0 : Int32} (hC : SX p m c s args cX7_head 3 RX7 G (AG G)) (hr : meth.sig.returnType = (some .int)) (hlk : meth.locks = false) (hn : ∀ i ∈ LsF, i ∈ gL G) : ∀ (x1 : Int32) (x2 : Int32) (M : Mem) (H : Heap) (locs : List Loc) (ls : Array Slot), F_X7_head x1 x2 M = some (r0, M0) → ST G (AG G) s M H locs → lv_has ls 3 [(0, .ref (G.1 61)), (1, .int x1), (2, .int x2)] → W p l e (RM 4 89) s m args below meth c H locs 0 0 (MQ below (QV G (some (.int r0)) M0) args s 0 0 (AG G)) (F0 m 0 ls []) := by
  obtain ⟨⟨hx, hb, hml, hown, hts⟩, hK, hG, hA⟩ := id hC
  intro x1 x2 M H locs ls hF hS hl
  unfold F_X7_head at hF
  refine lv_iload_n hx hb dX7_head_0 rfl (lv_at hl 1 rfl) ?_
  obtain ⟨r1, M1, h1, hF⟩ := bd_some hF
  refine cS_ (As := [.int x1]) (v := some (.int r1)) (rest := []) (st1 := [.int r1]) hC hS (c_X7_isLaw l G hn x1 M _ _ h1) kS_X7_isLaw lm_X7_120 ⟨Nat.le_of_ble_eq_true rfl, Nat.le_of_ble_eq_true rfl⟩ rfl hl.1 (Nat.le_of_ble_eq_true rfl) dX7_head_1 ⟨Nat.le_refl _, Nat.le_refl _⟩ rfl (fun H locs hS => ?_)
  refine lv_if_eq (tgt := 17) hx hb dX7_head_4 (by decide) (fun hc => ?_) (fun hc => ?_)
  · rw [if_pos hc] at hF
    refine lv_bipush (v := (-2)) hx hb dX7_head_17 (by decide) ?_
    exact retI hC hS hr hlk hF dX7_head_19
  · rw [if_neg hc] at hF
    refine lv_iload_n hx hb dX7_head_7 rfl (lv_at hl 2 rfl) ?_
    refine lv_iconst (v := 0) hx hb dX7_head_8 (by decide) ?_
    refine lv_bipush (v := 9) hx hb dX7_head_9 (by decide) ?_
    obtain ⟨r11, M11, h11, hF⟩ := bd_some hF
    refine cS_ (As := [.int x2, .int 0, .int 9]) (v := some (.int r11)) (rest := []) (st1 := [.int r11]) hC hS (c_X7_in l G hn x2 0 9 M1 _ _ h11) kS_X7_in lm_X7_71 ⟨Nat.le_of_ble_eq_true rfl, Nat.le_of_ble_eq_true rfl⟩ rfl hl.1 (Nat.le_of_ble_eq_true rfl) dX7_head_11 ⟨Nat.le_refl _, Nat.le_refl _⟩ rfl (fun H locs hS => ?_)
    refine lv_if_ne (tgt := 20) hx hb dX7_head_14 (by decide) (fun hc => ?_) (fun hc => ?_)
    · rw [if_neg hc] at hF
      refine lv_aload_n hx hb dX7_head_20 rfl (lv_at hl 0 rfl) ?_
      refine lv_iload_n hx hb dX7_head_21 rfl (lv_at hl 1 rfl) ?_
      obtain ⟨M22, h22, hF⟩ := bdv_some hF
      refine cV_ (ci := 7) (i := 61) (C := RX7) (T := TX7) (N := 29) (As := [.int x1]) (v := none) (rest := []) (st1 := []) hC hS (hn _ (by decide)) rfl rfl (c_X7_hearsAll l G hn x1 M11 _ h22) kV_X7_hearsAll lm_X7_171 ⟨Nat.le_of_ble_eq_true rfl, Nat.le_of_ble_eq_true rfl⟩ rfl hl.1 (Nat.le_of_ble_eq_true rfl) dX7_head_22 ⟨Nat.le_refl _, Nat.le_refl _⟩ rfl (fun H locs hS => ?_)
      refine lv_aload_n hx hb dX7_head_25 rfl (lv_at hl 0 rfl) ?_
      refine lv_iload_n hx hb dX7_head_26 rfl (lv_at hl 2 rfl) ?_
      obtain ⟨r27, M27, h27, hF⟩ := bd_some hF
      refine cV_ (ci := 7) (i := 61) (C := RX7) (T := TX7) (N := 29) (As := [.int x2]) (v := some (.int r27)) (rest := []) (st1 := [.int r27]) hC hS (hn _ (by decide)) rfl rfl (c_X7_headNow l G hn x2 M22 _ _ h27) kV_X7_headNow lm_X7_180 ⟨Nat.le_of_ble_eq_true rfl, Nat.le_of_ble_eq_true rfl⟩ rfl hl.1 (Nat.le_of_ble_eq_true rfl) dX7_head_27 ⟨Nat.le_refl _, Nat.le_refl _⟩ rfl (fun H locs hS => ?_)
      exact retI hC hS hr hlk hF dX7_head_30
    · rw [if_pos hc] at hF
      refine lv_bipush (v := (-2)) hx hb dX7_head_17 (by decide) ?_
      exact retI hC hS hr hlk hF dX7_head_19
set_option maxRecDepth 100000 in
theorem c_X7_head (l : Launch) (G : GT) (hn : ∀ i ∈ LsF, i ∈ gL G) (x1 : Int32) (x2 : Int32) (M : Mem) (r0 : Int32) (M0 : Mem) (hF : F_X7_head x1 x2 M = some (r0, M0)) : MetG l G yX7_head cX7_head 3 (some .int) 4 89 [.ref (G.1 61), .int x1, .int x2] M (some (.int r0)) M0 := by
  refine MetG.of (by decide) (Nat.le_of_ble_eq_true rfl) ?_
  intro p e s m args below meth c hC hr hlk hnm ls hS hl
  exact b_X7_head hC hr hlk hn _ _ _ _ _ _ hF hS hl
def F_X7_turns_107 : Nat → Int32 → Int32 → Mem → Option (Int32 × Mem)
  | 0, _, _, _ => none
  | n + 1, x4, x5, M => if x5 ≤ x4 then some (1, M) else ckb (ix x4 10) (ckb (ix x5 10) (ckb (ix x4 10) (ckb (ix x5 10) (F_X7_turns_107 n (x4 + 1) (x5 + (-1)) (sa (sa M 33 x4.toNatClampNeg (M.2 33 x5.toNatClampNeg)) 33 x5.toNatClampNeg (M.2 33 x4.toNatClampNeg))))))
def F_X7_turns_47 : Nat → Int32 → Int32 → Mem → Option (Int32 × Mem)
  | 0, _, _, _ => none
  | n + 1, x1, x2, M => ckb (ix x2 10) (ckb (ix x1 10) (if (M.2 33 x1.toNatClampNeg) ≤ (M.2 33 x2.toNatClampNeg) then ckb (ix x1 10) (ckb (ix x2 10) (ckb (ix x1 10) (ckb (ix x2 10) (F_X7_turns_107 fu (x1 + 1) (((sa (sa M 33 x1.toNatClampNeg (M.2 33 x2.toNatClampNeg)) 33 x2.toNatClampNeg (M.2 33 x1.toNatClampNeg)).1 43) - 1) (sa (sa M 33 x1.toNatClampNeg (M.2 33 x2.toNatClampNeg)) 33 x2.toNatClampNeg (M.2 33 x1.toNatClampNeg)))))) else F_X7_turns_47 n x1 (x2 + (-1)) M))
def F_X7_turns_34 (x1 : Int32) (M : Mem) : Option (Int32 × Mem) := if 0 ≤ x1 then F_X7_turns_47 fu x1 ((M.1 43) - 1) M else some (0, M)
def F_X7_turns_7 : Nat → Int32 → Mem → Option (Int32 × Mem)
  | 0, _, _ => none
  | n + 1, x1, M => if x1 < 0 then F_X7_turns_34 x1 M else ckb (ix x1 10) (ckb (ix (x1 + 1) 10) (if (M.2 33 x1.toNatClampNeg) ≤ (M.2 33 (x1 + 1).toNatClampNeg) then F_X7_turns_34 x1 M else F_X7_turns_7 n (x1 + (-1)) M))
def F_X7_turns (M : Mem) : Option (Int32 × Mem) := F_X7_turns_7 fu ((M.1 43) - 2) M
set_option maxHeartbeats 4000000 in
set_option maxRecDepth 100000 in
theorem b_X7_turns_107 {M0 : Mem} {r0 : Int32} (hC : SX p m c s args cX7_turns 6 RX7 G (AG G)) (hr : meth.sig.returnType = (some .boolean)) (hlk : meth.locks = false) (hn : ∀ i ∈ LsF, i ∈ gL G) : ∀ (n : Nat) (x4 : Int32) (x5 : Int32) (M : Mem) (H : Heap) (locs : List Loc) (ls : Array Slot), F_X7_turns_107 n x4 x5 M = some (r0, M0) → ST G (AG G) s M H locs → lv_has ls 6 [(0, .ref (G.1 61)), (4, .int x4), (5, .int x5)] → W p l e (RM 0 0) s m args below meth c H locs 0 0 (MQ below (QV G (some (.int r0)) M0) args s 0 0 (AG G)) (F0 m 107 ls []) := by
  obtain ⟨⟨hx, hb, hml, hown, hts⟩, hK, hG, hA⟩ := id hC
  intro n
  induction n with
  | zero =>
    intro x4 x5 M H locs ls hF
    cases hF
  | succ n ih =>
    intro x4 x5 M H locs ls hF hS hl
    unfold F_X7_turns_107 at hF
    refine lv_iload hx hb dX7_turns_107 (lv_at hl 1 rfl) ?_
    refine lv_iload hx hb dX7_turns_109 (lv_at hl 2 rfl) ?_
    refine lv_icmp_ge (tgt := 153) hx hb dX7_turns_111 (by decide) (fun hc => ?_) (fun hc => ?_)
    · rw [if_pos hc] at hF
      refine lv_iconst (v := 1) hx hb dX7_turns_153 (by decide) ?_
      exact retZ hC hS hr hlk rfl hF dX7_turns_154
    · rw [if_neg hc] at hF
      refine lv_aload_n hx hb dX7_turns_114 rfl (lv_at hl 0 rfl) ?_
      refine gx (ci := 7) (k := 14) (v := .ref (G.1 33)) (C := RX7) (T := TX7) (N := 29) hC hS (hn _ (by decide)) rfl rfl in_X7 (by decide) rfl rfl lf_X7_43 dX7_turns_115 ?_
      refine lv_iload hx hb dX7_turns_118 (lv_at hl 1 rfl) ?_
      obtain ⟨hi, hF⟩ := ckb_some hF
      refine ald hC hS (hn _ (by decide)) (by decide) rfl hi dX7_turns_120 ?_
      refine lv_istore_n (lv' := [(3, .int (M.2 33 x4.toNatClampNeg)), (0, .ref (G.1 61)), (4, .int x4), (5, .int x5)]) hx hb dX7_turns_121 rfl hl (by decide) rfl (fun ls hl => ?_)
      refine lv_aload_n hx hb dX7_turns_122 rfl (lv_at hl 1 rfl) ?_
      refine gx (ci := 7) (k := 14) (v := .ref (G.1 33)) (C := RX7) (T := TX7) (N := 29) hC hS (hn _ (by decide)) rfl rfl in_X7 (by decide) rfl rfl lf_X7_43 dX7_turns_123 ?_
      refine lv_iload hx hb dX7_turns_126 (lv_at hl 2 rfl) ?_
      refine lv_aload_n hx hb dX7_turns_128 rfl (lv_at hl 1 rfl) ?_
      refine gx (ci := 7) (k := 14) (v := .ref (G.1 33)) (C := RX7) (T := TX7) (N := 29) hC hS (hn _ (by decide)) rfl rfl in_X7 (by decide) rfl rfl lf_X7_43 dX7_turns_129 ?_
      refine lv_iload hx hb dX7_turns_132 (lv_at hl 3 rfl) ?_
      obtain ⟨hi, hF⟩ := ckb_some hF
      refine ald hC hS (hn _ (by decide)) (by decide) rfl hi dX7_turns_134 ?_
      obtain ⟨hi, hF⟩ := ckb_some hF
      refine ast hC hS (hn _ (by decide)) (by decide) rfl hi dX7_turns_135 (fun H locs hS => ?_)
      refine lv_aload_n hx hb dX7_turns_136 rfl (lv_at hl 1 rfl) ?_
      refine gx (ci := 7) (k := 14) (v := .ref (G.1 33)) (C := RX7) (T := TX7) (N := 29) hC hS (hn _ (by decide)) rfl rfl in_X7 (by decide) rfl rfl lf_X7_43 dX7_turns_137 ?_
      refine lv_iload hx hb dX7_turns_140 (lv_at hl 3 rfl) ?_
      refine lv_iload_n hx hb dX7_turns_142 rfl (lv_at hl 0 rfl) ?_
      obtain ⟨hi, hF⟩ := ckb_some hF
      refine ast hC hS (hn _ (by decide)) (by decide) rfl hi dX7_turns_143 (fun H locs hS => ?_)
      refine lv_iinc (v := x4 + 1) (lv' := [(4, .int (x4 + 1)), (3, .int (M.2 33 x4.toNatClampNeg)), (0, .ref (G.1 61)), (5, .int x5)]) hx hb dX7_turns_144 hl (k := 2) rfl rfl (by decide) rfl (fun ls hl => ?_)
      refine lv_iinc (v := x5 + (-1)) (lv' := [(5, .int (x5 + (-1))), (4, .int (x4 + 1)), (3, .int (M.2 33 x4.toNatClampNeg)), (0, .ref (G.1 61))]) hx hb dX7_turns_147 hl (k := 3) rfl rfl (by decide) rfl (fun ls hl => ?_)
      refine lv_goto (tgt := 107) hx hb dX7_turns_150 (by decide) ?_
      exact ih _ _ _ _ _ _ hF hS (lv_sub hl [3, 1, 0] rfl)
set_option maxHeartbeats 4000000 in
set_option maxRecDepth 100000 in
theorem b_X7_turns_47 {M0 : Mem} {r0 : Int32} (hC : SX p m c s args cX7_turns 6 RX7 G (AG G)) (hr : meth.sig.returnType = (some .boolean)) (hlk : meth.locks = false) (hn : ∀ i ∈ LsF, i ∈ gL G) : ∀ (n : Nat) (x1 : Int32) (x2 : Int32) (M : Mem) (H : Heap) (locs : List Loc) (ls : Array Slot), F_X7_turns_47 n x1 x2 M = some (r0, M0) → ST G (AG G) s M H locs → lv_has ls 6 [(0, .ref (G.1 61)), (1, .int x1), (2, .int x2)] → W p l e (RM 0 0) s m args below meth c H locs 0 0 (MQ below (QV G (some (.int r0)) M0) args s 0 0 (AG G)) (F0 m 47 ls []) := by
  obtain ⟨⟨hx, hb, hml, hown, hts⟩, hK, hG, hA⟩ := id hC
  intro n
  induction n with
  | zero =>
    intro x1 x2 M H locs ls hF
    cases hF
  | succ n ih =>
    intro x1 x2 M H locs ls hF hS hl
    unfold F_X7_turns_47 at hF
    refine lv_aload_n hx hb dX7_turns_47 rfl (lv_at hl 0 rfl) ?_
    refine gx (ci := 7) (k := 14) (v := .ref (G.1 33)) (C := RX7) (T := TX7) (N := 29) hC hS (hn _ (by decide)) rfl rfl in_X7 (by decide) rfl rfl lf_X7_43 dX7_turns_48 ?_
    refine lv_iload_n hx hb dX7_turns_51 rfl (lv_at hl 2 rfl) ?_
    obtain ⟨hi, hF⟩ := ckb_some hF
    refine ald hC hS (hn _ (by decide)) (by decide) rfl hi dX7_turns_52 ?_
    refine lv_aload_n hx hb dX7_turns_53 rfl (lv_at hl 0 rfl) ?_
    refine gx (ci := 7) (k := 14) (v := .ref (G.1 33)) (C := RX7) (T := TX7) (N := 29) hC hS (hn _ (by decide)) rfl rfl in_X7 (by decide) rfl rfl lf_X7_43 dX7_turns_54 ?_
    refine lv_iload_n hx hb dX7_turns_57 rfl (lv_at hl 1 rfl) ?_
    obtain ⟨hi, hF⟩ := ckb_some hF
    refine ald hC hS (hn _ (by decide)) (by decide) rfl hi dX7_turns_58 ?_
    refine lv_icmp_ge (tgt := 68) hx hb dX7_turns_59 (by decide) (fun hc => ?_) (fun hc => ?_)
    · rw [if_pos hc] at hF
      refine lv_aload_n hx hb dX7_turns_68 rfl (lv_at hl 0 rfl) ?_
      refine gx (ci := 7) (k := 14) (v := .ref (G.1 33)) (C := RX7) (T := TX7) (N := 29) hC hS (hn _ (by decide)) rfl rfl in_X7 (by decide) rfl rfl lf_X7_43 dX7_turns_69 ?_
      refine lv_iload_n hx hb dX7_turns_72 rfl (lv_at hl 1 rfl) ?_
      obtain ⟨hi, hF⟩ := ckb_some hF
      refine ald hC hS (hn _ (by decide)) (by decide) rfl hi dX7_turns_73 ?_
      refine lv_istore_n (lv' := [(3, .int (M.2 33 x1.toNatClampNeg)), (0, .ref (G.1 61)), (1, .int x1), (2, .int x2)]) hx hb dX7_turns_74 rfl hl (by decide) rfl (fun ls hl => ?_)
      refine lv_aload_n hx hb dX7_turns_75 rfl (lv_at hl 1 rfl) ?_
      refine gx (ci := 7) (k := 14) (v := .ref (G.1 33)) (C := RX7) (T := TX7) (N := 29) hC hS (hn _ (by decide)) rfl rfl in_X7 (by decide) rfl rfl lf_X7_43 dX7_turns_76 ?_
      refine lv_iload_n hx hb dX7_turns_79 rfl (lv_at hl 2 rfl) ?_
      refine lv_aload_n hx hb dX7_turns_80 rfl (lv_at hl 1 rfl) ?_
      refine gx (ci := 7) (k := 14) (v := .ref (G.1 33)) (C := RX7) (T := TX7) (N := 29) hC hS (hn _ (by decide)) rfl rfl in_X7 (by decide) rfl rfl lf_X7_43 dX7_turns_81 ?_
      refine lv_iload_n hx hb dX7_turns_84 rfl (lv_at hl 3 rfl) ?_
      obtain ⟨hi, hF⟩ := ckb_some hF
      refine ald hC hS (hn _ (by decide)) (by decide) rfl hi dX7_turns_85 ?_
      obtain ⟨hi, hF⟩ := ckb_some hF
      refine ast hC hS (hn _ (by decide)) (by decide) rfl hi dX7_turns_86 (fun H locs hS => ?_)
      refine lv_aload_n hx hb dX7_turns_87 rfl (lv_at hl 1 rfl) ?_
      refine gx (ci := 7) (k := 14) (v := .ref (G.1 33)) (C := RX7) (T := TX7) (N := 29) hC hS (hn _ (by decide)) rfl rfl in_X7 (by decide) rfl rfl lf_X7_43 dX7_turns_88 ?_
      refine lv_iload_n hx hb dX7_turns_91 rfl (lv_at hl 3 rfl) ?_
      refine lv_iload_n hx hb dX7_turns_92 rfl (lv_at hl 0 rfl) ?_
      obtain ⟨hi, hF⟩ := ckb_some hF
      refine ast hC hS (hn _ (by decide)) (by decide) rfl hi dX7_turns_93 (fun H locs hS => ?_)
      refine lv_iload_n hx hb dX7_turns_94 rfl (lv_at hl 2 rfl) ?_
      refine lv_iconst (v := 1) hx hb dX7_turns_95 (by decide) ?_
      refine lv_iadd hx hb dX7_turns_96 ?_
      refine lv_istore (lv' := [(4, .int (x1 + 1)), (3, .int (M.2 33 x1.toNatClampNeg)), (0, .ref (G.1 61)), (1, .int x1), (2, .int x2)]) hx hb dX7_turns_97 hl (by decide) rfl (fun ls hl => ?_)
      refine lv_aload_n hx hb dX7_turns_99 rfl (lv_at hl 2 rfl) ?_
      refine gx (ci := 7) (k := 15) (v := .int ((sa (sa M 33 x1.toNatClampNeg (M.2 33 x2.toNatClampNeg)) 33 x2.toNatClampNeg (M.2 33 x1.toNatClampNeg)).1 43)) (C := RX7) (T := TX7) (N := 29) hC hS (hn _ (by decide)) rfl rfl in_X7 (by decide) rfl rfl lf_X7_145 dX7_turns_100 ?_
      refine lv_iconst (v := 1) hx hb dX7_turns_103 (by decide) ?_
      refine lv_isub hx hb dX7_turns_104 ?_
      refine lv_istore (lv' := [(5, .int (((sa (sa M 33 x1.toNatClampNeg (M.2 33 x2.toNatClampNeg)) 33 x2.toNatClampNeg (M.2 33 x1.toNatClampNeg)).1 43) - 1)), (4, .int (x1 + 1)), (3, .int (M.2 33 x1.toNatClampNeg)), (0, .ref (G.1 61)), (1, .int x1), (2, .int x2)]) hx hb dX7_turns_105 hl (by decide) rfl (fun ls hl => ?_)
      exact b_X7_turns_107 hC hr hlk hn fu _ _ _ _ _ _ hF hS (lv_sub hl [3, 1, 0] rfl)
    · rw [if_neg hc] at hF
      refine lv_iinc (v := x2 + (-1)) (lv' := [(2, .int (x2 + (-1))), (0, .ref (G.1 61)), (1, .int x1)]) hx hb dX7_turns_62 hl (k := 2) rfl rfl (by decide) rfl (fun ls hl => ?_)
      refine lv_goto (tgt := 47) hx hb dX7_turns_65 (by decide) ?_
      exact ih _ _ _ _ _ _ hF hS (lv_sub hl [1, 2, 0] rfl)
set_option maxHeartbeats 4000000 in
set_option maxRecDepth 100000 in
theorem b_X7_turns_34 {M0 : Mem} {r0 : Int32} (hC : SX p m c s args cX7_turns 6 RX7 G (AG G)) (hr : meth.sig.returnType = (some .boolean)) (hlk : meth.locks = false) (hn : ∀ i ∈ LsF, i ∈ gL G) : ∀ (x1 : Int32) (M : Mem) (H : Heap) (locs : List Loc) (ls : Array Slot), F_X7_turns_34 x1 M = some (r0, M0) → ST G (AG G) s M H locs → lv_has ls 6 [(0, .ref (G.1 61)), (1, .int x1)] → W p l e (RM 0 0) s m args below meth c H locs 0 0 (MQ below (QV G (some (.int r0)) M0) args s 0 0 (AG G)) (F0 m 34 ls []) := by
  obtain ⟨⟨hx, hb, hml, hown, hts⟩, hK, hG, hA⟩ := id hC
  intro x1 M H locs ls hF hS hl
  unfold F_X7_turns_34 at hF
  refine lv_iload_n hx hb dX7_turns_34 rfl (lv_at hl 1 rfl) ?_
  refine lv_if_ge (tgt := 40) hx hb dX7_turns_35 (by decide) (fun hc => ?_) (fun hc => ?_)
  · rw [if_pos hc] at hF
    refine lv_aload_n hx hb dX7_turns_40 rfl (lv_at hl 0 rfl) ?_
    refine gx (ci := 7) (k := 15) (v := .int (M.1 43)) (C := RX7) (T := TX7) (N := 29) hC hS (hn _ (by decide)) rfl rfl in_X7 (by decide) rfl rfl lf_X7_145 dX7_turns_41 ?_
    refine lv_iconst (v := 1) hx hb dX7_turns_44 (by decide) ?_
    refine lv_isub hx hb dX7_turns_45 ?_
    refine lv_istore_n (lv' := [(2, .int ((M.1 43) - 1)), (0, .ref (G.1 61)), (1, .int x1)]) hx hb dX7_turns_46 rfl hl (by decide) rfl (fun ls hl => ?_)
    exact b_X7_turns_47 hC hr hlk hn fu _ _ _ _ _ _ hF hS (lv_sub hl [1, 2, 0] rfl)
  · rw [if_neg hc] at hF
    refine lv_iconst (v := 0) hx hb dX7_turns_38 (by decide) ?_
    exact retZ hC hS hr hlk rfl hF dX7_turns_39
set_option maxHeartbeats 4000000 in
set_option maxRecDepth 100000 in
theorem b_X7_turns_7 {M0 : Mem} {r0 : Int32} (hC : SX p m c s args cX7_turns 6 RX7 G (AG G)) (hr : meth.sig.returnType = (some .boolean)) (hlk : meth.locks = false) (hn : ∀ i ∈ LsF, i ∈ gL G) : ∀ (n : Nat) (x1 : Int32) (M : Mem) (H : Heap) (locs : List Loc) (ls : Array Slot), F_X7_turns_7 n x1 M = some (r0, M0) → ST G (AG G) s M H locs → lv_has ls 6 [(0, .ref (G.1 61)), (1, .int x1)] → W p l e (RM 0 0) s m args below meth c H locs 0 0 (MQ below (QV G (some (.int r0)) M0) args s 0 0 (AG G)) (F0 m 7 ls []) := by
  obtain ⟨⟨hx, hb, hml, hown, hts⟩, hK, hG, hA⟩ := id hC
  intro n
  induction n with
  | zero =>
    intro x1 M H locs ls hF
    cases hF
  | succ n ih =>
    intro x1 M H locs ls hF hS hl
    unfold F_X7_turns_7 at hF
    refine lv_iload_n hx hb dX7_turns_7 rfl (lv_at hl 1 rfl) ?_
    refine lv_if_lt (tgt := 34) hx hb dX7_turns_8 (by decide) (fun hc => ?_) (fun hc => ?_)
    · rw [if_pos hc] at hF
      exact b_X7_turns_34 hC hr hlk hn _ _ _ _ _ hF hS (lv_sub hl [0, 1] rfl)
    · rw [if_neg hc] at hF
      refine lv_aload_n hx hb dX7_turns_11 rfl (lv_at hl 0 rfl) ?_
      refine gx (ci := 7) (k := 14) (v := .ref (G.1 33)) (C := RX7) (T := TX7) (N := 29) hC hS (hn _ (by decide)) rfl rfl in_X7 (by decide) rfl rfl lf_X7_43 dX7_turns_12 ?_
      refine lv_iload_n hx hb dX7_turns_15 rfl (lv_at hl 1 rfl) ?_
      obtain ⟨hi, hF⟩ := ckb_some hF
      refine ald hC hS (hn _ (by decide)) (by decide) rfl hi dX7_turns_16 ?_
      refine lv_aload_n hx hb dX7_turns_17 rfl (lv_at hl 0 rfl) ?_
      refine gx (ci := 7) (k := 14) (v := .ref (G.1 33)) (C := RX7) (T := TX7) (N := 29) hC hS (hn _ (by decide)) rfl rfl in_X7 (by decide) rfl rfl lf_X7_43 dX7_turns_18 ?_
      refine lv_iload_n hx hb dX7_turns_21 rfl (lv_at hl 1 rfl) ?_
      refine lv_iconst (v := 1) hx hb dX7_turns_22 (by decide) ?_
      refine lv_iadd hx hb dX7_turns_23 ?_
      obtain ⟨hi, hF⟩ := ckb_some hF
      refine ald hC hS (hn _ (by decide)) (by decide) rfl hi dX7_turns_24 ?_
      refine lv_icmp_le (tgt := 34) hx hb dX7_turns_25 (by decide) (fun hc => ?_) (fun hc => ?_)
      · rw [if_pos hc] at hF
        exact b_X7_turns_34 hC hr hlk hn _ _ _ _ _ hF hS (lv_sub hl [0, 1] rfl)
      · rw [if_neg hc] at hF
        refine lv_iinc (v := x1 + (-1)) (lv' := [(1, .int (x1 + (-1))), (0, .ref (G.1 61))]) hx hb dX7_turns_28 hl (k := 1) rfl rfl (by decide) rfl (fun ls hl => ?_)
        refine lv_goto (tgt := 7) hx hb dX7_turns_31 (by decide) ?_
        exact ih _ _ _ _ _ hF hS (lv_sub hl [1, 0] rfl)
set_option maxHeartbeats 4000000 in
set_option maxRecDepth 100000 in
theorem b_X7_turns {M0 : Mem} {r0 : Int32} (hC : SX p m c s args cX7_turns 6 RX7 G (AG G)) (hr : meth.sig.returnType = (some .boolean)) (hlk : meth.locks = false) (hn : ∀ i ∈ LsF, i ∈ gL G) : ∀ (M : Mem) (H : Heap) (locs : List Loc) (ls : Array Slot), F_X7_turns M = some (r0, M0) → ST G (AG G) s M H locs → lv_has ls 6 [(0, .ref (G.1 61))] → W p l e (RM 0 0) s m args below meth c H locs 0 0 (MQ below (QV G (some (.int r0)) M0) args s 0 0 (AG G)) (F0 m 0 ls []) := by
  obtain ⟨⟨hx, hb, hml, hown, hts⟩, hK, hG, hA⟩ := id hC
  intro M H locs ls hF hS hl
  unfold F_X7_turns at hF
  refine lv_aload_n hx hb dX7_turns_0 rfl (lv_at hl 0 rfl) ?_
  refine gx (ci := 7) (k := 15) (v := .int (M.1 43)) (C := RX7) (T := TX7) (N := 29) hC hS (hn _ (by decide)) rfl rfl in_X7 (by decide) rfl rfl lf_X7_145 dX7_turns_1 ?_
  refine lv_iconst (v := 2) hx hb dX7_turns_4 (by decide) ?_
  refine lv_isub hx hb dX7_turns_5 ?_
  refine lv_istore_n (lv' := [(1, .int ((M.1 43) - 2)), (0, .ref (G.1 61))]) hx hb dX7_turns_6 rfl hl (by decide) rfl (fun ls hl => ?_)
  exact b_X7_turns_7 hC hr hlk hn fu _ _ _ _ _ hF hS (lv_sub hl [1, 0] rfl)
set_option maxRecDepth 100000 in
theorem c_X7_turns (l : Launch) (G : GT) (hn : ∀ i ∈ LsF, i ∈ gL G) (M : Mem) (r0 : Int32) (M0 : Mem) (hF : F_X7_turns M = some (r0, M0)) : MetG l G yX7_turns cX7_turns 6 (some .boolean) 0 0 [.ref (G.1 61)] M (some (.int r0)) M0 := by
  refine MetG.of (by decide) (Nat.le_of_ble_eq_true rfl) ?_
  intro p e s m args below meth c hC hr hlk hnm ls hS hl
  exact b_X7_turns hC hr hlk hn _ _ _ _ hF hS hl
end
