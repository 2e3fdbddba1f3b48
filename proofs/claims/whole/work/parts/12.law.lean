section
variable {p : Program} {l : Launch} {e : Env} {s : State} {m : MethodId} {args : Array Value} {below : List Frame} {meth : Method} {c : Code} {G : GT}
def F_X2_saysTheSameAs_48 (M : Mem) : Option (Int32 × Mem) := some (0, M)
def F_X2_saysTheSameAs (j : Nat) (j1 : Nat) (M : Mem) : Option (Int32 × Mem) := if (M.1 (10 + 6 * j + 2)) = (M.1 (10 + 6 * j1 + 2)) then if (M.1 (10 + 6 * j + 3)) = (M.1 (10 + 6 * j1 + 3)) then if (M.1 (10 + 6 * j + 4)) = (M.1 (10 + 6 * j1 + 4)) then if (M.1 (10 + 6 * j + 5)) = (M.1 (10 + 6 * j1 + 5)) then some (1, M) else F_X2_saysTheSameAs_48 M else F_X2_saysTheSameAs_48 M else F_X2_saysTheSameAs_48 M else F_X2_saysTheSameAs_48 M
set_option maxHeartbeats 4000000 in
set_option maxRecDepth 100000 in
theorem b_X2_saysTheSameAs_48 {M0 : Mem} {r0 : Int32} (hC : SX p m c s args cX2_saysTheSameAs 2 RX2 G (AG G)) (hr : meth.sig.returnType = (some .boolean)) (hlk : meth.locks = false) (hn : ∀ i ∈ LsF, i ∈ gL G) : ∀ (M : Mem) (H : Heap) (locs : List Loc) (ls : Array Slot), F_X2_saysTheSameAs_48 M = some (r0, M0) → ST G (AG G) s M H locs → lv_has ls 2 [] → W p l e (RM 0 0) s m args below meth c H locs 0 0 (MQ below (QV G (some (.int r0)) M0) args s 0 0 (AG G)) (F0 m 48 ls []) := by
  obtain ⟨⟨hx, hb, hml, hown, hts⟩, hK, hG, hA⟩ := id hC
  intro M H locs ls hF hS hl
  unfold F_X2_saysTheSameAs_48 at hF
  refine lv_iconst (v := 0) hx hb dX2_saysTheSameAs_48 (by decide) ?_
  exact retZ hC hS hr hlk rfl hF dX2_saysTheSameAs_49
set_option maxHeartbeats 4000000 in
set_option maxRecDepth 100000 in
theorem b_X2_saysTheSameAs {j : Nat} {j1 : Nat} {M0 : Mem} {r0 : Int32} (hC : SX p m c s args cX2_saysTheSameAs 2 RX2 G (AG G)) (hr : meth.sig.returnType = (some .boolean)) (hlk : meth.locks = false) (hn : ∀ i ∈ LsF, i ∈ gL G) (hj : j < 2) (hj1 : j1 < 2) : ∀ (M : Mem) (H : Heap) (locs : List Loc) (ls : Array Slot), F_X2_saysTheSameAs j j1 M = some (r0, M0) → ST G (AG G) s M H locs → lv_has ls 2 [(0, .ref (G.1 (53 + j))), (1, .ref (G.1 (53 + j1)))] → W p l e (RM 0 0) s m args below meth c H locs 0 0 (MQ below (QV G (some (.int r0)) M0) args s 0 0 (AG G)) (F0 m 0 ls []) := by
  obtain ⟨⟨hx, hb, hml, hown, hts⟩, hK, hG, hA⟩ := id hC
  intro M H locs ls hF hS hl
  unfold F_X2_saysTheSameAs at hF
  refine lv_aload_n hx hb dX2_saysTheSameAs_0 rfl (lv_at hl 0 rfl) ?_
  refine gx (ci := 2) (k := 3) (v := .int (M.1 (10 + 6 * j + 2))) (C := RX2) (T := TX2) (N := 7) hC hS (hn _ (mL hj)) (ceL hj) rfl in_X2 (by decide) rfl rfl lf_X2_22 dX2_saysTheSameAs_1 ?_
  refine lv_aload_n hx hb dX2_saysTheSameAs_4 rfl (lv_at hl 1 rfl) ?_
  refine gx (ci := 2) (k := 3) (v := .int (M.1 (10 + 6 * j1 + 2))) (C := RX2) (T := TX2) (N := 7) hC hS (hn _ (mL hj1)) (ceL hj1) rfl in_X2 (by decide) rfl rfl lf_X2_22 dX2_saysTheSameAs_5 ?_
  refine lv_icmp_ne (tgt := 48) hx hb dX2_saysTheSameAs_8 (by decide) (fun hc => ?_) (fun hc => ?_)
  · rw [if_neg hc] at hF
    exact b_X2_saysTheSameAs_48 hC hr hlk hn _ _ _ _ hF hS (lv_sub hl [] rfl)
  · rw [if_pos hc] at hF
    refine lv_aload_n hx hb dX2_saysTheSameAs_11 rfl (lv_at hl 0 rfl) ?_
    refine gx (ci := 2) (k := 4) (v := .int (M.1 (10 + 6 * j + 3))) (C := RX2) (T := TX2) (N := 7) hC hS (hn _ (mL hj)) (ceL hj) rfl in_X2 (by decide) rfl rfl lf_X2_25 dX2_saysTheSameAs_12 ?_
    refine lv_aload_n hx hb dX2_saysTheSameAs_15 rfl (lv_at hl 1 rfl) ?_
    refine gx (ci := 2) (k := 4) (v := .int (M.1 (10 + 6 * j1 + 3))) (C := RX2) (T := TX2) (N := 7) hC hS (hn _ (mL hj1)) (ceL hj1) rfl in_X2 (by decide) rfl rfl lf_X2_25 dX2_saysTheSameAs_16 ?_
    refine lv_icmp_ne (tgt := 48) hx hb dX2_saysTheSameAs_19 (by decide) (fun hc => ?_) (fun hc => ?_)
    · rw [if_neg hc] at hF
      exact b_X2_saysTheSameAs_48 hC hr hlk hn _ _ _ _ hF hS (lv_sub hl [] rfl)
    · rw [if_pos hc] at hF
      refine lv_aload_n hx hb dX2_saysTheSameAs_22 rfl (lv_at hl 0 rfl) ?_
      refine gx (ci := 2) (k := 5) (v := .int (M.1 (10 + 6 * j + 4))) (C := RX2) (T := TX2) (N := 7) hC hS (hn _ (mL hj)) (ceL hj) rfl in_X2 (by decide) rfl rfl lf_X2_28 dX2_saysTheSameAs_23 ?_
      refine lv_aload_n hx hb dX2_saysTheSameAs_26 rfl (lv_at hl 1 rfl) ?_
      refine gx (ci := 2) (k := 5) (v := .int (M.1 (10 + 6 * j1 + 4))) (C := RX2) (T := TX2) (N := 7) hC hS (hn _ (mL hj1)) (ceL hj1) rfl in_X2 (by decide) rfl rfl lf_X2_28 dX2_saysTheSameAs_27 ?_
      refine lv_icmp_ne (tgt := 48) hx hb dX2_saysTheSameAs_30 (by decide) (fun hc => ?_) (fun hc => ?_)
      · rw [if_neg hc] at hF
        exact b_X2_saysTheSameAs_48 hC hr hlk hn _ _ _ _ hF hS (lv_sub hl [] rfl)
      · rw [if_pos hc] at hF
        refine lv_aload_n hx hb dX2_saysTheSameAs_33 rfl (lv_at hl 0 rfl) ?_
        refine gx (ci := 2) (k := 6) (v := .int (M.1 (10 + 6 * j + 5))) (C := RX2) (T := TX2) (N := 7) hC hS (hn _ (mL hj)) (ceL hj) rfl in_X2 (by decide) rfl rfl lf_X2_31 dX2_saysTheSameAs_34 ?_
        refine lv_aload_n hx hb dX2_saysTheSameAs_37 rfl (lv_at hl 1 rfl) ?_
        refine gx (ci := 2) (k := 6) (v := .int (M.1 (10 + 6 * j1 + 5))) (C := RX2) (T := TX2) (N := 7) hC hS (hn _ (mL hj1)) (ceL hj1) rfl in_X2 (by decide) rfl rfl lf_X2_31 dX2_saysTheSameAs_38 ?_
        refine lv_icmp_ne (tgt := 48) hx hb dX2_saysTheSameAs_41 (by decide) (fun hc => ?_) (fun hc => ?_)
        · rw [if_neg hc] at hF
          exact b_X2_saysTheSameAs_48 hC hr hlk hn _ _ _ _ hF hS (lv_sub hl [] rfl)
        · rw [if_pos hc] at hF
          refine lv_iconst (v := 1) hx hb dX2_saysTheSameAs_44 (by decide) ?_
          refine lv_goto (tgt := 49) hx hb dX2_saysTheSameAs_45 (by decide) ?_
          exact retZ hC hS hr hlk rfl hF dX2_saysTheSameAs_49
set_option maxRecDepth 100000 in
theorem c_X2_saysTheSameAs (l : Launch) (G : GT) (hn : ∀ i ∈ LsF, i ∈ gL G) (j : Nat) (j1 : Nat) (hj : j < 2) (hj1 : j1 < 2) (M : Mem) (r0 : Int32) (M0 : Mem) (hF : F_X2_saysTheSameAs j j1 M = some (r0, M0)) : MetG l G yX2_saysTheSameAs cX2_saysTheSameAs 2 (some .boolean) 0 0 [.ref (G.1 (53 + j)), .ref (G.1 (53 + j1))] M (some (.int r0)) M0 := by
  refine MetG.of (by decide) (Nat.le_of_ble_eq_true rfl) ?_
  intro p e s m args below meth c hC hr hlk hnm ls hS hl
  exact b_X2_saysTheSameAs hC hr hlk hn hj hj1 _ _ _ _ hF hS hl
def F_X2_takePart (j : Nat) (x1 : Int32) (x2 : Int32) (M : Mem) : Option Mem := if x1 = 99 then some (sv M (10 + 6 * j + 3) x2) else if x1 = 100 then some (sv M (10 + 6 * j + 5) x2) else if x1 = 101 then some (sv M (10 + 6 * j + 4) x2) else if x1 = 102 then some (sv M (10 + 6 * j + 5) x2) else if x1 = 103 then some (sv M (10 + 6 * j + 2) x2) else some (sv M (10 + 6 * j + 5) x2)
set_option maxHeartbeats 4000000 in
set_option maxRecDepth 100000 in
theorem b_X2_takePart {j : Nat} {M0 : Mem} (hC : SX p m c s args cX2_takePart 3 RX2 G (AG G)) (hr : meth.sig.returnType = none) (hlk : meth.locks = false) (hn : ∀ i ∈ LsF, i ∈ gL G) (hj : j < 2) : ∀ (x1 : Int32) (x2 : Int32) (M : Mem) (H : Heap) (locs : List Loc) (ls : Array Slot), F_X2_takePart j x1 x2 M = some M0 → ST G (AG G) s M H locs → lv_has ls 3 [(0, .ref (G.1 (53 + j))), (1, .int x1), (2, .int x2)] → W p l e (RM 0 0) s m args below meth c H locs 0 0 (MQ below (QV G none M0) args s 0 0 (AG G)) (F0 m 0 ls []) := by
  obtain ⟨⟨hx, hb, hml, hown, hts⟩, hK, hG, hA⟩ := id hC
  intro x1 x2 M H locs ls hF hS hl
  unfold F_X2_takePart at hF
  refine lv_iload_n hx hb dX2_takePart_0 rfl (lv_at hl 1 rfl) ?_
  by_cases hc99 : x1 = 99
  · rw [if_pos hc99] at hF
    refine lv_tableIn (off := 43) (tgt := 44) hx hb dX2_takePart_1 (by rw [hc99]; decide) (by rw [hc99]; decide) (by rw [hc99]; rfl) (by decide) ?_
    refine lv_aload_n hx hb dX2_takePart_44 rfl (lv_at hl 0 rfl) ?_
    refine lv_iload_n hx hb dX2_takePart_45 rfl (lv_at hl 2 rfl) ?_
    refine px (ci := 2) (k := 4) (n := 10 + 6 * j + 3) (ty := .int) (C := RX2) (T := TX2) (N := 7) hC hS (hn _ (mL hj)) (ceL hj) rfl in_X2 tyX2_ok nmX2 (by decide) rfl rfl (by decide +kernel) rfl rfl (Nat.le_of_ble_eq_true rfl) (owL3 hj) (seL3 hj) lf_X2_25 dX2_takePart_46 (fun H locs hS => ?_)
    refine lv_goto (tgt := 65) hx hb dX2_takePart_49 (by decide) ?_
    exact retV hC hS hr hlk hF dX2_takePart_65
  rw [if_neg hc99] at hF
  by_cases hc100 : x1 = 100
  · rw [if_pos hc100] at hF
    refine lv_tableIn (off := 59) (tgt := 60) hx hb dX2_takePart_1 (by rw [hc100]; decide) (by rw [hc100]; decide) (by rw [hc100]; rfl) (by decide) ?_
    refine lv_aload_n hx hb dX2_takePart_60 rfl (lv_at hl 0 rfl) ?_
    refine lv_iload_n hx hb dX2_takePart_61 rfl (lv_at hl 2 rfl) ?_
    refine px (ci := 2) (k := 6) (n := 10 + 6 * j + 5) (ty := .int) (C := RX2) (T := TX2) (N := 7) hC hS (hn _ (mL hj)) (ceL hj) rfl in_X2 tyX2_ok nmX2 (by decide) rfl rfl (by decide +kernel) rfl rfl (Nat.le_of_ble_eq_true rfl) (owL5 hj) (seL5 hj) lf_X2_31 dX2_takePart_62 (fun H locs hS => ?_)
    exact retV hC hS hr hlk hF dX2_takePart_65
  rw [if_neg hc100] at hF
  by_cases hc101 : x1 = 101
  · rw [if_pos hc101] at hF
    refine lv_tableIn (off := 51) (tgt := 52) hx hb dX2_takePart_1 (by rw [hc101]; decide) (by rw [hc101]; decide) (by rw [hc101]; rfl) (by decide) ?_
    refine lv_aload_n hx hb dX2_takePart_52 rfl (lv_at hl 0 rfl) ?_
    refine lv_iload_n hx hb dX2_takePart_53 rfl (lv_at hl 2 rfl) ?_
    refine px (ci := 2) (k := 5) (n := 10 + 6 * j + 4) (ty := .int) (C := RX2) (T := TX2) (N := 7) hC hS (hn _ (mL hj)) (ceL hj) rfl in_X2 tyX2_ok nmX2 (by decide) rfl rfl (by decide +kernel) rfl rfl (Nat.le_of_ble_eq_true rfl) (owL4 hj) (seL4 hj) lf_X2_28 dX2_takePart_54 (fun H locs hS => ?_)
    refine lv_goto (tgt := 65) hx hb dX2_takePart_57 (by decide) ?_
    exact retV hC hS hr hlk hF dX2_takePart_65
  rw [if_neg hc101] at hF
  by_cases hc102 : x1 = 102
  · rw [if_pos hc102] at hF
    refine lv_tableIn (off := 59) (tgt := 60) hx hb dX2_takePart_1 (by rw [hc102]; decide) (by rw [hc102]; decide) (by rw [hc102]; rfl) (by decide) ?_
    refine lv_aload_n hx hb dX2_takePart_60 rfl (lv_at hl 0 rfl) ?_
    refine lv_iload_n hx hb dX2_takePart_61 rfl (lv_at hl 2 rfl) ?_
    refine px (ci := 2) (k := 6) (n := 10 + 6 * j + 5) (ty := .int) (C := RX2) (T := TX2) (N := 7) hC hS (hn _ (mL hj)) (ceL hj) rfl in_X2 tyX2_ok nmX2 (by decide) rfl rfl (by decide +kernel) rfl rfl (Nat.le_of_ble_eq_true rfl) (owL5 hj) (seL5 hj) lf_X2_31 dX2_takePart_62 (fun H locs hS => ?_)
    exact retV hC hS hr hlk hF dX2_takePart_65
  rw [if_neg hc102] at hF
  by_cases hc103 : x1 = 103
  · rw [if_pos hc103] at hF
    refine lv_tableIn (off := 35) (tgt := 36) hx hb dX2_takePart_1 (by rw [hc103]; decide) (by rw [hc103]; decide) (by rw [hc103]; rfl) (by decide) ?_
    refine lv_aload_n hx hb dX2_takePart_36 rfl (lv_at hl 0 rfl) ?_
    refine lv_iload_n hx hb dX2_takePart_37 rfl (lv_at hl 2 rfl) ?_
    refine px (ci := 2) (k := 3) (n := 10 + 6 * j + 2) (ty := .int) (C := RX2) (T := TX2) (N := 7) hC hS (hn _ (mL hj)) (ceL hj) rfl in_X2 tyX2_ok nmX2 (by decide) rfl rfl (by decide +kernel) rfl rfl (Nat.le_of_ble_eq_true rfl) (owL2 hj) (seL2 hj) lf_X2_22 dX2_takePart_38 (fun H locs hS => ?_)
    refine lv_goto (tgt := 65) hx hb dX2_takePart_41 (by decide) ?_
    exact retV hC hS hr hlk hF dX2_takePart_65
  rw [if_neg hc103] at hF
  have hc99 := neI hc99
  have hc100 := neI hc100
  have hc101 := neI hc101
  have hc102 := neI hc102
  have hc103 := neI hc103
  refine lv_tableOut (tgt := 60) hx hb dX2_takePart_1 (tOut99_103 hc99 hc100 hc101 hc102 hc103) (by decide) ?_
  refine lv_aload_n hx hb dX2_takePart_60 rfl (lv_at hl 0 rfl) ?_
  refine lv_iload_n hx hb dX2_takePart_61 rfl (lv_at hl 2 rfl) ?_
  refine px (ci := 2) (k := 6) (n := 10 + 6 * j + 5) (ty := .int) (C := RX2) (T := TX2) (N := 7) hC hS (hn _ (mL hj)) (ceL hj) rfl in_X2 tyX2_ok nmX2 (by decide) rfl rfl (by decide +kernel) rfl rfl (Nat.le_of_ble_eq_true rfl) (owL5 hj) (seL5 hj) lf_X2_31 dX2_takePart_62 (fun H locs hS => ?_)
  exact retV hC hS hr hlk hF dX2_takePart_65
set_option maxRecDepth 100000 in
theorem c_X2_takePart (l : Launch) (G : GT) (hn : ∀ i ∈ LsF, i ∈ gL G) (j : Nat) (hj : j < 2) (x1 : Int32) (x2 : Int32) (M : Mem) (M0 : Mem) (hF : F_X2_takePart j x1 x2 M = some M0) : MetG l G yX2_takePart cX2_takePart 3 none 0 0 [.ref (G.1 (53 + j)), .int x1, .int x2] M none M0 := by
  refine MetG.of (by decide) (Nat.le_of_ble_eq_true rfl) ?_
  intro p e s m args below meth c hC hr hlk hnm ls hS hl
  exact b_X2_takePart hC hr hlk hn hj _ _ _ _ _ _ hF hS hl
end
