section
variable {p : Program} {l : Launch} {e : Env} {s : State} {m : MethodId} {args : Array Value} {below : List Frame} {meth : Method} {c : Code} {G : GT}
def F_X7_heardOnes (M : Mem) : Option (Int32 × Mem) := bd (F_X7_all M) (fun r1 M1 => some (r1 &&& ((M1.1 41) ^^^ (-1)), M1))
set_option maxHeartbeats 4000000 in
set_option maxRecDepth 100000 in
theorem b_X7_heardOnes {M0 : Mem} {r0 : Int32} (hC : SX p m c s args cX7_heardOnes 1 RX7 G (AG G)) (hr : meth.sig.returnType = (some .int)) (hlk : meth.locks = false) (hn : ∀ i ∈ LsF, i ∈ gL G) : ∀ (M : Mem) (H : Heap) (locs : List Loc) (ls : Array Slot), F_X7_heardOnes M = some (r0, M0) → ST G (AG G) s M H locs → lv_has ls 1 [(0, .ref (G.1 61))] → W p l e (RM 1 20) s m args below meth c H locs 0 0 (MQ below (QV G (some (.int r0)) M0) args s 0 0 (AG G)) (F0 m 0 ls []) := by
  obtain ⟨⟨hx, hb, hml, hown, hts⟩, hK, hG, hA⟩ := id hC
  intro M H locs ls hF hS hl
  unfold F_X7_heardOnes at hF
  refine lv_aload_n hx hb dX7_heardOnes_0 rfl (lv_at hl 0 rfl) ?_
  obtain ⟨r1, M1, h1, hF⟩ := bd_some hF
  refine cV_ (ci := 7) (i := 61) (C := RX7) (T := TX7) (N := 29) (As := []) (v := some (.int r1)) (rest := []) (st1 := [.int r1]) hC hS (hn _ (by decide)) rfl rfl (c_X7_all l G hn M _ _ h1) kV_X7_all lm_X7_97 ⟨Nat.le_of_ble_eq_true rfl, Nat.le_of_ble_eq_true rfl⟩ rfl hl.1 (Nat.le_of_ble_eq_true rfl) dX7_heardOnes_1 ⟨Nat.le_refl _, Nat.le_refl _⟩ rfl (fun H locs hS => ?_)
  refine lv_aload_n hx hb dX7_heardOnes_4 rfl (lv_at hl 0 rfl) ?_
  refine gx (ci := 7) (k := 8) (v := .int (M1.1 41)) (C := RX7) (T := TX7) (N := 29) hC hS (hn _ (by decide)) rfl rfl in_X7 (by decide) rfl rfl lf_X7_101 dX7_heardOnes_5 ?_
  refine lv_iconst (v := (-1)) hx hb dX7_heardOnes_8 (by decide) ?_
  refine lv_ixor hx hb dX7_heardOnes_9 ?_
  refine lv_iand hx hb dX7_heardOnes_10 ?_
  exact retI hC hS hr hlk hF dX7_heardOnes_11
set_option maxRecDepth 100000 in
theorem c_X7_heardOnes (l : Launch) (G : GT) (hn : ∀ i ∈ LsF, i ∈ gL G) (M : Mem) (r0 : Int32) (M0 : Mem) (hF : F_X7_heardOnes M = some (r0, M0)) : MetG l G yX7_heardOnes cX7_heardOnes 1 (some .int) 1 20 [.ref (G.1 61)] M (some (.int r0)) M0 := by
  refine MetG.of (by decide) (Nat.le_of_ble_eq_true rfl) ?_
  intro p e s m args below meth c hC hr hlk hnm ls hS hl
  exact b_X7_heardOnes hC hr hlk hn _ _ _ _ hF hS hl
def F_X7_laysPossible_90 (k11 : Int32 → Mem → Option Mem) (x1 : Int32) (M : Mem) : Option Mem := k11 (x1 + 1) M
def F_X7_laysPossible_11 : Nat → Int32 → Mem → Option Mem
  | 0, _, _ => none
  | n + 1, x1, M => if (M.1 40) ≤ x1 then some M else ckb (ix x1 10) (if (M.2 24 x1.toNatClampNeg) = 2 then ckb (ix x1 10) (ckb (ix x1 10) (ckb (ix (M.2 28 x1.toNatClampNeg) 10) (ckb (ix ((6 * (M.2 26 x1.toNatClampNeg)) + (M.2 26 (M.2 28 x1.toNatClampNeg).toNatClampNeg)) 36) (ckb (ix x1 10) (ckb (ix x1 10) (ckb (ix (M.2 28 x1.toNatClampNeg) 10) (bd (F_X7_apart (M.2 27 x1.toNatClampNeg) (M.2 27 (M.2 28 x1.toNatClampNeg).toNatClampNeg) M) (fun r72 M72 => if (M.2 23 ((6 * (M.2 26 x1.toNatClampNeg)) + (M.2 26 (M.2 28 x1.toNatClampNeg).toNatClampNeg)).toNatClampNeg) ≤ r72 then F_X7_laysPossible_90 (F_X7_laysPossible_11 n) x1 M72 else F_X7_laysPossible_90 (F_X7_laysPossible_11 n) x1 (sv M72 42 ((M72.1 42) ||| ((1 : Int32) <<< (x1 &&& 31)))))))))))) else F_X7_laysPossible_90 (F_X7_laysPossible_11 n) x1 M)
def F_X7_laysPossible (M : Mem) : Option Mem := bdv (F_X7_laysWays M) (fun M1 => F_X7_laysPossible_11 fu 0 (sv M1 42 0))
set_option maxHeartbeats 4000000 in
set_option maxRecDepth 100000 in
theorem b_X7_laysPossible_90 {k11 : Int32 → Mem → Option Mem} {M0 : Mem} (hC : SX p m c s args cX7_laysPossible 2 RX7 G (AG G)) (hr : meth.sig.returnType = none) (hlk : meth.locks = false) (hn : ∀ i ∈ LsF, i ∈ gL G) (hk11 : ∀ (x1 : Int32) (M : Mem) (H : Heap) (locs : List Loc) (ls : Array Slot), k11 x1 M = some M0 → ST G (AG G) s M H locs → lv_has ls 2 [(0, .ref (G.1 61)), (1, .int x1)] → W p l e (RM 1 23) s m args below meth c H locs 0 0 (MQ below (QV G none M0) args s 0 0 (AG G)) (F0 m 11 ls [])) : ∀ (x1 : Int32) (M : Mem) (H : Heap) (locs : List Loc) (ls : Array Slot), F_X7_laysPossible_90 k11 x1 M = some M0 → ST G (AG G) s M H locs → lv_has ls 2 [(0, .ref (G.1 61)), (1, .int x1)] → W p l e (RM 1 23) s m args below meth c H locs 0 0 (MQ below (QV G none M0) args s 0 0 (AG G)) (F0 m 90 ls []) := by
  obtain ⟨⟨hx, hb, hml, hown, hts⟩, hK, hG, hA⟩ := id hC
  intro x1 M H locs ls hF hS hl
  unfold F_X7_laysPossible_90 at hF
  refine lv_iinc (v := x1 + 1) (lv' := [(1, .int (x1 + 1)), (0, .ref (G.1 61))]) hx hb dX7_laysPossible_90 hl (k := 1) rfl rfl (by decide) rfl (fun ls hl => ?_)
  refine lv_goto (tgt := 11) hx hb dX7_laysPossible_93 (by decide) ?_
  exact hk11 _ _ _ _ _ hF hS (lv_sub hl [1, 0] rfl)
set_option maxHeartbeats 4000000 in
set_option maxRecDepth 100000 in
theorem b_X7_laysPossible_11 {M0 : Mem} (hC : SX p m c s args cX7_laysPossible 2 RX7 G (AG G)) (hr : meth.sig.returnType = none) (hlk : meth.locks = false) (hn : ∀ i ∈ LsF, i ∈ gL G) : ∀ (n : Nat) (x1 : Int32) (M : Mem) (H : Heap) (locs : List Loc) (ls : Array Slot), F_X7_laysPossible_11 n x1 M = some M0 → ST G (AG G) s M H locs → lv_has ls 2 [(0, .ref (G.1 61)), (1, .int x1)] → W p l e (RM 1 23) s m args below meth c H locs 0 0 (MQ below (QV G none M0) args s 0 0 (AG G)) (F0 m 11 ls []) := by
  obtain ⟨⟨hx, hb, hml, hown, hts⟩, hK, hG, hA⟩ := id hC
  intro n
  induction n with
  | zero =>
    intro x1 M H locs ls hF
    cases hF
  | succ n ih =>
    intro x1 M H locs ls hF hS hl
    unfold F_X7_laysPossible_11 at hF
    refine lv_iload_n hx hb dX7_laysPossible_11 rfl (lv_at hl 1 rfl) ?_
    refine lv_aload_n hx hb dX7_laysPossible_12 rfl (lv_at hl 0 rfl) ?_
    refine gx (ci := 7) (k := 2) (v := .int (M.1 40)) (C := RX7) (T := TX7) (N := 29) hC hS (hn _ (by decide)) rfl rfl in_X7 (by decide) rfl rfl lf_X7_82 dX7_laysPossible_13 ?_
    refine lv_icmp_ge (tgt := 96) hx hb dX7_laysPossible_16 (by decide) (fun hc => ?_) (fun hc => ?_)
    · rw [if_pos hc] at hF
      exact retV hC hS hr hlk hF dX7_laysPossible_96
    · rw [if_neg hc] at hF
      refine lv_aload_n hx hb dX7_laysPossible_19 rfl (lv_at hl 0 rfl) ?_
      refine gx (ci := 7) (k := 3) (v := .ref (G.1 24)) (C := RX7) (T := TX7) (N := 29) hC hS (hn _ (by decide)) rfl rfl in_X7 (by decide) rfl rfl lf_X7_16 dX7_laysPossible_20 ?_
      refine lv_iload_n hx hb dX7_laysPossible_23 rfl (lv_at hl 1 rfl) ?_
      obtain ⟨hi, hF⟩ := ckb_some hF
      refine ald hC hS (hn _ (by decide)) (by decide) rfl hi dX7_laysPossible_24 ?_
      refine lv_iconst (v := 2) hx hb dX7_laysPossible_25 (by decide) ?_
      refine lv_icmp_ne (tgt := 90) hx hb dX7_laysPossible_26 (by decide) (fun hc => ?_) (fun hc => ?_)
      · rw [if_neg hc] at hF
        exact b_X7_laysPossible_90 hC hr hlk hn ih _ _ _ _ _ hF hS (lv_sub hl [0, 1] rfl)
      · rw [if_pos hc] at hF
        refine lv_aload_n hx hb dX7_laysPossible_29 rfl (lv_at hl 0 rfl) ?_
        refine gx (ci := 7) (k := 1) (v := .ref (G.1 23)) (C := RX7) (T := TX7) (N := 29) hC hS (hn _ (by decide)) rfl rfl in_X7 (by decide) rfl rfl lf_X7_13 dX7_laysPossible_30 ?_
        refine lv_bipush (v := 6) hx hb dX7_laysPossible_33 (by decide) ?_
        refine lv_aload_n hx hb dX7_laysPossible_35 rfl (lv_at hl 0 rfl) ?_
        refine gx (ci := 7) (k := 5) (v := .ref (G.1 26)) (C := RX7) (T := TX7) (N := 29) hC hS (hn _ (by decide)) rfl rfl in_X7 (by decide) rfl rfl lf_X7_22 dX7_laysPossible_36 ?_
        refine lv_iload_n hx hb dX7_laysPossible_39 rfl (lv_at hl 1 rfl) ?_
        obtain ⟨hi, hF⟩ := ckb_some hF
        refine ald hC hS (hn _ (by decide)) (by decide) rfl hi dX7_laysPossible_40 ?_
        refine lv_imul hx hb dX7_laysPossible_41 ?_
        refine lv_aload_n hx hb dX7_laysPossible_42 rfl (lv_at hl 0 rfl) ?_
        refine gx (ci := 7) (k := 5) (v := .ref (G.1 26)) (C := RX7) (T := TX7) (N := 29) hC hS (hn _ (by decide)) rfl rfl in_X7 (by decide) rfl rfl lf_X7_22 dX7_laysPossible_43 ?_
        refine lv_aload_n hx hb dX7_laysPossible_46 rfl (lv_at hl 0 rfl) ?_
        refine gx (ci := 7) (k := 7) (v := .ref (G.1 28)) (C := RX7) (T := TX7) (N := 29) hC hS (hn _ (by decide)) rfl rfl in_X7 (by decide) rfl rfl lf_X7_28 dX7_laysPossible_47 ?_
        refine lv_iload_n hx hb dX7_laysPossible_50 rfl (lv_at hl 1 rfl) ?_
        obtain ⟨hi, hF⟩ := ckb_some hF
        refine ald hC hS (hn _ (by decide)) (by decide) rfl hi dX7_laysPossible_51 ?_
        obtain ⟨hi, hF⟩ := ckb_some hF
        refine ald hC hS (hn _ (by decide)) (by decide) rfl hi dX7_laysPossible_52 ?_
        refine lv_iadd hx hb dX7_laysPossible_53 ?_
        obtain ⟨hi, hF⟩ := ckb_some hF
        refine ald hC hS (hn _ (by decide)) (by decide) rfl hi dX7_laysPossible_54 ?_
        refine lv_aload_n hx hb dX7_laysPossible_55 rfl (lv_at hl 0 rfl) ?_
        refine gx (ci := 7) (k := 6) (v := .ref (G.1 27)) (C := RX7) (T := TX7) (N := 29) hC hS (hn _ (by decide)) rfl rfl in_X7 (by decide) rfl rfl lf_X7_25 dX7_laysPossible_56 ?_
        refine lv_iload_n hx hb dX7_laysPossible_59 rfl (lv_at hl 1 rfl) ?_
        obtain ⟨hi, hF⟩ := ckb_some hF
        refine ald hC hS (hn _ (by decide)) (by decide) rfl hi dX7_laysPossible_60 ?_
        refine lv_aload_n hx hb dX7_laysPossible_61 rfl (lv_at hl 0 rfl) ?_
        refine gx (ci := 7) (k := 6) (v := .ref (G.1 27)) (C := RX7) (T := TX7) (N := 29) hC hS (hn _ (by decide)) rfl rfl in_X7 (by decide) rfl rfl lf_X7_25 dX7_laysPossible_62 ?_
        refine lv_aload_n hx hb dX7_laysPossible_65 rfl (lv_at hl 0 rfl) ?_
        refine gx (ci := 7) (k := 7) (v := .ref (G.1 28)) (C := RX7) (T := TX7) (N := 29) hC hS (hn _ (by decide)) rfl rfl in_X7 (by decide) rfl rfl lf_X7_28 dX7_laysPossible_66 ?_
        refine lv_iload_n hx hb dX7_laysPossible_69 rfl (lv_at hl 1 rfl) ?_
        obtain ⟨hi, hF⟩ := ckb_some hF
        refine ald hC hS (hn _ (by decide)) (by decide) rfl hi dX7_laysPossible_70 ?_
        obtain ⟨hi, hF⟩ := ckb_some hF
        refine ald hC hS (hn _ (by decide)) (by decide) rfl hi dX7_laysPossible_71 ?_
        obtain ⟨r72, M72, h72, hF⟩ := bd_some hF
        refine cS_ (As := [.int (M.2 27 x1.toNatClampNeg), .int (M.2 27 (M.2 28 x1.toNatClampNeg).toNatClampNeg)]) (v := some (.int r72)) (rest := [.int (M.2 23 ((6 * (M.2 26 x1.toNatClampNeg)) + (M.2 26 (M.2 28 x1.toNatClampNeg).toNatClampNeg)).toNatClampNeg)]) (st1 := [.int r72, .int (M.2 23 ((6 * (M.2 26 x1.toNatClampNeg)) + (M.2 26 (M.2 28 x1.toNatClampNeg).toNatClampNeg)).toNatClampNeg)]) hC hS (c_X7_apart l G hn (M.2 27 x1.toNatClampNeg) (M.2 27 (M.2 28 x1.toNatClampNeg).toNatClampNeg) M _ _ h72) kS_X7_apart lm_X7_107 ⟨Nat.le_of_ble_eq_true rfl, Nat.le_of_ble_eq_true rfl⟩ rfl hl.1 (Nat.le_of_ble_eq_true rfl) dX7_laysPossible_72 ⟨Nat.le_refl _, Nat.le_refl _⟩ rfl (fun H locs hS => ?_)
        refine lv_icmp_le (tgt := 90) hx hb dX7_laysPossible_75 (by decide) (fun hc => ?_) (fun hc => ?_)
        · rw [if_pos hc] at hF
          exact b_X7_laysPossible_90 hC hr hlk hn ih _ _ _ _ _ hF hS (lv_sub hl [0, 1] rfl)
        · rw [if_neg hc] at hF
          refine lv_aload_n hx hb dX7_laysPossible_78 rfl (lv_at hl 0 rfl) ?_
          refine lv_dup hx hb dX7_laysPossible_79 rfl ?_
          refine gx (ci := 7) (k := 9) (v := .int (M72.1 42)) (C := RX7) (T := TX7) (N := 29) hC hS (hn _ (by decide)) rfl rfl in_X7 (by decide) rfl rfl lf_X7_104 dX7_laysPossible_80 ?_
          refine lv_iconst (v := 1) hx hb dX7_laysPossible_83 (by decide) ?_
          refine lv_iload_n hx hb dX7_laysPossible_84 rfl (lv_at hl 1 rfl) ?_
          refine lv_ishl hx hb dX7_laysPossible_85 ?_
          refine lv_ior hx hb dX7_laysPossible_86 ?_
          refine px (ci := 7) (k := 9) (n := 42) (ty := .int) (C := RX7) (T := TX7) (N := 29) hC hS (hn _ (by decide)) rfl rfl in_X7 tyX7_ok nmX7 (by decide) rfl rfl (by decide +kernel) rfl rfl (Nat.le_of_ble_eq_true rfl) rfl se_X7_9 lf_X7_104 dX7_laysPossible_87 (fun H locs hS => ?_)
          exact b_X7_laysPossible_90 hC hr hlk hn ih _ _ _ _ _ hF hS (lv_sub hl [0, 1] rfl)
set_option maxHeartbeats 4000000 in
set_option maxRecDepth 100000 in
theorem b_X7_laysPossible {M0 : Mem} (hC : SX p m c s args cX7_laysPossible 2 RX7 G (AG G)) (hr : meth.sig.returnType = none) (hlk : meth.locks = false) (hn : ∀ i ∈ LsF, i ∈ gL G) : ∀ (M : Mem) (H : Heap) (locs : List Loc) (ls : Array Slot), F_X7_laysPossible M = some M0 → ST G (AG G) s M H locs → lv_has ls 2 [(0, .ref (G.1 61))] → W p l e (RM 1 23) s m args below meth c H locs 0 0 (MQ below (QV G none M0) args s 0 0 (AG G)) (F0 m 0 ls []) := by
  obtain ⟨⟨hx, hb, hml, hown, hts⟩, hK, hG, hA⟩ := id hC
  intro M H locs ls hF hS hl
  unfold F_X7_laysPossible at hF
  refine lv_aload_n hx hb dX7_laysPossible_0 rfl (lv_at hl 0 rfl) ?_
  obtain ⟨M1, h1, hF⟩ := bdv_some hF
  refine cV_ (ci := 7) (i := 61) (C := RX7) (T := TX7) (N := 29) (As := []) (v := none) (rest := []) (st1 := []) hC hS (hn _ (by decide)) rfl rfl (c_X7_laysWays l G hn M _ h1) kV_X7_laysWays lm_X7_79 ⟨Nat.le_of_ble_eq_true rfl, Nat.le_of_ble_eq_true rfl⟩ rfl hl.1 (Nat.le_of_ble_eq_true rfl) dX7_laysPossible_1 ⟨Nat.le_refl _, Nat.le_refl _⟩ rfl (fun H locs hS => ?_)
  refine lv_aload_n hx hb dX7_laysPossible_4 rfl (lv_at hl 0 rfl) ?_
  refine lv_iconst (v := 0) hx hb dX7_laysPossible_5 (by decide) ?_
  refine px (ci := 7) (k := 9) (n := 42) (ty := .int) (C := RX7) (T := TX7) (N := 29) hC hS (hn _ (by decide)) rfl rfl in_X7 tyX7_ok nmX7 (by decide) rfl rfl (by decide +kernel) rfl rfl (Nat.le_of_ble_eq_true rfl) rfl se_X7_9 lf_X7_104 dX7_laysPossible_6 (fun H locs hS => ?_)
  refine lv_iconst (v := 0) hx hb dX7_laysPossible_9 (by decide) ?_
  refine lv_istore_n (lv' := [(1, .int 0), (0, .ref (G.1 61))]) hx hb dX7_laysPossible_10 rfl hl (by decide) rfl (fun ls hl => ?_)
  exact b_X7_laysPossible_11 hC hr hlk hn fu _ _ _ _ _ hF hS (lv_sub hl [1, 0] rfl)
set_option maxRecDepth 100000 in
theorem c_X7_laysPossible (l : Launch) (G : GT) (hn : ∀ i ∈ LsF, i ∈ gL G) (M : Mem) (M0 : Mem) (hF : F_X7_laysPossible M = some M0) : MetG l G yX7_laysPossible cX7_laysPossible 2 none 1 23 [.ref (G.1 61)] M none M0 := by
  refine MetG.of (by decide) (Nat.le_of_ble_eq_true rfl) ?_
  intro p e s m args below meth c hC hr hlk hnm ls hS hl
  exact b_X7_laysPossible hC hr hlk hn _ _ _ _ hF hS hl
def F_X7_isNow (x1 : Int32) (x2 : Int32) (M : Mem) : Option (Int32 × Mem) := if x2 = 0 then ckb (ix x1 10) (some (M.2 24 x1.toNatClampNeg, M)) else if x2 = 1 then ckb (ix x1 10) (some (M.2 25 x1.toNatClampNeg, M)) else if x2 = 2 then ckb (ix x1 10) (some (M.2 26 x1.toNatClampNeg, M)) else if x2 = 3 then ckb (ix x1 10) (some (M.2 27 x1.toNatClampNeg, M)) else if x2 = 4 then ckb (ix x1 10) (some (M.2 28 x1.toNatClampNeg, M)) else if x2 = 5 then some (((M.1 41) >>> (x1 &&& 31)) &&& 1, M) else some (((M.1 42) >>> (x1 &&& 31)) &&& 1, M)
set_option maxHeartbeats 4000000 in
set_option maxRecDepth 100000 in
theorem b_X7_isNow {M0 : Mem} {r0 : Int32} (hC : SX p m c s args cX7_isNow 3 RX7 G (AG G)) (hr : meth.sig.returnType = (some .int)) (hlk : meth.locks = false) (hn : ∀ i ∈ LsF, i ∈ gL G) : ∀ (x1 : Int32) (x2 : Int32) (M : Mem) (H : Heap) (locs : List Loc) (ls : Array Slot), F_X7_isNow x1 x2 M = some (r0, M0) → ST G (AG G) s M H locs → lv_has ls 3 [(0, .ref (G.1 61)), (1, .int x1), (2, .int x2)] → W p l e (RM 0 0) s m args below meth c H locs 0 0 (MQ below (QV G (some (.int r0)) M0) args s 0 0 (AG G)) (F0 m 0 ls []) := by
  obtain ⟨⟨hx, hb, hml, hown, hts⟩, hK, hG, hA⟩ := id hC
  intro x1 x2 M H locs ls hF hS hl
  unfold F_X7_isNow at hF
  refine lv_iload_n hx hb dX7_isNow_0 rfl (lv_at hl 2 rfl) ?_
  by_cases hc0 : x2 = 0
  · rw [if_pos hc0] at hF
    refine lv_tableIn (off := 39) (tgt := 40) hx hb dX7_isNow_1 (by rw [hc0]; decide) (by rw [hc0]; decide) (by rw [hc0]; rfl) (by decide) ?_
    refine lv_aload_n hx hb dX7_isNow_40 rfl (lv_at hl 0 rfl) ?_
    refine gx (ci := 7) (k := 3) (v := .ref (G.1 24)) (C := RX7) (T := TX7) (N := 29) hC hS (hn _ (by decide)) rfl rfl in_X7 (by decide) rfl rfl lf_X7_16 dX7_isNow_41 ?_
    refine lv_iload_n hx hb dX7_isNow_44 rfl (lv_at hl 1 rfl) ?_
    obtain ⟨hi, hF⟩ := ckb_some hF
    refine ald hC hS (hn _ (by decide)) (by decide) rfl hi dX7_isNow_45 ?_
    exact retI hC hS hr hlk hF dX7_isNow_46
  rw [if_neg hc0] at hF
  by_cases hc1 : x2 = 1
  · rw [if_pos hc1] at hF
    refine lv_tableIn (off := 46) (tgt := 47) hx hb dX7_isNow_1 (by rw [hc1]; decide) (by rw [hc1]; decide) (by rw [hc1]; rfl) (by decide) ?_
    refine lv_aload_n hx hb dX7_isNow_47 rfl (lv_at hl 0 rfl) ?_
    refine gx (ci := 7) (k := 4) (v := .ref (G.1 25)) (C := RX7) (T := TX7) (N := 29) hC hS (hn _ (by decide)) rfl rfl in_X7 (by decide) rfl rfl lf_X7_19 dX7_isNow_48 ?_
    refine lv_iload_n hx hb dX7_isNow_51 rfl (lv_at hl 1 rfl) ?_
    obtain ⟨hi, hF⟩ := ckb_some hF
    refine ald hC hS (hn _ (by decide)) (by decide) rfl hi dX7_isNow_52 ?_
    exact retI hC hS hr hlk hF dX7_isNow_53
  rw [if_neg hc1] at hF
  by_cases hc2 : x2 = 2
  · rw [if_pos hc2] at hF
    refine lv_tableIn (off := 53) (tgt := 54) hx hb dX7_isNow_1 (by rw [hc2]; decide) (by rw [hc2]; decide) (by rw [hc2]; rfl) (by decide) ?_
    refine lv_aload_n hx hb dX7_isNow_54 rfl (lv_at hl 0 rfl) ?_
    refine gx (ci := 7) (k := 5) (v := .ref (G.1 26)) (C := RX7) (T := TX7) (N := 29) hC hS (hn _ (by decide)) rfl rfl in_X7 (by decide) rfl rfl lf_X7_22 dX7_isNow_55 ?_
    refine lv_iload_n hx hb dX7_isNow_58 rfl (lv_at hl 1 rfl) ?_
    obtain ⟨hi, hF⟩ := ckb_some hF
    refine ald hC hS (hn _ (by decide)) (by decide) rfl hi dX7_isNow_59 ?_
    exact retI hC hS hr hlk hF dX7_isNow_60
  rw [if_neg hc2] at hF
  by_cases hc3 : x2 = 3
  · rw [if_pos hc3] at hF
    refine lv_tableIn (off := 60) (tgt := 61) hx hb dX7_isNow_1 (by rw [hc3]; decide) (by rw [hc3]; decide) (by rw [hc3]; rfl) (by decide) ?_
    refine lv_aload_n hx hb dX7_isNow_61 rfl (lv_at hl 0 rfl) ?_
    refine gx (ci := 7) (k := 6) (v := .ref (G.1 27)) (C := RX7) (T := TX7) (N := 29) hC hS (hn _ (by decide)) rfl rfl in_X7 (by decide) rfl rfl lf_X7_25 dX7_isNow_62 ?_
    refine lv_iload_n hx hb dX7_isNow_65 rfl (lv_at hl 1 rfl) ?_
    obtain ⟨hi, hF⟩ := ckb_some hF
    refine ald hC hS (hn _ (by decide)) (by decide) rfl hi dX7_isNow_66 ?_
    exact retI hC hS hr hlk hF dX7_isNow_67
  rw [if_neg hc3] at hF
  by_cases hc4 : x2 = 4
  · rw [if_pos hc4] at hF
    refine lv_tableIn (off := 67) (tgt := 68) hx hb dX7_isNow_1 (by rw [hc4]; decide) (by rw [hc4]; decide) (by rw [hc4]; rfl) (by decide) ?_
    refine lv_aload_n hx hb dX7_isNow_68 rfl (lv_at hl 0 rfl) ?_
    refine gx (ci := 7) (k := 7) (v := .ref (G.1 28)) (C := RX7) (T := TX7) (N := 29) hC hS (hn _ (by decide)) rfl rfl in_X7 (by decide) rfl rfl lf_X7_28 dX7_isNow_69 ?_
    refine lv_iload_n hx hb dX7_isNow_72 rfl (lv_at hl 1 rfl) ?_
    obtain ⟨hi, hF⟩ := ckb_some hF
    refine ald hC hS (hn _ (by decide)) (by decide) rfl hi dX7_isNow_73 ?_
    exact retI hC hS hr hlk hF dX7_isNow_74
  rw [if_neg hc4] at hF
  by_cases hc5 : x2 = 5
  · rw [if_pos hc5] at hF
    refine lv_tableIn (off := 74) (tgt := 75) hx hb dX7_isNow_1 (by rw [hc5]; decide) (by rw [hc5]; decide) (by rw [hc5]; rfl) (by decide) ?_
    refine lv_aload_n hx hb dX7_isNow_75 rfl (lv_at hl 0 rfl) ?_
    refine gx (ci := 7) (k := 8) (v := .int (M.1 41)) (C := RX7) (T := TX7) (N := 29) hC hS (hn _ (by decide)) rfl rfl in_X7 (by decide) rfl rfl lf_X7_101 dX7_isNow_76 ?_
    refine lv_iload_n hx hb dX7_isNow_79 rfl (lv_at hl 1 rfl) ?_
    refine lv_ishr hx hb dX7_isNow_80 ?_
    refine lv_iconst (v := 1) hx hb dX7_isNow_81 (by decide) ?_
    refine lv_iand hx hb dX7_isNow_82 ?_
    exact retI hC hS hr hlk hF dX7_isNow_83
  rw [if_neg hc5] at hF
  have hc0 := neI hc0
  have hc1 := neI hc1
  have hc2 := neI hc2
  have hc3 := neI hc3
  have hc4 := neI hc4
  have hc5 := neI hc5
  refine lv_tableOut (tgt := 84) hx hb dX7_isNow_1 (tOut0_5 hc0 hc1 hc2 hc3 hc4 hc5) (by decide) ?_
  refine lv_aload_n hx hb dX7_isNow_84 rfl (lv_at hl 0 rfl) ?_
  refine gx (ci := 7) (k := 9) (v := .int (M.1 42)) (C := RX7) (T := TX7) (N := 29) hC hS (hn _ (by decide)) rfl rfl in_X7 (by decide) rfl rfl lf_X7_104 dX7_isNow_85 ?_
  refine lv_iload_n hx hb dX7_isNow_88 rfl (lv_at hl 1 rfl) ?_
  refine lv_ishr hx hb dX7_isNow_89 ?_
  refine lv_iconst (v := 1) hx hb dX7_isNow_90 (by decide) ?_
  refine lv_iand hx hb dX7_isNow_91 ?_
  exact retI hC hS hr hlk hF dX7_isNow_92
set_option maxRecDepth 100000 in
theorem c_X7_isNow (l : Launch) (G : GT) (hn : ∀ i ∈ LsF, i ∈ gL G) (x1 : Int32) (x2 : Int32) (M : Mem) (r0 : Int32) (M0 : Mem) (hF : F_X7_isNow x1 x2 M = some (r0, M0)) : MetG l G yX7_isNow cX7_isNow 3 (some .int) 0 0 [.ref (G.1 61), .int x1, .int x2] M (some (.int r0)) M0 := by
  refine MetG.of (by decide) (Nat.le_of_ble_eq_true rfl) ?_
  intro p e s m args below meth c hC hr hlk hnm ls hS hl
  exact b_X7_isNow hC hr hlk hn _ _ _ _ _ _ hF hS hl
def F_X7_is (x1 : Int32) (x2 : Int32) (M : Mem) : Option (Int32 × Mem) := bd (F_X7_isWord x1 M) (fun r2 M2 => if r2 = 0 then some ((-2), M2) else bd (F_X7_in x2 0 6 M2) (fun r12 M12 => if r12 = 0 then some ((-2), M12) else bdv (F_X7_laysPossible M12) (fun M22 => bd (F_X7_isNow x1 x2 M22) (fun r28 M28 => some (r28, M28)))))
set_option maxHeartbeats 4000000 in
set_option maxRecDepth 100000 in
theorem b_X7_is {M0 : Mem} {r0 : Int32} (hC : SX p m c s args cX7_is 3 RX7 G (AG G)) (hr : meth.sig.returnType = (some .int)) (hlk : meth.locks = false) (hn : ∀ i ∈ LsF, i ∈ gL G) : ∀ (x1 : Int32) (x2 : Int32) (M : Mem) (H : Heap) (locs : List Loc) (ls : Array Slot), F_X7_is x1 x2 M = some (r0, M0) → ST G (AG G) s M H locs → lv_has ls 3 [(0, .ref (G.1 61)), (1, .int x1), (2, .int x2)] → W p l e (RM 2 44) s m args below meth c H locs 0 0 (MQ below (QV G (some (.int r0)) M0) args s 0 0 (AG G)) (F0 m 0 ls []) := by
  obtain ⟨⟨hx, hb, hml, hown, hts⟩, hK, hG, hA⟩ := id hC
  intro x1 x2 M H locs ls hF hS hl
  unfold F_X7_is at hF
  refine lv_aload_n hx hb dX7_is_0 rfl (lv_at hl 0 rfl) ?_
  refine lv_iload_n hx hb dX7_is_1 rfl (lv_at hl 1 rfl) ?_
  obtain ⟨r2, M2, h2, hF⟩ := bd_some hF
  refine cV_ (ci := 7) (i := 61) (C := RX7) (T := TX7) (N := 29) (As := [.int x1]) (v := some (.int r2)) (rest := []) (st1 := [.int r2]) hC hS (hn _ (by decide)) rfl rfl (c_X7_isWord l G hn x1 M _ _ h2) kV_X7_isWord lm_X7_111 ⟨Nat.le_of_ble_eq_true rfl, Nat.le_of_ble_eq_true rfl⟩ rfl hl.1 (Nat.le_of_ble_eq_true rfl) dX7_is_2 ⟨Nat.le_refl _, Nat.le_refl _⟩ rfl (fun H locs hS => ?_)
  refine lv_if_eq (tgt := 18) hx hb dX7_is_5 (by decide) (fun hc => ?_) (fun hc => ?_)
  · rw [if_pos hc] at hF
    refine lv_bipush (v := (-2)) hx hb dX7_is_18 (by decide) ?_
    exact retI hC hS hr hlk hF dX7_is_20
  · rw [if_neg hc] at hF
    refine lv_iload_n hx hb dX7_is_8 rfl (lv_at hl 2 rfl) ?_
    refine lv_iconst (v := 0) hx hb dX7_is_9 (by decide) ?_
    refine lv_bipush (v := 6) hx hb dX7_is_10 (by decide) ?_
    obtain ⟨r12, M12, h12, hF⟩ := bd_some hF
    refine cS_ (As := [.int x2, .int 0, .int 6]) (v := some (.int r12)) (rest := []) (st1 := [.int r12]) hC hS (c_X7_in l G hn x2 0 6 M2 _ _ h12) kS_X7_in lm_X7_71 ⟨Nat.le_of_ble_eq_true rfl, Nat.le_of_ble_eq_true rfl⟩ rfl hl.1 (Nat.le_of_ble_eq_true rfl) dX7_is_12 ⟨Nat.le_refl _, Nat.le_refl _⟩ rfl (fun H locs hS => ?_)
    refine lv_if_ne (tgt := 21) hx hb dX7_is_15 (by decide) (fun hc => ?_) (fun hc => ?_)
    · rw [if_neg hc] at hF
      refine lv_aload_n hx hb dX7_is_21 rfl (lv_at hl 0 rfl) ?_
      obtain ⟨M22, h22, hF⟩ := bdv_some hF
      refine cV_ (ci := 7) (i := 61) (C := RX7) (T := TX7) (N := 29) (As := []) (v := none) (rest := []) (st1 := []) hC hS (hn _ (by decide)) rfl rfl (c_X7_laysPossible l G hn M12 _ h22) kV_X7_laysPossible lm_X7_114 ⟨Nat.le_of_ble_eq_true rfl, Nat.le_of_ble_eq_true rfl⟩ rfl hl.1 (Nat.le_of_ble_eq_true rfl) dX7_is_22 ⟨Nat.le_refl _, Nat.le_refl _⟩ rfl (fun H locs hS => ?_)
      refine lv_aload_n hx hb dX7_is_25 rfl (lv_at hl 0 rfl) ?_
      refine lv_iload_n hx hb dX7_is_26 rfl (lv_at hl 1 rfl) ?_
      refine lv_iload_n hx hb dX7_is_27 rfl (lv_at hl 2 rfl) ?_
      obtain ⟨r28, M28, h28, hF⟩ := bd_some hF
      refine cV_ (ci := 7) (i := 61) (C := RX7) (T := TX7) (N := 29) (As := [.int x1, .int x2]) (v := some (.int r28)) (rest := []) (st1 := [.int r28]) hC hS (hn _ (by decide)) rfl rfl (c_X7_isNow l G hn x1 x2 M22 _ _ h28) kV_X7_isNow lm_X7_117 ⟨Nat.le_of_ble_eq_true rfl, Nat.le_of_ble_eq_true rfl⟩ rfl hl.1 (Nat.le_of_ble_eq_true rfl) dX7_is_28 ⟨Nat.le_refl _, Nat.le_refl _⟩ rfl (fun H locs hS => ?_)
      exact retI hC hS hr hlk hF dX7_is_31
    · rw [if_pos hc] at hF
      refine lv_bipush (v := (-2)) hx hb dX7_is_18 (by decide) ?_
      exact retI hC hS hr hlk hF dX7_is_20
set_option maxRecDepth 100000 in
theorem c_X7_is (l : Launch) (G : GT) (hn : ∀ i ∈ LsF, i ∈ gL G) (x1 : Int32) (x2 : Int32) (M : Mem) (r0 : Int32) (M0 : Mem) (hF : F_X7_is x1 x2 M = some (r0, M0)) : MetG l G yX7_is cX7_is 3 (some .int) 2 44 [.ref (G.1 61), .int x1, .int x2] M (some (.int r0)) M0 := by
  refine MetG.of (by decide) (Nat.le_of_ble_eq_true rfl) ?_
  intro p e s m args below meth c hC hr hlk hnm ls hS hl
  exact b_X7_is hC hr hlk hn _ _ _ _ _ _ hF hS hl
def F_X7_keep (x1 : Int32) (M : Mem) : Option (Int32 × Mem) := bd (F_X7_all M) (fun r3 M3 => bd (F_X7_in x1 0 r3 M3) (fun r6 M6 => if r6 = 0 then some ((-2), M6) else some (M6.1 41, sv M6 41 x1)))
set_option maxHeartbeats 4000000 in
set_option maxRecDepth 100000 in
theorem b_X7_keep {M0 : Mem} {r0 : Int32} (hC : SX p m c s args cX7_keep 3 RX7 G (AG G)) (hr : meth.sig.returnType = (some .int)) (hlk : meth.locks = false) (hn : ∀ i ∈ LsF, i ∈ gL G) : ∀ (x1 : Int32) (M : Mem) (H : Heap) (locs : List Loc) (ls : Array Slot), F_X7_keep x1 M = some (r0, M0) → ST G (AG G) s M H locs → lv_has ls 3 [(0, .ref (G.1 61)), (1, .int x1)] → W p l e (RM 1 22) s m args below meth c H locs 0 0 (MQ below (QV G (some (.int r0)) M0) args s 0 0 (AG G)) (F0 m 0 ls []) := by
  obtain ⟨⟨hx, hb, hml, hown, hts⟩, hK, hG, hA⟩ := id hC
  intro x1 M H locs ls hF hS hl
  unfold F_X7_keep at hF
  refine lv_iload_n hx hb dX7_keep_0 rfl (lv_at hl 1 rfl) ?_
  refine lv_iconst (v := 0) hx hb dX7_keep_1 (by decide) ?_
  refine lv_aload_n hx hb dX7_keep_2 rfl (lv_at hl 0 rfl) ?_
  obtain ⟨r3, M3, h3, hF⟩ := bd_some hF
  refine cV_ (ci := 7) (i := 61) (C := RX7) (T := TX7) (N := 29) (As := []) (v := some (.int r3)) (rest := [.int 0, .int x1]) (st1 := [.int r3, .int 0, .int x1]) hC hS (hn _ (by decide)) rfl rfl (c_X7_all l G hn M _ _ h3) kV_X7_all lm_X7_97 ⟨Nat.le_of_ble_eq_true rfl, Nat.le_of_ble_eq_true rfl⟩ rfl hl.1 (Nat.le_of_ble_eq_true rfl) dX7_keep_3 ⟨Nat.le_refl _, Nat.le_refl _⟩ rfl (fun H locs hS => ?_)
  obtain ⟨r6, M6, h6, hF⟩ := bd_some hF
  refine cS_ (As := [.int x1, .int 0, .int r3]) (v := some (.int r6)) (rest := []) (st1 := [.int r6]) hC hS (c_X7_in l G hn x1 0 r3 M3 _ _ h6) kS_X7_in lm_X7_71 ⟨Nat.le_of_ble_eq_true rfl, Nat.le_of_ble_eq_true rfl⟩ rfl hl.1 (Nat.le_of_ble_eq_true rfl) dX7_keep_6 ⟨Nat.le_refl _, Nat.le_refl _⟩ rfl (fun H locs hS => ?_)
  refine lv_if_ne (tgt := 15) hx hb dX7_keep_9 (by decide) (fun hc => ?_) (fun hc => ?_)
  · rw [if_neg hc] at hF
    refine lv_aload_n hx hb dX7_keep_15 rfl (lv_at hl 0 rfl) ?_
    refine gx (ci := 7) (k := 8) (v := .int (M6.1 41)) (C := RX7) (T := TX7) (N := 29) hC hS (hn _ (by decide)) rfl rfl in_X7 (by decide) rfl rfl lf_X7_101 dX7_keep_16 ?_
    refine lv_istore_n (lv' := [(2, .int (M6.1 41)), (0, .ref (G.1 61)), (1, .int x1)]) hx hb dX7_keep_19 rfl hl (by decide) rfl (fun ls hl => ?_)
    refine lv_aload_n hx hb dX7_keep_20 rfl (lv_at hl 1 rfl) ?_
    refine lv_iload_n hx hb dX7_keep_21 rfl (lv_at hl 2 rfl) ?_
    refine px (ci := 7) (k := 8) (n := 41) (ty := .int) (C := RX7) (T := TX7) (N := 29) hC hS (hn _ (by decide)) rfl rfl in_X7 tyX7_ok nmX7 (by decide) rfl rfl (by decide +kernel) rfl rfl (Nat.le_of_ble_eq_true rfl) rfl se_X7_8 lf_X7_101 dX7_keep_22 (fun H locs hS => ?_)
    refine lv_iload_n hx hb dX7_keep_25 rfl (lv_at hl 0 rfl) ?_
    exact retI hC hS hr hlk hF dX7_keep_26
  · rw [if_pos hc] at hF
    refine lv_bipush (v := (-2)) hx hb dX7_keep_12 (by decide) ?_
    exact retI hC hS hr hlk hF dX7_keep_14
set_option maxRecDepth 100000 in
theorem c_X7_keep (l : Launch) (G : GT) (hn : ∀ i ∈ LsF, i ∈ gL G) (x1 : Int32) (M : Mem) (r0 : Int32) (M0 : Mem) (hF : F_X7_keep x1 M = some (r0, M0)) : MetG l G yX7_keep cX7_keep 3 (some .int) 1 22 [.ref (G.1 61), .int x1] M (some (.int r0)) M0 := by
  refine MetG.of (by decide) (Nat.le_of_ble_eq_true rfl) ?_
  intro p e s m args below meth c hC hr hlk hnm ls hS hl
  exact b_X7_keep hC hr hlk hn _ _ _ _ _ hF hS hl
def F_X7_isLaw (x0 : Int32) (M : Mem) : Option (Int32 × Mem) := bd (F_X7_in x0 0 1 M) (fun r3 M3 => ckb (zb r3) (some (r3, M3)))
set_option maxHeartbeats 4000000 in
set_option maxRecDepth 100000 in
theorem b_X7_isLaw {M0 : Mem} {r0 : Int32} (hC : SX p m c s args cX7_isLaw 1 RX7 G (AG G)) (hr : meth.sig.returnType = (some .boolean)) (hlk : meth.locks = false) (hn : ∀ i ∈ LsF, i ∈ gL G) : ∀ (x0 : Int32) (M : Mem) (H : Heap) (locs : List Loc) (ls : Array Slot), F_X7_isLaw x0 M = some (r0, M0) → ST G (AG G) s M H locs → lv_has ls 1 [(0, .int x0)] → W p l e (RM 1 22) s m args below meth c H locs 0 0 (MQ below (QV G (some (.int r0)) M0) args s 0 0 (AG G)) (F0 m 0 ls []) := by
  obtain ⟨⟨hx, hb, hml, hown, hts⟩, hK, hG, hA⟩ := id hC
  intro x0 M H locs ls hF hS hl
  unfold F_X7_isLaw at hF
  refine lv_iload_n hx hb dX7_isLaw_0 rfl (lv_at hl 0 rfl) ?_
  refine lv_iconst (v := 0) hx hb dX7_isLaw_1 (by decide) ?_
  refine lv_iconst (v := 1) hx hb dX7_isLaw_2 (by decide) ?_
  obtain ⟨r3, M3, h3, hF⟩ := bd_some hF
  refine cS_ (As := [.int x0, .int 0, .int 1]) (v := some (.int r3)) (rest := []) (st1 := [.int r3]) hC hS (c_X7_in l G hn x0 0 1 M _ _ h3) kS_X7_in lm_X7_71 ⟨Nat.le_of_ble_eq_true rfl, Nat.le_of_ble_eq_true rfl⟩ rfl hl.1 (Nat.le_of_ble_eq_true rfl) dX7_isLaw_3 ⟨Nat.le_refl _, Nat.le_refl _⟩ rfl (fun H locs hS => ?_)
  obtain ⟨hz, hF⟩ := ckb_some hF
  exact retZ hC hS hr hlk (zb_n hz) hF dX7_isLaw_6
set_option maxRecDepth 100000 in
theorem c_X7_isLaw (l : Launch) (G : GT) (hn : ∀ i ∈ LsF, i ∈ gL G) (x0 : Int32) (M : Mem) (r0 : Int32) (M0 : Mem) (hF : F_X7_isLaw x0 M = some (r0, M0)) : MetG l G yX7_isLaw cX7_isLaw 1 (some .boolean) 1 22 [.int x0] M (some (.int r0)) M0 := by
  refine MetG.of (by decide) (Nat.le_of_ble_eq_true rfl) ?_
  intro p e s m args below meth c hC hr hlk hnm ls hS hl
  exact b_X7_isLaw hC hr hlk hn _ _ _ _ _ hF hS hl
def F_X7_type (x1 : Int32) (x2 : Int32) (M : Mem) : Option (Int32 × Mem) := bd (F_X7_isLaw x1 M) (fun r1 M1 => if r1 = 0 then some ((-2), M1) else bd (F_X7_in x2 0 255 M1) (fun r12 M12 => if r12 = 0 then some ((-2), M12) else ckb (ix x1 2) (if (M12.2 29 x1.toNatClampNeg) = 40 then some ((-4), M12) else ckb (ix x1 2) (ckb (ix ((40 * x1) + (M12.2 29 x1.toNatClampNeg)) 80) (ckb (ix x1 2) (ckb (ix x1 2) (ckb (ix x1 2) (some ((sa (sa M12 30 ((40 * x1) + (M12.2 29 x1.toNatClampNeg)).toNatClampNeg x2) 29 x1.toNatClampNeg (((sa M12 30 ((40 * x1) + (M12.2 29 x1.toNatClampNeg)).toNatClampNeg x2).2 29 x1.toNatClampNeg) + 1)).2 29 x1.toNatClampNeg, sa (sa M12 30 ((40 * x1) + (M12.2 29 x1.toNatClampNeg)).toNatClampNeg x2) 29 x1.toNatClampNeg (((sa M12 30 ((40 * x1) + (M12.2 29 x1.toNatClampNeg)).toNatClampNeg x2).2 29 x1.toNatClampNeg) + 1))))))))))
set_option maxHeartbeats 4000000 in
set_option maxRecDepth 100000 in
theorem b_X7_type {M0 : Mem} {r0 : Int32} (hC : SX p m c s args cX7_type 3 RX7 G (AG G)) (hr : meth.sig.returnType = (some .int)) (hlk : meth.locks = false) (hn : ∀ i ∈ LsF, i ∈ gL G) : ∀ (x1 : Int32) (x2 : Int32) (M : Mem) (H : Heap) (locs : List Loc) (ls : Array Slot), F_X7_type x1 x2 M = some (r0, M0) → ST G (AG G) s M H locs → lv_has ls 3 [(0, .ref (G.1 61)), (1, .int x1), (2, .int x2)] → W p l e (RM 2 42) s m args below meth c H locs 0 0 (MQ below (QV G (some (.int r0)) M0) args s 0 0 (AG G)) (F0 m 0 ls []) := by
  obtain ⟨⟨hx, hb, hml, hown, hts⟩, hK, hG, hA⟩ := id hC
  intro x1 x2 M H locs ls hF hS hl
  unfold F_X7_type at hF
  refine lv_iload_n hx hb dX7_type_0 rfl (lv_at hl 1 rfl) ?_
  obtain ⟨r1, M1, h1, hF⟩ := bd_some hF
  refine cS_ (As := [.int x1]) (v := some (.int r1)) (rest := []) (st1 := [.int r1]) hC hS (c_X7_isLaw l G hn x1 M _ _ h1) kS_X7_isLaw lm_X7_120 ⟨Nat.le_of_ble_eq_true rfl, Nat.le_of_ble_eq_true rfl⟩ rfl hl.1 (Nat.le_of_ble_eq_true rfl) dX7_type_1 ⟨Nat.le_refl _, Nat.le_refl _⟩ rfl (fun H locs hS => ?_)
  refine lv_if_eq (tgt := 18) hx hb dX7_type_4 (by decide) (fun hc => ?_) (fun hc => ?_)
  · rw [if_pos hc] at hF
    refine lv_bipush (v := (-2)) hx hb dX7_type_18 (by decide) ?_
    exact retI hC hS hr hlk hF dX7_type_20
  · rw [if_neg hc] at hF
    refine lv_iload_n hx hb dX7_type_7 rfl (lv_at hl 2 rfl) ?_
    refine lv_iconst (v := 0) hx hb dX7_type_8 (by decide) ?_
    refine lv_sipush (v := 255) hx hb dX7_type_9 (by decide) ?_
    obtain ⟨r12, M12, h12, hF⟩ := bd_some hF
    refine cS_ (As := [.int x2, .int 0, .int 255]) (v := some (.int r12)) (rest := []) (st1 := [.int r12]) hC hS (c_X7_in l G hn x2 0 255 M1 _ _ h12) kS_X7_in lm_X7_71 ⟨Nat.le_of_ble_eq_true rfl, Nat.le_of_ble_eq_true rfl⟩ rfl hl.1 (Nat.le_of_ble_eq_true rfl) dX7_type_12 ⟨Nat.le_refl _, Nat.le_refl _⟩ rfl (fun H locs hS => ?_)
    refine lv_if_ne (tgt := 21) hx hb dX7_type_15 (by decide) (fun hc => ?_) (fun hc => ?_)
    · rw [if_neg hc] at hF
      refine lv_aload_n hx hb dX7_type_21 rfl (lv_at hl 0 rfl) ?_
      refine gx (ci := 7) (k := 10) (v := .ref (G.1 29)) (C := RX7) (T := TX7) (N := 29) hC hS (hn _ (by decide)) rfl rfl in_X7 (by decide) rfl rfl lf_X7_31 dX7_type_22 ?_
      refine lv_iload_n hx hb dX7_type_25 rfl (lv_at hl 1 rfl) ?_
      obtain ⟨hi, hF⟩ := ckb_some hF
      refine ald hC hS (hn _ (by decide)) (by decide) rfl hi dX7_type_26 ?_
      refine lv_bipush (v := 40) hx hb dX7_type_27 (by decide) ?_
      refine lv_icmp_ne (tgt := 35) hx hb dX7_type_29 (by decide) (fun hc => ?_) (fun hc => ?_)
      · rw [if_neg hc] at hF
        refine lv_aload_n hx hb dX7_type_35 rfl (lv_at hl 0 rfl) ?_
        refine gx (ci := 7) (k := 11) (v := .ref (G.1 30)) (C := RX7) (T := TX7) (N := 29) hC hS (hn _ (by decide)) rfl rfl in_X7 (by decide) rfl rfl lf_X7_34 dX7_type_36 ?_
        refine lv_bipush (v := 40) hx hb dX7_type_39 (by decide) ?_
        refine lv_iload_n hx hb dX7_type_41 rfl (lv_at hl 1 rfl) ?_
        refine lv_imul hx hb dX7_type_42 ?_
        refine lv_aload_n hx hb dX7_type_43 rfl (lv_at hl 0 rfl) ?_
        refine gx (ci := 7) (k := 10) (v := .ref (G.1 29)) (C := RX7) (T := TX7) (N := 29) hC hS (hn _ (by decide)) rfl rfl in_X7 (by decide) rfl rfl lf_X7_31 dX7_type_44 ?_
        refine lv_iload_n hx hb dX7_type_47 rfl (lv_at hl 1 rfl) ?_
        obtain ⟨hi, hF⟩ := ckb_some hF
        refine ald hC hS (hn _ (by decide)) (by decide) rfl hi dX7_type_48 ?_
        refine lv_iadd hx hb dX7_type_49 ?_
        refine lv_iload_n hx hb dX7_type_50 rfl (lv_at hl 2 rfl) ?_
        obtain ⟨hi, hF⟩ := ckb_some hF
        refine ast hC hS (hn _ (by decide)) (by decide) rfl hi dX7_type_51 (fun H locs hS => ?_)
        refine lv_aload_n hx hb dX7_type_52 rfl (lv_at hl 0 rfl) ?_
        refine gx (ci := 7) (k := 10) (v := .ref (G.1 29)) (C := RX7) (T := TX7) (N := 29) hC hS (hn _ (by decide)) rfl rfl in_X7 (by decide) rfl rfl lf_X7_31 dX7_type_53 ?_
        refine lv_iload_n hx hb dX7_type_56 rfl (lv_at hl 1 rfl) ?_
        refine lv_dup2_11 hx hb dX7_type_57 rfl rfl ?_
        obtain ⟨hi, hF⟩ := ckb_some hF
        refine ald hC hS (hn _ (by decide)) (by decide) rfl hi dX7_type_58 ?_
        refine lv_iconst (v := 1) hx hb dX7_type_59 (by decide) ?_
        refine lv_iadd hx hb dX7_type_60 ?_
        obtain ⟨hi, hF⟩ := ckb_some hF
        refine ast hC hS (hn _ (by decide)) (by decide) rfl hi dX7_type_61 (fun H locs hS => ?_)
        refine lv_aload_n hx hb dX7_type_62 rfl (lv_at hl 0 rfl) ?_
        refine gx (ci := 7) (k := 10) (v := .ref (G.1 29)) (C := RX7) (T := TX7) (N := 29) hC hS (hn _ (by decide)) rfl rfl in_X7 (by decide) rfl rfl lf_X7_31 dX7_type_63 ?_
        refine lv_iload_n hx hb dX7_type_66 rfl (lv_at hl 1 rfl) ?_
        obtain ⟨hi, hF⟩ := ckb_some hF
        refine ald hC hS (hn _ (by decide)) (by decide) rfl hi dX7_type_67 ?_
        exact retI hC hS hr hlk hF dX7_type_68
      · rw [if_pos hc] at hF
        refine lv_bipush (v := (-4)) hx hb dX7_type_32 (by decide) ?_
        exact retI hC hS hr hlk hF dX7_type_34
    · rw [if_pos hc] at hF
      refine lv_bipush (v := (-2)) hx hb dX7_type_18 (by decide) ?_
      exact retI hC hS hr hlk hF dX7_type_20
set_option maxRecDepth 100000 in
theorem c_X7_type (l : Launch) (G : GT) (hn : ∀ i ∈ LsF, i ∈ gL G) (x1 : Int32) (x2 : Int32) (M : Mem) (r0 : Int32) (M0 : Mem) (hF : F_X7_type x1 x2 M = some (r0, M0)) : MetG l G yX7_type cX7_type 3 (some .int) 2 42 [.ref (G.1 61), .int x1, .int x2] M (some (.int r0)) M0 := by
  refine MetG.of (by decide) (Nat.le_of_ble_eq_true rfl) ?_
  intro p e s m args below meth c hC hr hlk hnm ls hS hl
  exact b_X7_type hC hr hlk hn _ _ _ _ _ _ hF hS hl
def F_X7_wipe (x1 : Int32) (M : Mem) : Option (Int32 × Mem) := bd (F_X7_isLaw x1 M) (fun r1 M1 => if r1 = 0 then some ((-2), M1) else ckb (ix x1 2) (ckb (ix x1 2) (some (M1.2 29 x1.toNatClampNeg, sa M1 29 x1.toNatClampNeg 0))))
set_option maxHeartbeats 4000000 in
set_option maxRecDepth 100000 in
theorem b_X7_wipe {M0 : Mem} {r0 : Int32} (hC : SX p m c s args cX7_wipe 3 RX7 G (AG G)) (hr : meth.sig.returnType = (some .int)) (hlk : meth.locks = false) (hn : ∀ i ∈ LsF, i ∈ gL G) : ∀ (x1 : Int32) (M : Mem) (H : Heap) (locs : List Loc) (ls : Array Slot), F_X7_wipe x1 M = some (r0, M0) → ST G (AG G) s M H locs → lv_has ls 3 [(0, .ref (G.1 61)), (1, .int x1)] → W p l e (RM 2 42) s m args below meth c H locs 0 0 (MQ below (QV G (some (.int r0)) M0) args s 0 0 (AG G)) (F0 m 0 ls []) := by
  obtain ⟨⟨hx, hb, hml, hown, hts⟩, hK, hG, hA⟩ := id hC
  intro x1 M H locs ls hF hS hl
  unfold F_X7_wipe at hF
  refine lv_iload_n hx hb dX7_wipe_0 rfl (lv_at hl 1 rfl) ?_
  obtain ⟨r1, M1, h1, hF⟩ := bd_some hF
  refine cS_ (As := [.int x1]) (v := some (.int r1)) (rest := []) (st1 := [.int r1]) hC hS (c_X7_isLaw l G hn x1 M _ _ h1) kS_X7_isLaw lm_X7_120 ⟨Nat.le_of_ble_eq_true rfl, Nat.le_of_ble_eq_true rfl⟩ rfl hl.1 (Nat.le_of_ble_eq_true rfl) dX7_wipe_1 ⟨Nat.le_refl _, Nat.le_refl _⟩ rfl (fun H locs hS => ?_)
  refine lv_if_ne (tgt := 10) hx hb dX7_wipe_4 (by decide) (fun hc => ?_) (fun hc => ?_)
  · rw [if_neg hc] at hF
    refine lv_aload_n hx hb dX7_wipe_10 rfl (lv_at hl 0 rfl) ?_
    refine gx (ci := 7) (k := 10) (v := .ref (G.1 29)) (C := RX7) (T := TX7) (N := 29) hC hS (hn _ (by decide)) rfl rfl in_X7 (by decide) rfl rfl lf_X7_31 dX7_wipe_11 ?_
    refine lv_iload_n hx hb dX7_wipe_14 rfl (lv_at hl 1 rfl) ?_
    obtain ⟨hi, hF⟩ := ckb_some hF
    refine ald hC hS (hn _ (by decide)) (by decide) rfl hi dX7_wipe_15 ?_
    refine lv_istore_n (lv' := [(2, .int (M1.2 29 x1.toNatClampNeg)), (0, .ref (G.1 61)), (1, .int x1)]) hx hb dX7_wipe_16 rfl hl (by decide) rfl (fun ls hl => ?_)
    refine lv_aload_n hx hb dX7_wipe_17 rfl (lv_at hl 1 rfl) ?_
    refine gx (ci := 7) (k := 10) (v := .ref (G.1 29)) (C := RX7) (T := TX7) (N := 29) hC hS (hn _ (by decide)) rfl rfl in_X7 (by decide) rfl rfl lf_X7_31 dX7_wipe_18 ?_
    refine lv_iload_n hx hb dX7_wipe_21 rfl (lv_at hl 2 rfl) ?_
    refine lv_iconst (v := 0) hx hb dX7_wipe_22 (by decide) ?_
    obtain ⟨hi, hF⟩ := ckb_some hF
    refine ast hC hS (hn _ (by decide)) (by decide) rfl hi dX7_wipe_23 (fun H locs hS => ?_)
    refine lv_iload_n hx hb dX7_wipe_24 rfl (lv_at hl 0 rfl) ?_
    exact retI hC hS hr hlk hF dX7_wipe_25
  · rw [if_pos hc] at hF
    refine lv_bipush (v := (-2)) hx hb dX7_wipe_7 (by decide) ?_
    exact retI hC hS hr hlk hF dX7_wipe_9
set_option maxRecDepth 100000 in
theorem c_X7_wipe (l : Launch) (G : GT) (hn : ∀ i ∈ LsF, i ∈ gL G) (x1 : Int32) (M : Mem) (r0 : Int32) (M0 : Mem) (hF : F_X7_wipe x1 M = some (r0, M0)) : MetG l G yX7_wipe cX7_wipe 3 (some .int) 2 42 [.ref (G.1 61), .int x1] M (some (.int r0)) M0 := by
  refine MetG.of (by decide) (Nat.le_of_ble_eq_true rfl) ?_
  intro p e s m args below meth c hC hr hlk hnm ls hS hl
  exact b_X7_wipe hC hr hlk hn _ _ _ _ _ hF hS hl
def F_X7_byteAt (x1 : Int32) (x2 : Int32) (M : Mem) : Option (Int32 × Mem) := ckb (ix x1 2) (if (M.2 29 x1.toNatClampNeg) ≤ x2 then some ((-1), M) else ckb (ix ((40 * x1) + x2) 80) (some (M.2 30 ((40 * x1) + x2).toNatClampNeg, M)))
set_option maxHeartbeats 4000000 in
set_option maxRecDepth 100000 in
theorem b_X7_byteAt {M0 : Mem} {r0 : Int32} (hC : SX p m c s args cX7_byteAt 3 RX7 G (AG G)) (hr : meth.sig.returnType = (some .int)) (hlk : meth.locks = false) (hn : ∀ i ∈ LsF, i ∈ gL G) : ∀ (x1 : Int32) (x2 : Int32) (M : Mem) (H : Heap) (locs : List Loc) (ls : Array Slot), F_X7_byteAt x1 x2 M = some (r0, M0) → ST G (AG G) s M H locs → lv_has ls 3 [(0, .ref (G.1 61)), (1, .int x1), (2, .int x2)] → W p l e (RM 0 0) s m args below meth c H locs 0 0 (MQ below (QV G (some (.int r0)) M0) args s 0 0 (AG G)) (F0 m 0 ls []) := by
  obtain ⟨⟨hx, hb, hml, hown, hts⟩, hK, hG, hA⟩ := id hC
  intro x1 x2 M H locs ls hF hS hl
  unfold F_X7_byteAt at hF
  refine lv_iload_n hx hb dX7_byteAt_0 rfl (lv_at hl 2 rfl) ?_
  refine lv_aload_n hx hb dX7_byteAt_1 rfl (lv_at hl 0 rfl) ?_
  refine gx (ci := 7) (k := 10) (v := .ref (G.1 29)) (C := RX7) (T := TX7) (N := 29) hC hS (hn _ (by decide)) rfl rfl in_X7 (by decide) rfl rfl lf_X7_31 dX7_byteAt_2 ?_
  refine lv_iload_n hx hb dX7_byteAt_5 rfl (lv_at hl 1 rfl) ?_
  obtain ⟨hi, hF⟩ := ckb_some hF
  refine ald hC hS (hn _ (by decide)) (by decide) rfl hi dX7_byteAt_6 ?_
  refine lv_icmp_ge (tgt := 24) hx hb dX7_byteAt_7 (by decide) (fun hc => ?_) (fun hc => ?_)
  · rw [if_pos hc] at hF
    refine lv_iconst (v := (-1)) hx hb dX7_byteAt_24 (by decide) ?_
    exact retI hC hS hr hlk hF dX7_byteAt_25
  · rw [if_neg hc] at hF
    refine lv_aload_n hx hb dX7_byteAt_10 rfl (lv_at hl 0 rfl) ?_
    refine gx (ci := 7) (k := 11) (v := .ref (G.1 30)) (C := RX7) (T := TX7) (N := 29) hC hS (hn _ (by decide)) rfl rfl in_X7 (by decide) rfl rfl lf_X7_34 dX7_byteAt_11 ?_
    refine lv_bipush (v := 40) hx hb dX7_byteAt_14 (by decide) ?_
    refine lv_iload_n hx hb dX7_byteAt_16 rfl (lv_at hl 1 rfl) ?_
    refine lv_imul hx hb dX7_byteAt_17 ?_
    refine lv_iload_n hx hb dX7_byteAt_18 rfl (lv_at hl 2 rfl) ?_
    refine lv_iadd hx hb dX7_byteAt_19 ?_
    obtain ⟨hi, hF⟩ := ckb_some hF
    refine ald hC hS (hn _ (by decide)) (by decide) rfl hi dX7_byteAt_20 ?_
    refine lv_goto (tgt := 25) hx hb dX7_byteAt_21 (by decide) ?_
    exact retI hC hS hr hlk hF dX7_byteAt_25
set_option maxRecDepth 100000 in
theorem c_X7_byteAt (l : Launch) (G : GT) (hn : ∀ i ∈ LsF, i ∈ gL G) (x1 : Int32) (x2 : Int32) (M : Mem) (r0 : Int32) (M0 : Mem) (hF : F_X7_byteAt x1 x2 M = some (r0, M0)) : MetG l G yX7_byteAt cX7_byteAt 3 (some .int) 0 0 [.ref (G.1 61), .int x1, .int x2] M (some (.int r0)) M0 := by
  refine MetG.of (by decide) (Nat.le_of_ble_eq_true rfl) ?_
  intro p e s m args below meth c hC hr hlk hnm ls hS hl
  exact b_X7_byteAt hC hr hlk hn _ _ _ _ _ _ hF hS hl
def F_X7_plain (x1 : Int32) (M : Mem) : Option Mem := ckb (ix (4 * x1) 8) (ckb (ix ((4 * x1) + 1) 8) (ckb (ix ((4 * x1) + 2) 8) (ckb (ix ((4 * x1) + 3) 8) (some (sa (sa (sa (sa M 32 (4 * x1).toNatClampNeg 2) 32 ((4 * x1) + 1).toNatClampNeg 0) 32 ((4 * x1) + 2).toNatClampNeg 0) 32 ((4 * x1) + 3).toNatClampNeg 0)))))
set_option maxHeartbeats 4000000 in
set_option maxRecDepth 100000 in
theorem b_X7_plain {M0 : Mem} (hC : SX p m c s args cX7_plain 2 RX7 G (AG G)) (hr : meth.sig.returnType = none) (hlk : meth.locks = false) (hn : ∀ i ∈ LsF, i ∈ gL G) : ∀ (x1 : Int32) (M : Mem) (H : Heap) (locs : List Loc) (ls : Array Slot), F_X7_plain x1 M = some M0 → ST G (AG G) s M H locs → lv_has ls 2 [(0, .ref (G.1 61)), (1, .int x1)] → W p l e (RM 0 0) s m args below meth c H locs 0 0 (MQ below (QV G none M0) args s 0 0 (AG G)) (F0 m 0 ls []) := by
  obtain ⟨⟨hx, hb, hml, hown, hts⟩, hK, hG, hA⟩ := id hC
  intro x1 M H locs ls hF hS hl
  unfold F_X7_plain at hF
  refine lv_aload_n hx hb dX7_plain_0 rfl (lv_at hl 0 rfl) ?_
  refine gx (ci := 7) (k := 13) (v := .ref (G.1 32)) (C := RX7) (T := TX7) (N := 29) hC hS (hn _ (by decide)) rfl rfl in_X7 (by decide) rfl rfl lf_X7_40 dX7_plain_1 ?_
  refine lv_iconst (v := 4) hx hb dX7_plain_4 (by decide) ?_
  refine lv_iload_n hx hb dX7_plain_5 rfl (lv_at hl 1 rfl) ?_
  refine lv_imul hx hb dX7_plain_6 ?_
  refine lv_iconst (v := 2) hx hb dX7_plain_7 (by decide) ?_
  obtain ⟨hi, hF⟩ := ckb_some hF
  refine ast hC hS (hn _ (by decide)) (by decide) rfl hi dX7_plain_8 (fun H locs hS => ?_)
  refine lv_aload_n hx hb dX7_plain_9 rfl (lv_at hl 0 rfl) ?_
  refine gx (ci := 7) (k := 13) (v := .ref (G.1 32)) (C := RX7) (T := TX7) (N := 29) hC hS (hn _ (by decide)) rfl rfl in_X7 (by decide) rfl rfl lf_X7_40 dX7_plain_10 ?_
  refine lv_iconst (v := 4) hx hb dX7_plain_13 (by decide) ?_
  refine lv_iload_n hx hb dX7_plain_14 rfl (lv_at hl 1 rfl) ?_
  refine lv_imul hx hb dX7_plain_15 ?_
  refine lv_iconst (v := 1) hx hb dX7_plain_16 (by decide) ?_
  refine lv_iadd hx hb dX7_plain_17 ?_
  refine lv_iconst (v := 0) hx hb dX7_plain_18 (by decide) ?_
  obtain ⟨hi, hF⟩ := ckb_some hF
  refine ast hC hS (hn _ (by decide)) (by decide) rfl hi dX7_plain_19 (fun H locs hS => ?_)
  refine lv_aload_n hx hb dX7_plain_20 rfl (lv_at hl 0 rfl) ?_
  refine gx (ci := 7) (k := 13) (v := .ref (G.1 32)) (C := RX7) (T := TX7) (N := 29) hC hS (hn _ (by decide)) rfl rfl in_X7 (by decide) rfl rfl lf_X7_40 dX7_plain_21 ?_
  refine lv_iconst (v := 4) hx hb dX7_plain_24 (by decide) ?_
  refine lv_iload_n hx hb dX7_plain_25 rfl (lv_at hl 1 rfl) ?_
  refine lv_imul hx hb dX7_plain_26 ?_
  refine lv_iconst (v := 2) hx hb dX7_plain_27 (by decide) ?_
  refine lv_iadd hx hb dX7_plain_28 ?_
  refine lv_iconst (v := 0) hx hb dX7_plain_29 (by decide) ?_
  obtain ⟨hi, hF⟩ := ckb_some hF
  refine ast hC hS (hn _ (by decide)) (by decide) rfl hi dX7_plain_30 (fun H locs hS => ?_)
  refine lv_aload_n hx hb dX7_plain_31 rfl (lv_at hl 0 rfl) ?_
  refine gx (ci := 7) (k := 13) (v := .ref (G.1 32)) (C := RX7) (T := TX7) (N := 29) hC hS (hn _ (by decide)) rfl rfl in_X7 (by decide) rfl rfl lf_X7_40 dX7_plain_32 ?_
  refine lv_iconst (v := 4) hx hb dX7_plain_35 (by decide) ?_
  refine lv_iload_n hx hb dX7_plain_36 rfl (lv_at hl 1 rfl) ?_
  refine lv_imul hx hb dX7_plain_37 ?_
  refine lv_iconst (v := 3) hx hb dX7_plain_38 (by decide) ?_
  refine lv_iadd hx hb dX7_plain_39 ?_
  refine lv_iconst (v := 0) hx hb dX7_plain_40 (by decide) ?_
  obtain ⟨hi, hF⟩ := ckb_some hF
  refine ast hC hS (hn _ (by decide)) (by decide) rfl hi dX7_plain_41 (fun H locs hS => ?_)
  exact retV hC hS hr hlk hF dX7_plain_42
set_option maxRecDepth 100000 in
theorem c_X7_plain (l : Launch) (G : GT) (hn : ∀ i ∈ LsF, i ∈ gL G) (x1 : Int32) (M : Mem) (M0 : Mem) (hF : F_X7_plain x1 M = some M0) : MetG l G yX7_plain cX7_plain 2 none 0 0 [.ref (G.1 61), .int x1] M none M0 := by
  refine MetG.of (by decide) (Nat.le_of_ble_eq_true rfl) ?_
  intro p e s m args below meth c hC hr hlk hnm ls hS hl
  exact b_X7_plain hC hr hlk hn _ _ _ _ _ hF hS hl
def F_X7_faultOf_136 (k7 : Int32 → Int32 → Mem → Option (Int32 × Mem)) (x1 : Int32) (x2 : Int32) (x4 : Int32) (x5 : Int32) (t0 : Int32) (t1 : Int32) (t2 : Int32) (M : Mem) : Option (Int32 × Mem) := bd (F_X7_in t0 t1 t2 M) (fun r136 M136 => if r136 = 0 then some (x2 + 2, M136) else ckb (ix ((4 * x1) + x4) 8) (ckb (ix x1 2) (if (x2 + 3) = ((sa M136 32 ((4 * x1) + x4).toNatClampNeg x5).2 29 x1.toNatClampNeg) then some ((-1), sa M136 32 ((4 * x1) + x4).toNatClampNeg x5) else bd (F_X7_byteAt x1 (x2 + 3) (sa M136 32 ((4 * x1) + x4).toNatClampNeg x5)) (fun r177 M177 => if r177 = 59 then k7 x1 ((x2 + 3) + 1) M177 else some (x2 + 3, M177)))))
def F_X7_faultOf_116 (k7 : Int32 → Int32 → Mem → Option (Int32 × Mem)) (x1 : Int32) (x2 : Int32) (x4 : Int32) (x5 : Int32) (t0 : Int32) (t1 : Int32) (M : Mem) : Option (Int32 × Mem) := if x4 = 0 then F_X7_faultOf_136 k7 x1 x2 x4 x5 t0 t1 4 M else if x4 = 1 then F_X7_faultOf_136 k7 x1 x2 x4 x5 t0 t1 2 M else F_X7_faultOf_136 k7 x1 x2 x4 x5 t0 t1 1 M
def F_X7_faultOf_64 (k7 : Int32 → Int32 → Mem → Option (Int32 × Mem)) (x1 : Int32) (x2 : Int32) (t0 : Int32) (M : Mem) : Option (Int32 × Mem) := if t0 = (-1) then some (x2, M) else bd (F_X7_byteAt x1 (x2 + 1) M) (fun r79 M79 => if r79 = 61 then bd (F_X7_byteAt x1 (x2 + 2) M79) (fun r96 M96 => if t0 = 0 then F_X7_faultOf_116 k7 x1 x2 t0 (r96 - 48) (r96 - 48) 1 M96 else F_X7_faultOf_116 k7 x1 x2 t0 (r96 - 48) (r96 - 48) 0 M96) else some (x2 + 1, M79))
def F_X7_faultOf_7 : Nat → Int32 → Int32 → Mem → Option (Int32 × Mem)
  | 0, _, _, _ => none
  | n + 1, x1, x2, M => ckb (ix x1 2) (if (M.2 29 x1.toNatClampNeg) ≤ 0 then some ((-1), M) else bd (F_X7_byteAt x1 x2 M) (fun r19 M19 => if r19 = 103 then F_X7_faultOf_64 (F_X7_faultOf_7 n) x1 x2 0 M19 else if r19 = 99 then F_X7_faultOf_64 (F_X7_faultOf_7 n) x1 x2 1 M19 else if r19 = 101 then F_X7_faultOf_64 (F_X7_faultOf_7 n) x1 x2 2 M19 else if r19 = 112 then F_X7_faultOf_64 (F_X7_faultOf_7 n) x1 x2 3 M19 else F_X7_faultOf_64 (F_X7_faultOf_7 n) x1 x2 (-1) M19))
def F_X7_faultOf (x1 : Int32) (M : Mem) : Option (Int32 × Mem) := bdv (F_X7_plain x1 M) (fun M2 => F_X7_faultOf_7 fu x1 0 M2)
set_option maxHeartbeats 4000000 in
set_option maxRecDepth 100000 in
theorem b_X7_faultOf_136 {k7 : Int32 → Int32 → Mem → Option (Int32 × Mem)} {M0 : Mem} {r0 : Int32} (hC : SX p m c s args cX7_faultOf 6 RX7 G (AG G)) (hr : meth.sig.returnType = (some .int)) (hlk : meth.locks = false) (hn : ∀ i ∈ LsF, i ∈ gL G) (hk7 : ∀ (x1 : Int32) (x2 : Int32) (M : Mem) (H : Heap) (locs : List Loc) (ls : Array Slot), k7 x1 x2 M = some (r0, M0) → ST G (AG G) s M H locs → lv_has ls 6 [(0, .ref (G.1 61)), (1, .int x1), (2, .int x2)] → W p l e (RM 1 22) s m args below meth c H locs 0 0 (MQ below (QV G (some (.int r0)) M0) args s 0 0 (AG G)) (F0 m 7 ls [])) : ∀ (x1 : Int32) (x2 : Int32) (x4 : Int32) (x5 : Int32) (t0 : Int32) (t1 : Int32) (t2 : Int32) (M : Mem) (H : Heap) (locs : List Loc) (ls : Array Slot), F_X7_faultOf_136 k7 x1 x2 x4 x5 t0 t1 t2 M = some (r0, M0) → ST G (AG G) s M H locs → lv_has ls 6 [(0, .ref (G.1 61)), (1, .int x1), (2, .int x2), (4, .int x4), (5, .int x5)] → W p l e (RM 1 22) s m args below meth c H locs 0 0 (MQ below (QV G (some (.int r0)) M0) args s 0 0 (AG G)) (F0 m 136 ls [.int t2, .int t1, .int t0]) := by
  obtain ⟨⟨hx, hb, hml, hown, hts⟩, hK, hG, hA⟩ := id hC
  intro x1 x2 x4 x5 t0 t1 t2 M H locs ls hF hS hl
  unfold F_X7_faultOf_136 at hF
  obtain ⟨r136, M136, h136, hF⟩ := bd_some hF
  refine cS_ (As := [.int t0, .int t1, .int t2]) (v := some (.int r136)) (rest := []) (st1 := [.int r136]) hC hS (c_X7_in l G hn t0 t1 t2 M _ _ h136) kS_X7_in lm_X7_71 ⟨Nat.le_of_ble_eq_true rfl, Nat.le_of_ble_eq_true rfl⟩ rfl hl.1 (Nat.le_of_ble_eq_true rfl) dX7_faultOf_136 ⟨Nat.le_refl _, Nat.le_refl _⟩ rfl (fun H locs hS => ?_)
  refine lv_if_ne (tgt := 146) hx hb dX7_faultOf_139 (by decide) (fun hc => ?_) (fun hc => ?_)
  · rw [if_neg hc] at hF
    refine lv_aload_n hx hb dX7_faultOf_146 rfl (lv_at hl 0 rfl) ?_
    refine gx (ci := 7) (k := 13) (v := .ref (G.1 32)) (C := RX7) (T := TX7) (N := 29) hC hS (hn _ (by decide)) rfl rfl in_X7 (by decide) rfl rfl lf_X7_40 dX7_faultOf_147 ?_
    refine lv_iconst (v := 4) hx hb dX7_faultOf_150 (by decide) ?_
    refine lv_iload_n hx hb dX7_faultOf_151 rfl (lv_at hl 1 rfl) ?_
    refine lv_imul hx hb dX7_faultOf_152 ?_
    refine lv_iload hx hb dX7_faultOf_153 (lv_at hl 3 rfl) ?_
    refine lv_iadd hx hb dX7_faultOf_155 ?_
    refine lv_iload hx hb dX7_faultOf_156 (lv_at hl 4 rfl) ?_
    obtain ⟨hi, hF⟩ := ckb_some hF
    refine ast hC hS (hn _ (by decide)) (by decide) rfl hi dX7_faultOf_158 (fun H locs hS => ?_)
    refine lv_iinc (v := x2 + 3) (lv' := [(2, .int (x2 + 3)), (0, .ref (G.1 61)), (1, .int x1), (4, .int x4), (5, .int x5)]) hx hb dX7_faultOf_159 hl (k := 2) rfl rfl (by decide) rfl (fun ls hl => ?_)
    refine lv_iload_n hx hb dX7_faultOf_162 rfl (lv_at hl 0 rfl) ?_
    refine lv_aload_n hx hb dX7_faultOf_163 rfl (lv_at hl 1 rfl) ?_
    refine gx (ci := 7) (k := 10) (v := .ref (G.1 29)) (C := RX7) (T := TX7) (N := 29) hC hS (hn _ (by decide)) rfl rfl in_X7 (by decide) rfl rfl lf_X7_31 dX7_faultOf_164 ?_
    refine lv_iload_n hx hb dX7_faultOf_167 rfl (lv_at hl 2 rfl) ?_
    obtain ⟨hi, hF⟩ := ckb_some hF
    refine ald hC hS (hn _ (by decide)) (by decide) rfl hi dX7_faultOf_168 ?_
    refine lv_icmp_ne (tgt := 174) hx hb dX7_faultOf_169 (by decide) (fun hc => ?_) (fun hc => ?_)
    · rw [if_neg hc] at hF
      refine lv_aload_n hx hb dX7_faultOf_174 rfl (lv_at hl 1 rfl) ?_
      refine lv_iload_n hx hb dX7_faultOf_175 rfl (lv_at hl 2 rfl) ?_
      refine lv_iload_n hx hb dX7_faultOf_176 rfl (lv_at hl 0 rfl) ?_
      obtain ⟨r177, M177, h177, hF⟩ := bd_some hF
      refine cV_ (ci := 7) (i := 61) (C := RX7) (T := TX7) (N := 29) (As := [.int x1, .int (x2 + 3)]) (v := some (.int r177)) (rest := []) (st1 := [.int r177]) hC hS (hn _ (by decide)) rfl rfl (c_X7_byteAt l G hn x1 (x2 + 3) (sa M136 32 ((4 * x1) + x4).toNatClampNeg x5) _ _ h177) kV_X7_byteAt lm_X7_127 ⟨Nat.le_of_ble_eq_true rfl, Nat.le_of_ble_eq_true rfl⟩ rfl hl.1 (Nat.le_of_ble_eq_true rfl) dX7_faultOf_177 ⟨Nat.le_refl _, Nat.le_refl _⟩ rfl (fun H locs hS => ?_)
      refine lv_bipush (v := 59) hx hb dX7_faultOf_180 (by decide) ?_
      refine lv_icmp_eq (tgt := 187) hx hb dX7_faultOf_182 (by decide) (fun hc => ?_) (fun hc => ?_)
      · rw [if_pos hc] at hF
        refine lv_iinc (v := (x2 + 3) + 1) (lv' := [(2, .int ((x2 + 3) + 1)), (0, .ref (G.1 61)), (1, .int x1), (4, .int x4), (5, .int x5)]) hx hb dX7_faultOf_187 hl (k := 0) rfl rfl (by decide) rfl (fun ls hl => ?_)
        refine lv_goto (tgt := 7) hx hb dX7_faultOf_190 (by decide) ?_
        exact hk7 _ _ _ _ _ _ hF hS (lv_sub hl [1, 2, 0] rfl)
      · rw [if_neg hc] at hF
        refine lv_iload_n hx hb dX7_faultOf_185 rfl (lv_at hl 0 rfl) ?_
        exact retI hC hS hr hlk hF dX7_faultOf_186
    · rw [if_pos hc] at hF
      refine lv_iconst (v := (-1)) hx hb dX7_faultOf_172 (by decide) ?_
      exact retI hC hS hr hlk hF dX7_faultOf_173
  · rw [if_pos hc] at hF
    refine lv_iload_n hx hb dX7_faultOf_142 rfl (lv_at hl 2 rfl) ?_
    refine lv_iconst (v := 2) hx hb dX7_faultOf_143 (by decide) ?_
    refine lv_iadd hx hb dX7_faultOf_144 ?_
    exact retI hC hS hr hlk hF dX7_faultOf_145
set_option maxHeartbeats 4000000 in
set_option maxRecDepth 100000 in
theorem b_X7_faultOf_116 {k7 : Int32 → Int32 → Mem → Option (Int32 × Mem)} {M0 : Mem} {r0 : Int32} (hC : SX p m c s args cX7_faultOf 6 RX7 G (AG G)) (hr : meth.sig.returnType = (some .int)) (hlk : meth.locks = false) (hn : ∀ i ∈ LsF, i ∈ gL G) (hk7 : ∀ (x1 : Int32) (x2 : Int32) (M : Mem) (H : Heap) (locs : List Loc) (ls : Array Slot), k7 x1 x2 M = some (r0, M0) → ST G (AG G) s M H locs → lv_has ls 6 [(0, .ref (G.1 61)), (1, .int x1), (2, .int x2)] → W p l e (RM 1 22) s m args below meth c H locs 0 0 (MQ below (QV G (some (.int r0)) M0) args s 0 0 (AG G)) (F0 m 7 ls [])) : ∀ (x1 : Int32) (x2 : Int32) (x4 : Int32) (x5 : Int32) (t0 : Int32) (t1 : Int32) (M : Mem) (H : Heap) (locs : List Loc) (ls : Array Slot), F_X7_faultOf_116 k7 x1 x2 x4 x5 t0 t1 M = some (r0, M0) → ST G (AG G) s M H locs → lv_has ls 6 [(0, .ref (G.1 61)), (1, .int x1), (2, .int x2), (4, .int x4), (5, .int x5)] → W p l e (RM 1 22) s m args below meth c H locs 0 0 (MQ below (QV G (some (.int r0)) M0) args s 0 0 (AG G)) (F0 m 116 ls [.int t1, .int t0]) := by
  obtain ⟨⟨hx, hb, hml, hown, hts⟩, hK, hG, hA⟩ := id hC
  intro x1 x2 x4 x5 t0 t1 M H locs ls hF hS hl
  unfold F_X7_faultOf_116 at hF
  refine lv_iload hx hb dX7_faultOf_116 (lv_at hl 3 rfl) ?_
  refine lv_if_ne (tgt := 125) hx hb dX7_faultOf_118 (by decide) (fun hc => ?_) (fun hc => ?_)
  · rw [if_neg hc] at hF
    refine lv_iload hx hb dX7_faultOf_125 (lv_at hl 3 rfl) ?_
    refine lv_iconst (v := 1) hx hb dX7_faultOf_127 (by decide) ?_
    refine lv_icmp_ne (tgt := 135) hx hb dX7_faultOf_128 (by decide) (fun hc => ?_) (fun hc => ?_)
    · rw [if_neg hc] at hF
      refine lv_iconst (v := 1) hx hb dX7_faultOf_135 (by decide) ?_
      exact b_X7_faultOf_136 hC hr hlk hn hk7 _ _ _ _ _ _ _ _ _ _ _ hF hS (lv_sub hl [0, 1, 2, 3, 4] rfl)
    · rw [if_pos hc] at hF
      refine lv_iconst (v := 2) hx hb dX7_faultOf_131 (by decide) ?_
      refine lv_goto (tgt := 136) hx hb dX7_faultOf_132 (by decide) ?_
      exact b_X7_faultOf_136 hC hr hlk hn hk7 _ _ _ _ _ _ _ _ _ _ _ hF hS (lv_sub hl [0, 1, 2, 3, 4] rfl)
  · rw [if_pos hc] at hF
    refine lv_iconst (v := 4) hx hb dX7_faultOf_121 (by decide) ?_
    refine lv_goto (tgt := 136) hx hb dX7_faultOf_122 (by decide) ?_
    exact b_X7_faultOf_136 hC hr hlk hn hk7 _ _ _ _ _ _ _ _ _ _ _ hF hS (lv_sub hl [0, 1, 2, 3, 4] rfl)
set_option maxHeartbeats 4000000 in
set_option maxRecDepth 100000 in
theorem b_X7_faultOf_64 {k7 : Int32 → Int32 → Mem → Option (Int32 × Mem)} {M0 : Mem} {r0 : Int32} (hC : SX p m c s args cX7_faultOf 6 RX7 G (AG G)) (hr : meth.sig.returnType = (some .int)) (hlk : meth.locks = false) (hn : ∀ i ∈ LsF, i ∈ gL G) (hk7 : ∀ (x1 : Int32) (x2 : Int32) (M : Mem) (H : Heap) (locs : List Loc) (ls : Array Slot), k7 x1 x2 M = some (r0, M0) → ST G (AG G) s M H locs → lv_has ls 6 [(0, .ref (G.1 61)), (1, .int x1), (2, .int x2)] → W p l e (RM 1 22) s m args below meth c H locs 0 0 (MQ below (QV G (some (.int r0)) M0) args s 0 0 (AG G)) (F0 m 7 ls [])) : ∀ (x1 : Int32) (x2 : Int32) (t0 : Int32) (M : Mem) (H : Heap) (locs : List Loc) (ls : Array Slot), F_X7_faultOf_64 k7 x1 x2 t0 M = some (r0, M0) → ST G (AG G) s M H locs → lv_has ls 6 [(0, .ref (G.1 61)), (1, .int x1), (2, .int x2)] → W p l e (RM 1 22) s m args below meth c H locs 0 0 (MQ below (QV G (some (.int r0)) M0) args s 0 0 (AG G)) (F0 m 64 ls [.int t0]) := by
  obtain ⟨⟨hx, hb, hml, hown, hts⟩, hK, hG, hA⟩ := id hC
  intro x1 x2 t0 M H locs ls hF hS hl
  unfold F_X7_faultOf_64 at hF
  refine lv_istore (lv' := [(4, .int t0), (0, .ref (G.1 61)), (1, .int x1), (2, .int x2)]) hx hb dX7_faultOf_64 hl (by decide) rfl (fun ls hl => ?_)
  refine lv_iload hx hb dX7_faultOf_66 (lv_at hl 0 rfl) ?_
  refine lv_iconst (v := (-1)) hx hb dX7_faultOf_68 (by decide) ?_
  refine lv_icmp_ne (tgt := 74) hx hb dX7_faultOf_69 (by decide) (fun hc => ?_) (fun hc => ?_)
  · rw [if_neg hc] at hF
    refine lv_aload_n hx hb dX7_faultOf_74 rfl (lv_at hl 1 rfl) ?_
    refine lv_iload_n hx hb dX7_faultOf_75 rfl (lv_at hl 2 rfl) ?_
    refine lv_iload_n hx hb dX7_faultOf_76 rfl (lv_at hl 3 rfl) ?_
    refine lv_iconst (v := 1) hx hb dX7_faultOf_77 (by decide) ?_
    refine lv_iadd hx hb dX7_faultOf_78 ?_
    obtain ⟨r79, M79, h79, hF⟩ := bd_some hF
    refine cV_ (ci := 7) (i := 61) (C := RX7) (T := TX7) (N := 29) (As := [.int x1, .int (x2 + 1)]) (v := some (.int r79)) (rest := []) (st1 := [.int r79]) hC hS (hn _ (by decide)) rfl rfl (c_X7_byteAt l G hn x1 (x2 + 1) M _ _ h79) kV_X7_byteAt lm_X7_127 ⟨Nat.le_of_ble_eq_true rfl, Nat.le_of_ble_eq_true rfl⟩ rfl hl.1 (Nat.le_of_ble_eq_true rfl) dX7_faultOf_79 ⟨Nat.le_refl _, Nat.le_refl _⟩ rfl (fun H locs hS => ?_)
    refine lv_bipush (v := 61) hx hb dX7_faultOf_82 (by decide) ?_
    refine lv_icmp_eq (tgt := 91) hx hb dX7_faultOf_84 (by decide) (fun hc => ?_) (fun hc => ?_)
    · rw [if_pos hc] at hF
      refine lv_aload_n hx hb dX7_faultOf_91 rfl (lv_at hl 1 rfl) ?_
      refine lv_iload_n hx hb dX7_faultOf_92 rfl (lv_at hl 2 rfl) ?_
      refine lv_iload_n hx hb dX7_faultOf_93 rfl (lv_at hl 3 rfl) ?_
      refine lv_iconst (v := 2) hx hb dX7_faultOf_94 (by decide) ?_
      refine lv_iadd hx hb dX7_faultOf_95 ?_
      obtain ⟨r96, M96, h96, hF⟩ := bd_some hF
      refine cV_ (ci := 7) (i := 61) (C := RX7) (T := TX7) (N := 29) (As := [.int x1, .int (x2 + 2)]) (v := some (.int r96)) (rest := []) (st1 := [.int r96]) hC hS (hn _ (by decide)) rfl rfl (c_X7_byteAt l G hn x1 (x2 + 2) M79 _ _ h96) kV_X7_byteAt lm_X7_127 ⟨Nat.le_of_ble_eq_true rfl, Nat.le_of_ble_eq_true rfl⟩ rfl hl.1 (Nat.le_of_ble_eq_true rfl) dX7_faultOf_96 ⟨Nat.le_refl _, Nat.le_refl _⟩ rfl (fun H locs hS => ?_)
      refine lv_bipush (v := 48) hx hb dX7_faultOf_99 (by decide) ?_
      refine lv_isub hx hb dX7_faultOf_101 ?_
      refine lv_istore (lv' := [(5, .int (r96 - 48)), (4, .int t0), (0, .ref (G.1 61)), (1, .int x1), (2, .int x2)]) hx hb dX7_faultOf_102 hl (by decide) rfl (fun ls hl => ?_)
      refine lv_iload hx hb dX7_faultOf_104 (lv_at hl 0 rfl) ?_
      refine lv_iload hx hb dX7_faultOf_106 (lv_at hl 1 rfl) ?_
      refine lv_if_ne (tgt := 115) hx hb dX7_faultOf_108 (by decide) (fun hc => ?_) (fun hc => ?_)
      · rw [if_neg hc] at hF
        refine lv_iconst (v := 0) hx hb dX7_faultOf_115 (by decide) ?_
        exact b_X7_faultOf_116 hC hr hlk hn hk7 _ _ _ _ _ _ _ _ _ _ hF hS (lv_sub hl [2, 3, 4, 1, 0] rfl)
      · rw [if_pos hc] at hF
        refine lv_iconst (v := 1) hx hb dX7_faultOf_111 (by decide) ?_
        refine lv_goto (tgt := 116) hx hb dX7_faultOf_112 (by decide) ?_
        exact b_X7_faultOf_116 hC hr hlk hn hk7 _ _ _ _ _ _ _ _ _ _ hF hS (lv_sub hl [2, 3, 4, 1, 0] rfl)
    · rw [if_neg hc] at hF
      refine lv_iload_n hx hb dX7_faultOf_87 rfl (lv_at hl 3 rfl) ?_
      refine lv_iconst (v := 1) hx hb dX7_faultOf_88 (by decide) ?_
      refine lv_iadd hx hb dX7_faultOf_89 ?_
      exact retI hC hS hr hlk hF dX7_faultOf_90
  · rw [if_pos hc] at hF
    refine lv_iload_n hx hb dX7_faultOf_72 rfl (lv_at hl 3 rfl) ?_
    exact retI hC hS hr hlk hF dX7_faultOf_73
set_option maxHeartbeats 4000000 in
set_option maxRecDepth 100000 in
theorem b_X7_faultOf_7 {M0 : Mem} {r0 : Int32} (hC : SX p m c s args cX7_faultOf 6 RX7 G (AG G)) (hr : meth.sig.returnType = (some .int)) (hlk : meth.locks = false) (hn : ∀ i ∈ LsF, i ∈ gL G) : ∀ (n : Nat) (x1 : Int32) (x2 : Int32) (M : Mem) (H : Heap) (locs : List Loc) (ls : Array Slot), F_X7_faultOf_7 n x1 x2 M = some (r0, M0) → ST G (AG G) s M H locs → lv_has ls 6 [(0, .ref (G.1 61)), (1, .int x1), (2, .int x2)] → W p l e (RM 1 22) s m args below meth c H locs 0 0 (MQ below (QV G (some (.int r0)) M0) args s 0 0 (AG G)) (F0 m 7 ls []) := by
  obtain ⟨⟨hx, hb, hml, hown, hts⟩, hK, hG, hA⟩ := id hC
  intro n
  induction n with
  | zero =>
    intro x1 x2 M H locs ls hF
    cases hF
  | succ n ih =>
    intro x1 x2 M H locs ls hF hS hl
    unfold F_X7_faultOf_7 at hF
    refine lv_aload_n hx hb dX7_faultOf_7 rfl (lv_at hl 0 rfl) ?_
    refine gx (ci := 7) (k := 10) (v := .ref (G.1 29)) (C := RX7) (T := TX7) (N := 29) hC hS (hn _ (by decide)) rfl rfl in_X7 (by decide) rfl rfl lf_X7_31 dX7_faultOf_8 ?_
    refine lv_iload_n hx hb dX7_faultOf_11 rfl (lv_at hl 1 rfl) ?_
    obtain ⟨hi, hF⟩ := ckb_some hF
    refine ald hC hS (hn _ (by decide)) (by decide) rfl hi dX7_faultOf_12 ?_
    refine lv_if_le (tgt := 193) hx hb dX7_faultOf_13 (by decide) (fun hc => ?_) (fun hc => ?_)
    · rw [if_pos hc] at hF
      refine lv_iconst (v := (-1)) hx hb dX7_faultOf_193 (by decide) ?_
      exact retI hC hS hr hlk hF dX7_faultOf_194
    · rw [if_neg hc] at hF
      refine lv_aload_n hx hb dX7_faultOf_16 rfl (lv_at hl 0 rfl) ?_
      refine lv_iload_n hx hb dX7_faultOf_17 rfl (lv_at hl 1 rfl) ?_
      refine lv_iload_n hx hb dX7_faultOf_18 rfl (lv_at hl 2 rfl) ?_
      obtain ⟨r19, M19, h19, hF⟩ := bd_some hF
      refine cV_ (ci := 7) (i := 61) (C := RX7) (T := TX7) (N := 29) (As := [.int x1, .int x2]) (v := some (.int r19)) (rest := []) (st1 := [.int r19]) hC hS (hn _ (by decide)) rfl rfl (c_X7_byteAt l G hn x1 x2 M _ _ h19) kV_X7_byteAt lm_X7_127 ⟨Nat.le_of_ble_eq_true rfl, Nat.le_of_ble_eq_true rfl⟩ rfl hl.1 (Nat.le_of_ble_eq_true rfl) dX7_faultOf_19 ⟨Nat.le_refl _, Nat.le_refl _⟩ rfl (fun H locs hS => ?_)
      refine lv_istore_n (lv' := [(3, .int r19), (0, .ref (G.1 61)), (1, .int x1), (2, .int x2)]) hx hb dX7_faultOf_22 rfl hl (by decide) rfl (fun ls hl => ?_)
      refine lv_iload_n hx hb dX7_faultOf_23 rfl (lv_at hl 0 rfl) ?_
      refine lv_bipush (v := 103) hx hb dX7_faultOf_24 (by decide) ?_
      refine lv_icmp_ne (tgt := 33) hx hb dX7_faultOf_26 (by decide) (fun hc => ?_) (fun hc => ?_)
      · rw [if_neg hc] at hF
        refine lv_iload_n hx hb dX7_faultOf_33 rfl (lv_at hl 0 rfl) ?_
        refine lv_bipush (v := 99) hx hb dX7_faultOf_34 (by decide) ?_
        refine lv_icmp_ne (tgt := 43) hx hb dX7_faultOf_36 (by decide) (fun hc => ?_) (fun hc => ?_)
        · rw [if_neg hc] at hF
          refine lv_iload_n hx hb dX7_faultOf_43 rfl (lv_at hl 0 rfl) ?_
          refine lv_bipush (v := 101) hx hb dX7_faultOf_44 (by decide) ?_
          refine lv_icmp_ne (tgt := 53) hx hb dX7_faultOf_46 (by decide) (fun hc => ?_) (fun hc => ?_)
          · rw [if_neg hc] at hF
            refine lv_iload_n hx hb dX7_faultOf_53 rfl (lv_at hl 0 rfl) ?_
            refine lv_bipush (v := 112) hx hb dX7_faultOf_54 (by decide) ?_
            refine lv_icmp_ne (tgt := 63) hx hb dX7_faultOf_56 (by decide) (fun hc => ?_) (fun hc => ?_)
            · rw [if_neg hc] at hF
              refine lv_iconst (v := (-1)) hx hb dX7_faultOf_63 (by decide) ?_
              exact b_X7_faultOf_64 hC hr hlk hn ih _ _ _ _ _ _ _ hF hS (lv_sub hl [1, 2, 3] rfl)
            · rw [if_pos hc] at hF
              refine lv_iconst (v := 3) hx hb dX7_faultOf_59 (by decide) ?_
              refine lv_goto (tgt := 64) hx hb dX7_faultOf_60 (by decide) ?_
              exact b_X7_faultOf_64 hC hr hlk hn ih _ _ _ _ _ _ _ hF hS (lv_sub hl [1, 2, 3] rfl)
          · rw [if_pos hc] at hF
            refine lv_iconst (v := 2) hx hb dX7_faultOf_49 (by decide) ?_
            refine lv_goto (tgt := 64) hx hb dX7_faultOf_50 (by decide) ?_
            exact b_X7_faultOf_64 hC hr hlk hn ih _ _ _ _ _ _ _ hF hS (lv_sub hl [1, 2, 3] rfl)
        · rw [if_pos hc] at hF
          refine lv_iconst (v := 1) hx hb dX7_faultOf_39 (by decide) ?_
          refine lv_goto (tgt := 64) hx hb dX7_faultOf_40 (by decide) ?_
          exact b_X7_faultOf_64 hC hr hlk hn ih _ _ _ _ _ _ _ hF hS (lv_sub hl [1, 2, 3] rfl)
      · rw [if_pos hc] at hF
        refine lv_iconst (v := 0) hx hb dX7_faultOf_29 (by decide) ?_
        refine lv_goto (tgt := 64) hx hb dX7_faultOf_30 (by decide) ?_
        exact b_X7_faultOf_64 hC hr hlk hn ih _ _ _ _ _ _ _ hF hS (lv_sub hl [1, 2, 3] rfl)
set_option maxHeartbeats 4000000 in
set_option maxRecDepth 100000 in
theorem b_X7_faultOf {M0 : Mem} {r0 : Int32} (hC : SX p m c s args cX7_faultOf 6 RX7 G (AG G)) (hr : meth.sig.returnType = (some .int)) (hlk : meth.locks = false) (hn : ∀ i ∈ LsF, i ∈ gL G) : ∀ (x1 : Int32) (M : Mem) (H : Heap) (locs : List Loc) (ls : Array Slot), F_X7_faultOf x1 M = some (r0, M0) → ST G (AG G) s M H locs → lv_has ls 6 [(0, .ref (G.1 61)), (1, .int x1)] → W p l e (RM 1 22) s m args below meth c H locs 0 0 (MQ below (QV G (some (.int r0)) M0) args s 0 0 (AG G)) (F0 m 0 ls []) := by
  obtain ⟨⟨hx, hb, hml, hown, hts⟩, hK, hG, hA⟩ := id hC
  intro x1 M H locs ls hF hS hl
  unfold F_X7_faultOf at hF
  refine lv_aload_n hx hb dX7_faultOf_0 rfl (lv_at hl 0 rfl) ?_
  refine lv_iload_n hx hb dX7_faultOf_1 rfl (lv_at hl 1 rfl) ?_
  obtain ⟨M2, h2, hF⟩ := bdv_some hF
  refine cV_ (ci := 7) (i := 61) (C := RX7) (T := TX7) (N := 29) (As := [.int x1]) (v := none) (rest := []) (st1 := []) hC hS (hn _ (by decide)) rfl rfl (c_X7_plain l G hn x1 M _ h2) kV_X7_plain lm_X7_123 ⟨Nat.le_of_ble_eq_true rfl, Nat.le_of_ble_eq_true rfl⟩ rfl hl.1 (Nat.le_of_ble_eq_true rfl) dX7_faultOf_2 ⟨Nat.le_refl _, Nat.le_refl _⟩ rfl (fun H locs hS => ?_)
  refine lv_iconst (v := 0) hx hb dX7_faultOf_5 (by decide) ?_
  refine lv_istore_n (lv' := [(2, .int 0), (0, .ref (G.1 61)), (1, .int x1)]) hx hb dX7_faultOf_6 rfl hl (by decide) rfl (fun ls hl => ?_)
  exact b_X7_faultOf_7 hC hr hlk hn fu _ _ _ _ _ _ hF hS (lv_sub hl [1, 2, 0] rfl)
set_option maxRecDepth 100000 in
theorem c_X7_faultOf (l : Launch) (G : GT) (hn : ∀ i ∈ LsF, i ∈ gL G) (x1 : Int32) (M : Mem) (r0 : Int32) (M0 : Mem) (hF : F_X7_faultOf x1 M = some (r0, M0)) : MetG l G yX7_faultOf cX7_faultOf 6 (some .int) 1 22 [.ref (G.1 61), .int x1] M (some (.int r0)) M0 := by
  refine MetG.of (by decide) (Nat.le_of_ble_eq_true rfl) ?_
  intro p e s m args below meth c hC hr hlk hnm ls hS hl
  exact b_X7_faultOf hC hr hlk hn _ _ _ _ _ hF hS hl
def F_X7_reads (x1 : Int32) (M : Mem) : Option Mem := bd (F_X7_faultOf x1 M) (fun r7 M7 => ckb (ix x1 2) (ckb (ix x1 2) (if ((sa M7 31 x1.toNatClampNeg r7).2 31 x1.toNatClampNeg) = (-1) then some (sa M7 31 x1.toNatClampNeg r7) else bdv (F_X7_plain x1 (sa M7 31 x1.toNatClampNeg r7)) (fun M23 => some M23))))
set_option maxHeartbeats 4000000 in
set_option maxRecDepth 100000 in
theorem b_X7_reads {M0 : Mem} (hC : SX p m c s args cX7_reads 2 RX7 G (AG G)) (hr : meth.sig.returnType = none) (hlk : meth.locks = false) (hn : ∀ i ∈ LsF, i ∈ gL G) : ∀ (x1 : Int32) (M : Mem) (H : Heap) (locs : List Loc) (ls : Array Slot), F_X7_reads x1 M = some M0 → ST G (AG G) s M H locs → lv_has ls 2 [(0, .ref (G.1 61)), (1, .int x1)] → W p l e (RM 2 47) s m args below meth c H locs 0 0 (MQ below (QV G none M0) args s 0 0 (AG G)) (F0 m 0 ls []) := by
  obtain ⟨⟨hx, hb, hml, hown, hts⟩, hK, hG, hA⟩ := id hC
  intro x1 M H locs ls hF hS hl
  unfold F_X7_reads at hF
  refine lv_aload_n hx hb dX7_reads_0 rfl (lv_at hl 0 rfl) ?_
  refine gx (ci := 7) (k := 12) (v := .ref (G.1 31)) (C := RX7) (T := TX7) (N := 29) hC hS (hn _ (by decide)) rfl rfl in_X7 (by decide) rfl rfl lf_X7_37 dX7_reads_1 ?_
  refine lv_iload_n hx hb dX7_reads_4 rfl (lv_at hl 1 rfl) ?_
  refine lv_aload_n hx hb dX7_reads_5 rfl (lv_at hl 0 rfl) ?_
  refine lv_iload_n hx hb dX7_reads_6 rfl (lv_at hl 1 rfl) ?_
  obtain ⟨r7, M7, h7, hF⟩ := bd_some hF
  refine cV_ (ci := 7) (i := 61) (C := RX7) (T := TX7) (N := 29) (As := [.int x1]) (v := some (.int r7)) (rest := [.int x1, .ref (G.1 31)]) (st1 := [.int r7, .int x1, .ref (G.1 31)]) hC hS (hn _ (by decide)) rfl rfl (c_X7_faultOf l G hn x1 M _ _ h7) kV_X7_faultOf lm_X7_130 ⟨Nat.le_of_ble_eq_true rfl, Nat.le_of_ble_eq_true rfl⟩ rfl hl.1 (Nat.le_of_ble_eq_true rfl) dX7_reads_7 ⟨Nat.le_refl _, Nat.le_refl _⟩ rfl (fun H locs hS => ?_)
  obtain ⟨hi, hF⟩ := ckb_some hF
  refine ast hC hS (hn _ (by decide)) (by decide) rfl hi dX7_reads_10 (fun H locs hS => ?_)
  refine lv_aload_n hx hb dX7_reads_11 rfl (lv_at hl 0 rfl) ?_
  refine gx (ci := 7) (k := 12) (v := .ref (G.1 31)) (C := RX7) (T := TX7) (N := 29) hC hS (hn _ (by decide)) rfl rfl in_X7 (by decide) rfl rfl lf_X7_37 dX7_reads_12 ?_
  refine lv_iload_n hx hb dX7_reads_15 rfl (lv_at hl 1 rfl) ?_
  obtain ⟨hi, hF⟩ := ckb_some hF
  refine ald hC hS (hn _ (by decide)) (by decide) rfl hi dX7_reads_16 ?_
  refine lv_iconst (v := (-1)) hx hb dX7_reads_17 (by decide) ?_
  refine lv_icmp_eq (tgt := 26) hx hb dX7_reads_18 (by decide) (fun hc => ?_) (fun hc => ?_)
  · rw [if_pos hc] at hF
    exact retV hC hS hr hlk hF dX7_reads_26
  · rw [if_neg hc] at hF
    refine lv_aload_n hx hb dX7_reads_21 rfl (lv_at hl 0 rfl) ?_
    refine lv_iload_n hx hb dX7_reads_22 rfl (lv_at hl 1 rfl) ?_
    obtain ⟨M23, h23, hF⟩ := bdv_some hF
    refine cV_ (ci := 7) (i := 61) (C := RX7) (T := TX7) (N := 29) (As := [.int x1]) (v := none) (rest := []) (st1 := []) hC hS (hn _ (by decide)) rfl rfl (c_X7_plain l G hn x1 (sa M7 31 x1.toNatClampNeg r7) _ h23) kV_X7_plain lm_X7_123 ⟨Nat.le_of_ble_eq_true rfl, Nat.le_of_ble_eq_true rfl⟩ rfl hl.1 (Nat.le_of_ble_eq_true rfl) dX7_reads_23 ⟨Nat.le_refl _, Nat.le_refl _⟩ rfl (fun H locs hS => ?_)
    exact retV hC hS hr hlk hF dX7_reads_26
set_option maxRecDepth 100000 in
theorem c_X7_reads (l : Launch) (G : GT) (hn : ∀ i ∈ LsF, i ∈ gL G) (x1 : Int32) (M : Mem) (M0 : Mem) (hF : F_X7_reads x1 M = some M0) : MetG l G yX7_reads cX7_reads 2 none 2 47 [.ref (G.1 61), .int x1] M none M0 := by
  refine MetG.of (by decide) (Nat.le_of_ble_eq_true rfl) ?_
  intro p e s m args below meth c hC hr hlk hnm ls hS hl
  exact b_X7_reads hC hr hlk hn _ _ _ _ _ hF hS hl
def F_X7_fault (x1 : Int32) (M : Mem) : Option (Int32 × Mem) := bd (F_X7_isLaw x1 M) (fun r1 M1 => if r1 = 0 then some ((-2), M1) else bdv (F_X7_reads x1 M1) (fun M12 => ckb (ix x1 2) (some (M12.2 31 x1.toNatClampNeg, M12))))
set_option maxHeartbeats 4000000 in
set_option maxRecDepth 100000 in
theorem b_X7_fault {M0 : Mem} {r0 : Int32} (hC : SX p m c s args cX7_fault 2 RX7 G (AG G)) (hr : meth.sig.returnType = (some .int)) (hlk : meth.locks = false) (hn : ∀ i ∈ LsF, i ∈ gL G) : ∀ (x1 : Int32) (M : Mem) (H : Heap) (locs : List Loc) (ls : Array Slot), F_X7_fault x1 M = some (r0, M0) → ST G (AG G) s M H locs → lv_has ls 2 [(0, .ref (G.1 61)), (1, .int x1)] → W p l e (RM 3 68) s m args below meth c H locs 0 0 (MQ below (QV G (some (.int r0)) M0) args s 0 0 (AG G)) (F0 m 0 ls []) := by
  obtain ⟨⟨hx, hb, hml, hown, hts⟩, hK, hG, hA⟩ := id hC
  intro x1 M H locs ls hF hS hl
  unfold F_X7_fault at hF
  refine lv_iload_n hx hb dX7_fault_0 rfl (lv_at hl 1 rfl) ?_
  obtain ⟨r1, M1, h1, hF⟩ := bd_some hF
  refine cS_ (As := [.int x1]) (v := some (.int r1)) (rest := []) (st1 := [.int r1]) hC hS (c_X7_isLaw l G hn x1 M _ _ h1) kS_X7_isLaw lm_X7_120 ⟨Nat.le_of_ble_eq_true rfl, Nat.le_of_ble_eq_true rfl⟩ rfl hl.1 (Nat.le_of_ble_eq_true rfl) dX7_fault_1 ⟨Nat.le_refl _, Nat.le_refl _⟩ rfl (fun H locs hS => ?_)
  refine lv_if_ne (tgt := 10) hx hb dX7_fault_4 (by decide) (fun hc => ?_) (fun hc => ?_)
  · rw [if_neg hc] at hF
    refine lv_aload_n hx hb dX7_fault_10 rfl (lv_at hl 0 rfl) ?_
    refine lv_iload_n hx hb dX7_fault_11 rfl (lv_at hl 1 rfl) ?_
    obtain ⟨M12, h12, hF⟩ := bdv_some hF
    refine cV_ (ci := 7) (i := 61) (C := RX7) (T := TX7) (N := 29) (As := [.int x1]) (v := none) (rest := []) (st1 := []) hC hS (hn _ (by decide)) rfl rfl (c_X7_reads l G hn x1 M1 _ h12) kV_X7_reads lm_X7_133 ⟨Nat.le_of_ble_eq_true rfl, Nat.le_of_ble_eq_true rfl⟩ rfl hl.1 (Nat.le_of_ble_eq_true rfl) dX7_fault_12 ⟨Nat.le_refl _, Nat.le_refl _⟩ rfl (fun H locs hS => ?_)
    refine lv_aload_n hx hb dX7_fault_15 rfl (lv_at hl 0 rfl) ?_
    refine gx (ci := 7) (k := 12) (v := .ref (G.1 31)) (C := RX7) (T := TX7) (N := 29) hC hS (hn _ (by decide)) rfl rfl in_X7 (by decide) rfl rfl lf_X7_37 dX7_fault_16 ?_
    refine lv_iload_n hx hb dX7_fault_19 rfl (lv_at hl 1 rfl) ?_
    obtain ⟨hi, hF⟩ := ckb_some hF
    refine ald hC hS (hn _ (by decide)) (by decide) rfl hi dX7_fault_20 ?_
    exact retI hC hS hr hlk hF dX7_fault_21
  · rw [if_pos hc] at hF
    refine lv_bipush (v := (-2)) hx hb dX7_fault_7 (by decide) ?_
    exact retI hC hS hr hlk hF dX7_fault_9
set_option maxRecDepth 100000 in
theorem c_X7_fault (l : Launch) (G : GT) (hn : ∀ i ∈ LsF, i ∈ gL G) (x1 : Int32) (M : Mem) (r0 : Int32) (M0 : Mem) (hF : F_X7_fault x1 M = some (r0, M0)) : MetG l G yX7_fault cX7_fault 2 (some .int) 3 68 [.ref (G.1 61), .int x1] M (some (.int r0)) M0 := by
  refine MetG.of (by decide) (Nat.le_of_ble_eq_true rfl) ?_
  intro p e s m args below meth c hC hr hlk hnm ls hS hl
  exact b_X7_fault hC hr hlk hn _ _ _ _ _ hF hS hl
end
