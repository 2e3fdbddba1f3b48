section
variable {p : Program} {l : Launch} {e : Env} {s : State} {m : MethodId} {args : Array Value} {below : List Frame} {meth : Method} {c : Code} {G : GT}
def F_J0_isLatin1_aae02_17 (M : Mem) : Option (Int32 × Mem) := some (0, M)
def F_J0_isLatin1_aae02 (w : Nat) (M : Mem) : Option (Int32 × Mem) := if (1 : Int32) = 0 then F_J0_isLatin1_aae02_17 M else if (0 : Int32) = 0 then some (1, M) else F_J0_isLatin1_aae02_17 M
set_option maxHeartbeats 4000000 in
set_option maxRecDepth 100000 in
theorem b_J0_isLatin1_aae02_17 {M0 : Mem} {r0 : Int32} (hC : SX p m c s args cJ0_isLatin1_aae02 1 RJ0 G (AG G)) (hr : meth.sig.returnType = (some .boolean)) (hlk : meth.locks = false) : ∀ (M : Mem) (H : Heap) (locs : List Loc) (ls : Array Slot), F_J0_isLatin1_aae02_17 M = some (r0, M0) → ST G (AG G) s M H locs → lv_has ls 1 [] → W p l e (RM 0 0) s m args below meth c H locs 0 0 (MQ below (QV G (some (.int r0)) M0) args s 0 0 (AG G)) (F0 m 17 ls []) := by
  obtain ⟨⟨hx, hb, hml, hown, hts⟩, hK, hG, hA⟩ := id hC
  intro M H locs ls hF hS hl
  unfold F_J0_isLatin1_aae02_17 at hF
  refine lv_iconst (v := 0) hx hb dJ0_isLatin1_aae02_17 (by decide) ?_
  exact retZ hC hS hr hlk rfl hF dJ0_isLatin1_aae02_18
set_option maxHeartbeats 4000000 in
set_option maxRecDepth 100000 in
theorem b_J0_isLatin1_aae02 {w : Nat} {M0 : Mem} {r0 : Int32} (hC : SX p m c s args cJ0_isLatin1_aae02 1 RJ0 G (AG G)) (hr : meth.sig.returnType = (some .boolean)) (hlk : meth.locks = false) (hw : w < 3) : ∀ (M : Mem) (H : Heap) (locs : List Loc) (ls : Array Slot), F_J0_isLatin1_aae02 w M = some (r0, M0) → ST G (AG G) s M H locs → lv_has ls 1 [(0, .ref (G.2.2.2.2.2.1 w))] → W p l e (RM 0 0) s m args below meth c H locs 0 0 (MQ below (QV G (some (.int r0)) M0) args s 0 0 (AG G)) (F0 m 0 ls []) := by
  obtain ⟨⟨hx, hb, hml, hown, hts⟩, hK, hG, hA⟩ := id hC
  intro M H locs ls hF hS hl
  unfold F_J0_isLatin1_aae02 at hF
  refine va_gets (v := .int 1) hx hb hG.2.1 hS.2 hown (hts _ lj_J0_38) (fun _ h => h) dJ0_isLatin1_aae02_0 ?_
  refine lv_if_eq (tgt := 17) hx hb dJ0_isLatin1_aae02_3 (by decide) (fun hc => ?_) (fun hc => ?_)
  · rw [if_pos hc] at hF
    exact b_J0_isLatin1_aae02_17 hC hr hlk _ _ _ _ hF hS (lv_sub hl [] rfl)
  · rw [if_neg hc] at hF
    refine lv_aload_n hx hb dJ0_isLatin1_aae02_6 rfl (lv_at hl 0 rfl) ?_
    refine vk_getf (v := .int 0) hx hb (hG.1.1 _ hw).2.1 hS.2 hown (hts _ lj_J0_15) (fun _ h => h) dJ0_isLatin1_aae02_7 ?_
    refine lv_if_ne (tgt := 17) hx hb dJ0_isLatin1_aae02_10 (by decide) (fun hc => ?_) (fun hc => ?_)
    · rw [if_neg hc] at hF
      exact b_J0_isLatin1_aae02_17 hC hr hlk _ _ _ _ hF hS (lv_sub hl [] rfl)
    · rw [if_pos hc] at hF
      refine lv_iconst (v := 1) hx hb dJ0_isLatin1_aae02_13 (by decide) ?_
      refine lv_goto (tgt := 18) hx hb dJ0_isLatin1_aae02_14 (by decide) ?_
      exact retZ hC hS hr hlk rfl hF dJ0_isLatin1_aae02_18
set_option maxRecDepth 100000 in
theorem c_J0_isLatin1_aae02 (l : Launch) (G : GT) (w : Nat) (hw : w < 3) (M : Mem) (r0 : Int32) (M0 : Mem) (hF : F_J0_isLatin1_aae02 w M = some (r0, M0)) : MetG l G yJ0_isLatin1_aae02 cJ0_isLatin1_aae02 1 (some .boolean) 0 0 [.ref (G.2.2.2.2.2.1 w)] M (some (.int r0)) M0 := by
  refine MetG.of (by decide) (Nat.le_of_ble_eq_true rfl) ?_
  intro p e s m args below meth c hC hr hlk hnm ls hS hl
  exact b_J0_isLatin1_aae02 hC hr hlk hw _ _ _ _ hF hS hl
def F_J0_coder_7d493 (w : Nat) (M : Mem) : Option (Int32 × Mem) := if (1 : Int32) = 0 then ckb (byb 1) (some (1, M)) else ckb (byb 0) (some (0, M))
set_option maxHeartbeats 4000000 in
set_option maxRecDepth 100000 in
theorem b_J0_coder_7d493 {w : Nat} {M0 : Mem} {r0 : Int32} (hC : SX p m c s args cJ0_coder_7d493 1 RJ0 G (AG G)) (hr : meth.sig.returnType = (some .byte)) (hlk : meth.locks = false) (hw : w < 3) : ∀ (M : Mem) (H : Heap) (locs : List Loc) (ls : Array Slot), F_J0_coder_7d493 w M = some (r0, M0) → ST G (AG G) s M H locs → lv_has ls 1 [(0, .ref (G.2.2.2.2.2.1 w))] → W p l e (RM 0 0) s m args below meth c H locs 0 0 (MQ below (QV G (some (.int r0)) M0) args s 0 0 (AG G)) (F0 m 0 ls []) := by
  obtain ⟨⟨hx, hb, hml, hown, hts⟩, hK, hG, hA⟩ := id hC
  intro M H locs ls hF hS hl
  unfold F_J0_coder_7d493 at hF
  refine va_gets (v := .int 1) hx hb hG.2.1 hS.2 hown (hts _ lj_J0_38) (fun _ h => h) dJ0_coder_7d493_0 ?_
  refine lv_if_eq (tgt := 13) hx hb dJ0_coder_7d493_3 (by decide) (fun hc => ?_) (fun hc => ?_)
  · rw [if_pos hc] at hF
    refine lv_iconst (v := 1) hx hb dJ0_coder_7d493_13 (by decide) ?_
    obtain ⟨hz, hF⟩ := ckb_some hF
    exact retY hC hS hr hlk (byb_n hz) hF dJ0_coder_7d493_14
  · rw [if_neg hc] at hF
    refine lv_aload_n hx hb dJ0_coder_7d493_6 rfl (lv_at hl 0 rfl) ?_
    refine vk_getf (v := .int 0) hx hb (hG.1.1 _ hw).2.1 hS.2 hown (hts _ lj_J0_15) (fun _ h => h) dJ0_coder_7d493_7 ?_
    refine lv_goto (tgt := 14) hx hb dJ0_coder_7d493_10 (by decide) ?_
    obtain ⟨hz, hF⟩ := ckb_some hF
    exact retY hC hS hr hlk (byb_n hz) hF dJ0_coder_7d493_14
set_option maxRecDepth 100000 in
theorem c_J0_coder_7d493 (l : Launch) (G : GT) (w : Nat) (hw : w < 3) (M : Mem) (r0 : Int32) (M0 : Mem) (hF : F_J0_coder_7d493 w M = some (r0, M0)) : MetG l G yJ0_coder_7d493 cJ0_coder_7d493 1 (some .byte) 0 0 [.ref (G.2.2.2.2.2.1 w)] M (some (.int r0)) M0 := by
  refine MetG.of (by decide) (Nat.le_of_ble_eq_true rfl) ?_
  intro p e s m args below meth c hC hr hlk hnm ls hS hl
  exact b_J0_coder_7d493 hC hr hlk hw _ _ _ _ hF hS hl
def F_J0_length_8abf5 (w : Nat) (M : Mem) : Option (Int32 × Mem) := bd (F_J0_coder_7d493 w M) (fun r6 M6 => some ((Int32.ofNat ([4, 4, 4].getD w 0)) >>> (r6 &&& 31), M6))
set_option maxHeartbeats 4000000 in
set_option maxRecDepth 100000 in
theorem b_J0_length_8abf5 {w : Nat} {M0 : Mem} {r0 : Int32} (hC : SX p m c s args cJ0_length_8abf5 1 RJ0 G (AG G)) (hr : meth.sig.returnType = (some .int)) (hlk : meth.locks = false) (hw : w < 3) : ∀ (M : Mem) (H : Heap) (locs : List Loc) (ls : Array Slot), F_J0_length_8abf5 w M = some (r0, M0) → ST G (AG G) s M H locs → lv_has ls 1 [(0, .ref (G.2.2.2.2.2.1 w))] → W p l e (RM 1 20) s m args below meth c H locs 0 0 (MQ below (QV G (some (.int r0)) M0) args s 0 0 (AG G)) (F0 m 0 ls []) := by
  obtain ⟨⟨hx, hb, hml, hown, hts⟩, hK, hG, hA⟩ := id hC
  intro M H locs ls hF hS hl
  unfold F_J0_length_8abf5 at hF
  refine lv_aload_n hx hb dJ0_length_8abf5_0 rfl (lv_at hl 0 rfl) ?_
  refine vk_getf (v := .ref (G.2.2.2.2.2.2 w)) hx hb (hG.1.1 _ hw).2.2.1 hS.2 hown (hts _ lj_J0_9) (fun _ h => h) dJ0_length_8abf5_1 ?_
  refine va_tlen (v := Int32.ofNat ([4, 4, 4].getD w 0)) hx hb (hG.1.1 _ hw).2.2.2 hS.2 rfl dJ0_length_8abf5_4 ?_
  refine lv_aload_n hx hb dJ0_length_8abf5_5 rfl (lv_at hl 0 rfl) ?_
  obtain ⟨r6, M6, h6, hF⟩ := bd_some hF
  refine cT_ (As := []) (v := some (.int r6)) (rest := [.int (Int32.ofNat ([4, 4, 4].getD w 0))]) (st1 := [.int r6, .int (Int32.ofNat ([4, 4, 4].getD w 0))]) hC hS (i := w) hw (c_J0_coder_7d493 l G w hw M _ _ h6) kV_J0_coder_7d493 lm_J0_335 ⟨Nat.le_of_ble_eq_true rfl, Nat.le_of_ble_eq_true rfl⟩ rfl hl.1 (Nat.le_of_ble_eq_true rfl) dJ0_length_8abf5_6 ⟨Nat.le_refl _, Nat.le_refl _⟩ rfl (fun H locs hS => ?_)
  refine lv_ishr hx hb dJ0_length_8abf5_9 ?_
  exact retI hC hS hr hlk hF dJ0_length_8abf5_10
set_option maxRecDepth 100000 in
theorem c_J0_length_8abf5 (l : Launch) (G : GT) (w : Nat) (hw : w < 3) (M : Mem) (r0 : Int32) (M0 : Mem) (hF : F_J0_length_8abf5 w M = some (r0, M0)) : MetG l G yJ0_length_8abf5 cJ0_length_8abf5 1 (some .int) 1 20 [.ref (G.2.2.2.2.2.1 w)] M (some (.int r0)) M0 := by
  refine MetG.of (by decide) (Nat.le_of_ble_eq_true rfl) ?_
  intro p e s m args below meth c hC hr hlk hnm ls hS hl
  exact b_J0_length_8abf5 hC hr hlk hw _ _ _ _ hF hS hl
def F_J1_canEncode_9a6ad_15 (M : Mem) : Option (Int32 × Mem) := some (0, M)
def F_J1_canEncode_9a6ad (x0 : Int32) (M : Mem) : Option (Int32 × Mem) := if x0 < 0 then F_J1_canEncode_9a6ad_15 M else if 255 < x0 then F_J1_canEncode_9a6ad_15 M else some (1, M)
set_option maxHeartbeats 4000000 in
set_option maxRecDepth 100000 in
theorem b_J1_canEncode_9a6ad_15 {M0 : Mem} {r0 : Int32} (hC : SX p m c s args cJ1_canEncode_9a6ad 1 RJ1 G (AG G)) (hr : meth.sig.returnType = (some .boolean)) (hlk : meth.locks = false) : ∀ (M : Mem) (H : Heap) (locs : List Loc) (ls : Array Slot), F_J1_canEncode_9a6ad_15 M = some (r0, M0) → ST G (AG G) s M H locs → lv_has ls 1 [] → W p l e (RM 0 0) s m args below meth c H locs 0 0 (MQ below (QV G (some (.int r0)) M0) args s 0 0 (AG G)) (F0 m 15 ls []) := by
  obtain ⟨⟨hx, hb, hml, hown, hts⟩, hK, hG, hA⟩ := id hC
  intro M H locs ls hF hS hl
  unfold F_J1_canEncode_9a6ad_15 at hF
  refine lv_iconst (v := 0) hx hb dJ1_canEncode_9a6ad_15 (by decide) ?_
  exact retZ hC hS hr hlk rfl hF dJ1_canEncode_9a6ad_16
set_option maxHeartbeats 4000000 in
set_option maxRecDepth 100000 in
theorem b_J1_canEncode_9a6ad {M0 : Mem} {r0 : Int32} (hC : SX p m c s args cJ1_canEncode_9a6ad 1 RJ1 G (AG G)) (hr : meth.sig.returnType = (some .boolean)) (hlk : meth.locks = false) : ∀ (x0 : Int32) (M : Mem) (H : Heap) (locs : List Loc) (ls : Array Slot), F_J1_canEncode_9a6ad x0 M = some (r0, M0) → ST G (AG G) s M H locs → lv_has ls 1 [(0, .int x0)] → W p l e (RM 0 0) s m args below meth c H locs 0 0 (MQ below (QV G (some (.int r0)) M0) args s 0 0 (AG G)) (F0 m 0 ls []) := by
  obtain ⟨⟨hx, hb, hml, hown, hts⟩, hK, hG, hA⟩ := id hC
  intro x0 M H locs ls hF hS hl
  unfold F_J1_canEncode_9a6ad at hF
  refine lv_iload_n hx hb dJ1_canEncode_9a6ad_0 rfl (lv_at hl 0 rfl) ?_
  refine lv_if_lt (tgt := 15) hx hb dJ1_canEncode_9a6ad_1 (by decide) (fun hc => ?_) (fun hc => ?_)
  · rw [if_pos hc] at hF
    exact b_J1_canEncode_9a6ad_15 hC hr hlk _ _ _ _ hF hS (lv_sub hl [] rfl)
  · rw [if_neg hc] at hF
    refine lv_iload_n hx hb dJ1_canEncode_9a6ad_4 rfl (lv_at hl 0 rfl) ?_
    refine lv_sipush (v := 255) hx hb dJ1_canEncode_9a6ad_5 (by decide) ?_
    refine lv_icmp_gt (tgt := 15) hx hb dJ1_canEncode_9a6ad_8 (by decide) (fun hc => ?_) (fun hc => ?_)
    · rw [if_pos hc] at hF
      exact b_J1_canEncode_9a6ad_15 hC hr hlk _ _ _ _ hF hS (lv_sub hl [] rfl)
    · rw [if_neg hc] at hF
      refine lv_iconst (v := 1) hx hb dJ1_canEncode_9a6ad_11 (by decide) ?_
      refine lv_goto (tgt := 16) hx hb dJ1_canEncode_9a6ad_12 (by decide) ?_
      exact retZ hC hS hr hlk rfl hF dJ1_canEncode_9a6ad_16
set_option maxRecDepth 100000 in
theorem c_J1_canEncode_9a6ad (l : Launch) (G : GT) (x0 : Int32) (M : Mem) (r0 : Int32) (M0 : Mem) (hF : F_J1_canEncode_9a6ad x0 M = some (r0, M0)) : MetG l G yJ1_canEncode_9a6ad cJ1_canEncode_9a6ad 1 (some .boolean) 0 0 [.int x0] M (some (.int r0)) M0 := by
  refine MetG.of (by decide) (Nat.le_of_ble_eq_true rfl) ?_
  intro p e s m args below meth c hC hr hlk hnm ls hS hl
  exact b_J1_canEncode_9a6ad hC hr hlk _ _ _ _ _ hF hS hl
def F_J1_indexOfChar_4cfef_7 (w0 : Nat) : Nat → Int32 → Int32 → Int32 → Mem → Option (Int32 × Mem)
  | 0, _, _, _, _ => none
  | n + 1, x3, x4, x5, M => if x3 ≤ x5 then some ((-1), M) else ckb (ix x5 ([4, 4, 4].getD w0 0)) (if ((strB.getD w0 []).getD x5.toNatClampNeg 0) = x4 then some (x5, M) else F_J1_indexOfChar_4cfef_7 w0 n x3 x4 (x5 + 1) M)
def F_J1_indexOfChar_4cfef (w0 : Nat) (x1 : Int32) (x2 : Int32) (x3 : Int32) (M : Mem) : Option (Int32 × Mem) := F_J1_indexOfChar_4cfef_7 w0 fu x3 (x1.toInt8.toInt32) x2 M
set_option maxHeartbeats 4000000 in
set_option maxRecDepth 100000 in
theorem b_J1_indexOfChar_4cfef_7 {w0 : Nat} {M0 : Mem} {r0 : Int32} (hC : SX p m c s args cJ1_indexOfChar_4cfef 6 RJ1 G (AG G)) (hr : meth.sig.returnType = (some .int)) (hlk : meth.locks = false) (hw0 : w0 < 3) : ∀ (n : Nat) (x3 : Int32) (x4 : Int32) (x5 : Int32) (M : Mem) (H : Heap) (locs : List Loc) (ls : Array Slot), F_J1_indexOfChar_4cfef_7 w0 n x3 x4 x5 M = some (r0, M0) → ST G (AG G) s M H locs → lv_has ls 6 [(0, .ref (G.2.2.2.2.2.2 w0)), (3, .int x3), (4, .int x4), (5, .int x5)] → W p l e (RM 0 0) s m args below meth c H locs 0 0 (MQ below (QV G (some (.int r0)) M0) args s 0 0 (AG G)) (F0 m 7 ls []) := by
  obtain ⟨⟨hx, hb, hml, hown, hts⟩, hK, hG, hA⟩ := id hC
  intro n
  induction n with
  | zero =>
    intro x3 x4 x5 M H locs ls hF
    cases hF
  | succ n ih =>
    intro x3 x4 x5 M H locs ls hF hS hl
    unfold F_J1_indexOfChar_4cfef_7 at hF
    refine lv_iload hx hb dJ1_indexOfChar_4cfef_7 (lv_at hl 3 rfl) ?_
    refine lv_iload_n hx hb dJ1_indexOfChar_4cfef_9 rfl (lv_at hl 1 rfl) ?_
    refine lv_icmp_ge (tgt := 31) hx hb dJ1_indexOfChar_4cfef_10 (by decide) (fun hc => ?_) (fun hc => ?_)
    · rw [if_pos hc] at hF
      refine lv_iconst (v := (-1)) hx hb dJ1_indexOfChar_4cfef_31 (by decide) ?_
      exact retI hC hS hr hlk hF dJ1_indexOfChar_4cfef_32
    · rw [if_neg hc] at hF
      refine lv_aload_n hx hb dJ1_indexOfChar_4cfef_13 rfl (lv_at hl 0 rfl) ?_
      refine lv_iload hx hb dJ1_indexOfChar_4cfef_14 (lv_at hl 3 rfl) ?_
      obtain ⟨hi, hF⟩ := ckb_some hF
      refine va_tb (v := .int ((strB.getD w0 []).getD x5.toNatClampNeg 0)) hx hb (hG.1.1 _ hw0).2.2.2 hS.2 (ix_in hi) rfl dJ1_indexOfChar_4cfef_16 ?_
      refine lv_iload hx hb dJ1_indexOfChar_4cfef_17 (lv_at hl 2 rfl) ?_
      refine lv_icmp_ne (tgt := 25) hx hb dJ1_indexOfChar_4cfef_19 (by decide) (fun hc => ?_) (fun hc => ?_)
      · rw [if_neg hc] at hF
        refine lv_iinc (v := x5 + 1) (lv' := [(5, .int (x5 + 1)), (0, .ref (G.2.2.2.2.2.2 w0)), (3, .int x3), (4, .int x4)]) hx hb dJ1_indexOfChar_4cfef_25 hl (k := 3) rfl rfl (by decide) rfl (fun ls hl => ?_)
        refine lv_goto (tgt := 7) hx hb dJ1_indexOfChar_4cfef_28 (by decide) ?_
        exact ih _ _ _ _ _ _ _ hF hS (lv_sub hl [1, 2, 3, 0] rfl)
      · rw [if_pos hc] at hF
        refine lv_iload hx hb dJ1_indexOfChar_4cfef_22 (lv_at hl 3 rfl) ?_
        exact retI hC hS hr hlk hF dJ1_indexOfChar_4cfef_24
set_option maxHeartbeats 4000000 in
set_option maxRecDepth 100000 in
theorem b_J1_indexOfChar_4cfef {w0 : Nat} {M0 : Mem} {r0 : Int32} (hC : SX p m c s args cJ1_indexOfChar_4cfef 6 RJ1 G (AG G)) (hr : meth.sig.returnType = (some .int)) (hlk : meth.locks = false) (hw0 : w0 < 3) : ∀ (x1 : Int32) (x2 : Int32) (x3 : Int32) (M : Mem) (H : Heap) (locs : List Loc) (ls : Array Slot), F_J1_indexOfChar_4cfef w0 x1 x2 x3 M = some (r0, M0) → ST G (AG G) s M H locs → lv_has ls 6 [(0, .ref (G.2.2.2.2.2.2 w0)), (1, .int x1), (2, .int x2), (3, .int x3)] → W p l e (RM 0 0) s m args below meth c H locs 0 0 (MQ below (QV G (some (.int r0)) M0) args s 0 0 (AG G)) (F0 m 0 ls []) := by
  obtain ⟨⟨hx, hb, hml, hown, hts⟩, hK, hG, hA⟩ := id hC
  intro x1 x2 x3 M H locs ls hF hS hl
  unfold F_J1_indexOfChar_4cfef at hF
  refine lv_iload_n hx hb dJ1_indexOfChar_4cfef_0 rfl (lv_at hl 1 rfl) ?_
  refine lv_i2b hx hb dJ1_indexOfChar_4cfef_1 rfl ?_
  refine lv_istore (lv' := [(4, .int x1.toInt8.toInt32), (0, .ref (G.2.2.2.2.2.2 w0)), (1, .int x1), (2, .int x2), (3, .int x3)]) hx hb dJ1_indexOfChar_4cfef_2 hl (by decide) rfl (fun ls hl => ?_)
  refine lv_iload_n hx hb dJ1_indexOfChar_4cfef_4 rfl (lv_at hl 3 rfl) ?_
  refine lv_istore (lv' := [(5, .int x2), (4, .int x1.toInt8.toInt32), (0, .ref (G.2.2.2.2.2.2 w0)), (1, .int x1), (2, .int x2), (3, .int x3)]) hx hb dJ1_indexOfChar_4cfef_5 hl (by decide) rfl (fun ls hl => ?_)
  exact b_J1_indexOfChar_4cfef_7 hC hr hlk hw0 fu _ _ _ _ _ _ _ hF hS (lv_sub hl [2, 5, 1, 0] rfl)
set_option maxRecDepth 100000 in
theorem c_J1_indexOfChar_4cfef (l : Launch) (G : GT) (w0 : Nat) (hw0 : w0 < 3) (x1 : Int32) (x2 : Int32) (x3 : Int32) (M : Mem) (r0 : Int32) (M0 : Mem) (hF : F_J1_indexOfChar_4cfef w0 x1 x2 x3 M = some (r0, M0)) : MetG l G yJ1_indexOfChar_4cfef cJ1_indexOfChar_4cfef 6 (some .int) 0 0 [.ref (G.2.2.2.2.2.2 w0), .int x1, .int x2, .int x3] M (some (.int r0)) M0 := by
  refine MetG.of (by decide) (Nat.le_of_ble_eq_true rfl) ?_
  intro p e s m args below meth c hC hr hlk hnm ls hS hl
  exact b_J1_indexOfChar_4cfef hC hr hlk hw0 _ _ _ _ _ _ _ hF hS hl
def F_J1_indexOf_4cfef (w0 : Nat) (x1 : Int32) (x2 : Int32) (x3 : Int32) (M : Mem) : Option (Int32 × Mem) := bd (F_J1_canEncode_9a6ad x1 M) (fun r1 M1 => if r1 = 0 then some ((-1), M1) else if (if x2 < 0 then 0 else x2) < (if (Int32.ofNat ([4, 4, 4].getD w0 0)) < x3 then (Int32.ofNat ([4, 4, 4].getD w0 0)) else x3) then bd (F_J1_indexOfChar_4cfef w0 x1 (if x2 < 0 then 0 else x2) (if (Int32.ofNat ([4, 4, 4].getD w0 0)) < x3 then (Int32.ofNat ([4, 4, 4].getD w0 0)) else x3) M1) (fun r33 M33 => some (r33, M33)) else some ((-1), M1))
set_option maxHeartbeats 4000000 in
set_option maxRecDepth 100000 in
theorem b_J1_indexOf_4cfef {w0 : Nat} {M0 : Mem} {r0 : Int32} (hC : SX p m c s args cJ1_indexOf_4cfef 4 RJ1 G (AG G)) (hr : meth.sig.returnType = (some .int)) (hlk : meth.locks = false) (hw0 : w0 < 3) : ∀ (x1 : Int32) (x2 : Int32) (x3 : Int32) (M : Mem) (H : Heap) (locs : List Loc) (ls : Array Slot), F_J1_indexOf_4cfef w0 x1 x2 x3 M = some (r0, M0) → ST G (AG G) s M H locs → lv_has ls 4 [(0, .ref (G.2.2.2.2.2.2 w0)), (1, .int x1), (2, .int x2), (3, .int x3)] → W p l e (RM 1 30) s m args below meth c H locs 0 0 (MQ below (QV G (some (.int r0)) M0) args s 0 0 (AG G)) (F0 m 0 ls []) := by
  obtain ⟨⟨hx, hb, hml, hown, hts⟩, hK, hG, hA⟩ := id hC
  intro x1 x2 x3 M H locs ls hF hS hl
  unfold F_J1_indexOf_4cfef at hF
  refine lv_iload_n hx hb dJ1_indexOf_4cfef_0 rfl (lv_at hl 1 rfl) ?_
  obtain ⟨r1, M1, h1, hF⟩ := bd_some hF
  refine cS_ (As := [.int x1]) (v := some (.int r1)) (rest := []) (st1 := [.int r1]) hC hS (c_J1_canEncode_9a6ad l G x1 M _ _ h1) kS_J1_canEncode_9a6ad lm_J1_88 ⟨Nat.le_of_ble_eq_true rfl, Nat.le_of_ble_eq_true rfl⟩ rfl hl.1 (Nat.le_of_ble_eq_true rfl) dJ1_indexOf_4cfef_1 ⟨Nat.le_refl _, Nat.le_refl _⟩ rfl (fun H locs hS => ?_)
  refine lv_if_ne (tgt := 9) hx hb dJ1_indexOf_4cfef_4 (by decide) (fun hc => ?_) (fun hc => ?_)
  · rw [if_neg hc] at hF
    refine lv_iload_n hx hb dJ1_indexOf_4cfef_9 rfl (lv_at hl 2 rfl) ?_
    refine lv_iconst (v := 0) hx hb dJ1_indexOf_4cfef_10 (by decide) ?_
    refine va_mmax (rest := []) hx hb (hml.trans hl.1.symm) hown (hts _ lm_J1_92) (hts _ mx_max.1) (hts _ mx_max.2.1) (hts _ mx_max.2.2) (Nat.le_of_ble_eq_true rfl) (Nat.le_of_ble_eq_true rfl) (Nat.le_refl _) (Nat.le_refl _) dJ1_indexOf_4cfef_11 ?_
    refine lv_istore_n (lv' := [(2, .int (if x2 < 0 then 0 else x2)), (0, .ref (G.2.2.2.2.2.2 w0)), (1, .int x1), (3, .int x3)]) hx hb dJ1_indexOf_4cfef_14 rfl hl (by decide) rfl (fun ls hl => ?_)
    refine lv_iload_n hx hb dJ1_indexOf_4cfef_15 rfl (lv_at hl 3 rfl) ?_
    refine lv_aload_n hx hb dJ1_indexOf_4cfef_16 rfl (lv_at hl 1 rfl) ?_
    refine va_tlen (v := Int32.ofNat ([4, 4, 4].getD w0 0)) hx hb (hG.1.1 _ hw0).2.2.2 hS.2 rfl dJ1_indexOf_4cfef_17 ?_
    refine va_mmin (rest := []) hx hb (hml.trans hl.1.symm) hown (hts _ lm_J1_38) (hts _ mx_min.1) (hts _ mx_min.2.1) (hts _ mx_min.2.2) (Nat.le_of_ble_eq_true rfl) (Nat.le_of_ble_eq_true rfl) (Nat.le_refl _) (Nat.le_refl _) dJ1_indexOf_4cfef_18 ?_
    refine lv_istore_n (lv' := [(3, .int (if (Int32.ofNat ([4, 4, 4].getD w0 0)) < x3 then (Int32.ofNat ([4, 4, 4].getD w0 0)) else x3)), (2, .int (if x2 < 0 then 0 else x2)), (0, .ref (G.2.2.2.2.2.2 w0)), (1, .int x1)]) hx hb dJ1_indexOf_4cfef_21 rfl hl (by decide) rfl (fun ls hl => ?_)
    refine lv_iload_n hx hb dJ1_indexOf_4cfef_22 rfl (lv_at hl 1 rfl) ?_
    refine lv_iload_n hx hb dJ1_indexOf_4cfef_23 rfl (lv_at hl 0 rfl) ?_
    refine lv_icmp_lt (tgt := 29) hx hb dJ1_indexOf_4cfef_24 (by decide) (fun hc => ?_) (fun hc => ?_)
    · rw [if_pos hc] at hF
      refine lv_aload_n hx hb dJ1_indexOf_4cfef_29 rfl (lv_at hl 2 rfl) ?_
      refine lv_iload_n hx hb dJ1_indexOf_4cfef_30 rfl (lv_at hl 3 rfl) ?_
      refine lv_iload_n hx hb dJ1_indexOf_4cfef_31 rfl (lv_at hl 1 rfl) ?_
      refine lv_iload_n hx hb dJ1_indexOf_4cfef_32 rfl (lv_at hl 0 rfl) ?_
      obtain ⟨r33, M33, h33, hF⟩ := bd_some hF
      refine cS_ (As := [.ref (G.2.2.2.2.2.2 w0), .int x1, .int (if x2 < 0 then 0 else x2), .int (if (Int32.ofNat ([4, 4, 4].getD w0 0)) < x3 then (Int32.ofNat ([4, 4, 4].getD w0 0)) else x3)]) (v := some (.int r33)) (rest := []) (st1 := [.int r33]) hC hS (c_J1_indexOfChar_4cfef l G w0 hw0 x1 (if x2 < 0 then 0 else x2) (if (Int32.ofNat ([4, 4, 4].getD w0 0)) < x3 then (Int32.ofNat ([4, 4, 4].getD w0 0)) else x3) M1 _ _ h33) kS_J1_indexOfChar_4cfef lm_J1_95 ⟨Nat.le_of_ble_eq_true rfl, Nat.le_of_ble_eq_true rfl⟩ rfl hl.1 (Nat.le_of_ble_eq_true rfl) dJ1_indexOf_4cfef_33 ⟨Nat.le_refl _, Nat.le_refl _⟩ rfl (fun H locs hS => ?_)
      exact retI hC hS hr hlk hF dJ1_indexOf_4cfef_36
    · rw [if_neg hc] at hF
      refine lv_iconst (v := (-1)) hx hb dJ1_indexOf_4cfef_27 (by decide) ?_
      exact retI hC hS hr hlk hF dJ1_indexOf_4cfef_28
  · rw [if_pos hc] at hF
    refine lv_iconst (v := (-1)) hx hb dJ1_indexOf_4cfef_7 (by decide) ?_
    exact retI hC hS hr hlk hF dJ1_indexOf_4cfef_8
set_option maxRecDepth 100000 in
theorem c_J1_indexOf_4cfef (l : Launch) (G : GT) (w0 : Nat) (hw0 : w0 < 3) (x1 : Int32) (x2 : Int32) (x3 : Int32) (M : Mem) (r0 : Int32) (M0 : Mem) (hF : F_J1_indexOf_4cfef w0 x1 x2 x3 M = some (r0, M0)) : MetG l G yJ1_indexOf_4cfef cJ1_indexOf_4cfef 4 (some .int) 1 30 [.ref (G.2.2.2.2.2.2 w0), .int x1, .int x2, .int x3] M (some (.int r0)) M0 := by
  refine MetG.of (by decide) (Nat.le_of_ble_eq_true rfl) ?_
  intro p e s m args below meth c hC hr hlk hnm ls hS hl
  exact b_J1_indexOf_4cfef hC hr hlk hw0 _ _ _ _ _ _ _ hF hS hl
def F_J0_indexOf_7cf53 (w : Nat) (x1 : Int32) (x2 : Int32) (M : Mem) : Option (Int32 × Mem) := bd (F_J0_isLatin1_aae02 w M) (fun r1 M1 => if r1 = 0 then bd (F_J0_length_8abf5 w M1) (fun r30 M30 => none) else bd (F_J0_length_8abf5 w M1) (fun r14 M14 => bd (F_J1_indexOf_4cfef w x1 x2 r14 M14) (fun r17 M17 => some (r17, M17))))
set_option maxHeartbeats 4000000 in
set_option maxRecDepth 100000 in
theorem b_J0_indexOf_7cf53 {w : Nat} {M0 : Mem} {r0 : Int32} (hC : SX p m c s args cJ0_indexOf_7cf53 3 RJ0 G (AG G)) (hr : meth.sig.returnType = (some .int)) (hlk : meth.locks = false) (hw : w < 3) : ∀ (x1 : Int32) (x2 : Int32) (M : Mem) (H : Heap) (locs : List Loc) (ls : Array Slot), F_J0_indexOf_7cf53 w x1 x2 M = some (r0, M0) → ST G (AG G) s M H locs → lv_has ls 3 [(0, .ref (G.2.2.2.2.2.1 w)), (1, .int x1), (2, .int x2)] → W p l e (RM 2 53) s m args below meth c H locs 0 0 (MQ below (QV G (some (.int r0)) M0) args s 0 0 (AG G)) (F0 m 0 ls []) := by
  obtain ⟨⟨hx, hb, hml, hown, hts⟩, hK, hG, hA⟩ := id hC
  intro x1 x2 M H locs ls hF hS hl
  unfold F_J0_indexOf_7cf53 at hF
  refine lv_aload_n hx hb dJ0_indexOf_7cf53_0 rfl (lv_at hl 0 rfl) ?_
  obtain ⟨r1, M1, h1, hF⟩ := bd_some hF
  refine cT_ (As := []) (v := some (.int r1)) (rest := []) (st1 := [.int r1]) hC hS (i := w) hw (c_J0_isLatin1_aae02 l G w hw M _ _ h1) kV_J0_isLatin1_aae02 lm_J0_492 ⟨Nat.le_of_ble_eq_true rfl, Nat.le_of_ble_eq_true rfl⟩ rfl hl.1 (Nat.le_of_ble_eq_true rfl) dJ0_indexOf_7cf53_1 ⟨Nat.le_refl _, Nat.le_refl _⟩ rfl (fun H locs hS => ?_)
  refine lv_if_eq (tgt := 23) hx hb dJ0_indexOf_7cf53_4 (by decide) (fun hc => ?_) (fun hc => ?_)
  · rw [if_pos hc] at hF
    refine lv_aload_n hx hb dJ0_indexOf_7cf53_23 rfl (lv_at hl 0 rfl) ?_
    refine vk_getf (v := .ref (G.2.2.2.2.2.2 w)) hx hb (hG.1.1 _ hw).2.2.1 hS.2 hown (hts _ lj_J0_9) (fun _ h => h) dJ0_indexOf_7cf53_24 ?_
    refine lv_iload_n hx hb dJ0_indexOf_7cf53_27 rfl (lv_at hl 1 rfl) ?_
    refine lv_iload_n hx hb dJ0_indexOf_7cf53_28 rfl (lv_at hl 2 rfl) ?_
    refine lv_aload_n hx hb dJ0_indexOf_7cf53_29 rfl (lv_at hl 0 rfl) ?_
    obtain ⟨r30, M30, h30, hF⟩ := bd_some hF
    refine cT_ (As := []) (v := some (.int r30)) (rest := [.int x2, .int x1, .ref (G.2.2.2.2.2.2 w)]) (st1 := [.int r30, .int x2, .int x1, .ref (G.2.2.2.2.2.2 w)]) hC hS (i := w) hw (c_J0_length_8abf5 l G w hw M1 _ _ h30) kV_J0_length_8abf5 lm_J0_505 ⟨Nat.le_of_ble_eq_true rfl, Nat.le_of_ble_eq_true rfl⟩ rfl hl.1 (Nat.le_of_ble_eq_true rfl) dJ0_indexOf_7cf53_30 ⟨Nat.le_refl _, Nat.le_refl _⟩ rfl (fun H locs hS => ?_)
    cases hF
  · rw [if_neg hc] at hF
    refine lv_aload_n hx hb dJ0_indexOf_7cf53_7 rfl (lv_at hl 0 rfl) ?_
    refine vk_getf (v := .ref (G.2.2.2.2.2.2 w)) hx hb (hG.1.1 _ hw).2.2.1 hS.2 hown (hts _ lj_J0_9) (fun _ h => h) dJ0_indexOf_7cf53_8 ?_
    refine lv_iload_n hx hb dJ0_indexOf_7cf53_11 rfl (lv_at hl 1 rfl) ?_
    refine lv_iload_n hx hb dJ0_indexOf_7cf53_12 rfl (lv_at hl 2 rfl) ?_
    refine lv_aload_n hx hb dJ0_indexOf_7cf53_13 rfl (lv_at hl 0 rfl) ?_
    obtain ⟨r14, M14, h14, hF⟩ := bd_some hF
    refine cT_ (As := []) (v := some (.int r14)) (rest := [.int x2, .int x1, .ref (G.2.2.2.2.2.2 w)]) (st1 := [.int r14, .int x2, .int x1, .ref (G.2.2.2.2.2.2 w)]) hC hS (i := w) hw (c_J0_length_8abf5 l G w hw M1 _ _ h14) kV_J0_length_8abf5 lm_J0_505 ⟨Nat.le_of_ble_eq_true rfl, Nat.le_of_ble_eq_true rfl⟩ rfl hl.1 (Nat.le_of_ble_eq_true rfl) dJ0_indexOf_7cf53_14 ⟨Nat.le_refl _, Nat.le_refl _⟩ rfl (fun H locs hS => ?_)
    obtain ⟨r17, M17, h17, hF⟩ := bd_some hF
    refine cS_ (As := [.ref (G.2.2.2.2.2.2 w), .int x1, .int x2, .int r14]) (v := some (.int r17)) (rest := []) (st1 := [.int r17]) hC hS (c_J1_indexOf_4cfef l G w hw x1 x2 r14 M14 _ _ h17) kS_J1_indexOf_4cfef lm_J0_637 ⟨Nat.le_of_ble_eq_true rfl, Nat.le_of_ble_eq_true rfl⟩ rfl hl.1 (Nat.le_of_ble_eq_true rfl) dJ0_indexOf_7cf53_17 ⟨Nat.le_refl _, Nat.le_refl _⟩ rfl (fun H locs hS => ?_)
    refine lv_goto (tgt := 36) hx hb dJ0_indexOf_7cf53_20 (by decide) ?_
    exact retI hC hS hr hlk hF dJ0_indexOf_7cf53_36
set_option maxRecDepth 100000 in
theorem c_J0_indexOf_7cf53 (l : Launch) (G : GT) (w : Nat) (hw : w < 3) (x1 : Int32) (x2 : Int32) (M : Mem) (r0 : Int32) (M0 : Mem) (hF : F_J0_indexOf_7cf53 w x1 x2 M = some (r0, M0)) : MetG l G yJ0_indexOf_7cf53 cJ0_indexOf_7cf53 3 (some .int) 2 53 [.ref (G.2.2.2.2.2.1 w), .int x1, .int x2] M (some (.int r0)) M0 := by
  refine MetG.of (by decide) (Nat.le_of_ble_eq_true rfl) ?_
  intro p e s m args below meth c hC hr hlk hnm ls hS hl
  exact b_J0_indexOf_7cf53 hC hr hlk hw _ _ _ _ _ _ hF hS hl
def F_J0_indexOf_0f7a4 (w : Nat) (x1 : Int32) (M : Mem) : Option (Int32 × Mem) := bd (F_J0_indexOf_7cf53 w x1 0 M) (fun r3 M3 => some (r3, M3))
set_option maxHeartbeats 4000000 in
set_option maxRecDepth 100000 in
theorem b_J0_indexOf_0f7a4 {w : Nat} {M0 : Mem} {r0 : Int32} (hC : SX p m c s args cJ0_indexOf_0f7a4 2 RJ0 G (AG G)) (hr : meth.sig.returnType = (some .int)) (hlk : meth.locks = false) (hw : w < 3) : ∀ (x1 : Int32) (M : Mem) (H : Heap) (locs : List Loc) (ls : Array Slot), F_J0_indexOf_0f7a4 w x1 M = some (r0, M0) → ST G (AG G) s M H locs → lv_has ls 2 [(0, .ref (G.2.2.2.2.2.1 w)), (1, .int x1)] → W p l e (RM 3 75) s m args below meth c H locs 0 0 (MQ below (QV G (some (.int r0)) M0) args s 0 0 (AG G)) (F0 m 0 ls []) := by
  obtain ⟨⟨hx, hb, hml, hown, hts⟩, hK, hG, hA⟩ := id hC
  intro x1 M H locs ls hF hS hl
  unfold F_J0_indexOf_0f7a4 at hF
  refine lv_aload_n hx hb dJ0_indexOf_0f7a4_0 rfl (lv_at hl 0 rfl) ?_
  refine lv_iload_n hx hb dJ0_indexOf_0f7a4_1 rfl (lv_at hl 1 rfl) ?_
  refine lv_iconst (v := 0) hx hb dJ0_indexOf_0f7a4_2 (by decide) ?_
  obtain ⟨r3, M3, h3, hF⟩ := bd_some hF
  refine cT_ (As := [.int x1, .int 0]) (v := some (.int r3)) (rest := []) (st1 := [.int r3]) hC hS (i := w) hw (c_J0_indexOf_7cf53 l G w hw x1 0 M _ _ h3) kV_J0_indexOf_7cf53 lm_J0_633 ⟨Nat.le_of_ble_eq_true rfl, Nat.le_of_ble_eq_true rfl⟩ rfl hl.1 (Nat.le_of_ble_eq_true rfl) dJ0_indexOf_0f7a4_3 ⟨Nat.le_refl _, Nat.le_refl _⟩ rfl (fun H locs hS => ?_)
  exact retI hC hS hr hlk hF dJ0_indexOf_0f7a4_6
set_option maxRecDepth 100000 in
theorem c_J0_indexOf_0f7a4 (l : Launch) (G : GT) (w : Nat) (hw : w < 3) (x1 : Int32) (M : Mem) (r0 : Int32) (M0 : Mem) (hF : F_J0_indexOf_0f7a4 w x1 M = some (r0, M0)) : MetG l G yJ0_indexOf_0f7a4 cJ0_indexOf_0f7a4 2 (some .int) 3 75 [.ref (G.2.2.2.2.2.1 w), .int x1] M (some (.int r0)) M0 := by
  refine MetG.of (by decide) (Nat.le_of_ble_eq_true rfl) ?_
  intro p e s m args below meth c hC hr hlk hnm ls hS hl
  exact b_J0_indexOf_0f7a4 hC hr hlk hw _ _ _ _ _ hF hS hl
def F_J3_checkIndex_8e157_9 (x0 : Int32) (x1 : Int32) (M : Mem) : Option (Int32 × Mem) := none
def F_J3_checkIndex_8e157 (x0 : Int32) (x1 : Int32) (M : Mem) : Option (Int32 × Mem) := if x0 < 0 then F_J3_checkIndex_8e157_9 x0 x1 M else if x0 < x1 then some (x0, M) else F_J3_checkIndex_8e157_9 x0 x1 M
set_option maxHeartbeats 4000000 in
set_option maxRecDepth 100000 in
theorem b_J3_checkIndex_8e157_9_n {M0 : Mem} {r0 : Int32} (hC : SX p m c s args cJ3_checkIndex_8e157 3 RJ3 G (AG G)) (hr : meth.sig.returnType = (some .int)) (hlk : meth.locks = false) : ∀ (x0 : Int32) (x1 : Int32) (M : Mem) (H : Heap) (locs : List Loc) (ls : Array Slot), F_J3_checkIndex_8e157_9 x0 x1 M = some (r0, M0) → ST G (AG G) s M H locs → lv_has ls 3 [(0, .int x0), (1, .int x1), (2, .null)] → W p l e (RM 0 0) s m args below meth c H locs 0 0 (MQ below (QV G (some (.int r0)) M0) args s 0 0 (AG G)) (F0 m 9 ls []) := by
  obtain ⟨⟨hx, hb, hml, hown, hts⟩, hK, hG, hA⟩ := id hC
  intro x0 x1 M H locs ls hF hS hl
  unfold F_J3_checkIndex_8e157_9 at hF
  refine lv_aload_nN hx hb dJ3_checkIndex_8e157_9 rfl (lv_at hl 2 rfl) ?_
  refine lv_iload_n hx hb dJ3_checkIndex_8e157_10 rfl (lv_at hl 0 rfl) ?_
  refine lv_iload_n hx hb dJ3_checkIndex_8e157_11 rfl (lv_at hl 1 rfl) ?_
  cases hF
set_option maxHeartbeats 4000000 in
set_option maxRecDepth 100000 in
theorem b_J3_checkIndex_8e157_n {M0 : Mem} {r0 : Int32} (hC : SX p m c s args cJ3_checkIndex_8e157 3 RJ3 G (AG G)) (hr : meth.sig.returnType = (some .int)) (hlk : meth.locks = false) : ∀ (x0 : Int32) (x1 : Int32) (M : Mem) (H : Heap) (locs : List Loc) (ls : Array Slot), F_J3_checkIndex_8e157 x0 x1 M = some (r0, M0) → ST G (AG G) s M H locs → lv_has ls 3 [(0, .int x0), (1, .int x1), (2, .null)] → W p l e (RM 0 0) s m args below meth c H locs 0 0 (MQ below (QV G (some (.int r0)) M0) args s 0 0 (AG G)) (F0 m 0 ls []) := by
  obtain ⟨⟨hx, hb, hml, hown, hts⟩, hK, hG, hA⟩ := id hC
  intro x0 x1 M H locs ls hF hS hl
  unfold F_J3_checkIndex_8e157 at hF
  refine lv_iload_n hx hb dJ3_checkIndex_8e157_0 rfl (lv_at hl 0 rfl) ?_
  refine lv_if_lt (tgt := 9) hx hb dJ3_checkIndex_8e157_1 (by decide) (fun hc => ?_) (fun hc => ?_)
  · rw [if_pos hc] at hF
    exact b_J3_checkIndex_8e157_9_n hC hr hlk _ _ _ _ _ _ hF hS (lv_sub hl [0, 1, 2] rfl)
  · rw [if_neg hc] at hF
    refine lv_iload_n hx hb dJ3_checkIndex_8e157_4 rfl (lv_at hl 0 rfl) ?_
    refine lv_iload_n hx hb dJ3_checkIndex_8e157_5 rfl (lv_at hl 1 rfl) ?_
    refine lv_icmp_lt (tgt := 16) hx hb dJ3_checkIndex_8e157_6 (by decide) (fun hc => ?_) (fun hc => ?_)
    · rw [if_pos hc] at hF
      refine lv_iload_n hx hb dJ3_checkIndex_8e157_16 rfl (lv_at hl 0 rfl) ?_
      exact retI hC hS hr hlk hF dJ3_checkIndex_8e157_17
    · rw [if_neg hc] at hF
      exact b_J3_checkIndex_8e157_9_n hC hr hlk _ _ _ _ _ _ hF hS (lv_sub hl [0, 1, 2] rfl)
set_option maxRecDepth 100000 in
theorem c_J3_checkIndex_8e157_n (l : Launch) (G : GT) (x0 : Int32) (x1 : Int32) (M : Mem) (r0 : Int32) (M0 : Mem) (hF : F_J3_checkIndex_8e157 x0 x1 M = some (r0, M0)) : MetG l G yJ3_checkIndex_8e157 cJ3_checkIndex_8e157 3 (some .int) 0 0 [.int x0, .int x1, .null] M (some (.int r0)) M0 := by
  refine MetG.of (by decide) (Nat.le_of_ble_eq_true rfl) ?_
  intro p e s m args below meth c hC hr hlk hnm ls hS hl
  exact b_J3_checkIndex_8e157_n hC hr hlk _ _ _ _ _ _ hF hS hl
set_option maxHeartbeats 4000000 in
set_option maxRecDepth 100000 in
theorem b_J3_checkIndex_8e157_9_t {z2 : Nat} {M0 : Mem} {r0 : Int32} (hC : SX p m c s args cJ3_checkIndex_8e157 3 RJ3 G (AG G)) (hr : meth.sig.returnType = (some .int)) (hlk : meth.locks = false) (hz2 : True) : ∀ (x0 : Int32) (x1 : Int32) (M : Mem) (H : Heap) (locs : List Loc) (ls : Array Slot), F_J3_checkIndex_8e157_9 x0 x1 M = some (r0, M0) → ST G (AG G) s M H locs → lv_has ls 3 [(0, .int x0), (1, .int x1), (2, .ref z2)] → W p l e (RM 0 0) s m args below meth c H locs 0 0 (MQ below (QV G (some (.int r0)) M0) args s 0 0 (AG G)) (F0 m 9 ls []) := by
  obtain ⟨⟨hx, hb, hml, hown, hts⟩, hK, hG, hA⟩ := id hC
  intro x0 x1 M H locs ls hF hS hl
  unfold F_J3_checkIndex_8e157_9 at hF
  refine lv_aload_n hx hb dJ3_checkIndex_8e157_9 rfl (lv_at hl 2 rfl) ?_
  refine lv_iload_n hx hb dJ3_checkIndex_8e157_10 rfl (lv_at hl 0 rfl) ?_
  refine lv_iload_n hx hb dJ3_checkIndex_8e157_11 rfl (lv_at hl 1 rfl) ?_
  cases hF
set_option maxHeartbeats 4000000 in
set_option maxRecDepth 100000 in
theorem b_J3_checkIndex_8e157_t {z2 : Nat} {M0 : Mem} {r0 : Int32} (hC : SX p m c s args cJ3_checkIndex_8e157 3 RJ3 G (AG G)) (hr : meth.sig.returnType = (some .int)) (hlk : meth.locks = false) (hz2 : True) : ∀ (x0 : Int32) (x1 : Int32) (M : Mem) (H : Heap) (locs : List Loc) (ls : Array Slot), F_J3_checkIndex_8e157 x0 x1 M = some (r0, M0) → ST G (AG G) s M H locs → lv_has ls 3 [(0, .int x0), (1, .int x1), (2, .ref z2)] → W p l e (RM 0 0) s m args below meth c H locs 0 0 (MQ below (QV G (some (.int r0)) M0) args s 0 0 (AG G)) (F0 m 0 ls []) := by
  obtain ⟨⟨hx, hb, hml, hown, hts⟩, hK, hG, hA⟩ := id hC
  intro x0 x1 M H locs ls hF hS hl
  unfold F_J3_checkIndex_8e157 at hF
  refine lv_iload_n hx hb dJ3_checkIndex_8e157_0 rfl (lv_at hl 0 rfl) ?_
  refine lv_if_lt (tgt := 9) hx hb dJ3_checkIndex_8e157_1 (by decide) (fun hc => ?_) (fun hc => ?_)
  · rw [if_pos hc] at hF
    exact b_J3_checkIndex_8e157_9_t hC hr hlk hz2 _ _ _ _ _ _ hF hS (lv_sub hl [0, 1, 2] rfl)
  · rw [if_neg hc] at hF
    refine lv_iload_n hx hb dJ3_checkIndex_8e157_4 rfl (lv_at hl 0 rfl) ?_
    refine lv_iload_n hx hb dJ3_checkIndex_8e157_5 rfl (lv_at hl 1 rfl) ?_
    refine lv_icmp_lt (tgt := 16) hx hb dJ3_checkIndex_8e157_6 (by decide) (fun hc => ?_) (fun hc => ?_)
    · rw [if_pos hc] at hF
      refine lv_iload_n hx hb dJ3_checkIndex_8e157_16 rfl (lv_at hl 0 rfl) ?_
      exact retI hC hS hr hlk hF dJ3_checkIndex_8e157_17
    · rw [if_neg hc] at hF
      exact b_J3_checkIndex_8e157_9_t hC hr hlk hz2 _ _ _ _ _ _ hF hS (lv_sub hl [0, 1, 2] rfl)
set_option maxRecDepth 100000 in
theorem c_J3_checkIndex_8e157_t (l : Launch) (G : GT) (z2 : Nat) (hz2 : True) (x0 : Int32) (x1 : Int32) (M : Mem) (r0 : Int32) (M0 : Mem) (hF : F_J3_checkIndex_8e157 x0 x1 M = some (r0, M0)) : MetG l G yJ3_checkIndex_8e157 cJ3_checkIndex_8e157 3 (some .int) 0 0 [.int x0, .int x1, .ref z2] M (some (.int r0)) M0 := by
  refine MetG.of (by decide) (Nat.le_of_ble_eq_true rfl) ?_
  intro p e s m args below meth c hC hr hlk hnm ls hS hl
  exact b_J3_checkIndex_8e157_t hC hr hlk hz2 _ _ _ _ _ _ hF hS hl
def F_J0_checkIndex_df160 (x0 : Int32) (x1 : Int32) (M : Mem) : Option Mem := bd (F_J3_checkIndex_8e157 x0 x1 M) (fun r5 M5 => some M5)
set_option maxHeartbeats 4000000 in
set_option maxRecDepth 100000 in
theorem b_J0_checkIndex_df160 {M0 : Mem} (hC : SX p m c s args cJ0_checkIndex_df160 2 RJ0 G (AG G)) (hr : meth.sig.returnType = none) (hlk : meth.locks = false) : ∀ (x0 : Int32) (x1 : Int32) (M : Mem) (H : Heap) (locs : List Loc) (ls : Array Slot), F_J0_checkIndex_df160 x0 x1 M = some M0 → ST G (AG G) s M H locs → lv_has ls 2 [(0, .int x0), (1, .int x1)] → W p l e (RM 1 22) s m args below meth c H locs 0 0 (MQ below (QV G none M0) args s 0 0 (AG G)) (F0 m 0 ls []) := by
  obtain ⟨⟨hx, hb, hml, hown, hts⟩, hK, hG, hA⟩ := id hC
  intro x0 x1 M H locs ls hF hS hl
  unfold F_J0_checkIndex_df160 at hF
  refine lv_iload_n hx hb dJ0_checkIndex_df160_0 rfl (lv_at hl 0 rfl) ?_
  refine lv_iload_n hx hb dJ0_checkIndex_df160_1 rfl (lv_at hl 1 rfl) ?_
  rcases hG.2.2.1 with hZ | ⟨z, hZ⟩
  · refine va_gets hx hb hZ hS.2 hown (hts _ lj_J0_1053) (fun _ h => h) dJ0_checkIndex_df160_2 ?_
    obtain ⟨r5, M5, h5, hF⟩ := bd_some hF
    refine cS_ (As := [.int x0, .int x1, .null]) (v := some (.int r5)) (rest := []) (st1 := [.int r5]) hC hS (c_J3_checkIndex_8e157_n l G x0 x1 M _ _ h5) kS_J3_checkIndex_8e157 lm_J0_1059 ⟨Nat.le_of_ble_eq_true rfl, Nat.le_of_ble_eq_true rfl⟩ rfl hl.1 (Nat.le_of_ble_eq_true rfl) dJ0_checkIndex_df160_5 ⟨Nat.le_refl _, Nat.le_refl _⟩ rfl (fun H locs hS => ?_)
    refine lv_pop hx hb dJ0_checkIndex_df160_8 rfl ?_
    exact retV hC hS hr hlk hF dJ0_checkIndex_df160_9
  · have hz : True := trivial
    refine va_gets hx hb hZ hS.2 hown (hts _ lj_J0_1053) (fun _ h => h) dJ0_checkIndex_df160_2 ?_
    obtain ⟨r5, M5, h5, hF⟩ := bd_some hF
    refine cS_ (As := [.int x0, .int x1, .ref z]) (v := some (.int r5)) (rest := []) (st1 := [.int r5]) hC hS (c_J3_checkIndex_8e157_t l G z trivial x0 x1 M _ _ h5) kS_J3_checkIndex_8e157 lm_J0_1059 ⟨Nat.le_of_ble_eq_true rfl, Nat.le_of_ble_eq_true rfl⟩ rfl hl.1 (Nat.le_of_ble_eq_true rfl) dJ0_checkIndex_df160_5 ⟨Nat.le_refl _, Nat.le_refl _⟩ rfl (fun H locs hS => ?_)
    refine lv_pop hx hb dJ0_checkIndex_df160_8 rfl ?_
    exact retV hC hS hr hlk hF dJ0_checkIndex_df160_9
set_option maxRecDepth 100000 in
theorem c_J0_checkIndex_df160 (l : Launch) (G : GT) (x0 : Int32) (x1 : Int32) (M : Mem) (M0 : Mem) (hF : F_J0_checkIndex_df160 x0 x1 M = some M0) : MetG l G yJ0_checkIndex_df160 cJ0_checkIndex_df160 2 none 1 22 [.int x0, .int x1] M none M0 := by
  refine MetG.of (by decide) (Nat.le_of_ble_eq_true rfl) ?_
  intro p e s m args below meth c hC hr hlk hnm ls hS hl
  exact b_J0_checkIndex_df160 hC hr hlk _ _ _ _ _ _ hF hS hl
def F_J1_charAt_3b067 (w0 : Nat) (x1 : Int32) (M : Mem) : Option (Int32 × Mem) := bdv (F_J0_checkIndex_df160 x1 (Int32.ofNat ([4, 4, 4].getD w0 0)) M) (fun M3 => ckb (ix x1 ([4, 4, 4].getD w0 0)) (ckb (chb (((((strB.getD w0 []).getD x1.toNatClampNeg 0) &&& 255).toUInt32 % 65536).toInt32)) (some (((((strB.getD w0 []).getD x1.toNatClampNeg 0) &&& 255).toUInt32 % 65536).toInt32, M3))))
set_option maxHeartbeats 4000000 in
set_option maxRecDepth 100000 in
theorem b_J1_charAt_3b067 {w0 : Nat} {M0 : Mem} {r0 : Int32} (hC : SX p m c s args cJ1_charAt_3b067 2 RJ1 G (AG G)) (hr : meth.sig.returnType = (some .char)) (hlk : meth.locks = false) (hw0 : w0 < 3) : ∀ (x1 : Int32) (M : Mem) (H : Heap) (locs : List Loc) (ls : Array Slot), F_J1_charAt_3b067 w0 x1 M = some (r0, M0) → ST G (AG G) s M H locs → lv_has ls 2 [(0, .ref (G.2.2.2.2.2.2 w0)), (1, .int x1)] → W p l e (RM 2 43) s m args below meth c H locs 0 0 (MQ below (QV G (some (.int r0)) M0) args s 0 0 (AG G)) (F0 m 0 ls []) := by
  obtain ⟨⟨hx, hb, hml, hown, hts⟩, hK, hG, hA⟩ := id hC
  intro x1 M H locs ls hF hS hl
  unfold F_J1_charAt_3b067 at hF
  refine lv_iload_n hx hb dJ1_charAt_3b067_0 rfl (lv_at hl 1 rfl) ?_
  refine lv_aload_n hx hb dJ1_charAt_3b067_1 rfl (lv_at hl 0 rfl) ?_
  refine va_tlen (v := Int32.ofNat ([4, 4, 4].getD w0 0)) hx hb (hG.1.1 _ hw0).2.2.2 hS.2 rfl dJ1_charAt_3b067_2 ?_
  obtain ⟨M3, h3, hF⟩ := bdv_some hF
  refine cS_ (As := [.int x1, .int (Int32.ofNat ([4, 4, 4].getD w0 0))]) (v := none) (rest := []) (st1 := []) hC hS (c_J0_checkIndex_df160 l G x1 (Int32.ofNat ([4, 4, 4].getD w0 0)) M _ h3) kS_J0_checkIndex_df160 lm_J1_9 ⟨Nat.le_of_ble_eq_true rfl, Nat.le_of_ble_eq_true rfl⟩ rfl hl.1 (Nat.le_of_ble_eq_true rfl) dJ1_charAt_3b067_3 ⟨Nat.le_refl _, Nat.le_refl _⟩ rfl (fun H locs hS => ?_)
  refine lv_aload_n hx hb dJ1_charAt_3b067_6 rfl (lv_at hl 0 rfl) ?_
  refine lv_iload_n hx hb dJ1_charAt_3b067_7 rfl (lv_at hl 1 rfl) ?_
  obtain ⟨hi, hF⟩ := ckb_some hF
  refine va_tb (v := .int ((strB.getD w0 []).getD x1.toNatClampNeg 0)) hx hb (hG.1.1 _ hw0).2.2.2 hS.2 (ix_in hi) rfl dJ1_charAt_3b067_8 ?_
  refine lv_sipush (v := 255) hx hb dJ1_charAt_3b067_9 (by decide) ?_
  refine lv_iand hx hb dJ1_charAt_3b067_12 ?_
  refine lv_i2c hx hb dJ1_charAt_3b067_13 rfl ?_
  obtain ⟨hz, hF⟩ := ckb_some hF
  exact retY hC hS hr hlk (chb_n hz) hF dJ1_charAt_3b067_14
set_option maxRecDepth 100000 in
theorem c_J1_charAt_3b067 (l : Launch) (G : GT) (w0 : Nat) (hw0 : w0 < 3) (x1 : Int32) (M : Mem) (r0 : Int32) (M0 : Mem) (hF : F_J1_charAt_3b067 w0 x1 M = some (r0, M0)) : MetG l G yJ1_charAt_3b067 cJ1_charAt_3b067 2 (some .char) 2 43 [.ref (G.2.2.2.2.2.2 w0), .int x1] M (some (.int r0)) M0 := by
  refine MetG.of (by decide) (Nat.le_of_ble_eq_true rfl) ?_
  intro p e s m args below meth c hC hr hlk hnm ls hS hl
  exact b_J1_charAt_3b067 hC hr hlk hw0 _ _ _ _ _ hF hS hl
def F_J0_charAt_5068e (w : Nat) (x1 : Int32) (M : Mem) : Option (Int32 × Mem) := bd (F_J0_isLatin1_aae02 w M) (fun r1 M1 => if r1 = 0 then none else bd (F_J1_charAt_3b067 w x1 M1) (fun r12 M12 => ckb (chb r12) (some (r12, M12))))
set_option maxHeartbeats 4000000 in
set_option maxRecDepth 100000 in
theorem b_J0_charAt_5068e {w : Nat} {M0 : Mem} {r0 : Int32} (hC : SX p m c s args cJ0_charAt_5068e 2 RJ0 G (AG G)) (hr : meth.sig.returnType = (some .char)) (hlk : meth.locks = false) (hw : w < 3) : ∀ (x1 : Int32) (M : Mem) (H : Heap) (locs : List Loc) (ls : Array Slot), F_J0_charAt_5068e w x1 M = some (r0, M0) → ST G (AG G) s M H locs → lv_has ls 2 [(0, .ref (G.2.2.2.2.2.1 w)), (1, .int x1)] → W p l e (RM 3 64) s m args below meth c H locs 0 0 (MQ below (QV G (some (.int r0)) M0) args s 0 0 (AG G)) (F0 m 0 ls []) := by
  obtain ⟨⟨hx, hb, hml, hown, hts⟩, hK, hG, hA⟩ := id hC
  intro x1 M H locs ls hF hS hl
  unfold F_J0_charAt_5068e at hF
  refine lv_aload_n hx hb dJ0_charAt_5068e_0 rfl (lv_at hl 0 rfl) ?_
  obtain ⟨r1, M1, h1, hF⟩ := bd_some hF
  refine cT_ (As := []) (v := some (.int r1)) (rest := []) (st1 := [.int r1]) hC hS (i := w) hw (c_J0_isLatin1_aae02 l G w hw M _ _ h1) kV_J0_isLatin1_aae02 lm_J0_492 ⟨Nat.le_of_ble_eq_true rfl, Nat.le_of_ble_eq_true rfl⟩ rfl hl.1 (Nat.le_of_ble_eq_true rfl) dJ0_charAt_5068e_1 ⟨Nat.le_refl _, Nat.le_refl _⟩ rfl (fun H locs hS => ?_)
  refine lv_if_eq (tgt := 16) hx hb dJ0_charAt_5068e_4 (by decide) (fun hc => ?_) (fun hc => ?_)
  · rw [if_pos hc] at hF
    refine lv_aload_n hx hb dJ0_charAt_5068e_16 rfl (lv_at hl 0 rfl) ?_
    refine vk_getf (v := .ref (G.2.2.2.2.2.2 w)) hx hb (hG.1.1 _ hw).2.2.1 hS.2 hown (hts _ lj_J0_9) (fun _ h => h) dJ0_charAt_5068e_17 ?_
    refine lv_iload_n hx hb dJ0_charAt_5068e_20 rfl (lv_at hl 1 rfl) ?_
    cases hF
  · rw [if_neg hc] at hF
    refine lv_aload_n hx hb dJ0_charAt_5068e_7 rfl (lv_at hl 0 rfl) ?_
    refine vk_getf (v := .ref (G.2.2.2.2.2.2 w)) hx hb (hG.1.1 _ hw).2.2.1 hS.2 hown (hts _ lj_J0_9) (fun _ h => h) dJ0_charAt_5068e_8 ?_
    refine lv_iload_n hx hb dJ0_charAt_5068e_11 rfl (lv_at hl 1 rfl) ?_
    obtain ⟨r12, M12, h12, hF⟩ := bd_some hF
    refine cS_ (As := [.ref (G.2.2.2.2.2.2 w), .int x1]) (v := some (.int r12)) (rest := []) (st1 := [.int r12]) hC hS (c_J1_charAt_3b067 l G w hw x1 M1 _ _ h12) kS_J1_charAt_3b067 lm_J0_495 ⟨Nat.le_of_ble_eq_true rfl, Nat.le_of_ble_eq_true rfl⟩ rfl hl.1 (Nat.le_of_ble_eq_true rfl) dJ0_charAt_5068e_12 ⟨Nat.le_refl _, Nat.le_refl _⟩ rfl (fun H locs hS => ?_)
    obtain ⟨hz, hF⟩ := ckb_some hF
    exact retY hC hS hr hlk (chb_n hz) hF dJ0_charAt_5068e_15
set_option maxRecDepth 100000 in
theorem c_J0_charAt_5068e (l : Launch) (G : GT) (w : Nat) (hw : w < 3) (x1 : Int32) (M : Mem) (r0 : Int32) (M0 : Mem) (hF : F_J0_charAt_5068e w x1 M = some (r0, M0)) : MetG l G yJ0_charAt_5068e cJ0_charAt_5068e 2 (some .char) 3 64 [.ref (G.2.2.2.2.2.1 w), .int x1] M (some (.int r0)) M0 := by
  refine MetG.of (by decide) (Nat.le_of_ble_eq_true rfl) ?_
  intro p e s m args below meth c hC hr hlk hnm ls hS hl
  exact b_J0_charAt_5068e hC hr hlk hw _ _ _ _ _ hF hS hl
def F_X2_isFigureOf_39 (M : Mem) : Option (Int32 × Mem) := some (0, M)
def F_X2_isFigureOf (x0 : Int32) (x1 : Int32) (M : Mem) : Option (Int32 × Mem) := if x0 < 0 then some (0, M) else bd (F_J0_length_8abf5 0 M) (fun r7 M7 => if x0 < r7 then bd (F_J0_charAt_5068e 1 x0 M7) (fun r19 M19 => if x1 < r19 then F_X2_isFigureOf_39 M19 else bd (F_J0_charAt_5068e 2 x0 M19) (fun r29 M29 => if r29 < x1 then F_X2_isFigureOf_39 M29 else some (1, M29))) else some (0, M7))
set_option maxHeartbeats 4000000 in
set_option maxRecDepth 100000 in
theorem b_X2_isFigureOf_39 {M0 : Mem} {r0 : Int32} (hC : SX p m c s args cX2_isFigureOf 2 RX2 G (AG G)) (hr : meth.sig.returnType = (some .boolean)) (hlk : meth.locks = false) (hn : ∀ i ∈ LsF, i ∈ gL G) : ∀ (M : Mem) (H : Heap) (locs : List Loc) (ls : Array Slot), F_X2_isFigureOf_39 M = some (r0, M0) → ST G (AG G) s M H locs → lv_has ls 2 [] → W p l e (RM 4 85) s m args below meth c H locs 0 0 (MQ below (QV G (some (.int r0)) M0) args s 0 0 (AG G)) (F0 m 39 ls []) := by
  obtain ⟨⟨hx, hb, hml, hown, hts⟩, hK, hG, hA⟩ := id hC
  intro M H locs ls hF hS hl
  unfold F_X2_isFigureOf_39 at hF
  refine lv_iconst (v := 0) hx hb dX2_isFigureOf_39 (by decide) ?_
  exact retZ hC hS hr hlk rfl hF dX2_isFigureOf_40
set_option maxHeartbeats 4000000 in
set_option maxRecDepth 100000 in
theorem b_X2_isFigureOf {M0 : Mem} {r0 : Int32} (hC : SX p m c s args cX2_isFigureOf 2 RX2 G (AG G)) (hr : meth.sig.returnType = (some .boolean)) (hlk : meth.locks = false) (hn : ∀ i ∈ LsF, i ∈ gL G) : ∀ (x0 : Int32) (x1 : Int32) (M : Mem) (H : Heap) (locs : List Loc) (ls : Array Slot), F_X2_isFigureOf x0 x1 M = some (r0, M0) → ST G (AG G) s M H locs → lv_has ls 2 [(0, .int x0), (1, .int x1)] → W p l e (RM 4 85) s m args below meth c H locs 0 0 (MQ below (QV G (some (.int r0)) M0) args s 0 0 (AG G)) (F0 m 0 ls []) := by
  obtain ⟨⟨hx, hb, hml, hown, hts⟩, hK, hG, hA⟩ := id hC
  intro x0 x1 M H locs ls hF hS hl
  unfold F_X2_isFigureOf at hF
  refine lv_iload_n hx hb dX2_isFigureOf_0 rfl (lv_at hl 0 rfl) ?_
  refine lv_if_lt (tgt := 13) hx hb dX2_isFigureOf_1 (by decide) (fun hc => ?_) (fun hc => ?_)
  · rw [if_pos hc] at hF
    refine lv_iconst (v := 0) hx hb dX2_isFigureOf_13 (by decide) ?_
    exact retZ hC hS hr hlk rfl hF dX2_isFigureOf_14
  · rw [if_neg hc] at hF
    refine lv_iload_n hx hb dX2_isFigureOf_4 rfl (lv_at hl 0 rfl) ?_
    refine va_ldcS hx hb hown hG.2.2.2.1 dX2_isFigureOf_5 ?_
    obtain ⟨r7, M7, h7, hF⟩ := bd_some hF
    refine cT_ (As := []) (v := some (.int r7)) (rest := [.int x0]) (st1 := [.int r7, .int x0]) hC hS (i := 0) (by decide) (c_J0_length_8abf5 l G 0 (by decide) M _ _ h7) kV_J0_length_8abf5 lm_X2_61 ⟨Nat.le_of_ble_eq_true rfl, Nat.le_of_ble_eq_true rfl⟩ rfl hl.1 (Nat.le_of_ble_eq_true rfl) dX2_isFigureOf_7 ⟨Nat.le_refl _, Nat.le_refl _⟩ rfl (fun H locs hS => ?_)
    refine lv_icmp_lt (tgt := 15) hx hb dX2_isFigureOf_10 (by decide) (fun hc => ?_) (fun hc => ?_)
    · rw [if_pos hc] at hF
      refine lv_iload_n hx hb dX2_isFigureOf_15 rfl (lv_at hl 1 rfl) ?_
      refine va_ldcS hx hb hown hG.2.2.2.2.1 dX2_isFigureOf_16 ?_
      refine lv_iload_n hx hb dX2_isFigureOf_18 rfl (lv_at hl 0 rfl) ?_
      obtain ⟨r19, M19, h19, hF⟩ := bd_some hF
      refine cT_ (As := [.int x0]) (v := some (.int r19)) (rest := [.int x1]) (st1 := [.int r19, .int x1]) hC hS (i := 1) (by decide) (c_J0_charAt_5068e l G 1 (by decide) x0 M7 _ _ h19) kV_J0_charAt_5068e lm_X2_66 ⟨Nat.le_of_ble_eq_true rfl, Nat.le_of_ble_eq_true rfl⟩ rfl hl.1 (Nat.le_of_ble_eq_true rfl) dX2_isFigureOf_19 ⟨Nat.le_refl _, Nat.le_refl _⟩ rfl (fun H locs hS => ?_)
      refine lv_icmp_lt (tgt := 39) hx hb dX2_isFigureOf_22 (by decide) (fun hc => ?_) (fun hc => ?_)
      · rw [if_pos hc] at hF
        exact b_X2_isFigureOf_39 hC hr hlk hn _ _ _ _ hF hS (lv_sub hl [] rfl)
      · rw [if_neg hc] at hF
        refine lv_iload_n hx hb dX2_isFigureOf_25 rfl (lv_at hl 1 rfl) ?_
        refine va_ldcS hx hb hown hG.2.2.2.2.2 dX2_isFigureOf_26 ?_
        refine lv_iload_n hx hb dX2_isFigureOf_28 rfl (lv_at hl 0 rfl) ?_
        obtain ⟨r29, M29, h29, hF⟩ := bd_some hF
        refine cT_ (As := [.int x0]) (v := some (.int r29)) (rest := [.int x1]) (st1 := [.int r29, .int x1]) hC hS (i := 2) (by decide) (c_J0_charAt_5068e l G 2 (by decide) x0 M19 _ _ h29) kV_J0_charAt_5068e lm_X2_66 ⟨Nat.le_of_ble_eq_true rfl, Nat.le_of_ble_eq_true rfl⟩ rfl hl.1 (Nat.le_of_ble_eq_true rfl) dX2_isFigureOf_29 ⟨Nat.le_refl _, Nat.le_refl _⟩ rfl (fun H locs hS => ?_)
        refine lv_icmp_gt (tgt := 39) hx hb dX2_isFigureOf_32 (by decide) (fun hc => ?_) (fun hc => ?_)
        · rw [if_pos hc] at hF
          exact b_X2_isFigureOf_39 hC hr hlk hn _ _ _ _ hF hS (lv_sub hl [] rfl)
        · rw [if_neg hc] at hF
          refine lv_iconst (v := 1) hx hb dX2_isFigureOf_35 (by decide) ?_
          refine lv_goto (tgt := 40) hx hb dX2_isFigureOf_36 (by decide) ?_
          exact retZ hC hS hr hlk rfl hF dX2_isFigureOf_40
    · rw [if_neg hc] at hF
      refine lv_iconst (v := 0) hx hb dX2_isFigureOf_13 (by decide) ?_
      exact retZ hC hS hr hlk rfl hF dX2_isFigureOf_14
set_option maxRecDepth 100000 in
theorem c_X2_isFigureOf (l : Launch) (G : GT) (hn : ∀ i ∈ LsF, i ∈ gL G) (x0 : Int32) (x1 : Int32) (M : Mem) (r0 : Int32) (M0 : Mem) (hF : F_X2_isFigureOf x0 x1 M = some (r0, M0)) : MetG l G yX2_isFigureOf cX2_isFigureOf 2 (some .boolean) 4 85 [.int x0, .int x1] M (some (.int r0)) M0 := by
  refine MetG.of (by decide) (Nat.le_of_ble_eq_true rfl) ?_
  intro p e s m args below meth c hC hr hlk hnm ls hS hl
  exact b_X2_isFigureOf hC hr hlk hn _ _ _ _ _ _ hF hS hl
def F_X2_fits (j : Nat) (x1 : Int32) (M : Mem) : Option (Int32 × Mem) := if (x1 - x1 / 4 * 4) = 0 then ckb (ix x1 (al (12 + j))) (bd (F_J0_indexOf_0f7a4 0 (((M.2 (12 + j) x1.toNatClampNeg).toUInt32 % 65536).toInt32) M) (fun r37 M37 => if r37 < 0 then some (0, M37) else some (1, M37))) else if (x1 - x1 / 4 * 4) = 1 then ckb (ix x1 (al (12 + j))) (if (M.2 (12 + j) x1.toNatClampNeg) = 61 then some (1, M) else some (0, M)) else if (x1 - x1 / 4 * 4) = 2 then ckb (ix (x1 - 2) (al (12 + j))) (bd (F_J0_indexOf_0f7a4 0 (((M.2 (12 + j) (x1 - 2).toNatClampNeg).toUInt32 % 65536).toInt32) M) (fun r77 M77 => ckb (ix x1 (al (12 + j))) (bd (F_X2_isFigureOf r77 (M77.2 (12 + j) x1.toNatClampNeg) M77) (fun r86 M86 => ckb (zb r86) (some (r86, M86)))))) else ckb (ix x1 (al (12 + j))) (if (M.2 (12 + j) x1.toNatClampNeg) = 59 then some (1, M) else some (0, M))
set_option maxHeartbeats 4000000 in
set_option maxRecDepth 100000 in
theorem b_X2_fits {j : Nat} {M0 : Mem} {r0 : Int32} (hC : SX p m c s args cX2_fits 2 RX2 G (AG G)) (hr : meth.sig.returnType = (some .boolean)) (hlk : meth.locks = false) (hn : ∀ i ∈ LsF, i ∈ gL G) (hj : j < 2) : ∀ (x1 : Int32) (M : Mem) (H : Heap) (locs : List Loc) (ls : Array Slot), F_X2_fits j x1 M = some (r0, M0) → ST G (AG G) s M H locs → lv_has ls 2 [(0, .ref (G.1 (53 + j))), (1, .int x1)] → W p l e (RM 5 106) s m args below meth c H locs 0 0 (MQ below (QV G (some (.int r0)) M0) args s 0 0 (AG G)) (F0 m 0 ls []) := by
  obtain ⟨⟨hx, hb, hml, hown, hts⟩, hK, hG, hA⟩ := id hC
  intro x1 M H locs ls hF hS hl
  unfold F_X2_fits at hF
  refine lv_iload_n hx hb dX2_fits_0 rfl (lv_at hl 1 rfl) ?_
  refine lv_iconst (v := 4) hx hb dX2_fits_1 (by decide) ?_
  refine lv_irem hx hb dX2_fits_2 (by decide) ?_
  by_cases hc0 : (x1 - x1 / 4 * 4) = 0
  · rw [if_pos hc0] at hF
    refine lv_tableIn (off := 25) (tgt := 28) hx hb dX2_fits_3 (by rw [hc0]; decide) (by rw [hc0]; decide) (by rw [hc0]; rfl) (by decide) ?_
    refine va_ldcS hx hb hown hG.2.2.2.1 dX2_fits_28 ?_
    refine lv_aload_n hx hb dX2_fits_30 rfl (lv_at hl 0 rfl) ?_
    refine gx (ci := 2) (k := 0) (v := .ref (G.1 (12 + j))) (C := RX2) (T := TX2) (N := 7) hC hS (hn _ (mL hj)) (ceL hj) rfl in_X2 (by decide) rfl rfl lf_X2_9 dX2_fits_31 ?_
    refine lv_iload_n hx hb dX2_fits_34 rfl (lv_at hl 1 rfl) ?_
    obtain ⟨hi, hF⟩ := ckb_some hF
    refine ald hC hS (hn _ (mT hj)) (kT hj).1 (kT hj).2 hi dX2_fits_35 ?_
    refine lv_i2c hx hb dX2_fits_36 rfl ?_
    obtain ⟨r37, M37, h37, hF⟩ := bd_some hF
    refine cT_ (As := [.int (((M.2 (12 + j) x1.toNatClampNeg).toUInt32 % 65536).toInt32)]) (v := some (.int r37)) (rest := []) (st1 := [.int r37]) hC hS (i := 0) (by decide) (c_J0_indexOf_0f7a4 l G 0 (by decide) (((M.2 (12 + j) x1.toNatClampNeg).toUInt32 % 65536).toInt32) M _ _ h37) kV_J0_indexOf_0f7a4 lm_X2_51 ⟨Nat.le_of_ble_eq_true rfl, Nat.le_of_ble_eq_true rfl⟩ rfl hl.1 (Nat.le_of_ble_eq_true rfl) dX2_fits_37 ⟨Nat.le_refl _, Nat.le_refl _⟩ rfl (fun H locs hS => ?_)
    refine lv_if_lt (tgt := 47) hx hb dX2_fits_40 (by decide) (fun hc => ?_) (fun hc => ?_)
    · rw [if_pos hc] at hF
      refine lv_iconst (v := 0) hx hb dX2_fits_47 (by decide) ?_
      exact retZ hC hS hr hlk rfl hF dX2_fits_48
    · rw [if_neg hc] at hF
      refine lv_iconst (v := 1) hx hb dX2_fits_43 (by decide) ?_
      refine lv_goto (tgt := 48) hx hb dX2_fits_44 (by decide) ?_
      exact retZ hC hS hr hlk rfl hF dX2_fits_48
  rw [if_neg hc0] at hF
  by_cases hc1 : (x1 - x1 / 4 * 4) = 1
  · rw [if_pos hc1] at hF
    refine lv_tableIn (off := 46) (tgt := 49) hx hb dX2_fits_3 (by rw [hc1]; decide) (by rw [hc1]; decide) (by rw [hc1]; rfl) (by decide) ?_
    refine lv_aload_n hx hb dX2_fits_49 rfl (lv_at hl 0 rfl) ?_
    refine gx (ci := 2) (k := 0) (v := .ref (G.1 (12 + j))) (C := RX2) (T := TX2) (N := 7) hC hS (hn _ (mL hj)) (ceL hj) rfl in_X2 (by decide) rfl rfl lf_X2_9 dX2_fits_50 ?_
    refine lv_iload_n hx hb dX2_fits_53 rfl (lv_at hl 1 rfl) ?_
    obtain ⟨hi, hF⟩ := ckb_some hF
    refine ald hC hS (hn _ (mT hj)) (kT hj).1 (kT hj).2 hi dX2_fits_54 ?_
    refine lv_bipush (v := 61) hx hb dX2_fits_55 (by decide) ?_
    refine lv_icmp_ne (tgt := 64) hx hb dX2_fits_57 (by decide) (fun hc => ?_) (fun hc => ?_)
    · rw [if_neg hc] at hF
      refine lv_iconst (v := 0) hx hb dX2_fits_64 (by decide) ?_
      exact retZ hC hS hr hlk rfl hF dX2_fits_65
    · rw [if_pos hc] at hF
      refine lv_iconst (v := 1) hx hb dX2_fits_60 (by decide) ?_
      refine lv_goto (tgt := 65) hx hb dX2_fits_61 (by decide) ?_
      exact retZ hC hS hr hlk rfl hF dX2_fits_65
  rw [if_neg hc1] at hF
  by_cases hc2 : (x1 - x1 / 4 * 4) = 2
  · rw [if_pos hc2] at hF
    refine lv_tableIn (off := 63) (tgt := 66) hx hb dX2_fits_3 (by rw [hc2]; decide) (by rw [hc2]; decide) (by rw [hc2]; rfl) (by decide) ?_
    refine va_ldcS hx hb hown hG.2.2.2.1 dX2_fits_66 ?_
    refine lv_aload_n hx hb dX2_fits_68 rfl (lv_at hl 0 rfl) ?_
    refine gx (ci := 2) (k := 0) (v := .ref (G.1 (12 + j))) (C := RX2) (T := TX2) (N := 7) hC hS (hn _ (mL hj)) (ceL hj) rfl in_X2 (by decide) rfl rfl lf_X2_9 dX2_fits_69 ?_
    refine lv_iload_n hx hb dX2_fits_72 rfl (lv_at hl 1 rfl) ?_
    refine lv_iconst (v := 2) hx hb dX2_fits_73 (by decide) ?_
    refine lv_isub hx hb dX2_fits_74 ?_
    obtain ⟨hi, hF⟩ := ckb_some hF
    refine ald hC hS (hn _ (mT hj)) (kT hj).1 (kT hj).2 hi dX2_fits_75 ?_
    refine lv_i2c hx hb dX2_fits_76 rfl ?_
    obtain ⟨r77, M77, h77, hF⟩ := bd_some hF
    refine cT_ (As := [.int (((M.2 (12 + j) (x1 - 2).toNatClampNeg).toUInt32 % 65536).toInt32)]) (v := some (.int r77)) (rest := []) (st1 := [.int r77]) hC hS (i := 0) (by decide) (c_J0_indexOf_0f7a4 l G 0 (by decide) (((M.2 (12 + j) (x1 - 2).toNatClampNeg).toUInt32 % 65536).toInt32) M _ _ h77) kV_J0_indexOf_0f7a4 lm_X2_51 ⟨Nat.le_of_ble_eq_true rfl, Nat.le_of_ble_eq_true rfl⟩ rfl hl.1 (Nat.le_of_ble_eq_true rfl) dX2_fits_77 ⟨Nat.le_refl _, Nat.le_refl _⟩ rfl (fun H locs hS => ?_)
    refine lv_aload_n hx hb dX2_fits_80 rfl (lv_at hl 0 rfl) ?_
    refine gx (ci := 2) (k := 0) (v := .ref (G.1 (12 + j))) (C := RX2) (T := TX2) (N := 7) hC hS (hn _ (mL hj)) (ceL hj) rfl in_X2 (by decide) rfl rfl lf_X2_9 dX2_fits_81 ?_
    refine lv_iload_n hx hb dX2_fits_84 rfl (lv_at hl 1 rfl) ?_
    obtain ⟨hi, hF⟩ := ckb_some hF
    refine ald hC hS (hn _ (mT hj)) (kT hj).1 (kT hj).2 hi dX2_fits_85 ?_
    obtain ⟨r86, M86, h86, hF⟩ := bd_some hF
    refine cS_ (As := [.int r77, .int (M77.2 (12 + j) x1.toNatClampNeg)]) (v := some (.int r86)) (rest := []) (st1 := [.int r86]) hC hS (c_X2_isFigureOf l G hn r77 (M77.2 (12 + j) x1.toNatClampNeg) M77 _ _ h86) kS_X2_isFigureOf lm_X2_57 ⟨Nat.le_of_ble_eq_true rfl, Nat.le_of_ble_eq_true rfl⟩ rfl hl.1 (Nat.le_of_ble_eq_true rfl) dX2_fits_86 ⟨Nat.le_refl _, Nat.le_refl _⟩ rfl (fun H locs hS => ?_)
    obtain ⟨hz, hF⟩ := ckb_some hF
    exact retZ hC hS hr hlk (zb_n hz) hF dX2_fits_89
  rw [if_neg hc2] at hF
  have hc0 := neI hc0
  have hc1 := neI hc1
  have hc2 := neI hc2
  refine lv_tableOut (tgt := 90) hx hb dX2_fits_3 (tOut0_2 hc0 hc1 hc2) (by decide) ?_
  refine lv_aload_n hx hb dX2_fits_90 rfl (lv_at hl 0 rfl) ?_
  refine gx (ci := 2) (k := 0) (v := .ref (G.1 (12 + j))) (C := RX2) (T := TX2) (N := 7) hC hS (hn _ (mL hj)) (ceL hj) rfl in_X2 (by decide) rfl rfl lf_X2_9 dX2_fits_91 ?_
  refine lv_iload_n hx hb dX2_fits_94 rfl (lv_at hl 1 rfl) ?_
  obtain ⟨hi, hF⟩ := ckb_some hF
  refine ald hC hS (hn _ (mT hj)) (kT hj).1 (kT hj).2 hi dX2_fits_95 ?_
  refine lv_bipush (v := 59) hx hb dX2_fits_96 (by decide) ?_
  refine lv_icmp_ne (tgt := 105) hx hb dX2_fits_98 (by decide) (fun hc => ?_) (fun hc => ?_)
  · rw [if_neg hc] at hF
    refine lv_iconst (v := 0) hx hb dX2_fits_105 (by decide) ?_
    exact retZ hC hS hr hlk rfl hF dX2_fits_106
  · rw [if_pos hc] at hF
    refine lv_iconst (v := 1) hx hb dX2_fits_101 (by decide) ?_
    refine lv_goto (tgt := 106) hx hb dX2_fits_102 (by decide) ?_
    exact retZ hC hS hr hlk rfl hF dX2_fits_106
set_option maxRecDepth 100000 in
theorem c_X2_fits (l : Launch) (G : GT) (hn : ∀ i ∈ LsF, i ∈ gL G) (j : Nat) (hj : j < 2) (x1 : Int32) (M : Mem) (r0 : Int32) (M0 : Mem) (hF : F_X2_fits j x1 M = some (r0, M0)) : MetG l G yX2_fits cX2_fits 2 (some .boolean) 5 106 [.ref (G.1 (53 + j)), .int x1] M (some (.int r0)) M0 := by
  refine MetG.of (by decide) (Nat.le_of_ble_eq_true rfl) ?_
  intro p e s m args below meth c hC hr hlk hnm ls hS hl
  exact b_X2_fits hC hr hlk hn hj _ _ _ _ _ hF hS hl
def F_X2_seekFault_43 (M : Mem) : Option (Int32 × Mem) := some ((-1), M)
def F_X2_seekFault_2 (j : Nat) : Nat → Int32 → Mem → Option (Int32 × Mem)
  | 0, _, _ => none
  | n + 1, x1, M => if (M.1 (10 + 6 * j)) ≤ x1 then if (M.1 (10 + 6 * j)) = 0 then F_X2_seekFault_43 M else if ((M.1 (10 + 6 * j)) - (M.1 (10 + 6 * j)) / 4 * 4) = 3 then F_X2_seekFault_43 M else some (M.1 (10 + 6 * j), M) else bd (F_X2_fits j x1 M) (fun r12 M12 => if r12 = 0 then some (x1, M12) else F_X2_seekFault_2 j n (x1 + 1) M12)
def F_X2_seekFault (j : Nat) (M : Mem) : Option (Int32 × Mem) := F_X2_seekFault_2 j fu 0 M
set_option maxHeartbeats 4000000 in
set_option maxRecDepth 100000 in
theorem b_X2_seekFault_43 {M0 : Mem} {r0 : Int32} (hC : SX p m c s args cX2_seekFault 2 RX2 G (AG G)) (hr : meth.sig.returnType = (some .int)) (hlk : meth.locks = false) (hn : ∀ i ∈ LsF, i ∈ gL G) : ∀ (M : Mem) (H : Heap) (locs : List Loc) (ls : Array Slot), F_X2_seekFault_43 M = some (r0, M0) → ST G (AG G) s M H locs → lv_has ls 2 [] → W p l e (RM 6 127) s m args below meth c H locs 0 0 (MQ below (QV G (some (.int r0)) M0) args s 0 0 (AG G)) (F0 m 43 ls []) := by
  obtain ⟨⟨hx, hb, hml, hown, hts⟩, hK, hG, hA⟩ := id hC
  intro M H locs ls hF hS hl
  unfold F_X2_seekFault_43 at hF
  refine lv_iconst (v := (-1)) hx hb dX2_seekFault_43 (by decide) ?_
  refine lv_goto (tgt := 51) hx hb dX2_seekFault_44 (by decide) ?_
  exact retI hC hS hr hlk hF dX2_seekFault_51
set_option maxHeartbeats 4000000 in
set_option maxRecDepth 100000 in
theorem b_X2_seekFault_2 {j : Nat} {M0 : Mem} {r0 : Int32} (hC : SX p m c s args cX2_seekFault 2 RX2 G (AG G)) (hr : meth.sig.returnType = (some .int)) (hlk : meth.locks = false) (hn : ∀ i ∈ LsF, i ∈ gL G) (hj : j < 2) : ∀ (n : Nat) (x1 : Int32) (M : Mem) (H : Heap) (locs : List Loc) (ls : Array Slot), F_X2_seekFault_2 j n x1 M = some (r0, M0) → ST G (AG G) s M H locs → lv_has ls 2 [(0, .ref (G.1 (53 + j))), (1, .int x1)] → W p l e (RM 6 127) s m args below meth c H locs 0 0 (MQ below (QV G (some (.int r0)) M0) args s 0 0 (AG G)) (F0 m 2 ls []) := by
  obtain ⟨⟨hx, hb, hml, hown, hts⟩, hK, hG, hA⟩ := id hC
  intro n
  induction n with
  | zero =>
    intro x1 M H locs ls hF
    cases hF
  | succ n ih =>
    intro x1 M H locs ls hF hS hl
    unfold F_X2_seekFault_2 at hF
    refine lv_iload_n hx hb dX2_seekFault_2 rfl (lv_at hl 1 rfl) ?_
    refine lv_aload_n hx hb dX2_seekFault_3 rfl (lv_at hl 0 rfl) ?_
    refine gx (ci := 2) (k := 1) (v := .int (M.1 (10 + 6 * j))) (C := RX2) (T := TX2) (N := 7) hC hS (hn _ (mL hj)) (ceL hj) rfl in_X2 (by decide) rfl rfl lf_X2_15 dX2_seekFault_4 ?_
    refine lv_icmp_ge (tgt := 26) hx hb dX2_seekFault_7 (by decide) (fun hc => ?_) (fun hc => ?_)
    · rw [if_pos hc] at hF
      refine lv_aload_n hx hb dX2_seekFault_26 rfl (lv_at hl 0 rfl) ?_
      refine gx (ci := 2) (k := 1) (v := .int (M.1 (10 + 6 * j))) (C := RX2) (T := TX2) (N := 7) hC hS (hn _ (mL hj)) (ceL hj) rfl in_X2 (by decide) rfl rfl lf_X2_15 dX2_seekFault_27 ?_
      refine lv_if_eq (tgt := 43) hx hb dX2_seekFault_30 (by decide) (fun hc => ?_) (fun hc => ?_)
      · rw [if_pos hc] at hF
        exact b_X2_seekFault_43 hC hr hlk hn _ _ _ _ hF hS (lv_sub hl [] rfl)
      · rw [if_neg hc] at hF
        refine lv_aload_n hx hb dX2_seekFault_33 rfl (lv_at hl 0 rfl) ?_
        refine gx (ci := 2) (k := 1) (v := .int (M.1 (10 + 6 * j))) (C := RX2) (T := TX2) (N := 7) hC hS (hn _ (mL hj)) (ceL hj) rfl in_X2 (by decide) rfl rfl lf_X2_15 dX2_seekFault_34 ?_
        refine lv_iconst (v := 4) hx hb dX2_seekFault_37 (by decide) ?_
        refine lv_irem hx hb dX2_seekFault_38 (by decide) ?_
        refine lv_iconst (v := 3) hx hb dX2_seekFault_39 (by decide) ?_
        refine lv_icmp_ne (tgt := 47) hx hb dX2_seekFault_40 (by decide) (fun hc => ?_) (fun hc => ?_)
        · rw [if_neg hc] at hF
          refine lv_aload_n hx hb dX2_seekFault_47 rfl (lv_at hl 0 rfl) ?_
          refine gx (ci := 2) (k := 1) (v := .int (M.1 (10 + 6 * j))) (C := RX2) (T := TX2) (N := 7) hC hS (hn _ (mL hj)) (ceL hj) rfl in_X2 (by decide) rfl rfl lf_X2_15 dX2_seekFault_48 ?_
          exact retI hC hS hr hlk hF dX2_seekFault_51
        · rw [if_pos hc] at hF
          exact b_X2_seekFault_43 hC hr hlk hn _ _ _ _ hF hS (lv_sub hl [] rfl)
    · rw [if_neg hc] at hF
      refine lv_aload_n hx hb dX2_seekFault_10 rfl (lv_at hl 0 rfl) ?_
      refine lv_iload_n hx hb dX2_seekFault_11 rfl (lv_at hl 1 rfl) ?_
      obtain ⟨r12, M12, h12, hF⟩ := bd_some hF
      refine cV_ (ci := 2) (i := 53 + j) (C := RX2) (T := TX2) (N := 7) (As := [.int x1]) (v := some (.int r12)) (rest := []) (st1 := [.int r12]) hC hS (hn _ (mL hj)) (ceL hj) rfl (c_X2_fits l G hn j hj x1 M _ _ h12) kV_X2_fits lm_X2_45 ⟨Nat.le_of_ble_eq_true rfl, Nat.le_of_ble_eq_true rfl⟩ rfl hl.1 (Nat.le_of_ble_eq_true rfl) dX2_seekFault_12 ⟨Nat.le_refl _, Nat.le_refl _⟩ rfl (fun H locs hS => ?_)
      refine lv_if_ne (tgt := 20) hx hb dX2_seekFault_15 (by decide) (fun hc => ?_) (fun hc => ?_)
      · rw [if_neg hc] at hF
        refine lv_iinc (v := x1 + 1) (lv' := [(1, .int (x1 + 1)), (0, .ref (G.1 (53 + j)))]) hx hb dX2_seekFault_20 hl (k := 1) rfl rfl (by decide) rfl (fun ls hl => ?_)
        refine lv_goto (tgt := 2) hx hb dX2_seekFault_23 (by decide) ?_
        exact ih _ _ _ _ _ hF hS (lv_sub hl [1, 0] rfl)
      · rw [if_pos hc] at hF
        refine lv_iload_n hx hb dX2_seekFault_18 rfl (lv_at hl 1 rfl) ?_
        exact retI hC hS hr hlk hF dX2_seekFault_19
set_option maxHeartbeats 4000000 in
set_option maxRecDepth 100000 in
theorem b_X2_seekFault {j : Nat} {M0 : Mem} {r0 : Int32} (hC : SX p m c s args cX2_seekFault 2 RX2 G (AG G)) (hr : meth.sig.returnType = (some .int)) (hlk : meth.locks = false) (hn : ∀ i ∈ LsF, i ∈ gL G) (hj : j < 2) : ∀ (M : Mem) (H : Heap) (locs : List Loc) (ls : Array Slot), F_X2_seekFault j M = some (r0, M0) → ST G (AG G) s M H locs → lv_has ls 2 [(0, .ref (G.1 (53 + j)))] → W p l e (RM 6 127) s m args below meth c H locs 0 0 (MQ below (QV G (some (.int r0)) M0) args s 0 0 (AG G)) (F0 m 0 ls []) := by
  obtain ⟨⟨hx, hb, hml, hown, hts⟩, hK, hG, hA⟩ := id hC
  intro M H locs ls hF hS hl
  unfold F_X2_seekFault at hF
  refine lv_iconst (v := 0) hx hb dX2_seekFault_0 (by decide) ?_
  refine lv_istore_n (lv' := [(1, .int 0), (0, .ref (G.1 (53 + j)))]) hx hb dX2_seekFault_1 rfl hl (by decide) rfl (fun ls hl => ?_)
  exact b_X2_seekFault_2 hC hr hlk hn hj fu _ _ _ _ _ hF hS (lv_sub hl [1, 0] rfl)
set_option maxRecDepth 100000 in
theorem c_X2_seekFault (l : Launch) (G : GT) (hn : ∀ i ∈ LsF, i ∈ gL G) (j : Nat) (hj : j < 2) (M : Mem) (r0 : Int32) (M0 : Mem) (hF : F_X2_seekFault j M = some (r0, M0)) : MetG l G yX2_seekFault cX2_seekFault 2 (some .int) 6 127 [.ref (G.1 (53 + j))] M (some (.int r0)) M0 := by
  refine MetG.of (by decide) (Nat.le_of_ble_eq_true rfl) ?_
  intro p e s m args below meth c hC hr hlk hnm ls hS hl
  exact b_X2_seekFault hC hr hlk hn hj _ _ _ _ hF hS hl
def F_X2_takePart (j : Nat) (x1 : Int32) (x2 : Int32) (M : Mem) : Option Mem := if x1 = 99 then some (sv M (10 + 6 * j + 3) x2) else if x1 = 100 then some (sv M (10 + 6 * j + 5) x2) else if x1 = 101 then some (sv M (10 + 6 * j + 4) x2) else if x1 = 102 then some (sv M (10 + 6 * j + 5) x2) else if x1 = 103 then some (sv M (10 + 6 * j + 2) x2) else some (sv M (10 + 6 * j + 5) x2)
set_option maxHeartbeats 4000000 in
set_option maxRecDepth 100000 in
theorem b_X2_takePart {j : Nat} {M0 : Mem} (hC : SX p m c s args cX2_takePart 3 RX2 G (AG G)) (hr : meth.sig.returnType = none) (hlk : meth.locks = false) (hn : ∀ i ∈ LsF, i ∈ gL G) (hj : j < 2) : ∀ (x1 : Int32) (x2 : Int32) (M : Mem) (H : Heap) (locs : List Loc) (ls : Array Slot), F_X2_takePart j x1 x2 M = some M0 → ST G (AG G) s M H locs → lv_has ls 3 [(0, .ref (G.1 (53 + j))), (1, .int x1), (2, .int x2)] → W p l e (RM 0 0) s m args below meth c H locs 0 0 (MQ below (QV G none M0) args s 0 0 (AG G)) (F0 m 0 ls []) := by
  obtain ⟨⟨hx, hb, hml, hown, hts⟩, hK, hG, hA⟩ := id hC
  intro x1 x2 M H locs ls hF hS hl
  unfold F_X2_takePart at hF
  refine lv_iload_n hx hb dX2_takePart_0 rfl (lv_at hl 1 rfl) ?_
  by_cases hc99 : x1 = 99
  · rw [if_pos hc99] at hF
    refine lv_tableIn (off := 43) (tgt := 44) hx hb dX2_takePart_1 (by rw [hc99]; decide) (by rw [hc99]; decide) (by rw [hc99]; rfl) (by decide) ?_
    refine lv_aload_n hx hb dX2_takePart_44 rfl (lv_at hl 0 rfl) ?_
    refine lv_iload_n hx hb dX2_takePart_45 rfl (lv_at hl 2 rfl) ?_
    refine px (ci := 2) (k := 4) (n := 10 + 6 * j + 3) (ty := .int) (C := RX2) (T := TX2) (N := 7) hC hS (hn _ (mL hj)) (ceL hj) rfl in_X2 tyX2_ok nmX2 (by decide) rfl rfl (by decide +kernel) rfl rfl (Nat.le_of_ble_eq_true rfl) (owL3 hj) (seL3 hj) lf_X2_25 dX2_takePart_46 (fun H locs hS => ?_)
    refine lv_goto (tgt := 65) hx hb dX2_takePart_49 (by decide) ?_
    exact retV hC hS hr hlk hF dX2_takePart_65
  rw [if_neg hc99] at hF
  by_cases hc100 : x1 = 100
  · rw [if_pos hc100] at hF
    refine lv_tableIn (off := 59) (tgt := 60) hx hb dX2_takePart_1 (by rw [hc100]; decide) (by rw [hc100]; decide) (by rw [hc100]; rfl) (by decide) ?_
    refine lv_aload_n hx hb dX2_takePart_60 rfl (lv_at hl 0 rfl) ?_
    refine lv_iload_n hx hb dX2_takePart_61 rfl (lv_at hl 2 rfl) ?_
    refine px (ci := 2) (k := 6) (n := 10 + 6 * j + 5) (ty := .int) (C := RX2) (T := TX2) (N := 7) hC hS (hn _ (mL hj)) (ceL hj) rfl in_X2 tyX2_ok nmX2 (by decide) rfl rfl (by decide +kernel) rfl rfl (Nat.le_of_ble_eq_true rfl) (owL5 hj) (seL5 hj) lf_X2_31 dX2_takePart_62 (fun H locs hS => ?_)
    exact retV hC hS hr hlk hF dX2_takePart_65
  rw [if_neg hc100] at hF
  by_cases hc101 : x1 = 101
  · rw [if_pos hc101] at hF
    refine lv_tableIn (off := 51) (tgt := 52) hx hb dX2_takePart_1 (by rw [hc101]; decide) (by rw [hc101]; decide) (by rw [hc101]; rfl) (by decide) ?_
    refine lv_aload_n hx hb dX2_takePart_52 rfl (lv_at hl 0 rfl) ?_
    refine lv_iload_n hx hb dX2_takePart_53 rfl (lv_at hl 2 rfl) ?_
    refine px (ci := 2) (k := 5) (n := 10 + 6 * j + 4) (ty := .int) (C := RX2) (T := TX2) (N := 7) hC hS (hn _ (mL hj)) (ceL hj) rfl in_X2 tyX2_ok nmX2 (by decide) rfl rfl (by decide +kernel) rfl rfl (Nat.le_of_ble_eq_true rfl) (owL4 hj) (seL4 hj) lf_X2_28 dX2_takePart_54 (fun H locs hS => ?_)
    refine lv_goto (tgt := 65) hx hb dX2_takePart_57 (by decide) ?_
    exact retV hC hS hr hlk hF dX2_takePart_65
  rw [if_neg hc101] at hF
  by_cases hc102 : x1 = 102
  · rw [if_pos hc102] at hF
    refine lv_tableIn (off := 59) (tgt := 60) hx hb dX2_takePart_1 (by rw [hc102]; decide) (by rw [hc102]; decide) (by rw [hc102]; rfl) (by decide) ?_
    refine lv_aload_n hx hb dX2_takePart_60 rfl (lv_at hl 0 rfl) ?_
    refine lv_iload_n hx hb dX2_takePart_61 rfl (lv_at hl 2 rfl) ?_
    refine px (ci := 2) (k := 6) (n := 10 + 6 * j + 5) (ty := .int) (C := RX2) (T := TX2) (N := 7) hC hS (hn _ (mL hj)) (ceL hj) rfl in_X2 tyX2_ok nmX2 (by decide) rfl rfl (by decide +kernel) rfl rfl (Nat.le_of_ble_eq_true rfl) (owL5 hj) (seL5 hj) lf_X2_31 dX2_takePart_62 (fun H locs hS => ?_)
    exact retV hC hS hr hlk hF dX2_takePart_65
  rw [if_neg hc102] at hF
  by_cases hc103 : x1 = 103
  · rw [if_pos hc103] at hF
    refine lv_tableIn (off := 35) (tgt := 36) hx hb dX2_takePart_1 (by rw [hc103]; decide) (by rw [hc103]; decide) (by rw [hc103]; rfl) (by decide) ?_
    refine lv_aload_n hx hb dX2_takePart_36 rfl (lv_at hl 0 rfl) ?_
    refine lv_iload_n hx hb dX2_takePart_37 rfl (lv_at hl 2 rfl) ?_
    refine px (ci := 2) (k := 3) (n := 10 + 6 * j + 2) (ty := .int) (C := RX2) (T := TX2) (N := 7) hC hS (hn _ (mL hj)) (ceL hj) rfl in_X2 tyX2_ok nmX2 (by decide) rfl rfl (by decide +kernel) rfl rfl (Nat.le_of_ble_eq_true rfl) (owL2 hj) (seL2 hj) lf_X2_22 dX2_takePart_38 (fun H locs hS => ?_)
    refine lv_goto (tgt := 65) hx hb dX2_takePart_41 (by decide) ?_
    exact retV hC hS hr hlk hF dX2_takePart_65
  rw [if_neg hc103] at hF
  have hc99 := neI hc99
  have hc100 := neI hc100
  have hc101 := neI hc101
  have hc102 := neI hc102
  have hc103 := neI hc103
  refine lv_tableOut (tgt := 60) hx hb dX2_takePart_1 (tOut99_103 hc99 hc100 hc101 hc102 hc103) (by decide) ?_
  refine lv_aload_n hx hb dX2_takePart_60 rfl (lv_at hl 0 rfl) ?_
  refine lv_iload_n hx hb dX2_takePart_61 rfl (lv_at hl 2 rfl) ?_
  refine px (ci := 2) (k := 6) (n := 10 + 6 * j + 5) (ty := .int) (C := RX2) (T := TX2) (N := 7) hC hS (hn _ (mL hj)) (ceL hj) rfl in_X2 tyX2_ok nmX2 (by decide) rfl rfl (by decide +kernel) rfl rfl (Nat.le_of_ble_eq_true rfl) (owL5 hj) (seL5 hj) lf_X2_31 dX2_takePart_62 (fun H locs hS => ?_)
  exact retV hC hS hr hlk hF dX2_takePart_65
set_option maxRecDepth 100000 in
theorem c_X2_takePart (l : Launch) (G : GT) (hn : ∀ i ∈ LsF, i ∈ gL G) (j : Nat) (hj : j < 2) (x1 : Int32) (x2 : Int32) (M : Mem) (M0 : Mem) (hF : F_X2_takePart j x1 x2 M = some M0) : MetG l G yX2_takePart cX2_takePart 3 none 0 0 [.ref (G.1 (53 + j)), .int x1, .int x2] M none M0 := by
  refine MetG.of (by decide) (Nat.le_of_ble_eq_true rfl) ?_
  intro p e s m args below meth c hC hr hlk hnm ls hS hl
  exact b_X2_takePart hC hr hlk hn hj _ _ _ _ _ _ hF hS hl
def F_X2_understand_38 (j : Nat) : Nat → Int32 → Mem → Option Mem
  | 0, _, _ => none
  | n + 1, x1, M => if (M.1 (10 + 6 * j)) ≤ (x1 + 2) then some M else ckb (ix x1 (al (12 + j))) (ckb (ix (x1 + 2) (al (12 + j))) (bdv (F_X2_takePart j (M.2 (12 + j) x1.toNatClampNeg) ((M.2 (12 + j) (x1 + 2).toNatClampNeg) - 48) M) (fun M66 => F_X2_understand_38 j n (x1 + 4) M66)))
def F_X2_understand (j : Nat) (M : Mem) : Option Mem := bd (F_X2_seekFault j M) (fun r2 M2 => if ((sv (sv (sv (sv (sv M2 (10 + 6 * j + 1) r2) (10 + 6 * j + 2) 2) (10 + 6 * j + 3) 0) (10 + 6 * j + 4) 0) (10 + 6 * j + 5) 0).1 (10 + 6 * j + 1)) = (-1) then F_X2_understand_38 j fu 0 (sv (sv (sv (sv (sv M2 (10 + 6 * j + 1) r2) (10 + 6 * j + 2) 2) (10 + 6 * j + 3) 0) (10 + 6 * j + 4) 0) (10 + 6 * j + 5) 0) else some (sv (sv (sv (sv (sv M2 (10 + 6 * j + 1) r2) (10 + 6 * j + 2) 2) (10 + 6 * j + 3) 0) (10 + 6 * j + 4) 0) (10 + 6 * j + 5) 0))
set_option maxHeartbeats 4000000 in
set_option maxRecDepth 100000 in
theorem b_X2_understand_38 {j : Nat} {M0 : Mem} (hC : SX p m c s args cX2_understand 2 RX2 G (AG G)) (hr : meth.sig.returnType = none) (hlk : meth.locks = false) (hn : ∀ i ∈ LsF, i ∈ gL G) (hj : j < 2) : ∀ (n : Nat) (x1 : Int32) (M : Mem) (H : Heap) (locs : List Loc) (ls : Array Slot), F_X2_understand_38 j n x1 M = some M0 → ST G (AG G) s M H locs → lv_has ls 2 [(0, .ref (G.1 (53 + j))), (1, .int x1)] → W p l e (RM 7 148) s m args below meth c H locs 0 0 (MQ below (QV G none M0) args s 0 0 (AG G)) (F0 m 38 ls []) := by
  obtain ⟨⟨hx, hb, hml, hown, hts⟩, hK, hG, hA⟩ := id hC
  intro n
  induction n with
  | zero =>
    intro x1 M H locs ls hF
    cases hF
  | succ n ih =>
    intro x1 M H locs ls hF hS hl
    unfold F_X2_understand_38 at hF
    refine lv_iload_n hx hb dX2_understand_38 rfl (lv_at hl 1 rfl) ?_
    refine lv_iconst (v := 2) hx hb dX2_understand_39 (by decide) ?_
    refine lv_iadd hx hb dX2_understand_40 ?_
    refine lv_aload_n hx hb dX2_understand_41 rfl (lv_at hl 0 rfl) ?_
    refine gx (ci := 2) (k := 1) (v := .int (M.1 (10 + 6 * j))) (C := RX2) (T := TX2) (N := 7) hC hS (hn _ (mL hj)) (ceL hj) rfl in_X2 (by decide) rfl rfl lf_X2_15 dX2_understand_42 ?_
    refine lv_icmp_ge (tgt := 75) hx hb dX2_understand_45 (by decide) (fun hc => ?_) (fun hc => ?_)
    · rw [if_pos hc] at hF
      exact retV hC hS hr hlk hF dX2_understand_75
    · rw [if_neg hc] at hF
      refine lv_aload_n hx hb dX2_understand_48 rfl (lv_at hl 0 rfl) ?_
      refine lv_aload_n hx hb dX2_understand_49 rfl (lv_at hl 0 rfl) ?_
      refine gx (ci := 2) (k := 0) (v := .ref (G.1 (12 + j))) (C := RX2) (T := TX2) (N := 7) hC hS (hn _ (mL hj)) (ceL hj) rfl in_X2 (by decide) rfl rfl lf_X2_9 dX2_understand_50 ?_
      refine lv_iload_n hx hb dX2_understand_53 rfl (lv_at hl 1 rfl) ?_
      obtain ⟨hi, hF⟩ := ckb_some hF
      refine ald hC hS (hn _ (mT hj)) (kT hj).1 (kT hj).2 hi dX2_understand_54 ?_
      refine lv_aload_n hx hb dX2_understand_55 rfl (lv_at hl 0 rfl) ?_
      refine gx (ci := 2) (k := 0) (v := .ref (G.1 (12 + j))) (C := RX2) (T := TX2) (N := 7) hC hS (hn _ (mL hj)) (ceL hj) rfl in_X2 (by decide) rfl rfl lf_X2_9 dX2_understand_56 ?_
      refine lv_iload_n hx hb dX2_understand_59 rfl (lv_at hl 1 rfl) ?_
      refine lv_iconst (v := 2) hx hb dX2_understand_60 (by decide) ?_
      refine lv_iadd hx hb dX2_understand_61 ?_
      obtain ⟨hi, hF⟩ := ckb_some hF
      refine ald hC hS (hn _ (mT hj)) (kT hj).1 (kT hj).2 hi dX2_understand_62 ?_
      refine lv_bipush (v := 48) hx hb dX2_understand_63 (by decide) ?_
      refine lv_isub hx hb dX2_understand_65 ?_
      obtain ⟨M66, h66, hF⟩ := bdv_some hF
      refine cV_ (ci := 2) (i := 53 + j) (C := RX2) (T := TX2) (N := 7) (As := [.int (M.2 (12 + j) x1.toNatClampNeg), .int ((M.2 (12 + j) (x1 + 2).toNatClampNeg) - 48)]) (v := none) (rest := []) (st1 := []) hC hS (hn _ (mL hj)) (ceL hj) rfl (c_X2_takePart l G hn j hj (M.2 (12 + j) x1.toNatClampNeg) ((M.2 (12 + j) (x1 + 2).toNatClampNeg) - 48) M _ h66) kV_X2_takePart lm_X2_41 ⟨Nat.le_of_ble_eq_true rfl, Nat.le_of_ble_eq_true rfl⟩ rfl hl.1 (Nat.le_of_ble_eq_true rfl) dX2_understand_66 ⟨Nat.le_refl _, Nat.le_refl _⟩ rfl (fun H locs hS => ?_)
      refine lv_iinc (v := x1 + 4) (lv' := [(1, .int (x1 + 4)), (0, .ref (G.1 (53 + j)))]) hx hb dX2_understand_69 hl (k := 1) rfl rfl (by decide) rfl (fun ls hl => ?_)
      refine lv_goto (tgt := 38) hx hb dX2_understand_72 (by decide) ?_
      exact ih _ _ _ _ _ hF hS (lv_sub hl [1, 0] rfl)
set_option maxHeartbeats 4000000 in
set_option maxRecDepth 100000 in
theorem b_X2_understand {j : Nat} {M0 : Mem} (hC : SX p m c s args cX2_understand 2 RX2 G (AG G)) (hr : meth.sig.returnType = none) (hlk : meth.locks = false) (hn : ∀ i ∈ LsF, i ∈ gL G) (hj : j < 2) : ∀ (M : Mem) (H : Heap) (locs : List Loc) (ls : Array Slot), F_X2_understand j M = some M0 → ST G (AG G) s M H locs → lv_has ls 2 [(0, .ref (G.1 (53 + j)))] → W p l e (RM 7 148) s m args below meth c H locs 0 0 (MQ below (QV G none M0) args s 0 0 (AG G)) (F0 m 0 ls []) := by
  obtain ⟨⟨hx, hb, hml, hown, hts⟩, hK, hG, hA⟩ := id hC
  intro M H locs ls hF hS hl
  unfold F_X2_understand at hF
  refine lv_aload_n hx hb dX2_understand_0 rfl (lv_at hl 0 rfl) ?_
  refine lv_aload_n hx hb dX2_understand_1 rfl (lv_at hl 0 rfl) ?_
  obtain ⟨r2, M2, h2, hF⟩ := bd_some hF
  refine cV_ (ci := 2) (i := 53 + j) (C := RX2) (T := TX2) (N := 7) (As := []) (v := some (.int r2)) (rest := [.ref (G.1 (53 + j))]) (st1 := [.int r2, .ref (G.1 (53 + j))]) hC hS (hn _ (mL hj)) (ceL hj) rfl (c_X2_seekFault l G hn j hj M _ _ h2) kV_X2_seekFault lm_X2_37 ⟨Nat.le_of_ble_eq_true rfl, Nat.le_of_ble_eq_true rfl⟩ rfl hl.1 (Nat.le_of_ble_eq_true rfl) dX2_understand_2 ⟨Nat.le_refl _, Nat.le_refl _⟩ rfl (fun H locs hS => ?_)
  refine px (ci := 2) (k := 2) (n := 10 + 6 * j + 1) (ty := .int) (C := RX2) (T := TX2) (N := 7) hC hS (hn _ (mL hj)) (ceL hj) rfl in_X2 tyX2_ok nmX2 (by decide) rfl rfl (by decide +kernel) rfl rfl (Nat.le_of_ble_eq_true rfl) (owL1 hj) (seL1 hj) lf_X2_19 dX2_understand_5 (fun H locs hS => ?_)
  refine lv_aload_n hx hb dX2_understand_8 rfl (lv_at hl 0 rfl) ?_
  refine lv_iconst (v := 2) hx hb dX2_understand_9 (by decide) ?_
  refine px (ci := 2) (k := 3) (n := 10 + 6 * j + 2) (ty := .int) (C := RX2) (T := TX2) (N := 7) hC hS (hn _ (mL hj)) (ceL hj) rfl in_X2 tyX2_ok nmX2 (by decide) rfl rfl (by decide +kernel) rfl rfl (Nat.le_of_ble_eq_true rfl) (owL2 hj) (seL2 hj) lf_X2_22 dX2_understand_10 (fun H locs hS => ?_)
  refine lv_aload_n hx hb dX2_understand_13 rfl (lv_at hl 0 rfl) ?_
  refine lv_iconst (v := 0) hx hb dX2_understand_14 (by decide) ?_
  refine px (ci := 2) (k := 4) (n := 10 + 6 * j + 3) (ty := .int) (C := RX2) (T := TX2) (N := 7) hC hS (hn _ (mL hj)) (ceL hj) rfl in_X2 tyX2_ok nmX2 (by decide) rfl rfl (by decide +kernel) rfl rfl (Nat.le_of_ble_eq_true rfl) (owL3 hj) (seL3 hj) lf_X2_25 dX2_understand_15 (fun H locs hS => ?_)
  refine lv_aload_n hx hb dX2_understand_18 rfl (lv_at hl 0 rfl) ?_
  refine lv_iconst (v := 0) hx hb dX2_understand_19 (by decide) ?_
  refine px (ci := 2) (k := 5) (n := 10 + 6 * j + 4) (ty := .int) (C := RX2) (T := TX2) (N := 7) hC hS (hn _ (mL hj)) (ceL hj) rfl in_X2 tyX2_ok nmX2 (by decide) rfl rfl (by decide +kernel) rfl rfl (Nat.le_of_ble_eq_true rfl) (owL4 hj) (seL4 hj) lf_X2_28 dX2_understand_20 (fun H locs hS => ?_)
  refine lv_aload_n hx hb dX2_understand_23 rfl (lv_at hl 0 rfl) ?_
  refine lv_iconst (v := 0) hx hb dX2_understand_24 (by decide) ?_
  refine px (ci := 2) (k := 6) (n := 10 + 6 * j + 5) (ty := .int) (C := RX2) (T := TX2) (N := 7) hC hS (hn _ (mL hj)) (ceL hj) rfl in_X2 tyX2_ok nmX2 (by decide) rfl rfl (by decide +kernel) rfl rfl (Nat.le_of_ble_eq_true rfl) (owL5 hj) (seL5 hj) lf_X2_31 dX2_understand_25 (fun H locs hS => ?_)
  refine lv_aload_n hx hb dX2_understand_28 rfl (lv_at hl 0 rfl) ?_
  refine gx (ci := 2) (k := 2) (v := .int ((sv (sv (sv (sv (sv M2 (10 + 6 * j + 1) r2) (10 + 6 * j + 2) 2) (10 + 6 * j + 3) 0) (10 + 6 * j + 4) 0) (10 + 6 * j + 5) 0).1 (10 + 6 * j + 1))) (C := RX2) (T := TX2) (N := 7) hC hS (hn _ (mL hj)) (ceL hj) rfl in_X2 (by decide) rfl rfl lf_X2_19 dX2_understand_29 ?_
  refine lv_iconst (v := (-1)) hx hb dX2_understand_32 (by decide) ?_
  refine lv_icmp_ne (tgt := 75) hx hb dX2_understand_33 (by decide) (fun hc => ?_) (fun hc => ?_)
  · rw [if_neg hc] at hF
    exact retV hC hS hr hlk hF dX2_understand_75
  · rw [if_pos hc] at hF
    refine lv_iconst (v := 0) hx hb dX2_understand_36 (by decide) ?_
    refine lv_istore_n (lv' := [(1, .int 0), (0, .ref (G.1 (53 + j)))]) hx hb dX2_understand_37 rfl hl (by decide) rfl (fun ls hl => ?_)
    exact b_X2_understand_38 hC hr hlk hn hj fu _ _ _ _ _ hF hS (lv_sub hl [1, 0] rfl)
set_option maxRecDepth 100000 in
theorem c_X2_understand (l : Launch) (G : GT) (hn : ∀ i ∈ LsF, i ∈ gL G) (j : Nat) (hj : j < 2) (M : Mem) (M0 : Mem) (hF : F_X2_understand j M = some M0) : MetG l G yX2_understand cX2_understand 2 none 7 148 [.ref (G.1 (53 + j))] M none M0 := by
  refine MetG.of (by decide) (Nat.le_of_ble_eq_true rfl) ?_
  intro p e s m args below meth c hC hr hlk hnm ls hS hl
  exact b_X2_understand hC hr hlk hn hj _ _ _ _ hF hS hl
def F_X2_append (j : Nat) (x1 : Int32) (M : Mem) : Option Mem := ckb (ix (M.1 (10 + 6 * j)) (al (12 + j))) (bdv (F_X2_understand j (sv (sa M (12 + j) (M.1 (10 + 6 * j)).toNatClampNeg x1) (10 + 6 * j) (((sa M (12 + j) (M.1 (10 + 6 * j)).toNatClampNeg x1).1 (10 + 6 * j)) + 1))) (fun M21 => some M21))
set_option maxHeartbeats 4000000 in
set_option maxRecDepth 100000 in
theorem b_X2_append {j : Nat} {M0 : Mem} (hC : SX p m c s args cX2_append 2 RX2 G (AG G)) (hr : meth.sig.returnType = none) (hlk : meth.locks = false) (hn : ∀ i ∈ LsF, i ∈ gL G) (hj : j < 2) : ∀ (x1 : Int32) (M : Mem) (H : Heap) (locs : List Loc) (ls : Array Slot), F_X2_append j x1 M = some M0 → ST G (AG G) s M H locs → lv_has ls 2 [(0, .ref (G.1 (53 + j))), (1, .int x1)] → W p l e (RM 8 169) s m args below meth c H locs 0 0 (MQ below (QV G none M0) args s 0 0 (AG G)) (F0 m 0 ls []) := by
  obtain ⟨⟨hx, hb, hml, hown, hts⟩, hK, hG, hA⟩ := id hC
  intro x1 M H locs ls hF hS hl
  unfold F_X2_append at hF
  refine lv_aload_n hx hb dX2_append_0 rfl (lv_at hl 0 rfl) ?_
  refine gx (ci := 2) (k := 0) (v := .ref (G.1 (12 + j))) (C := RX2) (T := TX2) (N := 7) hC hS (hn _ (mL hj)) (ceL hj) rfl in_X2 (by decide) rfl rfl lf_X2_9 dX2_append_1 ?_
  refine lv_aload_n hx hb dX2_append_4 rfl (lv_at hl 0 rfl) ?_
  refine gx (ci := 2) (k := 1) (v := .int (M.1 (10 + 6 * j))) (C := RX2) (T := TX2) (N := 7) hC hS (hn _ (mL hj)) (ceL hj) rfl in_X2 (by decide) rfl rfl lf_X2_15 dX2_append_5 ?_
  refine lv_iload_n hx hb dX2_append_8 rfl (lv_at hl 1 rfl) ?_
  obtain ⟨hi, hF⟩ := ckb_some hF
  refine ast hC hS (hn _ (mT hj)) (kT hj).1 (kT hj).2 hi dX2_append_9 (fun H locs hS => ?_)
  refine lv_aload_n hx hb dX2_append_10 rfl (lv_at hl 0 rfl) ?_
  refine lv_dup hx hb dX2_append_11 rfl ?_
  refine gx (ci := 2) (k := 1) (v := .int ((sa M (12 + j) (M.1 (10 + 6 * j)).toNatClampNeg x1).1 (10 + 6 * j))) (C := RX2) (T := TX2) (N := 7) hC hS (hn _ (mL hj)) (ceL hj) rfl in_X2 (by decide) rfl rfl lf_X2_15 dX2_append_12 ?_
  refine lv_iconst (v := 1) hx hb dX2_append_15 (by decide) ?_
  refine lv_iadd hx hb dX2_append_16 ?_
  refine px (ci := 2) (k := 1) (n := 10 + 6 * j) (ty := .int) (C := RX2) (T := TX2) (N := 7) hC hS (hn _ (mL hj)) (ceL hj) rfl in_X2 tyX2_ok nmX2 (by decide) rfl rfl (by decide +kernel) rfl rfl (Nat.le_of_ble_eq_true rfl) (owL0 hj) (seL0 hj) lf_X2_15 dX2_append_17 (fun H locs hS => ?_)
  refine lv_aload_n hx hb dX2_append_20 rfl (lv_at hl 0 rfl) ?_
  obtain ⟨M21, h21, hF⟩ := bdv_some hF
  refine cV_ (ci := 2) (i := 53 + j) (C := RX2) (T := TX2) (N := 7) (As := []) (v := none) (rest := []) (st1 := []) hC hS (hn _ (mL hj)) (ceL hj) rfl (c_X2_understand l G hn j hj (sv (sa M (12 + j) (M.1 (10 + 6 * j)).toNatClampNeg x1) (10 + 6 * j) (((sa M (12 + j) (M.1 (10 + 6 * j)).toNatClampNeg x1).1 (10 + 6 * j)) + 1)) _ h21) kV_X2_understand lm_X2_34 ⟨Nat.le_of_ble_eq_true rfl, Nat.le_of_ble_eq_true rfl⟩ rfl hl.1 (Nat.le_of_ble_eq_true rfl) dX2_append_21 ⟨Nat.le_refl _, Nat.le_refl _⟩ rfl (fun H locs hS => ?_)
  exact retV hC hS hr hlk hF dX2_append_24
set_option maxRecDepth 100000 in
theorem c_X2_append (l : Launch) (G : GT) (hn : ∀ i ∈ LsF, i ∈ gL G) (j : Nat) (hj : j < 2) (x1 : Int32) (M : Mem) (M0 : Mem) (hF : F_X2_append j x1 M = some M0) : MetG l G yX2_append cX2_append 2 none 8 169 [.ref (G.1 (53 + j)), .int x1] M none M0 := by
  refine MetG.of (by decide) (Nat.le_of_ble_eq_true rfl) ?_
  intro p e s m args below meth c hC hr hlk hnm ls hS hl
  exact b_X2_append hC hr hlk hn hj _ _ _ _ _ hF hS hl
def F_X2_empty (j : Nat) (M : Mem) : Option Mem := bdv (F_X2_understand j (sv M (10 + 6 * j) 0)) (fun M6 => some M6)
set_option maxHeartbeats 4000000 in
set_option maxRecDepth 100000 in
theorem b_X2_empty {j : Nat} {M0 : Mem} (hC : SX p m c s args cX2_empty 1 RX2 G (AG G)) (hr : meth.sig.returnType = none) (hlk : meth.locks = false) (hn : ∀ i ∈ LsF, i ∈ gL G) (hj : j < 2) : ∀ (M : Mem) (H : Heap) (locs : List Loc) (ls : Array Slot), F_X2_empty j M = some M0 → ST G (AG G) s M H locs → lv_has ls 1 [(0, .ref (G.1 (53 + j)))] → W p l e (RM 8 169) s m args below meth c H locs 0 0 (MQ below (QV G none M0) args s 0 0 (AG G)) (F0 m 0 ls []) := by
  obtain ⟨⟨hx, hb, hml, hown, hts⟩, hK, hG, hA⟩ := id hC
  intro M H locs ls hF hS hl
  unfold F_X2_empty at hF
  refine lv_aload_n hx hb dX2_empty_0 rfl (lv_at hl 0 rfl) ?_
  refine lv_iconst (v := 0) hx hb dX2_empty_1 (by decide) ?_
  refine px (ci := 2) (k := 1) (n := 10 + 6 * j) (ty := .int) (C := RX2) (T := TX2) (N := 7) hC hS (hn _ (mL hj)) (ceL hj) rfl in_X2 tyX2_ok nmX2 (by decide) rfl rfl (by decide +kernel) rfl rfl (Nat.le_of_ble_eq_true rfl) (owL0 hj) (seL0 hj) lf_X2_15 dX2_empty_2 (fun H locs hS => ?_)
  refine lv_aload_n hx hb dX2_empty_5 rfl (lv_at hl 0 rfl) ?_
  obtain ⟨M6, h6, hF⟩ := bdv_some hF
  refine cV_ (ci := 2) (i := 53 + j) (C := RX2) (T := TX2) (N := 7) (As := []) (v := none) (rest := []) (st1 := []) hC hS (hn _ (mL hj)) (ceL hj) rfl (c_X2_understand l G hn j hj (sv M (10 + 6 * j) 0) _ h6) kV_X2_understand lm_X2_34 ⟨Nat.le_of_ble_eq_true rfl, Nat.le_of_ble_eq_true rfl⟩ rfl hl.1 (Nat.le_of_ble_eq_true rfl) dX2_empty_6 ⟨Nat.le_refl _, Nat.le_refl _⟩ rfl (fun H locs hS => ?_)
  exact retV hC hS hr hlk hF dX2_empty_9
set_option maxRecDepth 100000 in
theorem c_X2_empty (l : Launch) (G : GT) (hn : ∀ i ∈ LsF, i ∈ gL G) (j : Nat) (hj : j < 2) (M : Mem) (M0 : Mem) (hF : F_X2_empty j M = some M0) : MetG l G yX2_empty cX2_empty 1 none 8 169 [.ref (G.1 (53 + j))] M none M0 := by
  refine MetG.of (by decide) (Nat.le_of_ble_eq_true rfl) ?_
  intro p e s m args below meth c hC hr hlk hnm ls hS hl
  exact b_X2_empty hC hr hlk hn hj _ _ _ _ hF hS hl
def F_X2_saysTheSameAs_48 (M : Mem) : Option (Int32 × Mem) := some (0, M)
def F_X2_saysTheSameAs (j : Nat) (j1 : Nat) (M : Mem) : Option (Int32 × Mem) := if (M.1 (10 + 6 * j + 2)) = (M.1 (10 + 6 * j1 + 2)) then if (M.1 (10 + 6 * j + 3)) = (M.1 (10 + 6 * j1 + 3)) then if (M.1 (10 + 6 * j + 4)) = (M.1 (10 + 6 * j1 + 4)) then if (M.1 (10 + 6 * j + 5)) = (M.1 (10 + 6 * j1 + 5)) then some (1, M) else F_X2_saysTheSameAs_48 M else F_X2_saysTheSameAs_48 M else F_X2_saysTheSameAs_48 M else F_X2_saysTheSameAs_48 M
set_option maxHeartbeats 4000000 in
set_option maxRecDepth 100000 in
theorem b_X2_saysTheSameAs_48 {M0 : Mem} {r0 : Int32} (hC : SX p m c s args cX2_saysTheSameAs 2 RX2 G (AG G)) (hr : meth.sig.returnType = (some .boolean)) (hlk : meth.locks = false) (hn : ∀ i ∈ LsF, i ∈ gL G) : ∀ (M : Mem) (H : Heap) (locs : List Loc) (ls : Array Slot), F_X2_saysTheSameAs_48 M = some (r0, M0) → ST G (AG G) s M H locs → lv_has ls 2 [] → W p l e (RM 0 0) s m args below meth c H locs 0 0 (MQ below (QV G (some (.int r0)) M0) args s 0 0 (AG G)) (F0 m 48 ls []) := by
  obtain ⟨⟨hx, hb, hml, hown, hts⟩, hK, hG, hA⟩ := id hC
  intro M H locs ls hF hS hl
  unfold F_X2_saysTheSameAs_48 at hF
  refine lv_iconst (v := 0) hx hb dX2_saysTheSameAs_48 (by decide) ?_
  exact retZ hC hS hr hlk rfl hF dX2_saysTheSameAs_49
set_option maxHeartbeats 4000000 in
set_option maxRecDepth 100000 in
theorem b_X2_saysTheSameAs {j : Nat} {j1 : Nat} {M0 : Mem} {r0 : Int32} (hC : SX p m c s args cX2_saysTheSameAs 2 RX2 G (AG G)) (hr : meth.sig.returnType = (some .boolean)) (hlk : meth.locks = false) (hn : ∀ i ∈ LsF, i ∈ gL G) (hj : j < 2) (hj1 : j1 < 2) : ∀ (M : Mem) (H : Heap) (locs : List Loc) (ls : Array Slot), F_X2_saysTheSameAs j j1 M = some (r0, M0) → ST G (AG G) s M H locs → lv_has ls 2 [(0, .ref (G.1 (53 + j))), (1, .ref (G.1 (53 + j1)))] → W p l e (RM 0 0) s m args below meth c H locs 0 0 (MQ below (QV G (some (.int r0)) M0) args s 0 0 (AG G)) (F0 m 0 ls []) := by
  obtain ⟨⟨hx, hb, hml, hown, hts⟩, hK, hG, hA⟩ := id hC
  intro M H locs ls hF hS hl
  unfold F_X2_saysTheSameAs at hF
  refine lv_aload_n hx hb dX2_saysTheSameAs_0 rfl (lv_at hl 0 rfl) ?_
  refine gx (ci := 2) (k := 3) (v := .int (M.1 (10 + 6 * j + 2))) (C := RX2) (T := TX2) (N := 7) hC hS (hn _ (mL hj)) (ceL hj) rfl in_X2 (by decide) rfl rfl lf_X2_22 dX2_saysTheSameAs_1 ?_
  refine lv_aload_n hx hb dX2_saysTheSameAs_4 rfl (lv_at hl 1 rfl) ?_
  refine gx (ci := 2) (k := 3) (v := .int (M.1 (10 + 6 * j1 + 2))) (C := RX2) (T := TX2) (N := 7) hC hS (hn _ (mL hj1)) (ceL hj1) rfl in_X2 (by decide) rfl rfl lf_X2_22 dX2_saysTheSameAs_5 ?_
  refine lv_icmp_ne (tgt := 48) hx hb dX2_saysTheSameAs_8 (by decide) (fun hc => ?_) (fun hc => ?_)
  · rw [if_neg hc] at hF
    exact b_X2_saysTheSameAs_48 hC hr hlk hn _ _ _ _ hF hS (lv_sub hl [] rfl)
  · rw [if_pos hc] at hF
    refine lv_aload_n hx hb dX2_saysTheSameAs_11 rfl (lv_at hl 0 rfl) ?_
    refine gx (ci := 2) (k := 4) (v := .int (M.1 (10 + 6 * j + 3))) (C := RX2) (T := TX2) (N := 7) hC hS (hn _ (mL hj)) (ceL hj) rfl in_X2 (by decide) rfl rfl lf_X2_25 dX2_saysTheSameAs_12 ?_
    refine lv_aload_n hx hb dX2_saysTheSameAs_15 rfl (lv_at hl 1 rfl) ?_
    refine gx (ci := 2) (k := 4) (v := .int (M.1 (10 + 6 * j1 + 3))) (C := RX2) (T := TX2) (N := 7) hC hS (hn _ (mL hj1)) (ceL hj1) rfl in_X2 (by decide) rfl rfl lf_X2_25 dX2_saysTheSameAs_16 ?_
    refine lv_icmp_ne (tgt := 48) hx hb dX2_saysTheSameAs_19 (by decide) (fun hc => ?_) (fun hc => ?_)
    · rw [if_neg hc] at hF
      exact b_X2_saysTheSameAs_48 hC hr hlk hn _ _ _ _ hF hS (lv_sub hl [] rfl)
    · rw [if_pos hc] at hF
      refine lv_aload_n hx hb dX2_saysTheSameAs_22 rfl (lv_at hl 0 rfl) ?_
      refine gx (ci := 2) (k := 5) (v := .int (M.1 (10 + 6 * j + 4))) (C := RX2) (T := TX2) (N := 7) hC hS (hn _ (mL hj)) (ceL hj) rfl in_X2 (by decide) rfl rfl lf_X2_28 dX2_saysTheSameAs_23 ?_
      refine lv_aload_n hx hb dX2_saysTheSameAs_26 rfl (lv_at hl 1 rfl) ?_
      refine gx (ci := 2) (k := 5) (v := .int (M.1 (10 + 6 * j1 + 4))) (C := RX2) (T := TX2) (N := 7) hC hS (hn _ (mL hj1)) (ceL hj1) rfl in_X2 (by decide) rfl rfl lf_X2_28 dX2_saysTheSameAs_27 ?_
      refine lv_icmp_ne (tgt := 48) hx hb dX2_saysTheSameAs_30 (by decide) (fun hc => ?_) (fun hc => ?_)
      · rw [if_neg hc] at hF
        exact b_X2_saysTheSameAs_48 hC hr hlk hn _ _ _ _ hF hS (lv_sub hl [] rfl)
      · rw [if_pos hc] at hF
        refine lv_aload_n hx hb dX2_saysTheSameAs_33 rfl (lv_at hl 0 rfl) ?_
        refine gx (ci := 2) (k := 6) (v := .int (M.1 (10 + 6 * j + 5))) (C := RX2) (T := TX2) (N := 7) hC hS (hn _ (mL hj)) (ceL hj) rfl in_X2 (by decide) rfl rfl lf_X2_31 dX2_saysTheSameAs_34 ?_
        refine lv_aload_n hx hb dX2_saysTheSameAs_37 rfl (lv_at hl 1 rfl) ?_
        refine gx (ci := 2) (k := 6) (v := .int (M.1 (10 + 6 * j1 + 5))) (C := RX2) (T := TX2) (N := 7) hC hS (hn _ (mL hj1)) (ceL hj1) rfl in_X2 (by decide) rfl rfl lf_X2_31 dX2_saysTheSameAs_38 ?_
        refine lv_icmp_ne (tgt := 48) hx hb dX2_saysTheSameAs_41 (by decide) (fun hc => ?_) (fun hc => ?_)
        · rw [if_neg hc] at hF
          exact b_X2_saysTheSameAs_48 hC hr hlk hn _ _ _ _ hF hS (lv_sub hl [] rfl)
        · rw [if_pos hc] at hF
          refine lv_iconst (v := 1) hx hb dX2_saysTheSameAs_44 (by decide) ?_
          refine lv_goto (tgt := 49) hx hb dX2_saysTheSameAs_45 (by decide) ?_
          exact retZ hC hS hr hlk rfl hF dX2_saysTheSameAs_49
set_option maxRecDepth 100000 in
theorem c_X2_saysTheSameAs (l : Launch) (G : GT) (hn : ∀ i ∈ LsF, i ∈ gL G) (j : Nat) (j1 : Nat) (hj : j < 2) (hj1 : j1 < 2) (M : Mem) (r0 : Int32) (M0 : Mem) (hF : F_X2_saysTheSameAs j j1 M = some (r0, M0)) : MetG l G yX2_saysTheSameAs cX2_saysTheSameAs 2 (some .boolean) 0 0 [.ref (G.1 (53 + j)), .ref (G.1 (53 + j1))] M (some (.int r0)) M0 := by
  refine MetG.of (by decide) (Nat.le_of_ble_eq_true rfl) ?_
  intro p e s m args below meth c hC hr hlk hnm ls hS hl
  exact b_X2_saysTheSameAs hC hr hlk hn hj hj1 _ _ _ _ hF hS hl
end
