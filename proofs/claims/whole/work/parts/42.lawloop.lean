theorem cl_L_7 : Cond.classLink RL 7 RX6 ∈ TB := TB_of (List.mem_of_getElem? (i := 18) (by decide +kernel)) rfl
theorem ni_X6 : Cond.instantiable RX6 8 ∈ TB := TB_of (List.mem_of_getElem? (i := 19) (by decide +kernel)) rfl
theorem ii_X6 : Cond.initialized RX6 ∈ TB := TB_of (List.mem_of_getElem? (i := 1) (by decide +kernel)) rfl
theorem cl_L_10 : Cond.classLink RL 10 RX7 ∈ TB := TB_of (List.mem_of_getElem? (i := 776) (by decide +kernel)) rfl
theorem ni_X7 : Cond.instantiable RX7 29 ∈ TB := TB_of (List.mem_of_getElem? (i := 777) (by decide +kernel)) rfl
theorem ii_X7 : Cond.initialized RX7 ∈ TB := TB_of (List.mem_of_getElem? (i := 8) (by decide +kernel)) rfl
theorem lmL_9 : Cond.methodLink RL 9 yX6_init ∈ TB := TB_of (List.mem_of_getElem? (i := 20) (by decide +kernel)) rfl
theorem kc_X6_init : Cond.code yX6_init cX6_init 2 none ∈ TB ∧ Cond.instanceMethod yX6_init ∈ TB ∧ Cond.initialized (yX6_init).cls ∈ TB ∧ yX6_init.name = "<init>" ∧ (yX6_init.cls ≠ "java/lang/invoke/MethodHandle" ∧ yX6_init.cls ≠ "java/lang/invoke/VarHandle" ∧ (parseMethodDescriptor yX6_init.desc).map (fun d => d.parameters.length) = some 0) := ⟨TB_of (List.mem_of_getElem? (i := 22) (by decide +kernel)) rfl, TB_of (List.mem_of_getElem? (i := 21) (by decide +kernel)) rfl, TB_of (List.mem_of_getElem? (i := 1) (by decide +kernel)) rfl, rfl, by decide +kernel⟩
theorem lmL_12 : Cond.methodLink RL 12 yX7_init ∈ TB := TB_of (List.mem_of_getElem? (i := 778) (by decide +kernel)) rfl
theorem kc_X7_init : Cond.code yX7_init cX7_init 1 none ∈ TB ∧ Cond.instanceMethod yX7_init ∈ TB ∧ Cond.initialized (yX7_init).cls ∈ TB ∧ yX7_init.name = "<init>" ∧ (yX7_init.cls ≠ "java/lang/invoke/MethodHandle" ∧ yX7_init.cls ≠ "java/lang/invoke/VarHandle" ∧ (parseMethodDescriptor yX7_init.desc).map (fun d => d.parameters.length) = some 0) := ⟨TB_of (List.mem_of_getElem? (i := 780) (by decide +kernel)) rfl, TB_of (List.mem_of_getElem? (i := 779) (by decide +kernel)) rfl, TB_of (List.mem_of_getElem? (i := 8) (by decide +kernel)) rfl, rfl, by decide +kernel⟩
/-! the law's loop; the law from its entry, out of the pure statement -/
set_option maxHeartbeats 4000000 in
set_option maxRecDepth 100000 in
theorem law_loop {I : Mem → Prop} (hstep : ∀ (k : Nat) (a1 a2 a3 a4 a5 : Int32) (M : Mem), I M → ∃ M2, I M2 ∧ RunOp k a1 a2 a3 a4 a5 M M2) {p : Program} {l : Launch} {e : Env} {s : State} {m : MethodId} {below : List Frame} {meth : Method} {c : Code} {G : GT} {b L : Nat} {xs : Nat → Int32} (hL : L ≤ 3072) (hr : meth.sig.returnType = ret) (hlk : meth.locks = false) (hC : CallFix p m c cL_law 4 s #[Value.ref b] TB RL) (hKG : KK G s) (hAG : ∀ a, AG G a → s.heap.size ≤ a) (hSG : ∀ (H : Heap) (locs : List Loc), va_S (fun q => s.heap.size ≤ q) s.heap H locs → SG G s H) (hn : ∀ i ∈ LsF, i ∈ gL G) (hX : va_X b L xs s s.heap) (hbl : b < s.heap.size) (hbA : ¬ (fun q : Nat => s.heap.size ≤ q) b) :
    ∀ (n i : Nat) (x3 : Int32), i ≤ L + 6 → L + 7 ≤ i + n → x3 = nI i → ∀ (M : Mem) (H : Heap) (locs : List Loc) (ls : Array Slot), I M → PP G M H → va_S (fun q => s.heap.size ≤ q) s.heap H locs → lv_has ls 4 [(0, .ref b), (1, .ref (G.1 50)), (2, .ref (G.1 61)), (3, .int x3)] → W p l e room_1 s m #[Value.ref b] below meth c H locs 600000 7302250 (lw_Z below #[Value.ref b] s) (F0 m 18 ls []) := by
  obtain ⟨hx, hb, hml, hown, hts⟩ := id hC
  intro n
  induction n with
  | zero =>
    intro i x3 h1 h2
    exact absurd h2 (by omega)
  | succ n ih =>
    intro i x3 hi hin0 ex3 M H locs ls hI hP hS hl
    refine lv_iload_n hx hb dL_law_18 rfl (lv_at hl 3 rfl) ?_
    refine lv_aload_n hx hb dL_law_19 rfl (lv_at hl 0 rfl) ?_
    refine va_slen hx hb hX hbl hbA hS dL_law_20 ?_
    refine lv_bipush (v := 6) hx hb dL_law_21 (by decide) ?_
    refine lv_isub hx hb dL_law_23 ?_
    have eL : (Int32.ofNat L - 6).toInt = (L : Int) - 6 := pk_sub_toInt (a := L) (b := 6) (by omega) (by omega)
    have eX : x3.toInt = (i : Int) := by rw [ex3]; exact nI_toInt (by omega)
    refine lv_icmp_gt (tgt := 1226) hx hb dL_law_24 (by decide) (fun hc => ?_) (fun hc => ?_)
    · refine lv_iconst (v := 1) hx hb dL_law_1226 (by decide) ?_
      refine va_forget (fun q hq => hS.2.2 q hq) ?_
      exact lw_ret hx hb hr hlk dL_law_1227
    have hlt : i + 6 ≤ L := by
      have h9 : ¬ (Int32.ofNat L - 6).toInt < x3.toInt := fun h => hc (Int32.lt_iff_toInt_lt.mpr h)
      rw [eL, eX] at h9
      omega
    have hin : ∀ j : Int32, (0 ≤ j ∧ j ≤ 5) → vp_in (x3 + j) L := by
      intro j hj
      obtain ⟨k, hk, rfl⟩ := nI_of2 (x := j) (M := 5) (n := 5) rfl (Int32.not_lt.mpr hj.1) hj.2
      rw [ex3, nI_add]
      exact vp_in_nI (by omega) (by omega)
    have hin0 : vp_in x3 L := by rw [ex3]; exact vp_in_nI (by omega) (by omega)
    have next : ∀ (M2 : Mem) (H1 : Heap) (locs1 : List Loc) (ls : Array Slot), I M2 → PP G M2 H1 → va_S (fun q => s.heap.size ≤ q) s.heap H1 locs1 → lv_has ls 4 [(0, .ref b), (1, .ref (G.1 50)), (2, .ref (G.1 61)), (3, .int x3)] → W p l e room_1 s m #[Value.ref b] below meth c H1 locs1 600000 7302250 (lw_Z below #[Value.ref b] s) (F0 m 1220 ls []) := by
      intro M2 H1 locs1 ls hI2 hP1 hS1 hl1
      refine lv_iinc (v := x3 + 6) (lv' := [(3, .int (x3 + 6)), (0, .ref b), (1, .ref (G.1 50)), (2, .ref (G.1 61))]) hx hb dL_law_1220 hl1 (k := 3) rfl rfl (by decide) rfl (fun ls hl => ?_)
      refine lv_goto (tgt := 18) hx hb dL_law_1223 (by decide) ?_
      exact ih (i + 6) (x3 + 6) (by omega) (by omega) (by rw [ex3]; exact nI_add i 6) M2 H1 locs1 ls hI2 hP1 hS1 (lv_sub hl [1, 2, 3, 0] rfl)
    refine lv_aload_n hx hb dL_law_27 rfl (lv_at hl 0 rfl) ?_
    refine lv_iload_n hx hb dL_law_28 rfl (lv_at hl 3 rfl) ?_
    refine va_sld hx hb hX hbl hbA hS hin0 dL_law_29 ?_
    refine lv_bipush (v := 63) hx hb dL_law_30 (by decide) ?_
    refine lv_iand hx hb dL_law_32 ?_
    by_cases hc0 : xs x3.toNatClampNeg &&& 63 = 0
    · obtain ⟨M2, hI2, hop⟩ := hstep 0 (xs (x3 + 1).toNatClampNeg) (xs (x3 + 2).toNatClampNeg) (xs (x3 + 3).toNatClampNeg) (xs (x3 + 4).toNatClampNeg) (xs (x3 + 5).toNatClampNeg) M hI
      refine lv_tableIn (off := 147) (tgt := 180) hx hb dL_law_33 (by rw [hc0]; decide) (by rw [hc0]; decide) (by rw [hc0]; rfl) (by decide) ?_
      exact lcase_0 hC hKG hAG hSG hn hX hbl hbA hin hop hP hS hl (fun H1 locs1 hP1 hS1 => next M2 H1 locs1 ls hI2 hP1 hS1 hl)
    by_cases hc1 : xs x3.toNatClampNeg &&& 63 = 1
    · obtain ⟨M2, hI2, hop⟩ := hstep 1 (xs (x3 + 1).toNatClampNeg) (xs (x3 + 2).toNatClampNeg) (xs (x3 + 3).toNatClampNeg) (xs (x3 + 4).toNatClampNeg) (xs (x3 + 5).toNatClampNeg) M hI
      refine lv_tableIn (off := 190) (tgt := 223) hx hb dL_law_33 (by rw [hc1]; decide) (by rw [hc1]; decide) (by rw [hc1]; rfl) (by decide) ?_
      exact lcase_1 hC hKG hAG hSG hn hX hbl hbA hin hop hP hS hl (fun H1 locs1 hP1 hS1 => next M2 H1 locs1 ls hI2 hP1 hS1 hl)
    by_cases hc2 : xs x3.toNatClampNeg &&& 63 = 2
    · obtain ⟨M2, hI2, hop⟩ := hstep 2 (xs (x3 + 1).toNatClampNeg) (xs (x3 + 2).toNatClampNeg) (xs (x3 + 3).toNatClampNeg) (xs (x3 + 4).toNatClampNeg) (xs (x3 + 5).toNatClampNeg) M hI
      refine lv_tableIn (off := 223) (tgt := 256) hx hb dL_law_33 (by rw [hc2]; decide) (by rw [hc2]; decide) (by rw [hc2]; rfl) (by decide) ?_
      exact lcase_2 hC hKG hAG hSG hn hX hbl hbA hin hop hP hS hl (fun H1 locs1 hP1 hS1 => next M2 H1 locs1 ls hI2 hP1 hS1 hl)
    by_cases hc3 : xs x3.toNatClampNeg &&& 63 = 3
    · obtain ⟨M2, hI2, hop⟩ := hstep 3 (xs (x3 + 1).toNatClampNeg) (xs (x3 + 2).toNatClampNeg) (xs (x3 + 3).toNatClampNeg) (xs (x3 + 4).toNatClampNeg) (xs (x3 + 5).toNatClampNeg) M hI
      refine lv_tableIn (off := 286) (tgt := 319) hx hb dL_law_33 (by rw [hc3]; decide) (by rw [hc3]; decide) (by rw [hc3]; rfl) (by decide) ?_
      exact lcase_3 hC hKG hAG hSG hn hX hbl hbA hin hop hP hS hl (fun H1 locs1 hP1 hS1 => next M2 H1 locs1 ls hI2 hP1 hS1 hl)
    by_cases hc4 : xs x3.toNatClampNeg &&& 63 = 4
    · obtain ⟨M2, hI2, hop⟩ := hstep 4 (xs (x3 + 1).toNatClampNeg) (xs (x3 + 2).toNatClampNeg) (xs (x3 + 3).toNatClampNeg) (xs (x3 + 4).toNatClampNeg) (xs (x3 + 5).toNatClampNeg) M hI
      refine lv_tableIn (off := 309) (tgt := 342) hx hb dL_law_33 (by rw [hc4]; decide) (by rw [hc4]; decide) (by rw [hc4]; rfl) (by decide) ?_
      exact lcase_4 hC hKG hAG hSG hn hX hbl hbA hin hop hP hS hl (fun H1 locs1 hP1 hS1 => next M2 H1 locs1 ls hI2 hP1 hS1 hl)
    by_cases hc5 : xs x3.toNatClampNeg &&& 63 = 5
    · obtain ⟨M2, hI2, hop⟩ := hstep 5 (xs (x3 + 1).toNatClampNeg) (xs (x3 + 2).toNatClampNeg) (xs (x3 + 3).toNatClampNeg) (xs (x3 + 4).toNatClampNeg) (xs (x3 + 5).toNatClampNeg) M hI
      refine lv_tableIn (off := 342) (tgt := 375) hx hb dL_law_33 (by rw [hc5]; decide) (by rw [hc5]; decide) (by rw [hc5]; rfl) (by decide) ?_
      exact lcase_5 hC hKG hAG hSG hn hX hbl hbA hin hop hP hS hl (fun H1 locs1 hP1 hS1 => next M2 H1 locs1 ls hI2 hP1 hS1 hl)
    by_cases hc6 : xs x3.toNatClampNeg &&& 63 = 6
    · obtain ⟨M2, hI2, hop⟩ := hstep 6 (xs (x3 + 1).toNatClampNeg) (xs (x3 + 2).toNatClampNeg) (xs (x3 + 3).toNatClampNeg) (xs (x3 + 4).toNatClampNeg) (xs (x3 + 5).toNatClampNeg) M hI
      refine lv_tableIn (off := 365) (tgt := 398) hx hb dL_law_33 (by rw [hc6]; decide) (by rw [hc6]; decide) (by rw [hc6]; rfl) (by decide) ?_
      exact lcase_6 hC hKG hAG hSG hn hX hbl hbA hin hop hP hS hl (fun H1 locs1 hP1 hS1 => next M2 H1 locs1 ls hI2 hP1 hS1 hl)
    by_cases hc7 : xs x3.toNatClampNeg &&& 63 = 7
    · obtain ⟨M2, hI2, hop⟩ := hstep 7 (xs (x3 + 1).toNatClampNeg) (xs (x3 + 2).toNatClampNeg) (xs (x3 + 3).toNatClampNeg) (xs (x3 + 4).toNatClampNeg) (xs (x3 + 5).toNatClampNeg) M hI
      refine lv_tableIn (off := 398) (tgt := 431) hx hb dL_law_33 (by rw [hc7]; decide) (by rw [hc7]; decide) (by rw [hc7]; rfl) (by decide) ?_
      exact lcase_7 hC hKG hAG hSG hn hX hbl hbA hin hop hP hS hl (fun H1 locs1 hP1 hS1 => next M2 H1 locs1 ls hI2 hP1 hS1 hl)
    by_cases hc8 : xs x3.toNatClampNeg &&& 63 = 8
    · obtain ⟨M2, hI2, hop⟩ := hstep 8 (xs (x3 + 1).toNatClampNeg) (xs (x3 + 2).toNatClampNeg) (xs (x3 + 3).toNatClampNeg) (xs (x3 + 4).toNatClampNeg) (xs (x3 + 5).toNatClampNeg) M hI
      refine lv_tableIn (off := 421) (tgt := 454) hx hb dL_law_33 (by rw [hc8]; decide) (by rw [hc8]; decide) (by rw [hc8]; rfl) (by decide) ?_
      exact lcase_8 hC hKG hAG hSG hn hX hbl hbA hin hop hP hS hl (fun H1 locs1 hP1 hS1 => next M2 H1 locs1 ls hI2 hP1 hS1 hl)
    by_cases hc9 : xs x3.toNatClampNeg &&& 63 = 9
    · obtain ⟨M2, hI2, hop⟩ := hstep 9 (xs (x3 + 1).toNatClampNeg) (xs (x3 + 2).toNatClampNeg) (xs (x3 + 3).toNatClampNeg) (xs (x3 + 4).toNatClampNeg) (xs (x3 + 5).toNatClampNeg) M hI
      refine lv_tableIn (off := 444) (tgt := 477) hx hb dL_law_33 (by rw [hc9]; decide) (by rw [hc9]; decide) (by rw [hc9]; rfl) (by decide) ?_
      exact lcase_9 hC hKG hAG hSG hn hX hbl hbA hin hop hP hS hl (fun H1 locs1 hP1 hS1 => next M2 H1 locs1 ls hI2 hP1 hS1 hl)
    by_cases hc10 : xs x3.toNatClampNeg &&& 63 = 10
    · obtain ⟨M2, hI2, hop⟩ := hstep 10 (xs (x3 + 1).toNatClampNeg) (xs (x3 + 2).toNatClampNeg) (xs (x3 + 3).toNatClampNeg) (xs (x3 + 4).toNatClampNeg) (xs (x3 + 5).toNatClampNeg) M hI
      refine lv_tableIn (off := 477) (tgt := 510) hx hb dL_law_33 (by rw [hc10]; decide) (by rw [hc10]; decide) (by rw [hc10]; rfl) (by decide) ?_
      exact lcase_10 hC hKG hAG hSG hn hX hbl hbA hin hop hP hS hl (fun H1 locs1 hP1 hS1 => next M2 H1 locs1 ls hI2 hP1 hS1 hl)
    by_cases hc11 : xs x3.toNatClampNeg &&& 63 = 11
    · obtain ⟨M2, hI2, hop⟩ := hstep 11 (xs (x3 + 1).toNatClampNeg) (xs (x3 + 2).toNatClampNeg) (xs (x3 + 3).toNatClampNeg) (xs (x3 + 4).toNatClampNeg) (xs (x3 + 5).toNatClampNeg) M hI
      refine lv_tableIn (off := 510) (tgt := 543) hx hb dL_law_33 (by rw [hc11]; decide) (by rw [hc11]; decide) (by rw [hc11]; rfl) (by decide) ?_
      exact lcase_11 hC hKG hAG hSG hn hX hbl hbA hin hop hP hS hl (fun H1 locs1 hP1 hS1 => next M2 H1 locs1 ls hI2 hP1 hS1 hl)
    by_cases hc12 : xs x3.toNatClampNeg &&& 63 = 12
    · obtain ⟨M2, hI2, hop⟩ := hstep 12 (xs (x3 + 1).toNatClampNeg) (xs (x3 + 2).toNatClampNeg) (xs (x3 + 3).toNatClampNeg) (xs (x3 + 4).toNatClampNeg) (xs (x3 + 5).toNatClampNeg) M hI
      refine lv_tableIn (off := 553) (tgt := 586) hx hb dL_law_33 (by rw [hc12]; decide) (by rw [hc12]; decide) (by rw [hc12]; rfl) (by decide) ?_
      exact lcase_12 hC hKG hAG hSG hn hX hbl hbA hin hop hP hS hl (fun H1 locs1 hP1 hS1 => next M2 H1 locs1 ls hI2 hP1 hS1 hl)
    by_cases hc13 : xs x3.toNatClampNeg &&& 63 = 13
    · obtain ⟨M2, hI2, hop⟩ := hstep 13 (xs (x3 + 1).toNatClampNeg) (xs (x3 + 2).toNatClampNeg) (xs (x3 + 3).toNatClampNeg) (xs (x3 + 4).toNatClampNeg) (xs (x3 + 5).toNatClampNeg) M hI
      refine lv_tableIn (off := 586) (tgt := 619) hx hb dL_law_33 (by rw [hc13]; decide) (by rw [hc13]; decide) (by rw [hc13]; rfl) (by decide) ?_
      exact lcase_13 hC hKG hAG hSG hn hX hbl hbA hin hop hP hS hl (fun H1 locs1 hP1 hS1 => next M2 H1 locs1 ls hI2 hP1 hS1 hl)
    by_cases hc14 : xs x3.toNatClampNeg &&& 63 = 14
    · obtain ⟨M2, hI2, hop⟩ := hstep 14 (xs (x3 + 1).toNatClampNeg) (xs (x3 + 2).toNatClampNeg) (xs (x3 + 3).toNatClampNeg) (xs (x3 + 4).toNatClampNeg) (xs (x3 + 5).toNatClampNeg) M hI
      refine lv_tableIn (off := 619) (tgt := 652) hx hb dL_law_33 (by rw [hc14]; decide) (by rw [hc14]; decide) (by rw [hc14]; rfl) (by decide) ?_
      exact lcase_14 hC hKG hAG hSG hn hX hbl hbA hin hop hP hS hl (fun H1 locs1 hP1 hS1 => next M2 H1 locs1 ls hI2 hP1 hS1 hl)
    by_cases hc15 : xs x3.toNatClampNeg &&& 63 = 15
    · obtain ⟨M2, hI2, hop⟩ := hstep 15 (xs (x3 + 1).toNatClampNeg) (xs (x3 + 2).toNatClampNeg) (xs (x3 + 3).toNatClampNeg) (xs (x3 + 4).toNatClampNeg) (xs (x3 + 5).toNatClampNeg) M hI
      refine lv_tableIn (off := 662) (tgt := 695) hx hb dL_law_33 (by rw [hc15]; decide) (by rw [hc15]; decide) (by rw [hc15]; rfl) (by decide) ?_
      exact lcase_15 hC hKG hAG hSG hn hX hbl hbA hin hop hP hS hl (fun H1 locs1 hP1 hS1 => next M2 H1 locs1 ls hI2 hP1 hS1 hl)
    by_cases hc16 : xs x3.toNatClampNeg &&& 63 = 16
    · obtain ⟨M2, hI2, hop⟩ := hstep 16 (xs (x3 + 1).toNatClampNeg) (xs (x3 + 2).toNatClampNeg) (xs (x3 + 3).toNatClampNeg) (xs (x3 + 4).toNatClampNeg) (xs (x3 + 5).toNatClampNeg) M hI
      refine lv_tableIn (off := 695) (tgt := 728) hx hb dL_law_33 (by rw [hc16]; decide) (by rw [hc16]; decide) (by rw [hc16]; rfl) (by decide) ?_
      exact lcase_16 hC hKG hAG hSG hn hX hbl hbA hin hop hP hS hl (fun H1 locs1 hP1 hS1 => next M2 H1 locs1 ls hI2 hP1 hS1 hl)
    by_cases hc17 : xs x3.toNatClampNeg &&& 63 = 17
    · obtain ⟨M2, hI2, hop⟩ := hstep 17 (xs (x3 + 1).toNatClampNeg) (xs (x3 + 2).toNatClampNeg) (xs (x3 + 3).toNatClampNeg) (xs (x3 + 4).toNatClampNeg) (xs (x3 + 5).toNatClampNeg) M hI
      refine lv_tableIn (off := 718) (tgt := 751) hx hb dL_law_33 (by rw [hc17]; decide) (by rw [hc17]; decide) (by rw [hc17]; rfl) (by decide) ?_
      exact lcase_17 hC hKG hAG hSG hn hX hbl hbA hin hop hP hS hl (fun H1 locs1 hP1 hS1 => next M2 H1 locs1 ls hI2 hP1 hS1 hl)
    by_cases hc18 : xs x3.toNatClampNeg &&& 63 = 18
    · obtain ⟨M2, hI2, hop⟩ := hstep 18 (xs (x3 + 1).toNatClampNeg) (xs (x3 + 2).toNatClampNeg) (xs (x3 + 3).toNatClampNeg) (xs (x3 + 4).toNatClampNeg) (xs (x3 + 5).toNatClampNeg) M hI
      refine lv_tableIn (off := 751) (tgt := 784) hx hb dL_law_33 (by rw [hc18]; decide) (by rw [hc18]; decide) (by rw [hc18]; rfl) (by decide) ?_
      exact lcase_18 hC hKG hAG hSG hn hX hbl hbA hin hop hP hS hl (fun H1 locs1 hP1 hS1 => next M2 H1 locs1 ls hI2 hP1 hS1 hl)
    by_cases hc19 : xs x3.toNatClampNeg &&& 63 = 19
    · obtain ⟨M2, hI2, hop⟩ := hstep 19 (xs (x3 + 1).toNatClampNeg) (xs (x3 + 2).toNatClampNeg) (xs (x3 + 3).toNatClampNeg) (xs (x3 + 4).toNatClampNeg) (xs (x3 + 5).toNatClampNeg) M hI
      refine lv_tableIn (off := 784) (tgt := 817) hx hb dL_law_33 (by rw [hc19]; decide) (by rw [hc19]; decide) (by rw [hc19]; rfl) (by decide) ?_
      exact lcase_19 hC hKG hAG hSG hn hX hbl hbA hin hop hP hS hl (fun H1 locs1 hP1 hS1 => next M2 H1 locs1 ls hI2 hP1 hS1 hl)
    by_cases hc20 : xs x3.toNatClampNeg &&& 63 = 20
    · obtain ⟨M2, hI2, hop⟩ := hstep 20 (xs (x3 + 1).toNatClampNeg) (xs (x3 + 2).toNatClampNeg) (xs (x3 + 3).toNatClampNeg) (xs (x3 + 4).toNatClampNeg) (xs (x3 + 5).toNatClampNeg) M hI
      refine lv_tableIn (off := 797) (tgt := 830) hx hb dL_law_33 (by rw [hc20]; decide) (by rw [hc20]; decide) (by rw [hc20]; rfl) (by decide) ?_
      exact lcase_20 hC hKG hAG hSG hn hX hbl hbA hin hop hP hS hl (fun H1 locs1 hP1 hS1 => next M2 H1 locs1 ls hI2 hP1 hS1 hl)
    by_cases hc21 : xs x3.toNatClampNeg &&& 63 = 21
    · obtain ⟨M2, hI2, hop⟩ := hstep 21 (xs (x3 + 1).toNatClampNeg) (xs (x3 + 2).toNatClampNeg) (xs (x3 + 3).toNatClampNeg) (xs (x3 + 4).toNatClampNeg) (xs (x3 + 5).toNatClampNeg) M hI
      refine lv_tableIn (off := 820) (tgt := 853) hx hb dL_law_33 (by rw [hc21]; decide) (by rw [hc21]; decide) (by rw [hc21]; rfl) (by decide) ?_
      exact lcase_21 hC hKG hAG hSG hn hX hbl hbA hin hop hP hS hl (fun H1 locs1 hP1 hS1 => next M2 H1 locs1 ls hI2 hP1 hS1 hl)
    by_cases hc22 : xs x3.toNatClampNeg &&& 63 = 22
    · obtain ⟨M2, hI2, hop⟩ := hstep 22 (xs (x3 + 1).toNatClampNeg) (xs (x3 + 2).toNatClampNeg) (xs (x3 + 3).toNatClampNeg) (xs (x3 + 4).toNatClampNeg) (xs (x3 + 5).toNatClampNeg) M hI
      refine lv_tableIn (off := 843) (tgt := 876) hx hb dL_law_33 (by rw [hc22]; decide) (by rw [hc22]; decide) (by rw [hc22]; rfl) (by decide) ?_
      exact lcase_22 hC hKG hAG hSG hn hX hbl hbA hin hop hP hS hl (fun H1 locs1 hP1 hS1 => next M2 H1 locs1 ls hI2 hP1 hS1 hl)
    by_cases hc23 : xs x3.toNatClampNeg &&& 63 = 23
    · obtain ⟨M2, hI2, hop⟩ := hstep 23 (xs (x3 + 1).toNatClampNeg) (xs (x3 + 2).toNatClampNeg) (xs (x3 + 3).toNatClampNeg) (xs (x3 + 4).toNatClampNeg) (xs (x3 + 5).toNatClampNeg) M hI
      refine lv_tableIn (off := 856) (tgt := 889) hx hb dL_law_33 (by rw [hc23]; decide) (by rw [hc23]; decide) (by rw [hc23]; rfl) (by decide) ?_
      exact lcase_23 hC hKG hAG hSG hn hX hbl hbA hin hop hP hS hl (fun H1 locs1 hP1 hS1 => next M2 H1 locs1 ls hI2 hP1 hS1 hl)
    by_cases hc24 : xs x3.toNatClampNeg &&& 63 = 24
    · obtain ⟨M2, hI2, hop⟩ := hstep 24 (xs (x3 + 1).toNatClampNeg) (xs (x3 + 2).toNatClampNeg) (xs (x3 + 3).toNatClampNeg) (xs (x3 + 4).toNatClampNeg) (xs (x3 + 5).toNatClampNeg) M hI
      refine lv_tableIn (off := 889) (tgt := 922) hx hb dL_law_33 (by rw [hc24]; decide) (by rw [hc24]; decide) (by rw [hc24]; rfl) (by decide) ?_
      exact lcase_24 hC hKG hAG hSG hn hX hbl hbA hin hop hP hS hl (fun H1 locs1 hP1 hS1 => next M2 H1 locs1 ls hI2 hP1 hS1 hl)
    by_cases hc25 : xs x3.toNatClampNeg &&& 63 = 25
    · obtain ⟨M2, hI2, hop⟩ := hstep 25 (xs (x3 + 1).toNatClampNeg) (xs (x3 + 2).toNatClampNeg) (xs (x3 + 3).toNatClampNeg) (xs (x3 + 4).toNatClampNeg) (xs (x3 + 5).toNatClampNeg) M hI
      refine lv_tableIn (off := 902) (tgt := 935) hx hb dL_law_33 (by rw [hc25]; decide) (by rw [hc25]; decide) (by rw [hc25]; rfl) (by decide) ?_
      exact lcase_25 hC hKG hAG hSG hn hX hbl hbA hin hop hP hS hl (fun H1 locs1 hP1 hS1 => next M2 H1 locs1 ls hI2 hP1 hS1 hl)
    by_cases hc26 : xs x3.toNatClampNeg &&& 63 = 26
    · obtain ⟨M2, hI2, hop⟩ := hstep 26 (xs (x3 + 1).toNatClampNeg) (xs (x3 + 2).toNatClampNeg) (xs (x3 + 3).toNatClampNeg) (xs (x3 + 4).toNatClampNeg) (xs (x3 + 5).toNatClampNeg) M hI
      refine lv_tableIn (off := 945) (tgt := 978) hx hb dL_law_33 (by rw [hc26]; decide) (by rw [hc26]; decide) (by rw [hc26]; rfl) (by decide) ?_
      exact lcase_26 hC hKG hAG hSG hn hX hbl hbA hin hop hP hS hl (fun H1 locs1 hP1 hS1 => next M2 H1 locs1 ls hI2 hP1 hS1 hl)
    by_cases hc27 : xs x3.toNatClampNeg &&& 63 = 27
    · obtain ⟨M2, hI2, hop⟩ := hstep 27 (xs (x3 + 1).toNatClampNeg) (xs (x3 + 2).toNatClampNeg) (xs (x3 + 3).toNatClampNeg) (xs (x3 + 4).toNatClampNeg) (xs (x3 + 5).toNatClampNeg) M hI
      refine lv_tableIn (off := 968) (tgt := 1001) hx hb dL_law_33 (by rw [hc27]; decide) (by rw [hc27]; decide) (by rw [hc27]; rfl) (by decide) ?_
      exact lcase_27 hC hKG hAG hSG hn hX hbl hbA hin hop hP hS hl (fun H1 locs1 hP1 hS1 => next M2 H1 locs1 ls hI2 hP1 hS1 hl)
    by_cases hc28 : xs x3.toNatClampNeg &&& 63 = 28
    · obtain ⟨M2, hI2, hop⟩ := hstep 28 (xs (x3 + 1).toNatClampNeg) (xs (x3 + 2).toNatClampNeg) (xs (x3 + 3).toNatClampNeg) (xs (x3 + 4).toNatClampNeg) (xs (x3 + 5).toNatClampNeg) M hI
      refine lv_tableIn (off := 1021) (tgt := 1054) hx hb dL_law_33 (by rw [hc28]; decide) (by rw [hc28]; decide) (by rw [hc28]; rfl) (by decide) ?_
      exact lcase_28 hC hKG hAG hSG hn hX hbl hbA hin hop hP hS hl (fun H1 locs1 hP1 hS1 => next M2 H1 locs1 ls hI2 hP1 hS1 hl)
    by_cases hc29 : xs x3.toNatClampNeg &&& 63 = 29
    · obtain ⟨M2, hI2, hop⟩ := hstep 29 (xs (x3 + 1).toNatClampNeg) (xs (x3 + 2).toNatClampNeg) (xs (x3 + 3).toNatClampNeg) (xs (x3 + 4).toNatClampNeg) (xs (x3 + 5).toNatClampNeg) M hI
      refine lv_tableIn (off := 1064) (tgt := 1097) hx hb dL_law_33 (by rw [hc29]; decide) (by rw [hc29]; decide) (by rw [hc29]; rfl) (by decide) ?_
      exact lcase_29 hC hKG hAG hSG hn hX hbl hbA hin hop hP hS hl (fun H1 locs1 hP1 hS1 => next M2 H1 locs1 ls hI2 hP1 hS1 hl)
    by_cases hc30 : xs x3.toNatClampNeg &&& 63 = 30
    · obtain ⟨M2, hI2, hop⟩ := hstep 30 (xs (x3 + 1).toNatClampNeg) (xs (x3 + 2).toNatClampNeg) (xs (x3 + 3).toNatClampNeg) (xs (x3 + 4).toNatClampNeg) (xs (x3 + 5).toNatClampNeg) M hI
      refine lv_tableIn (off := 1127) (tgt := 1160) hx hb dL_law_33 (by rw [hc30]; decide) (by rw [hc30]; decide) (by rw [hc30]; rfl) (by decide) ?_
      exact lcase_30 hC hKG hAG hSG hn hX hbl hbA hin hop hP hS hl (fun H1 locs1 hP1 hS1 => next M2 H1 locs1 ls hI2 hP1 hS1 hl)
    by_cases hc31 : xs x3.toNatClampNeg &&& 63 = 31
    · obtain ⟨M2, hI2, hop⟩ := hstep 31 (xs (x3 + 1).toNatClampNeg) (xs (x3 + 2).toNatClampNeg) (xs (x3 + 3).toNatClampNeg) (xs (x3 + 4).toNatClampNeg) (xs (x3 + 5).toNatClampNeg) M hI
      refine lv_tableIn (off := 1150) (tgt := 1183) hx hb dL_law_33 (by rw [hc31]; decide) (by rw [hc31]; decide) (by rw [hc31]; rfl) (by decide) ?_
      exact lcase_31 hC hKG hAG hSG hn hX hbl hbA hin hop hP hS hl (fun H1 locs1 hP1 hS1 => next M2 H1 locs1 ls hI2 hP1 hS1 hl)
    by_cases hc32 : xs x3.toNatClampNeg &&& 63 = 32
    · obtain ⟨M2, hI2, hop⟩ := hstep 32 (xs (x3 + 1).toNatClampNeg) (xs (x3 + 2).toNatClampNeg) (xs (x3 + 3).toNatClampNeg) (xs (x3 + 4).toNatClampNeg) (xs (x3 + 5).toNatClampNeg) M hI
      refine lv_tableIn (off := 1173) (tgt := 1206) hx hb dL_law_33 (by rw [hc32]; decide) (by rw [hc32]; decide) (by rw [hc32]; rfl) (by decide) ?_
      exact lcase_32 hC hKG hAG hSG hn hX hbl hbA hin hop hP hS hl (fun H1 locs1 hP1 hS1 => next M2 H1 locs1 ls hI2 hP1 hS1 hl)
    have hc0 := neI hc0
    have hc1 := neI hc1
    have hc2 := neI hc2
    have hc3 := neI hc3
    have hc4 := neI hc4
    have hc5 := neI hc5
    have hc6 := neI hc6
    have hc7 := neI hc7
    have hc8 := neI hc8
    have hc9 := neI hc9
    have hc10 := neI hc10
    have hc11 := neI hc11
    have hc12 := neI hc12
    have hc13 := neI hc13
    have hc14 := neI hc14
    have hc15 := neI hc15
    have hc16 := neI hc16
    have hc17 := neI hc17
    have hc18 := neI hc18
    have hc19 := neI hc19
    have hc20 := neI hc20
    have hc21 := neI hc21
    have hc22 := neI hc22
    have hc23 := neI hc23
    have hc24 := neI hc24
    have hc25 := neI hc25
    have hc26 := neI hc26
    have hc27 := neI hc27
    have hc28 := neI hc28
    have hc29 := neI hc29
    have hc30 := neI hc30
    have hc31 := neI hc31
    have hc32 := neI hc32
    have e0 : (0 : Int32).toInt = 0 := rfl
    have e1 : (1 : Int32).toInt = 1 := rfl
    have e2 : (2 : Int32).toInt = 2 := rfl
    have e3 : (3 : Int32).toInt = 3 := rfl
    have e4 : (4 : Int32).toInt = 4 := rfl
    have e5 : (5 : Int32).toInt = 5 := rfl
    have e6 : (6 : Int32).toInt = 6 := rfl
    have e7 : (7 : Int32).toInt = 7 := rfl
    have e8 : (8 : Int32).toInt = 8 := rfl
    have e9 : (9 : Int32).toInt = 9 := rfl
    have e10 : (10 : Int32).toInt = 10 := rfl
    have e11 : (11 : Int32).toInt = 11 := rfl
    have e12 : (12 : Int32).toInt = 12 := rfl
    have e13 : (13 : Int32).toInt = 13 := rfl
    have e14 : (14 : Int32).toInt = 14 := rfl
    have e15 : (15 : Int32).toInt = 15 := rfl
    have e16 : (16 : Int32).toInt = 16 := rfl
    have e17 : (17 : Int32).toInt = 17 := rfl
    have e18 : (18 : Int32).toInt = 18 := rfl
    have e19 : (19 : Int32).toInt = 19 := rfl
    have e20 : (20 : Int32).toInt = 20 := rfl
    have e21 : (21 : Int32).toInt = 21 := rfl
    have e22 : (22 : Int32).toInt = 22 := rfl
    have e23 : (23 : Int32).toInt = 23 := rfl
    have e24 : (24 : Int32).toInt = 24 := rfl
    have e25 : (25 : Int32).toInt = 25 := rfl
    have e26 : (26 : Int32).toInt = 26 := rfl
    have e27 : (27 : Int32).toInt = 27 := rfl
    have e28 : (28 : Int32).toInt = 28 := rfl
    have e29 : (29 : Int32).toInt = 29 := rfl
    have e30 : (30 : Int32).toInt = 30 := rfl
    have e31 : (31 : Int32).toInt = 31 := rfl
    have e32 : (32 : Int32).toInt = 32 := rfl
    refine lv_tableOut (tgt := 1220) hx hb dL_law_33 (by omega) (by decide) ?_
    exact next M H locs ls hI hP hS hl
set_option maxHeartbeats 8000000 in
set_option maxRecDepth 100000 in
theorem whole_open {I : Mem → Prop} {M2 : Mem} (hz : F_X3_seekQuickest Mz = some M2) (hI0 : I (mC M2)) (hstep : ∀ (k : Nat) (a1 a2 a3 a4 a5 : Int32) (M : Mem), I M → ∃ M2, I M2 ∧ RunOp k a1 a2 a3 a4 a5 M M2) {p : Program} {e : Env} {s : State} {m : MethodId} {below : List Frame} {meth : Method} {c : Code} (l : Launch) {b L : Nat} {xs : Nat → Int32} (hL : L ≤ 3072) (C0 : lw_At p s m meth c b L xs) : W p l e room_1 s m #[Value.ref b] below meth c s.heap [] 0 0 (lw_Z below #[Value.ref b] s) (entryFrame m ([Value.ref b] : List Value).toArray 4) := by
  obtain ⟨dC, dI, cy, ad, hK, hG⟩ := law_known C0
  obtain ⟨hx, hb, hr, hml, hown, hts0, hX, hbl, hlk, hgv⟩ := id C0
  have hts : ∀ w ∈ TB, w.before #[Value.ref b] s = true := fun w h => hts0 w (TB_in h)
  have hC : CallFix p m c cL_law 4 s #[Value.ref b] TB RL := ⟨hx, hb, hml, hown, hts⟩
  have hA : ∀ q : Nat, s.heap.size ≤ q → (fun q : Nat => s.heap.size ≤ q) q := fun _ h => h
  have hAN : ∀ a : Nat, (fun q : Nat => s.heap.size ≤ q) a → s.heap.size ≤ a := fun _ h => h
  have hbA : ¬ (fun q : Nat => s.heap.size ≤ q) b := Nat.not_le.mpr hbl
  have hS : va_S (fun q : Nat => s.heap.size ≤ q) s.heap s.heap [] := va_S.rf
  have hP : va_P (dC, dI) vwCl [] s.heap := fun k q h => by simp at h
  have hD : va_D (fun q : Nat => s.heap.size ≤ q) [] := ⟨fun i j p q h => by simp at h, fun k q h => by simp at h⟩
  have hl := lv_entry ([.ref b]) (n := 4) (Nat.le_of_ble_eq_true rfl)
  rw [lg_entry_eq]
  generalize (lg_sl ([.ref b]) ++ List.replicate (4 - (lg_sl ([.ref b])).length) Slot.unset).toArray = ls at hl ⊢
  have hl : lv_has ls 4 [(0, .ref b)] := hl
  refine va_new (ci := 6) (fs := [.null, .null, .null, .null, .null, .null, .null, .int 0]) (C := RX6) (T := TX6) (N := 8) hx hb hts in_X6 tyX6 tyX6_ok hown (hts _ cl_L_7) (hts _ ni_X6) (hts _ ii_X6) hK.1 hP hD hS hA rfl (fun j hj => by rcases (show j = 0 ∨ j = 1 ∨ j = 2 ∨ j = 3 ∨ j = 4 ∨ j = 5 ∨ j = 6 ∨ j = 7 by omega) with rfl | rfl | rfl | rfl | rfl | rfl | rfl | rfl <;> rfl) (Nat.le_of_ble_eq_true rfl) (Nat.le_of_ble_eq_true rfl) dL_law_0 (fun q0 H hP hD hS => ?_)
  have hP : va_P (dC, dI) vwCl [(q0, .inr (6, [.null, .null, .null, .null, .null, .null, .null, .int 0]))] H := hP
  have hD : va_D (fun q : Nat => s.heap.size ≤ q) [(q0, .inr (6, [.null, .null, .null, .null, .null, .null, .null, .int 0]))] := hD
  refine lv_dup hx hb dL_law_3 rfl ?_
  refine cC_ (As := []) (rest := [.ref q0]) (wr := []) (post := fun u => (q0, ce (va_up u 50 q0) cy (mC M2) 50) :: wl (va_up u 50 q0) cy LsC1 (mC M2)) hC hK hG hAN hP hD hS hA (n_X6_init l dC dI cy ad s.heap.size q0 _ (hD.2 0 _ rfl) hS.1 hz) 0 rfl [] rfl (by decide) (by decide) kc_X6_init.1 lmL_9 kc_X6_init.2.1 kc_X6_init.2.2.1 kc_X6_init.2.2.2.1 kc_X6_init.2.2.2.2 ⟨Nat.le_of_ble_eq_true rfl, Nat.le_of_ble_eq_true rfl⟩ rfl hl.1 (Nat.le_of_ble_eq_true rfl) dL_law_4 ⟨Nat.le_of_ble_eq_true rfl, Nat.le_of_ble_eq_true rfl⟩ (fun u H locs hP hD hS => ?_)
  obtain ⟨qa, eqa⟩ : ∃ qa : Nat → Nat, qa = va_up u 50 q0 := ⟨_, rfl⟩
  have eq0 : qa 50 = q0 := by rw [eqa]; rfl
  have hP : va_P (dC, dI) vwCl ((qa 50, ce qa cy (mC M2) 50) :: wl qa cy LsC1 (mC M2)) H := by rw [eq0, eqa]; exact hP
  have hD : va_D (fun q : Nat => s.heap.size ≤ q) ((qa 50, ce qa cy (mC M2) 50) :: wl qa cy LsC1 (mC M2)) := by rw [eq0, eqa]; exact hD
  rw [← eq0]
  clear eq0 eqa
  refine lv_astore_n (lv' := [(1, .ref (qa 50)), (0, .ref b)]) hx hb dL_law_7 rfl hl (by decide) rfl (fun ls hl => ?_)
  refine va_new (ci := 7) (fs := [.null, .null, .int 0, .null, .null, .null, .null, .null, .int 0, .int 0, .null, .null, .null, .null, .null, .int 0, .int 0, .int 0, .int 0, .int 0, .null, .null, .null, .null, .null, .null, .null, .null, .int 0]) (C := RX7) (T := TX7) (N := 29) hx hb hts in_X7 tyX7 tyX7_ok hown (hts _ cl_L_10) (hts _ ni_X7) (hts _ ii_X7) hK.1 hP hD hS hA rfl (fun j hj => by rcases (show j = 0 ∨ j = 1 ∨ j = 2 ∨ j = 3 ∨ j = 4 ∨ j = 5 ∨ j = 6 ∨ j = 7 ∨ j = 8 ∨ j = 9 ∨ j = 10 ∨ j = 11 ∨ j = 12 ∨ j = 13 ∨ j = 14 ∨ j = 15 ∨ j = 16 ∨ j = 17 ∨ j = 18 ∨ j = 19 ∨ j = 20 ∨ j = 21 ∨ j = 22 ∨ j = 23 ∨ j = 24 ∨ j = 25 ∨ j = 26 ∨ j = 27 ∨ j = 28 by omega) with rfl | rfl | rfl | rfl | rfl | rfl | rfl | rfl | rfl | rfl | rfl | rfl | rfl | rfl | rfl | rfl | rfl | rfl | rfl | rfl | rfl | rfl | rfl | rfl | rfl | rfl | rfl | rfl | rfl <;> rfl) (Nat.le_of_ble_eq_true rfl) (Nat.le_of_ble_eq_true rfl) dL_law_8 (fun q1 H hP hD hS => ?_)
  refine lv_dup hx hb dL_law_11 rfl ?_
  refine cC_ (As := []) (rest := [.ref q1]) (wr := (qa 50, ce qa cy (mC M2) 50) :: wl qa cy LsC1 (mC M2)) (post := fun u => [(q1, .inr (7, [.ref (u 0), .ref (u 1), .int 0, .ref (u 2), .ref (u 3), .ref (u 4), .ref (u 5), .ref (u 6), .int 0, .int 0, .ref (u 7), .ref (u 8), .ref (u 9), .ref (u 10), .ref (u 11), .int 0, .int 0, .int 0, .int 0, .int 0, .ref (u 12), .ref (u 13), .ref (u 14), .ref (u 15), .ref (u 16), .ref (u 17), .ref (u 18), .ref (u 19), .int 0])), (u 0, .inl (cy 0, 36, .inl (fun _ => 0))), (u 1, .inl (cy 0, 36, .inl (fun _ => 0))), (u 2, .inl (cy 0, 10, .inl (fun _ => 0))), (u 3, .inl (cy 0, 10, .inl (fun _ => 0))), (u 4, .inl (cy 0, 10, .inl (fun _ => 0))), (u 5, .inl (cy 0, 10, .inl (fun _ => 0))), (u 6, .inl (cy 0, 10, .inl (fun _ => 0))), (u 7, .inl (cy 0, 2, .inl (fun _ => 0))), (u 8, .inl (cy 0, 80, .inl (fun _ => 0))), (u 9, .inl (cy 0, 2, .inl (fun _ => 0))), (u 10, .inl (cy 0, 8, .inl (fun _ => 0))), (u 11, .inl (cy 0, 10, .inl (fun _ => 0))), (u 12, .inl (cy 0, 10, .inl (fun _ => 0))), (u 13, .inl (cy 2, 1024, .inl (fun _ => 0))), (u 14, .inl (cy 0, 10, .inl (fun _ => 0))), (u 15, .inl (cy 2, 4, .inl (fun _ => 0))), (u 16, .inl (cy 0, 4, .inl (fun _ => 0))), (u 17, .inl (cy 0, 4, .inl (fun _ => 0))), (u 18, .inl (cy 0, 160, .inl (fun _ => 0))), (u 19, .inl (cy 0, 40, .inl (fun _ => 0)))]) hC hK hG hAN hP hD hS hA (n_X7_init l dC dI cy ad s.heap.size q1 _) 34 rfl [0, 1, 2, 3, 4, 5, 6, 7, 8, 9, 10, 11, 12, 13, 14, 15, 16, 17, 18, 19, 20, 21, 22, 23, 24, 25, 26, 27, 28, 29, 30, 31, 32, 33] rfl (by decide) (by decide) kc_X7_init.1 lmL_12 kc_X7_init.2.1 kc_X7_init.2.2.1 kc_X7_init.2.2.2.1 kc_X7_init.2.2.2.2 ⟨Nat.le_of_ble_eq_true rfl, Nat.le_of_ble_eq_true rfl⟩ rfl hl.1 (Nat.le_of_ble_eq_true rfl) dL_law_12 ⟨Nat.le_of_ble_eq_true rfl, Nat.le_of_ble_eq_true rfl⟩ (fun u2 H locs hP hD hS => ?_)
  have hP : va_P (dC, dI) vwCl (((qa 50, ce qa cy (mC M2) 50) :: wl qa cy LsC1 (mC M2)) ++ [(q1, .inr (7, [.ref (u2 0), .ref (u2 1), .int 0, .ref (u2 2), .ref (u2 3), .ref (u2 4), .ref (u2 5), .ref (u2 6), .int 0, .int 0, .ref (u2 7), .ref (u2 8), .ref (u2 9), .ref (u2 10), .ref (u2 11), .int 0, .int 0, .int 0, .int 0, .int 0, .ref (u2 12), .ref (u2 13), .ref (u2 14), .ref (u2 15), .ref (u2 16), .ref (u2 17), .ref (u2 18), .ref (u2 19), .int 0])), (u2 0, .inl (cy 0, 36, .inl (fun _ => 0))), (u2 1, .inl (cy 0, 36, .inl (fun _ => 0))), (u2 2, .inl (cy 0, 10, .inl (fun _ => 0))), (u2 3, .inl (cy 0, 10, .inl (fun _ => 0))), (u2 4, .inl (cy 0, 10, .inl (fun _ => 0))), (u2 5, .inl (cy 0, 10, .inl (fun _ => 0))), (u2 6, .inl (cy 0, 10, .inl (fun _ => 0))), (u2 7, .inl (cy 0, 2, .inl (fun _ => 0))), (u2 8, .inl (cy 0, 80, .inl (fun _ => 0))), (u2 9, .inl (cy 0, 2, .inl (fun _ => 0))), (u2 10, .inl (cy 0, 8, .inl (fun _ => 0))), (u2 11, .inl (cy 0, 10, .inl (fun _ => 0))), (u2 12, .inl (cy 0, 10, .inl (fun _ => 0))), (u2 13, .inl (cy 2, 1024, .inl (fun _ => 0))), (u2 14, .inl (cy 0, 10, .inl (fun _ => 0))), (u2 15, .inl (cy 2, 4, .inl (fun _ => 0))), (u2 16, .inl (cy 0, 4, .inl (fun _ => 0))), (u2 17, .inl (cy 0, 4, .inl (fun _ => 0))), (u2 18, .inl (cy 0, 160, .inl (fun _ => 0))), (u2 19, .inl (cy 0, 40, .inl (fun _ => 0)))]) H := hP
  have hD : va_D (fun q : Nat => s.heap.size ≤ q) (((qa 50, ce qa cy (mC M2) 50) :: wl qa cy LsC1 (mC M2)) ++ [(q1, .inr (7, [.ref (u2 0), .ref (u2 1), .int 0, .ref (u2 2), .ref (u2 3), .ref (u2 4), .ref (u2 5), .ref (u2 6), .int 0, .int 0, .ref (u2 7), .ref (u2 8), .ref (u2 9), .ref (u2 10), .ref (u2 11), .int 0, .int 0, .int 0, .int 0, .int 0, .ref (u2 12), .ref (u2 13), .ref (u2 14), .ref (u2 15), .ref (u2 16), .ref (u2 17), .ref (u2 18), .ref (u2 19), .int 0])), (u2 0, .inl (cy 0, 36, .inl (fun _ => 0))), (u2 1, .inl (cy 0, 36, .inl (fun _ => 0))), (u2 2, .inl (cy 0, 10, .inl (fun _ => 0))), (u2 3, .inl (cy 0, 10, .inl (fun _ => 0))), (u2 4, .inl (cy 0, 10, .inl (fun _ => 0))), (u2 5, .inl (cy 0, 10, .inl (fun _ => 0))), (u2 6, .inl (cy 0, 10, .inl (fun _ => 0))), (u2 7, .inl (cy 0, 2, .inl (fun _ => 0))), (u2 8, .inl (cy 0, 80, .inl (fun _ => 0))), (u2 9, .inl (cy 0, 2, .inl (fun _ => 0))), (u2 10, .inl (cy 0, 8, .inl (fun _ => 0))), (u2 11, .inl (cy 0, 10, .inl (fun _ => 0))), (u2 12, .inl (cy 0, 10, .inl (fun _ => 0))), (u2 13, .inl (cy 2, 1024, .inl (fun _ => 0))), (u2 14, .inl (cy 0, 10, .inl (fun _ => 0))), (u2 15, .inl (cy 2, 4, .inl (fun _ => 0))), (u2 16, .inl (cy 0, 4, .inl (fun _ => 0))), (u2 17, .inl (cy 0, 4, .inl (fun _ => 0))), (u2 18, .inl (cy 0, 160, .inl (fun _ => 0))), (u2 19, .inl (cy 0, 40, .inl (fun _ => 0)))]) := hD
  obtain ⟨qq, eqq⟩ : ∃ qq : Nat → Nat, qq = fun i => if i = 61 then q1 else if 22 ≤ i then (if i ≤ 41 then u2 (i - 22) else qa i) else qa i := ⟨_, rfl⟩
  have hse : va_at (dC, dI) vwCl (qa 62, .inl (cy 3, 4, .inr (.inr (.inr (.inr (fun k => some (qq (57 + k)))))))) H := by
    have h9 := hP 33 _ rfl
    refine Eq.trans h9 (congrArg some ((vp_cell_q _ _ _).trans (Eq.trans (arrV_same (fun j hj => ?_)) (vp_cell_q _ _ _).symm)))
    rw [eqq]
    match j, hj with
    | 0, _ => rfl
    | 1, _ => rfl
    | 2, _ => rfl
    | 3, _ => rfl
  have hP := hP.set (p := 33) hD rfl hse (fun _ _ => rfl)
  have hD := hD.set (p := 33) (e := .inl (cy 3, 4, .inr (.inr (.inr (.inr (fun k => some (qq (57 + k)))))))) rfl
  have hP9 := hP.sub (ws' := wl qq cy LsF (mC M2)) [1, 2, 3, 4, 5, 6, 7, 8, 9, 10, 11, 12, 13, 14, 15, 16, 17, 18, 19, 20, 21, 22, 35, 36, 37, 38, 39, 40, 41, 42, 43, 44, 45, 46, 47, 48, 49, 50, 51, 52, 53, 54, 0, 23, 24, 25, 26, 27, 28, 29, 30, 31, 32, 34, 33] (by rw [eqq]; rfl)
  have hD9 := hD.sub (ws' := wl qq cy LsF (mC M2)) [1, 2, 3, 4, 5, 6, 7, 8, 9, 10, 11, 12, 13, 14, 15, 16, 17, 18, 19, 20, 21, 22, 35, 36, 37, 38, 39, 40, 41, 42, 43, 44, 45, 46, 47, 48, 49, 50, 51, 52, 53, 54, 0, 23, 24, 25, 26, 27, 28, 29, 30, 31, 32, 34, 33] (by decide) (by rw [eqq]; rfl)
  have e50 : qa 50 = qq 50 := by rw [eqq]; rfl
  have e61 : q1 = qq 61 := by rw [eqq]; rfl
  refine lv_astore_n (lv' := [(2, .ref q1), (1, .ref (qa 50)), (0, .ref b)]) hx hb dL_law_15 rfl hl (by decide) rfl (fun ls hl => ?_)
  refine lv_iconst (v := 0) hx hb dL_law_16 (by decide) ?_
  refine lv_istore_n (lv' := [(3, .int 0), (2, .ref q1), (1, .ref (qa 50)), (0, .ref b)]) hx hb dL_law_17 rfl hl (by decide) rfl (fun ls hl => ?_)
  have hl := lv_sub hl [3, 2, 1, 0] rfl
  rw [e50, e61] at hl
  refine W.widen (k := 600000) (n := 7302250) (Nat.le_of_ble_eq_true rfl) (Nat.le_of_ble_eq_true rfl) ?_
  have hAG : ∀ a, AG (qq, dC, dI, cy, LsF, ad.1, ad.2) a → s.heap.size ≤ a := by
    intro a ha
    obtain ⟨i, hi, rfl⟩ := ha
    obtain ⟨k, -, hk⟩ := wl_get (q := qq) (cy := cy) (M := mC M2) hi
    exact hD9.2 k _ hk
  exact law_loop hstep (G := (qq, dC, dI, cy, LsF, ad.1, ad.2)) hL hr hlk hC ⟨hK.1, hK.2.1, hK.2.2.1, ND_F, wl_inj hD9⟩ hAG (fun H locs hS => by
    have h := hG.kept (H1 := H) (fun a h1 h2 => hS.2.1 a h1 h2)
    exact ⟨h.1.narrow (fun q hq => hAG q hq), h.2.1.narrow (fun q hq => hAG q hq), h.2.2.1.narrow (fun q hq => hAG q hq), h.2.2.2⟩) (fun i h => h) hX hbl hbA (L + 7) 0 0 (Nat.zero_le _) (by omega) nI_0.symm (mC M2) _ _ ls hI0 hP9 hS hl
