/-! facts that the walks name -/
theorem subR : ∀ i ∈ LsR, i ∈ LsF := by decide
theorem mL {j : Nat} (h : j < 2) : 53 + j ∈ LsF := by
  match j, h with
  | 0, _ => decide
  | 1, _ => decide
theorem mT {j : Nat} (h : j < 2) : 12 + j ∈ LsF := by
  match j, h with
  | 0, _ => decide
  | 1, _ => decide
theorem mS {j : Nat} (h : j < 4) : 57 + j ∈ LsF := by
  match j, h with
  | 0, _ => decide
  | 1, _ => decide
  | 2, _ => decide
  | 3, _ => decide
theorem mI {j : Nat} (h : j < 4) : 18 + j ∈ LsF := by
  match j, h with
  | 0, _ => decide
  | 1, _ => decide
  | 2, _ => decide
  | 3, _ => decide
theorem kT {j : Nat} (h : j < 2) : 12 + j < 50 ∧ ak (12 + j) = 0 := by
  match j, h with
  | 0, _ => decide
  | 1, _ => decide
theorem kI {j : Nat} (h : j < 4) : 18 + j < 50 ∧ ak (18 + j) = 0 := by
  match j, h with
  | 0, _ => decide
  | 1, _ => decide
  | 2, _ => decide
  | 3, _ => decide
theorem ix4 {i : Int32} (h : ix i 4 = true) : i.toNatClampNeg < 4 := Nat.not_le.mp fun q => ix_in h (Or.inr q)
section CEX
variable {q : Nat → Nat} {cy : Nat → ClassId} {M : Mem} {x : Int32} {j : Nat}
theorem ceL (h : j < 2) : ce q cy M (53 + j) = .inr (2, [.ref (q (12 + j)), .int (M.1 (10 + 6 * j)), .int (M.1 (10 + 6 * j + 1)), .int (M.1 (10 + 6 * j + 2)), .int (M.1 (10 + 6 * j + 3)), .int (M.1 (10 + 6 * j + 4)), .int (M.1 (10 + 6 * j + 5))]) := by
  match j, h with
  | 0, _ => rfl
  | 1, _ => rfl
theorem ceS (h : j < 4) : ce q cy M (57 + j) = .inr (4, [.ref (q (18 + j)), .int (M.1 (22 + 3 * j)), .int (M.1 (22 + 3 * j + 1)), .int (M.1 (22 + 3 * j + 2))]) := by
  match j, h with
  | 0, _ => rfl
  | 1, _ => rfl
  | 2, _ => rfl
  | 3, _ => rfl
theorem owL0 (h : j < 2) : ow (10 + 6 * j) = 53 + j := by
  match j, h with
  | 0, _ => rfl
  | 1, _ => rfl
theorem owL1 (h : j < 2) : ow (10 + 6 * j + 1) = 53 + j := by
  match j, h with
  | 0, _ => rfl
  | 1, _ => rfl
theorem owL2 (h : j < 2) : ow (10 + 6 * j + 2) = 53 + j := by
  match j, h with
  | 0, _ => rfl
  | 1, _ => rfl
theorem owL3 (h : j < 2) : ow (10 + 6 * j + 3) = 53 + j := by
  match j, h with
  | 0, _ => rfl
  | 1, _ => rfl
theorem owL4 (h : j < 2) : ow (10 + 6 * j + 4) = 53 + j := by
  match j, h with
  | 0, _ => rfl
  | 1, _ => rfl
theorem owL5 (h : j < 2) : ow (10 + 6 * j + 5) = 53 + j := by
  match j, h with
  | 0, _ => rfl
  | 1, _ => rfl
theorem owS0 (h : j < 4) : ow (22 + 3 * j) = 57 + j := by
  match j, h with
  | 0, _ => rfl
  | 1, _ => rfl
  | 2, _ => rfl
  | 3, _ => rfl
theorem owS1 (h : j < 4) : ow (22 + 3 * j + 1) = 57 + j := by
  match j, h with
  | 0, _ => rfl
  | 1, _ => rfl
  | 2, _ => rfl
  | 3, _ => rfl
theorem owS2 (h : j < 4) : ow (22 + 3 * j + 2) = 57 + j := by
  match j, h with
  | 0, _ => rfl
  | 1, _ => rfl
  | 2, _ => rfl
  | 3, _ => rfl
theorem seL0 (h : j < 2) : ce q cy (sv M (10 + 6 * j) x) (53 + j) = .inr (2, [.ref (q (12 + j)), .int x, .int (M.1 (10 + 6 * j + 1)), .int (M.1 (10 + 6 * j + 2)), .int (M.1 (10 + 6 * j + 3)), .int (M.1 (10 + 6 * j + 4)), .int (M.1 (10 + 6 * j + 5))]) := by
  match j, h with
  | 0, _ => rfl
  | 1, _ => rfl
theorem seL1 (h : j < 2) : ce q cy (sv M (10 + 6 * j + 1) x) (53 + j) = .inr (2, [.ref (q (12 + j)), .int (M.1 (10 + 6 * j)), .int x, .int (M.1 (10 + 6 * j + 2)), .int (M.1 (10 + 6 * j + 3)), .int (M.1 (10 + 6 * j + 4)), .int (M.1 (10 + 6 * j + 5))]) := by
  match j, h with
  | 0, _ => rfl
  | 1, _ => rfl
theorem seL2 (h : j < 2) : ce q cy (sv M (10 + 6 * j + 2) x) (53 + j) = .inr (2, [.ref (q (12 + j)), .int (M.1 (10 + 6 * j)), .int (M.1 (10 + 6 * j + 1)), .int x, .int (M.1 (10 + 6 * j + 3)), .int (M.1 (10 + 6 * j + 4)), .int (M.1 (10 + 6 * j + 5))]) := by
  match j, h with
  | 0, _ => rfl
  | 1, _ => rfl
theorem seL3 (h : j < 2) : ce q cy (sv M (10 + 6 * j + 3) x) (53 + j) = .inr (2, [.ref (q (12 + j)), .int (M.1 (10 + 6 * j)), .int (M.1 (10 + 6 * j + 1)), .int (M.1 (10 + 6 * j + 2)), .int x, .int (M.1 (10 + 6 * j + 4)), .int (M.1 (10 + 6 * j + 5))]) := by
  match j, h with
  | 0, _ => rfl
  | 1, _ => rfl
theorem seL4 (h : j < 2) : ce q cy (sv M (10 + 6 * j + 4) x) (53 + j) = .inr (2, [.ref (q (12 + j)), .int (M.1 (10 + 6 * j)), .int (M.1 (10 + 6 * j + 1)), .int (M.1 (10 + 6 * j + 2)), .int (M.1 (10 + 6 * j + 3)), .int x, .int (M.1 (10 + 6 * j + 5))]) := by
  match j, h with
  | 0, _ => rfl
  | 1, _ => rfl
theorem seL5 (h : j < 2) : ce q cy (sv M (10 + 6 * j + 5) x) (53 + j) = .inr (2, [.ref (q (12 + j)), .int (M.1 (10 + 6 * j)), .int (M.1 (10 + 6 * j + 1)), .int (M.1 (10 + 6 * j + 2)), .int (M.1 (10 + 6 * j + 3)), .int (M.1 (10 + 6 * j + 4)), .int x]) := by
  match j, h with
  | 0, _ => rfl
  | 1, _ => rfl
theorem seS0 (h : j < 4) : ce q cy (sv M (22 + 3 * j) x) (57 + j) = .inr (4, [.ref (q (18 + j)), .int x, .int (M.1 (22 + 3 * j + 1)), .int (M.1 (22 + 3 * j + 2))]) := by
  match j, h with
  | 0, _ => rfl
  | 1, _ => rfl
  | 2, _ => rfl
  | 3, _ => rfl
theorem seS1 (h : j < 4) : ce q cy (sv M (22 + 3 * j + 1) x) (57 + j) = .inr (4, [.ref (q (18 + j)), .int (M.1 (22 + 3 * j)), .int x, .int (M.1 (22 + 3 * j + 2))]) := by
  match j, h with
  | 0, _ => rfl
  | 1, _ => rfl
  | 2, _ => rfl
  | 3, _ => rfl
theorem seS2 (h : j < 4) : ce q cy (sv M (22 + 3 * j + 2) x) (57 + j) = .inr (4, [.ref (q (18 + j)), .int (M.1 (22 + 3 * j)), .int (M.1 (22 + 3 * j + 1)), .int x]) := by
  match j, h with
  | 0, _ => rfl
  | 1, _ => rfl
  | 2, _ => rfl
  | 3, _ => rfl
end CEX
def CVt (y : MethodName) (bytes : ByteArray) (maxL : Nat) (ret : Option FieldType) (C : String) (n : Nat) : Prop := .code y bytes maxL ret ∈ TB ∧ .instanceMethod y ∈ TB ∧ .selects C y y ∈ TB ∧ .initialized C ∈ TB ∧ (y.cls = C ∧ y.cls ≠ "java/lang/invoke/MethodHandle" ∧ y.cls ≠ "java/lang/invoke/VarHandle" ∧ (parseMethodDescriptor y.desc).map (fun d => d.parameters.length) = some n)
def CSt (y : MethodName) (bytes : ByteArray) (maxL : Nat) (ret : Option FieldType) (n : Nat) : Prop := .code y bytes maxL ret ∈ TB ∧ .static y ∈ TB ∧ .initialized y.cls ∈ TB ∧ (y.cls ≠ "java/lang/invoke/MethodHandle" ∧ y.cls ≠ "java/lang/invoke/VarHandle" ∧ (parseMethodDescriptor y.desc).map (fun d => d.parameters.length) = some n)
/-- a copy between rows may be -/
def cpok (sp : Int32) (n0 : Nat) (dp : Int32) (n1 : Nat) (n : Int32) : Bool := !(decide (sp < 0)) && (!(decide (dp < 0)) && (!(decide (n < 0)) && (decide (sp.toNatClampNeg + n.toNatClampNeg ≤ n0) && decide (dp.toNatClampNeg + n.toNatClampNeg ≤ n1))))
/-- a truth value -/
def zb (x : Int32) : Bool := decide (x = 0) || decide (x = 1)
theorem zb_n {x : Int32} (h : zb x = true) : narrow .boolean (.int x) = .int x := by
  unfold zb at h
  rcases Bool.or_eq_true _ _ ▸ h with h | h
  · have h := of_decide_eq_true h
    subst h
    rfl
  · have h := of_decide_eq_true h
    subst h
    rfl
def chb (x : Int32) : Bool := decide ((x.toUInt32 % 65536).toInt32 = x)
theorem chb_n {x : Int32} (h : chb x = true) : narrow .char (.int x) = .int x := by
  have h := of_decide_eq_true h
  rw [← h]
  exact pk_nc x
def byb (x : Int32) : Bool := decide (x.toInt8.toInt32 = x)
theorem byb_n {x : Int32} (h : byb x = true) : narrow .byte (.int x) = .int x := by
  have h := of_decide_eq_true h
  rw [← h]
  exact pk_nb x
theorem neI {x : Int32} {k : Int32} (h : ¬ x = k) : ¬ x.toInt = k.toInt := fun e => h (Int32.toInt_inj.mp e)
section WC
variable {p : Program} {l : Launch} {e : Env} {R : Room} {s : State} {m : MethodId} {args : Array Value} {below : List Frame} {meth : Method} {c : Code} {H : Heap} {locs : List Loc} {cells slots : Nat} {Q : State → Prop} {pc : Nat} {ls : Array Slot} {rest st1 : List Value} {cc : ByteArray} {nL : Nat} {own : String} {G : GT} {M M' : Mem}
theorem cV_ (hC : SX p m c s args cc nL own G (AG G)) (hS : ST G (AG G) s M H locs) {C : String} {T : u_T} {y : MethodName} {bytes : ByteArray} {maxL fr lo n idx ci i N : Nat} {ret : Option FieldType} {As fs : List Value} {v : Option Value} (hi : i ∈ gL G) (he : ce G.1 (gY G) M i = .inr (ci, fs)) (hcl : vwCl[ci]? = some (C, T, N)) (hM : MetG l G y bytes maxL ret fr lo (.ref (G.1 i) :: As) M v M') (hk : CVt y bytes maxL ret C n) (hml : .methodLink own idx y ∈ TB) (hR : fr + 1 ≤ R.frames ∧ 8 + (maxL + 11) + lo ≤ R.locals) (hn : As.length = n) (hsize : ls.size = nL) (hW : (rest.map fun v => v.category).sum ≤ 8) (hdg : decode cc pc = .ok (.invokevirtual idx, 3)) (hf : cells + 0 ≤ R.cells ∧ slots + 0 ≤ R.slots) (hst : v.toList ++ rest = st1) (kk : ∀ (H1 : Heap) (locs1 : List Loc), ST G (AG G) s M' H1 locs1 → W p l e R s m args below meth c H1 locs1 cells slots Q (F0 m (pc + 3) ls st1)) : W p l e R s m args below meth c H locs cells slots Q (F0 m pc ls (As.reverse ++ .ref (G.1 i) :: rest)) := by
  subst hst
  exact cV hC hS hi he hcl hM hk.1 hml hk.2.1 hk.2.2.1 hk.2.2.2.1 hk.2.2.2.2 hR hn hsize hW hdg hf kk
theorem cN_ (hC : SX p m c s args cc nL own G (AG G)) (hS : ST G (AG G) s M H locs) {C host : String} {T : u_T} {y : MethodName} {bytes : ByteArray} {maxL fr lo n idx ci i N : Nat} {ret : Option FieldType} {As fs : List Value} {v : Option Value} (hi : i ∈ gL G) (he : ce G.1 (gY G) M i = .inr (ci, fs)) (hcl : vwCl[ci]? = some (C, T, N)) (hM : MetG l G y bytes maxL ret fr lo (.ref (G.1 i) :: As) M v M') (hk : CVt y bytes maxL ret C n) (hml : (own, idx, y, host) ∈ nwM) (hR : fr + 1 ≤ R.frames ∧ 8 + (maxL + 11) + lo ≤ R.locals) (hn : As.length = n) (hsize : ls.size = nL) (hW : (rest.map fun v => v.category).sum ≤ 8) (hdg : decode cc pc = .ok (.invokevirtual idx, 3)) (hf : cells + 0 ≤ R.cells ∧ slots + 0 ≤ R.slots) (hst : v.toList ++ rest = st1) (kk : ∀ (H1 : Heap) (locs1 : List Loc), ST G (AG G) s M' H1 locs1 → W p l e R s m args below meth c H1 locs1 cells slots Q (F0 m (pc + 3) ls st1)) : W p l e R s m args below meth c H locs cells slots Q (F0 m pc ls (As.reverse ++ .ref (G.1 i) :: rest)) := by
  subst hst
  obtain ⟨k1, k2, k3, k4, k5, k6⟩ := hk
  subst k5
  exact cVN hC hS hi he hcl hM k1 hml k2 k3 k4 k6 hR hn hsize hW hdg hf kk
theorem cS_ (hC : SX p m c s args cc nL own G (AG G)) (hS : ST G (AG G) s M H locs) {y : MethodName} {bytes : ByteArray} {maxL fr lo n idx : Nat} {ret : Option FieldType} {As : List Value} {v : Option Value} (hM : MetG l G y bytes maxL ret fr lo As M v M') (hk : CSt y bytes maxL ret n) (hml : .methodLink own idx y ∈ TB) (hR : fr + 1 ≤ R.frames ∧ 8 + (maxL + 11) + lo ≤ R.locals) (hn : As.length = n) (hsize : ls.size = nL) (hW : (rest.map fun v => v.category).sum ≤ 8) (hdg : decode cc pc = .ok (.invokestatic idx, 3)) (hf : cells + 0 ≤ R.cells ∧ slots + 0 ≤ R.slots) (hst : v.toList ++ rest = st1) (kk : ∀ (H1 : Heap) (locs1 : List Loc), ST G (AG G) s M' H1 locs1 → W p l e R s m args below meth c H1 locs1 cells slots Q (F0 m (pc + 3) ls st1)) : W p l e R s m args below meth c H locs cells slots Q (F0 m pc ls (As.reverse ++ rest)) := by
  subst hst
  exact cS hC hS hM hk.1 hml hk.2.1 hk.2.2.1 hk.2.2.2 hR hn hsize hW hdg hf kk
theorem cT_ (hC : SX p m c s args cc nL own G (AG G)) (hS : ST G (AG G) s M H locs) {y : MethodName} {bytes : ByteArray} {maxL fr lo n idx i : Nat} {ret : Option FieldType} {As : List Value} {v : Option Value} (hi : i < 3) (hM : MetG l G y bytes maxL ret fr lo (.ref (G.2.2.2.2.2.1 i) :: As) M v M') (hk : CVt y bytes maxL ret RJ0 n) (hml : .methodLink own idx y ∈ TB) (hR : fr + 1 ≤ R.frames ∧ 8 + (maxL + 11) + lo ≤ R.locals) (hn : As.length = n) (hsize : ls.size = nL) (hW : (rest.map fun v => v.category).sum ≤ 8) (hdg : decode cc pc = .ok (.invokevirtual idx, 3)) (hf : cells + 0 ≤ R.cells ∧ slots + 0 ≤ R.slots) (hst : v.toList ++ rest = st1) (kk : ∀ (H1 : Heap) (locs1 : List Loc), ST G (AG G) s M' H1 locs1 → W p l e R s m args below meth c H1 locs1 cells slots Q (F0 m (pc + 3) ls st1)) : W p l e R s m args below meth c H locs cells slots Q (F0 m pc ls (As.reverse ++ .ref (G.2.2.2.2.2.1 i) :: rest)) := by
  subst hst
  obtain ⟨k1, k2, k3, k4, k5⟩ := hk
  have hg : GoodIn TB (wsV own idx RJ0 y (.code y bytes maxL ret :: TB)) := by
    intro w hw
    rcases List.mem_append.mp hw with h | h
    · have hT : w ∈ TB := by
        simp only [List.mem_cons, List.not_mem_nil, or_false] at h
        rcases h with rfl | rfl | rfl | rfl
        · exact hml
        · exact k2
        · exact k3
        · exact k4
      exact ⟨hT, good_of_word (TB_good hT)⟩
    · exact gin (own := own) (C := RJ0) (idx := idx) k1 w h
  exact rung (fun _ h => h) (va_runV (C := RJ0) (g := F0 m pc ls (As.reverse ++ .ref (G.2.2.2.2.2.1 i) :: rest)) hC.1 hM (cwV n hC.1.2.2.2.2 hg rfl rfl rfl k5 hR) ⟨PR_blind _ _ _, vk_recv hC.2.2.1.1 hi hS.2, preV_of hC hS rfl⟩ rfl hn hsize rfl (lv_room hW) hdg hf) hS kk
theorem alen_ (hC : SX p m c s args cc nL own G (AG G)) (hS : ST G (AG G) s M H locs) {a : Nat} (hi : a ∈ gL G) (ha : a < 50) (hkd : ak a = 0) (hdg : decode cc pc = .ok (.arraylength, 1)) (kk : W p l e R s m args below meth c H locs cells slots Q (F0 m (pc + 1) ls (.int (Int32.ofNat (al a)) :: rest))) : W p l e R s m args below meth c H locs cells slots Q (F0 m pc ls (.ref (G.1 a) :: rest)) := by
  obtain ⟨⟨hx, hb, hml, hown, hts⟩, hK, -, -⟩ := hC
  obtain ⟨j, hj, hw⟩ := hS.1.at hi
  rw [ce_a ha, hkd] at hw
  exact va_alen hx hb hK.1 hS.1 j 0 hw (ty := .int) rfl rfl hdg kk
theorem acN : Cond.native arraycopyName ∈ TB := TB_of (List.mem_of_getElem? (i := 659) (by decide +kernel)) rfl
theorem acS : Cond.static arraycopyName ∈ TB := TB_of (List.mem_of_getElem? (i := 658) (by decide +kernel)) rfl
theorem acI : Cond.initialized "java/lang/System" ∈ TB := TB_of (List.mem_of_getElem? (i := 17) (by decide +kernel)) rfl
theorem cpy_ (hC : SX p m c s args cc nL own G (AG G)) (hS : ST G (AG G) s M H locs) {a b idx : Nat} {sp dp n : Int32} (hml : .methodLink own idx arraycopyName ∈ TB) (hi : a ∈ gL G) (ha : a < 50) (hkd : ak a = 0) (hi2 : b ∈ gL G) (ha2 : b < 50) (hkd2 : ak b = 0) (hok : cpok sp (al a) dp (al b) n = true) (hfr : 1 ≤ R.frames) (hlo : (rest.map fun v => v.category).sum + (nativeFrameWords "java/lang/System" "arraycopy" 5 + 11) ≤ R.locals) (hsize : ls.size = nL) (hdg : decode cc pc = .ok (.invokestatic idx, 3)) (kk : ∀ (H1 : Heap) (locs1 : List Loc), ST G (AG G) s (sr M b (va_cpy (M.2 a) (M.2 b) sp.toNatClampNeg dp.toNatClampNeg n.toNatClampNeg)) H1 locs1 → W p l e R s m args below meth c H1 locs1 cells slots Q (F0 m (pc + 3) ls rest)) : W p l e R s m args below meth c H locs cells slots Q (F0 m pc ls (.int n :: .int dp :: .ref (G.1 b) :: .int sp :: .ref (G.1 a) :: rest)) := by
  obtain ⟨⟨hx, hb, hml2, hown, hts⟩, hK, -, hA⟩ := hC
  obtain ⟨j, hj, hw⟩ := hS.1.at hi
  obtain ⟨j2, hj2, hw2⟩ := hS.1.at hi2
  rw [ce_a ha, hkd] at hw
  rw [ce_a ha2, hkd2] at hw2
  unfold cpok at hok
  simp only [Bool.and_eq_true, Bool.not_eq_true', decide_eq_false_iff_not, decide_eq_true_eq] at hok
  refine va_copyi hx hb (hml2.trans hsize.symm) hown (hts _ hml) (hts _ acN) (hts _ acS) (hts _ acI) hK.1 hS.1 (wl_D M hK.2.2.2.1 hK.2.2.2.2 hA) hS.2 j j2 0 0 hw hw2 rfl rfl rfl hok.1 hok.2.1 hok.2.2.1 hok.2.2.2.1 hok.2.2.2.2 (fun _ _ => rfl) hfr hlo hdg (fun H1 locs1 hP hD hS1 => ?_)
  rw [wl_set (M' := sr M b (va_cpy (M.2 a) (M.2 b) sp.toNatClampNeg dp.toNatClampNeg n.toNatClampNeg)) hK.2.2.2.1 hj2 (by rw [ce_a ha2, hkd2]; simp only [sr, va_up, if_true]) (fun j' hj' => ce_sr j' hj')] at hP
  exact kk H1 locs1 ⟨hP, hS1⟩
end WC

theorem tOut0_2 {x : Int32} (h0 : ¬ x.toInt = (0 : Int32).toInt) (h1 : ¬ x.toInt = (1 : Int32).toInt) (h2 : ¬ x.toInt = (2 : Int32).toInt) : x.toInt < 0 ∨ 2 < x.toInt := by
  have e0 : (0 : Int32).toInt = 0 := rfl
  have e1 : (1 : Int32).toInt = 1 := rfl
  have e2 : (2 : Int32).toInt = 2 := rfl
  omega
theorem tOut0_3 {x : Int32} (h0 : ¬ x.toInt = (0 : Int32).toInt) (h1 : ¬ x.toInt = (1 : Int32).toInt) (h2 : ¬ x.toInt = (2 : Int32).toInt) (h3 : ¬ x.toInt = (3 : Int32).toInt) : x.toInt < 0 ∨ 3 < x.toInt := by
  have e0 : (0 : Int32).toInt = 0 := rfl
  have e1 : (1 : Int32).toInt = 1 := rfl
  have e2 : (2 : Int32).toInt = 2 := rfl
  have e3 : (3 : Int32).toInt = 3 := rfl
  omega
theorem tOut0_5 {x : Int32} (h0 : ¬ x.toInt = (0 : Int32).toInt) (h1 : ¬ x.toInt = (1 : Int32).toInt) (h2 : ¬ x.toInt = (2 : Int32).toInt) (h3 : ¬ x.toInt = (3 : Int32).toInt) (h4 : ¬ x.toInt = (4 : Int32).toInt) (h5 : ¬ x.toInt = (5 : Int32).toInt) : x.toInt < 0 ∨ 5 < x.toInt := by
  have e0 : (0 : Int32).toInt = 0 := rfl
  have e1 : (1 : Int32).toInt = 1 := rfl
  have e2 : (2 : Int32).toInt = 2 := rfl
  have e3 : (3 : Int32).toInt = 3 := rfl
  have e4 : (4 : Int32).toInt = 4 := rfl
  have e5 : (5 : Int32).toInt = 5 := rfl
  omega
theorem tOut0_6 {x : Int32} (h0 : ¬ x.toInt = (0 : Int32).toInt) (h1 : ¬ x.toInt = (1 : Int32).toInt) (h2 : ¬ x.toInt = (2 : Int32).toInt) (h3 : ¬ x.toInt = (3 : Int32).toInt) (h4 : ¬ x.toInt = (4 : Int32).toInt) (h5 : ¬ x.toInt = (5 : Int32).toInt) (h6 : ¬ x.toInt = (6 : Int32).toInt) : x.toInt < 0 ∨ 6 < x.toInt := by
  have e0 : (0 : Int32).toInt = 0 := rfl
  have e1 : (1 : Int32).toInt = 1 := rfl
  have e2 : (2 : Int32).toInt = 2 := rfl
  have e3 : (3 : Int32).toInt = 3 := rfl
  have e4 : (4 : Int32).toInt = 4 := rfl
  have e5 : (5 : Int32).toInt = 5 := rfl
  have e6 : (6 : Int32).toInt = 6 := rfl
  omega
theorem tOut0_8 {x : Int32} (h0 : ¬ x.toInt = (0 : Int32).toInt) (h1 : ¬ x.toInt = (1 : Int32).toInt) (h2 : ¬ x.toInt = (2 : Int32).toInt) (h3 : ¬ x.toInt = (3 : Int32).toInt) (h4 : ¬ x.toInt = (4 : Int32).toInt) (h5 : ¬ x.toInt = (5 : Int32).toInt) (h6 : ¬ x.toInt = (6 : Int32).toInt) (h7 : ¬ x.toInt = (7 : Int32).toInt) (h8 : ¬ x.toInt = (8 : Int32).toInt) : x.toInt < 0 ∨ 8 < x.toInt := by
  have e0 : (0 : Int32).toInt = 0 := rfl
  have e1 : (1 : Int32).toInt = 1 := rfl
  have e2 : (2 : Int32).toInt = 2 := rfl
  have e3 : (3 : Int32).toInt = 3 := rfl
  have e4 : (4 : Int32).toInt = 4 := rfl
  have e5 : (5 : Int32).toInt = 5 := rfl
  have e6 : (6 : Int32).toInt = 6 := rfl
  have e7 : (7 : Int32).toInt = 7 := rfl
  have e8 : (8 : Int32).toInt = 8 := rfl
  omega
theorem tOut99_103 {x : Int32} (h99 : ¬ x.toInt = (99 : Int32).toInt) (h100 : ¬ x.toInt = (100 : Int32).toInt) (h101 : ¬ x.toInt = (101 : Int32).toInt) (h102 : ¬ x.toInt = (102 : Int32).toInt) (h103 : ¬ x.toInt = (103 : Int32).toInt) : x.toInt < 99 ∨ 103 < x.toInt := by
  have e99 : (99 : Int32).toInt = 99 := rfl
  have e100 : (100 : Int32).toInt = 100 := rfl
  have e101 : (101 : Int32).toInt = 101 := rfl
  have e102 : (102 : Int32).toInt = 102 := rfl
  have e103 : (103 : Int32).toInt = 103 := rfl
  omega
theorem in_X0 : ∀ w ∈ u_ws RX0 TX0 6, w ∈ TB := by decide +kernel
theorem in_X1 : ∀ w ∈ u_ws RX1 TX1 4, w ∈ TB := by decide +kernel
theorem in_X2 : ∀ w ∈ u_ws RX2 TX2 7, w ∈ TB := by decide +kernel
theorem in_X3 : ∀ w ∈ u_ws RX3 TX3 2, w ∈ TB := by decide +kernel
theorem in_X4 : ∀ w ∈ u_ws RX4 TX4 4, w ∈ TB := by decide +kernel
theorem in_X5 : ∀ w ∈ u_ws RX5 TX5 13, w ∈ TB := by decide +kernel
theorem in_X6 : ∀ w ∈ u_ws RX6 TX6 8, w ∈ TB := by decide +kernel
theorem in_X7 : ∀ w ∈ u_ws RX7 TX7 29, w ∈ TB := by decide +kernel
theorem se_X0_5 {q : Nat → Nat} {cy : Nat → ClassId} {M : Mem} {x : Int32} : ce q cy (sv M 6 x) 56 = .inr (0, [.ref (q 52), .ref (q 14), .ref (q 15), .ref (q 16), .ref (q 17), .int x]) := rfl
theorem se_X1_1 {q : Nat → Nat} {cy : Nat → ClassId} {M : Mem} {x : Int32} : ce q cy (sv M 3 x) 55 = .inr (1, [.ref (q 52), .int x, .int (M.1 4), .int (M.1 5)]) := rfl
theorem se_X1_2 {q : Nat → Nat} {cy : Nat → ClassId} {M : Mem} {x : Int32} : ce q cy (sv M 4 x) 55 = .inr (1, [.ref (q 52), .int (M.1 3), .int x, .int (M.1 5)]) := rfl
theorem se_X1_3 {q : Nat → Nat} {cy : Nat → ClassId} {M : Mem} {x : Int32} : ce q cy (sv M 5 x) 55 = .inr (1, [.ref (q 52), .int (M.1 3), .int (M.1 4), .int x]) := rfl
theorem se_X5_10 {q : Nat → Nat} {cy : Nat → ClassId} {M : Mem} {x : Int32} : ce q cy (sv M 0 x) 52 = .inr (5, [.ref (q 2), .ref (q 3), .ref (q 4), .ref (q 5), .ref (q 6), .ref (q 7), .ref (q 8), .ref (q 9), .ref (q 10), .ref (q 11), .int x, .int (M.1 1), .int (M.1 2)]) := rfl
theorem se_X5_11 {q : Nat → Nat} {cy : Nat → ClassId} {M : Mem} {x : Int32} : ce q cy (sv M 1 x) 52 = .inr (5, [.ref (q 2), .ref (q 3), .ref (q 4), .ref (q 5), .ref (q 6), .ref (q 7), .ref (q 8), .ref (q 9), .ref (q 10), .ref (q 11), .int (M.1 0), .int x, .int (M.1 2)]) := rfl
theorem se_X5_12 {q : Nat → Nat} {cy : Nat → ClassId} {M : Mem} {x : Int32} : ce q cy (sv M 2 x) 52 = .inr (5, [.ref (q 2), .ref (q 3), .ref (q 4), .ref (q 5), .ref (q 6), .ref (q 7), .ref (q 8), .ref (q 9), .ref (q 10), .ref (q 11), .int (M.1 0), .int (M.1 1), .int x]) := rfl
theorem se_X6_7 {q : Nat → Nat} {cy : Nat → ClassId} {M : Mem} {x : Int32} : ce q cy (sv M 7 x) 50 = .inr (6, [.ref (q 51), .ref (q 52), .ref (q 53), .ref (q 54), .ref (q 62), .ref (q 55), .ref (q 56), .int x]) := rfl
theorem se_X7_2 {q : Nat → Nat} {cy : Nat → ClassId} {M : Mem} {x : Int32} : ce q cy (sv M 40 x) 61 = .inr (7, [.ref (q 22), .ref (q 23), .int x, .ref (q 24), .ref (q 25), .ref (q 26), .ref (q 27), .ref (q 28), .int (M.1 41), .int (M.1 42), .ref (q 29), .ref (q 30), .ref (q 31), .ref (q 32), .ref (q 33), .int (M.1 43), .int (M.1 44), .int (M.1 45), .int (M.1 46), .int (M.1 47), .ref (q 34), .ref (q 35), .ref (q 36), .ref (q 37), .ref (q 38), .ref (q 39), .ref (q 40), .ref (q 41), .int (M.1 48)]) := rfl
theorem se_X7_8 {q : Nat → Nat} {cy : Nat → ClassId} {M : Mem} {x : Int32} : ce q cy (sv M 41 x) 61 = .inr (7, [.ref (q 22), .ref (q 23), .int (M.1 40), .ref (q 24), .ref (q 25), .ref (q 26), .ref (q 27), .ref (q 28), .int x, .int (M.1 42), .ref (q 29), .ref (q 30), .ref (q 31), .ref (q 32), .ref (q 33), .int (M.1 43), .int (M.1 44), .int (M.1 45), .int (M.1 46), .int (M.1 47), .ref (q 34), .ref (q 35), .ref (q 36), .ref (q 37), .ref (q 38), .ref (q 39), .ref (q 40), .ref (q 41), .int (M.1 48)]) := rfl
theorem se_X7_9 {q : Nat → Nat} {cy : Nat → ClassId} {M : Mem} {x : Int32} : ce q cy (sv M 42 x) 61 = .inr (7, [.ref (q 22), .ref (q 23), .int (M.1 40), .ref (q 24), .ref (q 25), .ref (q 26), .ref (q 27), .ref (q 28), .int (M.1 41), .int x, .ref (q 29), .ref (q 30), .ref (q 31), .ref (q 32), .ref (q 33), .int (M.1 43), .int (M.1 44), .int (M.1 45), .int (M.1 46), .int (M.1 47), .ref (q 34), .ref (q 35), .ref (q 36), .ref (q 37), .ref (q 38), .ref (q 39), .ref (q 40), .ref (q 41), .int (M.1 48)]) := rfl
theorem se_X7_15 {q : Nat → Nat} {cy : Nat → ClassId} {M : Mem} {x : Int32} : ce q cy (sv M 43 x) 61 = .inr (7, [.ref (q 22), .ref (q 23), .int (M.1 40), .ref (q 24), .ref (q 25), .ref (q 26), .ref (q 27), .ref (q 28), .int (M.1 41), .int (M.1 42), .ref (q 29), .ref (q 30), .ref (q 31), .ref (q 32), .ref (q 33), .int x, .int (M.1 44), .int (M.1 45), .int (M.1 46), .int (M.1 47), .ref (q 34), .ref (q 35), .ref (q 36), .ref (q 37), .ref (q 38), .ref (q 39), .ref (q 40), .ref (q 41), .int (M.1 48)]) := rfl
theorem se_X7_16 {q : Nat → Nat} {cy : Nat → ClassId} {M : Mem} {x : Int32} : ce q cy (sv M 44 x) 61 = .inr (7, [.ref (q 22), .ref (q 23), .int (M.1 40), .ref (q 24), .ref (q 25), .ref (q 26), .ref (q 27), .ref (q 28), .int (M.1 41), .int (M.1 42), .ref (q 29), .ref (q 30), .ref (q 31), .ref (q 32), .ref (q 33), .int (M.1 43), .int x, .int (M.1 45), .int (M.1 46), .int (M.1 47), .ref (q 34), .ref (q 35), .ref (q 36), .ref (q 37), .ref (q 38), .ref (q 39), .ref (q 40), .ref (q 41), .int (M.1 48)]) := rfl
theorem se_X7_17 {q : Nat → Nat} {cy : Nat → ClassId} {M : Mem} {x : Int32} : ce q cy (sv M 45 x) 61 = .inr (7, [.ref (q 22), .ref (q 23), .int (M.1 40), .ref (q 24), .ref (q 25), .ref (q 26), .ref (q 27), .ref (q 28), .int (M.1 41), .int (M.1 42), .ref (q 29), .ref (q 30), .ref (q 31), .ref (q 32), .ref (q 33), .int (M.1 43), .int (M.1 44), .int x, .int (M.1 46), .int (M.1 47), .ref (q 34), .ref (q 35), .ref (q 36), .ref (q 37), .ref (q 38), .ref (q 39), .ref (q 40), .ref (q 41), .int (M.1 48)]) := rfl
theorem se_X7_18 {q : Nat → Nat} {cy : Nat → ClassId} {M : Mem} {x : Int32} : ce q cy (sv M 46 x) 61 = .inr (7, [.ref (q 22), .ref (q 23), .int (M.1 40), .ref (q 24), .ref (q 25), .ref (q 26), .ref (q 27), .ref (q 28), .int (M.1 41), .int (M.1 42), .ref (q 29), .ref (q 30), .ref (q 31), .ref (q 32), .ref (q 33), .int (M.1 43), .int (M.1 44), .int (M.1 45), .int x, .int (M.1 47), .ref (q 34), .ref (q 35), .ref (q 36), .ref (q 37), .ref (q 38), .ref (q 39), .ref (q 40), .ref (q 41), .int (M.1 48)]) := rfl
theorem se_X7_19 {q : Nat → Nat} {cy : Nat → ClassId} {M : Mem} {x : Int32} : ce q cy (sv M 47 x) 61 = .inr (7, [.ref (q 22), .ref (q 23), .int (M.1 40), .ref (q 24), .ref (q 25), .ref (q 26), .ref (q 27), .ref (q 28), .int (M.1 41), .int (M.1 42), .ref (q 29), .ref (q 30), .ref (q 31), .ref (q 32), .ref (q 33), .int (M.1 43), .int (M.1 44), .int (M.1 45), .int (M.1 46), .int x, .ref (q 34), .ref (q 35), .ref (q 36), .ref (q 37), .ref (q 38), .ref (q 39), .ref (q 40), .ref (q 41), .int (M.1 48)]) := rfl
theorem se_X7_28 {q : Nat → Nat} {cy : Nat → ClassId} {M : Mem} {x : Int32} : ce q cy (sv M 48 x) 61 = .inr (7, [.ref (q 22), .ref (q 23), .int (M.1 40), .ref (q 24), .ref (q 25), .ref (q 26), .ref (q 27), .ref (q 28), .int (M.1 41), .int (M.1 42), .ref (q 29), .ref (q 30), .ref (q 31), .ref (q 32), .ref (q 33), .int (M.1 43), .int (M.1 44), .int (M.1 45), .int (M.1 46), .int (M.1 47), .ref (q 34), .ref (q 35), .ref (q 36), .ref (q 37), .ref (q 38), .ref (q 39), .ref (q 40), .ref (q 41), .int x]) := rfl
theorem lf_X0_9 : Cond.fieldLink RX0 9 RX0 (TX0 1).2.1 (TX0 1).2.2.1 ∈ TB := TB_of (List.mem_of_getElem? (i := 184) (by decide +kernel)) rfl
theorem lf_X0_15 : Cond.fieldLink RX0 15 RX0 (TX0 2).2.1 (TX0 2).2.2.1 ∈ TB := TB_of (List.mem_of_getElem? (i := 185) (by decide +kernel)) rfl
theorem lf_X0_18 : Cond.fieldLink RX0 18 RX0 (TX0 3).2.1 (TX0 3).2.2.1 ∈ TB := TB_of (List.mem_of_getElem? (i := 186) (by decide +kernel)) rfl
theorem lf_X0_21 : Cond.fieldLink RX0 21 RX0 (TX0 4).2.1 (TX0 4).2.2.1 ∈ TB := TB_of (List.mem_of_getElem? (i := 187) (by decide +kernel)) rfl
theorem lf_X0_25 : Cond.fieldLink RX0 25 RX0 (TX0 5).2.1 (TX0 5).2.2.1 ∈ TB := TB_of (List.mem_of_getElem? (i := 188) (by decide +kernel)) rfl
theorem lf_X0_29 : Cond.fieldLink RX0 29 RX0 (TX0 0).2.1 (TX0 0).2.2.1 ∈ TB := TB_of (List.mem_of_getElem? (i := 183) (by decide +kernel)) rfl
theorem lf_X1_9 : Cond.fieldLink RX1 9 RX1 (TX1 1).2.1 (TX1 1).2.2.1 ∈ TB := TB_of (List.mem_of_getElem? (i := 164) (by decide +kernel)) rfl
theorem lf_X1_15 : Cond.fieldLink RX1 15 RX1 (TX1 2).2.1 (TX1 2).2.2.1 ∈ TB := TB_of (List.mem_of_getElem? (i := 166) (by decide +kernel)) rfl
theorem lf_X1_18 : Cond.fieldLink RX1 18 RX1 (TX1 3).2.1 (TX1 3).2.2.1 ∈ TB := TB_of (List.mem_of_getElem? (i := 167) (by decide +kernel)) rfl
theorem lf_X1_21 : Cond.fieldLink RX1 21 RX1 (TX1 0).2.1 (TX1 0).2.2.1 ∈ TB := TB_of (List.mem_of_getElem? (i := 163) (by decide +kernel)) rfl
theorem lf_X2_9 : Cond.fieldLink RX2 9 RX2 (TX2 0).2.1 (TX2 0).2.2.1 ∈ TB := TB_of (List.mem_of_getElem? (i := 121) (by decide +kernel)) rfl
theorem lf_X2_15 : Cond.fieldLink RX2 15 RX2 (TX2 1).2.1 (TX2 1).2.2.1 ∈ TB := TB_of (List.mem_of_getElem? (i := 122) (by decide +kernel)) rfl
theorem lf_X2_19 : Cond.fieldLink RX2 19 RX2 (TX2 2).2.1 (TX2 2).2.2.1 ∈ TB := TB_of (List.mem_of_getElem? (i := 124) (by decide +kernel)) rfl
theorem lf_X2_22 : Cond.fieldLink RX2 22 RX2 (TX2 3).2.1 (TX2 3).2.2.1 ∈ TB := TB_of (List.mem_of_getElem? (i := 126) (by decide +kernel)) rfl
theorem lf_X2_25 : Cond.fieldLink RX2 25 RX2 (TX2 4).2.1 (TX2 4).2.2.1 ∈ TB := TB_of (List.mem_of_getElem? (i := 130) (by decide +kernel)) rfl
theorem lf_X2_28 : Cond.fieldLink RX2 28 RX2 (TX2 5).2.1 (TX2 5).2.2.1 ∈ TB := TB_of (List.mem_of_getElem? (i := 134) (by decide +kernel)) rfl
theorem lf_X2_31 : Cond.fieldLink RX2 31 RX2 (TX2 6).2.1 (TX2 6).2.2.1 ∈ TB := TB_of (List.mem_of_getElem? (i := 137) (by decide +kernel)) rfl
theorem lf_X3_9 : Cond.fieldLink RX3 9 RX3 (TX3 0).2.1 (TX3 0).2.2.1 ∈ TB := TB_of (List.mem_of_getElem? (i := 40) (by decide +kernel)) rfl
theorem lf_X3_15 : Cond.fieldLink RX3 15 RX3 (TX3 1).2.1 (TX3 1).2.2.1 ∈ TB := TB_of (List.mem_of_getElem? (i := 41) (by decide +kernel)) rfl
theorem lf_X4_9 : Cond.fieldLink RX4 9 RX4 (TX4 0).2.1 (TX4 0).2.2.1 ∈ TB := TB_of (List.mem_of_getElem? (i := 208) (by decide +kernel)) rfl
theorem lf_X4_15 : Cond.fieldLink RX4 15 RX4 (TX4 1).2.1 (TX4 1).2.2.1 ∈ TB := TB_of (List.mem_of_getElem? (i := 210) (by decide +kernel)) rfl
theorem lf_X4_19 : Cond.fieldLink RX4 19 RX4 (TX4 2).2.1 (TX4 2).2.2.1 ∈ TB := TB_of (List.mem_of_getElem? (i := 212) (by decide +kernel)) rfl
theorem lf_X4_23 : Cond.fieldLink RX4 23 RX4 (TX4 3).2.1 (TX4 3).2.2.1 ∈ TB := TB_of (List.mem_of_getElem? (i := 214) (by decide +kernel)) rfl
theorem lf_X5_9 : Cond.fieldLink RX5 9 RX5 (TX5 0).2.1 (TX5 0).2.2.1 ∈ TB := TB_of (List.mem_of_getElem? (i := 54) (by decide +kernel)) rfl
theorem lf_X5_15 : Cond.fieldLink RX5 15 RX5 (TX5 1).2.1 (TX5 1).2.2.1 ∈ TB := TB_of (List.mem_of_getElem? (i := 58) (by decide +kernel)) rfl
theorem lf_X5_18 : Cond.fieldLink RX5 18 RX5 (TX5 2).2.1 (TX5 2).2.2.1 ∈ TB := TB_of (List.mem_of_getElem? (i := 61) (by decide +kernel)) rfl
theorem lf_X5_21 : Cond.fieldLink RX5 21 RX5 (TX5 3).2.1 (TX5 3).2.2.1 ∈ TB := TB_of (List.mem_of_getElem? (i := 64) (by decide +kernel)) rfl
theorem lf_X5_24 : Cond.fieldLink RX5 24 RX5 (TX5 4).2.1 (TX5 4).2.2.1 ∈ TB := TB_of (List.mem_of_getElem? (i := 66) (by decide +kernel)) rfl
theorem lf_X5_27 : Cond.fieldLink RX5 27 RX5 (TX5 5).2.1 (TX5 5).2.2.1 ∈ TB := TB_of (List.mem_of_getElem? (i := 68) (by decide +kernel)) rfl
theorem lf_X5_30 : Cond.fieldLink RX5 30 RX5 (TX5 6).2.1 (TX5 6).2.2.1 ∈ TB := TB_of (List.mem_of_getElem? (i := 72) (by decide +kernel)) rfl
theorem lf_X5_33 : Cond.fieldLink RX5 33 RX5 (TX5 7).2.1 (TX5 7).2.2.1 ∈ TB := TB_of (List.mem_of_getElem? (i := 74) (by decide +kernel)) rfl
theorem lf_X5_36 : Cond.fieldLink RX5 36 RX5 (TX5 8).2.1 (TX5 8).2.2.1 ∈ TB := TB_of (List.mem_of_getElem? (i := 77) (by decide +kernel)) rfl
theorem lf_X5_39 : Cond.fieldLink RX5 39 RX5 (TX5 9).2.1 (TX5 9).2.2.1 ∈ TB := TB_of (List.mem_of_getElem? (i := 79) (by decide +kernel)) rfl
theorem lf_X5_42 : Cond.fieldLink RX5 42 RX5 (TX5 10).2.1 (TX5 10).2.2.1 ∈ TB := TB_of (List.mem_of_getElem? (i := 80) (by decide +kernel)) rfl
theorem lf_X5_46 : Cond.fieldLink RX5 46 RX5 (TX5 11).2.1 (TX5 11).2.2.1 ∈ TB := TB_of (List.mem_of_getElem? (i := 84) (by decide +kernel)) rfl
theorem lf_X5_49 : Cond.fieldLink RX5 49 RX5 (TX5 12).2.1 (TX5 12).2.2.1 ∈ TB := TB_of (List.mem_of_getElem? (i := 86) (by decide +kernel)) rfl
theorem lf_X6_10 : Cond.fieldLink RX6 10 RX6 (TX6 0).2.1 (TX6 0).2.2.1 ∈ TB := TB_of (List.mem_of_getElem? (i := 225) (by decide +kernel)) rfl
theorem lf_X6_19 : Cond.fieldLink RX6 19 RX6 (TX6 1).2.1 (TX6 1).2.2.1 ∈ TB := TB_of (List.mem_of_getElem? (i := 226) (by decide +kernel)) rfl
theorem lf_X6_26 : Cond.fieldLink RX6 26 RX6 (TX6 2).2.1 (TX6 2).2.2.1 ∈ TB := TB_of (List.mem_of_getElem? (i := 227) (by decide +kernel)) rfl
theorem lf_X6_30 : Cond.fieldLink RX6 30 RX6 (TX6 3).2.1 (TX6 3).2.2.1 ∈ TB := TB_of (List.mem_of_getElem? (i := 228) (by decide +kernel)) rfl
theorem lf_X6_35 : Cond.fieldLink RX6 35 RX6 (TX6 4).2.1 (TX6 4).2.2.1 ∈ TB := TB_of (List.mem_of_getElem? (i := 229) (by decide +kernel)) rfl
theorem lf_X6_44 : Cond.fieldLink RX6 44 RX6 (TX6 5).2.1 (TX6 5).2.2.1 ∈ TB := TB_of (List.mem_of_getElem? (i := 230) (by decide +kernel)) rfl
theorem lf_X6_51 : Cond.fieldLink RX6 51 RX6 (TX6 6).2.1 (TX6 6).2.2.1 ∈ TB := TB_of (List.mem_of_getElem? (i := 231) (by decide +kernel)) rfl
theorem lf_X6_55 : Cond.fieldLink RX6 55 RX6 (TX6 7).2.1 (TX6 7).2.2.1 ∈ TB := TB_of (List.mem_of_getElem? (i := 232) (by decide +kernel)) rfl
theorem lf_X7_7 : Cond.fieldLink RX7 7 RX7 (TX7 0).2.1 (TX7 0).2.2.1 ∈ TB := TB_of (List.mem_of_getElem? (i := 782) (by decide +kernel)) rfl
theorem lf_X7_13 : Cond.fieldLink RX7 13 RX7 (TX7 1).2.1 (TX7 1).2.2.1 ∈ TB := TB_of (List.mem_of_getElem? (i := 783) (by decide +kernel)) rfl
theorem lf_X7_16 : Cond.fieldLink RX7 16 RX7 (TX7 3).2.1 (TX7 3).2.2.1 ∈ TB := TB_of (List.mem_of_getElem? (i := 785) (by decide +kernel)) rfl
theorem lf_X7_19 : Cond.fieldLink RX7 19 RX7 (TX7 4).2.1 (TX7 4).2.2.1 ∈ TB := TB_of (List.mem_of_getElem? (i := 786) (by decide +kernel)) rfl
theorem lf_X7_22 : Cond.fieldLink RX7 22 RX7 (TX7 5).2.1 (TX7 5).2.2.1 ∈ TB := TB_of (List.mem_of_getElem? (i := 787) (by decide +kernel)) rfl
theorem lf_X7_25 : Cond.fieldLink RX7 25 RX7 (TX7 6).2.1 (TX7 6).2.2.1 ∈ TB := TB_of (List.mem_of_getElem? (i := 788) (by decide +kernel)) rfl
theorem lf_X7_28 : Cond.fieldLink RX7 28 RX7 (TX7 7).2.1 (TX7 7).2.2.1 ∈ TB := TB_of (List.mem_of_getElem? (i := 789) (by decide +kernel)) rfl
theorem lf_X7_31 : Cond.fieldLink RX7 31 RX7 (TX7 10).2.1 (TX7 10).2.2.1 ∈ TB := TB_of (List.mem_of_getElem? (i := 792) (by decide +kernel)) rfl
theorem lf_X7_34 : Cond.fieldLink RX7 34 RX7 (TX7 11).2.1 (TX7 11).2.2.1 ∈ TB := TB_of (List.mem_of_getElem? (i := 793) (by decide +kernel)) rfl
theorem lf_X7_37 : Cond.fieldLink RX7 37 RX7 (TX7 12).2.1 (TX7 12).2.2.1 ∈ TB := TB_of (List.mem_of_getElem? (i := 794) (by decide +kernel)) rfl
theorem lf_X7_40 : Cond.fieldLink RX7 40 RX7 (TX7 13).2.1 (TX7 13).2.2.1 ∈ TB := TB_of (List.mem_of_getElem? (i := 795) (by decide +kernel)) rfl
theorem lf_X7_43 : Cond.fieldLink RX7 43 RX7 (TX7 14).2.1 (TX7 14).2.2.1 ∈ TB := TB_of (List.mem_of_getElem? (i := 796) (by decide +kernel)) rfl
theorem lf_X7_46 : Cond.fieldLink RX7 46 RX7 (TX7 20).2.1 (TX7 20).2.2.1 ∈ TB := TB_of (List.mem_of_getElem? (i := 802) (by decide +kernel)) rfl
theorem lf_X7_49 : Cond.fieldLink RX7 49 RX7 (TX7 21).2.1 (TX7 21).2.2.1 ∈ TB := TB_of (List.mem_of_getElem? (i := 803) (by decide +kernel)) rfl
theorem lf_X7_53 : Cond.fieldLink RX7 53 RX7 (TX7 22).2.1 (TX7 22).2.2.1 ∈ TB := TB_of (List.mem_of_getElem? (i := 804) (by decide +kernel)) rfl
theorem lf_X7_56 : Cond.fieldLink RX7 56 RX7 (TX7 23).2.1 (TX7 23).2.2.1 ∈ TB := TB_of (List.mem_of_getElem? (i := 805) (by decide +kernel)) rfl
theorem lf_X7_59 : Cond.fieldLink RX7 59 RX7 (TX7 24).2.1 (TX7 24).2.2.1 ∈ TB := TB_of (List.mem_of_getElem? (i := 806) (by decide +kernel)) rfl
theorem lf_X7_62 : Cond.fieldLink RX7 62 RX7 (TX7 25).2.1 (TX7 25).2.2.1 ∈ TB := TB_of (List.mem_of_getElem? (i := 807) (by decide +kernel)) rfl
theorem lf_X7_65 : Cond.fieldLink RX7 65 RX7 (TX7 26).2.1 (TX7 26).2.2.1 ∈ TB := TB_of (List.mem_of_getElem? (i := 808) (by decide +kernel)) rfl
theorem lf_X7_68 : Cond.fieldLink RX7 68 RX7 (TX7 27).2.1 (TX7 27).2.2.1 ∈ TB := TB_of (List.mem_of_getElem? (i := 809) (by decide +kernel)) rfl
theorem lf_X7_82 : Cond.fieldLink RX7 82 RX7 (TX7 2).2.1 (TX7 2).2.2.1 ∈ TB := TB_of (List.mem_of_getElem? (i := 784) (by decide +kernel)) rfl
theorem lf_X7_101 : Cond.fieldLink RX7 101 RX7 (TX7 8).2.1 (TX7 8).2.2.1 ∈ TB := TB_of (List.mem_of_getElem? (i := 790) (by decide +kernel)) rfl
theorem lf_X7_104 : Cond.fieldLink RX7 104 RX7 (TX7 9).2.1 (TX7 9).2.2.1 ∈ TB := TB_of (List.mem_of_getElem? (i := 791) (by decide +kernel)) rfl
theorem lf_X7_136 : Cond.fieldLink RX7 136 RX7 (TX7 16).2.1 (TX7 16).2.2.1 ∈ TB := TB_of (List.mem_of_getElem? (i := 798) (by decide +kernel)) rfl
theorem lf_X7_139 : Cond.fieldLink RX7 139 RX7 (TX7 17).2.1 (TX7 17).2.2.1 ∈ TB := TB_of (List.mem_of_getElem? (i := 799) (by decide +kernel)) rfl
theorem lf_X7_142 : Cond.fieldLink RX7 142 RX7 (TX7 18).2.1 (TX7 18).2.2.1 ∈ TB := TB_of (List.mem_of_getElem? (i := 800) (by decide +kernel)) rfl
theorem lf_X7_145 : Cond.fieldLink RX7 145 RX7 (TX7 15).2.1 (TX7 15).2.2.1 ∈ TB := TB_of (List.mem_of_getElem? (i := 797) (by decide +kernel)) rfl
theorem lf_X7_187 : Cond.fieldLink RX7 187 RX7 (TX7 19).2.1 (TX7 19).2.2.1 ∈ TB := TB_of (List.mem_of_getElem? (i := 801) (by decide +kernel)) rfl
theorem lf_X7_227 : Cond.fieldLink RX7 227 RX7 (TX7 28).2.1 (TX7 28).2.2.1 ∈ TB := TB_of (List.mem_of_getElem? (i := 810) (by decide +kernel)) rfl
theorem ln_X0_39 : (RX0, 39, RX5, (TX5 10).2.1, (TX5 10).2.2.1, "HeardWords") ∈ nwF := List.mem_of_getElem? (i := 16) (by decide +kernel)
theorem ln_X0_44 : (RX0, 44, RX5, (TX5 2).2.1, (TX5 2).2.2.1, "HeardWords") ∈ nwF := List.mem_of_getElem? (i := 5) (by decide +kernel)
theorem ln_X0_47 : (RX0, 47, RX2, (TX2 3).2.1, (TX2 3).2.2.1, "HeardWords") ∈ nwF := List.mem_of_getElem? (i := 23) (by decide +kernel)
theorem ln_X0_56 : (RX0, 56, RX5, (TX5 5).2.1, (TX5 5).2.2.1, "HeardWords") ∈ nwF := List.mem_of_getElem? (i := 9) (by decide +kernel)
theorem ln_X0_59 : (RX0, 59, RX5, (TX5 0).2.1, (TX5 0).2.2.1, "HeardWords") ∈ nwF := List.mem_of_getElem? (i := 0) (by decide +kernel)
theorem ln_X0_62 : (RX0, 62, RX2, (TX2 4).2.1, (TX2 4).2.2.1, "HeardWords") ∈ nwF := List.mem_of_getElem? (i := 26) (by decide +kernel)
theorem ln_X0_69 : (RX0, 69, RX5, (TX5 7).2.1, (TX5 7).2.2.1, "HeardWords") ∈ nwF := List.mem_of_getElem? (i := 13) (by decide +kernel)
theorem ln_X1_28 : (RX1, 28, RX5, (TX5 10).2.1, (TX5 10).2.2.1, "HeardWords") ∈ nwF := List.mem_of_getElem? (i := 17) (by decide +kernel)
theorem ln_X1_37 : (RX1, 37, RX5, (TX5 0).2.1, (TX5 0).2.2.1, "HeardWords") ∈ nwF := List.mem_of_getElem? (i := 1) (by decide +kernel)
theorem ln_X1_41 : (RX1, 41, RX5, (TX5 1).2.1, (TX5 1).2.2.1, "HeardWords") ∈ nwF := List.mem_of_getElem? (i := 3) (by decide +kernel)
theorem ln_X1_44 : (RX1, 44, RX5, (TX5 5).2.1, (TX5 5).2.2.1, "HeardWords") ∈ nwF := List.mem_of_getElem? (i := 10) (by decide +kernel)
theorem ln_X1_70 : (RX1, 70, RX2, (TX2 6).2.1, (TX2 6).2.2.1, "HeardWords") ∈ nwF := List.mem_of_getElem? (i := 31) (by decide +kernel)
theorem ln_X1_75 : (RX1, 75, RX2, (TX2 3).2.1, (TX2 3).2.2.1, "HeardWords") ∈ nwF := List.mem_of_getElem? (i := 24) (by decide +kernel)
theorem ln_X1_78 : (RX1, 78, RX5, (TX5 6).2.1, (TX5 6).2.2.1, "HeardWords") ∈ nwF := List.mem_of_getElem? (i := 12) (by decide +kernel)
theorem ln_X1_85 : (RX1, 85, RX2, (TX2 4).2.1, (TX2 4).2.2.1, "HeardWords") ∈ nwF := List.mem_of_getElem? (i := 27) (by decide +kernel)
theorem ln_X1_88 : (RX1, 88, RX5, (TX5 2).2.1, (TX5 2).2.2.1, "HeardWords") ∈ nwF := List.mem_of_getElem? (i := 6) (by decide +kernel)
theorem ln_X1_91 : (RX1, 91, RX5, (TX5 7).2.1, (TX5 7).2.2.1, "HeardWords") ∈ nwF := List.mem_of_getElem? (i := 14) (by decide +kernel)
theorem ln_X1_97 : (RX1, 97, RX5, (TX5 8).2.1, (TX5 8).2.2.1, "HeardWords") ∈ nwF := List.mem_of_getElem? (i := 15) (by decide +kernel)
theorem ln_X1_100 : (RX1, 100, RX2, (TX2 5).2.1, (TX2 5).2.2.1, "HeardWords") ∈ nwF := List.mem_of_getElem? (i := 29) (by decide +kernel)
theorem ln_X6_80 : (RX6, 80, RX5, (TX5 10).2.1, (TX5 10).2.2.1, "HeardWords") ∈ nwF := List.mem_of_getElem? (i := 18) (by decide +kernel)
theorem ln_X6_91 : (RX6, 91, RX4, (TX4 1).2.1, (TX4 1).2.2.1, "HeardWords") ∈ nwF := List.mem_of_getElem? (i := 35) (by decide +kernel)
theorem ln_X6_99 : (RX6, 99, RX4, (TX4 3).2.1, (TX4 3).2.2.1, "HeardWords") ∈ nwF := List.mem_of_getElem? (i := 37) (by decide +kernel)
theorem ln_X6_100 : (RX6, 100, RX4, (TX4 0).2.1, (TX4 0).2.2.1, "HeardWords") ∈ nwF := List.mem_of_getElem? (i := 34) (by decide +kernel)
theorem ln_X6_111 : (RX6, 111, RX5, (TX5 0).2.1, (TX5 0).2.2.1, "HeardWords") ∈ nwF := List.mem_of_getElem? (i := 2) (by decide +kernel)
theorem ln_X6_114 : (RX6, 114, RX5, (TX5 1).2.1, (TX5 1).2.2.1, "HeardWords") ∈ nwF := List.mem_of_getElem? (i := 4) (by decide +kernel)
theorem ln_X6_117 : (RX6, 117, RX5, (TX5 3).2.1, (TX5 3).2.2.1, "HeardWords") ∈ nwF := List.mem_of_getElem? (i := 7) (by decide +kernel)
theorem ln_X6_120 : (RX6, 120, RX5, (TX5 4).2.1, (TX5 4).2.2.1, "HeardWords") ∈ nwF := List.mem_of_getElem? (i := 8) (by decide +kernel)
theorem ln_X6_123 : (RX6, 123, RX5, (TX5 5).2.1, (TX5 5).2.2.1, "HeardWords") ∈ nwF := List.mem_of_getElem? (i := 11) (by decide +kernel)
theorem ln_X6_126 : (RX6, 126, RX5, (TX5 11).2.1, (TX5 11).2.2.1, "HeardWords") ∈ nwF := List.mem_of_getElem? (i := 19) (by decide +kernel)
theorem ln_X6_129 : (RX6, 129, RX5, (TX5 12).2.1, (TX5 12).2.2.1, "HeardWords") ∈ nwF := List.mem_of_getElem? (i := 20) (by decide +kernel)
theorem ln_X6_140 : (RX6, 140, RX2, (TX2 1).2.1, (TX2 1).2.2.1, "HeardWords") ∈ nwF := List.mem_of_getElem? (i := 21) (by decide +kernel)
theorem ln_X6_148 : (RX6, 148, RX2, (TX2 2).2.1, (TX2 2).2.2.1, "HeardWords") ∈ nwF := List.mem_of_getElem? (i := 22) (by decide +kernel)
theorem ln_X6_151 : (RX6, 151, RX2, (TX2 3).2.1, (TX2 3).2.2.1, "HeardWords") ∈ nwF := List.mem_of_getElem? (i := 25) (by decide +kernel)
theorem ln_X6_154 : (RX6, 154, RX2, (TX2 4).2.1, (TX2 4).2.2.1, "HeardWords") ∈ nwF := List.mem_of_getElem? (i := 28) (by decide +kernel)
theorem ln_X6_157 : (RX6, 157, RX2, (TX2 5).2.1, (TX2 5).2.2.1, "HeardWords") ∈ nwF := List.mem_of_getElem? (i := 30) (by decide +kernel)
theorem ln_X6_160 : (RX6, 160, RX2, (TX2 6).2.1, (TX2 6).2.2.1, "HeardWords") ∈ nwF := List.mem_of_getElem? (i := 32) (by decide +kernel)
theorem ln_X6_243 : (RX6, 243, RX1, (TX1 1).2.1, (TX1 1).2.2.1, "HeardWords") ∈ nwF := List.mem_of_getElem? (i := 33) (by decide +kernel)
theorem ln_X6_260 : (RX6, 260, RX4, (TX4 2).2.1, (TX4 2).2.2.1, "HeardWords") ∈ nwF := List.mem_of_getElem? (i := 36) (by decide +kernel)
theorem lj_J0_9 : Cond.fieldLink RJ0 9 "java/lang/String" "value" "[B" ∈ TB := TB_of (List.mem_of_getElem? (i := 1173) (by decide +kernel)) rfl
theorem lj_J0_15 : Cond.fieldLink RJ0 15 "java/lang/String" "coder" "B" ∈ TB := TB_of (List.mem_of_getElem? (i := 1172) (by decide +kernel)) rfl
theorem lj_J0_38 : Cond.fieldLink RJ0 38 "java/lang/String" "COMPACT_STRINGS" "Z" ∈ TB := TB_of (List.mem_of_getElem? (i := 369) (by decide +kernel)) rfl
theorem lj_J0_1053 : Cond.fieldLink RJ0 1053 "jdk/internal/util/Preconditions" "SIOOBE_FORMATTER" "Ljava/util/function/BiFunction;" ∈ TB := TB_of (List.mem_of_getElem? (i := 412) (by decide +kernel)) rfl
theorem lc_J6_265 : Cond.constant RJ6 265 1431655765 ∈ TB := TB_of (List.mem_of_getElem? (i := 303) (by decide +kernel)) rfl
theorem lc_J6_266 : Cond.constant RJ6 266 858993459 ∈ TB := TB_of (List.mem_of_getElem? (i := 304) (by decide +kernel)) rfl
theorem lc_J6_267 : Cond.constant RJ6 267 252645135 ∈ TB := TB_of (List.mem_of_getElem? (i := 305) (by decide +kernel)) rfl
theorem lc_X6_259 : Cond.constant RX6 259 (-2147483648) ∈ TB := TB_of (List.mem_of_getElem? (i := 734) (by decide +kernel)) rfl
theorem lc_X6_280 : Cond.constantLong RX6 280 17 ∈ TB := TB_of (List.mem_of_getElem? (i := 761) (by decide +kernel)) rfl
theorem lc_X6_282 : Cond.constantLong RX6 282 31 ∈ TB := TB_of (List.mem_of_getElem? (i := 762) (by decide +kernel)) rfl
theorem lc_X7_238 : Cond.constant RX7 238 (-2147483648) ∈ TB := TB_of (List.mem_of_getElem? (i := 1148) (by decide +kernel)) rfl
theorem lc_X7_242 : Cond.constantLong RX7 242 17 ∈ TB := TB_of (List.mem_of_getElem? (i := 1169) (by decide +kernel)) rfl
theorem lc_X7_244 : Cond.constantLong RX7 244 31 ∈ TB := TB_of (List.mem_of_getElem? (i := 1170) (by decide +kernel)) rfl
theorem lm_J0_335 : Cond.methodLink RJ0 335 yJ0_coder_7d493 ∈ TB := TB_of (List.mem_of_getElem? (i := 375) (by decide +kernel)) rfl
theorem lm_J0_492 : Cond.methodLink RJ0 492 yJ0_isLatin1_aae02 ∈ TB := TB_of (List.mem_of_getElem? (i := 365) (by decide +kernel)) rfl
theorem lm_J0_495 : Cond.methodLink RJ0 495 yJ1_charAt_3b067 ∈ TB := TB_of (List.mem_of_getElem? (i := 452) (by decide +kernel)) rfl
theorem lm_J0_505 : Cond.methodLink RJ0 505 yJ0_length_8abf5 ∈ TB := TB_of (List.mem_of_getElem? (i := 371) (by decide +kernel)) rfl
theorem lm_J0_633 : Cond.methodLink RJ0 633 yJ0_indexOf_7cf53 ∈ TB := TB_of (List.mem_of_getElem? (i := 361) (by decide +kernel)) rfl
theorem lm_J0_637 : Cond.methodLink RJ0 637 yJ1_indexOf_4cfef ∈ TB := TB_of (List.mem_of_getElem? (i := 379) (by decide +kernel)) rfl
theorem lm_J0_1059 : Cond.methodLink RJ0 1059 yJ3_checkIndex_8e157 ∈ TB := TB_of (List.mem_of_getElem? (i := 458) (by decide +kernel)) rfl
theorem lm_J1_9 : Cond.methodLink RJ1 9 yJ0_checkIndex_df160 ∈ TB := TB_of (List.mem_of_getElem? (i := 455) (by decide +kernel)) rfl
theorem lm_J1_38 : Cond.methodLink RJ1 38 Lib.Math.min.name ∈ TB := TB_of (List.mem_of_getElem? (i := 388) (by decide +kernel)) rfl
theorem lm_J1_88 : Cond.methodLink RJ1 88 yJ1_canEncode_9a6ad ∈ TB := TB_of (List.mem_of_getElem? (i := 382) (by decide +kernel)) rfl
theorem lm_J1_92 : Cond.methodLink RJ1 92 Lib.Math.max.name ∈ TB := TB_of (List.mem_of_getElem? (i := 385) (by decide +kernel)) rfl
theorem lm_J1_95 : Cond.methodLink RJ1 95 yJ1_indexOfChar_4cfef ∈ TB := TB_of (List.mem_of_getElem? (i := 391) (by decide +kernel)) rfl
theorem lm_X0_33 : Cond.methodLink RX0 33 yJ7_fill_53178 ∈ TB := TB_of (List.mem_of_getElem? (i := 574) (by decide +kernel)) rfl
theorem lm_X0_52 : Cond.methodLink RX0 52 yX0_meetEarlier ∈ TB := TB_of (List.mem_of_getElem? (i := 575) (by decide +kernel)) rfl
theorem lm_X0_65 : Cond.methodLink RX0 65 yX0_meetFoe ∈ TB := TB_of (List.mem_of_getElem? (i := 579) (by decide +kernel)) rfl
theorem lm_X0_72 : Cond.methodLink RX0 72 yX0_strike ∈ TB := TB_of (List.mem_of_getElem? (i := 583) (by decide +kernel)) rfl
theorem lm_X0_76 : Cond.methodLink RX0 76 yX0_unionOver ∈ TB := TB_of (List.mem_of_getElem? (i := 591) (by decide +kernel)) rfl
theorem lm_X0_80 : Cond.methodLink RX0 80 yX0_struckBy ∈ TB := TB_of (List.mem_of_getElem? (i := 603) (by decide +kernel)) rfl
theorem lm_X0_84 : Cond.methodLink RX0 84 yX0_unstruckBut ∈ TB := TB_of (List.mem_of_getElem? (i := 612) (by decide +kernel)) rfl
theorem lm_X0_87 : Cond.methodLink RX0 87 yX0_answersForItself ∈ TB := TB_of (List.mem_of_getElem? (i := 624) (by decide +kernel)) rfl
theorem lm_X0_91 : Cond.methodLink RX0 91 yX0_hasGreater ∈ TB := TB_of (List.mem_of_getElem? (i := 625) (by decide +kernel)) rfl
theorem lm_X0_94 : Cond.methodLink RX0 94 yX0_isFullSet ∈ TB := TB_of (List.mem_of_getElem? (i := 633) (by decide +kernel)) rfl
theorem lm_X0_97 : Cond.methodLink RX0 97 arraycopyName ∈ TB := TB_of (List.mem_of_getElem? (i := 657) (by decide +kernel)) rfl
theorem lm_X1_25 : Cond.methodLink RX1 25 yX1_begin ∈ TB := TB_of (List.mem_of_getElem? (i := 502) (by decide +kernel)) rfl
theorem lm_X1_33 : Cond.methodLink RX1 33 yX1_hearNext ∈ TB := TB_of (List.mem_of_getElem? (i := 506) (by decide +kernel)) rfl
theorem lm_X1_47 : Cond.methodLink RX1 47 yX1_byNumbers ∈ TB := TB_of (List.mem_of_getElem? (i := 678) (by decide +kernel)) rfl
theorem lm_X1_50 : Cond.methodLink RX1 50 yJ6_bitCount_0f7a4 ∈ TB := TB_of (List.mem_of_getElem? (i := 514) (by decide +kernel)) rfl
theorem lm_X1_56 : Cond.methodLink RX1 56 yX1_ordersWith ∈ TB := TB_of (List.mem_of_getElem? (i := 565) (by decide +kernel)) rfl
theorem lm_X1_60 : Cond.methodLink RX1 60 yX1_isAble ∈ TB := TB_of (List.mem_of_getElem? (i := 510) (by decide +kernel)) rfl
theorem lm_X1_64 : Cond.methodLink RX1 64 yX1_quarrel ∈ TB := TB_of (List.mem_of_getElem? (i := 515) (by decide +kernel)) rfl
theorem lm_X1_67 : Cond.methodLink RX1 67 yX1_beElsewhere ∈ TB := TB_of (List.mem_of_getElem? (i := 523) (by decide +kernel)) rfl
theorem lm_X1_81 : Cond.methodLink RX1 81 yX1_fallen ∈ TB := TB_of (List.mem_of_getElem? (i := 519) (by decide +kernel)) rfl
theorem lm_X1_94 : Cond.methodLink RX1 94 yX1_undo ∈ TB := TB_of (List.mem_of_getElem? (i := 527) (by decide +kernel)) rfl
theorem lm_X2_34 : Cond.methodLink RX2 34 yX2_understand ∈ TB := TB_of (List.mem_of_getElem? (i := 344) (by decide +kernel)) rfl
theorem lm_X2_37 : Cond.methodLink RX2 37 yX2_seekFault ∈ TB := TB_of (List.mem_of_getElem? (i := 348) (by decide +kernel)) rfl
theorem lm_X2_41 : Cond.methodLink RX2 41 yX2_takePart ∈ TB := TB_of (List.mem_of_getElem? (i := 469) (by decide +kernel)) rfl
theorem lm_X2_45 : Cond.methodLink RX2 45 yX2_fits ∈ TB := TB_of (List.mem_of_getElem? (i := 352) (by decide +kernel)) rfl
theorem lm_X2_51 : Cond.methodLink RX2 51 yJ0_indexOf_0f7a4 ∈ TB := TB_of (List.mem_of_getElem? (i := 357) (by decide +kernel)) rfl
theorem lm_X2_57 : Cond.methodLink RX2 57 yX2_isFigureOf ∈ TB := TB_of (List.mem_of_getElem? (i := 443) (by decide +kernel)) rfl
theorem lm_X2_61 : Cond.methodLink RX2 61 yJ0_length_8abf5 ∈ TB := TB_of (List.mem_of_getElem? (i := 446) (by decide +kernel)) rfl
theorem lm_X2_66 : Cond.methodLink RX2 66 yJ0_charAt_5068e ∈ TB := TB_of (List.mem_of_getElem? (i := 448) (by decide +kernel)) rfl
theorem lm_X3_18 : Cond.methodLink RX3 18 yX3_seekQuickest ∈ TB := TB_of (List.mem_of_getElem? (i := 32) (by decide +kernel)) rfl
theorem lm_X3_21 : Cond.methodLink RX3 21 yX3_shortenThrough ∈ TB := TB_of (List.mem_of_getElem? (i := 36) (by decide +kernel)) rfl
theorem lm_X4_26 : Cond.methodLink RX4 26 yJ7_fill_53178 ∈ TB := TB_of (List.mem_of_getElem? (i := 713) (by decide +kernel)) rfl
theorem lm_X5_52 : Cond.methodLink RX5 52 yX5_all ∈ TB := TB_of (List.mem_of_getElem? (i := 497) (by decide +kernel)) rfl
theorem lm_X5_56 : Cond.methodLink RX5 56 yJ6_bitCount_0f7a4 ∈ TB := TB_of (List.mem_of_getElem? (i := 300) (by decide +kernel)) rfl
theorem lm_X5_62 : Cond.methodLink RX5 62 yX5_weighAll ∈ TB := TB_of (List.mem_of_getElem? (i := 306) (by decide +kernel)) rfl
theorem lm_X5_66 : Cond.methodLink RX5 66 yJ7_fill_53178 ∈ TB := TB_of (List.mem_of_getElem? (i := 265) (by decide +kernel)) rfl
theorem lm_X5_72 : Cond.methodLink RX5 72 yX5_isTooFar ∈ TB := TB_of (List.mem_of_getElem? (i := 268) (by decide +kernel)) rfl
theorem lm_X5_76 : Cond.methodLink RX5 76 yX3_between ∈ TB := TB_of (List.mem_of_getElem? (i := 272) (by decide +kernel)) rfl
theorem lm_X5_82 : Cond.methodLink RX5 82 Lib.Math.abs.name ∈ TB := TB_of (List.mem_of_getElem? (i := 276) (by decide +kernel)) rfl
theorem lm_X5_87 : Cond.methodLink RX5 87 yX5_heardOnes ∈ TB := TB_of (List.mem_of_getElem? (i := 668) (by decide +kernel)) rfl
theorem lm_X5_90 : Cond.methodLink RX5 90 Lib.Math.max.name ∈ TB := TB_of (List.mem_of_getElem? (i := 669) (by decide +kernel)) rfl
theorem lm_X6_60 : Cond.methodLink RX6 60 yX6_isTown ∈ TB := TB_of (List.mem_of_getElem? (i := 254) (by decide +kernel)) rfl
theorem lm_X6_64 : Cond.methodLink RX6 64 yX3_build ∈ TB := TB_of (List.mem_of_getElem? (i := 257) (by decide +kernel)) rfl
theorem lm_X6_68 : Cond.methodLink RX6 68 yX5_weighAll ∈ TB := TB_of (List.mem_of_getElem? (i := 261) (by decide +kernel)) rfl
theorem lm_X6_72 : Cond.methodLink RX6 72 yX3_between ∈ TB := TB_of (List.mem_of_getElem? (i := 283) (by decide +kernel)) rfl
theorem lm_X6_76 : Cond.methodLink RX6 76 yX6_mayBeTold ∈ TB := TB_of (List.mem_of_getElem? (i := 288) (by decide +kernel)) rfl
theorem lm_X6_83 : Cond.methodLink RX6 83 yX5_tell ∈ TB := TB_of (List.mem_of_getElem? (i := 296) (by decide +kernel)) rfl
theorem lm_X6_87 : Cond.methodLink RX6 87 yX6_sheetOf ∈ TB := TB_of (List.mem_of_getElem? (i := 311) (by decide +kernel)) rfl
theorem lm_X6_95 : Cond.methodLink RX6 95 yX6_find ∈ TB := TB_of (List.mem_of_getElem? (i := 315) (by decide +kernel)) rfl
theorem lm_X6_104 : Cond.methodLink RX6 104 yX6_word ∈ TB := TB_of (List.mem_of_getElem? (i := 319) (by decide +kernel)) rfl
theorem lm_X6_108 : Cond.methodLink RX6 108 yX5_has ∈ TB := TB_of (List.mem_of_getElem? (i := 292) (by decide +kernel)) rfl
theorem lm_X6_132 : Cond.methodLink RX6 132 yX5_all ∈ TB := TB_of (List.mem_of_getElem? (i := 328) (by decide +kernel)) rfl
theorem lm_X6_136 : Cond.methodLink RX6 136 yX6_lawOf ∈ TB := TB_of (List.mem_of_getElem? (i := 336) (by decide +kernel)) rfl
theorem lm_X6_141 : Cond.methodLink RX6 141 yX2_append ∈ TB := TB_of (List.mem_of_getElem? (i := 340) (by decide +kernel)) rfl
theorem lm_X6_145 : Cond.methodLink RX6 145 yX2_empty ∈ TB := TB_of (List.mem_of_getElem? (i := 477) (by decide +kernel)) rfl
theorem lm_X6_163 : Cond.methodLink RX6 163 yX5_heardOnes ∈ TB := TB_of (List.mem_of_getElem? (i := 493) (by decide +kernel)) rfl
theorem lm_X6_166 : Cond.methodLink RX6 166 yX1_byNumbers ∈ TB := TB_of (List.mem_of_getElem? (i := 498) (by decide +kernel)) rfl
theorem lm_X6_170 : Cond.methodLink RX6 170 yX1_outcome ∈ TB := TB_of (List.mem_of_getElem? (i := 531) (by decide +kernel)) rfl
theorem lm_X6_173 : Cond.methodLink RX6 173 yX6_isOrder ∈ TB := TB_of (List.mem_of_getElem? (i := 539) (by decide +kernel)) rfl
theorem lm_X6_177 : Cond.methodLink RX6 177 yX1_begin ∈ TB := TB_of (List.mem_of_getElem? (i := 543) (by decide +kernel)) rfl
theorem lm_X6_180 : Cond.methodLink RX6 180 yX1_hearNext ∈ TB := TB_of (List.mem_of_getElem? (i := 544) (by decide +kernel)) rfl
theorem lm_X6_183 : Cond.methodLink RX6 183 yX1_onHead ∈ TB := TB_of (List.mem_of_getElem? (i := 549) (by decide +kernel)) rfl
theorem lm_X6_186 : Cond.methodLink RX6 186 yJ6_bitCount_0f7a4 ∈ TB := TB_of (List.mem_of_getElem? (i := 557) (by decide +kernel)) rfl
theorem lm_X6_191 : Cond.methodLink RX6 191 yX6_factorial ∈ TB := TB_of (List.mem_of_getElem? (i := 558) (by decide +kernel)) rfl
theorem lm_X6_198 : Cond.methodLink RX6 198 yX0_takeUp ∈ TB := TB_of (List.mem_of_getElem? (i := 570) (by decide +kernel)) rfl
theorem lm_X6_201 : Cond.methodLink RX6 201 yX0_struckBy ∈ TB := TB_of (List.mem_of_getElem? (i := 587) (by decide +kernel)) rfl
theorem lm_X6_204 : Cond.methodLink RX6 204 yX0_answersForItself ∈ TB := TB_of (List.mem_of_getElem? (i := 599) (by decide +kernel)) rfl
theorem lm_X6_207 : Cond.methodLink RX6 207 yX0_leastSet ∈ TB := TB_of (List.mem_of_getElem? (i := 608) (by decide +kernel)) rfl
theorem lm_X6_210 : Cond.methodLink RX6 210 yX0_markFullSets ∈ TB := TB_of (List.mem_of_getElem? (i := 620) (by decide +kernel)) rfl
theorem lm_X6_213 : Cond.methodLink RX6 213 yX0_fullSets ∈ TB := TB_of (List.mem_of_getElem? (i := 629) (by decide +kernel)) rfl
theorem lm_X6_216 : Cond.methodLink RX6 216 yX0_fullSet ∈ TB := TB_of (List.mem_of_getElem? (i := 637) (by decide +kernel)) rfl
theorem lm_X6_219 : Cond.methodLink RX6 219 yX0_firmness ∈ TB := TB_of (List.mem_of_getElem? (i := 645) (by decide +kernel)) rfl
theorem lm_X6_222 : Cond.methodLink RX6 222 yX0_onRings ∈ TB := TB_of (List.mem_of_getElem? (i := 653) (by decide +kernel)) rfl
theorem lm_X6_225 : Cond.methodLink RX6 225 yX5_longestChain ∈ TB := TB_of (List.mem_of_getElem? (i := 664) (by decide +kernel)) rfl
theorem lm_X6_228 : Cond.methodLink RX6 228 yX1_hangingOn ∈ TB := TB_of (List.mem_of_getElem? (i := 674) (by decide +kernel)) rfl
theorem lm_X6_232 : Cond.methodLink RX6 232 yX6_isFewer ∈ TB := TB_of (List.mem_of_getElem? (i := 687) (by decide +kernel)) rfl
theorem lm_X6_236 : Cond.methodLink RX6 236 yX2_saysTheSameAs ∈ TB := TB_of (List.mem_of_getElem? (i := 694) (by decide +kernel)) rfl
theorem lm_X6_240 : Cond.methodLink RX6 240 yX6_isHeardUnlike ∈ TB := TB_of (List.mem_of_getElem? (i := 698) (by decide +kernel)) rfl
theorem lm_X6_246 : Cond.methodLink RX6 246 yX6_isForm ∈ TB := TB_of (List.mem_of_getElem? (i := 706) (by decide +kernel)) rfl
theorem lm_X6_249 : Cond.methodLink RX6 249 yX4_renew ∈ TB := TB_of (List.mem_of_getElem? (i := 709) (by decide +kernel)) rfl
theorem lm_X6_253 : Cond.methodLink RX6 253 yX4_findingOf ∈ TB := TB_of (List.mem_of_getElem? (i := 722) (by decide +kernel)) rfl
theorem lm_X6_256 : Cond.methodLink RX6 256 yX4_set ∈ TB := TB_of (List.mem_of_getElem? (i := 726) (by decide +kernel)) rfl
theorem lm_X6_263 : Cond.methodLink RX6 263 yX4_holds ∈ TB := TB_of (List.mem_of_getElem? (i := 739) (by decide +kernel)) rfl
theorem lm_X6_266 : Cond.methodLink RX6 266 arraycopyName ∈ TB := TB_of (List.mem_of_getElem? (i := 743) (by decide +kernel)) rfl
theorem lm_X6_272 : Cond.methodLink RX6 272 Lib.Math.min.name ∈ TB := TB_of (List.mem_of_getElem? (i := 748) (by decide +kernel)) rfl
theorem lm_X6_277 : Cond.methodLink RX6 277 yX3_number ∈ TB := TB_of (List.mem_of_getElem? (i := 753) (by decide +kernel)) rfl
theorem lm_X6_284 : Cond.methodLink RX6 284 yX6_count ∈ TB := TB_of (List.mem_of_getElem? (i := 763) (by decide +kernel)) rfl
theorem lm_X6_287 : Cond.methodLink RX6 287 yX6_is ∈ TB := TB_of (List.mem_of_getElem? (i := 764) (by decide +kernel)) rfl
theorem lm_X6_290 : Cond.methodLink RX6 290 yX6_digestOfLaw ∈ TB := TB_of (List.mem_of_getElem? (i := 765) (by decide +kernel)) rfl
theorem lm_X6_294 : Cond.methodLink RX6 294 yX6_ring ∈ TB := TB_of (List.mem_of_getElem? (i := 774) (by decide +kernel)) rfl
theorem lm_X6_297 : Cond.methodLink RX6 297 yX6_most ∈ TB := TB_of (List.mem_of_getElem? (i := 775) (by decide +kernel)) rfl
theorem lm_X6_300 : Cond.methodLink RX6 300 yX6_fault ∈ TB := TB_of (List.mem_of_getElem? (i := 769) (by decide +kernel)) rfl
theorem lm_X6_303 : Cond.methodLink RX6 303 yX6_law ∈ TB := TB_of (List.mem_of_getElem? (i := 770) (by decide +kernel)) rfl
theorem lm_X6_306 : Cond.methodLink RX6 306 yX6_heard ∈ TB := TB_of (List.mem_of_getElem? (i := 771) (by decide +kernel)) rfl
theorem lm_X6_309 : Cond.methodLink RX6 309 yX6_least ∈ TB := TB_of (List.mem_of_getElem? (i := 772) (by decide +kernel)) rfl
theorem lm_X6_312 : Cond.methodLink RX6 312 yX6_full ∈ TB := TB_of (List.mem_of_getElem? (i := 773) (by decide +kernel)) rfl
theorem lm_X7_71 : Cond.methodLink RX7 71 yX7_in ∈ TB := TB_of (List.mem_of_getElem? (i := 878) (by decide +kernel)) rfl
theorem lm_X7_75 : Cond.methodLink RX7 75 yX7_isTown ∈ TB := TB_of (List.mem_of_getElem? (i := 875) (by decide +kernel)) rfl
theorem lm_X7_79 : Cond.methodLink RX7 79 yX7_laysWays ∈ TB := TB_of (List.mem_of_getElem? (i := 885) (by decide +kernel)) rfl
theorem lm_X7_86 : Cond.methodLink RX7 86 yX7_adds ∈ TB := TB_of (List.mem_of_getElem? (i := 893) (by decide +kernel)) rfl
theorem lm_X7_90 : Cond.methodLink RX7 90 yX7_isSheet ∈ TB := TB_of (List.mem_of_getElem? (i := 901) (by decide +kernel)) rfl
theorem lm_X7_93 : Cond.methodLink RX7 93 yX7_meets ∈ TB := TB_of (List.mem_of_getElem? (i := 904) (by decide +kernel)) rfl
theorem lm_X7_97 : Cond.methodLink RX7 97 yX7_all ∈ TB := TB_of (List.mem_of_getElem? (i := 931) (by decide +kernel)) rfl
theorem lm_X7_107 : Cond.methodLink RX7 107 yX7_apart ∈ TB := TB_of (List.mem_of_getElem? (i := 920) (by decide +kernel)) rfl
theorem lm_X7_111 : Cond.methodLink RX7 111 yX7_isWord ∈ TB := TB_of (List.mem_of_getElem? (i := 912) (by decide +kernel)) rfl
theorem lm_X7_114 : Cond.methodLink RX7 114 yX7_laysPossible ∈ TB := TB_of (List.mem_of_getElem? (i := 916) (by decide +kernel)) rfl
theorem lm_X7_117 : Cond.methodLink RX7 117 yX7_isNow ∈ TB := TB_of (List.mem_of_getElem? (i := 923) (by decide +kernel)) rfl
theorem lm_X7_120 : Cond.methodLink RX7 120 yX7_isLaw ∈ TB := TB_of (List.mem_of_getElem? (i := 939) (by decide +kernel)) rfl
theorem lm_X7_123 : Cond.methodLink RX7 123 yX7_plain ∈ TB := TB_of (List.mem_of_getElem? (i := 958) (by decide +kernel)) rfl
theorem lm_X7_127 : Cond.methodLink RX7 127 yX7_byteAt ∈ TB := TB_of (List.mem_of_getElem? (i := 962) (by decide +kernel)) rfl
theorem lm_X7_130 : Cond.methodLink RX7 130 yX7_faultOf ∈ TB := TB_of (List.mem_of_getElem? (i := 954) (by decide +kernel)) rfl
theorem lm_X7_133 : Cond.methodLink RX7 133 yX7_reads ∈ TB := TB_of (List.mem_of_getElem? (i := 950) (by decide +kernel)) rfl
theorem lm_X7_148 : Cond.methodLink RX7 148 yX7_ones ∈ TB := TB_of (List.mem_of_getElem? (i := 997) (by decide +kernel)) rfl
theorem lm_X7_151 : Cond.methodLink RX7 151 yX7_has ∈ TB := TB_of (List.mem_of_getElem? (i := 990) (by decide +kernel)) rfl
theorem lm_X7_155 : Cond.methodLink RX7 155 yX7_quarrel ∈ TB := TB_of (List.mem_of_getElem? (i := 1000) (by decide +kernel)) rfl
theorem lm_X7_158 : Cond.methodLink RX7 158 yX7_undoes ∈ TB := TB_of (List.mem_of_getElem? (i := 1004) (by decide +kernel)) rfl
theorem lm_X7_162 : Cond.methodLink RX7 162 yX7_heardOnes ∈ TB := TB_of (List.mem_of_getElem? (i := 982) (by decide +kernel)) rfl
theorem lm_X7_165 : Cond.methodLink RX7 165 yX7_lines ∈ TB := TB_of (List.mem_of_getElem? (i := 986) (by decide +kernel)) rfl
theorem lm_X7_168 : Cond.methodLink RX7 168 yX7_hears ∈ TB := TB_of (List.mem_of_getElem? (i := 993) (by decide +kernel)) rfl
theorem lm_X7_171 : Cond.methodLink RX7 171 yX7_hearsAll ∈ TB := TB_of (List.mem_of_getElem? (i := 978) (by decide +kernel)) rfl
theorem lm_X7_174 : Cond.methodLink RX7 174 yX7_tells ∈ TB := TB_of (List.mem_of_getElem? (i := 1008) (by decide +kernel)) rfl
theorem lm_X7_177 : Cond.methodLink RX7 177 yX7_heardNow ∈ TB := TB_of (List.mem_of_getElem? (i := 974) (by decide +kernel)) rfl
theorem lm_X7_180 : Cond.methodLink RX7 180 yX7_headNow ∈ TB := TB_of (List.mem_of_getElem? (i := 1020) (by decide +kernel)) rfl
theorem lm_X7_183 : Cond.methodLink RX7 183 yX7_turns ∈ TB := TB_of (List.mem_of_getElem? (i := 1028) (by decide +kernel)) rfl
theorem lm_X7_190 : Cond.methodLink RX7 190 yX7_hits ∈ TB := TB_of (List.mem_of_getElem? (i := 1040) (by decide +kernel)) rfl
theorem lm_X7_193 : Cond.methodLink RX7 193 yX7_meetsAll ∈ TB := TB_of (List.mem_of_getElem? (i := 1036) (by decide +kernel)) rfl
theorem lm_X7_197 : Cond.methodLink RX7 197 yX7_answers ∈ TB := TB_of (List.mem_of_getElem? (i := 1052) (by decide +kernel)) rfl
theorem lm_X7_200 : Cond.methodLink RX7 200 yX7_isSound ∈ TB := TB_of (List.mem_of_getElem? (i := 1048) (by decide +kernel)) rfl
theorem lm_X7_203 : Cond.methodLink RX7 203 yX7_leastNow ∈ TB := TB_of (List.mem_of_getElem? (i := 1064) (by decide +kernel)) rfl
theorem lm_X7_206 : Cond.methodLink RX7 206 yX7_leastOf ∈ TB := TB_of (List.mem_of_getElem? (i := 1060) (by decide +kernel)) rfl
theorem lm_X7_209 : Cond.methodLink RX7 209 yX7_laysSounds ∈ TB := TB_of (List.mem_of_getElem? (i := 1076) (by decide +kernel)) rfl
theorem lm_X7_212 : Cond.methodLink RX7 212 yX7_isFull ∈ TB := TB_of (List.mem_of_getElem? (i := 1080) (by decide +kernel)) rfl
theorem lm_X7_215 : Cond.methodLink RX7 215 yX7_fullNow ∈ TB := TB_of (List.mem_of_getElem? (i := 1072) (by decide +kernel)) rfl
theorem lm_X7_218 : Cond.methodLink RX7 218 yX7_ringNow ∈ TB := TB_of (List.mem_of_getElem? (i := 1092) (by decide +kernel)) rfl
theorem lm_X7_221 : Cond.methodLink RX7 221 yX7_hangsNow ∈ TB := TB_of (List.mem_of_getElem? (i := 1104) (by decide +kernel)) rfl
theorem lm_X7_224 : Cond.methodLink RX7 224 yX7_mostNow ∈ TB := TB_of (List.mem_of_getElem? (i := 1112) (by decide +kernel)) rfl
theorem lm_X7_230 : Cond.methodLink RX7 230 yX7_lacks ∈ TB := TB_of (List.mem_of_getElem? (i := 1136) (by decide +kernel)) rfl
theorem lm_X7_234 : Cond.methodLink RX7 234 yX7_lay ∈ TB := TB_of (List.mem_of_getElem? (i := 1140) (by decide +kernel)) rfl
theorem lm_X7_239 : Cond.methodLink RX7 239 yX7_roadMany ∈ TB := TB_of (List.mem_of_getElem? (i := 1161) (by decide +kernel)) rfl
theorem lm_X7_246 : Cond.methodLink RX7 246 yX7_count ∈ TB := TB_of (List.mem_of_getElem? (i := 1171) (by decide +kernel)) rfl
theorem lk_X6_194 : (RX6, 194, yX1_ordersWith, "HeardWords") ∈ nwM := List.mem_of_getElem? (i := 3) (by decide +kernel)
theorem mx_max : Cond.static Lib.Math.max.name ∈ TB ∧ Cond.initialized "java/lang/Math" ∈ TB ∧ Cond.code Lib.Math.max.name Lib.Math.max.code 2 (some .int) ∈ TB := ⟨TB_of (List.mem_of_getElem? (i := 386) (by decide +kernel)) rfl, TB_of (List.mem_of_getElem? (i := 10) (by decide +kernel)) rfl, TB_of (List.mem_of_getElem? (i := 387) (by decide +kernel)) rfl⟩
theorem mx_min : Cond.static Lib.Math.min.name ∈ TB ∧ Cond.initialized "java/lang/Math" ∈ TB ∧ Cond.code Lib.Math.min.name Lib.Math.min.code 2 (some .int) ∈ TB := ⟨TB_of (List.mem_of_getElem? (i := 389) (by decide +kernel)) rfl, TB_of (List.mem_of_getElem? (i := 10) (by decide +kernel)) rfl, TB_of (List.mem_of_getElem? (i := 390) (by decide +kernel)) rfl⟩
theorem mx_abs : Cond.static Lib.Math.abs.name ∈ TB ∧ Cond.initialized "java/lang/Math" ∈ TB ∧ Cond.code Lib.Math.abs.name Lib.Math.abs.code 1 (some .int) ∈ TB := ⟨TB_of (List.mem_of_getElem? (i := 277) (by decide +kernel)) rfl, TB_of (List.mem_of_getElem? (i := 10) (by decide +kernel)) rfl, TB_of (List.mem_of_getElem? (i := 278) (by decide +kernel)) rfl⟩
theorem kV_J0_charAt_5068e : CVt yJ0_charAt_5068e cJ0_charAt_5068e 2 (some .char) RJ0 1 := ⟨TB_of (List.mem_of_getElem? (i := 451) (by decide +kernel)) rfl, TB_of (List.mem_of_getElem? (i := 449) (by decide +kernel)) rfl, TB_of (List.mem_of_getElem? (i := 450) (by decide +kernel)) rfl, TB_of (List.mem_of_getElem? (i := 12) (by decide +kernel)) rfl, by decide +kernel⟩
theorem kS_J0_checkIndex_df160 : CSt yJ0_checkIndex_df160 cJ0_checkIndex_df160 2 none 2 := ⟨TB_of (List.mem_of_getElem? (i := 457) (by decide +kernel)) rfl, TB_of (List.mem_of_getElem? (i := 456) (by decide +kernel)) rfl, TB_of (List.mem_of_getElem? (i := 12) (by decide +kernel)) rfl, by decide +kernel⟩
theorem kV_J0_coder_7d493 : CVt yJ0_coder_7d493 cJ0_coder_7d493 1 (some .byte) RJ0 0 := ⟨TB_of (List.mem_of_getElem? (i := 378) (by decide +kernel)) rfl, TB_of (List.mem_of_getElem? (i := 376) (by decide +kernel)) rfl, TB_of (List.mem_of_getElem? (i := 377) (by decide +kernel)) rfl, TB_of (List.mem_of_getElem? (i := 12) (by decide +kernel)) rfl, by decide +kernel⟩
theorem kV_J0_indexOf_0f7a4 : CVt yJ0_indexOf_0f7a4 cJ0_indexOf_0f7a4 2 (some .int) RJ0 1 := ⟨TB_of (List.mem_of_getElem? (i := 360) (by decide +kernel)) rfl, TB_of (List.mem_of_getElem? (i := 358) (by decide +kernel)) rfl, TB_of (List.mem_of_getElem? (i := 359) (by decide +kernel)) rfl, TB_of (List.mem_of_getElem? (i := 12) (by decide +kernel)) rfl, by decide +kernel⟩
theorem kV_J0_indexOf_7cf53 : CVt yJ0_indexOf_7cf53 cJ0_indexOf_7cf53 3 (some .int) RJ0 2 := ⟨TB_of (List.mem_of_getElem? (i := 364) (by decide +kernel)) rfl, TB_of (List.mem_of_getElem? (i := 362) (by decide +kernel)) rfl, TB_of (List.mem_of_getElem? (i := 363) (by decide +kernel)) rfl, TB_of (List.mem_of_getElem? (i := 12) (by decide +kernel)) rfl, by decide +kernel⟩
theorem kV_J0_isLatin1_aae02 : CVt yJ0_isLatin1_aae02 cJ0_isLatin1_aae02 1 (some .boolean) RJ0 0 := ⟨TB_of (List.mem_of_getElem? (i := 368) (by decide +kernel)) rfl, TB_of (List.mem_of_getElem? (i := 366) (by decide +kernel)) rfl, TB_of (List.mem_of_getElem? (i := 367) (by decide +kernel)) rfl, TB_of (List.mem_of_getElem? (i := 12) (by decide +kernel)) rfl, by decide +kernel⟩
theorem kV_J0_length_8abf5 : CVt yJ0_length_8abf5 cJ0_length_8abf5 1 (some .int) RJ0 0 := ⟨TB_of (List.mem_of_getElem? (i := 374) (by decide +kernel)) rfl, TB_of (List.mem_of_getElem? (i := 372) (by decide +kernel)) rfl, TB_of (List.mem_of_getElem? (i := 373) (by decide +kernel)) rfl, TB_of (List.mem_of_getElem? (i := 12) (by decide +kernel)) rfl, by decide +kernel⟩
theorem kS_J1_canEncode_9a6ad : CSt yJ1_canEncode_9a6ad cJ1_canEncode_9a6ad 1 (some .boolean) 1 := ⟨TB_of (List.mem_of_getElem? (i := 384) (by decide +kernel)) rfl, TB_of (List.mem_of_getElem? (i := 383) (by decide +kernel)) rfl, TB_of (List.mem_of_getElem? (i := 13) (by decide +kernel)) rfl, by decide +kernel⟩
theorem kS_J1_charAt_3b067 : CSt yJ1_charAt_3b067 cJ1_charAt_3b067 2 (some .char) 2 := ⟨TB_of (List.mem_of_getElem? (i := 454) (by decide +kernel)) rfl, TB_of (List.mem_of_getElem? (i := 453) (by decide +kernel)) rfl, TB_of (List.mem_of_getElem? (i := 13) (by decide +kernel)) rfl, by decide +kernel⟩
theorem kS_J1_indexOfChar_4cfef : CSt yJ1_indexOfChar_4cfef cJ1_indexOfChar_4cfef 6 (some .int) 4 := ⟨TB_of (List.mem_of_getElem? (i := 393) (by decide +kernel)) rfl, TB_of (List.mem_of_getElem? (i := 392) (by decide +kernel)) rfl, TB_of (List.mem_of_getElem? (i := 13) (by decide +kernel)) rfl, by decide +kernel⟩
theorem kS_J1_indexOf_4cfef : CSt yJ1_indexOf_4cfef cJ1_indexOf_4cfef 4 (some .int) 4 := ⟨TB_of (List.mem_of_getElem? (i := 381) (by decide +kernel)) rfl, TB_of (List.mem_of_getElem? (i := 380) (by decide +kernel)) rfl, TB_of (List.mem_of_getElem? (i := 13) (by decide +kernel)) rfl, by decide +kernel⟩
theorem kS_J3_checkIndex_8e157 : CSt yJ3_checkIndex_8e157 cJ3_checkIndex_8e157 3 (some .int) 3 := ⟨TB_of (List.mem_of_getElem? (i := 460) (by decide +kernel)) rfl, TB_of (List.mem_of_getElem? (i := 459) (by decide +kernel)) rfl, TB_of (List.mem_of_getElem? (i := 15) (by decide +kernel)) rfl, by decide +kernel⟩
theorem kS_J6_bitCount_0f7a4 : CSt yJ6_bitCount_0f7a4 cJ6_bitCount_0f7a4 1 (some .int) 1 := ⟨TB_of (List.mem_of_getElem? (i := 302) (by decide +kernel)) rfl, TB_of (List.mem_of_getElem? (i := 301) (by decide +kernel)) rfl, TB_of (List.mem_of_getElem? (i := 11) (by decide +kernel)) rfl, by decide +kernel⟩
theorem kS_J7_fill_53178 : CSt yJ7_fill_53178 cJ7_fill_53178 4 none 2 := ⟨TB_of (List.mem_of_getElem? (i := 267) (by decide +kernel)) rfl, TB_of (List.mem_of_getElem? (i := 266) (by decide +kernel)) rfl, TB_of (List.mem_of_getElem? (i := 9) (by decide +kernel)) rfl, by decide +kernel⟩
theorem kV_X0_answersForItself : CVt yX0_answersForItself cX0_answersForItself 3 (some .boolean) RX0 1 := ⟨TB_of (List.mem_of_getElem? (i := 602) (by decide +kernel)) rfl, TB_of (List.mem_of_getElem? (i := 600) (by decide +kernel)) rfl, TB_of (List.mem_of_getElem? (i := 601) (by decide +kernel)) rfl, TB_of (List.mem_of_getElem? (i := 6) (by decide +kernel)) rfl, by decide +kernel⟩
theorem kV_X0_firmness : CVt yX0_firmness cX0_firmness 6 (some .int) RX0 1 := ⟨TB_of (List.mem_of_getElem? (i := 648) (by decide +kernel)) rfl, TB_of (List.mem_of_getElem? (i := 646) (by decide +kernel)) rfl, TB_of (List.mem_of_getElem? (i := 647) (by decide +kernel)) rfl, TB_of (List.mem_of_getElem? (i := 6) (by decide +kernel)) rfl, by decide +kernel⟩
theorem kV_X0_fullSet : CVt yX0_fullSet cX0_fullSet 4 (some .int) RX0 1 := ⟨TB_of (List.mem_of_getElem? (i := 640) (by decide +kernel)) rfl, TB_of (List.mem_of_getElem? (i := 638) (by decide +kernel)) rfl, TB_of (List.mem_of_getElem? (i := 639) (by decide +kernel)) rfl, TB_of (List.mem_of_getElem? (i := 6) (by decide +kernel)) rfl, by decide +kernel⟩
theorem kV_X0_fullSets : CVt yX0_fullSets cX0_fullSets 3 (some .int) RX0 0 := ⟨TB_of (List.mem_of_getElem? (i := 632) (by decide +kernel)) rfl, TB_of (List.mem_of_getElem? (i := 630) (by decide +kernel)) rfl, TB_of (List.mem_of_getElem? (i := 631) (by decide +kernel)) rfl, TB_of (List.mem_of_getElem? (i := 6) (by decide +kernel)) rfl, by decide +kernel⟩
theorem kV_X0_hasGreater : CVt yX0_hasGreater cX0_hasGreater 4 (some .boolean) RX0 1 := ⟨TB_of (List.mem_of_getElem? (i := 628) (by decide +kernel)) rfl, TB_of (List.mem_of_getElem? (i := 627) (by decide +kernel)) rfl, TB_sel (List.mem_of_getElem? (i := 23) (by decide +kernel)) rfl, TB_of (List.mem_of_getElem? (i := 6) (by decide +kernel)) rfl, by decide +kernel⟩
theorem kV_X0_isFullSet : CVt yX0_isFullSet cX0_isFullSet 2 (some .boolean) RX0 1 := ⟨TB_of (List.mem_of_getElem? (i := 636) (by decide +kernel)) rfl, TB_of (List.mem_of_getElem? (i := 635) (by decide +kernel)) rfl, TB_sel (List.mem_of_getElem? (i := 24) (by decide +kernel)) rfl, TB_of (List.mem_of_getElem? (i := 6) (by decide +kernel)) rfl, by decide +kernel⟩
theorem kV_X0_leastSet : CVt yX0_leastSet cX0_leastSet 4 (some .int) RX0 0 := ⟨TB_of (List.mem_of_getElem? (i := 611) (by decide +kernel)) rfl, TB_of (List.mem_of_getElem? (i := 609) (by decide +kernel)) rfl, TB_of (List.mem_of_getElem? (i := 610) (by decide +kernel)) rfl, TB_of (List.mem_of_getElem? (i := 6) (by decide +kernel)) rfl, by decide +kernel⟩
theorem kV_X0_markFullSets : CVt yX0_markFullSets cX0_markFullSets 3 none RX0 0 := ⟨TB_of (List.mem_of_getElem? (i := 623) (by decide +kernel)) rfl, TB_of (List.mem_of_getElem? (i := 621) (by decide +kernel)) rfl, TB_of (List.mem_of_getElem? (i := 622) (by decide +kernel)) rfl, TB_of (List.mem_of_getElem? (i := 6) (by decide +kernel)) rfl, by decide +kernel⟩
theorem kV_X0_meetEarlier : CVt yX0_meetEarlier cX0_meetEarlier 4 none RX0 2 := ⟨TB_of (List.mem_of_getElem? (i := 578) (by decide +kernel)) rfl, TB_of (List.mem_of_getElem? (i := 577) (by decide +kernel)) rfl, TB_sel (List.mem_of_getElem? (i := 18) (by decide +kernel)) rfl, TB_of (List.mem_of_getElem? (i := 6) (by decide +kernel)) rfl, by decide +kernel⟩
theorem kV_X0_meetFoe : CVt yX0_meetFoe cX0_meetFoe 5 none RX0 3 := ⟨TB_of (List.mem_of_getElem? (i := 582) (by decide +kernel)) rfl, TB_of (List.mem_of_getElem? (i := 581) (by decide +kernel)) rfl, TB_sel (List.mem_of_getElem? (i := 19) (by decide +kernel)) rfl, TB_of (List.mem_of_getElem? (i := 6) (by decide +kernel)) rfl, by decide +kernel⟩
theorem kV_X0_onRings : CVt yX0_onRings cX0_onRings 3 (some .int) RX0 0 := ⟨TB_of (List.mem_of_getElem? (i := 656) (by decide +kernel)) rfl, TB_of (List.mem_of_getElem? (i := 654) (by decide +kernel)) rfl, TB_of (List.mem_of_getElem? (i := 655) (by decide +kernel)) rfl, TB_of (List.mem_of_getElem? (i := 6) (by decide +kernel)) rfl, by decide +kernel⟩
theorem kV_X0_strike : CVt yX0_strike cX0_strike 3 none RX0 2 := ⟨TB_of (List.mem_of_getElem? (i := 586) (by decide +kernel)) rfl, TB_of (List.mem_of_getElem? (i := 585) (by decide +kernel)) rfl, TB_sel (List.mem_of_getElem? (i := 20) (by decide +kernel)) rfl, TB_of (List.mem_of_getElem? (i := 6) (by decide +kernel)) rfl, by decide +kernel⟩
theorem kV_X0_struckBy : CVt yX0_struckBy cX0_struckBy 2 (some .int) RX0 1 := ⟨TB_of (List.mem_of_getElem? (i := 590) (by decide +kernel)) rfl, TB_of (List.mem_of_getElem? (i := 588) (by decide +kernel)) rfl, TB_of (List.mem_of_getElem? (i := 589) (by decide +kernel)) rfl, TB_of (List.mem_of_getElem? (i := 6) (by decide +kernel)) rfl, by decide +kernel⟩
theorem kV_X0_takeUp : CVt yX0_takeUp cX0_takeUp 4 none RX0 2 := ⟨TB_of (List.mem_of_getElem? (i := 573) (by decide +kernel)) rfl, TB_of (List.mem_of_getElem? (i := 571) (by decide +kernel)) rfl, TB_of (List.mem_of_getElem? (i := 572) (by decide +kernel)) rfl, TB_of (List.mem_of_getElem? (i := 6) (by decide +kernel)) rfl, by decide +kernel⟩
theorem kV_X0_unionOver : CVt yX0_unionOver cX0_unionOver 5 (some .int) RX0 2 := ⟨TB_of (List.mem_of_getElem? (i := 594) (by decide +kernel)) rfl, TB_of (List.mem_of_getElem? (i := 593) (by decide +kernel)) rfl, TB_sel (List.mem_of_getElem? (i := 21) (by decide +kernel)) rfl, TB_of (List.mem_of_getElem? (i := 6) (by decide +kernel)) rfl, by decide +kernel⟩
theorem kV_X0_unstruckBut : CVt yX0_unstruckBut cX0_unstruckBut 4 (some .int) RX0 1 := ⟨TB_of (List.mem_of_getElem? (i := 615) (by decide +kernel)) rfl, TB_of (List.mem_of_getElem? (i := 614) (by decide +kernel)) rfl, TB_sel (List.mem_of_getElem? (i := 22) (by decide +kernel)) rfl, TB_of (List.mem_of_getElem? (i := 6) (by decide +kernel)) rfl, by decide +kernel⟩
theorem kV_X1_beElsewhere : CVt yX1_beElsewhere cX1_beElsewhere 3 none RX1 2 := ⟨TB_of (List.mem_of_getElem? (i := 526) (by decide +kernel)) rfl, TB_of (List.mem_of_getElem? (i := 525) (by decide +kernel)) rfl, TB_sel (List.mem_of_getElem? (i := 14) (by decide +kernel)) rfl, TB_of (List.mem_of_getElem? (i := 5) (by decide +kernel)) rfl, by decide +kernel⟩
theorem kV_X1_begin : CVt yX1_begin cX1_begin 1 none RX1 0 := ⟨TB_of (List.mem_of_getElem? (i := 505) (by decide +kernel)) rfl, TB_of (List.mem_of_getElem? (i := 503) (by decide +kernel)) rfl, TB_of (List.mem_of_getElem? (i := 504) (by decide +kernel)) rfl, TB_of (List.mem_of_getElem? (i := 5) (by decide +kernel)) rfl, by decide +kernel⟩
theorem kV_X1_byNumbers : CVt yX1_byNumbers cX1_byNumbers 4 none RX1 2 := ⟨TB_of (List.mem_of_getElem? (i := 501) (by decide +kernel)) rfl, TB_of (List.mem_of_getElem? (i := 499) (by decide +kernel)) rfl, TB_of (List.mem_of_getElem? (i := 500) (by decide +kernel)) rfl, TB_of (List.mem_of_getElem? (i := 5) (by decide +kernel)) rfl, by decide +kernel⟩
theorem kV_X1_fallen : CVt yX1_fallen cX1_fallen 6 (some .int) RX1 3 := ⟨TB_of (List.mem_of_getElem? (i := 522) (by decide +kernel)) rfl, TB_of (List.mem_of_getElem? (i := 521) (by decide +kernel)) rfl, TB_sel (List.mem_of_getElem? (i := 13) (by decide +kernel)) rfl, TB_of (List.mem_of_getElem? (i := 5) (by decide +kernel)) rfl, by decide +kernel⟩
theorem kV_X1_hangingOn : CVt yX1_hangingOn cX1_hangingOn 5 (some .int) RX1 3 := ⟨TB_of (List.mem_of_getElem? (i := 677) (by decide +kernel)) rfl, TB_of (List.mem_of_getElem? (i := 675) (by decide +kernel)) rfl, TB_of (List.mem_of_getElem? (i := 676) (by decide +kernel)) rfl, TB_of (List.mem_of_getElem? (i := 5) (by decide +kernel)) rfl, by decide +kernel⟩
theorem kV_X1_hearNext : CVt yX1_hearNext cX1_hearNext 3 none RX1 2 := ⟨TB_of (List.mem_of_getElem? (i := 509) (by decide +kernel)) rfl, TB_of (List.mem_of_getElem? (i := 507) (by decide +kernel)) rfl, TB_of (List.mem_of_getElem? (i := 508) (by decide +kernel)) rfl, TB_of (List.mem_of_getElem? (i := 5) (by decide +kernel)) rfl, by decide +kernel⟩
theorem kV_X1_isAble : CVt yX1_isAble cX1_isAble 4 (some .boolean) RX1 2 := ⟨TB_of (List.mem_of_getElem? (i := 513) (by decide +kernel)) rfl, TB_of (List.mem_of_getElem? (i := 512) (by decide +kernel)) rfl, TB_sel (List.mem_of_getElem? (i := 11) (by decide +kernel)) rfl, TB_of (List.mem_of_getElem? (i := 5) (by decide +kernel)) rfl, by decide +kernel⟩
theorem kV_X1_onHead : CVt yX1_onHead cX1_onHead 4 (some .int) RX1 1 := ⟨TB_of (List.mem_of_getElem? (i := 552) (by decide +kernel)) rfl, TB_of (List.mem_of_getElem? (i := 550) (by decide +kernel)) rfl, TB_of (List.mem_of_getElem? (i := 551) (by decide +kernel)) rfl, TB_of (List.mem_of_getElem? (i := 5) (by decide +kernel)) rfl, by decide +kernel⟩
theorem kV_X1_ordersWith : CVt yX1_ordersWith cX1_ordersWith 11 (some .int) RX1 4 := ⟨TB_of (List.mem_of_getElem? (i := 564) (by decide +kernel)) rfl, TB_of (List.mem_of_getElem? (i := 563) (by decide +kernel)) rfl, TB_sel (List.mem_of_getElem? (i := 17) (by decide +kernel)) rfl, TB_of (List.mem_of_getElem? (i := 5) (by decide +kernel)) rfl, by decide +kernel⟩
theorem kV_X1_outcome : CVt yX1_outcome cX1_outcome 2 (some .int) RX1 1 := ⟨TB_of (List.mem_of_getElem? (i := 534) (by decide +kernel)) rfl, TB_of (List.mem_of_getElem? (i := 532) (by decide +kernel)) rfl, TB_of (List.mem_of_getElem? (i := 533) (by decide +kernel)) rfl, TB_of (List.mem_of_getElem? (i := 5) (by decide +kernel)) rfl, by decide +kernel⟩
theorem kV_X1_quarrel : CVt yX1_quarrel cX1_quarrel 5 none RX1 2 := ⟨TB_of (List.mem_of_getElem? (i := 518) (by decide +kernel)) rfl, TB_of (List.mem_of_getElem? (i := 517) (by decide +kernel)) rfl, TB_sel (List.mem_of_getElem? (i := 12) (by decide +kernel)) rfl, TB_of (List.mem_of_getElem? (i := 5) (by decide +kernel)) rfl, by decide +kernel⟩
theorem kV_X1_undo : CVt yX1_undo cX1_undo 3 none RX1 2 := ⟨TB_of (List.mem_of_getElem? (i := 530) (by decide +kernel)) rfl, TB_of (List.mem_of_getElem? (i := 529) (by decide +kernel)) rfl, TB_sel (List.mem_of_getElem? (i := 15) (by decide +kernel)) rfl, TB_of (List.mem_of_getElem? (i := 5) (by decide +kernel)) rfl, by decide +kernel⟩
theorem kV_X2_append : CVt yX2_append cX2_append 2 none RX2 1 := ⟨TB_of (List.mem_of_getElem? (i := 343) (by decide +kernel)) rfl, TB_of (List.mem_of_getElem? (i := 341) (by decide +kernel)) rfl, TB_of (List.mem_of_getElem? (i := 342) (by decide +kernel)) rfl, TB_of (List.mem_of_getElem? (i := 4) (by decide +kernel)) rfl, by decide +kernel⟩
theorem kV_X2_empty : CVt yX2_empty cX2_empty 1 none RX2 0 := ⟨TB_of (List.mem_of_getElem? (i := 480) (by decide +kernel)) rfl, TB_of (List.mem_of_getElem? (i := 478) (by decide +kernel)) rfl, TB_of (List.mem_of_getElem? (i := 479) (by decide +kernel)) rfl, TB_of (List.mem_of_getElem? (i := 4) (by decide +kernel)) rfl, by decide +kernel⟩
theorem kV_X2_fits : CVt yX2_fits cX2_fits 2 (some .boolean) RX2 1 := ⟨TB_of (List.mem_of_getElem? (i := 355) (by decide +kernel)) rfl, TB_of (List.mem_of_getElem? (i := 354) (by decide +kernel)) rfl, TB_sel (List.mem_of_getElem? (i := 9) (by decide +kernel)) rfl, TB_of (List.mem_of_getElem? (i := 4) (by decide +kernel)) rfl, by decide +kernel⟩
theorem kS_X2_isFigureOf : CSt yX2_isFigureOf cX2_isFigureOf 2 (some .boolean) 2 := ⟨TB_of (List.mem_of_getElem? (i := 445) (by decide +kernel)) rfl, TB_of (List.mem_of_getElem? (i := 444) (by decide +kernel)) rfl, TB_of (List.mem_of_getElem? (i := 4) (by decide +kernel)) rfl, by decide +kernel⟩
theorem kV_X2_saysTheSameAs : CVt yX2_saysTheSameAs cX2_saysTheSameAs 2 (some .boolean) RX2 1 := ⟨TB_of (List.mem_of_getElem? (i := 697) (by decide +kernel)) rfl, TB_of (List.mem_of_getElem? (i := 695) (by decide +kernel)) rfl, TB_of (List.mem_of_getElem? (i := 696) (by decide +kernel)) rfl, TB_of (List.mem_of_getElem? (i := 4) (by decide +kernel)) rfl, by decide +kernel⟩
theorem kV_X2_seekFault : CVt yX2_seekFault cX2_seekFault 2 (some .int) RX2 0 := ⟨TB_of (List.mem_of_getElem? (i := 351) (by decide +kernel)) rfl, TB_of (List.mem_of_getElem? (i := 350) (by decide +kernel)) rfl, TB_sel (List.mem_of_getElem? (i := 8) (by decide +kernel)) rfl, TB_of (List.mem_of_getElem? (i := 4) (by decide +kernel)) rfl, by decide +kernel⟩
theorem kV_X2_takePart : CVt yX2_takePart cX2_takePart 3 none RX2 2 := ⟨TB_of (List.mem_of_getElem? (i := 472) (by decide +kernel)) rfl, TB_of (List.mem_of_getElem? (i := 471) (by decide +kernel)) rfl, TB_sel (List.mem_of_getElem? (i := 10) (by decide +kernel)) rfl, TB_of (List.mem_of_getElem? (i := 4) (by decide +kernel)) rfl, by decide +kernel⟩
theorem kV_X2_understand : CVt yX2_understand cX2_understand 2 none RX2 0 := ⟨TB_of (List.mem_of_getElem? (i := 347) (by decide +kernel)) rfl, TB_of (List.mem_of_getElem? (i := 346) (by decide +kernel)) rfl, TB_sel (List.mem_of_getElem? (i := 7) (by decide +kernel)) rfl, TB_of (List.mem_of_getElem? (i := 4) (by decide +kernel)) rfl, by decide +kernel⟩
theorem kV_X3_between : CVt yX3_between cX3_between 3 (some .int) RX3 2 := ⟨TB_of (List.mem_of_getElem? (i := 275) (by decide +kernel)) rfl, TB_of (List.mem_of_getElem? (i := 273) (by decide +kernel)) rfl, TB_of (List.mem_of_getElem? (i := 274) (by decide +kernel)) rfl, TB_of (List.mem_of_getElem? (i := 2) (by decide +kernel)) rfl, by decide +kernel⟩
theorem kV_X3_build : CVt yX3_build cX3_build 5 (some .int) RX3 3 := ⟨TB_of (List.mem_of_getElem? (i := 260) (by decide +kernel)) rfl, TB_of (List.mem_of_getElem? (i := 258) (by decide +kernel)) rfl, TB_of (List.mem_of_getElem? (i := 259) (by decide +kernel)) rfl, TB_of (List.mem_of_getElem? (i := 2) (by decide +kernel)) rfl, by decide +kernel⟩
theorem kV_X3_number : CVt yX3_number cX3_number 4 (some .int) RX3 0 := ⟨TB_of (List.mem_of_getElem? (i := 756) (by decide +kernel)) rfl, TB_of (List.mem_of_getElem? (i := 754) (by decide +kernel)) rfl, TB_of (List.mem_of_getElem? (i := 755) (by decide +kernel)) rfl, TB_of (List.mem_of_getElem? (i := 2) (by decide +kernel)) rfl, by decide +kernel⟩
theorem kV_X3_seekQuickest : CVt yX3_seekQuickest cX3_seekQuickest 4 none RX3 0 := ⟨TB_of (List.mem_of_getElem? (i := 35) (by decide +kernel)) rfl, TB_of (List.mem_of_getElem? (i := 34) (by decide +kernel)) rfl, TB_sel (List.mem_of_getElem? (i := 0) (by decide +kernel)) rfl, TB_of (List.mem_of_getElem? (i := 2) (by decide +kernel)) rfl, by decide +kernel⟩
theorem kV_X3_shortenThrough : CVt yX3_shortenThrough cX3_shortenThrough 5 none RX3 1 := ⟨TB_of (List.mem_of_getElem? (i := 39) (by decide +kernel)) rfl, TB_of (List.mem_of_getElem? (i := 38) (by decide +kernel)) rfl, TB_sel (List.mem_of_getElem? (i := 1) (by decide +kernel)) rfl, TB_of (List.mem_of_getElem? (i := 2) (by decide +kernel)) rfl, by decide +kernel⟩
theorem kV_X4_findingOf : CVt yX4_findingOf cX4_findingOf 3 (some .int) RX4 2 := ⟨TB_of (List.mem_of_getElem? (i := 725) (by decide +kernel)) rfl, TB_of (List.mem_of_getElem? (i := 723) (by decide +kernel)) rfl, TB_of (List.mem_of_getElem? (i := 724) (by decide +kernel)) rfl, TB_of (List.mem_of_getElem? (i := 7) (by decide +kernel)) rfl, by decide +kernel⟩
theorem kV_X4_holds : CVt yX4_holds cX4_holds 3 (some .boolean) RX4 2 := ⟨TB_of (List.mem_of_getElem? (i := 742) (by decide +kernel)) rfl, TB_of (List.mem_of_getElem? (i := 740) (by decide +kernel)) rfl, TB_of (List.mem_of_getElem? (i := 741) (by decide +kernel)) rfl, TB_of (List.mem_of_getElem? (i := 7) (by decide +kernel)) rfl, by decide +kernel⟩
theorem kV_X4_renew : CVt yX4_renew cX4_renew 3 none RX4 2 := ⟨TB_of (List.mem_of_getElem? (i := 712) (by decide +kernel)) rfl, TB_of (List.mem_of_getElem? (i := 710) (by decide +kernel)) rfl, TB_of (List.mem_of_getElem? (i := 711) (by decide +kernel)) rfl, TB_of (List.mem_of_getElem? (i := 7) (by decide +kernel)) rfl, by decide +kernel⟩
theorem kV_X4_set : CVt yX4_set cX4_set 3 none RX4 2 := ⟨TB_of (List.mem_of_getElem? (i := 729) (by decide +kernel)) rfl, TB_of (List.mem_of_getElem? (i := 727) (by decide +kernel)) rfl, TB_of (List.mem_of_getElem? (i := 728) (by decide +kernel)) rfl, TB_of (List.mem_of_getElem? (i := 7) (by decide +kernel)) rfl, by decide +kernel⟩
theorem kV_X5_all : CVt yX5_all cX5_all 1 (some .int) RX5 0 := ⟨TB_of (List.mem_of_getElem? (i := 331) (by decide +kernel)) rfl, TB_of (List.mem_of_getElem? (i := 329) (by decide +kernel)) rfl, TB_of (List.mem_of_getElem? (i := 330) (by decide +kernel)) rfl, TB_of (List.mem_of_getElem? (i := 3) (by decide +kernel)) rfl, by decide +kernel⟩
theorem kV_X5_has : CVt yX5_has cX5_has 2 (some .boolean) RX5 1 := ⟨TB_of (List.mem_of_getElem? (i := 295) (by decide +kernel)) rfl, TB_of (List.mem_of_getElem? (i := 293) (by decide +kernel)) rfl, TB_of (List.mem_of_getElem? (i := 294) (by decide +kernel)) rfl, TB_of (List.mem_of_getElem? (i := 3) (by decide +kernel)) rfl, by decide +kernel⟩
theorem kV_X5_heardOnes : CVt yX5_heardOnes cX5_heardOnes 1 (some .int) RX5 0 := ⟨TB_of (List.mem_of_getElem? (i := 496) (by decide +kernel)) rfl, TB_of (List.mem_of_getElem? (i := 494) (by decide +kernel)) rfl, TB_of (List.mem_of_getElem? (i := 495) (by decide +kernel)) rfl, TB_of (List.mem_of_getElem? (i := 3) (by decide +kernel)) rfl, by decide +kernel⟩
theorem kV_X5_isTooFar : CVt yX5_isTooFar cX5_isTooFar 4 (some .boolean) RX5 3 := ⟨TB_of (List.mem_of_getElem? (i := 271) (by decide +kernel)) rfl, TB_of (List.mem_of_getElem? (i := 270) (by decide +kernel)) rfl, TB_sel (List.mem_of_getElem? (i := 2) (by decide +kernel)) rfl, TB_of (List.mem_of_getElem? (i := 3) (by decide +kernel)) rfl, by decide +kernel⟩
theorem kV_X5_longestChain : CVt yX5_longestChain cX5_longestChain 4 (some .int) RX5 1 := ⟨TB_of (List.mem_of_getElem? (i := 667) (by decide +kernel)) rfl, TB_of (List.mem_of_getElem? (i := 665) (by decide +kernel)) rfl, TB_of (List.mem_of_getElem? (i := 666) (by decide +kernel)) rfl, TB_of (List.mem_of_getElem? (i := 3) (by decide +kernel)) rfl, by decide +kernel⟩
theorem kV_X5_tell : CVt yX5_tell cX5_tell 8 (some .int) RX5 6 := ⟨TB_of (List.mem_of_getElem? (i := 299) (by decide +kernel)) rfl, TB_of (List.mem_of_getElem? (i := 297) (by decide +kernel)) rfl, TB_of (List.mem_of_getElem? (i := 298) (by decide +kernel)) rfl, TB_of (List.mem_of_getElem? (i := 3) (by decide +kernel)) rfl, by decide +kernel⟩
theorem kV_X5_weighAll : CVt yX5_weighAll cX5_weighAll 3 none RX5 1 := ⟨TB_of (List.mem_of_getElem? (i := 264) (by decide +kernel)) rfl, TB_of (List.mem_of_getElem? (i := 262) (by decide +kernel)) rfl, TB_of (List.mem_of_getElem? (i := 263) (by decide +kernel)) rfl, TB_of (List.mem_of_getElem? (i := 3) (by decide +kernel)) rfl, by decide +kernel⟩
theorem kV_X6_count : CVt yX6_count cX6_count 2 (some .int) RX6 1 := ⟨TB_of (List.mem_of_getElem? (i := 752) (by decide +kernel)) rfl, TB_of (List.mem_of_getElem? (i := 750) (by decide +kernel)) rfl, TB_of (List.mem_of_getElem? (i := 751) (by decide +kernel)) rfl, TB_of (List.mem_of_getElem? (i := 1) (by decide +kernel)) rfl, by decide +kernel⟩
theorem kV_X6_digestOfLaw : CVt yX6_digestOfLaw cX6_digestOfLaw 7 (some .long) RX6 2 := ⟨TB_of (List.mem_of_getElem? (i := 768) (by decide +kernel)) rfl, TB_of (List.mem_of_getElem? (i := 767) (by decide +kernel)) rfl, TB_sel (List.mem_of_getElem? (i := 26) (by decide +kernel)) rfl, TB_of (List.mem_of_getElem? (i := 1) (by decide +kernel)) rfl, by decide +kernel⟩
theorem kS_X6_factorial : CSt yX6_factorial cX6_factorial 3 (some .int) 1 := ⟨TB_of (List.mem_of_getElem? (i := 560) (by decide +kernel)) rfl, TB_of (List.mem_of_getElem? (i := 559) (by decide +kernel)) rfl, TB_of (List.mem_of_getElem? (i := 1) (by decide +kernel)) rfl, by decide +kernel⟩
theorem kV_X6_fault : CVt yX6_fault cX6_fault 3 (some .int) RX6 1 := ⟨TB_of (List.mem_of_getElem? (i := 484) (by decide +kernel)) rfl, TB_of (List.mem_of_getElem? (i := 482) (by decide +kernel)) rfl, TB_of (List.mem_of_getElem? (i := 483) (by decide +kernel)) rfl, TB_of (List.mem_of_getElem? (i := 1) (by decide +kernel)) rfl, by decide +kernel⟩
theorem kV_X6_find : CVt yX6_find cX6_find 2 (some .int) RX6 1 := ⟨TB_of (List.mem_of_getElem? (i := 318) (by decide +kernel)) rfl, TB_of (List.mem_of_getElem? (i := 317) (by decide +kernel)) rfl, TB_sel (List.mem_of_getElem? (i := 5) (by decide +kernel)) rfl, TB_of (List.mem_of_getElem? (i := 1) (by decide +kernel)) rfl, by decide +kernel⟩
theorem kV_X6_full : CVt yX6_full cX6_full 4 (some .int) RX6 2 := ⟨TB_of (List.mem_of_getElem? (i := 619) (by decide +kernel)) rfl, TB_of (List.mem_of_getElem? (i := 617) (by decide +kernel)) rfl, TB_of (List.mem_of_getElem? (i := 618) (by decide +kernel)) rfl, TB_of (List.mem_of_getElem? (i := 1) (by decide +kernel)) rfl, by decide +kernel⟩
theorem kV_X6_heard : CVt yX6_heard cX6_heard 4 (some .int) RX6 2 := ⟨TB_of (List.mem_of_getElem? (i := 492) (by decide +kernel)) rfl, TB_of (List.mem_of_getElem? (i := 490) (by decide +kernel)) rfl, TB_of (List.mem_of_getElem? (i := 491) (by decide +kernel)) rfl, TB_of (List.mem_of_getElem? (i := 1) (by decide +kernel)) rfl, by decide +kernel⟩
theorem kV_X6_is : CVt yX6_is cX6_is 3 (some .int) RX6 2 := ⟨TB_of (List.mem_of_getElem? (i := 323) (by decide +kernel)) rfl, TB_of (List.mem_of_getElem? (i := 321) (by decide +kernel)) rfl, TB_of (List.mem_of_getElem? (i := 322) (by decide +kernel)) rfl, TB_of (List.mem_of_getElem? (i := 1) (by decide +kernel)) rfl, by decide +kernel⟩
theorem kS_X6_isFewer : CSt yX6_isFewer cX6_isFewer 2 (some .boolean) 2 := ⟨TB_of (List.mem_of_getElem? (i := 689) (by decide +kernel)) rfl, TB_of (List.mem_of_getElem? (i := 688) (by decide +kernel)) rfl, TB_of (List.mem_of_getElem? (i := 1) (by decide +kernel)) rfl, by decide +kernel⟩
theorem kS_X6_isForm : CSt yX6_isForm cX6_isForm 1 (some .boolean) 1 := ⟨TB_of (List.mem_of_getElem? (i := 708) (by decide +kernel)) rfl, TB_of (List.mem_of_getElem? (i := 707) (by decide +kernel)) rfl, TB_of (List.mem_of_getElem? (i := 1) (by decide +kernel)) rfl, by decide +kernel⟩
theorem kV_X6_isHeardUnlike : CVt yX6_isHeardUnlike cX6_isHeardUnlike 3 (some .boolean) RX6 1 := ⟨TB_of (List.mem_of_getElem? (i := 701) (by decide +kernel)) rfl, TB_of (List.mem_of_getElem? (i := 700) (by decide +kernel)) rfl, TB_sel (List.mem_of_getElem? (i := 25) (by decide +kernel)) rfl, TB_of (List.mem_of_getElem? (i := 1) (by decide +kernel)) rfl, by decide +kernel⟩
theorem kV_X6_isOrder : CVt yX6_isOrder cX6_isOrder 5 (some .boolean) RX6 1 := ⟨TB_of (List.mem_of_getElem? (i := 542) (by decide +kernel)) rfl, TB_of (List.mem_of_getElem? (i := 541) (by decide +kernel)) rfl, TB_sel (List.mem_of_getElem? (i := 16) (by decide +kernel)) rfl, TB_of (List.mem_of_getElem? (i := 1) (by decide +kernel)) rfl, by decide +kernel⟩
theorem kS_X6_isTown : CSt yX6_isTown cX6_isTown 1 (some .boolean) 1 := ⟨TB_of (List.mem_of_getElem? (i := 256) (by decide +kernel)) rfl, TB_of (List.mem_of_getElem? (i := 255) (by decide +kernel)) rfl, TB_of (List.mem_of_getElem? (i := 1) (by decide +kernel)) rfl, by decide +kernel⟩
theorem kV_X6_law : CVt yX6_law cX6_law 4 (some .int) RX6 2 := ⟨TB_of (List.mem_of_getElem? (i := 488) (by decide +kernel)) rfl, TB_of (List.mem_of_getElem? (i := 486) (by decide +kernel)) rfl, TB_of (List.mem_of_getElem? (i := 487) (by decide +kernel)) rfl, TB_of (List.mem_of_getElem? (i := 1) (by decide +kernel)) rfl, by decide +kernel⟩
theorem kV_X6_lawOf : CVt yX6_lawOf cX6_lawOf 2 (some (.object "HeardWords$Law")) RX6 1 := ⟨TB_of (List.mem_of_getElem? (i := 339) (by decide +kernel)) rfl, TB_of (List.mem_of_getElem? (i := 338) (by decide +kernel)) rfl, TB_sel (List.mem_of_getElem? (i := 6) (by decide +kernel)) rfl, TB_of (List.mem_of_getElem? (i := 1) (by decide +kernel)) rfl, by decide +kernel⟩
theorem kV_X6_least : CVt yX6_least cX6_least 3 (some .int) RX6 1 := ⟨TB_of (List.mem_of_getElem? (i := 607) (by decide +kernel)) rfl, TB_of (List.mem_of_getElem? (i := 605) (by decide +kernel)) rfl, TB_of (List.mem_of_getElem? (i := 606) (by decide +kernel)) rfl, TB_of (List.mem_of_getElem? (i := 1) (by decide +kernel)) rfl, by decide +kernel⟩
theorem kV_X6_mayBeTold : CVt yX6_mayBeTold cX6_mayBeTold 6 (some .boolean) RX6 5 := ⟨TB_of (List.mem_of_getElem? (i := 291) (by decide +kernel)) rfl, TB_of (List.mem_of_getElem? (i := 290) (by decide +kernel)) rfl, TB_sel (List.mem_of_getElem? (i := 3) (by decide +kernel)) rfl, TB_of (List.mem_of_getElem? (i := 1) (by decide +kernel)) rfl, by decide +kernel⟩
theorem kV_X6_most : CVt yX6_most cX6_most 6 (some .int) RX6 0 := ⟨TB_of (List.mem_of_getElem? (i := 682) (by decide +kernel)) rfl, TB_of (List.mem_of_getElem? (i := 680) (by decide +kernel)) rfl, TB_of (List.mem_of_getElem? (i := 681) (by decide +kernel)) rfl, TB_of (List.mem_of_getElem? (i := 1) (by decide +kernel)) rfl, by decide +kernel⟩
theorem kV_X6_ring : CVt yX6_ring cX6_ring 1 (some .int) RX6 0 := ⟨TB_of (List.mem_of_getElem? (i := 652) (by decide +kernel)) rfl, TB_of (List.mem_of_getElem? (i := 650) (by decide +kernel)) rfl, TB_of (List.mem_of_getElem? (i := 651) (by decide +kernel)) rfl, TB_of (List.mem_of_getElem? (i := 1) (by decide +kernel)) rfl, by decide +kernel⟩
theorem kV_X6_sheetOf : CVt yX6_sheetOf cX6_sheetOf 2 (some (.object "HeardWords$Sheet")) RX6 1 := ⟨TB_of (List.mem_of_getElem? (i := 314) (by decide +kernel)) rfl, TB_of (List.mem_of_getElem? (i := 313) (by decide +kernel)) rfl, TB_sel (List.mem_of_getElem? (i := 4) (by decide +kernel)) rfl, TB_of (List.mem_of_getElem? (i := 1) (by decide +kernel)) rfl, by decide +kernel⟩
theorem kV_X6_word : CVt yX6_word cX6_word 6 (some .int) RX6 5 := ⟨TB_of (List.mem_of_getElem? (i := 287) (by decide +kernel)) rfl, TB_of (List.mem_of_getElem? (i := 285) (by decide +kernel)) rfl, TB_of (List.mem_of_getElem? (i := 286) (by decide +kernel)) rfl, TB_of (List.mem_of_getElem? (i := 1) (by decide +kernel)) rfl, by decide +kernel⟩
theorem kV_X7_adds : CVt yX7_adds cX7_adds 6 (some .int) RX7 5 := ⟨TB_of (List.mem_of_getElem? (i := 896) (by decide +kernel)) rfl, TB_of (List.mem_of_getElem? (i := 895) (by decide +kernel)) rfl, TB_sel (List.mem_of_getElem? (i := 28) (by decide +kernel)) rfl, TB_of (List.mem_of_getElem? (i := 8) (by decide +kernel)) rfl, by decide +kernel⟩
theorem kV_X7_all : CVt yX7_all cX7_all 1 (some .int) RX7 0 := ⟨TB_of (List.mem_of_getElem? (i := 934) (by decide +kernel)) rfl, TB_of (List.mem_of_getElem? (i := 933) (by decide +kernel)) rfl, TB_sel (List.mem_of_getElem? (i := 33) (by decide +kernel)) rfl, TB_of (List.mem_of_getElem? (i := 8) (by decide +kernel)) rfl, by decide +kernel⟩
theorem kV_X7_answers : CVt yX7_answers cX7_answers 4 (some .boolean) RX7 2 := ⟨TB_of (List.mem_of_getElem? (i := 1055) (by decide +kernel)) rfl, TB_of (List.mem_of_getElem? (i := 1054) (by decide +kernel)) rfl, TB_sel (List.mem_of_getElem? (i := 51) (by decide +kernel)) rfl, TB_of (List.mem_of_getElem? (i := 8) (by decide +kernel)) rfl, by decide +kernel⟩
theorem kS_X7_apart : CSt yX7_apart cX7_apart 2 (some .int) 2 := ⟨TB_of (List.mem_of_getElem? (i := 922) (by decide +kernel)) rfl, TB_of (List.mem_of_getElem? (i := 921) (by decide +kernel)) rfl, TB_of (List.mem_of_getElem? (i := 8) (by decide +kernel)) rfl, by decide +kernel⟩
theorem kV_X7_byteAt : CVt yX7_byteAt cX7_byteAt 3 (some .int) RX7 2 := ⟨TB_of (List.mem_of_getElem? (i := 965) (by decide +kernel)) rfl, TB_of (List.mem_of_getElem? (i := 964) (by decide +kernel)) rfl, TB_sel (List.mem_of_getElem? (i := 37) (by decide +kernel)) rfl, TB_of (List.mem_of_getElem? (i := 8) (by decide +kernel)) rfl, by decide +kernel⟩
theorem kV_X7_count : CVt yX7_count cX7_count 2 (some .int) RX7 1 := ⟨TB_of (List.mem_of_getElem? (i := 1160) (by decide +kernel)) rfl, TB_of (List.mem_of_getElem? (i := 1158) (by decide +kernel)) rfl, TB_of (List.mem_of_getElem? (i := 1159) (by decide +kernel)) rfl, TB_of (List.mem_of_getElem? (i := 8) (by decide +kernel)) rfl, by decide +kernel⟩
theorem kV_X7_faultOf : CVt yX7_faultOf cX7_faultOf 6 (some .int) RX7 1 := ⟨TB_of (List.mem_of_getElem? (i := 957) (by decide +kernel)) rfl, TB_of (List.mem_of_getElem? (i := 956) (by decide +kernel)) rfl, TB_sel (List.mem_of_getElem? (i := 35) (by decide +kernel)) rfl, TB_of (List.mem_of_getElem? (i := 8) (by decide +kernel)) rfl, by decide +kernel⟩
theorem kV_X7_fullNow : CVt yX7_fullNow cX7_fullNow 5 (some .int) RX7 2 := ⟨TB_of (List.mem_of_getElem? (i := 1075) (by decide +kernel)) rfl, TB_of (List.mem_of_getElem? (i := 1074) (by decide +kernel)) rfl, TB_sel (List.mem_of_getElem? (i := 54) (by decide +kernel)) rfl, TB_of (List.mem_of_getElem? (i := 8) (by decide +kernel)) rfl, by decide +kernel⟩
theorem kV_X7_hangsNow : CVt yX7_hangsNow cX7_hangsNow 3 (some .int) RX7 1 := ⟨TB_of (List.mem_of_getElem? (i := 1107) (by decide +kernel)) rfl, TB_of (List.mem_of_getElem? (i := 1106) (by decide +kernel)) rfl, TB_sel (List.mem_of_getElem? (i := 58) (by decide +kernel)) rfl, TB_of (List.mem_of_getElem? (i := 8) (by decide +kernel)) rfl, by decide +kernel⟩
theorem kS_X7_has : CSt yX7_has cX7_has 2 (some .boolean) 2 := ⟨TB_of (List.mem_of_getElem? (i := 992) (by decide +kernel)) rfl, TB_of (List.mem_of_getElem? (i := 991) (by decide +kernel)) rfl, TB_of (List.mem_of_getElem? (i := 8) (by decide +kernel)) rfl, by decide +kernel⟩
theorem kV_X7_headNow : CVt yX7_headNow cX7_headNow 4 (some .int) RX7 1 := ⟨TB_of (List.mem_of_getElem? (i := 1023) (by decide +kernel)) rfl, TB_of (List.mem_of_getElem? (i := 1022) (by decide +kernel)) rfl, TB_sel (List.mem_of_getElem? (i := 46) (by decide +kernel)) rfl, TB_of (List.mem_of_getElem? (i := 8) (by decide +kernel)) rfl, by decide +kernel⟩
theorem kV_X7_heardNow : CVt yX7_heardNow cX7_heardNow 3 (some .int) RX7 2 := ⟨TB_of (List.mem_of_getElem? (i := 977) (by decide +kernel)) rfl, TB_of (List.mem_of_getElem? (i := 976) (by decide +kernel)) rfl, TB_sel (List.mem_of_getElem? (i := 38) (by decide +kernel)) rfl, TB_of (List.mem_of_getElem? (i := 8) (by decide +kernel)) rfl, by decide +kernel⟩
theorem kV_X7_heardOnes : CVt yX7_heardOnes cX7_heardOnes 1 (some .int) RX7 0 := ⟨TB_of (List.mem_of_getElem? (i := 985) (by decide +kernel)) rfl, TB_of (List.mem_of_getElem? (i := 984) (by decide +kernel)) rfl, TB_sel (List.mem_of_getElem? (i := 40) (by decide +kernel)) rfl, TB_of (List.mem_of_getElem? (i := 8) (by decide +kernel)) rfl, by decide +kernel⟩
theorem kV_X7_hears : CVt yX7_hears cX7_hears 13 none RX7 1 := ⟨TB_of (List.mem_of_getElem? (i := 996) (by decide +kernel)) rfl, TB_of (List.mem_of_getElem? (i := 995) (by decide +kernel)) rfl, TB_sel (List.mem_of_getElem? (i := 42) (by decide +kernel)) rfl, TB_of (List.mem_of_getElem? (i := 8) (by decide +kernel)) rfl, by decide +kernel⟩
theorem kV_X7_hearsAll : CVt yX7_hearsAll cX7_hearsAll 2 none RX7 1 := ⟨TB_of (List.mem_of_getElem? (i := 981) (by decide +kernel)) rfl, TB_of (List.mem_of_getElem? (i := 980) (by decide +kernel)) rfl, TB_sel (List.mem_of_getElem? (i := 39) (by decide +kernel)) rfl, TB_of (List.mem_of_getElem? (i := 8) (by decide +kernel)) rfl, by decide +kernel⟩
theorem kV_X7_hits : CVt yX7_hits cX7_hits 6 (some .boolean) RX7 3 := ⟨TB_of (List.mem_of_getElem? (i := 1043) (by decide +kernel)) rfl, TB_of (List.mem_of_getElem? (i := 1042) (by decide +kernel)) rfl, TB_sel (List.mem_of_getElem? (i := 49) (by decide +kernel)) rfl, TB_of (List.mem_of_getElem? (i := 8) (by decide +kernel)) rfl, by decide +kernel⟩
theorem kS_X7_in : CSt yX7_in cX7_in 3 (some .boolean) 3 := ⟨TB_of (List.mem_of_getElem? (i := 880) (by decide +kernel)) rfl, TB_of (List.mem_of_getElem? (i := 879) (by decide +kernel)) rfl, TB_of (List.mem_of_getElem? (i := 8) (by decide +kernel)) rfl, by decide +kernel⟩
theorem kV_X7_isFull : CVt yX7_isFull cX7_isFull 3 (some .boolean) RX7 1 := ⟨TB_of (List.mem_of_getElem? (i := 1083) (by decide +kernel)) rfl, TB_of (List.mem_of_getElem? (i := 1082) (by decide +kernel)) rfl, TB_sel (List.mem_of_getElem? (i := 56) (by decide +kernel)) rfl, TB_of (List.mem_of_getElem? (i := 8) (by decide +kernel)) rfl, by decide +kernel⟩
theorem kS_X7_isLaw : CSt yX7_isLaw cX7_isLaw 1 (some .boolean) 1 := ⟨TB_of (List.mem_of_getElem? (i := 941) (by decide +kernel)) rfl, TB_of (List.mem_of_getElem? (i := 940) (by decide +kernel)) rfl, TB_of (List.mem_of_getElem? (i := 8) (by decide +kernel)) rfl, by decide +kernel⟩
theorem kV_X7_isNow : CVt yX7_isNow cX7_isNow 3 (some .int) RX7 2 := ⟨TB_of (List.mem_of_getElem? (i := 926) (by decide +kernel)) rfl, TB_of (List.mem_of_getElem? (i := 925) (by decide +kernel)) rfl, TB_sel (List.mem_of_getElem? (i := 32) (by decide +kernel)) rfl, TB_of (List.mem_of_getElem? (i := 8) (by decide +kernel)) rfl, by decide +kernel⟩
theorem kS_X7_isSheet : CSt yX7_isSheet cX7_isSheet 1 (some .boolean) 1 := ⟨TB_of (List.mem_of_getElem? (i := 903) (by decide +kernel)) rfl, TB_of (List.mem_of_getElem? (i := 902) (by decide +kernel)) rfl, TB_of (List.mem_of_getElem? (i := 8) (by decide +kernel)) rfl, by decide +kernel⟩
theorem kV_X7_isSound : CVt yX7_isSound cX7_isSound 3 (some .boolean) RX7 1 := ⟨TB_of (List.mem_of_getElem? (i := 1051) (by decide +kernel)) rfl, TB_of (List.mem_of_getElem? (i := 1050) (by decide +kernel)) rfl, TB_sel (List.mem_of_getElem? (i := 50) (by decide +kernel)) rfl, TB_of (List.mem_of_getElem? (i := 8) (by decide +kernel)) rfl, by decide +kernel⟩
theorem kS_X7_isTown : CSt yX7_isTown cX7_isTown 1 (some .boolean) 1 := ⟨TB_of (List.mem_of_getElem? (i := 877) (by decide +kernel)) rfl, TB_of (List.mem_of_getElem? (i := 876) (by decide +kernel)) rfl, TB_of (List.mem_of_getElem? (i := 8) (by decide +kernel)) rfl, by decide +kernel⟩
theorem kV_X7_isWord : CVt yX7_isWord cX7_isWord 2 (some .boolean) RX7 1 := ⟨TB_of (List.mem_of_getElem? (i := 915) (by decide +kernel)) rfl, TB_of (List.mem_of_getElem? (i := 914) (by decide +kernel)) rfl, TB_sel (List.mem_of_getElem? (i := 30) (by decide +kernel)) rfl, TB_of (List.mem_of_getElem? (i := 8) (by decide +kernel)) rfl, by decide +kernel⟩
theorem kV_X7_lacks : CVt yX7_lacks cX7_lacks 4 (some .int) RX7 3 := ⟨TB_of (List.mem_of_getElem? (i := 1139) (by decide +kernel)) rfl, TB_of (List.mem_of_getElem? (i := 1138) (by decide +kernel)) rfl, TB_sel (List.mem_of_getElem? (i := 60) (by decide +kernel)) rfl, TB_of (List.mem_of_getElem? (i := 8) (by decide +kernel)) rfl, by decide +kernel⟩
theorem kV_X7_lay : CVt yX7_lay cX7_lay 4 none RX7 3 := ⟨TB_of (List.mem_of_getElem? (i := 1143) (by decide +kernel)) rfl, TB_of (List.mem_of_getElem? (i := 1142) (by decide +kernel)) rfl, TB_sel (List.mem_of_getElem? (i := 61) (by decide +kernel)) rfl, TB_of (List.mem_of_getElem? (i := 8) (by decide +kernel)) rfl, by decide +kernel⟩
theorem kV_X7_laysPossible : CVt yX7_laysPossible cX7_laysPossible 2 none RX7 0 := ⟨TB_of (List.mem_of_getElem? (i := 919) (by decide +kernel)) rfl, TB_of (List.mem_of_getElem? (i := 918) (by decide +kernel)) rfl, TB_sel (List.mem_of_getElem? (i := 31) (by decide +kernel)) rfl, TB_of (List.mem_of_getElem? (i := 8) (by decide +kernel)) rfl, by decide +kernel⟩
theorem kV_X7_laysSounds : CVt yX7_laysSounds cX7_laysSounds 2 none RX7 0 := ⟨TB_of (List.mem_of_getElem? (i := 1079) (by decide +kernel)) rfl, TB_of (List.mem_of_getElem? (i := 1078) (by decide +kernel)) rfl, TB_sel (List.mem_of_getElem? (i := 55) (by decide +kernel)) rfl, TB_of (List.mem_of_getElem? (i := 8) (by decide +kernel)) rfl, by decide +kernel⟩
theorem kV_X7_laysWays : CVt yX7_laysWays cX7_laysWays 4 none RX7 0 := ⟨TB_of (List.mem_of_getElem? (i := 888) (by decide +kernel)) rfl, TB_of (List.mem_of_getElem? (i := 887) (by decide +kernel)) rfl, TB_sel (List.mem_of_getElem? (i := 27) (by decide +kernel)) rfl, TB_of (List.mem_of_getElem? (i := 8) (by decide +kernel)) rfl, by decide +kernel⟩
theorem kV_X7_leastNow : CVt yX7_leastNow cX7_leastNow 5 (some .int) RX7 0 := ⟨TB_of (List.mem_of_getElem? (i := 1067) (by decide +kernel)) rfl, TB_of (List.mem_of_getElem? (i := 1066) (by decide +kernel)) rfl, TB_sel (List.mem_of_getElem? (i := 53) (by decide +kernel)) rfl, TB_of (List.mem_of_getElem? (i := 8) (by decide +kernel)) rfl, by decide +kernel⟩
theorem kV_X7_leastOf : CVt yX7_leastOf cX7_leastOf 2 (some .int) RX7 1 := ⟨TB_of (List.mem_of_getElem? (i := 1063) (by decide +kernel)) rfl, TB_of (List.mem_of_getElem? (i := 1062) (by decide +kernel)) rfl, TB_sel (List.mem_of_getElem? (i := 52) (by decide +kernel)) rfl, TB_of (List.mem_of_getElem? (i := 8) (by decide +kernel)) rfl, by decide +kernel⟩
theorem kV_X7_lines : CVt yX7_lines cX7_lines 3 none RX7 1 := ⟨TB_of (List.mem_of_getElem? (i := 989) (by decide +kernel)) rfl, TB_of (List.mem_of_getElem? (i := 988) (by decide +kernel)) rfl, TB_sel (List.mem_of_getElem? (i := 41) (by decide +kernel)) rfl, TB_of (List.mem_of_getElem? (i := 8) (by decide +kernel)) rfl, by decide +kernel⟩
theorem kV_X7_meets : CVt yX7_meets cX7_meets 2 (some .int) RX7 1 := ⟨TB_of (List.mem_of_getElem? (i := 907) (by decide +kernel)) rfl, TB_of (List.mem_of_getElem? (i := 906) (by decide +kernel)) rfl, TB_sel (List.mem_of_getElem? (i := 29) (by decide +kernel)) rfl, TB_of (List.mem_of_getElem? (i := 8) (by decide +kernel)) rfl, by decide +kernel⟩
theorem kV_X7_meetsAll : CVt yX7_meetsAll cX7_meetsAll 6 none RX7 2 := ⟨TB_of (List.mem_of_getElem? (i := 1039) (by decide +kernel)) rfl, TB_of (List.mem_of_getElem? (i := 1038) (by decide +kernel)) rfl, TB_sel (List.mem_of_getElem? (i := 48) (by decide +kernel)) rfl, TB_of (List.mem_of_getElem? (i := 8) (by decide +kernel)) rfl, by decide +kernel⟩
theorem kV_X7_mostNow : CVt yX7_mostNow cX7_mostNow 5 (some .int) RX7 0 := ⟨TB_of (List.mem_of_getElem? (i := 1115) (by decide +kernel)) rfl, TB_of (List.mem_of_getElem? (i := 1114) (by decide +kernel)) rfl, TB_sel (List.mem_of_getElem? (i := 59) (by decide +kernel)) rfl, TB_of (List.mem_of_getElem? (i := 8) (by decide +kernel)) rfl, by decide +kernel⟩
theorem kS_X7_ones : CSt yX7_ones cX7_ones 3 (some .int) 1 := ⟨TB_of (List.mem_of_getElem? (i := 999) (by decide +kernel)) rfl, TB_of (List.mem_of_getElem? (i := 998) (by decide +kernel)) rfl, TB_of (List.mem_of_getElem? (i := 8) (by decide +kernel)) rfl, by decide +kernel⟩
theorem kV_X7_plain : CVt yX7_plain cX7_plain 2 none RX7 1 := ⟨TB_of (List.mem_of_getElem? (i := 961) (by decide +kernel)) rfl, TB_of (List.mem_of_getElem? (i := 960) (by decide +kernel)) rfl, TB_sel (List.mem_of_getElem? (i := 36) (by decide +kernel)) rfl, TB_of (List.mem_of_getElem? (i := 8) (by decide +kernel)) rfl, by decide +kernel⟩
theorem kV_X7_quarrel : CVt yX7_quarrel cX7_quarrel 3 (some .boolean) RX7 2 := ⟨TB_of (List.mem_of_getElem? (i := 1003) (by decide +kernel)) rfl, TB_of (List.mem_of_getElem? (i := 1002) (by decide +kernel)) rfl, TB_sel (List.mem_of_getElem? (i := 43) (by decide +kernel)) rfl, TB_of (List.mem_of_getElem? (i := 8) (by decide +kernel)) rfl, by decide +kernel⟩
theorem kV_X7_reads : CVt yX7_reads cX7_reads 2 none RX7 1 := ⟨TB_of (List.mem_of_getElem? (i := 953) (by decide +kernel)) rfl, TB_of (List.mem_of_getElem? (i := 952) (by decide +kernel)) rfl, TB_sel (List.mem_of_getElem? (i := 34) (by decide +kernel)) rfl, TB_of (List.mem_of_getElem? (i := 8) (by decide +kernel)) rfl, by decide +kernel⟩
theorem kV_X7_ringNow : CVt yX7_ringNow cX7_ringNow 6 (some .int) RX7 0 := ⟨TB_of (List.mem_of_getElem? (i := 1095) (by decide +kernel)) rfl, TB_of (List.mem_of_getElem? (i := 1094) (by decide +kernel)) rfl, TB_sel (List.mem_of_getElem? (i := 57) (by decide +kernel)) rfl, TB_of (List.mem_of_getElem? (i := 8) (by decide +kernel)) rfl, by decide +kernel⟩
theorem kV_X7_roadMany : CVt yX7_roadMany cX7_roadMany 3 (some .int) RX7 0 := ⟨TB_of (List.mem_of_getElem? (i := 1164) (by decide +kernel)) rfl, TB_of (List.mem_of_getElem? (i := 1163) (by decide +kernel)) rfl, TB_sel (List.mem_of_getElem? (i := 62) (by decide +kernel)) rfl, TB_of (List.mem_of_getElem? (i := 8) (by decide +kernel)) rfl, by decide +kernel⟩
theorem kV_X7_tells : CVt yX7_tells cX7_tells 2 (some .int) RX7 1 := ⟨TB_of (List.mem_of_getElem? (i := 1011) (by decide +kernel)) rfl, TB_of (List.mem_of_getElem? (i := 1010) (by decide +kernel)) rfl, TB_sel (List.mem_of_getElem? (i := 45) (by decide +kernel)) rfl, TB_of (List.mem_of_getElem? (i := 8) (by decide +kernel)) rfl, by decide +kernel⟩
theorem kV_X7_turns : CVt yX7_turns cX7_turns 6 (some .boolean) RX7 0 := ⟨TB_of (List.mem_of_getElem? (i := 1031) (by decide +kernel)) rfl, TB_of (List.mem_of_getElem? (i := 1030) (by decide +kernel)) rfl, TB_sel (List.mem_of_getElem? (i := 47) (by decide +kernel)) rfl, TB_of (List.mem_of_getElem? (i := 8) (by decide +kernel)) rfl, by decide +kernel⟩
theorem kV_X7_undoes : CVt yX7_undoes cX7_undoes 3 none RX7 2 := ⟨TB_of (List.mem_of_getElem? (i := 1007) (by decide +kernel)) rfl, TB_of (List.mem_of_getElem? (i := 1006) (by decide +kernel)) rfl, TB_sel (List.mem_of_getElem? (i := 44) (by decide +kernel)) rfl, TB_of (List.mem_of_getElem? (i := 8) (by decide +kernel)) rfl, by decide +kernel⟩
