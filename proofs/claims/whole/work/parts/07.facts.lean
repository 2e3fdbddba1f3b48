/-! facts that the walks name -/
theorem subR : ∀ i ∈ LsR, i ∈ LsF := by decide
theorem mL {j : Nat} (h : j < 2) : 53 + j ∈ LsF := by
  match j, h with
  | 0, _ => decide
  | 1, _ => decide
theorem mT {j : Nat} (h : j < 2) : 12 + j ∈ LsF := by
  match j, h with
  | 0, _ => decide
  | 1, _ => decide
theorem mS {j : Nat} (h : j < 4) : 57 + j ∈ LsF := by
  match j, h with
  | 0, _ => decide
  | 1, _ => decide
  | 2, _ => decide
  | 3, _ => decide
theorem mI {j : Nat} (h : j < 4) : 18 + j ∈ LsF := by
  match j, h with
  | 0, _ => decide
  | 1, _ => decide
  | 2, _ => decide
  | 3, _ => decide
theorem kT {j : Nat} (h : j < 2) : 12 + j < 50 ∧ ak (12 + j) = 0 := by
  match j, h with
  | 0, _ => decide
  | 1, _ => decide
theorem kI {j : Nat} (h : j < 4) : 18 + j < 50 ∧ ak (18 + j) = 0 := by
  match j, h with
  | 0, _ => decide
  | 1, _ => decide
  | 2, _ => decide
  | 3, _ => decide
theorem ix4 {i : Int32} (h : ix i 4 = true) : i.toNatClampNeg < 4 := Nat.not_le.mp fun q => ix_in h (Or.inr q)
section CEX
variable {q : Nat → Nat} {cy : Nat → ClassId} {M : Mem} {x : Int32} {j : Nat}
theorem ceL (h : j < 2) : ce q cy M (53 + j) = .inr (2, [.ref (q (12 + j)), .int (M.1 (10 + 6 * j)), .int (M.1 (10 + 6 * j + 1)), .int (M.1 (10 + 6 * j + 2)), .int (M.1 (10 + 6 * j + 3)), .int (M.1 (10 + 6 * j + 4)), .int (M.1 (10 + 6 * j + 5))]) := by
  match j, h with
  | 0, _ => rfl
  | 1, _ => rfl
theorem ceS (h : j < 4) : ce q cy M (57 + j) = .inr (4, [.ref (q (18 + j)), .int (M.1 (22 + 3 * j)), .int (M.1 (22 + 3 * j + 1)), .int (M.1 (22 + 3 * j + 2))]) := by
  match j, h with
  | 0, _ => rfl
  | 1, _ => rfl
  | 2, _ => rfl
  | 3, _ => rfl
theorem owL0 (h : j < 2) : ow (10 + 6 * j) = 53 + j := by
  match j, h with
  | 0, _ => rfl
  | 1, _ => rfl
theorem owL1 (h : j < 2) : ow (10 + 6 * j + 1) = 53 + j := by
  match j, h with
  | 0, _ => rfl
  | 1, _ => rfl
theorem owL2 (h : j < 2) : ow (10 + 6 * j + 2) = 53 + j := by
  match j, h with
  | 0, _ => rfl
  | 1, _ => rfl
theorem owL3 (h : j < 2) : ow (10 + 6 * j + 3) = 53 + j := by
  match j, h with
  | 0, _ => rfl
  | 1, _ => rfl
theorem owL4 (h : j < 2) : ow (10 + 6 * j + 4) = 53 + j := by
  match j, h with
  | 0, _ => rfl
  | 1, _ => rfl
theorem owL5 (h : j < 2) : ow (10 + 6 * j + 5) = 53 + j := by
  match j, h with
  | 0, _ => rfl
  | 1, _ => rfl
theorem owS0 (h : j < 4) : ow (22 + 3 * j) = 57 + j := by
  match j, h with
  | 0, _ => rfl
  | 1, _ => rfl
  | 2, _ => rfl
  | 3, _ => rfl
theorem owS1 (h : j < 4) : ow (22 + 3 * j + 1) = 57 + j := by
  match j, h with
  | 0, _ => rfl
  | 1, _ => rfl
  | 2, _ => rfl
  | 3, _ => rfl
theorem owS2 (h : j < 4) : ow (22 + 3 * j + 2) = 57 + j := by
  match j, h with
  | 0, _ => rfl
  | 1, _ => rfl
  | 2, _ => rfl
  | 3, _ => rfl
theorem seL0 (h : j < 2) : ce q cy (sv M (10 + 6 * j) x) (53 + j) = .inr (2, [.ref (q (12 + j)), .int x, .int (M.1 (10 + 6 * j + 1)), .int (M.1 (10 + 6 * j + 2)), .int (M.1 (10 + 6 * j + 3)), .int (M.1 (10 + 6 * j + 4)), .int (M.1 (10 + 6 * j + 5))]) := by
  match j, h with
  | 0, _ => rfl
  | 1, _ => rfl
theorem seL1 (h : j < 2) : ce q cy (sv M (10 + 6 * j + 1) x) (53 + j) = .inr (2, [.ref (q (12 + j)), .int (M.1 (10 + 6 * j)), .int x, .int (M.1 (10 + 6 * j + 2)), .int (M.1 (10 + 6 * j + 3)), .int (M.1 (10 + 6 * j + 4)), .int (M.1 (10 + 6 * j + 5))]) := by
  match j, h with
  | 0, _ => rfl
  | 1, _ => rfl
theorem seL2 (h : j < 2) : ce q cy (sv M (10 + 6 * j + 2) x) (53 + j) = .inr (2, [.ref (q (12 + j)), .int (M.1 (10 + 6 * j)), .int (M.1 (10 + 6 * j + 1)), .int x, .int (M.1 (10 + 6 * j + 3)), .int (M.1 (10 + 6 * j + 4)), .int (M.1 (10 + 6 * j + 5))]) := by
  match j, h with
  | 0, _ => rfl
  | 1, _ => rfl
theorem seL3 (h : j < 2) : ce q cy (sv M (10 + 6 * j + 3) x) (53 + j) = .inr (2, [.ref (q (12 + j)), .int (M.1 (10 + 6 * j)), .int (M.1 (10 + 6 * j + 1)), .int (M.1 (10 + 6 * j + 2)), .int x, .int (M.1 (10 + 6 * j + 4)), .int (M.1 (10 + 6 * j + 5))]) := by
  match j, h with
  | 0, _ => rfl
  | 1, _ => rfl
theorem seL4 (h : j < 2) : ce q cy (sv M (10 + 6 * j + 4) x) (53 + j) = .inr (2, [.ref (q (12 + j)), .int (M.1 (10 + 6 * j)), .int (M.1 (10 + 6 * j + 1)), .int (M.1 (10 + 6 * j + 2)), .int (M.1 (10 + 6 * j + 3)), .int x, .int (M.1 (10 + 6 * j + 5))]) := by
  match j, h with
  | 0, _ => rfl
  | 1, _ => rfl
theorem seL5 (h : j < 2) : ce q cy (sv M (10 + 6 * j + 5) x) (53 + j) = .inr (2, [.ref (q (12 + j)), .int (M.1 (10 + 6 * j)), .int (M.1 (10 + 6 * j + 1)), .int (M.1 (10 + 6 * j + 2)), .int (M.1 (10 + 6 * j + 3)), .int (M.1 (10 + 6 * j + 4)), .int x]) := by
  match j, h with
  | 0, _ => rfl
  | 1, _ => rfl
theorem seS0 (h : j < 4) : ce q cy (sv M (22 + 3 * j) x) (57 + j) = .inr (4, [.ref (q (18 + j)), .int x, .int (M.1 (22 + 3 * j + 1)), .int (M.1 (22 + 3 * j + 2))]) := by
  match j, h with
  | 0, _ => rfl
  | 1, _ => rfl
  | 2, _ => rfl
  | 3, _ => rfl
theorem seS1 (h : j < 4) : ce q cy (sv M (22 + 3 * j + 1) x) (57 + j) = .inr (4, [.ref (q (18 + j)), .int (M.1 (22 + 3 * j)), .int x, .int (M.1 (22 + 3 * j + 2))]) := by
  match j, h with
  | 0, _ => rfl
  | 1, _ => rfl
  | 2, _ => rfl
  | 3, _ => rfl
theorem seS2 (h : j < 4) : ce q cy (sv M (22 + 3 * j + 2) x) (57 + j) = .inr (4, [.ref (q (18 + j)), .int (M.1 (22 + 3 * j)), .int (M.1 (22 + 3 * j + 1)), .int x]) := by
  match j, h with
  | 0, _ => rfl
  | 1, _ => rfl
  | 2, _ => rfl
  | 3, _ => rfl
end CEX
def CVt (y : MethodName) (bytes : ByteArray) (maxL : Nat) (ret : Option FieldType) (C : String) (n : Nat) : Prop := .code y bytes maxL ret ∈ TB ∧ .instanceMethod y ∈ TB ∧ .selects C y y ∈ TB ∧ .initialized C ∈ TB ∧ (y.cls = C ∧ y.cls ≠ "java/lang/invoke/MethodHandle" ∧ y.cls ≠ "java/lang/invoke/VarHandle" ∧ (parseMethodDescriptor y.desc).map (fun d => d.parameters.length) = some n)
def CSt (y : MethodName) (bytes : ByteArray) (maxL : Nat) (ret : Option FieldType) (n : Nat) : Prop := .code y bytes maxL ret ∈ TB ∧ .static y ∈ TB ∧ .initialized y.cls ∈ TB ∧ (y.cls ≠ "java/lang/invoke/MethodHandle" ∧ y.cls ≠ "java/lang/invoke/VarHandle" ∧ (parseMethodDescriptor y.desc).map (fun d => d.parameters.length) = some n)
/-- a copy between rows may be -/
def cpok (sp : Int32) (n0 : Nat) (dp : Int32) (n1 : Nat) (n : Int32) : Bool := !(decide (sp < 0)) && (!(decide (dp < 0)) && (!(decide (n < 0)) && (decide (sp.toNatClampNeg + n.toNatClampNeg ≤ n0) && decide (dp.toNatClampNeg + n.toNatClampNeg ≤ n1))))
/-- a truth value -/
def zb (x : Int32) : Bool := decide (x = 0) || decide (x = 1)
theorem zb_n {x : Int32} (h : zb x = true) : narrow .boolean (.int x) = .int x := by
  unfold zb at h
  rcases Bool.or_eq_true _ _ ▸ h with h | h
  · have h := of_decide_eq_true h
    subst h
    rfl
  · have h := of_decide_eq_true h
    subst h
    rfl
theorem neI {x : Int32} {k : Int32} (h : ¬ x = k) : ¬ x.toInt = k.toInt := fun e => h (Int32.toInt_inj.mp e)
theorem tOut0_6 {x : Int32} (h0 : ¬ x.toInt = (0 : Int32).toInt) (h1 : ¬ x.toInt = (1 : Int32).toInt) (h2 : ¬ x.toInt = (2 : Int32).toInt) (h3 : ¬ x.toInt = (3 : Int32).toInt) (h4 : ¬ x.toInt = (4 : Int32).toInt) (h5 : ¬ x.toInt = (5 : Int32).toInt) (h6 : ¬ x.toInt = (6 : Int32).toInt) : x.toInt < 0 ∨ 6 < x.toInt := by
  have e0 : (0 : Int32).toInt = 0 := rfl
  have e1 : (1 : Int32).toInt = 1 := rfl
  have e2 : (2 : Int32).toInt = 2 := rfl
  have e3 : (3 : Int32).toInt = 3 := rfl
  have e4 : (4 : Int32).toInt = 4 := rfl
  have e5 : (5 : Int32).toInt = 5 := rfl
  have e6 : (6 : Int32).toInt = 6 := rfl
  omega
theorem tOut0_5 {x : Int32} (h0 : ¬ x.toInt = (0 : Int32).toInt) (h1 : ¬ x.toInt = (1 : Int32).toInt) (h2 : ¬ x.toInt = (2 : Int32).toInt) (h3 : ¬ x.toInt = (3 : Int32).toInt) (h4 : ¬ x.toInt = (4 : Int32).toInt) (h5 : ¬ x.toInt = (5 : Int32).toInt) : x.toInt < 0 ∨ 5 < x.toInt := by
  have e0 : (0 : Int32).toInt = 0 := rfl
  have e1 : (1 : Int32).toInt = 1 := rfl
  have e2 : (2 : Int32).toInt = 2 := rfl
  have e3 : (3 : Int32).toInt = 3 := rfl
  have e4 : (4 : Int32).toInt = 4 := rfl
  have e5 : (5 : Int32).toInt = 5 := rfl
  omega
theorem tOut0_3 {x : Int32} (h0 : ¬ x.toInt = (0 : Int32).toInt) (h1 : ¬ x.toInt = (1 : Int32).toInt) (h2 : ¬ x.toInt = (2 : Int32).toInt) (h3 : ¬ x.toInt = (3 : Int32).toInt) : x.toInt < 0 ∨ 3 < x.toInt := by
  have e0 : (0 : Int32).toInt = 0 := rfl
  have e1 : (1 : Int32).toInt = 1 := rfl
  have e2 : (2 : Int32).toInt = 2 := rfl
  have e3 : (3 : Int32).toInt = 3 := rfl
  omega
theorem tOut0_2 {x : Int32} (h0 : ¬ x.toInt = (0 : Int32).toInt) (h1 : ¬ x.toInt = (1 : Int32).toInt) (h2 : ¬ x.toInt = (2 : Int32).toInt) : x.toInt < 0 ∨ 2 < x.toInt := by
  have e0 : (0 : Int32).toInt = 0 := rfl
  have e1 : (1 : Int32).toInt = 1 := rfl
  have e2 : (2 : Int32).toInt = 2 := rfl
  omega
theorem tOut0_8 {x : Int32} (h0 : ¬ x.toInt = (0 : Int32).toInt) (h1 : ¬ x.toInt = (1 : Int32).toInt) (h2 : ¬ x.toInt = (2 : Int32).toInt) (h3 : ¬ x.toInt = (3 : Int32).toInt) (h4 : ¬ x.toInt = (4 : Int32).toInt) (h5 : ¬ x.toInt = (5 : Int32).toInt) (h6 : ¬ x.toInt = (6 : Int32).toInt) (h7 : ¬ x.toInt = (7 : Int32).toInt) (h8 : ¬ x.toInt = (8 : Int32).toInt) : x.toInt < 0 ∨ 8 < x.toInt := by
  have e0 : (0 : Int32).toInt = 0 := rfl
  have e1 : (1 : Int32).toInt = 1 := rfl
  have e2 : (2 : Int32).toInt = 2 := rfl
  have e3 : (3 : Int32).toInt = 3 := rfl
  have e4 : (4 : Int32).toInt = 4 := rfl
  have e5 : (5 : Int32).toInt = 5 := rfl
  have e6 : (6 : Int32).toInt = 6 := rfl
  have e7 : (7 : Int32).toInt = 7 := rfl
  have e8 : (8 : Int32).toInt = 8 := rfl
  omega
section WC
variable {p : Program} {l : Launch} {e : Env} {R : Room} {s : State} {m : MethodId} {args : Array Value} {below : List Frame} {meth : Method} {c : Code} {H : Heap} {locs : List Loc} {cells slots : Nat} {Q : State → Prop} {pc : Nat} {ls : Array Slot} {rest st1 : List Value} {cc : ByteArray} {nL : Nat} {own : String} {G : GT} {M M' : Mem}
theorem cV_ (hC : SX p m c s args cc nL own G (AG G)) (hS : ST G (AG G) s M H locs) {C : String} {T : u_T} {y : MethodName} {bytes : ByteArray} {maxL fr lo n idx ci i N : Nat} {ret : Option FieldType} {As fs : List Value} {v : Option Value} (hi : i ∈ gL G) (he : ce G.1 (gY G) M i = .inr (ci, fs)) (hcl : vwCl[ci]? = some (C, T, N)) (hM : MetG l G y bytes maxL ret fr lo (.ref (G.1 i) :: As) M v M') (hk : CVt y bytes maxL ret C n) (hml : .methodLink own idx y ∈ TB) (hR : fr + 1 ≤ R.frames ∧ 8 + (maxL + 11) + lo ≤ R.locals) (hn : As.length = n) (hsize : ls.size = nL) (hW : (rest.map fun v => v.category).sum ≤ 8) (hdg : decode cc pc = .ok (.invokevirtual idx, 3)) (hf : cells + 0 ≤ R.cells ∧ slots + 0 ≤ R.slots) (hst : v.toList ++ rest = st1) (kk : ∀ (H1 : Heap) (locs1 : List Loc), ST G (AG G) s M' H1 locs1 → W p l e R s m args below meth c H1 locs1 cells slots Q (F0 m (pc + 3) ls st1)) : W p l e R s m args below meth c H locs cells slots Q (F0 m pc ls (As.reverse ++ .ref (G.1 i) :: rest)) := by
  subst hst
  exact cV hC hS hi he hcl hM hk.1 hml hk.2.1 hk.2.2.1 hk.2.2.2.1 hk.2.2.2.2 hR hn hsize hW hdg hf kk
theorem cN_ (hC : SX p m c s args cc nL own G (AG G)) (hS : ST G (AG G) s M H locs) {C host : String} {T : u_T} {y : MethodName} {bytes : ByteArray} {maxL fr lo n idx ci i N : Nat} {ret : Option FieldType} {As fs : List Value} {v : Option Value} (hi : i ∈ gL G) (he : ce G.1 (gY G) M i = .inr (ci, fs)) (hcl : vwCl[ci]? = some (C, T, N)) (hM : MetG l G y bytes maxL ret fr lo (.ref (G.1 i) :: As) M v M') (hk : CVt y bytes maxL ret C n) (hml : (own, idx, y, host) ∈ nwM) (hR : fr + 1 ≤ R.frames ∧ 8 + (maxL + 11) + lo ≤ R.locals) (hn : As.length = n) (hsize : ls.size = nL) (hW : (rest.map fun v => v.category).sum ≤ 8) (hdg : decode cc pc = .ok (.invokevirtual idx, 3)) (hf : cells + 0 ≤ R.cells ∧ slots + 0 ≤ R.slots) (hst : v.toList ++ rest = st1) (kk : ∀ (H1 : Heap) (locs1 : List Loc), ST G (AG G) s M' H1 locs1 → W p l e R s m args below meth c H1 locs1 cells slots Q (F0 m (pc + 3) ls st1)) : W p l e R s m args below meth c H locs cells slots Q (F0 m pc ls (As.reverse ++ .ref (G.1 i) :: rest)) := by
  subst hst
  obtain ⟨k1, k2, k3, k4, k5, k6⟩ := hk
  subst k5
  exact cVN hC hS hi he hcl hM k1 hml k2 k3 k4 k6 hR hn hsize hW hdg hf kk
theorem cS_ (hC : SX p m c s args cc nL own G (AG G)) (hS : ST G (AG G) s M H locs) {y : MethodName} {bytes : ByteArray} {maxL fr lo n idx : Nat} {ret : Option FieldType} {As : List Value} {v : Option Value} (hM : MetG l G y bytes maxL ret fr lo As M v M') (hk : CSt y bytes maxL ret n) (hml : .methodLink own idx y ∈ TB) (hR : fr + 1 ≤ R.frames ∧ 8 + (maxL + 11) + lo ≤ R.locals) (hn : As.length = n) (hsize : ls.size = nL) (hW : (rest.map fun v => v.category).sum ≤ 8) (hdg : decode cc pc = .ok (.invokestatic idx, 3)) (hf : cells + 0 ≤ R.cells ∧ slots + 0 ≤ R.slots) (hst : v.toList ++ rest = st1) (kk : ∀ (H1 : Heap) (locs1 : List Loc), ST G (AG G) s M' H1 locs1 → W p l e R s m args below meth c H1 locs1 cells slots Q (F0 m (pc + 3) ls st1)) : W p l e R s m args below meth c H locs cells slots Q (F0 m pc ls (As.reverse ++ rest)) := by
  subst hst
  exact cS hC hS hM hk.1 hml hk.2.1 hk.2.2.1 hk.2.2.2 hR hn hsize hW hdg hf kk
theorem alen_ (hC : SX p m c s args cc nL own G (AG G)) (hS : ST G (AG G) s M H locs) {a : Nat} (hi : a ∈ gL G) (ha : a < 50) (hkd : ak a = 0) (hdg : decode cc pc = .ok (.arraylength, 1)) (kk : W p l e R s m args below meth c H locs cells slots Q (F0 m (pc + 1) ls (.int (Int32.ofNat (al a)) :: rest))) : W p l e R s m args below meth c H locs cells slots Q (F0 m pc ls (.ref (G.1 a) :: rest)) := by
  obtain ⟨⟨hx, hb, hml, hown, hts⟩, hK, -, -⟩ := hC
  obtain ⟨j, hj, hw⟩ := hS.1.at hi
  rw [ce_a ha, hkd] at hw
  exact va_alen hx hb hK.1 hS.1 j 0 hw (ty := .int) rfl rfl hdg kk
theorem acN : Cond.native arraycopyName ∈ TB := TB_of (List.mem_of_getElem? (i := 659) (by decide +kernel)) rfl
theorem acS : Cond.static arraycopyName ∈ TB := TB_of (List.mem_of_getElem? (i := 658) (by decide +kernel)) rfl
theorem acI : Cond.initialized "java/lang/System" ∈ TB := TB_of (List.mem_of_getElem? (i := 17) (by decide +kernel)) rfl
theorem cpy_ (hC : SX p m c s args cc nL own G (AG G)) (hS : ST G (AG G) s M H locs) {a b idx : Nat} {sp dp n : Int32} (hml : .methodLink own idx arraycopyName ∈ TB) (hi : a ∈ gL G) (ha : a < 50) (hkd : ak a = 0) (hi2 : b ∈ gL G) (ha2 : b < 50) (hkd2 : ak b = 0) (hok : cpok sp (al a) dp (al b) n = true) (hfr : 1 ≤ R.frames) (hlo : (rest.map fun v => v.category).sum + (nativeFrameWords "java/lang/System" "arraycopy" 5 + 11) ≤ R.locals) (hsize : ls.size = nL) (hdg : decode cc pc = .ok (.invokestatic idx, 3)) (kk : ∀ (H1 : Heap) (locs1 : List Loc), ST G (AG G) s (sr M b (va_cpy (M.2 a) (M.2 b) sp.toNatClampNeg dp.toNatClampNeg n.toNatClampNeg)) H1 locs1 → W p l e R s m args below meth c H1 locs1 cells slots Q (F0 m (pc + 3) ls rest)) : W p l e R s m args below meth c H locs cells slots Q (F0 m pc ls (.int n :: .int dp :: .ref (G.1 b) :: .int sp :: .ref (G.1 a) :: rest)) := by
  obtain ⟨⟨hx, hb, hml2, hown, hts⟩, hK, -, hA⟩ := hC
  obtain ⟨j, hj, hw⟩ := hS.1.at hi
  obtain ⟨j2, hj2, hw2⟩ := hS.1.at hi2
  rw [ce_a ha, hkd] at hw
  rw [ce_a ha2, hkd2] at hw2
  unfold cpok at hok
  simp only [Bool.and_eq_true, Bool.not_eq_true', decide_eq_false_iff_not, decide_eq_true_eq] at hok
  refine va_copyi hx hb (hml2.trans hsize.symm) hown (hts _ hml) (hts _ acN) (hts _ acS) (hts _ acI) hK.1 hS.1 (wl_D M hK.2.2.2.1 hK.2.2.2.2 hA) hS.2 j j2 0 0 hw hw2 rfl rfl rfl hok.1 hok.2.1 hok.2.2.1 hok.2.2.2.1 hok.2.2.2.2 (fun _ _ => rfl) hfr hlo hdg (fun H1 locs1 hP hD hS1 => ?_)
  rw [wl_set (M' := sr M b (va_cpy (M.2 a) (M.2 b) sp.toNatClampNeg dp.toNatClampNeg n.toNatClampNeg)) hK.2.2.2.1 hj2 (by rw [ce_a ha2, hkd2]; simp only [sr, va_up, if_true]) (fun j' hj' => ce_sr j' hj')] at hP
  exact kk H1 locs1 ⟨hP, hS1⟩
end WC

theorem in_X0 : ∀ w ∈ u_ws RX0 TX0 6, w ∈ TB := by decide +kernel
theorem in_X1 : ∀ w ∈ u_ws RX1 TX1 4, w ∈ TB := by decide +kernel
theorem in_X2 : ∀ w ∈ u_ws RX2 TX2 7, w ∈ TB := by decide +kernel
theorem in_X3 : ∀ w ∈ u_ws RX3 TX3 2, w ∈ TB := by decide +kernel
theorem in_X4 : ∀ w ∈ u_ws RX4 TX4 4, w ∈ TB := by decide +kernel
theorem in_X5 : ∀ w ∈ u_ws RX5 TX5 13, w ∈ TB := by decide +kernel
theorem in_X6 : ∀ w ∈ u_ws RX6 TX6 8, w ∈ TB := by decide +kernel
theorem in_X7 : ∀ w ∈ u_ws RX7 TX7 29, w ∈ TB := by decide +kernel
theorem se_X0_5 {q : Nat → Nat} {cy : Nat → ClassId} {M : Mem} {x : Int32} : ce q cy (sv M 6 x) 56 = .inr (0, [.ref (q 52), .ref (q 14), .ref (q 15), .ref (q 16), .ref (q 17), .int x]) := rfl
theorem se_X1_1 {q : Nat → Nat} {cy : Nat → ClassId} {M : Mem} {x : Int32} : ce q cy (sv M 3 x) 55 = .inr (1, [.ref (q 52), .int x, .int (M.1 4), .int (M.1 5)]) := rfl
theorem se_X1_2 {q : Nat → Nat} {cy : Nat → ClassId} {M : Mem} {x : Int32} : ce q cy (sv M 4 x) 55 = .inr (1, [.ref (q 52), .int (M.1 3), .int x, .int (M.1 5)]) := rfl
theorem se_X1_3 {q : Nat → Nat} {cy : Nat → ClassId} {M : Mem} {x : Int32} : ce q cy (sv M 5 x) 55 = .inr (1, [.ref (q 52), .int (M.1 3), .int (M.1 4), .int x]) := rfl
theorem se_X5_10 {q : Nat → Nat} {cy : Nat → ClassId} {M : Mem} {x : Int32} : ce q cy (sv M 0 x) 52 = .inr (5, [.ref (q 2), .ref (q 3), .ref (q 4), .ref (q 5), .ref (q 6), .ref (q 7), .ref (q 8), .ref (q 9), .ref (q 10), .ref (q 11), .int x, .int (M.1 1), .int (M.1 2)]) := rfl
theorem se_X5_11 {q : Nat → Nat} {cy : Nat → ClassId} {M : Mem} {x : Int32} : ce q cy (sv M 1 x) 52 = .inr (5, [.ref (q 2), .ref (q 3), .ref (q 4), .ref (q 5), .ref (q 6), .ref (q 7), .ref (q 8), .ref (q 9), .ref (q 10), .ref (q 11), .int (M.1 0), .int x, .int (M.1 2)]) := rfl
theorem se_X5_12 {q : Nat → Nat} {cy : Nat → ClassId} {M : Mem} {x : Int32} : ce q cy (sv M 2 x) 52 = .inr (5, [.ref (q 2), .ref (q 3), .ref (q 4), .ref (q 5), .ref (q 6), .ref (q 7), .ref (q 8), .ref (q 9), .ref (q 10), .ref (q 11), .int (M.1 0), .int (M.1 1), .int x]) := rfl
theorem se_X6_7 {q : Nat → Nat} {cy : Nat → ClassId} {M : Mem} {x : Int32} : ce q cy (sv M 7 x) 50 = .inr (6, [.ref (q 51), .ref (q 52), .ref (q 53), .ref (q 54), .ref (q 62), .ref (q 55), .ref (q 56), .int x]) := rfl
theorem se_X7_2 {q : Nat → Nat} {cy : Nat → ClassId} {M : Mem} {x : Int32} : ce q cy (sv M 40 x) 61 = .inr (7, [.ref (q 22), .ref (q 23), .int x, .ref (q 24), .ref (q 25), .ref (q 26), .ref (q 27), .ref (q 28), .int (M.1 41), .int (M.1 42), .ref (q 29), .ref (q 30), .ref (q 31), .ref (q 32), .ref (q 33), .int (M.1 43), .int (M.1 44), .int (M.1 45), .int (M.1 46), .int (M.1 47), .ref (q 34), .ref (q 35), .ref (q 36), .ref (q 37), .ref (q 38), .ref (q 39), .ref (q 40), .ref (q 41), .int (M.1 48)]) := rfl
theorem se_X7_8 {q : Nat → Nat} {cy : Nat → ClassId} {M : Mem} {x : Int32} : ce q cy (sv M 41 x) 61 = .inr (7, [.ref (q 22), .ref (q 23), .int (M.1 40), .ref (q 24), .ref (q 25), .ref (q 26), .ref (q 27), .ref (q 28), .int x, .int (M.1 42), .ref (q 29), .ref (q 30), .ref (q 31), .ref (q 32), .ref (q 33), .int (M.1 43), .int (M.1 44), .int (M.1 45), .int (M.1 46), .int (M.1 47), .ref (q 34), .ref (q 35), .ref (q 36), .ref (q 37), .ref (q 38), .ref (q 39), .ref (q 40), .ref (q 41), .int (M.1 48)]) := rfl
theorem se_X7_9 {q : Nat → Nat} {cy : Nat → ClassId} {M : Mem} {x : Int32} : ce q cy (sv M 42 x) 61 = .inr (7, [.ref (q 22), .ref (q 23), .int (M.1 40), .ref (q 24), .ref (q 25), .ref (q 26), .ref (q 27), .ref (q 28), .int (M.1 41), .int x, .ref (q 29), .ref (q 30), .ref (q 31), .ref (q 32), .ref (q 33), .int (M.1 43), .int (M.1 44), .int (M.1 45), .int (M.1 46), .int (M.1 47), .ref (q 34), .ref (q 35), .ref (q 36), .ref (q 37), .ref (q 38), .ref (q 39), .ref (q 40), .ref (q 41), .int (M.1 48)]) := rfl
theorem se_X7_15 {q : Nat → Nat} {cy : Nat → ClassId} {M : Mem} {x : Int32} : ce q cy (sv M 43 x) 61 = .inr (7, [.ref (q 22), .ref (q 23), .int (M.1 40), .ref (q 24), .ref (q 25), .ref (q 26), .ref (q 27), .ref (q 28), .int (M.1 41), .int (M.1 42), .ref (q 29), .ref (q 30), .ref (q 31), .ref (q 32), .ref (q 33), .int x, .int (M.1 44), .int (M.1 45), .int (M.1 46), .int (M.1 47), .ref (q 34), .ref (q 35), .ref (q 36), .ref (q 37), .ref (q 38), .ref (q 39), .ref (q 40), .ref (q 41), .int (M.1 48)]) := rfl
theorem se_X7_16 {q : Nat → Nat} {cy : Nat → ClassId} {M : Mem} {x : Int32} : ce q cy (sv M 44 x) 61 = .inr (7, [.ref (q 22), .ref (q 23), .int (M.1 40), .ref (q 24), .ref (q 25), .ref (q 26), .ref (q 27), .ref (q 28), .int (M.1 41), .int (M.1 42), .ref (q 29), .ref (q 30), .ref (q 31), .ref (q 32), .ref (q 33), .int (M.1 43), .int x, .int (M.1 45), .int (M.1 46), .int (M.1 47), .ref (q 34), .ref (q 35), .ref (q 36), .ref (q 37), .ref (q 38), .ref (q 39), .ref (q 40), .ref (q 41), .int (M.1 48)]) := rfl
theorem se_X7_17 {q : Nat → Nat} {cy : Nat → ClassId} {M : Mem} {x : Int32} : ce q cy (sv M 45 x) 61 = .inr (7, [.ref (q 22), .ref (q 23), .int (M.1 40), .ref (q 24), .ref (q 25), .ref (q 26), .ref (q 27), .ref (q 28), .int (M.1 41), .int (M.1 42), .ref (q 29), .ref (q 30), .ref (q 31), .ref (q 32), .ref (q 33), .int (M.1 43), .int (M.1 44), .int x, .int (M.1 46), .int (M.1 47), .ref (q 34), .ref (q 35), .ref (q 36), .ref (q 37), .ref (q 38), .ref (q 39), .ref (q 40), .ref (q 41), .int (M.1 48)]) := rfl
theorem se_X7_18 {q : Nat → Nat} {cy : Nat → ClassId} {M : Mem} {x : Int32} : ce q cy (sv M 46 x) 61 = .inr (7, [.ref (q 22), .ref (q 23), .int (M.1 40), .ref (q 24), .ref (q 25), .ref (q 26), .ref (q 27), .ref (q 28), .int (M.1 41), .int (M.1 42), .ref (q 29), .ref (q 30), .ref (q 31), .ref (q 32), .ref (q 33), .int (M.1 43), .int (M.1 44), .int (M.1 45), .int x, .int (M.1 47), .ref (q 34), .ref (q 35), .ref (q 36), .ref (q 37), .ref (q 38), .ref (q 39), .ref (q 40), .ref (q 41), .int (M.1 48)]) := rfl
theorem se_X7_19 {q : Nat → Nat} {cy : Nat → ClassId} {M : Mem} {x : Int32} : ce q cy (sv M 47 x) 61 = .inr (7, [.ref (q 22), .ref (q 23), .int (M.1 40), .ref (q 24), .ref (q 25), .ref (q 26), .ref (q 27), .ref (q 28), .int (M.1 41), .int (M.1 42), .ref (q 29), .ref (q 30), .ref (q 31), .ref (q 32), .ref (q 33), .int (M.1 43), .int (M.1 44), .int (M.1 45), .int (M.1 46), .int x, .ref (q 34), .ref (q 35), .ref (q 36), .ref (q 37), .ref (q 38), .ref (q 39), .ref (q 40), .ref (q 41), .int (M.1 48)]) := rfl
theorem se_X7_28 {q : Nat → Nat} {cy : Nat → ClassId} {M : Mem} {x : Int32} : ce q cy (sv M 48 x) 61 = .inr (7, [.ref (q 22), .ref (q 23), .int (M.1 40), .ref (q 24), .ref (q 25), .ref (q 26), .ref (q 27), .ref (q 28), .int (M.1 41), .int (M.1 42), .ref (q 29), .ref (q 30), .ref (q 31), .ref (q 32), .ref (q 33), .int (M.1 43), .int (M.1 44), .int (M.1 45), .int (M.1 46), .int (M.1 47), .ref (q 34), .ref (q 35), .ref (q 36), .ref (q 37), .ref (q 38), .ref (q 39), .ref (q 40), .ref (q 41), .int x]) := rfl
theorem lf_X1_21 : Cond.fieldLink RX1 21 RX1 (TX1 0).2.1 (TX1 0).2.2.1 ∈ TB := TB_of (List.mem_of_getElem? (i := 163) (by decide +kernel)) rfl
theorem lf_X3_9 : Cond.fieldLink RX3 9 RX3 (TX3 0).2.1 (TX3 0).2.2.1 ∈ TB := TB_of (List.mem_of_getElem? (i := 40) (by decide +kernel)) rfl
theorem lf_X3_15 : Cond.fieldLink RX3 15 RX3 (TX3 1).2.1 (TX3 1).2.2.1 ∈ TB := TB_of (List.mem_of_getElem? (i := 41) (by decide +kernel)) rfl
theorem ln_X1_85 : (RX1, 85, RX2, (TX2 4).2.1, (TX2 4).2.2.1, "HeardWords") ∈ nwF := List.mem_of_getElem? (i := 27) (by decide +kernel)
theorem ln_X1_88 : (RX1, 88, RX5, (TX5 2).2.1, (TX5 2).2.2.1, "HeardWords") ∈ nwF := List.mem_of_getElem? (i := 6) (by decide +kernel)
theorem lm_X3_18 : Cond.methodLink RX3 18 yX3_seekQuickest ∈ TB := TB_of (List.mem_of_getElem? (i := 32) (by decide +kernel)) rfl
theorem lm_X3_21 : Cond.methodLink RX3 21 yX3_shortenThrough ∈ TB := TB_of (List.mem_of_getElem? (i := 36) (by decide +kernel)) rfl
theorem kV_X3_seekQuickest : CVt yX3_seekQuickest cX3_seekQuickest 4 none RX3 0 := ⟨TB_of (List.mem_of_getElem? (i := 35) (by decide +kernel)) rfl, TB_of (List.mem_of_getElem? (i := 34) (by decide +kernel)) rfl, TB_sel (List.mem_of_getElem? (i := 0) (by decide +kernel)) rfl, TB_of (List.mem_of_getElem? (i := 2) (by decide +kernel)) rfl, by decide +kernel⟩
theorem kV_X3_shortenThrough : CVt yX3_shortenThrough cX3_shortenThrough 5 none RX3 1 := ⟨TB_of (List.mem_of_getElem? (i := 39) (by decide +kernel)) rfl, TB_of (List.mem_of_getElem? (i := 38) (by decide +kernel)) rfl, TB_sel (List.mem_of_getElem? (i := 1) (by decide +kernel)) rfl, TB_of (List.mem_of_getElem? (i := 2) (by decide +kernel)) rfl, by decide +kernel⟩
