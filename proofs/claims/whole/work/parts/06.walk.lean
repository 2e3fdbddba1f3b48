/-! the walk over the memory: words, contract, get, put, rows, calls, ends -/
def TB : List Cond := lw_tbl.filter goodWord
theorem TB_good {w : Cond} (h : w ∈ TB) : goodWord w = true := (List.mem_filter.mp h).2
theorem TB_of {w : Cond} (h : w ∈ tables_1) (g : goodWord w = true) : w ∈ TB := List.mem_filter.mpr ⟨List.mem_append_right _ h, g⟩
theorem TB_sel {w : Cond} (h : w ∈ k2_sels lw_privs) (g : goodWord w = true) : w ∈ TB := List.mem_filter.mpr ⟨List.mem_append_left _ h, g⟩
theorem TB_in {w : Cond} (h : w ∈ TB) : w ∈ lw_tbl := (List.mem_filter.mp h).1
def nwF : List (String × Nat × String × String × String × String) := [("HeardWords$AtOnce", 59, "HeardWords$Words", "kind", "[I", "HeardWords"), ("HeardWords$Hearing", 37, "HeardWords$Words", "kind", "[I", "HeardWords"), ("HeardWords", 111, "HeardWords$Words", "kind", "[I", "HeardWords"), ("HeardWords$Hearing", 41, "HeardWords$Words", "group", "[I", "HeardWords"), ("HeardWords", 114, "HeardWords$Words", "group", "[I", "HeardWords"), ("HeardWords$AtOnce", 44, "HeardWords$Words", "groupSize", "[I", "HeardWords"), ("HeardWords$Hearing", 88, "HeardWords$Words", "groupSize", "[I", "HeardWords"), ("HeardWords", 117, "HeardWords$Words", "town", "[I", "HeardWords"), ("HeardWords", 120, "HeardWords$Words", "hour", "[I", "HeardWords"), ("HeardWords$AtOnce", 56, "HeardWords$Words", "about", "[I", "HeardWords"), ("HeardWords$Hearing", 44, "HeardWords$Words", "about", "[I", "HeardWords"), ("HeardWords", 123, "HeardWords$Words", "about", "[I", "HeardWords"), ("HeardWords$Hearing", 78, "HeardWords$Words", "foes", "[I", "HeardWords"), ("HeardWords$AtOnce", 69, "HeardWords$Words", "undoes", "[I", "HeardWords"), ("HeardWords$Hearing", 91, "HeardWords$Words", "undoes", "[I", "HeardWords"), ("HeardWords$Hearing", 97, "HeardWords$Words", "undoers", "[I", "HeardWords"), ("HeardWords$AtOnce", 39, "HeardWords$Words", "size", "I", "HeardWords"), ("HeardWords$Hearing", 28, "HeardWords$Words", "size", "I", "HeardWords"), ("HeardWords", 80, "HeardWords$Words", "size", "I", "HeardWords"), ("HeardWords", 126, "HeardWords$Words", "kept", "I", "HeardWords"), ("HeardWords", 129, "HeardWords$Words", "possible", "I", "HeardWords"), ("HeardWords", 140, "HeardWords$Law", "size", "I", "HeardWords"), ("HeardWords", 148, "HeardWords$Law", "firstFault", "I", "HeardWords"), ("HeardWords$AtOnce", 47, "HeardWords$Law", "enough", "I", "HeardWords"), ("HeardWords$Hearing", 75, "HeardWords$Law", "enough", "I", "HeardWords"), ("HeardWords", 151, "HeardWords$Law", "enough", "I", "HeardWords"), ("HeardWords$AtOnce", 62, "HeardWords$Law", "contradiction", "I", "HeardWords"), ("HeardWords$Hearing", 85, "HeardWords$Law", "contradiction", "I", "HeardWords"), ("HeardWords", 154, "HeardWords$Law", "contradiction", "I", "HeardWords"), ("HeardWords$Hearing", 100, "HeardWords$Law", "elsewhere", "I", "HeardWords"), ("HeardWords", 157, "HeardWords$Law", "elsewhere", "I", "HeardWords"), ("HeardWords$Hearing", 70, "HeardWords$Law", "partial", "I", "HeardWords"), ("HeardWords", 160, "HeardWords$Law", "partial", "I", "HeardWords"), ("HeardWords", 243, "HeardWords$Hearing", "stand", "I", "HeardWords"), ("HeardWords", 100, "HeardWords$Sheet", "items", "[I", "HeardWords"), ("HeardWords", 91, "HeardWords$Sheet", "lost", "Z", "HeardWords"), ("HeardWords", 260, "HeardWords$Sheet", "form", "I", "HeardWords"), ("HeardWords", 99, "HeardWords$Sheet", "size", "I", "HeardWords")]
def nwM : List (String × Nat × MethodName × String) := [("HeardWords", 18, ⟨"HeardWords$Words", "<init>", "()V"⟩, "HeardWords"), ("HeardWords", 25, ⟨"HeardWords$Law", "<init>", "()V"⟩, "HeardWords"), ("HeardWords", 59, ⟨"HeardWords$Sheet", "<init>", "()V"⟩, "HeardWords"), ("HeardWords", 194, ⟨"HeardWords$Hearing", "ordersWith", "(LHeardWords$Law;III)I"⟩, "HeardWords")]
/-- where things are: addresses of the cells, numbers of the classes, slots, array classes, the cells that are there, the texts and their rows -/
abbrev GT : Type := (Nat → Nat) × (Nat → ClassId) × (Nat → Nat → Nat) × (Nat → ClassId) × List Nat × (Nat → Nat) × (Nat → Nat)
abbrev gL (G : GT) : List Nat := G.2.2.2.2.1
abbrev gD (G : GT) : va_G := (G.2.1, G.2.2.1)
abbrev gY (G : GT) : Nat → ClassId := G.2.2.2.1
def AG (G : GT) : Nat → Prop := AA G.1 (gL G)
def KK (G : GT) (U : State) : Prop := va_K (gD G) vwCl (tyL (gY G)) U ∧ (∀ x ∈ nwF, va_Nw (.fieldLinkNest x.1 x.2.1 x.2.2.1 x.2.2.2.1 x.2.2.2.2.1 x.2.2.2.2.2) U) ∧ (∀ x ∈ nwM, va_Nw (.methodLinkNest x.1 x.2.1 x.2.2.1 x.2.2.2) U) ∧ ND (gL G) ∧ (∀ i, i ∈ gL G → ∀ j, j ∈ gL G → G.1 i = G.1 j → i = j)
def strB : List (List Int32) := [[103, 99, 101, 112], [49, 48, 48, 48], [52, 50, 49, 49]]
def SG (G : GT) (U : State) (H : Heap) : Prop := vk_S 3 [4, 4, 4] strB G.2.2.2.2.2.1 G.2.2.2.2.2.2 (AG G) U H ∧ va_Z "java/lang/String" "COMPACT_STRINGS" "Z" (.int 1) (AG G) U H ∧ va_Zq "jdk/internal/util/Preconditions" "SIOOBE_FORMATTER" "Ljava/util/function/BiFunction;" (AG G) U H ∧ vk_R "HeardWords$Law" 49 "gcep" (G.2.2.2.2.2.1 0) U ∧ vk_R "HeardWords$Law" 64 "1000" (G.2.2.2.2.2.1 1) U ∧ vk_R "HeardWords$Law" 70 "4211" (G.2.2.2.2.2.1 2) U
def PP (G : GT) (M : Mem) (H : Heap) : Prop := va_P (gD G) vwCl (wl G.1 (gY G) (gL G) M) H
theorem KK.warm {G : GT} {s U : State} (hW : s.WarmedH U.vm) (h : KK G s) : KK G U := ⟨va_K.moved hW.alike h.1, fun x hx => va_Nw.warmF hW (h.2.1 x hx), fun x hx => va_Nw.warmM hW (h.2.2.1 x hx), h.2.2.2⟩
theorem KK.same {G : GT} {u U : State} (hv : u.vm = U.vm) (h : KK G u) : KK G U := ⟨va_K.moved (by rw [hv]; exact Vm.Alike.refl _) h.1, fun x hx => va_Nw.same rfl hv (h.2.1 x hx), fun x hx => va_Nw.same rfl hv (h.2.2.1 x hx), h.2.2.2⟩
theorem SG.warm {G : GT} {s U : State} {H : Heap} (hW : s.WarmedH U.vm) (h : SG G s H) : SG G U H := ⟨h.1.moved hW.alike, h.2.1.moved hW.alike, h.2.2.1.moved hW.alike, h.2.2.2.1.warm hW, h.2.2.2.2.1.warm hW, h.2.2.2.2.2.warm hW⟩
theorem SG.same {G : GT} {u U : State} {H : Heap} (hv : u.vm = U.vm) (h : SG G u H) : SG G U H := ⟨h.1.moved (by rw [hv]; exact Vm.Alike.refl _), h.2.1.moved (by rw [hv]; exact Vm.Alike.refl _), h.2.2.1.moved (by rw [hv]; exact Vm.Alike.refl _), h.2.2.2.1.same hv.symm, h.2.2.2.2.1.same hv.symm, h.2.2.2.2.2.same hv.symm⟩
theorem SG.kept {G : GT} {U : State} {H H1 : Heap} (h : SG G U H) (hq : ∀ a : Nat, a < H.size → ¬ AG G a → H1[a]? = H[a]?) : SG G U H1 := ⟨h.1.kept hq, h.2.1.kept hq, h.2.2.1.kept hq, h.2.2.2⟩
def QV (G : GT) (v : Option Value) (M : Mem) : Array Value → State → Outcome → State → Prop := fun _ st oc t => oc = .returned v ∧ PP G M t.heap ∧ va_F (AG G) st t
def PR (G : GT) (av : List Value) (M : Mem) : Array Value → State → Prop := va_Pc av (fun U => KK G U ∧ SG G U U.heap ∧ PP G M U.heap)
abbrev RM (fr lo : Nat) : Room := { frames := fr, cells := 0, slots := 0, locals := lo }
def MetG (l : Launch) (G : GT) (y : MethodName) (cc : ByteArray) (nL : Nat) (ret : Option FieldType) (fr lo : Nat) (av : List Value) (M : Mem) (v : Option Value) (M' : Mem) : Prop :=
  Met l y (.code y cc nL ret :: TB) (RM fr lo) (PR G av M) (QV G v M') 0 0 (AG G)
theorem PR_blind (G : GT) (av : List Value) (M : Mem) : FrameBlind (PR G av M) := by
  intro a U g mk h
  obtain ⟨h1, h2, h3, h4⟩ := h
  exact ⟨h1, h2.same rfl, h3.same rfl, h4⟩
/-- what stays the same on a walk -/
def SX (p : Program) (m : MethodId) (c : Code) (s : State) (args : Array Value) (cc : ByteArray) (nL : Nat) (own : String) (G : GT) (A : Nat → Prop) : Prop := CallFix p m c cc nL s args TB own ∧ KK G s ∧ SG G s s.heap ∧ (∀ a, AG G a → A a)
/-- what moves -/
def ST (G : GT) (A : Nat → Prop) (s : State) (M : Mem) (H : Heap) (locs : List Loc) : Prop := PP G M H ∧ va_S A s.heap H locs
theorem PP.at {G : GT} {M : Mem} {H : Heap} (h : PP G M H) {i : Nat} (hi : i ∈ gL G) : ∃ k : Nat, (gL G)[k]? = some i ∧ (wl G.1 (gY G) (gL G) M)[k]? = some (G.1 i, ce G.1 (gY G) M i) := wl_get hi
section WK
variable {p : Program} {l : Launch} {e : Env} {R : Room} {s : State} {m : MethodId} {args : Array Value} {below : List Frame} {meth : Method} {c : Code} {H : Heap} {locs : List Loc} {cells slots : Nat} {Q : State → Prop} {pc : Nat} {ls : Array Slot} {rest : List Value} {cc : ByteArray} {nL : Nat} {own : String} {G : GT} {A : Nat → Prop} {M M' : Mem}
theorem gx (hC : SX p m c s args cc nL own G A) (hS : ST G A s M H locs) {C : String} {T : u_T} {N ci idx i k : Nat} {fs : List Value} {v : Value} (hi : i ∈ gL G) (he : ce G.1 (gY G) M i = .inr (ci, fs)) (hcl : vwCl[ci]? = some (C, T, N)) (hin : ∀ w ∈ u_ws C T N, w ∈ TB) (hk : k < N) (hT : (T k).1 = C) (hv : fs[k]? = some v) (hlink : .fieldLink own idx C (T k).2.1 (T k).2.2.1 ∈ TB) (hdg : decode cc pc = .ok (.getfield idx, 3)) (kk : W p l e R s m args below meth c H locs cells slots Q (F0 m (pc + 3) ls (v :: rest))) : W p l e R s m args below meth c H locs cells slots Q (F0 m pc ls (.ref (G.1 i) :: rest)) := by
  obtain ⟨⟨hx, hb, hml, hown, hts⟩, hK, -, -⟩ := hC
  obtain ⟨j, hj, hw⟩ := hS.1.at hi
  rw [he] at hw
  exact va_get hx hb hts hin hown hK.1 hS.1 j hw hcl k hk (hts _ hlink) (fun x h => by rw [hT] at h; exact h) hv hdg kk
theorem gxN (hC : SX p m c s args cc nL own G A) (hS : ST G A s M H locs) {C host : String} {T : u_T} {N ci idx i k : Nat} {fs : List Value} {v : Value} (hi : i ∈ gL G) (he : ce G.1 (gY G) M i = .inr (ci, fs)) (hcl : vwCl[ci]? = some (C, T, N)) (hin : ∀ w ∈ u_ws C T N, w ∈ TB) (hk : k < N) (hT : (T k).1 = C) (hv : fs[k]? = some v) (hlink : (own, idx, C, (T k).2.1, (T k).2.2.1, host) ∈ nwF) (hdg : decode cc pc = .ok (.getfield idx, 3)) (kk : W p l e R s m args below meth c H locs cells slots Q (F0 m (pc + 3) ls (v :: rest))) : W p l e R s m args below meth c H locs cells slots Q (F0 m pc ls (.ref (G.1 i) :: rest)) := by
  obtain ⟨⟨hx, hb, hml, hown, hts⟩, hK, -, -⟩ := hC
  obtain ⟨j, hj, hw⟩ := hS.1.at hi
  rw [he] at hw
  exact va_getN hx hb hts hin hown hK.1 hS.1 j hw hcl k hk (va_Nw.use rfl (hK.2.1 _ hlink)) (fun x h => by rw [hT] at h; exact h) hv hdg kk
theorem px (hC : SX p m c s args cc nL own G A) (hS : ST G A s M H locs) {C : String} {T : u_T} {ty0 : Nat → FieldType} {ty : FieldType} {N ci idx i k n : Nat} {fs : List Value} {x : Int32} (hi : i ∈ gL G) (he : ce G.1 (gY G) M i = .inr (ci, fs)) (hcl : vwCl[ci]? = some (C, T, N)) (hin : ∀ w ∈ u_ws C T N, w ∈ TB) (hty : ∀ k, k < N → parseFieldDescriptor (T k).2.2.1 = some (ty0 k)) (hnm : ∀ a, a < N → ∀ b, b < N → a ≠ b → (T a).2.1 ≠ (T b).2.1) (hk : k < N) (hT : (T k).1 = C) (hfin : (T k).2.2.2 = false) (hd : parseFieldDescriptor (T k).2.2.1 = some ty) (hn : narrow ty (.int x) = .int x) (hfit : fits ty (.int x) = true) (hl : k < fs.length) (how : ow n = i) (hset : ce G.1 (gY G) (sv M n x) i = .inr (ci, fs.set k (.int x))) (hlink : .fieldLink own idx C (T k).2.1 (T k).2.2.1 ∈ TB) (hdg : decode cc pc = .ok (.putfield idx, 3)) (kk : ∀ (H1 : Heap) (locs1 : List Loc), ST G A s (sv M n x) H1 locs1 → W p l e R s m args below meth c H1 locs1 cells slots Q (F0 m (pc + 3) ls rest)) : W p l e R s m args below meth c H locs cells slots Q (F0 m pc ls (.int x :: .ref (G.1 i) :: rest)) := by
  obtain ⟨⟨hx, hb, hml, hown, hts⟩, hK, -, hA⟩ := hC
  obtain ⟨j, hj, hw⟩ := hS.1.at hi
  rw [he] at hw
  refine va_put hx hb hts hin ty0 hty hnm hown hK.1 hS.1 (wl_D M hK.2.2.2.1 hK.2.2.2.2 hA) hS.2 j hw hcl k hk (hts _ hlink) (fun x h => by rw [hT] at h; exact h) hfin hd hn hfit hl hdg (fun H1 locs1 hP hD hS1 => ?_)
  rw [wl_set hK.2.2.2.1 hj hset (fun j' hj' => ce_svN j' (by rw [how]; exact hj'))] at hP
  exact kk H1 locs1 ⟨hP, hS1⟩
theorem pxN (hC : SX p m c s args cc nL own G A) (hS : ST G A s M H locs) {C host : String} {T : u_T} {ty0 : Nat → FieldType} {ty : FieldType} {N ci idx i k n : Nat} {fs : List Value} {x : Int32} (hi : i ∈ gL G) (he : ce G.1 (gY G) M i = .inr (ci, fs)) (hcl : vwCl[ci]? = some (C, T, N)) (hin : ∀ w ∈ u_ws C T N, w ∈ TB) (hty : ∀ k, k < N → parseFieldDescriptor (T k).2.2.1 = some (ty0 k)) (hnm : ∀ a, a < N → ∀ b, b < N → a ≠ b → (T a).2.1 ≠ (T b).2.1) (hk : k < N) (hT : (T k).1 = C) (hfin : (T k).2.2.2 = false) (hd : parseFieldDescriptor (T k).2.2.1 = some ty) (hn : narrow ty (.int x) = .int x) (hfit : fits ty (.int x) = true) (hl : k < fs.length) (how : ow n = i) (hset : ce G.1 (gY G) (sv M n x) i = .inr (ci, fs.set k (.int x))) (hlink : (own, idx, C, (T k).2.1, (T k).2.2.1, host) ∈ nwF) (hdg : decode cc pc = .ok (.putfield idx, 3)) (kk : ∀ (H1 : Heap) (locs1 : List Loc), ST G A s (sv M n x) H1 locs1 → W p l e R s m args below meth c H1 locs1 cells slots Q (F0 m (pc + 3) ls rest)) : W p l e R s m args below meth c H locs cells slots Q (F0 m pc ls (.int x :: .ref (G.1 i) :: rest)) := by
  obtain ⟨⟨hx, hb, hml, hown, hts⟩, hK, -, hA⟩ := hC
  obtain ⟨j, hj, hw⟩ := hS.1.at hi
  rw [he] at hw
  refine va_putN hx hb hts hin ty0 hty hnm hown hK.1 hS.1 (wl_D M hK.2.2.2.1 hK.2.2.2.2 hA) hS.2 j hw hcl k hk (va_Nw.use rfl (hK.2.1 _ hlink)) (fun x h => by rw [hT] at h; exact h) hfin hd hn hfit hl hdg (fun H1 locs1 hP hD hS1 => ?_)
  rw [wl_set hK.2.2.2.1 hj hset (fun j' hj' => ce_svN j' (by rw [how]; exact hj'))] at hP
  exact kk H1 locs1 ⟨hP, hS1⟩
/-- is the place in the row -/
def ix (i : Int32) (n : Nat) : Bool := !(decide (i < 0)) && decide (i.toNatClampNeg < n)
theorem ix_in {i : Int32} {n : Nat} (h : ix i n = true) : vp_in i n := by
  unfold ix at h
  simp only [Bool.and_eq_true, Bool.not_eq_true', decide_eq_false_iff_not, decide_eq_true_eq] at h
  intro h2
  rcases h2 with h2 | h2
  · exact h.1 h2
  · exact absurd h.2 (by omega)
theorem ald (hC : SX p m c s args cc nL own G A) (hS : ST G A s M H locs) {a : Nat} {i : Int32} (hi : a ∈ gL G) (ha : a < 50) (hkd : ak a = 0) (hin : ix i (al a) = true) (hdg : decode cc pc = .ok (.iaload, 1)) (kk : W p l e R s m args below meth c H locs cells slots Q (F0 m (pc + 1) ls (.int (M.2 a i.toNatClampNeg) :: rest))) : W p l e R s m args below meth c H locs cells slots Q (F0 m pc ls (.int i :: .ref (G.1 a) :: rest)) := by
  obtain ⟨⟨hx, hb, hml, hown, hts⟩, hK, -, -⟩ := hC
  obtain ⟨j, hj, hw⟩ := hS.1.at hi
  rw [ce_a ha, hkd] at hw
  exact va_iald hx hb hK.1 hS.1 j 0 hw rfl (ix_in hin) hdg kk
theorem bld (hC : SX p m c s args cc nL own G A) (hS : ST G A s M H locs) {a : Nat} {i : Int32} (hi : a ∈ gL G) (ha : a < 50) (hkd : ak a = 1) (hin : ix i (al a) = true) (hdg : decode cc pc = .ok (.baload, 1)) (kk : W p l e R s m args below meth c H locs cells slots Q (F0 m (pc + 1) ls (.int (M.2 a i.toNatClampNeg) :: rest))) : W p l e R s m args below meth c H locs cells slots Q (F0 m pc ls (.int i :: .ref (G.1 a) :: rest)) := by
  obtain ⟨⟨hx, hb, hml, hown, hts⟩, hK, -, -⟩ := hC
  obtain ⟨j, hj, hw⟩ := hS.1.at hi
  rw [ce_a ha, hkd] at hw
  exact va_bald hx hb hK.1 hS.1 j 1 hw rfl (ix_in hin) hdg kk
theorem zld (hC : SX p m c s args cc nL own G A) (hS : ST G A s M H locs) {a : Nat} {i : Int32} (hi : a ∈ gL G) (ha : a < 50) (hkd : ak a = 2) (hin : ix i (al a) = true) (hdg : decode cc pc = .ok (.baload, 1)) (kk : W p l e R s m args below meth c H locs cells slots Q (F0 m (pc + 1) ls (.int (M.2 a i.toNatClampNeg) :: rest))) : W p l e R s m args below meth c H locs cells slots Q (F0 m pc ls (.int i :: .ref (G.1 a) :: rest)) := by
  obtain ⟨⟨hx, hb, hml, hown, hts⟩, hK, -, -⟩ := hC
  obtain ⟨j, hj, hw⟩ := hS.1.at hi
  rw [ce_a ha, hkd] at hw
  exact va_zald hx hb hK.1 hS.1 j 2 hw rfl (ix_in hin) hdg kk
theorem ast (hC : SX p m c s args cc nL own G A) (hS : ST G A s M H locs) {a : Nat} {i x : Int32} (hi : a ∈ gL G) (ha : a < 50) (hkd : ak a = 0) (hin : ix i (al a) = true) (hdg : decode cc pc = .ok (.iastore, 1)) (kk : ∀ (H1 : Heap) (locs1 : List Loc), ST G A s (sa M a i.toNatClampNeg x) H1 locs1 → W p l e R s m args below meth c H1 locs1 cells slots Q (F0 m (pc + 1) ls rest)) : W p l e R s m args below meth c H locs cells slots Q (F0 m pc ls (.int x :: .int i :: .ref (G.1 a) :: rest)) := by
  obtain ⟨⟨hx, hb, hml, hown, hts⟩, hK, -, hA⟩ := hC
  obtain ⟨j, hj, hw⟩ := hS.1.at hi
  rw [ce_a ha, hkd] at hw
  refine va_iast hx hb hK.1 hS.1 (wl_D M hK.2.2.2.1 hK.2.2.2.2 hA) hS.2 j 0 hw rfl (ix_in hin) hdg (fun H1 locs1 hP hD hS1 => ?_)
  rw [wl_set (M' := sa M a i.toNatClampNeg x) hK.2.2.2.1 hj (by rw [ce_a ha, hkd]; simp only [sa, va_up, if_true]) (fun j' hj' => ce_sr (f := upd (M.2 a) i.toNatClampNeg x) j' hj')] at hP
  exact kk H1 locs1 ⟨hP, hS1⟩
theorem bst (hC : SX p m c s args cc nL own G A) (hS : ST G A s M H locs) {a : Nat} {i x : Int32} (hi : a ∈ gL G) (ha : a < 50) (hkd : ak a = 1) (hin : ix i (al a) = true) (hdg : decode cc pc = .ok (.bastore, 1)) (kk : ∀ (H1 : Heap) (locs1 : List Loc), ST G A s (sa M a i.toNatClampNeg (vp_nar .byte x)) H1 locs1 → W p l e R s m args below meth c H1 locs1 cells slots Q (F0 m (pc + 1) ls rest)) : W p l e R s m args below meth c H locs cells slots Q (F0 m pc ls (.int x :: .int i :: .ref (G.1 a) :: rest)) := by
  obtain ⟨⟨hx, hb, hml, hown, hts⟩, hK, -, hA⟩ := hC
  obtain ⟨j, hj, hw⟩ := hS.1.at hi
  rw [ce_a ha, hkd] at hw
  refine va_bast hx hb hK.1 hS.1 (wl_D M hK.2.2.2.1 hK.2.2.2.2 hA) hS.2 j 1 hw rfl (ix_in hin) hdg (fun H1 locs1 hP hD hS1 => ?_)
  rw [wl_set (M' := sa M a i.toNatClampNeg (vp_nar .byte x)) hK.2.2.2.1 hj (by rw [ce_a ha, hkd]; simp only [sa, va_up, if_true]) (fun j' hj' => ce_sr (f := upd (M.2 a) i.toNatClampNeg (vp_nar .byte x)) j' hj')] at hP
  exact kk H1 locs1 ⟨hP, hS1⟩
theorem zst (hC : SX p m c s args cc nL own G A) (hS : ST G A s M H locs) {a : Nat} {i x : Int32} (hi : a ∈ gL G) (ha : a < 50) (hkd : ak a = 2) (hin : ix i (al a) = true) (hdg : decode cc pc = .ok (.bastore, 1)) (kk : ∀ (H1 : Heap) (locs1 : List Loc), ST G A s (sa M a i.toNatClampNeg (vp_nar .boolean x)) H1 locs1 → W p l e R s m args below meth c H1 locs1 cells slots Q (F0 m (pc + 1) ls rest)) : W p l e R s m args below meth c H locs cells slots Q (F0 m pc ls (.int x :: .int i :: .ref (G.1 a) :: rest)) := by
  obtain ⟨⟨hx, hb, hml, hown, hts⟩, hK, -, hA⟩ := hC
  obtain ⟨j, hj, hw⟩ := hS.1.at hi
  rw [ce_a ha, hkd] at hw
  refine va_zast hx hb hK.1 hS.1 (wl_D M hK.2.2.2.1 hK.2.2.2.2 hA) hS.2 j 2 hw rfl (ix_in hin) hdg (fun H1 locs1 hP hD hS1 => ?_)
  rw [wl_set (M' := sa M a i.toNatClampNeg (vp_nar .boolean x)) hK.2.2.2.1 hj (by rw [ce_a ha, hkd]; simp only [sa, va_up, if_true]) (fun j' hj' => ce_sr (f := upd (M.2 a) i.toNatClampNeg (vp_nar .boolean x)) j' hj')] at hP
  exact kk H1 locs1 ⟨hP, hS1⟩
/-- a sheet out of the row of sheets -/
theorem shl_ (hC : SX p m c s args cc nL own G A) (hS : ST G A s M H locs) {i : Int32} (hi : 62 ∈ gL G) (hin : ix i 4 = true) (hdg : decode cc pc = .ok (.aaload, 1)) (kk : W p l e R s m args below meth c H locs cells slots Q (F0 m (pc + 1) ls (.ref (G.1 (57 + i.toNatClampNeg)) :: rest))) : W p l e R s m args below meth c H locs cells slots Q (F0 m pc ls (.int i :: .ref (G.1 62) :: rest)) := by
  obtain ⟨⟨hx, hb, hml, hown, hts⟩, hK, -, -⟩ := hC
  obtain ⟨j, hj, hw⟩ := hS.1.at hi
  exact va_aldq (C := "HeardWords$Sheet") (n := 4) (f := fun k => some (G.1 (57 + k))) hx hb hK.1 hS.1 j 3 hw rfl (ix_in hin) hdg kk
/-- behind a call -/
theorem rung {a : Array Value} {st0 : List Value} {v : Option Value} (hA : ∀ x, AG G x → A x) (hr : va_Run p l e R s m args below meth c H locs cells slots 0 0 (F0 m pc ls st0) rest (QV G v M' a) (AG G)) (hS : ST G A s M H locs) (kk : ∀ (H1 : Heap) (locs1 : List Loc), ST G A s M' H1 locs1 → W p l e R s m args below meth c H1 locs1 cells slots Q (F0 m (pc + 3) ls (v.toList ++ rest))) : W p l e R s m args below meth c H locs cells slots Q (F0 m pc ls st0) := by
  intro T hT X
  obtain ⟨v', st₀, t, T', L, h0, X', hL, e1, e2, ⟨hv, hP, hz, hk⟩, st⟩ := hr T hT X
  cases hv
  rw [h0] at hz hk
  obtain ⟨t2, a1, b1⟩ := kk t.heap (locs ++ L) ⟨hP, Nat.le_trans hS.2.1 hz, fun q h1 h2 => by rw [hk q (Nat.lt_of_lt_of_le h1 hS.2.1) (fun z => h2 (hA q z))]; exact hS.2.2.1 q h1 h2, fun q hq => by
      rcases List.mem_append.mp hq with h | h
      · exact hS.2.2.2 q h
      · exact hA _ (hL q h)⟩ T' e1 X'
  exact ⟨t2, st t2 a1, b1⟩
theorem gin {own C : String} {idx : Nat} {y : MethodName} {bytes : ByteArray} {n : Nat} {ret : Option FieldType} (h : .code y bytes n ret ∈ TB) : GoodIn TB (.code y bytes n ret :: TB) := by
  intro w hw
  rcases List.mem_cons.mp hw with rfl | hw
  · exact ⟨h, good_of_word (TB_good h)⟩
  · exact ⟨hw, good_of_word (TB_good hw)⟩
theorem preV_of (hC : SX p m c s args cc nL own G A) (hS : ST G A s M H locs) (hA : A = AG G) {av : List Value} : ∀ U : State, U.heap = H → s.WarmedH U.vm → PR G av M av.toArray U := by
  intro U hU hW
  subst hA
  refine ⟨rfl, hC.2.1.warm hW, ?_, by rw [hU]; exact hS.1⟩
  rw [hU]
  exact (hC.2.2.1.warm hW).kept (fun a h1 h2 => hS.2.2.1 a h1 h2)
/-- invokevirtual -/
theorem cV (hC : SX p m c s args cc nL own G (AG G)) (hS : ST G (AG G) s M H locs) {C : String} {T : u_T} {y : MethodName} {bytes : ByteArray} {maxL fr lo n idx ci i N : Nat} {ret : Option FieldType} {As fs : List Value} {v : Option Value} (hi : i ∈ gL G) (he : ce G.1 (gY G) M i = .inr (ci, fs)) (hcl : vwCl[ci]? = some (C, T, N)) (hM : MetG l G y bytes maxL ret fr lo (.ref (G.1 i) :: As) M v M') (hcode : .code y bytes maxL ret ∈ TB) (hml : .methodLink own idx y ∈ TB) (him : .instanceMethod y ∈ TB) (hse : .selects C y y ∈ TB) (hini : .initialized C ∈ TB) (hd : y.cls = C ∧ y.cls ≠ "java/lang/invoke/MethodHandle" ∧ y.cls ≠ "java/lang/invoke/VarHandle" ∧ (parseMethodDescriptor y.desc).map (fun d => d.parameters.length) = some n) (hR : fr + 1 ≤ R.frames ∧ 8 + (maxL + 11) + lo ≤ R.locals) (hn : As.length = n) (hsize : ls.size = nL) (hW : (rest.map fun v => v.category).sum ≤ 8) (hdg : decode cc pc = .ok (.invokevirtual idx, 3)) (hf : cells + 0 ≤ R.cells ∧ slots + 0 ≤ R.slots) (kk : ∀ (H1 : Heap) (locs1 : List Loc), ST G (AG G) s M' H1 locs1 → W p l e R s m args below meth c H1 locs1 cells slots Q (F0 m (pc + 3) ls (v.toList ++ rest))) : W p l e R s m args below meth c H locs cells slots Q (F0 m pc ls (As.reverse ++ .ref (G.1 i) :: rest)) := by
  obtain ⟨j, hj, hw⟩ := hS.1.at hi
  rw [he] at hw
  have hg : GoodIn TB (wsV own idx C y (.code y bytes maxL ret :: TB)) := by
    intro w hw
    rcases List.mem_append.mp hw with h | h
    · have hT : w ∈ TB := by
        simp only [List.mem_cons, List.not_mem_nil, or_false] at h
        rcases h with rfl | rfl | rfl | rfl
        · exact hml
        · exact him
        · exact hse
        · exact hini
      exact ⟨hT, good_of_word (TB_good hT)⟩
    · exact gin (own := own) (C := C) (idx := idx) hcode w h
  exact rung (fun _ h => h) (va_runV (g := F0 m pc ls (As.reverse ++ .ref (G.1 i) :: rest)) hC.1 hM (cwV n hC.1.2.2.2.2 hg rfl rfl rfl hd hR) ⟨PR_blind _ _ _, va_recv hC.2.1.1 hS.1 hcl hw, preV_of hC hS rfl⟩ rfl hn hsize rfl (lv_room hW) hdg hf) hS kk
/-- invokevirtual of a nest mate's private method -/
theorem cVN (hC : SX p m c s args cc nL own G (AG G)) (hS : ST G (AG G) s M H locs) {C host : String} {T : u_T} {y : MethodName} {bytes : ByteArray} {maxL fr lo n idx ci i N : Nat} {ret : Option FieldType} {As fs : List Value} {v : Option Value} (hi : i ∈ gL G) (he : ce G.1 (gY G) M i = .inr (ci, fs)) (hcl : vwCl[ci]? = some (C, T, N)) (hM : MetG l G y bytes maxL ret fr lo (.ref (G.1 i) :: As) M v M') (hcode : .code y bytes maxL ret ∈ TB) (hml : (own, idx, y, host) ∈ nwM) (him : .instanceMethod y ∈ TB) (hse : .selects C y y ∈ TB) (hini : .initialized y.cls ∈ TB) (hd : y.cls ≠ "java/lang/invoke/MethodHandle" ∧ y.cls ≠ "java/lang/invoke/VarHandle" ∧ (parseMethodDescriptor y.desc).map (fun d => d.parameters.length) = some n) (hR : fr + 1 ≤ R.frames ∧ 8 + (maxL + 11) + lo ≤ R.locals) (hn : As.length = n) (hsize : ls.size = nL) (hW : (rest.map fun v => v.category).sum ≤ 8) (hdg : decode cc pc = .ok (.invokevirtual idx, 3)) (hf : cells + 0 ≤ R.cells ∧ slots + 0 ≤ R.slots) (kk : ∀ (H1 : Heap) (locs1 : List Loc), ST G (AG G) s M' H1 locs1 → W p l e R s m args below meth c H1 locs1 cells slots Q (F0 m (pc + 3) ls (v.toList ++ rest))) : W p l e R s m args below meth c H locs cells slots Q (F0 m pc ls (As.reverse ++ .ref (G.1 i) :: rest)) := by
  obtain ⟨j, hj, hw⟩ := hS.1.at hi
  rw [he] at hw
  have hts := hC.1.2.2.2.2
  exact rung (fun _ h => h) (va_runVN (g := F0 m pc ls (As.reverse ++ .ref (G.1 i) :: rest)) hC.1 hM ⟨va_cnB n hts (gin (own := own) (C := C) (idx := idx) hcode) rfl rfl rfl (hC.2.1.2.2.1 _ hml) (hts _ hini) hd hR, hts _ him, hts _ hse⟩ ⟨PR_blind _ _ _, va_recv hC.2.1.1 hS.1 hcl hw, preV_of hC hS rfl⟩ rfl hn hsize rfl (lv_room hW) hdg hf) hS kk
/-- invokestatic -/
theorem cS (hC : SX p m c s args cc nL own G (AG G)) (hS : ST G (AG G) s M H locs) {y : MethodName} {bytes : ByteArray} {maxL fr lo n idx : Nat} {ret : Option FieldType} {As : List Value} {v : Option Value} (hM : MetG l G y bytes maxL ret fr lo As M v M') (hcode : .code y bytes maxL ret ∈ TB) (hml : .methodLink own idx y ∈ TB) (hst : .static y ∈ TB) (hini : .initialized y.cls ∈ TB) (hd : y.cls ≠ "java/lang/invoke/MethodHandle" ∧ y.cls ≠ "java/lang/invoke/VarHandle" ∧ (parseMethodDescriptor y.desc).map (fun d => d.parameters.length) = some n) (hR : fr + 1 ≤ R.frames ∧ 8 + (maxL + 11) + lo ≤ R.locals) (hn : As.length = n) (hsize : ls.size = nL) (hW : (rest.map fun v => v.category).sum ≤ 8) (hdg : decode cc pc = .ok (.invokestatic idx, 3)) (hf : cells + 0 ≤ R.cells ∧ slots + 0 ≤ R.slots) (kk : ∀ (H1 : Heap) (locs1 : List Loc), ST G (AG G) s M' H1 locs1 → W p l e R s m args below meth c H1 locs1 cells slots Q (F0 m (pc + 3) ls (v.toList ++ rest))) : W p l e R s m args below meth c H locs cells slots Q (F0 m pc ls (As.reverse ++ rest)) := by
  have hts := hC.1.2.2.2.2
  exact rung (fun _ h => h) (va_runS (g := F0 m pc ls (As.reverse ++ rest)) hC.1 hM ⟨callB_of n hts (gin (own := own) (C := own) (idx := idx) hcode) rfl rfl rfl (hts _ hini) (hts _ hml) hd hR, hts _ hst⟩ ⟨PR_blind _ _ _, preV_of hC hS rfl⟩ rfl hn hsize rfl (lv_room hW) hdg hf) hS kk
/-- ends -/
theorem endQ (hS : ST G (AG G) s M H locs) {v : Option Value} : ∀ t : State, t.heap = H → s.WarmedH t.vm → QV G v M args s (.returned v) t := fun t ht _ => ⟨rfl, by rw [ht]; exact hS.1, hS.2.F ht⟩
theorem retI (hC : SX p m c s args cc nL own G (AG G)) (hS : ST G (AG G) s M H locs) (hr : meth.sig.returnType = some .int) (hlk : meth.locks = false) {x r : Int32} {M0 : Mem} (hF : some (x, M) = some (r, M0)) (hdg : decode cc pc = .ok (.ireturn, 1)) : W p l e R s m args below meth c H locs cells slots (MQ below (QV G (some (.int r)) M0) args s cells slots (AG G)) (F0 m pc ls [.int x]) := by
  cases hF
  exact W.iret hC.1.1 hC.1.2.1 hr (endQ hS) hS.2.2.2 hdg hlk
theorem retZ (hC : SX p m c s args cc nL own G (AG G)) (hS : ST G (AG G) s M H locs) (hr : meth.sig.returnType = some .boolean) (hlk : meth.locks = false) {x r : Int32} {M0 : Mem} (hn : narrow .boolean (.int x) = .int x) (hF : some (x, M) = some (r, M0)) (hdg : decode cc pc = .ok (.ireturn, 1)) : W p l e R s m args below meth c H locs cells slots (MQ below (QV G (some (.int r)) M0) args s cells slots (AG G)) (F0 m pc ls [.int x]) := by
  cases hF
  exact W.zret hC.1.1 hC.1.2.1 hr hn (endQ hS) hS.2.2.2 hdg hlk
theorem retY {ty : FieldType} (hC : SX p m c s args cc nL own G (AG G)) (hS : ST G (AG G) s M H locs) (hr : meth.sig.returnType = some ty) (hlk : meth.locks = false) {x r : Int32} {M0 : Mem} (hn : narrow ty (.int x) = .int x) (hF : some (x, M) = some (r, M0)) (hdg : decode cc pc = .ok (.ireturn, 1)) : W p l e R s m args below meth c H locs cells slots (MQ below (QV G (some (.int r)) M0) args s cells slots (AG G)) (F0 m pc ls [.int x]) := by
  cases hF
  exact W.zret hC.1.1 hC.1.2.1 hr hn (endQ hS) hS.2.2.2 hdg hlk
theorem retL (hC : SX p m c s args cc nL own G (AG G)) (hS : ST G (AG G) s M H locs) (hr : meth.sig.returnType = some .long) (hlk : meth.locks = false) {x r : Int64} {M0 : Mem} (hF : some (x, M) = some (r, M0)) (hdg : decode cc pc = .ok (.lreturn, 1)) : W p l e R s m args below meth c H locs cells slots (MQ below (QV G (some (.long r)) M0) args s cells slots (AG G)) (F0 m pc ls [.long x]) := by
  cases hF
  exact W.lret hC.1.1 hC.1.2.1 hr (endQ hS) hS.2.2.2 hdg hlk
theorem retV (hC : SX p m c s args cc nL own G (AG G)) (hS : ST G (AG G) s M H locs) (hr : meth.sig.returnType = none) (hlk : meth.locks = false) {M0 : Mem} (hF : some M = some M0) (hdg : decode cc pc = .ok (.return_, 1)) : W p l e R s m args below meth c H locs cells slots (MQ below (QV G none M0) args s cells slots (AG G)) (F0 m pc ls []) := by
  cases hF
  exact W.vret hC.1.1 hC.1.2.1 hr (endQ hS) hS.2.2.2 hdg hlk
/-- a reference's answer: the number of the object among its like -/
def rfv (G : GT) (b : Nat) (r : Option Nat) : Value := match r with
  | none => .null
  | some j => .ref (G.1 (b + j))
theorem retA (hC : SX p m c s args cc nL own G (AG G)) (hS : ST G (AG G) s M H locs) {b : Nat} {C : String} (hr : meth.sig.returnType = some (.object C)) (hlk : meth.locks = false) {x r : Option Nat} {M0 : Mem} (hF : some (x, M) = some (r, M0)) (hdg : decode cc pc = .ok (.areturn, 1)) : W p l e R s m args below meth c H locs cells slots (MQ below (QV G (some (rfv G b r)) M0) args s cells slots (AG G)) (F0 m pc ls [rfv G b x]) := by
  cases hF
  exact W.aret hC.1.1 hC.1.2.1 hr (Or.inl ⟨_, rfl⟩) (by cases x <;> simp [rfv]) (endQ hS) hS.2.2.2 hdg hlk
end WK
/-- a contract out of its body's walk -/
theorem MetG.of {l : Launch} {G : GT} {y : MethodName} {cc : ByteArray} {nL : Nat} {ret : Option FieldType} {fr lo : Nat} {av : List Value} {M : Mem} {v : Option Value} {M' : Mem} (hy : plainName y.cls = true) (hent : (lg_sl av).length ≤ nL)
    (body : ∀ p e s m args below meth c, SX p m c s args cc nL y.cls G (AG G) → meth.sig.returnType = ret → meth.locks = false → meth.name = y.name → ∀ ls, ST G (AG G) s M s.heap [] → lv_has ls nL (lv_args 0 av) → W p l e (RM fr lo) s m args below meth c s.heap [] 0 0 (MQ below (QV G v M') args s 0 0 (AG G)) (F0 m 0 ls [])) : MetG l G y cc nL ret fr lo av M v M' := by
  refine Met.ofW (cc := cc) (maxL := nL) (ret := ret) hy rfl ?_
  intro p e s m args below meth c s₁ B hml hv
  obtain ⟨rfl, hK, hG, hP⟩ := hv
  have hts := atoms_spec (ws := .code y cc nL ret :: TB) B.pre
  have hown : s.vm.findClass y.cls = some m.cls := findClass_of_methodNamed B.named
  rw [lg_entry_eq]
  exact body p e s m _ below meth c ⟨⟨B.exec, B.bytes, hml, hown, fun w h => hts w (List.mem_cons_of_mem _ h)⟩, hK, hG, fun _ h => h⟩ B.returns B.notSynchronized (name_of_methodNamed B.named B.method).1 _ ⟨hP, va_S.rf⟩ (lv_entry av hent)
/-! the words of the functions -/
def ckb {α : Type} (b : Bool) (x : Option α) : Option α := if b = true then x else none
theorem ckb_some {α : Type} {b : Bool} {x : Option α} {r : α} (h : ckb b x = some r) : b = true ∧ x = some r := by
  unfold ckb at h
  by_cases hb : b = true
  · rw [if_pos hb] at h
    exact ⟨hb, h⟩
  · rw [if_neg hb] at h
    cases h
def bd {α β : Type} (x : Option (α × Mem)) (f : α → Mem → Option β) : Option β := x.bind (fun y => f y.1 y.2)
theorem bd_some {α β : Type} {x : Option (α × Mem)} {f : α → Mem → Option β} {r : β} (h : bd x f = some r) : ∃ (a : α) (M : Mem), x = some (a, M) ∧ f a M = some r := by
  cases x with
  | none => cases h
  | some y => exact ⟨y.1, y.2, rfl, h⟩
def bdv {β : Type} (x : Option Mem) (f : Mem → Option β) : Option β := x.bind f
theorem bdv_some {β : Type} {x : Option Mem} {f : Mem → Option β} {r : β} (h : bdv x f = some r) : ∃ (M : Mem), x = some M ∧ f M = some r := by
  cases x with
  | none => cases h
  | some y => exact ⟨y, rfl, h⟩
def bdo {β : Type} (x : Option (Option Nat × Mem)) (f : Mem → Option β) (g : Nat → Mem → Option β) : Option β := match x with
  | none => none
  | some (none, M) => f M
  | some (some j, M) => g j M
theorem bdo_some {β : Type} {x : Option (Option Nat × Mem)} {f : Mem → Option β} {g : Nat → Mem → Option β} {r : β} (h : bdo x f g = some r) : (∃ M : Mem, x = some (none, M) ∧ f M = some r) ∨ ∃ (j : Nat) (M : Mem), x = some (some j, M) ∧ g j M = some r := by
  match x, h with
  | none, h => cases h
  | some (none, M), h => exact Or.inl ⟨M, rfl, h⟩
  | some (some j, M), h => exact Or.inr ⟨j, M, rfl, h⟩
/-- how often a loop may turn at most -/
def fu : Nat := 8192
