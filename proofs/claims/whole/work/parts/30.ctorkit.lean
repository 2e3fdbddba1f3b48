/-! the walk of constructors: worlds that grow -/
def KQ (D : va_G) (cy : Nat → ClassId) (U : State) : Prop := va_K D vwCl (tyL cy) U ∧ (∀ x ∈ nwF, va_Nw (.fieldLinkNest x.1 x.2.1 x.2.2.1 x.2.2.2.1 x.2.2.2.2.1 x.2.2.2.2.2) U) ∧ (∀ x ∈ nwM, va_Nw (.methodLinkNest x.1 x.2.1 x.2.2.1 x.2.2.2) U) ∧ va_AO "HeardWords$Sheet" U
def SQ (ad : (Nat → Nat) × (Nat → Nat)) (N0 : Nat) (U : State) (H : Heap) : Prop := vk_S 3 [4, 4, 4] strB ad.1 ad.2 (fun a => N0 ≤ a) U H ∧ va_Z "java/lang/String" "COMPACT_STRINGS" "Z" (.int 1) (fun a => N0 ≤ a) U H ∧ va_Zq "jdk/internal/util/Preconditions" "SIOOBE_FORMATTER" "Ljava/util/function/BiFunction;" (fun a => N0 ≤ a) U H ∧ vk_R "HeardWords$Law" 49 "gcep" (ad.1 0) U ∧ vk_R "HeardWords$Law" 64 "1000" (ad.1 1) U ∧ vk_R "HeardWords$Law" 70 "4211" (ad.1 2) U
theorem KQ.warm {D : va_G} {cy : Nat → ClassId} {s U : State} (hW : s.WarmedH U.vm) (h : KQ D cy s) : KQ D cy U := ⟨va_K.moved hW.alike h.1, fun x hx => va_Nw.warmF hW (h.2.1 x hx), fun x hx => va_Nw.warmM hW (h.2.2.1 x hx), h.2.2.2.moved hW.alike⟩
theorem KQ.same {D : va_G} {cy : Nat → ClassId} {u U : State} (hv : u.vm = U.vm) (h : KQ D cy u) : KQ D cy U := ⟨va_K.moved (by rw [hv]; exact Vm.Alike.refl _) h.1, fun x hx => va_Nw.same rfl hv (h.2.1 x hx), fun x hx => va_Nw.same rfl hv (h.2.2.1 x hx), h.2.2.2.moved (by rw [hv]; exact Vm.Alike.refl _)⟩
theorem SQ.warm {ad : (Nat → Nat) × (Nat → Nat)} {N0 : Nat} {s U : State} {H : Heap} (hW : s.WarmedH U.vm) (h : SQ ad N0 s H) : SQ ad N0 U H := ⟨h.1.moved hW.alike, h.2.1.moved hW.alike, h.2.2.1.moved hW.alike, h.2.2.2.1.warm hW, h.2.2.2.2.1.warm hW, h.2.2.2.2.2.warm hW⟩
theorem SQ.same {ad : (Nat → Nat) × (Nat → Nat)} {N0 : Nat} {u U : State} {H : Heap} (hv : u.vm = U.vm) (h : SQ ad N0 u H) : SQ ad N0 U H := ⟨h.1.moved (by rw [hv]; exact Vm.Alike.refl _), h.2.1.moved (by rw [hv]; exact Vm.Alike.refl _), h.2.2.1.moved (by rw [hv]; exact Vm.Alike.refl _), h.2.2.2.1.same hv.symm, h.2.2.2.2.1.same hv.symm, h.2.2.2.2.2.same hv.symm⟩
theorem SQ.kept {ad : (Nat → Nat) × (Nat → Nat)} {N0 : Nat} {U : State} {H H1 : Heap} (h : SQ ad N0 U H) (hq : ∀ a : Nat, a < H.size → ¬ N0 ≤ a → H1[a]? = H[a]?) : SQ ad N0 U H1 := ⟨h.1.kept hq, h.2.1.kept hq, h.2.2.1.kept hq, h.2.2.2⟩
def PQ (D : va_G) (cy : Nat → ClassId) (ad : (Nat → Nat) × (Nat → Nat)) (N0 : Nat) (av : List Value) (W0 : va_W) (sz : Nat) : Array Value → State → Prop := va_Pc av (fun U => U.heap.size = sz ∧ va_P D vwCl W0 U.heap ∧ va_D (fun _ => True) W0 ∧ KQ D cy U ∧ SQ ad N0 U U.heap)
theorem PQ_blind (D : va_G) (cy : Nat → ClassId) (ad : (Nat → Nat) × (Nat → Nat)) (N0 : Nat) (av : List Value) (W0 : va_W) (sz : Nat) : FrameBlind (PQ D cy ad N0 av W0 sz) := by
  intro a U g mk h
  obtain ⟨h1, h2, h3, h4, h5, h6⟩ := h
  exact ⟨h1, h2, h3, h4, h5.same rfl, h6.same rfl⟩
def QQ (D : va_G) (post : (Nat → Nat) → va_W) (A : Nat → Prop) : Array Value → State → Outcome → State → Prop := va_Qv (fun _ : Nat → Nat => True) (fun u t => va_P D vwCl (post u) t.heap ∧ va_D A (post u)) A
abbrev RC (fr mc ms lo : Nat) : Room := { frames := fr, cells := mc, slots := ms, locals := lo }
def MetC (l : Launch) (D : va_G) (cy : Nat → ClassId) (ad : (Nat → Nat) × (Nat → Nat)) (N0 : Nat) (y : MethodName) (cc : ByteArray) (nL fr lo mc ms : Nat) (av : List Value) (W0 : va_W) (sz : Nat) (post : (Nat → Nat) → va_W) : Prop :=
  Met l y (.code y cc nL none :: TB) (RC fr mc ms lo) (PQ D cy ad N0 av W0 sz) (QQ D post (va_A W0 sz)) mc ms (va_A W0 sz)
theorem MetC.of {l : Launch} {D : va_G} {cy : Nat → ClassId} {ad : (Nat → Nat) × (Nat → Nat)} {N0 : Nat} {y : MethodName} {cc : ByteArray} {nL fr lo mc ms : Nat} {av : List Value} {W0 : va_W} {sz : Nat} {post : (Nat → Nat) → va_W} (hy : plainName y.cls = true) (hent : (lg_sl av).length ≤ nL)
    (body : ∀ p e s m args below meth c (A : Nat → Prop), CallFix p m c cc nL s args TB y.cls → meth.sig.returnType = none → meth.locks = false → meth.name = y.name → KQ D cy s → SQ ad N0 s s.heap → s.heap.size = sz → (∀ q : Nat, s.heap.size ≤ q → A q) → (∀ a, A a → (∃ (k : Nat) (e : va_E), W0[k]? = some (a, e)) ∨ sz ≤ a) → ∀ ls, va_P D vwCl W0 s.heap → va_D A W0 → va_S A s.heap s.heap [] → lv_has ls nL (lv_args 0 av) → W p l e (RC fr mc ms lo) s m args below meth c s.heap [] 0 0 (MQ below (QQ D post A) args s mc ms A) (F0 m 0 ls [])) : MetC l D cy ad N0 y cc nL fr lo mc ms av W0 sz post := by
  refine Met.ofW (cc := cc) (maxL := nL) (ret := none) hy rfl ?_
  intro p e s m args below meth c s₁ B hml hv
  obtain ⟨rfl, hsz, hP, hD, hK, hG⟩ := hv
  have hts := atoms_spec (ws := .code y cc nL none :: TB) B.pre
  have hown : s.vm.findClass y.cls = some m.cls := findClass_of_methodNamed B.named
  rw [lg_entry_eq]
  subst hsz
  exact body p e s m _ below meth c (va_A W0 s.heap.size) ⟨B.exec, B.bytes, hml, hown, fun w h => hts w (List.mem_cons_of_mem _ h)⟩ B.returns B.notSynchronized (name_of_methodNamed B.named B.method).1 hK hG rfl (fun q h => Or.inr h) (fun a h => h) _ hP hD.self va_S.rf (lv_entry av hent)
section CK
variable {p : Program} {l : Launch} {e : Env} {R : Room} {s : State} {m : MethodId} {args : Array Value} {below : List Frame} {meth : Method} {c : Code} {H : Heap} {locs : List Loc} {cells slots : Nat} {Q : State → Prop} {pc : Nat} {ls : Array Slot} {rest : List Value} {cc : ByteArray} {nL : Nat} {own : String} {A : Nat → Prop} {D : va_G} {cy : Nat → ClassId} {ad : (Nat → Nat) × (Nat → Nat)} {N0 : Nat}
theorem retC {post : (Nat → Nat) → va_W} {mc ms : Nat} (hC : CallFix p m c cc nL s args TB own) (hr : meth.sig.returnType = none) (hlk : meth.locks = false) (u : Nat → Nat) (hP : va_P D vwCl (post u) H) (hD : va_D A (post u)) (hS : va_S A s.heap H locs) (hdg : decode cc pc = .ok (.return_, 1)) (h1 : cells ≤ mc) (h2 : slots ≤ ms) : W p l e R s m args below meth c H locs cells slots (MQ below (QQ D post A) args s mc ms A) (F0 m pc ls []) := by
  refine W.widen h1 h2 ?_
  exact W.vret hC.1 hC.2.1 hr (fun t ht hW => ⟨⟨u, rfl, trivial, by rw [ht]; exact hP, hD⟩, hS.F ht⟩) hS.2.2 hdg hlk
theorem newI (hC : CallFix p m c cc nL s args TB own) (hK : va_K D vwCl (tyL cy) s) {ws : va_W} (hP : va_P D vwCl ws H) (hD : va_D A ws) (hS : va_S A s.heap H locs) (hA : ∀ q, s.heap.size ≤ q → A q) {n : Int32} {N : Nat} (hn : ¬ n < 0) (hN : n.toNatClampNeg = N) (hb : N * componentBytes .int ≤ 536870912) (hcells : cells + 1 ≤ R.cells) (hslots : slots + N ≤ R.slots) (hw : Cond.arrayClass .int ∈ TB) (hdg : decode cc pc = .ok (.newarray .int, 2)) (kk : ∀ (q : Nat) (H1 : Heap), va_P D vwCl (ws ++ [(q, .inl (cy 0, N, .inl (fun _ => 0)))]) H1 → va_D A (ws ++ [(q, .inl (cy 0, N, .inl (fun _ => 0)))]) → va_S A s.heap H1 locs → W p l e R s m args below meth c H1 locs (cells + 1) (slots + N) Q (F0 m (pc + 2) ls (.ref q :: rest))) : W p l e R s m args below meth c H locs cells slots Q (F0 m pc ls (.int n :: rest)) := by
  refine va_newa (atype := .int) (a0 := (N, .inl (fun _ => 0))) (ty := .int) hC.1 hC.2.1 (hC.2.2.2.2 _ hw) rfl hK hP hD hS hA (fun _ => rfl) hn hN hb hcells hslots hdg (fun q cA H1 hK1 hP1 hD1 hS1 => ?_)
  have e : cA = cy 0 := Option.some.inj ((hK1.2 4 _ rfl).2.symm.trans (hK.2 0 _ rfl).2)
  subst e
  exact kk q H1 hP1 hD1 hS1
theorem newB (hC : CallFix p m c cc nL s args TB own) (hK : va_K D vwCl (tyL cy) s) {ws : va_W} (hP : va_P D vwCl ws H) (hD : va_D A ws) (hS : va_S A s.heap H locs) (hA : ∀ q, s.heap.size ≤ q → A q) {n : Int32} {N : Nat} (hn : ¬ n < 0) (hN : n.toNatClampNeg = N) (hb : N * componentBytes .byte ≤ 536870912) (hcells : cells + 1 ≤ R.cells) (hslots : slots + N ≤ R.slots) (hw : Cond.arrayClass .byte ∈ TB) (hdg : decode cc pc = .ok (.newarray .byte, 2)) (kk : ∀ (q : Nat) (H1 : Heap), va_P D vwCl (ws ++ [(q, .inl (cy 1, N, .inl (fun _ => 0)))]) H1 → va_D A (ws ++ [(q, .inl (cy 1, N, .inl (fun _ => 0)))]) → va_S A s.heap H1 locs → W p l e R s m args below meth c H1 locs (cells + 1) (slots + N) Q (F0 m (pc + 2) ls (.ref q :: rest))) : W p l e R s m args below meth c H locs cells slots Q (F0 m pc ls (.int n :: rest)) := by
  refine va_newa (atype := .byte) (a0 := (N, .inl (fun _ => 0))) (ty := .byte) hC.1 hC.2.1 (hC.2.2.2.2 _ hw) rfl hK hP hD hS hA (fun _ => rfl) hn hN hb hcells hslots hdg (fun q cA H1 hK1 hP1 hD1 hS1 => ?_)
  have e : cA = cy 1 := Option.some.inj ((hK1.2 4 _ rfl).2.symm.trans (hK.2 1 _ rfl).2)
  subst e
  exact kk q H1 hP1 hD1 hS1
theorem newZ (hC : CallFix p m c cc nL s args TB own) (hK : va_K D vwCl (tyL cy) s) {ws : va_W} (hP : va_P D vwCl ws H) (hD : va_D A ws) (hS : va_S A s.heap H locs) (hA : ∀ q, s.heap.size ≤ q → A q) {n : Int32} {N : Nat} (hn : ¬ n < 0) (hN : n.toNatClampNeg = N) (hb : N * componentBytes .boolean ≤ 536870912) (hcells : cells + 1 ≤ R.cells) (hslots : slots + N ≤ R.slots) (hw : Cond.arrayClass .boolean ∈ TB) (hdg : decode cc pc = .ok (.newarray .boolean, 2)) (kk : ∀ (q : Nat) (H1 : Heap), va_P D vwCl (ws ++ [(q, .inl (cy 2, N, .inl (fun _ => 0)))]) H1 → va_D A (ws ++ [(q, .inl (cy 2, N, .inl (fun _ => 0)))]) → va_S A s.heap H1 locs → W p l e R s m args below meth c H1 locs (cells + 1) (slots + N) Q (F0 m (pc + 2) ls (.ref q :: rest))) : W p l e R s m args below meth c H locs cells slots Q (F0 m pc ls (.int n :: rest)) := by
  refine va_newa (atype := .boolean) (a0 := (N, .inl (fun _ => 0))) (ty := .boolean) hC.1 hC.2.1 (hC.2.2.2.2 _ hw) rfl hK hP hD hS hA (fun _ => rfl) hn hN hb hcells hslots hdg (fun q cA H1 hK1 hP1 hD1 hS1 => ?_)
  have e : cA = cy 2 := Option.some.inj ((hK1.2 4 _ rfl).2.symm.trans (hK.2 2 _ rfl).2)
  subst e
  exact kk q H1 hP1 hD1 hS1
theorem newS (hC : CallFix p m c cc nL s args TB own) (hK : va_K D vwCl (tyL cy) s) (hAO : va_AO "HeardWords$Sheet" s) {ws : va_W} (hP : va_P D vwCl ws H) (hD : va_D A ws) (hS : va_S A s.heap H locs) (hA : ∀ q, s.heap.size ≤ q → A q) {n : Int32} {N idx : Nat} (hcl : .classLink own idx "HeardWords$Sheet" ∈ TB) (hn : ¬ n < 0) (hN : n.toNatClampNeg = N) (hb : N * 4 ≤ 536870912) (hcells : cells + 1 ≤ R.cells) (hslots : slots + N ≤ R.slots) (hdg : decode cc pc = .ok (.anewarray idx, 3)) (kk : ∀ (q : Nat) (H1 : Heap), va_P D vwCl (ws ++ [(q, .inl (cy 3, N, .inr (.inr (.inr (.inr (fun _ => none))))))]) H1 → va_D A (ws ++ [(q, .inl (cy 3, N, .inr (.inr (.inr (.inr (fun _ => none))))))]) → va_S A s.heap H1 locs → W p l e R s m args below meth c H1 locs (cells + 1) (slots + N) Q (F0 m (pc + 3) ls (.ref q :: rest))) : W p l e R s m args below meth c H locs cells slots Q (F0 m pc ls (.int n :: rest)) := by
  refine va_newq hC.1 hC.2.1 hC.2.2.2.1 (hC.2.2.2.2 _ hcl) hAO hK hP hD hS hA hn hN hb hcells hslots hdg (fun q cA H1 hK1 hP1 hD1 hS1 => ?_)
  have e : cA = cy 3 := by
    obtain ⟨k1, c1, -, -, -, f1⟩ := (hK1.2 4 _ rfl).2
    obtain ⟨k2, c2, -, -, -, f2⟩ := (hK.2 3 _ rfl).2
    exact Option.some.inj (f1.symm.trans f2)
  subst e
  exact kk q H1 hP1 hD1 hS1
/-- behind a constructor's call -/
theorem backC {st0 : List Value} {a : Array Value} {b mc ms : Nat} {e0 : va_E} {ws wr : va_W} {post : (Nat → Nat) → va_W} (hP : va_P D vwCl ws H) (hD : va_D A ws) (hS : va_S A s.heap H locs) (hA : ∀ q, s.heap.size ≤ q → A q) (hr : va_Run p l e R s m args below meth c H locs cells slots mc ms (F0 m pc ls st0) rest (QQ D post (va_A [(b, e0)] H.size) a) (va_A [(b, e0)] H.size)) (k : Nat) (hk : [k].map (fun i => ws[i]?) = ([(b, e0)] : va_W).map some) (isR : List Nat) (hR : isR.map (fun i => ws[i]?) = wr.map some) (hn : va_nd isR = true) (hdis : ∀ i ∈ isR, i ∉ [k]) (kk : ∀ (u : Nat → Nat) (H1 : Heap) (locs1 : List Loc), va_P D vwCl (wr ++ post u) H1 → va_D A (wr ++ post u) → va_S A s.heap H1 locs1 → W p l e R s m args below meth c H1 locs1 (cells + mc) (slots + ms) Q (F0 m (pc + 3) ls rest)) : W p l e R s m args below meth c H locs cells slots Q (F0 m pc ls st0) := by
  have hF := va_free (wc := [(b, e0)]) hD hS hA [k] hk
  refine va_callv hr hS (fun q _ h => hF q h) hF (fun u t H1 locs1 ht hvm hw hB hz1 hk1 hS1 => ?_)
  obtain ⟨hP1, hD1⟩ := hB
  rw [ht] at hP1
  obtain ⟨hP2, hD2⟩ := va_join hP hD [k] isR hk hR hn hdis hk1 hF hP1 hD1
  exact kk u H1 locs1 hP2 hD2 hS1
theorem preC {As : List Value} {b : Nat} {e0 : va_E} {ws : va_W} (hP : va_P D vwCl ws H) (hD : va_D A ws) (hS : va_S A s.heap H locs) (hK : KQ D cy s) (hG : SQ ad N0 s s.heap) (hAN : ∀ a, A a → N0 ≤ a) (k : Nat) (hk : [k].map (fun i => ws[i]?) = ([(b, e0)] : va_W).map some) : PreS s H (PQ D cy ad N0 (.ref b :: As) [(b, e0)] H.size) (.ref b :: As) := by
  have hk' : [k].filterMap (fun i => ws[i]?) = [(b, e0)] := by
    simp only [List.map_cons, List.map_nil, List.cons.injEq, and_true] at hk
    simp only [List.filterMap_cons, hk, List.filterMap_nil]
  refine ⟨PQ_blind _ _ _ _ _ _ _, fun U hU hW => ⟨rfl, by rw [hU], ?_, ?_, hK.warm hW, ?_⟩⟩
  · rw [hU]
    intro j x hx
    have hz : j < 1 := (List.getElem?_eq_some_iff.mp hx).1
    rw [show j = 0 by omega] at hx
    cases hx
    simp only [List.map_cons, List.map_nil, List.cons.injEq, and_true] at hk
    exact hP k _ hk
  · refine ⟨fun i j x y hx hy _ => ?_, fun _ _ _ => trivial⟩
    have h1 : i < 1 := (List.getElem?_eq_some_iff.mp hx).1
    have h2 : j < 1 := (List.getElem?_eq_some_iff.mp hy).1
    omega
  · rw [hU]
    exact (hG.warm hW).kept (fun a h1 h2 => hS.2.1 a h1 (fun h3 => h2 (hAN a h3)))
/-- invokespecial of a constructor -/
theorem cC_ (hC : CallFix p m c cc nL s args TB own) (hK : KQ D cy s) (hG : SQ ad N0 s s.heap) (hAN : ∀ a, A a → N0 ≤ a) {ws wr : va_W} (hP : va_P D vwCl ws H) (hD : va_D A ws) (hS : va_S A s.heap H locs) (hA : ∀ q, s.heap.size ≤ q → A q) {b : Nat} {e0 : va_E} {y : MethodName} {bytes : ByteArray} {maxL fr lo mc ms n idx : Nat} {As : List Value} {post : (Nat → Nat) → va_W} (hM : MetC l D cy ad N0 y bytes maxL fr lo mc ms (.ref b :: As) [(b, e0)] H.size post) (k : Nat) (hk : [k].map (fun i => ws[i]?) = ([(b, e0)] : va_W).map some) (isR : List Nat) (hR : isR.map (fun i => ws[i]?) = wr.map some) (hn : va_nd isR = true) (hdis : ∀ i ∈ isR, i ∉ [k]) (hcode : .code y bytes maxL none ∈ TB) (hml : .methodLink own idx y ∈ TB) (him : .instanceMethod y ∈ TB) (hini : .initialized y.cls ∈ TB) (hy : y.name = "<init>") (hd : y.cls ≠ "java/lang/invoke/MethodHandle" ∧ y.cls ≠ "java/lang/invoke/VarHandle" ∧ (parseMethodDescriptor y.desc).map (fun d => d.parameters.length) = some n) (hRm : fr + 1 ≤ R.frames ∧ 8 + (maxL + 11) + lo ≤ R.locals) (hlen : As.length = n) (hsize : ls.size = nL) (hW : (rest.map fun v => v.category).sum ≤ 8) (hdg : decode cc pc = .ok (.invokespecial idx, 3)) (hf : cells + mc ≤ R.cells ∧ slots + ms ≤ R.slots) (kk : ∀ (u : Nat → Nat) (H1 : Heap) (locs1 : List Loc), va_P D vwCl (wr ++ post u) H1 → va_D A (wr ++ post u) → va_S A s.heap H1 locs1 → W p l e R s m args below meth c H1 locs1 (cells + mc) (slots + ms) Q (F0 m (pc + 3) ls rest)) : W p l e R s m args below meth c H locs cells slots Q (F0 m pc ls (As.reverse ++ .ref b :: rest)) := by
  have hts := hC.2.2.2.2
  exact backC hP hD hS hA (va_runI (g := F0 m pc ls (As.reverse ++ .ref b :: rest)) hC hM (cwI n hts (gin (own := own) (C := own) (idx := idx) hcode) rfl rfl rfl (hts _ hini) (hts _ hml) (hts _ him) hy hd hRm) (preC hP hD hS hK hG hAN k hk) rfl hlen hsize rfl (lv_room hW) hdg hf) k hk isR hR hn hdis kk
theorem cCN_ (hC : CallFix p m c cc nL s args TB own) (hK : KQ D cy s) (hG : SQ ad N0 s s.heap) (hAN : ∀ a, A a → N0 ≤ a) {ws wr : va_W} (hP : va_P D vwCl ws H) (hD : va_D A ws) (hS : va_S A s.heap H locs) (hA : ∀ q, s.heap.size ≤ q → A q) {host : String} {b : Nat} {e0 : va_E} {y : MethodName} {bytes : ByteArray} {maxL fr lo mc ms n idx : Nat} {As : List Value} {post : (Nat → Nat) → va_W} (hM : MetC l D cy ad N0 y bytes maxL fr lo mc ms (.ref b :: As) [(b, e0)] H.size post) (k : Nat) (hk : [k].map (fun i => ws[i]?) = ([(b, e0)] : va_W).map some) (isR : List Nat) (hR : isR.map (fun i => ws[i]?) = wr.map some) (hn : va_nd isR = true) (hdis : ∀ i ∈ isR, i ∉ [k]) (hcode : .code y bytes maxL none ∈ TB) (hml : (own, idx, y, host) ∈ nwM) (him : .instanceMethod y ∈ TB) (hini : .initialized y.cls ∈ TB) (hy : y.name = "<init>") (hd : y.cls ≠ "java/lang/invoke/MethodHandle" ∧ y.cls ≠ "java/lang/invoke/VarHandle" ∧ (parseMethodDescriptor y.desc).map (fun d => d.parameters.length) = some n) (hRm : fr + 1 ≤ R.frames ∧ 8 + (maxL + 11) + lo ≤ R.locals) (hlen : As.length = n) (hsize : ls.size = nL) (hW : (rest.map fun v => v.category).sum ≤ 8) (hdg : decode cc pc = .ok (.invokespecial idx, 3)) (hf : cells + mc ≤ R.cells ∧ slots + ms ≤ R.slots) (kk : ∀ (u : Nat → Nat) (H1 : Heap) (locs1 : List Loc), va_P D vwCl (wr ++ post u) H1 → va_D A (wr ++ post u) → va_S A s.heap H1 locs1 → W p l e R s m args below meth c H1 locs1 (cells + mc) (slots + ms) Q (F0 m (pc + 3) ls rest)) : W p l e R s m args below meth c H locs cells slots Q (F0 m pc ls (As.reverse ++ .ref b :: rest)) := by
  have hts := hC.2.2.2.2
  exact backC hP hD hS hA (va_runIN (g := F0 m pc ls (As.reverse ++ .ref b :: rest)) hC hM ⟨va_cnB n hts (gin (own := own) (C := own) (idx := idx) hcode) rfl rfl rfl (hK.2.2.1 _ hml) (hts _ hini) hd hRm, hy, hts _ him⟩ (preC hP hD hS hK hG hAN k hk) rfl hlen hsize rfl (lv_room hW) hdg hf) k hk isR hR hn hdis kk
/-- Roads() calls seekQuickest -/
theorem cSeek {G : GT} {M M2 : Mem} {h0 fr lo maxL idx : Nat} {bytes : ByteArray} {y : MethodName} (hC : CallFix p m c cc nL s args TB RX3) (hKG : KK G s) (hAG : ∀ a, AG G a → A a) (hi : 51 ∈ gL G) (hPG : PP G M H) (hS : va_S A s.heap H locs) (hSGH : SG G s H) (hh0 : G.1 51 = h0) (hM : MetG l G y bytes maxL none fr lo [.ref (G.1 51)] M none M2) (hk : CVt y bytes maxL none RX3 0) (hml : .methodLink RX3 idx y ∈ TB) (hsize : ls.size = nL) (hR : fr + 1 ≤ R.frames ∧ 8 + (maxL + 11) + lo ≤ R.locals) (hdg : decode cc pc = .ok (.invokevirtual idx, 3)) (hf : cells + 0 ≤ R.cells ∧ slots + 0 ≤ R.slots) (kk : ∀ (H1 : Heap) (locs1 : List Loc), PP G M2 H1 → va_S A s.heap H1 locs1 → W p l e R s m args below meth c H1 locs1 cells slots Q (F0 m (pc + 3) ls [])) : W p l e R s m args below meth c H locs cells slots Q (F0 m pc ls [.ref h0]) := by
  subst hh0
  obtain ⟨j, hj, hw⟩ := hPG.at hi
  obtain ⟨k1, k2, k3, k4, k5⟩ := hk
  have hg : GoodIn TB (wsV RX3 idx RX3 y (.code y bytes maxL none :: TB)) := by
    intro w hw
    rcases List.mem_append.mp hw with h | h
    · have hT : w ∈ TB := by
        simp only [List.mem_cons, List.not_mem_nil, or_false] at h
        rcases h with rfl | rfl | rfl | rfl
        · exact hml
        · exact k2
        · exact k3
        · exact k4
      exact ⟨hT, good_of_word (TB_good hT)⟩
    · exact gin (own := RX3) (C := RX3) (idx := idx) k1 w h
  refine rung (M := M) hAG (va_runV (C := RX3) (As := []) (rest := []) (g := F0 m pc ls [.ref (G.1 51)]) hC hM (cwV 0 hC.2.2.2.2 hg rfl rfl rfl k5 hR) ⟨PR_blind _ _ _, va_recv (q := (RX3, TX3, 2)) hKG.1 hPG rfl hw, fun U hU hW => ⟨rfl, hKG.warm hW, by rw [hU]; exact hSGH.warm hW, by rw [hU]; exact hPG⟩⟩ rfl rfl hsize rfl (lv_room (Nat.le_of_ble_eq_true rfl)) hdg hf) ⟨hPG, hS⟩ (fun H1 locs1 hS1 => kk H1 locs1 hS1.1 hS1.2)
end CK
