/-! THE CLAIM OUT OF ONE WALK OF THE LAW'S BODY. Your part is whole_start (and what it stands on); all else here is the same for every law, but numbers. -/
def R_law : String := "HeardWordsLaw"
def lw_P (b : Addr) (xs : List Int32) (args : Array Value) (s : State) : Prop := args = #[.ref b] ∧ s.IntsAt b xs ∧ xs.length ≤ 3072 ∧ (Jvm.Cond.and given_1 narrow_1).before args s = true
def lw_Q (_ : Array Value) (s : State) (o : Outcome) (t : State) : Prop := o = .returned (some (.int 1)) ∧ Framed s o t [] 600000 7302250
def lw_Z (below : List Frame) (a : Array Value) (s : State) : State → Prop := fun t => ∃ o, t.status = .running ∧ Ended t below o ∧ lw_Q a s o t
/-- the law's own end, with 1 on the stack, nothing written that was there before, its room as the claim has it -/
theorem lw_ret {p : Program} {l : Launch} {e : Env} {s : State} {m : MethodId} {below : List Frame} {meth : Method} {c : Code} {b : Nat} (hx : p.tables.exec = Jvm.exec) (hb : c.code = code) (hr : meth.sig.returnType = ret) (hlocks : meth.locks = false) {pc : Nat} {H : Heap} {ls : Array Slot} (hdg : decode code pc = .ok (.ireturn, 1)) : W p l e room_1 s m #[Value.ref b] below meth c H [] 600000 7302250 (lw_Z below #[Value.ref b] s) (F0 m pc ls [.int 1]) := by
  intro T hT X
  obtain ⟨fs, hret, hrun, hended, hW, hframe⟩ := X.leave (v := some (.int 1)) (hlocks := hlocks) (fun h => by rw [hr] at h; cases h)
  have hmeth' : T.vm.method? m = some meth := X.method'
  refine ⟨T.setFrames fs, ?_, .returned (some (.int 1)), hrun, hended, rfl, ⟨_, rfl⟩, hW, hframe⟩
  jvm_step X.here [X.here.top, hx, hb, hdg, hmeth', hr, ret, narrow_b1]
  (try refine ⟨rfl, ?_⟩); (try refine ⟨rfl, ?_⟩)
  first | (intro acts; rw [hret _ acts rfl rfl rfl]) | rw [hret _ _ rfl rfl rfl]
  exact Steps.refl _
/-- what holds at the law's entry: the machine, the code, the tables' words (any of lw_tbl by 'hts w (by decide +kernel)'), the script of L ints xs at the cell b, what the Statement gives of the start (any of its parts by flat_of_before) -/
def lw_At (p : Program) (s : State) (m : MethodId) (meth : Method) (c : Code) (b L : Nat) (xs : Nat → Int32) : Prop :=
  p.tables.exec = Jvm.exec ∧ c.code = code ∧ meth.sig.returnType = ret ∧ c.maxLocals = 4 ∧ s.vm.findClass R_law = some m.cls ∧ (∀ w ∈ lw_tbl, w.before #[Value.ref b] s = true) ∧ va_X b L xs s s.heap ∧ b < s.heap.size ∧ meth.locks = false ∧ (Jvm.Cond.and given_1 narrow_1).before #[Value.ref b] s = true
/-! what is known as the law begins -/
theorem lgc (r : Int64) : lg_cmp r r = 0 := by
  unfold lg_cmp
  first | simp | (split <;> simp_all) | (rw [if_neg (by simp), if_pos rfl])
section LK
variable {p : Program} {l : Launch} {e : Env} {R : Room} {s : State} {m : MethodId} {args : Array Value} {below : List Frame} {meth : Method} {c : Code} {H : Heap} {locs : List Loc} {cells slots : Nat} {Q : State → Prop} {pc : Nat} {ls : Array Slot} {rest st1 : List Value} {cc : ByteArray} {nL : Nat} {own : String} {A : Nat → Prop} {G : GT} {M M' : Mem}
/-- a call from the law -/
theorem cL_ (hC : CallFix p m c cc nL s args TB own) (hKG : KK G s) (hAG : ∀ a, AG G a → A a) (hSGH : SG G s H) (hPG : PP G M H) (hS : va_S A s.heap H locs) {C : String} {T : u_T} {y : MethodName} {bytes : ByteArray} {maxL fr lo n idx ci i N : Nat} {ret : Option FieldType} {As fs : List Value} {v : Option Value} (hi : i ∈ gL G) (he : ce G.1 (gY G) M i = .inr (ci, fs)) (hcl : vwCl[ci]? = some (C, T, N)) (hM : MetG l G y bytes maxL ret fr lo (.ref (G.1 i) :: As) M v M') (hk : CVt y bytes maxL ret C n) (hml : .methodLink own idx y ∈ TB) (hR : fr + 1 ≤ R.frames ∧ 8 + (maxL + 11) + lo ≤ R.locals) (hn : As.length = n) (hsize : ls.size = nL) (hW : (rest.map fun v => v.category).sum ≤ 8) (hdg : decode cc pc = .ok (.invokevirtual idx, 3)) (hf : cells + 0 ≤ R.cells ∧ slots + 0 ≤ R.slots) (hst : v.toList ++ rest = st1) (kk : ∀ (H1 : Heap) (locs1 : List Loc), PP G M' H1 → va_S A s.heap H1 locs1 → W p l e R s m args below meth c H1 locs1 cells slots Q (F0 m (pc + 3) ls st1)) : W p l e R s m args below meth c H locs cells slots Q (F0 m pc ls (As.reverse ++ .ref (G.1 i) :: rest)) := by
  subst hst
  obtain ⟨j, hj, hw⟩ := hPG.at hi
  rw [he] at hw
  obtain ⟨k1, k2, k3, k4, k5⟩ := hk
  have hg : GoodIn TB (wsV own idx C y (.code y bytes maxL ret :: TB)) := by
    intro w hw
    rcases List.mem_append.mp hw with h | h
    · have hT : w ∈ TB := by
        simp only [List.mem_cons, List.not_mem_nil, or_false] at h
        rcases h with rfl | rfl | rfl | rfl
        · exact hml
        · exact k2
        · exact k3
        · exact k4
      exact ⟨hT, good_of_word (TB_good hT)⟩
    · exact gin (own := own) (C := C) (idx := idx) k1 w h
  refine rung (M := M) hAG (va_runV (C := C) (g := F0 m pc ls (As.reverse ++ .ref (G.1 i) :: rest)) hC hM (cwV n hC.2.2.2.2 hg rfl rfl rfl k5 hR) ⟨PR_blind _ _ _, va_recv hKG.1 hPG hcl hw, fun U hU hW => ⟨rfl, hKG.warm hW, by rw [hU]; exact hSGH.warm hW, by rw [hU]; exact hPG⟩⟩ rfl hn hsize rfl (lv_room hW) hdg hf) ⟨hPG, hS⟩ (fun H1 locs1 hS1 => kk H1 locs1 hS1.1 hS1.2)
end LK
theorem wl_inj {q : Nat → Nat} {cy : Nat → ClassId} {Ls : List Nat} {M : Mem} {A : Nat → Prop} (h : va_D A (wl q cy Ls M)) : ∀ i, i ∈ Ls → ∀ j, j ∈ Ls → q i = q j → i = j := by
  intro i hi j hj hij
  obtain ⟨a, ha, ea⟩ := wl_get (q := q) (cy := cy) (M := M) hi
  obtain ⟨b, hb, eb⟩ := wl_get (q := q) (cy := cy) (M := M) hj
  have hab := h.1 a b _ _ ea eb hij
  subst hab
  exact Option.some.inj (ha.symm.trans hb)
theorem lsCS : Cond.laysStatic "java/lang/String" "COMPACT_STRINGS" "Z" ∈ tables_1 := List.mem_of_getElem? (i := 370) (by decide +kernel)
theorem lsSI : Cond.laysStatic "jdk/internal/util/Preconditions" "SIOOBE_FORMATTER" "Ljava/util/function/BiFunction;" ∈ tables_1 := List.mem_of_getElem? (i := 413) (by decide +kernel)
theorem liST : Cond.initialized "java/lang/String" ∈ tables_1 := List.mem_of_getElem? (i := 12) (by decide +kernel)
theorem liPR : Cond.initialized "jdk/internal/util/Preconditions" ∈ tables_1 := List.mem_of_getElem? (i := 15) (by decide +kernel)
theorem sr49 : Cond.stringRef "HeardWords$Law" 49 "gcep" ∈ tables_1 := List.mem_of_getElem? (i := 356) (by decide +kernel)
theorem sr64 : Cond.stringRef "HeardWords$Law" 64 "1000" ∈ tables_1 := List.mem_of_getElem? (i := 447) (by decide +kernel)
theorem sr70 : Cond.stringRef "HeardWords$Law" 70 "4211" ∈ tables_1 := List.mem_of_getElem? (i := 468) (by decide +kernel)
theorem nwF_in : ∀ x ∈ nwF, (Cond.fieldLinkNest x.1 x.2.1 x.2.2.1 x.2.2.2.1 x.2.2.2.2.1 x.2.2.2.2.2) ∈ tables_1 := by decide +kernel
theorem nwM_in : ∀ x ∈ nwM, (Cond.methodLinkNest x.1 x.2.1 x.2.2.1 x.2.2.2) ∈ tables_1 := by decide +kernel
/-- the classes, the array classes, the texts -/
theorem law_known {p : Program} {s : State} {m : MethodId} {meth : Method} {c : Code} {b L : Nat} {xs : Nat → Int32} (C0 : lw_At p s m meth c b L xs) : ∃ (dC : Nat → ClassId) (dI : Nat → Nat → Nat) (cy : Nat → ClassId) (ad : (Nat → Nat) × (Nat → Nat)), KQ (dC, dI) cy s ∧ SQ ad s.heap.size s s.heap := by
  obtain ⟨hx, hb, hr, hml, hown, hts, hX, hbl, hlocks, hgv⟩ := C0
  have hT : ∀ w ∈ TB, w.before #[Value.ref b] s = true := fun w h => hts w (TB_in h)
  obtain ⟨c0, i0, k0⟩ := u_known (C := RX0) (T := TX0) (N := 6) (n := 6) hT in_X0 (hT _ ni_X0)
  obtain ⟨c1, i1, k1⟩ := u_known (C := RX1) (T := TX1) (N := 4) (n := 4) hT in_X1 (hT _ ni_X1)
  obtain ⟨c2, i2, k2⟩ := u_known (C := RX2) (T := TX2) (N := 7) (n := 7) hT in_X2 (hT _ ni_X2)
  obtain ⟨c3, i3, k3⟩ := u_known (C := RX3) (T := TX3) (N := 2) (n := 2) hT in_X3 (hT _ ni_X3)
  obtain ⟨c4, i4, k4⟩ := u_known (C := RX4) (T := TX4) (N := 4) (n := 4) hT in_X4 (hT _ ni_X4)
  obtain ⟨c5, i5, k5⟩ := u_known (C := RX5) (T := TX5) (N := 13) (n := 13) hT in_X5 (hT _ ni_X5)
  obtain ⟨c6, i6, k6⟩ := u_known (C := RX6) (T := TX6) (N := 8) (n := 8) hT in_X6 (hts (.instantiable RX6 8) (List.mem_append_right _ (List.mem_of_getElem? (i := 19) (by decide +kernel))))
  obtain ⟨c7, i7, k7⟩ := u_known (C := RX7) (T := TX7) (N := 29) (n := 29) hT in_X7 (hts (.instantiable RX7 29) (List.mem_append_right _ (List.mem_of_getElem? (i := 777) (by decide +kernel))))
  obtain ⟨y0, z0, w0, f0, g0, t0⟩ := Cond.arrayClass_spec (hT _ ac_int)
  obtain ⟨y1, z1, w1, f1, g1, t1⟩ := Cond.arrayClass_spec (hT _ ac_byte)
  obtain ⟨y2, z2, w2, f2, g2, t2⟩ := Cond.arrayClass_spec (hT _ ac_boolean)
  have hov := hts (.arrayOver (.object "HeardWords$Sheet")) (List.mem_append_right _ (List.mem_of_getElem? (i := 156) (by decide +kernel)))
  obtain ⟨w3, y3, z3, v3, -, g3, t3, f3⟩ := Cond.arrayOver_spec hov
  have hs := flat_of_before _ hgv
  obtain ⟨adK, adV, hS, hE⟩ := vk_Sof (args := #[Value.ref b]) (s := s) (N := 3) (tm := fun i => if i = 0 then .string "HeardWords$Law" 49 else if i = 1 then .string "HeardWords$Law" 64 else .string "HeardWords$Law" 70) (len := [4, 4, 4]) (byt := strB) (A := fun a => s.heap.size ≤ a)
    (fun i hi => by rcases (show i = 0 ∨ i = 1 ∨ i = 2 by omega) with rfl | rfl | rfl <;> decide)
    (fun i hi => by rcases (show i = 0 ∨ i = 1 ∨ i = 2 by omega) with rfl | rfl | rfl <;> exact hs _ (by decide +kernel))
    (fun i hi => by rcases (show i = 0 ∨ i = 1 ∨ i = 2 by omega) with rfl | rfl | rfl <;> exact hs _ (by decide +kernel))
    (fun i hi => by rcases (show i = 0 ∨ i = 1 ∨ i = 2 by omega) with rfl | rfl | rfl <;> exact hs _ (by decide +kernel))
    (fun i hi => by rcases (show i = 0 ∨ i = 1 ∨ i = 2 by omega) with rfl | rfl | rfl <;> exact hs _ (by decide +kernel))
    (fun i hi j hj => by rcases (show i = 0 ∨ i = 1 ∨ i = 2 by omega) with rfl | rfl | rfl <;> (have hj : j < 4 := hj; rcases (show j = 0 ∨ j = 1 ∨ j = 2 ∨ j = 3 by omega) with rfl | rfl | rfl | rfl <;> exact hs _ (by decide +kernel)))
    (fun i j hi hj hij => by rcases (show i = 0 ∨ i = 1 ∨ i = 2 by omega) with rfl | rfl | rfl <;> rcases (show j = 0 ∨ j = 1 ∨ j = 2 by omega) with rfl | rfl | rfl <;> first | exact absurd rfl hij | exact Or.inl (hs _ (by decide +kernel)) | exact Or.inr (hs _ (by decide +kernel)))
    (fun a h => by omega)
  refine ⟨fun k => if k = 0 then c0 else if k = 1 then c1 else if k = 2 then c2 else if k = 3 then c3 else if k = 4 then c4 else if k = 5 then c5 else if k = 6 then c6 else c7, fun k => if k = 0 then i0 else if k = 1 then i1 else if k = 2 then i2 else if k = 3 then i3 else if k = 4 then i4 else if k = 5 then i5 else if k = 6 then i6 else i7, fun k => if k = 0 then y0 else if k = 1 then y1 else if k = 2 then y2 else y3, (adK, adV), ⟨⟨?_, ?_⟩, ?_, ?_, hov⟩, hS, ?_, ?_, ?_, ?_, ?_⟩
  · intro k q hq
    match k, hq with
    | 0, hq => cases hq; exact k0
    | 1, hq => cases hq; exact k1
    | 2, hq => cases hq; exact k2
    | 3, hq => cases hq; exact k3
    | 4, hq => cases hq; exact k4
    | 5, hq => cases hq; exact k5
    | 6, hq => cases hq; exact k6
    | 7, hq => cases hq; exact k7
    | k + 8, hq => simp [vwCl] at hq
  · intro k q hq
    match k, hq with
    | 0, hq => cases hq; exact ⟨fun n z => ⟨fun k h => (by cases h), z0, g0, w0, t0⟩, f0⟩
    | 1, hq => cases hq; exact ⟨fun n z => ⟨fun k h => (by cases h), z1, g1, w1, t1⟩, f1⟩
    | 2, hq => cases hq; exact ⟨fun n z => ⟨fun k h => (by cases h), z2, g2, w2, t2⟩, f2⟩
    | 3, hq => cases hq; exact ⟨fun n z => ⟨fun k h => (by cases h), z3, g3, w3, t3⟩, z3, w3, g3, t3, v3, f3⟩
    | k + 4, hq => simp at hq
  · intro x hx
    have h1 : (Cond.fieldLinkNest x.1 x.2.1 x.2.2.1 x.2.2.2.1 x.2.2.2.2.1 x.2.2.2.2.2) ∈ lw_tbl := List.mem_append_right _ (nwF_in x hx)
    exact va_Nw.of rfl (hts _ h1)
  · intro x hx
    have h1 : (Cond.methodLinkNest x.1 x.2.1 x.2.2.1 x.2.2.2) ∈ lw_tbl := List.mem_append_right _ (nwM_in x hx)
    exact va_Nw.of rfl (hts _ h1)
  · exact va_Zof (hts _ (List.mem_append_right _ lsCS)) (hts _ (List.mem_append_right _ liST)) (va_eqv (hs _ (by decide +kernel) : (Cond.eq (.static "java/lang/String" "COMPACT_STRINGS" "Z") (.int 1)).before #[Value.ref b] s = true) rfl) (fun a h => by omega)
  · exact va_Zqof (hts _ (List.mem_append_right _ lsSI)) (hts _ (List.mem_append_right _ liPR)) (hs _ (by decide +kernel)) (fun a h => by omega)
  · exact vk_R.of (hts _ (List.mem_append_right _ sr49)) (hE 0 (by decide))
  · exact vk_R.of (hts _ (List.mem_append_right _ sr64)) (hE 1 (by decide))
  · exact vk_R.of (hts _ (List.mem_append_right _ sr70)) (hE 2 (by decide))
/-- what a call of number k does to the memory: both systems answer alike -/
def RunOp (k : Nat) (a1 a2 a3 a4 a5 : Int32) (M M2 : Mem) : Prop := match k with
  | 0 => ∃ (r : Int32) (M1 : Mem), F_X6_road a1 a2 a3 M = some (r, M1) ∧ F_X7_road a1 a2 a3 M1 = some (r, M2)
  | 1 => ∃ (r : Int32) (M1 : Mem), F_X6_away a1 a2 M = some (r, M1) ∧ F_X7_away a1 a2 M1 = some (r, M2)
  | 2 => ∃ (r : Int32) (M1 : Mem), F_X6_word a1 a2 a3 a4 a5 M = some (r, M1) ∧ F_X7_word a1 a2 a3 a4 a5 M1 = some (r, M2)
  | 3 => ∃ (r : Int32) (M1 : Mem), F_X6_read a1 M = some (r, M1) ∧ F_X7_read a1 M1 = some (r, M2)
  | 4 => ∃ (r : Int32) (M1 : Mem), F_X6_is a1 a2 M = some (r, M1) ∧ F_X7_is a1 a2 M1 = some (r, M2)
  | 5 => ∃ (r : Int32) (M1 : Mem), F_X6_keep a1 M = some (r, M1) ∧ F_X7_keep a1 M1 = some (r, M2)
  | 6 => ∃ (r : Int32) (M1 : Mem), F_X6_type a1 a2 M = some (r, M1) ∧ F_X7_type a1 a2 M1 = some (r, M2)
  | 7 => ∃ (r : Int32) (M1 : Mem), F_X6_wipe a1 M = some (r, M1) ∧ F_X7_wipe a1 M1 = some (r, M2)
  | 8 => ∃ (r : Int32) (M1 : Mem), F_X6_fault a1 M = some (r, M1) ∧ F_X7_fault a1 M1 = some (r, M2)
  | 9 => ∃ (r : Int32) (M1 : Mem), F_X6_law a1 a2 M = some (r, M1) ∧ F_X7_law a1 a2 M1 = some (r, M2)
  | 10 => ∃ (r : Int32) (M1 : Mem), F_X6_heard a1 a2 M = some (r, M1) ∧ F_X7_heard a1 a2 M1 = some (r, M2)
  | 11 => ∃ (r : Int32) (M1 : Mem), F_X6_ordered a1 a2 a3 M = some (r, M1) ∧ F_X7_ordered a1 a2 a3 M1 = some (r, M2)
  | 12 => ∃ (r : Int32) (M1 : Mem), F_X6_head a1 a2 M = some (r, M1) ∧ F_X7_head a1 a2 M1 = some (r, M2)
  | 13 => ∃ (r : Int32) (M1 : Mem), F_X6_orders a1 a2 M = some (r, M1) ∧ F_X7_orders a1 a2 M1 = some (r, M2)
  | 14 => ∃ (r : Int32) (M1 : Mem), F_X6_strikes a1 a2 a3 M = some (r, M1) ∧ F_X7_strikes a1 a2 a3 M1 = some (r, M2)
  | 15 => ∃ (r : Int32) (M1 : Mem), F_X6_sound a1 a2 M = some (r, M1) ∧ F_X7_sound a1 a2 M1 = some (r, M2)
  | 16 => ∃ (r : Int32) (M1 : Mem), F_X6_least a1 M = some (r, M1) ∧ F_X7_least a1 M1 = some (r, M2)
  | 17 => ∃ (r : Int32) (M1 : Mem), F_X6_full a1 a2 M = some (r, M1) ∧ F_X7_full a1 a2 M1 = some (r, M2)
  | 18 => ∃ (r : Int32) (M1 : Mem), F_X6_firm a1 a2 M = some (r, M1) ∧ F_X7_firm a1 a2 M1 = some (r, M2)
  | 19 => ∃ (r : Int32) (M1 : Mem), F_X6_ring M = some (r, M1) ∧ F_X7_ring M1 = some (r, M2)
  | 20 => ∃ (r : Int32) (M1 : Mem), F_X6_chain a1 M = some (r, M1) ∧ F_X7_chain a1 M1 = some (r, M2)
  | 21 => ∃ (r : Int32) (M1 : Mem), F_X6_hangs a1 M = some (r, M1) ∧ F_X7_hangs a1 M1 = some (r, M2)
  | 22 => ∃ (r : Int32) (M1 : Mem), F_X6_most M = some (r, M1) ∧ F_X7_most M1 = some (r, M2)
  | 23 => ∃ (r : Int32) (M1 : Mem), F_X6_brings a1 a2 M = some (r, M1) ∧ F_X7_brings a1 a2 M1 = some (r, M2)
  | 24 => ∃ (r : Int32) (M1 : Mem), F_X6_part M = some (r, M1) ∧ F_X7_part M1 = some (r, M2)
  | 25 => ∃ (r : Int32) (M1 : Mem), F_X6_sheet a1 a2 a3 M = some (r, M1) ∧ F_X7_sheet a1 a2 a3 M1 = some (r, M2)
  | 26 => ∃ (r : Int32) (M1 : Mem), F_X6_lose a1 M = some (r, M1) ∧ F_X7_lose a1 M1 = some (r, M2)
  | 27 => ∃ (r : Int32) (M1 : Mem), F_X6_put a1 a2 a3 a4 M = some (r, M1) ∧ F_X7_put a1 a2 a3 a4 M1 = some (r, M2)
  | 28 => ∃ (r : Int32) (M1 : Mem), F_X6_get a1 a2 a3 M = some (r, M1) ∧ F_X7_get a1 a2 a3 M1 = some (r, M2)
  | 29 => ∃ (r : Int32) (M1 : Mem), F_X6_copy a1 a2 a3 a4 a5 M = some (r, M1) ∧ F_X7_copy a1 a2 a3 a4 a5 M1 = some (r, M2)
  | 30 => ∃ (r : Int32) (M1 : Mem), F_X6_write a1 M = some (r, M1) ∧ F_X7_write a1 M1 = some (r, M2)
  | 31 => ∃ (r : Int32) (M1 : Mem), F_X6_count a1 M = some (r, M1) ∧ F_X7_count a1 M1 = some (r, M2)
  | 32 => ∃ (r : Int64) (M1 : Mem), F_X6_digest M = some (r, M1) ∧ F_X7_digest M1 = some (r, M2)
  | _ => M2 = M
theorem kV_X6_road : CVt yX6_road cX6_road 5 (some .int) RX6 3 := ⟨TB_of (List.mem_of_getElem? (i := 253) (by decide +kernel)) rfl, TB_of (List.mem_of_getElem? (i := 251) (by decide +kernel)) rfl, TB_of (List.mem_of_getElem? (i := 252) (by decide +kernel)) rfl, TB_of (List.mem_of_getElem? (i := 1) (by decide +kernel)) rfl, by decide +kernel⟩
theorem kV_X7_road : CVt yX7_road cX7_road 5 (some .int) RX7 3 := ⟨TB_of (List.mem_of_getElem? (i := 874) (by decide +kernel)) rfl, TB_of (List.mem_of_getElem? (i := 872) (by decide +kernel)) rfl, TB_of (List.mem_of_getElem? (i := 873) (by decide +kernel)) rfl, TB_of (List.mem_of_getElem? (i := 8) (by decide +kernel)) rfl, by decide +kernel⟩
theorem kV_X6_away : CVt yX6_away cX6_away 3 (some .int) RX6 2 := ⟨TB_of (List.mem_of_getElem? (i := 282) (by decide +kernel)) rfl, TB_of (List.mem_of_getElem? (i := 280) (by decide +kernel)) rfl, TB_of (List.mem_of_getElem? (i := 281) (by decide +kernel)) rfl, TB_of (List.mem_of_getElem? (i := 1) (by decide +kernel)) rfl, by decide +kernel⟩
theorem kV_X7_away : CVt yX7_away cX7_away 3 (some .int) RX7 2 := ⟨TB_of (List.mem_of_getElem? (i := 884) (by decide +kernel)) rfl, TB_of (List.mem_of_getElem? (i := 882) (by decide +kernel)) rfl, TB_of (List.mem_of_getElem? (i := 883) (by decide +kernel)) rfl, TB_of (List.mem_of_getElem? (i := 8) (by decide +kernel)) rfl, by decide +kernel⟩
theorem kV_X7_word : CVt yX7_word cX7_word 6 (some .int) RX7 5 := ⟨TB_of (List.mem_of_getElem? (i := 892) (by decide +kernel)) rfl, TB_of (List.mem_of_getElem? (i := 890) (by decide +kernel)) rfl, TB_of (List.mem_of_getElem? (i := 891) (by decide +kernel)) rfl, TB_of (List.mem_of_getElem? (i := 8) (by decide +kernel)) rfl, by decide +kernel⟩
theorem kV_X6_read : CVt yX6_read cX6_read 6 (some .int) RX6 1 := ⟨TB_of (List.mem_of_getElem? (i := 310) (by decide +kernel)) rfl, TB_of (List.mem_of_getElem? (i := 308) (by decide +kernel)) rfl, TB_of (List.mem_of_getElem? (i := 309) (by decide +kernel)) rfl, TB_of (List.mem_of_getElem? (i := 1) (by decide +kernel)) rfl, by decide +kernel⟩
theorem kV_X7_read : CVt yX7_read cX7_read 4 (some .int) RX7 1 := ⟨TB_of (List.mem_of_getElem? (i := 900) (by decide +kernel)) rfl, TB_of (List.mem_of_getElem? (i := 898) (by decide +kernel)) rfl, TB_of (List.mem_of_getElem? (i := 899) (by decide +kernel)) rfl, TB_of (List.mem_of_getElem? (i := 8) (by decide +kernel)) rfl, by decide +kernel⟩
theorem kV_X7_is : CVt yX7_is cX7_is 3 (some .int) RX7 2 := ⟨TB_of (List.mem_of_getElem? (i := 911) (by decide +kernel)) rfl, TB_of (List.mem_of_getElem? (i := 909) (by decide +kernel)) rfl, TB_of (List.mem_of_getElem? (i := 910) (by decide +kernel)) rfl, TB_of (List.mem_of_getElem? (i := 8) (by decide +kernel)) rfl, by decide +kernel⟩
theorem kV_X6_keep : CVt yX6_keep cX6_keep 3 (some .int) RX6 1 := ⟨TB_of (List.mem_of_getElem? (i := 327) (by decide +kernel)) rfl, TB_of (List.mem_of_getElem? (i := 325) (by decide +kernel)) rfl, TB_of (List.mem_of_getElem? (i := 326) (by decide +kernel)) rfl, TB_of (List.mem_of_getElem? (i := 1) (by decide +kernel)) rfl, by decide +kernel⟩
theorem kV_X7_keep : CVt yX7_keep cX7_keep 3 (some .int) RX7 1 := ⟨TB_of (List.mem_of_getElem? (i := 930) (by decide +kernel)) rfl, TB_of (List.mem_of_getElem? (i := 928) (by decide +kernel)) rfl, TB_of (List.mem_of_getElem? (i := 929) (by decide +kernel)) rfl, TB_of (List.mem_of_getElem? (i := 8) (by decide +kernel)) rfl, by decide +kernel⟩
theorem kV_X6_type : CVt yX6_type cX6_type 4 (some .int) RX6 2 := ⟨TB_of (List.mem_of_getElem? (i := 335) (by decide +kernel)) rfl, TB_of (List.mem_of_getElem? (i := 333) (by decide +kernel)) rfl, TB_of (List.mem_of_getElem? (i := 334) (by decide +kernel)) rfl, TB_of (List.mem_of_getElem? (i := 1) (by decide +kernel)) rfl, by decide +kernel⟩
theorem kV_X7_type : CVt yX7_type cX7_type 3 (some .int) RX7 2 := ⟨TB_of (List.mem_of_getElem? (i := 938) (by decide +kernel)) rfl, TB_of (List.mem_of_getElem? (i := 936) (by decide +kernel)) rfl, TB_of (List.mem_of_getElem? (i := 937) (by decide +kernel)) rfl, TB_of (List.mem_of_getElem? (i := 8) (by decide +kernel)) rfl, by decide +kernel⟩
theorem kV_X6_wipe : CVt yX6_wipe cX6_wipe 4 (some .int) RX6 1 := ⟨TB_of (List.mem_of_getElem? (i := 476) (by decide +kernel)) rfl, TB_of (List.mem_of_getElem? (i := 474) (by decide +kernel)) rfl, TB_of (List.mem_of_getElem? (i := 475) (by decide +kernel)) rfl, TB_of (List.mem_of_getElem? (i := 1) (by decide +kernel)) rfl, by decide +kernel⟩
theorem kV_X7_wipe : CVt yX7_wipe cX7_wipe 3 (some .int) RX7 1 := ⟨TB_of (List.mem_of_getElem? (i := 945) (by decide +kernel)) rfl, TB_of (List.mem_of_getElem? (i := 943) (by decide +kernel)) rfl, TB_of (List.mem_of_getElem? (i := 944) (by decide +kernel)) rfl, TB_of (List.mem_of_getElem? (i := 8) (by decide +kernel)) rfl, by decide +kernel⟩
theorem kV_X7_fault : CVt yX7_fault cX7_fault 2 (some .int) RX7 1 := ⟨TB_of (List.mem_of_getElem? (i := 949) (by decide +kernel)) rfl, TB_of (List.mem_of_getElem? (i := 947) (by decide +kernel)) rfl, TB_of (List.mem_of_getElem? (i := 948) (by decide +kernel)) rfl, TB_of (List.mem_of_getElem? (i := 8) (by decide +kernel)) rfl, by decide +kernel⟩
theorem kV_X7_law : CVt yX7_law cX7_law 3 (some .int) RX7 2 := ⟨TB_of (List.mem_of_getElem? (i := 969) (by decide +kernel)) rfl, TB_of (List.mem_of_getElem? (i := 967) (by decide +kernel)) rfl, TB_of (List.mem_of_getElem? (i := 968) (by decide +kernel)) rfl, TB_of (List.mem_of_getElem? (i := 8) (by decide +kernel)) rfl, by decide +kernel⟩
theorem kV_X7_heard : CVt yX7_heard cX7_heard 3 (some .int) RX7 2 := ⟨TB_of (List.mem_of_getElem? (i := 973) (by decide +kernel)) rfl, TB_of (List.mem_of_getElem? (i := 971) (by decide +kernel)) rfl, TB_of (List.mem_of_getElem? (i := 972) (by decide +kernel)) rfl, TB_of (List.mem_of_getElem? (i := 8) (by decide +kernel)) rfl, by decide +kernel⟩
theorem kV_X6_ordered : CVt yX6_ordered cX6_ordered 7 (some .int) RX6 3 := ⟨TB_of (List.mem_of_getElem? (i := 538) (by decide +kernel)) rfl, TB_of (List.mem_of_getElem? (i := 536) (by decide +kernel)) rfl, TB_of (List.mem_of_getElem? (i := 537) (by decide +kernel)) rfl, TB_of (List.mem_of_getElem? (i := 1) (by decide +kernel)) rfl, by decide +kernel⟩
theorem kV_X7_ordered : CVt yX7_ordered cX7_ordered 7 (some .int) RX7 3 := ⟨TB_of (List.mem_of_getElem? (i := 1015) (by decide +kernel)) rfl, TB_of (List.mem_of_getElem? (i := 1013) (by decide +kernel)) rfl, TB_of (List.mem_of_getElem? (i := 1014) (by decide +kernel)) rfl, TB_of (List.mem_of_getElem? (i := 8) (by decide +kernel)) rfl, by decide +kernel⟩
theorem kV_X6_head : CVt yX6_head cX6_head 4 (some .int) RX6 2 := ⟨TB_of (List.mem_of_getElem? (i := 548) (by decide +kernel)) rfl, TB_of (List.mem_of_getElem? (i := 546) (by decide +kernel)) rfl, TB_of (List.mem_of_getElem? (i := 547) (by decide +kernel)) rfl, TB_of (List.mem_of_getElem? (i := 1) (by decide +kernel)) rfl, by decide +kernel⟩
theorem kV_X7_head : CVt yX7_head cX7_head 3 (some .int) RX7 2 := ⟨TB_of (List.mem_of_getElem? (i := 1019) (by decide +kernel)) rfl, TB_of (List.mem_of_getElem? (i := 1017) (by decide +kernel)) rfl, TB_of (List.mem_of_getElem? (i := 1018) (by decide +kernel)) rfl, TB_of (List.mem_of_getElem? (i := 8) (by decide +kernel)) rfl, by decide +kernel⟩
theorem kV_X6_orders : CVt yX6_orders cX6_orders 5 (some .int) RX6 2 := ⟨TB_of (List.mem_of_getElem? (i := 556) (by decide +kernel)) rfl, TB_of (List.mem_of_getElem? (i := 554) (by decide +kernel)) rfl, TB_of (List.mem_of_getElem? (i := 555) (by decide +kernel)) rfl, TB_of (List.mem_of_getElem? (i := 1) (by decide +kernel)) rfl, by decide +kernel⟩
theorem kV_X7_orders : CVt yX7_orders cX7_orders 5 (some .int) RX7 2 := ⟨TB_of (List.mem_of_getElem? (i := 1027) (by decide +kernel)) rfl, TB_of (List.mem_of_getElem? (i := 1025) (by decide +kernel)) rfl, TB_of (List.mem_of_getElem? (i := 1026) (by decide +kernel)) rfl, TB_of (List.mem_of_getElem? (i := 8) (by decide +kernel)) rfl, by decide +kernel⟩
theorem kV_X6_strikes : CVt yX6_strikes cX6_strikes 5 (some .int) RX6 3 := ⟨TB_of (List.mem_of_getElem? (i := 569) (by decide +kernel)) rfl, TB_of (List.mem_of_getElem? (i := 567) (by decide +kernel)) rfl, TB_of (List.mem_of_getElem? (i := 568) (by decide +kernel)) rfl, TB_of (List.mem_of_getElem? (i := 1) (by decide +kernel)) rfl, by decide +kernel⟩
theorem kV_X7_strikes : CVt yX7_strikes cX7_strikes 4 (some .int) RX7 3 := ⟨TB_of (List.mem_of_getElem? (i := 1035) (by decide +kernel)) rfl, TB_of (List.mem_of_getElem? (i := 1033) (by decide +kernel)) rfl, TB_of (List.mem_of_getElem? (i := 1034) (by decide +kernel)) rfl, TB_of (List.mem_of_getElem? (i := 8) (by decide +kernel)) rfl, by decide +kernel⟩
theorem kV_X6_sound : CVt yX6_sound cX6_sound 4 (some .int) RX6 2 := ⟨TB_of (List.mem_of_getElem? (i := 598) (by decide +kernel)) rfl, TB_of (List.mem_of_getElem? (i := 596) (by decide +kernel)) rfl, TB_of (List.mem_of_getElem? (i := 597) (by decide +kernel)) rfl, TB_of (List.mem_of_getElem? (i := 1) (by decide +kernel)) rfl, by decide +kernel⟩
theorem kV_X7_sound : CVt yX7_sound cX7_sound 3 (some .int) RX7 2 := ⟨TB_of (List.mem_of_getElem? (i := 1047) (by decide +kernel)) rfl, TB_of (List.mem_of_getElem? (i := 1045) (by decide +kernel)) rfl, TB_of (List.mem_of_getElem? (i := 1046) (by decide +kernel)) rfl, TB_of (List.mem_of_getElem? (i := 8) (by decide +kernel)) rfl, by decide +kernel⟩
theorem kV_X7_least : CVt yX7_least cX7_least 2 (some .int) RX7 1 := ⟨TB_of (List.mem_of_getElem? (i := 1059) (by decide +kernel)) rfl, TB_of (List.mem_of_getElem? (i := 1057) (by decide +kernel)) rfl, TB_of (List.mem_of_getElem? (i := 1058) (by decide +kernel)) rfl, TB_of (List.mem_of_getElem? (i := 8) (by decide +kernel)) rfl, by decide +kernel⟩
theorem kV_X7_full : CVt yX7_full cX7_full 3 (some .int) RX7 2 := ⟨TB_of (List.mem_of_getElem? (i := 1071) (by decide +kernel)) rfl, TB_of (List.mem_of_getElem? (i := 1069) (by decide +kernel)) rfl, TB_of (List.mem_of_getElem? (i := 1070) (by decide +kernel)) rfl, TB_of (List.mem_of_getElem? (i := 8) (by decide +kernel)) rfl, by decide +kernel⟩
theorem kV_X6_firm : CVt yX6_firm cX6_firm 4 (some .int) RX6 2 := ⟨TB_of (List.mem_of_getElem? (i := 644) (by decide +kernel)) rfl, TB_of (List.mem_of_getElem? (i := 642) (by decide +kernel)) rfl, TB_of (List.mem_of_getElem? (i := 643) (by decide +kernel)) rfl, TB_of (List.mem_of_getElem? (i := 1) (by decide +kernel)) rfl, by decide +kernel⟩
theorem kV_X7_firm : CVt yX7_firm cX7_firm 6 (some .int) RX7 2 := ⟨TB_of (List.mem_of_getElem? (i := 1087) (by decide +kernel)) rfl, TB_of (List.mem_of_getElem? (i := 1085) (by decide +kernel)) rfl, TB_of (List.mem_of_getElem? (i := 1086) (by decide +kernel)) rfl, TB_of (List.mem_of_getElem? (i := 8) (by decide +kernel)) rfl, by decide +kernel⟩
theorem kV_X7_ring : CVt yX7_ring cX7_ring 1 (some .int) RX7 0 := ⟨TB_of (List.mem_of_getElem? (i := 1091) (by decide +kernel)) rfl, TB_of (List.mem_of_getElem? (i := 1089) (by decide +kernel)) rfl, TB_of (List.mem_of_getElem? (i := 1090) (by decide +kernel)) rfl, TB_of (List.mem_of_getElem? (i := 8) (by decide +kernel)) rfl, by decide +kernel⟩
theorem kV_X6_chain : CVt yX6_chain cX6_chain 2 (some .int) RX6 1 := ⟨TB_of (List.mem_of_getElem? (i := 663) (by decide +kernel)) rfl, TB_of (List.mem_of_getElem? (i := 661) (by decide +kernel)) rfl, TB_of (List.mem_of_getElem? (i := 662) (by decide +kernel)) rfl, TB_of (List.mem_of_getElem? (i := 1) (by decide +kernel)) rfl, by decide +kernel⟩
theorem kV_X7_chain : CVt yX7_chain cX7_chain 3 (some .int) RX7 1 := ⟨TB_of (List.mem_of_getElem? (i := 1099) (by decide +kernel)) rfl, TB_of (List.mem_of_getElem? (i := 1097) (by decide +kernel)) rfl, TB_of (List.mem_of_getElem? (i := 1098) (by decide +kernel)) rfl, TB_of (List.mem_of_getElem? (i := 8) (by decide +kernel)) rfl, by decide +kernel⟩
theorem kV_X6_hangs : CVt yX6_hangs cX6_hangs 2 (some .int) RX6 1 := ⟨TB_of (List.mem_of_getElem? (i := 673) (by decide +kernel)) rfl, TB_of (List.mem_of_getElem? (i := 671) (by decide +kernel)) rfl, TB_of (List.mem_of_getElem? (i := 672) (by decide +kernel)) rfl, TB_of (List.mem_of_getElem? (i := 1) (by decide +kernel)) rfl, by decide +kernel⟩
theorem kV_X7_hangs : CVt yX7_hangs cX7_hangs 2 (some .int) RX7 1 := ⟨TB_of (List.mem_of_getElem? (i := 1103) (by decide +kernel)) rfl, TB_of (List.mem_of_getElem? (i := 1101) (by decide +kernel)) rfl, TB_of (List.mem_of_getElem? (i := 1102) (by decide +kernel)) rfl, TB_of (List.mem_of_getElem? (i := 8) (by decide +kernel)) rfl, by decide +kernel⟩
theorem kV_X7_most : CVt yX7_most cX7_most 1 (some .int) RX7 0 := ⟨TB_of (List.mem_of_getElem? (i := 1111) (by decide +kernel)) rfl, TB_of (List.mem_of_getElem? (i := 1109) (by decide +kernel)) rfl, TB_of (List.mem_of_getElem? (i := 1110) (by decide +kernel)) rfl, TB_of (List.mem_of_getElem? (i := 8) (by decide +kernel)) rfl, by decide +kernel⟩
theorem kV_X6_brings : CVt yX6_brings cX6_brings 5 (some .int) RX6 2 := ⟨TB_of (List.mem_of_getElem? (i := 686) (by decide +kernel)) rfl, TB_of (List.mem_of_getElem? (i := 684) (by decide +kernel)) rfl, TB_of (List.mem_of_getElem? (i := 685) (by decide +kernel)) rfl, TB_of (List.mem_of_getElem? (i := 1) (by decide +kernel)) rfl, by decide +kernel⟩
theorem kV_X7_brings : CVt yX7_brings cX7_brings 5 (some .int) RX7 2 := ⟨TB_of (List.mem_of_getElem? (i := 1119) (by decide +kernel)) rfl, TB_of (List.mem_of_getElem? (i := 1117) (by decide +kernel)) rfl, TB_of (List.mem_of_getElem? (i := 1118) (by decide +kernel)) rfl, TB_of (List.mem_of_getElem? (i := 8) (by decide +kernel)) rfl, by decide +kernel⟩
theorem kV_X6_part : CVt yX6_part cX6_part 4 (some .int) RX6 0 := ⟨TB_of (List.mem_of_getElem? (i := 693) (by decide +kernel)) rfl, TB_of (List.mem_of_getElem? (i := 691) (by decide +kernel)) rfl, TB_of (List.mem_of_getElem? (i := 692) (by decide +kernel)) rfl, TB_of (List.mem_of_getElem? (i := 1) (by decide +kernel)) rfl, by decide +kernel⟩
theorem kV_X7_part : CVt yX7_part cX7_part 4 (some .int) RX7 0 := ⟨TB_of (List.mem_of_getElem? (i := 1123) (by decide +kernel)) rfl, TB_of (List.mem_of_getElem? (i := 1121) (by decide +kernel)) rfl, TB_of (List.mem_of_getElem? (i := 1122) (by decide +kernel)) rfl, TB_of (List.mem_of_getElem? (i := 8) (by decide +kernel)) rfl, by decide +kernel⟩
theorem kV_X6_sheet : CVt yX6_sheet cX6_sheet 5 (some .int) RX6 3 := ⟨TB_of (List.mem_of_getElem? (i := 705) (by decide +kernel)) rfl, TB_of (List.mem_of_getElem? (i := 703) (by decide +kernel)) rfl, TB_of (List.mem_of_getElem? (i := 704) (by decide +kernel)) rfl, TB_of (List.mem_of_getElem? (i := 1) (by decide +kernel)) rfl, by decide +kernel⟩
theorem kV_X7_sheet : CVt yX7_sheet cX7_sheet 5 (some .int) RX7 3 := ⟨TB_of (List.mem_of_getElem? (i := 1127) (by decide +kernel)) rfl, TB_of (List.mem_of_getElem? (i := 1125) (by decide +kernel)) rfl, TB_of (List.mem_of_getElem? (i := 1126) (by decide +kernel)) rfl, TB_of (List.mem_of_getElem? (i := 8) (by decide +kernel)) rfl, by decide +kernel⟩
theorem kV_X6_lose : CVt yX6_lose cX6_lose 3 (some .int) RX6 1 := ⟨TB_of (List.mem_of_getElem? (i := 717) (by decide +kernel)) rfl, TB_of (List.mem_of_getElem? (i := 715) (by decide +kernel)) rfl, TB_of (List.mem_of_getElem? (i := 716) (by decide +kernel)) rfl, TB_of (List.mem_of_getElem? (i := 1) (by decide +kernel)) rfl, by decide +kernel⟩
theorem kV_X7_lose : CVt yX7_lose cX7_lose 2 (some .int) RX7 1 := ⟨TB_of (List.mem_of_getElem? (i := 1131) (by decide +kernel)) rfl, TB_of (List.mem_of_getElem? (i := 1129) (by decide +kernel)) rfl, TB_of (List.mem_of_getElem? (i := 1130) (by decide +kernel)) rfl, TB_of (List.mem_of_getElem? (i := 8) (by decide +kernel)) rfl, by decide +kernel⟩
theorem kV_X6_put : CVt yX6_put cX6_put 7 (some .int) RX6 4 := ⟨TB_of (List.mem_of_getElem? (i := 721) (by decide +kernel)) rfl, TB_of (List.mem_of_getElem? (i := 719) (by decide +kernel)) rfl, TB_of (List.mem_of_getElem? (i := 720) (by decide +kernel)) rfl, TB_of (List.mem_of_getElem? (i := 1) (by decide +kernel)) rfl, by decide +kernel⟩
theorem kV_X7_put : CVt yX7_put cX7_put 6 (some .int) RX7 4 := ⟨TB_of (List.mem_of_getElem? (i := 1135) (by decide +kernel)) rfl, TB_of (List.mem_of_getElem? (i := 1133) (by decide +kernel)) rfl, TB_of (List.mem_of_getElem? (i := 1134) (by decide +kernel)) rfl, TB_of (List.mem_of_getElem? (i := 8) (by decide +kernel)) rfl, by decide +kernel⟩
theorem kV_X6_get : CVt yX6_get cX6_get 6 (some .int) RX6 3 := ⟨TB_of (List.mem_of_getElem? (i := 733) (by decide +kernel)) rfl, TB_of (List.mem_of_getElem? (i := 731) (by decide +kernel)) rfl, TB_of (List.mem_of_getElem? (i := 732) (by decide +kernel)) rfl, TB_of (List.mem_of_getElem? (i := 1) (by decide +kernel)) rfl, by decide +kernel⟩
theorem kV_X7_get : CVt yX7_get cX7_get 5 (some .int) RX7 3 := ⟨TB_of (List.mem_of_getElem? (i := 1147) (by decide +kernel)) rfl, TB_of (List.mem_of_getElem? (i := 1145) (by decide +kernel)) rfl, TB_of (List.mem_of_getElem? (i := 1146) (by decide +kernel)) rfl, TB_of (List.mem_of_getElem? (i := 8) (by decide +kernel)) rfl, by decide +kernel⟩
theorem kV_X6_copy : CVt yX6_copy cX6_copy 8 (some .int) RX6 5 := ⟨TB_of (List.mem_of_getElem? (i := 738) (by decide +kernel)) rfl, TB_of (List.mem_of_getElem? (i := 736) (by decide +kernel)) rfl, TB_of (List.mem_of_getElem? (i := 737) (by decide +kernel)) rfl, TB_of (List.mem_of_getElem? (i := 1) (by decide +kernel)) rfl, by decide +kernel⟩
theorem kV_X7_copy : CVt yX7_copy cX7_copy 7 (some .int) RX7 5 := ⟨TB_of (List.mem_of_getElem? (i := 1152) (by decide +kernel)) rfl, TB_of (List.mem_of_getElem? (i := 1150) (by decide +kernel)) rfl, TB_of (List.mem_of_getElem? (i := 1151) (by decide +kernel)) rfl, TB_of (List.mem_of_getElem? (i := 8) (by decide +kernel)) rfl, by decide +kernel⟩
theorem kV_X6_write : CVt yX6_write cX6_write 5 (some .int) RX6 1 := ⟨TB_of (List.mem_of_getElem? (i := 747) (by decide +kernel)) rfl, TB_of (List.mem_of_getElem? (i := 745) (by decide +kernel)) rfl, TB_of (List.mem_of_getElem? (i := 746) (by decide +kernel)) rfl, TB_of (List.mem_of_getElem? (i := 1) (by decide +kernel)) rfl, by decide +kernel⟩
theorem kV_X7_write : CVt yX7_write cX7_write 3 (some .int) RX7 1 := ⟨TB_of (List.mem_of_getElem? (i := 1156) (by decide +kernel)) rfl, TB_of (List.mem_of_getElem? (i := 1154) (by decide +kernel)) rfl, TB_of (List.mem_of_getElem? (i := 1155) (by decide +kernel)) rfl, TB_of (List.mem_of_getElem? (i := 8) (by decide +kernel)) rfl, by decide +kernel⟩
theorem kV_X6_digest : CVt yX6_digest cX6_digest 5 (some .long) RX6 0 := ⟨TB_of (List.mem_of_getElem? (i := 760) (by decide +kernel)) rfl, TB_of (List.mem_of_getElem? (i := 758) (by decide +kernel)) rfl, TB_of (List.mem_of_getElem? (i := 759) (by decide +kernel)) rfl, TB_of (List.mem_of_getElem? (i := 1) (by decide +kernel)) rfl, by decide +kernel⟩
theorem kV_X7_digest : CVt yX7_digest cX7_digest 5 (some .long) RX7 0 := ⟨TB_of (List.mem_of_getElem? (i := 1168) (by decide +kernel)) rfl, TB_of (List.mem_of_getElem? (i := 1166) (by decide +kernel)) rfl, TB_of (List.mem_of_getElem? (i := 1167) (by decide +kernel)) rfl, TB_of (List.mem_of_getElem? (i := 8) (by decide +kernel)) rfl, by decide +kernel⟩
theorem lmL_13 : Cond.methodLink RL 13 yX6_road ∈ TB := TB_of (List.mem_of_getElem? (i := 250) (by decide +kernel)) rfl
theorem lmL_17 : Cond.methodLink RL 17 yX7_road ∈ TB := TB_of (List.mem_of_getElem? (i := 871) (by decide +kernel)) rfl
theorem lmL_18 : Cond.methodLink RL 18 yX6_away ∈ TB := TB_of (List.mem_of_getElem? (i := 279) (by decide +kernel)) rfl
theorem lmL_22 : Cond.methodLink RL 22 yX7_away ∈ TB := TB_of (List.mem_of_getElem? (i := 881) (by decide +kernel)) rfl
theorem lmL_23 : Cond.methodLink RL 23 yX6_word ∈ TB := TB_of (List.mem_of_getElem? (i := 284) (by decide +kernel)) rfl
theorem lmL_27 : Cond.methodLink RL 27 yX7_word ∈ TB := TB_of (List.mem_of_getElem? (i := 889) (by decide +kernel)) rfl
theorem lmL_28 : Cond.methodLink RL 28 yX6_read ∈ TB := TB_of (List.mem_of_getElem? (i := 307) (by decide +kernel)) rfl
theorem lmL_32 : Cond.methodLink RL 32 yX7_read ∈ TB := TB_of (List.mem_of_getElem? (i := 897) (by decide +kernel)) rfl
theorem lmL_33 : Cond.methodLink RL 33 yX6_is ∈ TB := TB_of (List.mem_of_getElem? (i := 320) (by decide +kernel)) rfl
theorem lmL_36 : Cond.methodLink RL 36 yX7_is ∈ TB := TB_of (List.mem_of_getElem? (i := 908) (by decide +kernel)) rfl
theorem lmL_37 : Cond.methodLink RL 37 yX6_keep ∈ TB := TB_of (List.mem_of_getElem? (i := 324) (by decide +kernel)) rfl
theorem lmL_40 : Cond.methodLink RL 40 yX7_keep ∈ TB := TB_of (List.mem_of_getElem? (i := 927) (by decide +kernel)) rfl
theorem lmL_41 : Cond.methodLink RL 41 yX6_type ∈ TB := TB_of (List.mem_of_getElem? (i := 332) (by decide +kernel)) rfl
theorem lmL_44 : Cond.methodLink RL 44 yX7_type ∈ TB := TB_of (List.mem_of_getElem? (i := 935) (by decide +kernel)) rfl
theorem lmL_45 : Cond.methodLink RL 45 yX6_wipe ∈ TB := TB_of (List.mem_of_getElem? (i := 473) (by decide +kernel)) rfl
theorem lmL_48 : Cond.methodLink RL 48 yX7_wipe ∈ TB := TB_of (List.mem_of_getElem? (i := 942) (by decide +kernel)) rfl
theorem lmL_49 : Cond.methodLink RL 49 yX6_fault ∈ TB := TB_of (List.mem_of_getElem? (i := 481) (by decide +kernel)) rfl
theorem lmL_52 : Cond.methodLink RL 52 yX7_fault ∈ TB := TB_of (List.mem_of_getElem? (i := 946) (by decide +kernel)) rfl
theorem lmL_53 : Cond.methodLink RL 53 yX6_law ∈ TB := TB_of (List.mem_of_getElem? (i := 485) (by decide +kernel)) rfl
theorem lmL_56 : Cond.methodLink RL 56 yX7_law ∈ TB := TB_of (List.mem_of_getElem? (i := 966) (by decide +kernel)) rfl
theorem lmL_57 : Cond.methodLink RL 57 yX6_heard ∈ TB := TB_of (List.mem_of_getElem? (i := 489) (by decide +kernel)) rfl
theorem lmL_60 : Cond.methodLink RL 60 yX7_heard ∈ TB := TB_of (List.mem_of_getElem? (i := 970) (by decide +kernel)) rfl
theorem lmL_61 : Cond.methodLink RL 61 yX6_ordered ∈ TB := TB_of (List.mem_of_getElem? (i := 535) (by decide +kernel)) rfl
theorem lmL_64 : Cond.methodLink RL 64 yX7_ordered ∈ TB := TB_of (List.mem_of_getElem? (i := 1012) (by decide +kernel)) rfl
theorem lmL_65 : Cond.methodLink RL 65 yX6_head ∈ TB := TB_of (List.mem_of_getElem? (i := 545) (by decide +kernel)) rfl
theorem lmL_68 : Cond.methodLink RL 68 yX7_head ∈ TB := TB_of (List.mem_of_getElem? (i := 1016) (by decide +kernel)) rfl
theorem lmL_69 : Cond.methodLink RL 69 yX6_orders ∈ TB := TB_of (List.mem_of_getElem? (i := 553) (by decide +kernel)) rfl
theorem lmL_72 : Cond.methodLink RL 72 yX7_orders ∈ TB := TB_of (List.mem_of_getElem? (i := 1024) (by decide +kernel)) rfl
theorem lmL_73 : Cond.methodLink RL 73 yX6_strikes ∈ TB := TB_of (List.mem_of_getElem? (i := 566) (by decide +kernel)) rfl
theorem lmL_76 : Cond.methodLink RL 76 yX7_strikes ∈ TB := TB_of (List.mem_of_getElem? (i := 1032) (by decide +kernel)) rfl
theorem lmL_77 : Cond.methodLink RL 77 yX6_sound ∈ TB := TB_of (List.mem_of_getElem? (i := 595) (by decide +kernel)) rfl
theorem lmL_80 : Cond.methodLink RL 80 yX7_sound ∈ TB := TB_of (List.mem_of_getElem? (i := 1044) (by decide +kernel)) rfl
theorem lmL_81 : Cond.methodLink RL 81 yX6_least ∈ TB := TB_of (List.mem_of_getElem? (i := 604) (by decide +kernel)) rfl
theorem lmL_84 : Cond.methodLink RL 84 yX7_least ∈ TB := TB_of (List.mem_of_getElem? (i := 1056) (by decide +kernel)) rfl
theorem lmL_85 : Cond.methodLink RL 85 yX6_full ∈ TB := TB_of (List.mem_of_getElem? (i := 616) (by decide +kernel)) rfl
theorem lmL_88 : Cond.methodLink RL 88 yX7_full ∈ TB := TB_of (List.mem_of_getElem? (i := 1068) (by decide +kernel)) rfl
theorem lmL_89 : Cond.methodLink RL 89 yX6_firm ∈ TB := TB_of (List.mem_of_getElem? (i := 641) (by decide +kernel)) rfl
theorem lmL_92 : Cond.methodLink RL 92 yX7_firm ∈ TB := TB_of (List.mem_of_getElem? (i := 1084) (by decide +kernel)) rfl
theorem lmL_93 : Cond.methodLink RL 93 yX6_ring ∈ TB := TB_of (List.mem_of_getElem? (i := 649) (by decide +kernel)) rfl
theorem lmL_97 : Cond.methodLink RL 97 yX7_ring ∈ TB := TB_of (List.mem_of_getElem? (i := 1088) (by decide +kernel)) rfl
theorem lmL_98 : Cond.methodLink RL 98 yX6_chain ∈ TB := TB_of (List.mem_of_getElem? (i := 660) (by decide +kernel)) rfl
theorem lmL_101 : Cond.methodLink RL 101 yX7_chain ∈ TB := TB_of (List.mem_of_getElem? (i := 1096) (by decide +kernel)) rfl
theorem lmL_102 : Cond.methodLink RL 102 yX6_hangs ∈ TB := TB_of (List.mem_of_getElem? (i := 670) (by decide +kernel)) rfl
theorem lmL_105 : Cond.methodLink RL 105 yX7_hangs ∈ TB := TB_of (List.mem_of_getElem? (i := 1100) (by decide +kernel)) rfl
theorem lmL_106 : Cond.methodLink RL 106 yX6_most ∈ TB := TB_of (List.mem_of_getElem? (i := 679) (by decide +kernel)) rfl
theorem lmL_109 : Cond.methodLink RL 109 yX7_most ∈ TB := TB_of (List.mem_of_getElem? (i := 1108) (by decide +kernel)) rfl
theorem lmL_110 : Cond.methodLink RL 110 yX6_brings ∈ TB := TB_of (List.mem_of_getElem? (i := 683) (by decide +kernel)) rfl
theorem lmL_113 : Cond.methodLink RL 113 yX7_brings ∈ TB := TB_of (List.mem_of_getElem? (i := 1116) (by decide +kernel)) rfl
theorem lmL_114 : Cond.methodLink RL 114 yX6_part ∈ TB := TB_of (List.mem_of_getElem? (i := 690) (by decide +kernel)) rfl
theorem lmL_117 : Cond.methodLink RL 117 yX7_part ∈ TB := TB_of (List.mem_of_getElem? (i := 1120) (by decide +kernel)) rfl
theorem lmL_118 : Cond.methodLink RL 118 yX6_sheet ∈ TB := TB_of (List.mem_of_getElem? (i := 702) (by decide +kernel)) rfl
theorem lmL_121 : Cond.methodLink RL 121 yX7_sheet ∈ TB := TB_of (List.mem_of_getElem? (i := 1124) (by decide +kernel)) rfl
theorem lmL_122 : Cond.methodLink RL 122 yX6_lose ∈ TB := TB_of (List.mem_of_getElem? (i := 714) (by decide +kernel)) rfl
theorem lmL_125 : Cond.methodLink RL 125 yX7_lose ∈ TB := TB_of (List.mem_of_getElem? (i := 1128) (by decide +kernel)) rfl
theorem lmL_126 : Cond.methodLink RL 126 yX6_put ∈ TB := TB_of (List.mem_of_getElem? (i := 718) (by decide +kernel)) rfl
theorem lmL_130 : Cond.methodLink RL 130 yX7_put ∈ TB := TB_of (List.mem_of_getElem? (i := 1132) (by decide +kernel)) rfl
theorem lmL_131 : Cond.methodLink RL 131 yX6_get ∈ TB := TB_of (List.mem_of_getElem? (i := 730) (by decide +kernel)) rfl
theorem lmL_134 : Cond.methodLink RL 134 yX7_get ∈ TB := TB_of (List.mem_of_getElem? (i := 1144) (by decide +kernel)) rfl
theorem lmL_135 : Cond.methodLink RL 135 yX6_copy ∈ TB := TB_of (List.mem_of_getElem? (i := 735) (by decide +kernel)) rfl
theorem lmL_138 : Cond.methodLink RL 138 yX7_copy ∈ TB := TB_of (List.mem_of_getElem? (i := 1149) (by decide +kernel)) rfl
theorem lmL_139 : Cond.methodLink RL 139 yX6_write ∈ TB := TB_of (List.mem_of_getElem? (i := 744) (by decide +kernel)) rfl
theorem lmL_142 : Cond.methodLink RL 142 yX7_write ∈ TB := TB_of (List.mem_of_getElem? (i := 1153) (by decide +kernel)) rfl
theorem lmL_143 : Cond.methodLink RL 143 yX6_count ∈ TB := TB_of (List.mem_of_getElem? (i := 749) (by decide +kernel)) rfl
theorem lmL_146 : Cond.methodLink RL 146 yX7_count ∈ TB := TB_of (List.mem_of_getElem? (i := 1157) (by decide +kernel)) rfl
theorem lmL_147 : Cond.methodLink RL 147 yX6_digest ∈ TB := TB_of (List.mem_of_getElem? (i := 757) (by decide +kernel)) rfl
theorem lmL_151 : Cond.methodLink RL 151 yX7_digest ∈ TB := TB_of (List.mem_of_getElem? (i := 1165) (by decide +kernel)) rfl
