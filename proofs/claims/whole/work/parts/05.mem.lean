/-! the memory: all numbers of both systems by a place, all rows by a number; the cells that hold them -/
abbrev Mem : Type := (Nat → Int32) × (Nat → Nat → Int32)
def sv (M : Mem) (k : Nat) (x : Int32) : Mem := (va_up M.1 k x, M.2)
def sa (M : Mem) (a i : Nat) (x : Int32) : Mem := (M.1, va_up M.2 a (upd (M.2 a) i x))
def sr (M : Mem) (a : Nat) (f : Nat → Int32) : Mem := (M.1, va_up M.2 a f)
def alL : List Nat := [36, 36, 10, 10, 10, 10, 10, 10, 10, 10, 10, 10, 40, 40, 10, 10, 10, 1024, 40, 40, 40, 40, 36, 36, 10, 10, 10, 10, 10, 2, 80, 2, 8, 10, 10, 1024, 10, 4, 4, 4, 160, 40]
def al (a : Nat) : Nat := alL.getD a 0
def ak (a : Nat) : Nat := if a = 17 then 1 else if a = 35 then 2 else if a = 37 then 2 else 0
def lawE (q : Nat → Nat) (M : Mem) (j : Nat) : va_E := .inr (2, [.ref (q (12 + j)), .int (M.1 (10 + 6 * j)), .int (M.1 (10 + 6 * j + 1)), .int (M.1 (10 + 6 * j + 2)), .int (M.1 (10 + 6 * j + 3)), .int (M.1 (10 + 6 * j + 4)), .int (M.1 (10 + 6 * j + 5))])
def sheetE (q : Nat → Nat) (M : Mem) (j : Nat) : va_E := .inr (4, [.ref (q (18 + j)), .int (M.1 (22 + 3 * j)), .int (M.1 (22 + 3 * j + 1)), .int (M.1 (22 + 3 * j + 2))])
def oe (q : Nat → Nat) (cy : Nat → ClassId) (M : Mem) (i : Nat) : va_E := match i with
  | 0 => .inr (6, [.ref (q 51), .ref (q 52), .ref (q 53), .ref (q 54), .ref (q 62), .ref (q 55), .ref (q 56), .int (M.1 7)])
  | 1 => .inr (3, [.ref (q 0), .ref (q 1)])
  | 2 => .inr (5, [.ref (q 2), .ref (q 3), .ref (q 4), .ref (q 5), .ref (q 6), .ref (q 7), .ref (q 8), .ref (q 9), .ref (q 10), .ref (q 11), .int (M.1 0), .int (M.1 1), .int (M.1 2)])
  | 3 => lawE q M 0
  | 4 => lawE q M 1
  | 5 => .inr (1, [.ref (q 52), .int (M.1 3), .int (M.1 4), .int (M.1 5)])
  | 6 => .inr (0, [.ref (q 52), .ref (q 14), .ref (q 15), .ref (q 16), .ref (q 17), .int (M.1 6)])
  | 7 => sheetE q M 0
  | 8 => sheetE q M 1
  | 9 => sheetE q M 2
  | 10 => sheetE q M 3
  | 11 => .inr (7, [.ref (q 22), .ref (q 23), .int (M.1 40), .ref (q 24), .ref (q 25), .ref (q 26), .ref (q 27), .ref (q 28), .int (M.1 41), .int (M.1 42), .ref (q 29), .ref (q 30), .ref (q 31), .ref (q 32), .ref (q 33), .int (M.1 43), .int (M.1 44), .int (M.1 45), .int (M.1 46), .int (M.1 47), .ref (q 34), .ref (q 35), .ref (q 36), .ref (q 37), .ref (q 38), .ref (q 39), .ref (q 40), .ref (q 41), .int (M.1 48)])
  | _ => .inl (cy 3, 4, .inr (.inr (.inr (.inr (fun k => some (q (57 + k)))))))
def ce (q : Nat → Nat) (cy : Nat → ClassId) (M : Mem) (i : Nat) : va_E := if i < 50 then .inl (cy (ak i), al i, .inl (M.2 i)) else oe q cy M (i - 50)
def wl (q : Nat → Nat) (cy : Nat → ClassId) (Ls : List Nat) (M : Mem) : va_W := Ls.map (fun i => (q i, ce q cy M i))
def AA (q : Nat → Nat) (Ls : List Nat) : Nat → Prop := fun a => ∃ i, i ∈ Ls ∧ a = q i
abbrev tyL (cy : Nat → ClassId) : List (ClassId × FieldType) := [(cy 0, .int), (cy 1, .byte), (cy 2, .boolean), (cy 3, .object "HeardWords$Sheet")]
abbrev LsR : List Nat := [0, 1, 51]
abbrev LsF : List Nat := [0, 1, 2, 3, 4, 5, 6, 7, 8, 9, 10, 11, 12, 13, 14, 15, 16, 17, 18, 19, 20, 21, 22, 23, 24, 25, 26, 27, 28, 29, 30, 31, 32, 33, 34, 35, 36, 37, 38, 39, 40, 41, 50, 51, 52, 53, 54, 55, 56, 57, 58, 59, 60, 61, 62]
/-- no cell stands twice in the list -/
def ND (Ls : List Nat) : Prop := ∀ i, i < Ls.length → ∀ j, j < Ls.length → Ls[i]? = Ls[j]? → i = j
theorem ND.eq {Ls : List Nat} (h : ND Ls) {i j x : Nat} (hi : Ls[i]? = some x) (hj : Ls[j]? = some x) : i = j := h i (List.getElem?_eq_some_iff.mp hi).1 j (List.getElem?_eq_some_iff.mp hj).1 (hi.trans hj.symm)
theorem ND_R : ND LsR := by unfold ND; decide +kernel
theorem ND_F : ND LsF := by unfold ND; decide +kernel
theorem wl_at (q : Nat → Nat) (cy : Nat → ClassId) (Ls : List Nat) (M : Mem) (k : Nat) : (wl q cy Ls M)[k]? = (Ls[k]?).map (fun i => (q i, ce q cy M i)) := by
  unfold wl
  rw [List.getElem?_map]
theorem wl_get {q : Nat → Nat} {cy : Nat → ClassId} {Ls : List Nat} {M : Mem} {i : Nat} (h : i ∈ Ls) : ∃ k : Nat, Ls[k]? = some i ∧ (wl q cy Ls M)[k]? = some (q i, ce q cy M i) := by
  obtain ⟨k, hk⟩ := List.getElem?_of_mem h
  exact ⟨k, hk, by rw [wl_at, hk]; rfl⟩
theorem wl_set {q : Nat → Nat} {cy : Nat → ClassId} {Ls : List Nat} {M M' : Mem} {i k : Nat} {e : va_E} (hn : ND Ls) (hk : Ls[k]? = some i) (h1 : ce q cy M' i = e) (h2 : ∀ j, j ≠ i → ce q cy M' j = ce q cy M j) : (wl q cy Ls M).set k (q i, e) = wl q cy Ls M' := by
  apply List.ext_getElem?
  intro n
  rw [wl_at]
  by_cases hnk : k = n
  · subst hnk
    have hl : k < (wl q cy Ls M).length := by unfold wl; rw [List.length_map]; exact (List.getElem?_eq_some_iff.mp hk).1
    rw [List.getElem?_set_self hl, hk]
    simp only [Option.map_some, h1]
  · rw [List.getElem?_set_ne hnk, wl_at]
    cases hj : Ls[n]? with
    | none => rfl
    | some j =>
      have hji : j ≠ i := by
        intro e
        subst e
        exact hnk (hn.eq hk hj)
      simp only [Option.map_some, h2 j hji]
theorem wl_D {q : Nat → Nat} {cy : Nat → ClassId} {Ls : List Nat} (M : Mem) {A : Nat → Prop} (hn : ND Ls) (hq : ∀ i, i ∈ Ls → ∀ j, j ∈ Ls → q i = q j → i = j) (hA : ∀ a, AA q Ls a → A a) : va_D A (wl q cy Ls M) := by
  have key : ∀ (k : Nat) (x : Nat × va_E), (wl q cy Ls M)[k]? = some x → ∃ i, Ls[k]? = some i ∧ x.1 = q i := by
    intro k x h
    rw [wl_at] at h
    cases hj : Ls[k]? with
    | none => rw [hj] at h; cases h
    | some i => rw [hj] at h; cases h; exact ⟨i, rfl, rfl⟩
  refine ⟨fun i j x y hx hy hxy => ?_, fun k x hx => ?_⟩
  · obtain ⟨a, ha, ea⟩ := key i x hx
    obtain ⟨b, hb, eb⟩ := key j y hy
    have hab : a = b := hq a (List.mem_of_getElem? ha) b (List.mem_of_getElem? hb) (ea.symm.trans (hxy.trans eb))
    subst hab
    exact hn.eq ha hb
  · obtain ⟨a, ha, ea⟩ := key k x hx
    exact hA _ ⟨a, List.mem_of_getElem? ha, ea⟩
theorem ce_a {q : Nat → Nat} {cy : Nat → ClassId} {M : Mem} {a : Nat} (h : a < 50) : ce q cy M a = .inl (cy (ak a), al a, .inl (M.2 a)) := by unfold ce; rw [if_pos h]
theorem ce_sr {q : Nat → Nat} {cy : Nat → ClassId} {M : Mem} {a : Nat} {f : Nat → Int32} (j : Nat) (h : j ≠ a) : ce q cy (sr M a f) j = ce q cy M j := by
  unfold ce
  by_cases hj : j < 50
  · rw [if_pos hj, if_pos hj]
    simp only [sr, va_up, if_neg h]
  · rw [if_neg hj, if_neg hj]
    unfold oe lawE sheetE sr
    rfl
theorem ce_sv {q : Nat → Nat} {cy : Nat → ClassId} {M : Mem} {k : Nat} {x : Int32} (j : Nat) (h : oe q cy (sv M k x) (j - 50) = oe q cy M (j - 50)) : ce q cy (sv M k x) j = ce q cy M j := by
  unfold ce
  by_cases hj : j < 50
  · rw [if_pos hj, if_pos hj]
    rfl
  · rw [if_neg hj, if_neg hj, h]
/-- which object holds the number at a place -/
def ow (k : Nat) : Nat := if k < 3 then 52 else if k < 6 then 55 else if k = 6 then 56 else if k = 7 then 50 else if k < 10 then 99 else if k < 16 then 53 else if k < 22 then 54 else if k < 25 then 57 else if k < 28 then 58 else if k < 31 then 59 else if k < 34 then 60 else if k < 40 then 99 else if k < 49 then 61 else 99
theorem up_ow {M : Mem} {k n o : Nat} {x : Int32} (hn : ow n = o) (hk : ow k ≠ o) : va_up M.1 k x n = M.1 n := by
  unfold va_up
  rw [if_neg (fun e => hk (by rw [← e]; exact hn))]
set_option maxHeartbeats 4000000 in
theorem ce_sv_ow {q : Nat → Nat} {cy : Nat → ClassId} {M : Mem} {k : Nat} {x : Int32} (j : Nat) (h : j ≠ ow k) (hj : 50 ≤ j) : oe q cy (sv M k x) (j - 50) = oe q cy M (j - 50) := by
  obtain ⟨i, rfl⟩ : ∃ i, j = i + 50 := ⟨j - 50, by omega⟩
  rw [Nat.add_sub_cancel]
  unfold oe lawE sheetE sv
  match i, h with
  | 0, h => simp only [up_ow (n := 7) (o := 50) rfl (Ne.symm h)]
  | 1, h => rfl
  | 2, h => simp only [up_ow (n := 0) (o := 52) rfl (Ne.symm h), up_ow (n := 1) (o := 52) rfl (Ne.symm h), up_ow (n := 2) (o := 52) rfl (Ne.symm h)]
  | 3, h => simp only [Nat.mul_zero, Nat.add_zero, Nat.reduceAdd, up_ow (n := 10) (o := 53) rfl (Ne.symm h), up_ow (n := 11) (o := 53) rfl (Ne.symm h), up_ow (n := 12) (o := 53) rfl (Ne.symm h), up_ow (n := 13) (o := 53) rfl (Ne.symm h), up_ow (n := 14) (o := 53) rfl (Ne.symm h), up_ow (n := 15) (o := 53) rfl (Ne.symm h)]
  | 4, h => simp only [Nat.mul_one, Nat.reduceAdd, Nat.reduceMul, up_ow (n := 16) (o := 54) rfl (Ne.symm h), up_ow (n := 17) (o := 54) rfl (Ne.symm h), up_ow (n := 18) (o := 54) rfl (Ne.symm h), up_ow (n := 19) (o := 54) rfl (Ne.symm h), up_ow (n := 20) (o := 54) rfl (Ne.symm h), up_ow (n := 21) (o := 54) rfl (Ne.symm h)]
  | 5, h => simp only [up_ow (n := 3) (o := 55) rfl (Ne.symm h), up_ow (n := 4) (o := 55) rfl (Ne.symm h), up_ow (n := 5) (o := 55) rfl (Ne.symm h)]
  | 6, h => simp only [up_ow (n := 6) (o := 56) rfl (Ne.symm h)]
  | 7, h => simp only [Nat.mul_zero, Nat.add_zero, Nat.reduceAdd, up_ow (n := 22) (o := 57) rfl (Ne.symm h), up_ow (n := 23) (o := 57) rfl (Ne.symm h), up_ow (n := 24) (o := 57) rfl (Ne.symm h)]
  | 8, h => simp only [Nat.mul_one, Nat.reduceAdd, Nat.reduceMul, up_ow (n := 25) (o := 58) rfl (Ne.symm h), up_ow (n := 26) (o := 58) rfl (Ne.symm h), up_ow (n := 27) (o := 58) rfl (Ne.symm h)]
  | 9, h => simp only [Nat.reduceAdd, Nat.reduceMul, up_ow (n := 28) (o := 59) rfl (Ne.symm h), up_ow (n := 29) (o := 59) rfl (Ne.symm h), up_ow (n := 30) (o := 59) rfl (Ne.symm h)]
  | 10, h => simp only [Nat.reduceAdd, Nat.reduceMul, up_ow (n := 31) (o := 60) rfl (Ne.symm h), up_ow (n := 32) (o := 60) rfl (Ne.symm h), up_ow (n := 33) (o := 60) rfl (Ne.symm h)]
  | 11, h => simp only [up_ow (n := 40) (o := 61) rfl (Ne.symm h), up_ow (n := 41) (o := 61) rfl (Ne.symm h), up_ow (n := 42) (o := 61) rfl (Ne.symm h), up_ow (n := 43) (o := 61) rfl (Ne.symm h), up_ow (n := 44) (o := 61) rfl (Ne.symm h), up_ow (n := 45) (o := 61) rfl (Ne.symm h), up_ow (n := 46) (o := 61) rfl (Ne.symm h), up_ow (n := 47) (o := 61) rfl (Ne.symm h), up_ow (n := 48) (o := 61) rfl (Ne.symm h)]
  | n + 12, h => rfl
theorem ce_svN {q : Nat → Nat} {cy : Nat → ClassId} {M : Mem} {k : Nat} {x : Int32} (j : Nat) (h : j ≠ ow k) : ce q cy (sv M k x) j = ce q cy M j := by
  by_cases hj : j < 50
  · unfold ce
    rw [if_pos hj, if_pos hj]
    rfl
  · exact ce_sv j (ce_sv_ow j h (by omega))
