/-! plain rows: numbers, memory -/
theorem nlt {a b : Nat} (ha : a < 2147483648) (hb : b < 2147483648) : (nI a < nI b) = (a < b) := propext (nI_ltI ha hb)
theorem nle {a b : Nat} (ha : a < 2147483648) (hb : b < 2147483648) : (nI a ≤ nI b) = (a ≤ b) := propext (nI_leI ha hb)
theorem neq {a b : Nat} (ha : a < 2147483648) (hb : b < 2147483648) : (nI a = nI b) = (a = b) := propext (nI_eq ha hb)
theorem nlit (n : Nat) : (OfNat.ofNat n : Int32) = nI n := by
  first | rfl | exact (Int32.ofNat_eq_ofNat ..).symm
theorem ncl {n : Nat} (h : n < 2147483648) : (nI n).toNatClampNeg = n := nI_clamp h
theorem ixT {k n : Nat} (h : k < n) (hk : k < 2147483648) : ix (nI k) n = true := by
  unfold ix
  rw [ncl hk]
  simp only [Bool.and_eq_true, Bool.not_eq_true', decide_eq_false_iff_not, decide_eq_true_eq]
  exact ⟨nI_pos hk, h⟩
theorem ckT {α : Type} {b : Bool} {x : Option α} (h : b = true) : ckb b x = x := if_pos h
theorem ckN {α : Type} {k n : Nat} {x : Option α} (h : k < n) (hk : k < 2147483648) : ckb (ix (nI k) n) x = x := ckT (ixT h hk)
theorem bdS {α β : Type} {a : α} {M : Mem} {f : α → Mem → Option β} : bd (some (a, M)) f = f a M := rfl
theorem bdvS {β : Type} {M : Mem} {f : Mem → Option β} : bdv (some M) f = f M := rfl
theorem bdoN {β : Type} {M : Mem} {f : Mem → Option β} {g : Nat → Mem → Option β} : bdo (some (none, M)) f g = f M := rfl
theorem bdoS {β : Type} {M : Mem} {j : Nat} {f : Mem → Option β} {g : Nat → Mem → Option β} : bdo (some (some j, M)) f g = g j M := rfl
theorem sr_1 (M : Mem) (a : Nat) (f : Nat → Int32) : (sr M a f).1 = M.1 := rfl
theorem sr_2 (M : Mem) (a b : Nat) (f : Nat → Int32) : (sr M a f).2 b = if b = a then f else M.2 b := rfl
theorem sv_1 (M : Mem) (k j : Nat) (x : Int32) : (sv M k x).1 j = if j = k then x else M.1 j := rfl
theorem sv_2 (M : Mem) (k : Nat) (x : Int32) : (sv M k x).2 = M.2 := rfl
theorem sa_sr (M : Mem) (a i : Nat) (x : Int32) : sa M a i x = sr M a (upd (M.2 a) i x) := rfl
theorem sr_sr (M : Mem) (a : Nat) (f g : Nat → Int32) : sr (sr M a f) a g = sr M a g := by
  unfold sr
  simp only [Prod.mk.injEq, true_and]
  funext b
  unfold va_up
  split <;> rfl
theorem sr_self (M : Mem) (a : Nat) : sr M a (M.2 a) = M := by
  unfold sr
  apply Prod.ext
  · rfl
  · funext b
    show va_up M.2 a (M.2 a) b = M.2 b
    unfold va_up
    split
    · next h => rw [h]
    · rfl
theorem upd_s (f : Nat → Int32) (i : Nat) (x : Int32) : upd f i x i = x := pk_us
theorem upd_n {f : Nat → Int32} {i j : Nat} {x : Int32} (h : j ≠ i) : upd f i x j = f j := pk_un h
theorem upd_self (f : Nat → Int32) (i : Nat) : upd f i (f i) = f := by
  funext j
  by_cases h : j = i
  · rw [h, upd_s]
  · rw [upd_n h]
theorem fu_gt {d : Nat} (h : d < 8192) : d < fu := h
