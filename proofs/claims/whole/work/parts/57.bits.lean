/-! ===== Int32 by its bits: bt x i ===== -/
def bt (x : Int32) (i : Nat) : Bool := x.toBitVec.getLsbD i
theorem b_ext {x y : Int32} (h : ∀ i, i < 32 → bt x i = bt y i) : x = y := Int32.toBitVec_inj.mp (BitVec.eq_of_getLsbD_eq (fun i hi => h i hi))
theorem b_or (x y : Int32) (i : Nat) : bt (x ||| y) i = (bt x i || bt y i) := by unfold bt; rw [Int32.toBitVec_or, BitVec.getLsbD_or]
theorem b_and (x y : Int32) (i : Nat) : bt (x &&& y) i = (bt x i && bt y i) := by unfold bt; rw [Int32.toBitVec_and, BitVec.getLsbD_and]
theorem b_xor (x y : Int32) (i : Nat) : bt (x ^^^ y) i = (bt x i ^^ bt y i) := by unfold bt; rw [Int32.toBitVec_xor, BitVec.getLsbD_xor]
theorem b_big {x : Int32} {i : Nat} (h : 32 ≤ i) : bt x i = false := BitVec.getLsbD_of_ge _ _ h
theorem b_255 (i : Nat) : bt 255 i = decide (i < 8) := by
  rcases Nat.lt_or_ge i 32 with h | h
  · exact (by decide +kernel : ∀ i, i < 32 → bt 255 i = decide (i < 8)) i h
  · rw [b_big h, decide_eq_false (by omega)]
theorem b_65535 (i : Nat) : bt 65535 i = decide (i < 16) := by
  rcases Nat.lt_or_ge i 32 with h | h
  · exact (by decide +kernel : ∀ i, i < 32 → bt 65535 i = decide (i < 16)) i h
  · rw [b_big h, decide_eq_false (by omega)]
theorem b_m1 : ∀ i, i < 32 → bt (-1) i = true := by decide +kernel
theorem b_0 (i : Nat) : bt 0 i = false := BitVec.getLsbD_zero
theorem s_l : ∀ n, n < 32 → ((nI n &&& 31).toBitVec.smod 32).toNat = n := by decide +kernel
theorem s_u : ∀ n, n < 32 → (((nI n).toUInt32 &&& Int32.toUInt32 31).toBitVec % 32).toNat = n := by decide +kernel
theorem b_shl (n : Nat) (hn : n < 32) (x : Int32) {i : Nat} (hi : i < 32) : bt (x <<< (nI n &&& 31)) i = (decide (n ≤ i) && bt x (i - n)) := by
  unfold bt
  rw [Int32.toBitVec_shiftLeft]
  show (x.toBitVec <<< ((nI n &&& 31).toBitVec.smod 32).toNat).getLsbD i = _
  rw [s_l n hn, BitVec.getLsbD_shiftLeft]
  rcases Nat.lt_or_ge i n with h | h
  · simp [h, Nat.not_le.mpr h]
  · simp [hi, h, Nat.not_lt.mpr h]
theorem b_ushr (n : Nat) (hn : n < 32) (x : Int32) (i : Nat) : bt ((x.toUInt32 >>> ((nI n).toUInt32 &&& Int32.toUInt32 31)).toInt32) i = bt x (n + i) := by
  show (x.toUInt32 >>> ((nI n).toUInt32 &&& Int32.toUInt32 31)).toBitVec.getLsbD i = x.toUInt32.toBitVec.getLsbD (n + i)
  rw [UInt32.toBitVec_shiftRight]
  show (x.toUInt32.toBitVec >>> (((nI n).toUInt32 &&& Int32.toUInt32 31).toBitVec % 32).toNat).getLsbD i = _
  rw [s_u n hn, BitVec.getLsbD_ushiftRight]
theorem b_sshr (n : Nat) (hn : n < 32) (x : Int32) {i : Nat} (hi : i < 32) : bt (x >>> (nI n &&& 31)) i = if n + i < 32 then bt x (n + i) else bt x 31 := by
  unfold bt
  rw [Int32.toBitVec_shiftRight]
  show (x.toBitVec.sshiftRight ((nI n &&& 31).toBitVec.smod 32).toNat).getLsbD i = _
  rw [s_l n hn, BitVec.getLsbD_sshiftRight, BitVec.msb_eq_getLsbD_last]
  simp [hi]
/-! masks -/
theorem b_nI (k i : Nat) : bt (nI k) i = (decide (i < 32) && k.testBit i) := by
  show (BitVec.ofNat 32 k).getLsbD i = _
  rw [BitVec.getLsbD_ofNat]
theorem b_1 (i : Nat) : bt 1 i = decide (i = 0) := by
  rcases Nat.lt_or_ge i 32 with h | h
  · exact (by decide +kernel : ∀ i, i < 32 → bt 1 i = decide (i = 0)) i h
  · rw [b_big h, decide_eq_false (by omega)]
/-- one bit -/
def one (k : Nat) : Int32 := (1 : Int32) <<< (nI k &&& 31)
theorem b_one {k i : Nat} (hk : k < 32) (hi : i < 32) : bt (one k) i = decide (i = k) := by
  unfold one
  rw [b_shl k hk 1 hi, b_1]
  by_cases h : i = k
  · subst h
    simp
  · rcases Nat.lt_or_ge i k with h2 | h2
    · simp [Nat.not_le.mpr h2, h]
    · rw [decide_eq_false h, decide_eq_false (show ¬ i - k = 0 by omega), Bool.and_false]
theorem b_not (x : Int32) {i : Nat} (hi : i < 32) : bt (x ^^^ (-1)) i = !(bt x i) := by
  rw [b_xor, b_m1 i hi, Bool.xor_true]
theorem b_clr (x y : Int32) {i : Nat} (hi : i < 32) : bt (x &&& (y ^^^ (-1))) i = (bt x i && !(bt y i)) := by rw [b_and, b_not y hi]
theorem b_zero (x : Int32) : x = 0 ↔ ∀ i, i < 32 → bt x i = false := ⟨fun h i _ => by rw [h, b_0], fun h => b_ext (fun i hi => by rw [h i hi, b_0])⟩
theorem b_tst (x : Int32) {k : Nat} (hk : k < 32) : (x >>> (nI k &&& 31)) &&& 1 = if bt x k = true then 1 else 0 := by
  apply b_ext
  intro i hi
  rw [b_and, b_1, b_sshr k hk x hi]
  by_cases h0 : i = 0
  · subst h0
    rw [if_pos (by omega), Nat.add_zero]
    cases h : bt x k
    · simp [b_0]
    · simp [b_1]
  · rw [decide_eq_false h0, Bool.and_false]
    split
    · rw [b_1, decide_eq_false h0]
    · rw [b_0]
theorem b_tst0 (x : Int32) {k : Nat} (hk : k < 32) : ((x >>> (nI k &&& 31)) &&& 1 = 0) = (bt x k = false) := by
  rw [b_tst x hk]
  cases h : bt x k <;> simp
theorem b_tst1 (x : Int32) {k : Nat} (hk : k < 32) : ((x >>> (nI k &&& 31)) &&& 1 = 1) = (bt x k = true) := by
  rw [b_tst x hk]
  cases h : bt x k <;> simp
theorem b_small {x : Int32} (h : ∀ i, i < 32 → 10 ≤ i → bt x i = false) : ∃ k, k < 1024 ∧ x = nI k := by
  refine ⟨x.toBitVec.toNat % 2 ^ 10, Nat.mod_lt _ (by decide), b_ext (fun i hi => ?_)⟩
  rw [b_nI, Nat.testBit_mod_two_pow, decide_eq_true hi, Bool.true_and]
  by_cases h2 : i < 10
  · rw [decide_eq_true h2, Bool.true_and]
    rfl
  · rw [h i hi (by omega), decide_eq_false h2, Bool.false_and]
theorem b_lt {k n : Nat} (hk : k < 2 ^ n) {i : Nat} (hi : n ≤ i) : bt (nI k) i = false := by
  rw [b_nI, Nat.testBit_lt_two_pow (Nat.lt_of_lt_of_le hk (Nat.pow_le_pow_right (by omega) hi)), Bool.and_false]
/-! counting -/
def cnt (p : Nat → Bool) : Nat → Nat
  | 0 => 0
  | n + 1 => cnt p n + (if p n = true then 1 else 0)
theorem cnt_le (p : Nat → Bool) : ∀ n, cnt p n ≤ n := by
  intro n
  induction n with
  | zero => exact Nat.le_refl _
  | succ n ih => unfold cnt; split <;> omega
def pc (x : Int32) : Nat := cnt (bt x) 10
theorem pc_le (x : Int32) : pc x ≤ 10 := cnt_le _ _
theorem ones_ok (x : Int32) (M : Mem) : F_X7_ones x M = some (nI (pc x), M) := by
  unfold F_X7_ones
  have key : ∀ (d k n : Nat), k + d = 10 → d < n → F_X7_ones_4 n x (nI (cnt (bt x) k)) (nI k) M = some (nI (pc x), M) := by
    intro d
    induction d with
    | zero =>
      intro k n hk hn
      obtain ⟨n, rfl⟩ : ∃ m, n = m + 1 := ⟨n - 1, by omega⟩
      obtain rfl : k = 10 := by omega
      unfold F_X7_ones_4
      simp (disch := omega) only [nlit 10, nle, if_pos]
      rfl
    | succ d ih =>
      intro k n hk hn
      obtain ⟨n, rfl⟩ : ∃ m, n = m + 1 := ⟨n - 1, by omega⟩
      unfold F_X7_ones_4
      have hc : ¬ nI 10 ≤ nI k := by rw [nle (by omega) (by omega)]; omega
      rw [nlit 10, if_neg hc, b_tst x (by omega)]
      have ih := ih (k + 1) n (by omega) (by omega)
      have e : nI (cnt (bt x) k) + (if bt x k = true then (1 : Int32) else 0) = nI (cnt (bt x) (k + 1)) := by
        rw [show cnt (bt x) (k + 1) = cnt (bt x) k + (if bt x k = true then 1 else 0) from rfl]
        cases bt x k
        · show nI _ + nI 0 = _
          rw [nI_add]
          rfl
        · show nI _ + nI 1 = _
          rw [nI_add]
          rfl
      rw [e, nlit 1, nI_add]
      exact ih
  exact key 10 0 fu (by omega) (by decide)
set_option maxRecDepth 100000 in
theorem bitCount_k : ∀ k, k < 1024 → (F_J6_bitCount_0f7a4 (nI k) Mz).map (fun y => y.1) = some (nI (pc (nI k))) := by decide +kernel
theorem bitCount_ok {x : Int32} (h : ∀ i, i < 32 → 10 ≤ i → bt x i = false) (M : Mem) : F_J6_bitCount_0f7a4 x M = some (nI (pc x), M) := by
  obtain ⟨k, hk, rfl⟩ := b_small h
  have h1 := bitCount_k k hk
  unfold F_J6_bitCount_0f7a4 at h1 ⊢
  simp only [Option.map_some, Option.some.injEq] at h1
  rw [h1]
