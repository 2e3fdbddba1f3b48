/-! orders: lists of words, and how the model turns them -/
def elsN (k : Nat) : List Nat := (List.range 10).filter (fun i => k.testBit i)
def rmv (x : Nat) (X : List Nat) : List Nat := X.filter (fun y => y != x)
def jx (x : Nat) (D : List Nat) : Nat := (D.filter (fun y => decide (x ≤ y))).length - 1
def ck3 (k : Nat) (X : List Nat) (x : Nat) : Bool := decide (x < 10) && k.testBit x && decide (2 ^ x ≤ k) && (elsN (k - 2 ^ x) == rmv x X) && decide ((rmv x X).length + 1 = X.length)
def ck6 (X : List Nat) (x x' : Nat) (D : List Nat) (j : Nat) : Bool := decide (j < D.length) && decide (x < D.getD 0 0) && decide (x < D.getD j 0) && (List.range D.length).all (fun i => !(decide (j < i)) || decide (D.getD i 0 < x)) && (List.range D.length).all (fun i => !(decide (i + 1 < D.length)) || decide (D.getD (i + 1) 0 < D.getD i 0)) && ((D.getD j 0 :: (D.set j x).reverse) == (x' :: rmv x' X))
def ckk (k : Nat) : Bool := ((elsN k).length == cnt (fun i => k.testBit i) 10) && (List.range 10).all (fun i => !(k.testBit i) || ((elsN k).getD (cnt (fun i => k.testBit i) i) 0 == i)) && (List.range (elsN k).length).all (fun t => ck3 k (elsN k) ((elsN k).getD t 0)) && (!(decide (0 < (elsN k).length)) || (((elsN k).getD 0 0 :: rmv ((elsN k).getD 0 0) (elsN k)) == elsN k)) && (!(decide (0 < (elsN k).length)) || (((elsN k).getD ((elsN k).length - 1) 0 :: (rmv ((elsN k).getD ((elsN k).length - 1) 0) (elsN k)).reverse) == (elsN k).reverse)) && (List.range (elsN k).length).all (fun t => !(decide (t + 1 < (elsN k).length)) || ck6 (elsN k) ((elsN k).getD t 0) ((elsN k).getD (t + 1) 0) (rmv ((elsN k).getD t 0) (elsN k)).reverse (jx ((elsN k).getD t 0) (rmv ((elsN k).getD t 0) (elsN k)).reverse)) && (List.range (elsN k).length).all (fun i => !(decide (i + 1 < (elsN k).length)) || decide ((elsN k).reverse.getD (i + 1) 0 < (elsN k).reverse.getD i 0))
set_option maxRecDepth 100000 in
theorem ckk_c0 : ∀ r, r < 32 → ckk (32 * 0 + r) = true := by decide +kernel
set_option maxRecDepth 100000 in
theorem ckk_c1 : ∀ r, r < 32 → ckk (32 * 1 + r) = true := by decide +kernel
set_option maxRecDepth 100000 in
theorem ckk_c2 : ∀ r, r < 32 → ckk (32 * 2 + r) = true := by decide +kernel
set_option maxRecDepth 100000 in
theorem ckk_c3 : ∀ r, r < 32 → ckk (32 * 3 + r) = true := by decide +kernel
set_option maxRecDepth 100000 in
theorem ckk_c4 : ∀ r, r < 32 → ckk (32 * 4 + r) = true := by decide +kernel
set_option maxRecDepth 100000 in
theorem ckk_c5 : ∀ r, r < 32 → ckk (32 * 5 + r) = true := by decide +kernel
set_option maxRecDepth 100000 in
theorem ckk_c6 : ∀ r, r < 32 → ckk (32 * 6 + r) = true := by decide +kernel
set_option maxRecDepth 100000 in
theorem ckk_c7 : ∀ r, r < 32 → ckk (32 * 7 + r) = true := by decide +kernel
set_option maxRecDepth 100000 in
theorem ckk_c8 : ∀ r, r < 32 → ckk (32 * 8 + r) = true := by decide +kernel
set_option maxRecDepth 100000 in
theorem ckk_c9 : ∀ r, r < 32 → ckk (32 * 9 + r) = true := by decide +kernel
set_option maxRecDepth 100000 in
theorem ckk_c10 : ∀ r, r < 32 → ckk (32 * 10 + r) = true := by decide +kernel
set_option maxRecDepth 100000 in
theorem ckk_c11 : ∀ r, r < 32 → ckk (32 * 11 + r) = true := by decide +kernel
set_option maxRecDepth 100000 in
theorem ckk_c12 : ∀ r, r < 32 → ckk (32 * 12 + r) = true := by decide +kernel
set_option maxRecDepth 100000 in
theorem ckk_c13 : ∀ r, r < 32 → ckk (32 * 13 + r) = true := by decide +kernel
set_option maxRecDepth 100000 in
theorem ckk_c14 : ∀ r, r < 32 → ckk (32 * 14 + r) = true := by decide +kernel
set_option maxRecDepth 100000 in
theorem ckk_c15 : ∀ r, r < 32 → ckk (32 * 15 + r) = true := by decide +kernel
set_option maxRecDepth 100000 in
theorem ckk_c16 : ∀ r, r < 32 → ckk (32 * 16 + r) = true := by decide +kernel
set_option maxRecDepth 100000 in
theorem ckk_c17 : ∀ r, r < 32 → ckk (32 * 17 + r) = true := by decide +kernel
set_option maxRecDepth 100000 in
theorem ckk_c18 : ∀ r, r < 32 → ckk (32 * 18 + r) = true := by decide +kernel
set_option maxRecDepth 100000 in
theorem ckk_c19 : ∀ r, r < 32 → ckk (32 * 19 + r) = true := by decide +kernel
set_option maxRecDepth 100000 in
theorem ckk_c20 : ∀ r, r < 32 → ckk (32 * 20 + r) = true := by decide +kernel
set_option maxRecDepth 100000 in
theorem ckk_c21 : ∀ r, r < 32 → ckk (32 * 21 + r) = true := by decide +kernel
set_option maxRecDepth 100000 in
theorem ckk_c22 : ∀ r, r < 32 → ckk (32 * 22 + r) = true := by decide +kernel
set_option maxRecDepth 100000 in
theorem ckk_c23 : ∀ r, r < 32 → ckk (32 * 23 + r) = true := by decide +kernel
set_option maxRecDepth 100000 in
theorem ckk_c24 : ∀ r, r < 32 → ckk (32 * 24 + r) = true := by decide +kernel
set_option maxRecDepth 100000 in
theorem ckk_c25 : ∀ r, r < 32 → ckk (32 * 25 + r) = true := by decide +kernel
set_option maxRecDepth 100000 in
theorem ckk_c26 : ∀ r, r < 32 → ckk (32 * 26 + r) = true := by decide +kernel
set_option maxRecDepth 100000 in
theorem ckk_c27 : ∀ r, r < 32 → ckk (32 * 27 + r) = true := by decide +kernel
set_option maxRecDepth 100000 in
theorem ckk_c28 : ∀ r, r < 32 → ckk (32 * 28 + r) = true := by decide +kernel
set_option maxRecDepth 100000 in
theorem ckk_c29 : ∀ r, r < 32 → ckk (32 * 29 + r) = true := by decide +kernel
set_option maxRecDepth 100000 in
theorem ckk_c30 : ∀ r, r < 32 → ckk (32 * 30 + r) = true := by decide +kernel
set_option maxRecDepth 100000 in
theorem ckk_c31 : ∀ r, r < 32 → ckk (32 * 31 + r) = true := by decide +kernel
theorem ckk_qr : ∀ q, q < 32 → ∀ r, r < 32 → ckk (32 * q + r) = true := by
  intro q hq
  match q, hq with
  | 0, _ => exact ckk_c0
  | 1, _ => exact ckk_c1
  | 2, _ => exact ckk_c2
  | 3, _ => exact ckk_c3
  | 4, _ => exact ckk_c4
  | 5, _ => exact ckk_c5
  | 6, _ => exact ckk_c6
  | 7, _ => exact ckk_c7
  | 8, _ => exact ckk_c8
  | 9, _ => exact ckk_c9
  | 10, _ => exact ckk_c10
  | 11, _ => exact ckk_c11
  | 12, _ => exact ckk_c12
  | 13, _ => exact ckk_c13
  | 14, _ => exact ckk_c14
  | 15, _ => exact ckk_c15
  | 16, _ => exact ckk_c16
  | 17, _ => exact ckk_c17
  | 18, _ => exact ckk_c18
  | 19, _ => exact ckk_c19
  | 20, _ => exact ckk_c20
  | 21, _ => exact ckk_c21
  | 22, _ => exact ckk_c22
  | 23, _ => exact ckk_c23
  | 24, _ => exact ckk_c24
  | 25, _ => exact ckk_c25
  | 26, _ => exact ckk_c26
  | 27, _ => exact ckk_c27
  | 28, _ => exact ckk_c28
  | 29, _ => exact ckk_c29
  | 30, _ => exact ckk_c30
  | 31, _ => exact ckk_c31
  | n + 32, h => exact absurd h (by omega)
theorem ckk_all : ∀ k, k < 1024 → ckk k = true := by
  intro k hk
  have h := ckk_qr (k / 32) (by omega) (k % 32) (by omega)
  rw [Nat.div_add_mod] at h
  exact h
theorem all_r {n : Nat} {p : Nat → Bool} (h : (List.range n).all p = true) {i : Nat} (hi : i < n) : p i = true := List.all_eq_true.mp h i (List.mem_range.mpr hi)
theorem imp_b {a b : Bool} (h : (!a || b) = true) (ha : a = true) : b = true := by rw [ha] at h; exact h
theorem ck_and {k : Nat} (hk : k < 1024) : ((elsN k).length = cnt (fun i => k.testBit i) 10) ∧ (∀ i, i < 10 → k.testBit i = true → (elsN k).getD (cnt (fun i => k.testBit i) i) 0 = i) ∧ (∀ t, t < (elsN k).length → ck3 k (elsN k) ((elsN k).getD t 0) = true) ∧ (0 < (elsN k).length → (elsN k).getD 0 0 :: rmv ((elsN k).getD 0 0) (elsN k) = elsN k) ∧ (0 < (elsN k).length → (elsN k).getD ((elsN k).length - 1) 0 :: (rmv ((elsN k).getD ((elsN k).length - 1) 0) (elsN k)).reverse = (elsN k).reverse) ∧ (∀ t, t + 1 < (elsN k).length → ck6 (elsN k) ((elsN k).getD t 0) ((elsN k).getD (t + 1) 0) (rmv ((elsN k).getD t 0) (elsN k)).reverse (jx ((elsN k).getD t 0) (rmv ((elsN k).getD t 0) (elsN k)).reverse) = true) ∧ ∀ i, i + 1 < (elsN k).length → (elsN k).reverse.getD (i + 1) 0 < (elsN k).reverse.getD i 0 := by
  have h := ckk_all k hk
  unfold ckk at h
  simp only [Bool.and_eq_true] at h
  obtain ⟨⟨⟨⟨⟨⟨h1, h2⟩, h3⟩, h4⟩, h5⟩, h6⟩, h7⟩ := h
  refine ⟨eq_of_beq h1, fun i hi hb => ?_, fun t ht => all_r h3 ht, fun h => ?_, fun h => ?_, fun t ht => ?_, fun i hi => ?_⟩
  · exact eq_of_beq (imp_b (all_r h2 hi) hb)
  · exact eq_of_beq (imp_b h4 (decide_eq_true h))
  · exact eq_of_beq (imp_b h5 (decide_eq_true h))
  · exact imp_b (all_r h6 (show t < (elsN k).length by omega)) (decide_eq_true ht)
  · exact of_decide_eq_true (imp_b (all_r h7 (show i < (elsN k).length by omega)) (decide_eq_true hi))
theorem ck3_and {k x : Nat} {X : List Nat} (h : ck3 k X x = true) : x < 10 ∧ k.testBit x = true ∧ 2 ^ x ≤ k ∧ elsN (k - 2 ^ x) = rmv x X ∧ (rmv x X).length + 1 = X.length := by
  unfold ck3 at h
  simp only [Bool.and_eq_true] at h
  obtain ⟨⟨⟨⟨h1, h2⟩, h3⟩, h4⟩, h5⟩ := h
  exact ⟨of_decide_eq_true h1, h2, of_decide_eq_true h3, eq_of_beq h4, of_decide_eq_true h5⟩
theorem ck6_and {X D : List Nat} {x x' j : Nat} (h : ck6 X x x' D j = true) : j < D.length ∧ x < D.getD 0 0 ∧ x < D.getD j 0 ∧ (∀ i, i < D.length → j < i → D.getD i 0 < x) ∧ (∀ i, i + 1 < D.length → D.getD (i + 1) 0 < D.getD i 0) ∧ D.getD j 0 :: (D.set j x).reverse = x' :: rmv x' X := by
  unfold ck6 at h
  simp only [Bool.and_eq_true] at h
  obtain ⟨⟨⟨⟨⟨h1, h2⟩, h3⟩, h4⟩, h5⟩, h6⟩ := h
  refine ⟨of_decide_eq_true h1, of_decide_eq_true h2, of_decide_eq_true h3, fun i hi hj => ?_, fun i hi => ?_, eq_of_beq h6⟩
  · exact of_decide_eq_true (imp_b (all_r h4 hi) (decide_eq_true hj))
  · exact of_decide_eq_true (imp_b (all_r h5 (show i < D.length by omega)) (decide_eq_true hi))
theorem gd {l : List Nat} {k : Nat} : l.getD k 0 = (l[k]?).getD 0 := List.getD_eq_getElem?_getD
theorem gd_a1 {l m : List Nat} {k : Nat} (h : k < l.length) : (l ++ m).getD k 0 = l.getD k 0 := by
  rw [gd, gd, List.getElem?_append_left h]
theorem gd_a2 {l m : List Nat} {k : Nat} (h : l.length ≤ k) : (l ++ m).getD k 0 = m.getD (k - l.length) 0 := by
  rw [gd, gd, List.getElem?_append_right h]
theorem gd_r {l : List Nat} {k : Nat} (h : k < l.length) : l.reverse.getD k 0 = l.getD (l.length - 1 - k) 0 := by
  rw [gd, gd, List.getElem?_reverse h]
theorem gd_c0 {x : Nat} {l : List Nat} : (x :: l).getD 0 0 = x := rfl
theorem gd_cs {x : Nat} {l : List Nat} {k : Nat} : (x :: l).getD (k + 1) 0 = l.getD k 0 := rfl
theorem gd_s1 {l : List Nat} {j x : Nat} (h : j < l.length) : (l.set j x).getD j 0 = x := by
  rw [gd, List.getElem?_set_self h]
  rfl
theorem gd_s2 {l : List Nat} {j k x : Nat} (h : j ≠ k) : (l.set j x).getD k 0 = l.getD k 0 := by
  rw [gd, gd, List.getElem?_set_ne h]
theorem gd_m {l : List Nat} {k : Nat} (h : k < l.length) : l.getD k 0 ∈ l := by
  rw [gd, List.getElem?_eq_getElem h]
  exact List.getElem_mem h
/-- a row of the model that holds a list -/
def rwl (O : Nat → Int32) (q : Nat) (l : List Nat) : Nat → Int32 := fun k => if k < q then nI (l.getD k 0) else O k
theorem rwl_i {O : Nat → Int32} {q : Nat} {l : List Nat} {k : Nat} (h : k < q) : rwl O q l k = nI (l.getD k 0) := if_pos h
def st (M : Mem) (O : Nat → Int32) (q : Nat) (l : List Nat) (S : Int32 × Int32 × Int32) : Mem := h4 (sv (sr M 33 (rwl O q l)) 43 (nI q)) S
/-- the same with any row -/
def sto (M : Mem) (q : Nat) (R : Nat → Int32) (S : Int32 × Int32 × Int32) : Mem := h4 (sv (sr M 33 R) 43 (nI q)) S
theorem sto_33 (M : Mem) (q : Nat) (R : Nat → Int32) (S : Int32 × Int32 × Int32) : (sto M q R S).2 33 = R := rfl
theorem sto_43 (M : Mem) (q : Nat) (R : Nat → Int32) (S : Int32 × Int32 × Int32) : (sto M q R S).1 43 = nI q := rfl
theorem sto_sa (M : Mem) (q : Nat) (R : Nat → Int32) (S : Int32 × Int32 × Int32) (i : Nat) (x : Int32) : sa (sto M q R S) 33 i x = sto M q (upd R i x) S := by
  rw [sa_sr]
  unfold sto h4
  show sv (sv (sv (sv (sr (sr M 33 R) 33 (upd R i x)) 43 (nI q)) 44 S.1) 45 S.2.1) 46 S.2.2 = _
  rw [sr_sr]
/-- a stretch of a row, turned round -/
def rvs (R : Nat → Int32) (lo hi : Nat) : Nat → Int32 := fun k => if lo ≤ k ∧ k ≤ hi then R (lo + hi - k) else R k
theorem tu107 (M : Mem) {q : Nat} (S : Int32 × Int32 × Int32) : ∀ (d lo hi m : Nat) (R : Nat → Int32), hi ≤ lo + d → hi < 10 → lo < 11 → d < m → F_X7_turns_107 m (nI lo) (nI hi) (sto M q R S) = some (1, sto M q (rvs R lo hi) S) := by
  intro d
  induction d with
  | zero =>
    intro lo hi m R h1 h2 h3 hm
    obtain ⟨m, rfl⟩ : ∃ q, m = q + 1 := ⟨m - 1, by omega⟩
    unfold F_X7_turns_107
    rw [if_pos (by rw [nle (by omega) (by omega)]; omega)]
    have e : rvs R lo hi = R := by
      funext k
      unfold rvs
      split
      · next h => rw [show lo + hi - k = k by omega]
      · rfl
    rw [e]
  | succ d ih =>
    intro lo hi m R h1 h2 h3 hm
    obtain ⟨m, rfl⟩ : ∃ q, m = q + 1 := ⟨m - 1, by omega⟩
    unfold F_X7_turns_107
    by_cases hc : hi ≤ lo
    · rw [if_pos (by rw [nle (by omega) (by omega)]; omega)]
      have e : rvs R lo hi = R := by
        funext k
        unfold rvs
        split
        · next h => rw [show lo + hi - k = k by omega]
        · rfl
      rw [e]
    · rw [if_neg (by rw [nle (by omega) (by omega)]; omega), ckN (by omega) (by omega), ckN (by omega) (by omega), ckN (by omega) (by omega), ckN (by omega) (by omega), ncl (by omega), ncl (by omega), sto_33, sto_sa, sto_sa, nI_s, nI_p (by omega) (by omega)]
      rw [ih (lo + 1) (hi - 1) m _ (by omega) (by omega) (by omega) (by omega)]
      congr 3
      funext k
      unfold rvs
      by_cases h4 : lo + 1 ≤ k ∧ k ≤ hi - 1
      · rw [if_pos h4, if_pos (by omega), upd_n (by omega), upd_n (by omega), show lo + 1 + (hi - 1) - k = lo + hi - k by omega]
      · rw [if_neg h4]
        by_cases e1 : k = hi
        · subst e1
          rw [upd_s, if_pos (by omega), show lo + k - k = lo by omega]
        · rw [upd_n e1]
          by_cases e2 : k = lo
          · subst e2
            rw [upd_s, if_pos (by omega), show k + hi - k = hi by omega]
          · rw [upd_n e2, if_neg (by omega)]
theorem tu47 (M : Mem) {q p jj : Nat} (hq : q ≤ 10) (S : Int32 × Int32 × Int32) {R : Nat → Int32} (hp : p < jj) (hj : jj < q) (h1 : R p ≤ R jj) (h2 : ∀ k, jj < k → k < q → ¬ R p ≤ R k) : ∀ (d k m : Nat), k = jj + d → k < q → d < m → F_X7_turns_47 m (nI p) (nI k) (sto M q R S) = some (1, sto M q (rvs (upd (upd R p (R jj)) jj (R p)) (p + 1) (q - 1)) S) := by
  intro d
  induction d with
  | zero =>
    intro k m hk hkq hm
    obtain ⟨m, rfl⟩ : ∃ q, m = q + 1 := ⟨m - 1, by omega⟩
    obtain rfl : k = jj := by omega
    unfold F_X7_turns_47
    rw [ckN (by omega) (by omega), ckN (by omega) (by omega), ckN (by omega) (by omega), ckN (by omega) (by omega), ckN (by omega) (by omega), ckN (by omega) (by omega), ncl (by omega), ncl (by omega), sto_33, if_pos h1, sto_sa, sto_sa, sto_43, nI_s, nlit 1, psub (by omega)]
    exact tu107 M S 10 (p + 1) (q - 1) fu _ (by omega) (by omega) (by omega) (by decide)
  | succ d ih =>
    intro k m hk hkq hm
    obtain ⟨m, rfl⟩ : ∃ q, m = q + 1 := ⟨m - 1, by omega⟩
    unfold F_X7_turns_47
    rw [ckN (by omega) (by omega), ckN (by omega) (by omega), ncl (by omega), ncl (by omega), sto_33, if_neg (h2 k (by omega) hkq), nI_p (by omega) (by omega)]
    exact ih (k - 1) m (by omega) (by omega) (by omega)
theorem tu7 (M : Mem) {q p jj : Nat} (hq : q ≤ 10) (S : Int32 × Int32 × Int32) {R : Nat → Int32} (hp : p < jj) (hj : jj < q) (h1 : R p ≤ R jj) (h2 : ∀ k, jj < k → k < q → ¬ R p ≤ R k) (h3 : R p ≤ R (p + 1)) (h4 : ∀ k, p < k → k + 1 < q → ¬ R k ≤ R (k + 1)) : ∀ (d k m : Nat), k = p + d → k + 1 < q → d < m → F_X7_turns_7 m (nI k) (sto M q R S) = some (1, sto M q (rvs (upd (upd R p (R jj)) jj (R p)) (p + 1) (q - 1)) S) := by
  intro d
  induction d with
  | zero =>
    intro k m hk hkq hm
    obtain ⟨m, rfl⟩ : ∃ q, m = q + 1 := ⟨m - 1, by omega⟩
    obtain rfl : k = p := by omega
    unfold F_X7_turns_7 F_X7_turns_34
    rw [if_neg (nI_pos (by omega)), nI_s, ckN (by omega) (by omega), ckN (by omega) (by omega), ncl (by omega), ncl (by omega), sto_33, if_pos h3, if_pos (nI_pos' (by omega)), sto_43, nlit 1, psub (by omega)]
    exact tu47 M hq S hp hj h1 h2 (q - 1 - jj) (q - 1) fu (by omega) (by omega) (by unfold fu; omega)
  | succ d ih =>
    intro k m hk hkq hm
    obtain ⟨m, rfl⟩ : ∃ q, m = q + 1 := ⟨m - 1, by omega⟩
    unfold F_X7_turns_7
    rw [if_neg (nI_pos (by omega)), nI_s, ckN (by omega) (by omega), ckN (by omega) (by omega), ncl (by omega), ncl (by omega), sto_33, if_neg (h4 k (by omega) hkq), nI_p (by omega) (by omega)]
    exact ih (k - 1) m (by omega) (by omega) (by omega)
theorem turn_y (M : Mem) (O : Nat → Int32) {q : Nat} (hq : q ≤ 10) (S : Int32 × Int32 × Int32) {pre D : List Nat} {x j : Nat} (hl : pre.length + 1 + D.length = q) (hb : ∀ y, y ∈ pre ++ x :: D → y < 1000) (h1 : j < D.length) (h2 : x < D.getD 0 0) (h3 : x < D.getD j 0) (h4 : ∀ i, i < D.length → j < i → D.getD i 0 < x) (h5 : ∀ i, i + 1 < D.length → D.getD (i + 1) 0 < D.getD i 0) : F_X7_turns (st M O q (pre ++ x :: D) S) = some (1, st M O q (pre ++ D.getD j 0 :: (D.set j x).reverse) S) := by
  have hb' : ∀ k, k < q → (pre ++ x :: D).getD k 0 < 1000 := fun k hk => hb _ (gd_m (by rw [List.length_append, List.length_cons]; omega))
  obtain ⟨R, hR⟩ : ∃ R, R = rwl O q (pre ++ x :: D) := ⟨_, rfl⟩
  have hRp : R pre.length = nI x := by rw [hR, rwl_i (by omega), gd_a2 (by omega), Nat.sub_self, gd_c0]
  have hRd : ∀ i, i < D.length → R (pre.length + 1 + i) = nI (D.getD i 0) := by
    intro i hi
    rw [hR, rwl_i (by omega), gd_a2 (by omega), show pre.length + 1 + i - pre.length = i + 1 by omega, gd_cs]
  have hxb : x < 1000 := by
    have := hb' pre.length (by omega)
    rw [gd_a2 (by omega), Nat.sub_self, gd_c0] at this
    exact this
  have hDb : ∀ i, i < D.length → D.getD i 0 < 1000 := by
    intro i hi
    have := hb' (pre.length + 1 + i) (by omega)
    rw [gd_a2 (by omega), show pre.length + 1 + i - pre.length = i + 1 by omega, gd_cs] at this
    exact this
  have hjb := hDb j h1
  have h0b := hDb 0 (by omega)
  unfold F_X7_turns
  rw [show st M O q (pre ++ x :: D) S = sto M q R S by rw [hR]; rfl, sto_43, nlit 2, psub (by omega)]
  rw [tu7 M (p := pre.length) (jj := pre.length + 1 + j) hq S (by omega) (by omega) (by rw [hRp, hRd j h1, nle (by omega) (by omega)]; omega) (fun k hk1 hk2 => by
    have e := hRd (k - (pre.length + 1)) (by omega)
    rw [show pre.length + 1 + (k - (pre.length + 1)) = k by omega] at e
    have := h4 (k - (pre.length + 1)) (by omega) (by omega)
    rw [hRp, e, nle (by omega) (by omega)]
    omega) (by rw [hRp, show pre.length + 1 = pre.length + 1 + 0 by omega, hRd 0 (by omega), nle (by omega) (by omega)]; omega) (fun k hk1 hk2 => by
    have e := hRd (k - (pre.length + 1)) (by omega)
    rw [show pre.length + 1 + (k - (pre.length + 1)) = k by omega] at e
    have e' := hRd (k - (pre.length + 1) + 1) (by omega)
    rw [show pre.length + 1 + (k - (pre.length + 1) + 1) = k + 1 by omega] at e'
    have := h5 (k - (pre.length + 1)) (by omega)
    have b1 := hDb (k - (pre.length + 1)) (by omega)
    have b2 := hDb (k - (pre.length + 1) + 1) (by omega)
    rw [e, e', nle (by omega) (by omega)]
    omega) (q - 2 - pre.length) (q - 2) fu (by omega) (by omega) (by unfold fu; omega)]
  congr 2
  unfold st sto
  congr 3
  funext k
  unfold rvs
  by_cases hk : k < q
  rotate_left
  · rw [if_neg (by omega), upd_n (by omega), upd_n (by omega), hR]
    unfold rwl
    rw [if_neg hk, if_neg hk]
  rw [rwl_i hk]
  rcases Nat.lt_trichotomy k pre.length with hlt | heq | hgt
  · rw [if_neg (by omega), upd_n (by omega), upd_n (by omega), hR, rwl_i hk, gd_a1 hlt, gd_a1 hlt]
  · rw [if_neg (by omega), upd_n (by omega), heq, upd_s, hRd j h1, gd_a2 (by omega), Nat.sub_self, gd_c0]
  · rw [if_pos (by omega), gd_a2 (by omega), show k - pre.length = (k - pre.length - 1) + 1 by omega, gd_cs, gd_r (by rw [List.length_set]; omega), List.length_set, show D.length - 1 - (k - pre.length - 1) = pre.length + 1 + (q - 1) - k - (pre.length + 1) by omega]
    by_cases e : pre.length + 1 + (q - 1) - k = pre.length + 1 + j
    · rw [e, upd_s, hRp, show pre.length + 1 + j - (pre.length + 1) = j by omega, gd_s1 h1]
    · rw [upd_n e, upd_n (by omega), gd_s2 (by omega)]
      have e2 := hRd (pre.length + 1 + (q - 1) - k - (pre.length + 1)) (by omega)
      rw [show pre.length + 1 + (pre.length + 1 + (q - 1) - k - (pre.length + 1)) = pre.length + 1 + (q - 1) - k by omega] at e2
      exact e2
theorem turn_n (M : Mem) (O : Nat → Int32) {q : Nat} (hq : q ≤ 10) (S : Int32 × Int32 × Int32) {l : List Nat} (hl : l.length = q) (hb : ∀ y, y ∈ l → y < 1000) (hd : ∀ i, i + 1 < q → l.getD (i + 1) 0 < l.getD i 0) : F_X7_turns (st M O q l S) = some (0, st M O q l S) := by
  have key : ∀ (d m : Nat), d + 1 < q → d + 1 < m → F_X7_turns_7 m (nI d) (st M O q l S) = some (0, st M O q l S) := by
    intro d
    induction d with
    | zero =>
      intro m hd1 hm
      obtain ⟨m, rfl⟩ : ∃ q, m = q + 1 := ⟨m - 1, by omega⟩
      obtain ⟨m, rfl⟩ : ∃ q, m = q + 1 := ⟨m - 1, by omega⟩
      have h1 := hd 0 hd1
      have b1 := hb _ (gd_m (l := l) (k := 0) (by omega))
      have b2 := hb _ (gd_m (l := l) (k := 0 + 1) (by omega))
      unfold F_X7_turns_7
      rw [if_neg (nI_pos (by omega)), nI_s, ckN (by omega) (by omega), ckN (by omega) (by omega), ncl (by omega), ncl (by omega), show (st M O q l S).2 33 = rwl O q l from rfl, rwl_i (by omega), rwl_i (by omega), if_neg (by rw [nle (by omega) (by omega)]; omega)]
      unfold F_X7_turns_7 F_X7_turns_34
      rw [if_pos m1lt, if_neg (by decide)]
    | succ d ih =>
      intro m hd1 hm
      obtain ⟨m, rfl⟩ : ∃ q, m = q + 1 := ⟨m - 1, by omega⟩
      have h1 := hd (d + 1) hd1
      have b1 := hb _ (gd_m (l := l) (k := d + 1) (by omega))
      have b2 := hb _ (gd_m (l := l) (k := d + 1 + 1) (by omega))
      unfold F_X7_turns_7
      rw [if_neg (nI_pos (by omega)), nI_s, ckN (by omega) (by omega), ckN (by omega) (by omega), ncl (by omega), ncl (by omega), show (st M O q l S).2 33 = rwl O q l from rfl, rwl_i (by omega), rwl_i (by omega), if_neg (by rw [nle (by omega) (by omega)]; omega), nI_p (by omega) (by omega)]
      exact ih m (by omega) (by omega)
  unfold F_X7_turns
  rw [show (st M O q l S).1 43 = nI q from rfl]
  by_cases h2 : 2 ≤ q
  · rw [nlit 2, psub h2]
    exact key (q - 2) fu (by omega) (by unfold fu; omega)
  · rcases (show q = 0 ∨ q = 1 by omega) with rfl | rfl
    · rw [show fu = 8191 + 1 from rfl]
      unfold F_X7_turns_7 F_X7_turns_34
      rw [if_pos (by decide), if_neg (by decide)]
    · rw [show fu = 8191 + 1 from rfl]
      unfold F_X7_turns_7 F_X7_turns_34
      rw [if_pos (by decide), if_neg (by decide)]
