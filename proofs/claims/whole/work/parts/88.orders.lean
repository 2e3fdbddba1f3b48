/-! orders -/
def fa : Nat → Nat
  | 0 => 1
  | n + 1 => (n + 1) * fa n
/-- a list of words, heard -/
def hl (kd gp ab L : Nat → Nat) (ps : Nat → Bool) (n : Nat) (l : List Nat) : Int32 × Int32 × Int32 := hf kd gp ab L ps n (fun k => l.getD k 0) l.length
theorem hf_cong {kd gp ab L : Nat → Nat} {ps : Nat → Bool} {n : Nat} {od od' : Nat → Nat} : ∀ q, (∀ k, k < q → od k = od' k) → hf kd gp ab L ps n od q = hf kd gp ab L ps n od' q := by
  intro q
  induction q with
  | zero => intro _; rfl
  | succ q ih =>
    intro h
    show hst kd gp ab L ps n (od q) (hf kd gp ab L ps n od q) = hst kd gp ab L ps n (od' q) (hf kd gp ab L ps n od' q)
    rw [ih (fun k hk => h k (by omega)), h q (by omega)]
theorem hl_s {kd gp ab L : Nat → Nat} {ps : Nat → Bool} {n : Nat} (l : List Nat) (x : Nat) : hl kd gp ab L ps n (l ++ [x]) = hst kd gp ab L ps n x (hl kd gp ab L ps n l) := by
  unfold hl
  rw [List.length_append, show [x].length = 1 from rfl]
  show hst kd gp ab L ps n ((l ++ [x]).getD l.length 0) (hf kd gp ab L ps n (fun k => (l ++ [x]).getD k 0) l.length) = _
  rw [gd_a2 (by omega), Nat.sub_self, gd_c0, hf_cong l.length (fun k hk => gd_a1 hk)]
def ind (kd gp ab L : Nat → Nat) (ps : Nat → Bool) (n : Nat) : Option Nat → List Nat → Nat
  | none, _ => 1
  | some w, l => if bt (hl kd gp ab L ps n l).1 w = true then 1 else 0
def encw : Option Nat → Int32
  | none => -1
  | some w => nI w
def spm (I : List Nat → Nat) : Nat → List Nat → Nat → Nat
  | 0, pre, _ => I pre
  | m + 1, pre, k => ((elsN k).map (fun x => spm I m (pre ++ [x]) (k - 2 ^ x))).sum
theorem els_lt {n k : Nat} (hk : k < 2 ^ n) {y : Nat} (hy : y ∈ elsN k) : y < n ∧ y < 10 := by
  unfold elsN at hy
  rw [List.mem_filter, List.mem_range] at hy
  refine ⟨?_, hy.1⟩
  apply Nat.lt_of_not_le
  intro h
  have := Nat.testBit_lt_two_pow (Nat.lt_of_lt_of_le hk (Nat.pow_le_pow_right (by omega) h))
  rw [this] at hy
  cases hy.2
theorem slt {k N y : Nat} (h : k < N) : k - y < N := Nat.lt_of_le_of_lt (Nat.sub_le _ _) h
theorem vis {M : Mem} {n j q : Nat} {kd gp ab L : Nat → Nat} {ps : Nat → Bool} (hC : MX M n kd gp ab ps) (hj : j < 2) (hL : LY M j L) (hB : LB L) (hq : q ≤ 10) (O : Nat → Int32) {wd : Option Nat} (hwd : ∀ w, wd = some w → w < 32) (m c : Nat) {l : List Nat} (hl1 : l.length = q) (hl2 : ∀ y, y ∈ l → y < n) (S : Int32 × Int32 × Int32) : F_X7_orders_57 (m + 1) (nI j) (encw wd) (nI c) 1 (st M O q l S) = bd (F_X7_turns (st M O q l (hl kd gp ab L ps n l))) (fun r M' => F_X7_orders_57 m (nI j) (encw wd) (nI (c + ind kd gp ab L ps n wd l)) r M') := by
  have eh : F_X7_hears (nI j) (st M O q l S) = some (st M O q l (hl kd gp ab L ps n l)) := by
    have e := hears_ok (M := st M O q l S) (od := fun k => l.getD k 0) (q := q) (n := n) (kd := kd) (gp := gp) (ab := ab) (L := L) (ps := ps) hC hj hL hB hq rfl (fun k hk => ⟨hl2 _ (gd_m (by omega)), rwl_i hk⟩)
    rw [e]
    unfold st
    rw [h4_h4]
    unfold hl
    rw [hl1]
  rw [F_X7_orders_57, if_neg (by decide), eh, bdvS]
  unfold F_X7_orders_84 F_X7_orders_89
  cases wd with
  | none =>
    rw [if_pos (show encw none = -1 from rfl), nI_s]
    rfl
  | some w =>
    have hw := hwd w rfl
    rw [if_neg (show ¬ encw (some w) = -1 from nIm w (by omega)), show encw (some w) = nI w from rfl, has7 _ hw, bdS, nI_s, show nI c + 0 = nI c from Int32.add_zero _]
    simp only [ib]
    show (if bt (hl kd gp ab L ps n l).1 w = false then _ else _) = _
    rw [show ind kd gp ab L ps n (some w) l = if bt (hl kd gp ab L ps n l).1 w = true then 1 else 0 from rfl]
    cases bt (hl kd gp ab L ps n l).1 w
    · rw [if_pos rfl, if_neg (by decide)]
      rfl
    · rw [if_neg (by decide), if_pos rfl]
theorem Eall {M : Mem} {n j q : Nat} {kd gp ab L : Nat → Nat} {ps : Nat → Bool} (hC : MX M n kd gp ab ps) (hj : j < 2) (hL : LY M j L) (hB : LB L) (hq : q ≤ 10) (O : Nat → Int32) {wd : Option Nat} (hwd : ∀ w, wd = some w → w < 32) : ∀ (len k : Nat) (pre : List Nat) (m c : Nat) (S : Int32 × Int32 × Int32), (elsN k).length = len → k < 2 ^ n → pre.length + len = q → (∀ y, y ∈ pre → y < n) → F_X7_orders_57 (m + fa len) (nI j) (encw wd) (nI c) 1 (st M O q (pre ++ elsN k) S) = bd (F_X7_turns (st M O q (pre ++ (elsN k).reverse) (hl kd gp ab L ps n (pre ++ (elsN k).reverse)))) (fun r M' => F_X7_orders_57 m (nI j) (encw wd) (nI (c + spm (ind kd gp ab L ps n wd) len pre k)) r M') := by
  have hn := hC.1
  have hp := pow_le10 hn
  intro len
  induction len with
  | zero =>
    intro k pre m c S hlen hk hpq hpre
    have e : elsN k = [] := List.eq_nil_of_length_eq_zero hlen
    rw [e, List.reverse_nil, List.append_nil]
    exact vis hC hj hL hB hq O hwd m c (by omega) hpre S
  | succ len ih =>
    intro k pre m c S hlen hk hpq hpre
    obtain ⟨-, -, c3, c4, c5, c6, -⟩ := ck_and (show k < 1024 by omega)
    obtain ⟨X, hX⟩ : ∃ X, X = elsN k := ⟨_, rfl⟩
    have hXl : X.length = len + 1 := by rw [hX]; exact hlen
    have hXn : ∀ y, y ∈ X → y < n := fun y hy => (els_lt hk (by rw [← hX]; exact hy)).1
    have sub : ∀ (d t m c : Nat) (S : Int32 × Int32 × Int32), t + d = len → F_X7_orders_57 (m + (d + 1) * fa len) (nI j) (encw wd) (nI c) 1 (st M O q (pre ++ X.getD t 0 :: rmv (X.getD t 0) X) S) = bd (F_X7_turns (st M O q (pre ++ X.reverse) (hl kd gp ab L ps n (pre ++ X.reverse)))) (fun r M' => F_X7_orders_57 m (nI j) (encw wd) (nI (c + ((X.drop t).map (fun x => spm (ind kd gp ab L ps n wd) len (pre ++ [x]) (k - 2 ^ x))).sum)) r M') := by
      intro d
      induction d with
      | zero =>
        intro t m c S ht
        obtain rfl : t = len := by omega
        obtain ⟨x, hx⟩ : ∃ x, x = X.getD t 0 := ⟨_, rfl⟩
        have hc3 := ck3_and (c3 t (by rw [hlen]; omega))
        rw [← hX, ← hx] at hc3
        have c5' := c5 (by omega)
        rw [hlen, Nat.add_sub_cancel, ← hX, ← hx] at c5'
        have hxm : x ∈ X := by rw [hx]; exact gd_m (by omega)
        have e1 := ih (k - 2 ^ x) (pre ++ [x]) m c S (by rw [hc3.2.2.2.1]; omega) (slt hk) (by rw [List.length_append]; show pre.length + 1 + t = q; omega) (fun y hy => by
          rw [List.mem_append, List.mem_singleton] at hy
          rcases hy with hy | hy
          · exact hpre y hy
          · rw [hy]; exact hXn x hxm)
        rw [hc3.2.2.2.1, List.append_assoc, List.append_assoc, show [x] ++ rmv x X = x :: rmv x X from rfl, show [x] ++ (rmv x X).reverse = x :: (rmv x X).reverse from rfl, c5'] at e1
        rw [← hx, Nat.zero_add, Nat.one_mul, e1, List.drop_eq_getElem_cons (by omega), List.drop_eq_nil_of_le (by omega), List.map_cons, List.map_nil, List.sum_cons, List.sum_nil, Nat.add_zero, show X[t] = x by rw [hx, gd, List.getElem?_eq_getElem (by omega)]; rfl]
      | succ d ihd =>
        intro t m c S ht
        obtain ⟨x, hx⟩ : ∃ x, x = X.getD t 0 := ⟨_, rfl⟩
        have hc3 := ck3_and (c3 t (by rw [hlen]; omega))
        have hc6 := ck6_and (c6 t (by rw [hlen]; omega))
        rw [← hX, ← hx] at hc3 hc6
        obtain ⟨g1, g2, g3, g4, g5, g6⟩ := hc6
        have hxm : x ∈ X := by rw [hx]; exact gd_m (by omega)
        have e1 := ih (k - 2 ^ x) (pre ++ [x]) (m + (d + 1) * fa len) c S (by rw [hc3.2.2.2.1]; omega) (slt hk) (by rw [List.length_append]; show pre.length + 1 + len = q; omega) (fun y hy => by
          rw [List.mem_append, List.mem_singleton] at hy
          rcases hy with hy | hy
          · exact hpre y hy
          · rw [hy]; exact hXn x hxm)
        rw [hc3.2.2.2.1, List.append_assoc, List.append_assoc, show [x] ++ rmv x X = x :: rmv x X from rfl, show [x] ++ (rmv x X).reverse = x :: (rmv x X).reverse from rfl] at e1
        have hDl : (rmv x X).reverse.length = len := by rw [List.length_reverse]; omega
        rw [turn_y M O hq _ (by rw [hDl]; omega) (fun y hy => by
          rw [List.mem_append, List.mem_cons, List.mem_reverse] at hy
          rcases hy with hy | hy | hy
          · have := hpre y hy; omega
          · rw [hy]; have := hXn x hxm; omega
          · unfold rmv at hy; rw [List.mem_filter] at hy; have := hXn y hy.1; omega) g1 g2 g3 g4 g5, bdS, g6, ihd (t + 1) m _ _ (by omega)] at e1
        rw [← hx, show m + (d + 1 + 1) * fa len = m + (d + 1) * fa len + fa len by rw [Nat.succ_mul (d + 1)]; omega, e1, List.drop_eq_getElem_cons (show t < X.length by omega), List.map_cons, List.sum_cons, show X[t] = x by rw [hx, gd, List.getElem?_eq_getElem (by omega)]; rfl, Nat.add_assoc]
    have := sub len 0 m c S (by omega)
    rw [hX, c4 (by omega), List.drop_zero] at this
    exact this
theorem spm_one (n : Nat) (kd gp ab L : Nat → Nat) (ps : Nat → Bool) : ∀ (len k : Nat) (pre : List Nat), (elsN k).length = len → k < 1024 → spm (ind kd gp ab L ps n none) len pre k = fa len := by
  intro len
  induction len with
  | zero => intro k pre _ _; rfl
  | succ len ih =>
    intro k pre hlen hk
    obtain ⟨-, -, c3, -⟩ := ck_and hk
    show ((elsN k).map (fun x => spm (ind kd gp ab L ps n none) len (pre ++ [x]) (k - 2 ^ x))).sum = (len + 1) * fa len
    have hall : ∀ x, x ∈ elsN k → spm (ind kd gp ab L ps n none) len (pre ++ [x]) (k - 2 ^ x) = fa len := by
      intro x hx
      obtain ⟨t, ht, e⟩ := List.mem_iff_getElem.mp hx
      have hc3 := ck3_and (c3 t ht)
      rw [gd, List.getElem?_eq_getElem ht, show (some (elsN k)[t]).getD 0 = (elsN k)[t] from rfl, e] at hc3
      exact ih _ _ (by rw [hc3.2.2.2.1]; omega) (slt hk)
    have hsum : ∀ Y : List Nat, (∀ x, x ∈ Y → spm (ind kd gp ab L ps n none) len (pre ++ [x]) (k - 2 ^ x) = fa len) → (Y.map (fun x => spm (ind kd gp ab L ps n none) len (pre ++ [x]) (k - 2 ^ x))).sum = Y.length * fa len := by
      intro Y
      induction Y with
      | nil => intro _; rw [List.map_nil, List.sum_nil, List.length_nil, Nat.zero_mul]
      | cons y Y ihY =>
        intro h
        rw [List.map_cons, List.sum_cons, ihY (fun x hx => h x (List.mem_cons_of_mem _ hx)), h y List.mem_cons_self, List.length_cons, Nat.succ_mul, Nat.add_comm]
    rw [hsum _ hall, hlen]
/-! the class: it goes into each order, and turns back where the word is gone -/
theorem gone {kd gp ab L : Nat → Nat} {ps : Nat → Bool} {n w : Nat} (hw : w < 32) : ∀ (len k : Nat) (pre : List Nat), (elsN k).length = len → k < 1024 → bt (hl kd gp ab L ps n pre).1 w = false → k.testBit w = false → spm (ind kd gp ab L ps n (some w)) len pre k = 0 := by
  intro len
  induction len with
  | zero =>
    intro k pre hlen hk h1 h2
    show (if bt (hl kd gp ab L ps n pre).1 w = true then 1 else 0) = 0
    rw [h1]
    rfl
  | succ len ih =>
    intro k pre hlen hk h1 h2
    obtain ⟨-, -, c3, -⟩ := ck_and hk
    show ((elsN k).map (fun x => spm (ind kd gp ab L ps n (some w)) len (pre ++ [x]) (k - 2 ^ x))).sum = 0
    have hall : ∀ x, x ∈ elsN k → spm (ind kd gp ab L ps n (some w)) len (pre ++ [x]) (k - 2 ^ x) = 0 := by
      intro x hx
      obtain ⟨t, ht, e⟩ := List.mem_iff_getElem.mp hx
      have hc3 := ck3_and (c3 t ht)
      rw [gd, List.getElem?_eq_getElem ht, show (some (elsN k)[t]).getD 0 = (elsN k)[t] from rfl, e] at hc3
      have hne : w ≠ x := fun e => by rw [e, hc3.2.1] at h2; cases h2
      refine ih _ _ (by rw [hc3.2.2.2.1]; omega) (slt hk) ?_ ?_
      · rw [hl_s]
        cases h : bt (hst kd gp ab L ps n x (hl kd gp ab L ps n pre)).1 w
        · rfl
        · rcases hst_up (show x < 32 by omega) hw h with h | h
          · rw [h1] at h; cases h
          · exact absurd h hne
      · cases h : (k - 2 ^ x).testBit w
        · rfl
        · by_cases hw10 : w < 10
          · have hm : w ∈ elsN (k - 2 ^ x) := by unfold elsN; rw [List.mem_filter, List.mem_range]; exact ⟨hw10, h⟩
            rw [hc3.2.2.2.1] at hm
            unfold rmv elsN at hm
            rw [List.mem_filter, List.mem_filter] at hm
            rw [h2] at hm
            exact absurd hm.1.2 (by decide)
          · rw [Nat.testBit_lt_two_pow (Nat.lt_of_lt_of_le (show k - 2 ^ x < 2 ^ 10 from slt hk) (Nat.pow_le_pow_right (by omega) (show 10 ≤ w by omega)))] at h
            cases h
    have hsum : ∀ Y : List Nat, (∀ x, x ∈ Y → spm (ind kd gp ab L ps n (some w)) len (pre ++ [x]) (k - 2 ^ x) = 0) → (Y.map (fun x => spm (ind kd gp ab L ps n (some w)) len (pre ++ [x]) (k - 2 ^ x))).sum = 0 := by
      intro Y
      induction Y with
      | nil => intro _; rw [List.map_nil, List.sum_nil]
      | cons y Y ihY =>
        intro h
        rw [List.map_cons, List.sum_cons, ihY (fun x hx => h x (List.mem_cons_of_mem _ hx)), h y List.mem_cons_self]
    exact hsum _ hall
/-- sums over the bits of a set -/
def psm (f : Nat → Nat) (k : Nat) : Nat → Nat
  | 0 => 0
  | i + 1 => psm f k i + (if k.testBit i = true then f i else 0)
theorem psm_l (f : Nat → Nat) (k : Nat) : ∀ m, psm f k m = (((List.range m).filter (fun i => k.testBit i)).map f).sum := by
  intro m
  induction m with
  | zero => rfl
  | succ m ih =>
    rw [List.range_succ, List.filter_append, List.map_append, List.sum_append, ← ih]
    show psm f k m + (if k.testBit m = true then f m else 0) = _
    cases h : k.testBit m
    · rw [List.filter_cons_of_neg (by rw [h]; decide), List.filter_nil, List.map_nil, List.sum_nil]
      rfl
    · rw [List.filter_cons_of_pos h, List.filter_nil, List.map_cons, List.map_nil, List.sum_cons, List.sum_nil]
      rfl
theorem psm_flat (f : Nat → Nat) {k n : Nat} (hk : k < 2 ^ n) : ∀ d, psm f k (n + d) = psm f k n := by
  intro d
  induction d with
  | zero => rfl
  | succ d ih =>
    show psm f k (n + d) + (if k.testBit (n + d) = true then f (n + d) else 0) = _
    rw [ih, Nat.testBit_lt_two_pow (Nat.lt_of_lt_of_le hk (Nat.pow_le_pow_right (by omega) (show n ≤ n + d by omega))), if_neg (by decide), Nat.add_zero]
theorem h3_h3 (M : Mem) (S T : Int32 × Int32 × Int32) : sv (sv (sv (h3 M S) 3 T.1) 4 T.2.1) 5 T.2.2 = h3 M T := by rw [h3_s3, h3_s4, h3_s5]
theorem clr_n {k x : Nat} (hk : k < 1024) (h : ck3 k (elsN k) x = true) : nI k &&& (one x ^^^ (-1)) = nI (k - 2 ^ x) := by
  obtain ⟨h1, h2, h3, h4, -⟩ := ck3_and h
  apply b_ext
  intro i hi
  rw [b_clr _ _ hi, b_one (by omega) hi, b_nI, b_nI, decide_eq_true hi, Bool.true_and, Bool.true_and]
  by_cases hi10 : i < 10
  · have e1 : i ∈ elsN (k - 2 ^ x) ↔ i ∈ rmv x (elsN k) := by rw [h4]
    unfold rmv elsN at e1
    simp only [List.mem_filter, List.mem_range, hi10, true_and] at e1
    by_cases e : i = x
    · subst e
      rw [decide_eq_true rfl, Bool.not_true, Bool.and_false]
      cases hx : (k - 2 ^ i).testBit i
      · rfl
      · have := (e1.mp hx).2
        simp at this
    · rw [decide_eq_false e, Bool.not_false, Bool.and_true]
      cases hx : (k - 2 ^ x).testBit i
      · cases hy : k.testBit i
        · rfl
        · rw [e1.mpr ⟨hy, by simpa using e⟩] at hx; cases hx
      · rw [(e1.mp hx).1]
  · rw [Nat.testBit_lt_two_pow (Nat.lt_of_lt_of_le (show k < 2 ^ 10 by omega) (Nat.pow_le_pow_right (by omega) (show 10 ≤ i by omega))), Nat.testBit_lt_two_pow (Nat.lt_of_lt_of_le (show k - 2 ^ x < 2 ^ 10 from slt hk) (Nat.pow_le_pow_right (by omega) (show 10 ≤ i by omega)))]
    rfl
theorem els_ck {k x : Nat} (hk : k < 1024) (hx : x < 10) (hb : k.testBit x = true) : ck3 k (elsN k) x = true := by
  obtain ⟨-, -, c3, -⟩ := ck_and hk
  have hm : x ∈ elsN k := by unfold elsN; rw [List.mem_filter, List.mem_range]; exact ⟨hx, hb⟩
  obtain ⟨t, ht, e⟩ := List.mem_iff_getElem.mp hm
  have := c3 t ht
  rw [gd, List.getElem?_eq_getElem ht, show (some (elsN k)[t]).getD 0 = (elsN k)[t] from rfl, e] at this
  exact this
theorem Cord {M : Mem} {n j : Nat} {kd gp ab L : Nat → Nat} {ps : Nat → Bool} (hC : CX M n kd gp ab ps) (hL : LX M j L) (hB : LB L) {w : Nat} (hw : w < n) : ∀ (len k : Nat) (pre : List Nat) (depth D : Nat), (elsN k).length = len → k < 2 ^ n → depth + len ≤ 7 → len < D → (bt (hl kd gp ab L ps n pre).1 w || k.testBit w) = true → F_X1_ordersWith D j (nI k) (nI w) (nI depth) (h3 M (hl kd gp ab L ps n pre)) = some (nI (spm (ind kd gp ab L ps n (some w)) len pre k), h3 M (hl kd gp ab L ps n pre)) := by
  have hn := hC.1
  have hp := pow_le10 hn
  intro len
  induction len with
  | zero =>
    intro k pre depth D hlen hk hd hD hb
    obtain ⟨D, rfl⟩ : ∃ q, D = q + 1 := ⟨D - 1, by omega⟩
    have e : elsN k = [] := List.eq_nil_of_length_eq_zero hlen
    have hk0 : ∀ i, i < 32 → bt (nI k) i = false := by
      intro i hi
      rw [b_nI, decide_eq_true hi, Bool.true_and]
      cases h : k.testBit i
      · rfl
      · by_cases hi10 : i < 10
        · have hm : i ∈ elsN k := by unfold elsN; rw [List.mem_filter, List.mem_range]; exact ⟨hi10, h⟩
          rw [e] at hm
          cases hm
        · rw [Nat.testBit_lt_two_pow (Nat.lt_of_lt_of_le (show k < 2 ^ 10 by omega) (Nat.pow_le_pow_right (by omega) (show 10 ≤ i by omega)))] at h
          cases h
    show F_X1_ordersWith_0 (F_X1_ordersWith D) j (nI k) (nI w) (nI depth) (h3 M (hl kd gp ab L ps n pre)) = _
    unfold F_X1_ordersWith_0
    have hkw := hk0 w (by omega)
    rw [b_nI, decide_eq_true (show w < 32 by omega), Bool.true_and] at hkw
    rw [hkw, Bool.or_false] at hb
    rw [if_pos ((b_zero _).mpr hk0)]
    show _ = some (nI (if bt (hl kd gp ab L ps n pre).1 w = true then 1 else 0), _)
    rw [if_pos hb]
    rfl
  | succ len ih =>
    intro k pre depth D hlen hk hd hD hb
    obtain ⟨D, rfl⟩ : ∃ q, D = q + 1 := ⟨D - 1, by omega⟩
    obtain ⟨T, hT⟩ : ∃ T : Nat → Nat, T = fun x => spm (ind kd gp ab L ps n (some w)) len (pre ++ [x]) (k - 2 ^ x) := ⟨_, rfl⟩
    have hsum : spm (ind kd gp ab L ps n (some w)) (len + 1) pre k = psm T k n := by
      show ((elsN k).map (fun x => spm (ind kd gp ab L ps n (some w)) len (pre ++ [x]) (k - 2 ^ x))).sum = _
      rw [← hT]
      unfold elsN
      rw [← psm_l T k 10]
      have := psm_flat T hk (10 - n)
      rw [show n + (10 - n) = 10 by omega] at this
      exact this
    show F_X1_ordersWith_0 (F_X1_ordersWith D) j (nI k) (nI w) (nI depth) (h3 M (hl kd gp ab L ps n pre)) = _
    unfold F_X1_ordersWith_0
    have hk0 : ¬ nI k = 0 := by
      rw [nlit 0, neq (by omega) (by omega)]
      intro e
      subst e
      rw [show elsN 0 = [] from rfl] at hlen
      cases hlen
    rw [if_neg hk0, if_pos (by rw [nlit 7, nlt (by omega) (by omega)]; omega), h3_3, h3_4, h3_5, hsum]
    have key : ∀ (d i m : Nat), i + d = n → d < m → F_X1_ordersWith_39 (F_X1_ordersWith D) j m (nI k) (nI w) (nI depth) (hl kd gp ab L ps n pre).1 (hl kd gp ab L ps n pre).2.1 (hl kd gp ab L ps n pre).2.2 (nI (psm T k i)) (nI i) (h3 M (hl kd gp ab L ps n pre)) = some (nI (psm T k n), h3 M (hl kd gp ab L ps n pre)) := by
      intro d
      induction d with
      | zero =>
        intro i m hi hm
        obtain ⟨m, rfl⟩ : ∃ q, m = q + 1 := ⟨m - 1, by omega⟩
        obtain rfl : i = n := by omega
        unfold F_X1_ordersWith_39
        rw [h3_0, hC.2.1, if_pos (by rw [nle (by omega) (by omega)]; omega)]
      | succ d ihd =>
        intro i m hi hm
        obtain ⟨m, rfl⟩ : ∃ q, m = q + 1 := ⟨m - 1, by omega⟩
        have ihd := ihd (i + 1) m (by omega) (by omega)
        rw [show psm T k (i + 1) = psm T k i + (if k.testBit i = true then T i else 0) from rfl] at ihd
        unfold F_X1_ordersWith_39 F_X1_ordersWith_108 F_X1_ordersWith_126
        rw [h3_0, hC.2.1, if_neg (by rw [nle (by omega) (by omega)]; omega)]
        simp only [b_tst0 _ (show i < 32 by omega), b_tst0 _ (show w < 32 by omega), nI_s]
        rw [b_nI, decide_eq_true (show i < 32 by omega), Bool.true_and]
        cases hbi : k.testBit i
        · rw [if_pos rfl]
          rw [hbi, if_neg (by decide), Nat.add_zero] at ihd
          exact ihd
        rw [if_neg (by decide), hear_ok hC hL hB (show i < n by omega), bdvS, show (1 : Int32) <<< (nI i &&& 31) = one i from rfl]
        rw [hbi, if_pos rfl] at ihd
        have hck := els_ck (show k < 1024 by omega) (show i < 10 by omega) hbi
        have hc3 := ck3_and hck
        rw [clr_n (by omega) hck, ← hl_s, h3_3, b_or, b_nI, decide_eq_true (show w < 32 by omega), Bool.true_and, h3_h3]
        cases hg : (bt (hl kd gp ab L ps n (pre ++ [i])).1 w || (k - 2 ^ i).testBit w)
        · rw [if_pos rfl]
          rw [Bool.or_eq_false_iff] at hg
          have h0 : T i = 0 := by rw [hT]; exact gone (by omega) len _ _ (by rw [hc3.2.2.2.1]; omega) (slt (by omega)) hg.1 hg.2
          rw [h0, Nat.add_zero] at ihd
          exact ihd
        · rw [if_neg (by decide), ih (k - 2 ^ i) (pre ++ [i]) (depth + 1) D (by rw [hc3.2.2.2.1]; omega) (slt hk) (by omega) (by omega) hg, bdS, nI_add, h3_h3]
          rw [hT] at ihd ⊢
          exact ihd
    exact key n 0 fu (by omega) (by unfold fu; omega)
