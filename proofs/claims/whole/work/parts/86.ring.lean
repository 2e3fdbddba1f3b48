/-! rings -/
def Wp (K : Nat → Nat → Bool) : Nat → Nat → Nat → Bool
  | 0 => fun a b => K a b
  | k + 1 => fun a b => Wp K k a b || (Wp K k a k && Wp K k k b)
theorem Wp_s (K : Nat → Nat → Bool) (k a b : Nat) : Wp K (k + 1) a b = (Wp K k a b || (Wp K k a k && Wp K k k b)) := rfl
theorem Wp_up (K : Nat → Nat → Bool) {a b k : Nat} (h : Wp K k a b = true) : ∀ d, Wp K (k + d) a b = true := by
  intro d
  induction d with
  | zero => exact h
  | succ d ih =>
    show (Wp K (k + d) a b || (Wp K (k + d) a (k + d) && Wp K (k + d) (k + d) b)) = true
    rw [ih]
    rfl
theorem Wp_tr (K : Nat → Nat → Bool) : ∀ k m a b, m < k → Wp K k a m = true → Wp K k m b = true → Wp K k a b = true := by
  intro k
  induction k with
  | zero => intro m a b hm; exact absurd hm (by omega)
  | succ k ih =>
    intro m a b hm h1 h2
    rw [Wp_s, Bool.or_eq_true, Bool.and_eq_true] at h1 h2 ⊢
    by_cases e : m = k
    · subst e
      have h1' : Wp K m a m = true := by rcases h1 with h | h; exact h; exact h.1
      have h2' : Wp K m m b = true := by rcases h2 with h | h; exact h; exact h.2
      exact Or.inr ⟨h1', h2'⟩
    · have hm2 : m < k := by omega
      rcases h1 with h1 | ⟨h1, h1'⟩
      · rcases h2 with h2 | ⟨h2, h2'⟩
        · exact Or.inl (ih m a b hm2 h1 h2)
        · exact Or.inr ⟨ih m a k hm2 h1 h2, h2'⟩
      · rcases h2 with h2 | ⟨h2, h2'⟩
        · exact Or.inr ⟨h1, ih m k b hm2 h1' h2⟩
        · exact Or.inr ⟨h1, h2'⟩
def rgs (P : Nat → Bool) : Nat → Int32
  | 0 => 0
  | k + 1 => rgs P k ||| (if P k = true then one k else 0)
theorem and_1 (x : Int32) {w : Nat} (hw : w < 32) : x &&& one w = if bt x w = true then one w else 0 := by
  apply b_ext
  intro i hi
  rw [b_and, b_one hw hi]
  by_cases e : i = w
  · subst e
    cases h : bt x i
    · rw [if_neg (by decide), b_0]; rfl
    · rw [if_pos rfl, b_one hw hi, decide_eq_true rfl]; rfl
  · rw [decide_eq_false e, Bool.and_false]
    split
    · rw [b_one hw hi, decide_eq_false e]
    · rw [b_0]
theorem rgs_c {P Q : Nat → Bool} : ∀ n, (∀ i, i < n → P i = Q i) → rgs P n = rgs Q n := by
  intro n
  induction n with
  | zero => intro _; rfl
  | succ n ih =>
    intro h
    unfold rgs
    rw [ih (fun i hi => h i (by omega)), h n (by omega)]
/-! the class -/
theorem or85 {M : Mem} {n : Nat} (hn : n ≤ 10) (h0 : M.1 0 = nI n) : F_X0_onRings_85 fu 0 0 M = some (rgs (fun w => bt (M.2 16 w) w) n, M) := by
  have key : ∀ (d i m : Nat), i + d = n → d < m → F_X0_onRings_85 m (rgs (fun w => bt (M.2 16 w) w) i) (nI i) M = some (rgs (fun w => bt (M.2 16 w) w) n, M) := by
    intro d
    induction d with
    | zero =>
      intro i m hi hm
      obtain ⟨m, rfl⟩ : ∃ q, m = q + 1 := ⟨m - 1, by omega⟩
      obtain rfl : i = n := by omega
      unfold F_X0_onRings_85
      rw [h0, if_pos (by rw [nle (by omega) (by omega)]; omega)]
    | succ d ih =>
      intro i m hi hm
      obtain ⟨m, rfl⟩ : ∃ q, m = q + 1 := ⟨m - 1, by omega⟩
      have ih := ih (i + 1) m (by omega) (by omega)
      unfold F_X0_onRings_85
      rw [h0, if_neg (by rw [nle (by omega) (by omega)]; omega), ckN (by omega) (by omega), ncl (by omega), nI_s, show (1 : Int32) <<< (nI i &&& 31) = one i from rfl, and_1 _ (by omega)]
      exact ih
  exact key n 0 fu (by omega) (by unfold fu; omega)
theorem or30 {M : Mem} {n k : Nat} {K : Nat → Nat → Bool} (hn : n ≤ 10) (h0 : M.1 0 = nI n) (hk : k < n) (k17 : Int32 → Mem → Option (Int32 × Mem)) : ∀ (d i m : Nat) (f : Nat → Int32), i + d = n → d < m → (∀ a, a < n → ∀ j, j < 32 → bt (f a) j = if a < i then Wp K (k + 1) a j else Wp K k a j) → ∃ f', F_X0_onRings_30 k17 m (nI k) (nI i) (sr M 16 f) = k17 (nI (k + 1)) (sr M 16 f') ∧ ∀ a, a < n → ∀ j, j < 32 → bt (f' a) j = Wp K (k + 1) a j := by
  intro d
  induction d with
  | zero =>
    intro i m f hi hm hf
    obtain ⟨m, rfl⟩ : ∃ q, m = q + 1 := ⟨m - 1, by omega⟩
    obtain rfl : i = n := by omega
    refine ⟨f, ?_, fun a ha j hj => by rw [hf a ha j hj, if_pos ha]⟩
    unfold F_X0_onRings_30
    rw [show (sr M 16 f).1 0 = M.1 0 from rfl, h0, if_pos (by rw [nle (by omega) (by omega)]; omega), nI_s]
  | succ d ih =>
    intro i m f hi hm hf
    obtain ⟨m, rfl⟩ : ∃ q, m = q + 1 := ⟨m - 1, by omega⟩
    have ih := fun f => ih (i + 1) m f (by omega) (by omega)
    have hin : i < n := by omega
    have hfk : ∀ j, j < 32 → bt (f k) j = Wp K k k j := by
      intro j hj
      rw [hf k hk j hj]
      split
      · rw [Wp_s]
        cases Wp K k k j <;> cases Wp K k k k <;> rfl
      · rfl
    have hfi : ∀ j, j < 32 → bt (f i) j = Wp K k i j := fun j hj => by rw [hf i hin j hj, if_neg (by omega)]
    unfold F_X0_onRings_30 F_X0_onRings_69
    rw [show (sr M 16 f).1 0 = M.1 0 from rfl, h0, if_neg (by rw [nle (by omega) (by omega)]; omega), ckN (by omega) (by omega), ncl (show i < 2147483648 by omega), show (sr M 16 f).2 16 = f from rfl, nI_s]
    simp only [b_tst0 _ (show k < 32 by omega)]
    rw [hfi k (by omega)]
    cases h1 : Wp K k i k
    · rw [if_pos rfl]
      refine ih f (fun a ha j hj => ?_)
      by_cases e : a = i
      · subst e
        rw [hfi j hj, if_pos (by omega), Wp_s, h1, Bool.false_and, Bool.or_false]
      · rw [hf a ha j hj]
        by_cases h2 : a < i
        · rw [if_pos h2, if_pos (by omega)]
        · rw [if_neg h2, if_neg (by omega)]
    · rw [if_neg (by decide), ckN (show i < 10 by omega) (by omega), ckN (show k < 10 by omega) (by omega), ckN (show i < 10 by omega) (by omega), ncl (show k < 2147483648 by omega), sa_sr, sr_sr, show (sr M 16 f).2 16 = f from rfl]
      refine ih _ (fun a ha j hj => ?_)
      by_cases e : a = i
      · subst e
        rw [upd_s, b_or, hfi j hj, hfk j hj, if_pos (by omega), Wp_s, h1, Bool.true_and]
      · rw [upd_n e, hf a ha j hj]
        by_cases h2 : a < i
        · rw [if_pos h2, if_pos (by omega)]
        · rw [if_neg h2, if_neg (by omega)]
theorem onR_ok {M : Mem} {n : Nat} {A : Nat → Bool} {K : Nat → Nat → Bool} (h : Tc M n A K) : ∃ f, F_X0_onRings M = some (rgs (fun w => Wp K n w w) n, sr M 16 f) := by
  have hn := h.1
  have key : ∀ (d k m : Nat) (f : Nat → Int32), k + d = n → d < m → (∀ a, a < n → ∀ j, j < 32 → bt (f a) j = Wp K k a j) → ∃ f', F_X0_onRings_17 m (nI k) (sr M 16 f) = some (rgs (fun w => Wp K n w w) n, sr M 16 f') := by
    intro d
    induction d with
    | zero =>
      intro k m f hk hm hf
      obtain ⟨m, rfl⟩ : ∃ q, m = q + 1 := ⟨m - 1, by omega⟩
      obtain rfl : k = n := by omega
      refine ⟨f, ?_⟩
      unfold F_X0_onRings_17
      rw [show (sr M 16 f).1 0 = M.1 0 from rfl, h.2.1, if_pos (by rw [nle (by omega) (by omega)]; omega), or85 hn (show (sr M 16 f).1 0 = nI k from h.2.1)]
      rw [rgs_c k (fun i hi => by show bt (f i) i = _; exact hf i hi i (by omega))]
    | succ d ih =>
      intro k m f hk hm hf
      obtain ⟨m, rfl⟩ : ∃ q, m = q + 1 := ⟨m - 1, by omega⟩
      unfold F_X0_onRings_17
      rw [show (sr M 16 f).1 0 = M.1 0 from rfl, h.2.1, if_neg (by rw [nle (by omega) (by omega)]; omega)]
      obtain ⟨f', e, hf'⟩ := or30 (K := K) hn h.2.1 (show k < n by omega) (F_X0_onRings_17 m) n 0 fu f (by omega) (by unfold fu; omega) (fun a ha j hj => by rw [hf a ha j hj, if_neg (by omega)])
      rw [show (0 : Int32) = nI 0 from rfl, e]
      exact ih (k + 1) m f' (by omega) (by omega) hf'
  unfold F_X0_onRings
  rw [ckT (by decide)]
  exact key n 0 fu _ (by omega) (by unfold fu; omega) (fun a ha j hj => by
    show bt (va_cpy (M.2 14) (M.2 16) 0 0 10 a) j = K a j
    unfold va_cpy
    rw [if_pos (by omega), show 0 + (a - 0) = a by omega]
    exact (h.2.2.2 a (by omega) j hj).1)
/-! the model -/
def pas (g : Nat → Int32) (x : Int32) : Nat → Int32
  | 0 => x
  | o + 1 => if bt (pas g x o) o = true then pas g x o ||| g o else pas g x o
def rch (g : Nat → Int32) (n : Nat) (x : Int32) : Nat → Int32
  | 0 => x
  | k + 1 => pas g (rch g n x k) n
theorem pas_up {g : Nat → Int32} {x : Int32} {i : Nat} : ∀ {o : Nat}, bt x i = true → bt (pas g x o) i = true := by
  intro o
  induction o with
  | zero => exact id
  | succ o ih =>
    intro h
    have := ih h
    unfold pas
    split
    · rw [b_or, this]; rfl
    · exact this
theorem pas_mono {g : Nat → Int32} {x : Int32} {i k : Nat} (h : bt (pas g x k) i = true) : ∀ d, bt (pas g x (k + d)) i = true := by
  intro d
  induction d with
  | zero => exact h
  | succ d ih =>
    show bt (if bt (pas g x (k + d)) (k + d) = true then pas g x (k + d) ||| g (k + d) else pas g x (k + d)) i = true
    split
    · rw [b_or, ih]; rfl
    · exact ih
theorem ring_eq {n : Nat} (hn : n ≤ 10) {A : Nat → Bool} {K : Nat → Nat → Bool} (hK : KP n A K) {g : Nat → Int32} (hg : ∀ w, w < n → ∀ k, k < 32 → bt (g w) k = K k w) {w : Nat} (hw : w < n) : bt (rch g n (g w) n) w = Wp K n w w := by
  have up0 : ∀ a b, K a b = true → Wp K n a b = true := fun a b h => by
    have := Wp_up K (k := 0) (a := a) (b := b) h n
    rw [Nat.zero_add] at this
    exact this
  have hin : ∀ x, (∀ i, i < 32 → bt x i = true → Wp K n i w = true) → ∀ o, o ≤ n → ∀ i, i < 32 → bt (pas g x o) i = true → Wp K n i w = true := by
    intro x hx o
    induction o with
    | zero => intro _; exact hx
    | succ o ih =>
      intro ho i hi h
      have ih := ih (by omega)
      rw [show pas g x (o + 1) = if bt (pas g x o) o = true then pas g x o ||| g o else pas g x o from rfl] at h
      split at h
      · next h2 =>
        rw [b_or, Bool.or_eq_true] at h
        rcases h with h | h
        · exact ih i hi h
        · rw [hg o (by omega) i hi] at h
          exact Wp_tr K n o i w (by omega) (up0 i o h) (ih o (by omega) h2)
      · exact ih i hi h
  have hall : ∀ k i, i < 32 → bt (rch g n (g w) k) i = true → Wp K n i w = true := by
    intro k
    induction k with
    | zero => intro i hi h; rw [show rch g n (g w) 0 = g w from rfl, hg w hw i hi] at h; exact up0 i w h
    | succ k ih => exact hin _ ih n (by omega)
  have hbn : ∀ x, (∀ i, i < 32 → bt x i = true → i < n) → ∀ o, o ≤ n → ∀ i, i < 32 → bt (pas g x o) i = true → i < n := by
    intro x hx o
    induction o with
    | zero => intro _; exact hx
    | succ o ih =>
      intro ho i hi h
      have ih := ih (by omega)
      rw [show pas g x (o + 1) = if bt (pas g x o) o = true then pas g x o ||| g o else pas g x o from rfl] at h
      split at h
      · rw [b_or, Bool.or_eq_true] at h
        rcases h with h | h
        · exact ih i hi h
        · rw [hg o (by omega) i hi] at h
          exact (hK i o h).1
      · exact ih i hi h
  have hrn : ∀ k i, i < 32 → bt (rch g n (g w) k) i = true → i < n := by
    intro k
    induction k with
    | zero => intro i hi h; rw [show rch g n (g w) 0 = g w from rfl, hg w hw i hi] at h; exact (hK i w h).1
    | succ k ih => exact hbn _ ih n (by omega)
  have hend : rch g n (g w) (n + 1) = rch g n (g w) n := grow_end (F := fun x => pas g x n) (fun _ => rfl) (fun k i hi h => pas_up h) hrn (by omega)
  have hcl : ∀ o, o < n → bt (rch g n (g w) n) o = true → ∀ v, v < 32 → K v o = true → bt (rch g n (g w) n) v = true := by
    intro o ho h v hv hk
    rw [← hend]
    show bt (pas g (rch g n (g w) n) n) v = true
    have h1 : bt (pas g (rch g n (g w) n) (o + 1)) v = true := by
      show bt (if bt (pas g (rch g n (g w) n) o) o = true then pas g (rch g n (g w) n) o ||| g o else pas g (rch g n (g w) n) o) v = true
      rw [if_pos (pas_up h), b_or, hg o ho v hv, hk, Bool.or_true]
    have := pas_mono h1 (n - (o + 1))
    rw [show o + 1 + (n - (o + 1)) = n by omega] at this
    exact this
  have hst : ∀ k i, bt (g w) i = true → bt (rch g n (g w) k) i = true := by
    intro k
    induction k with
    | zero => intro i h; exact h
    | succ k ih => intro i h; exact pas_up (ih i h)
  have hback : ∀ k, k ≤ n → ∀ a b, a < 32 → Wp K k a b = true → (b < n → bt (rch g n (g w) n) b = true → bt (rch g n (g w) n) a = true) ∧ (b = w → bt (rch g n (g w) n) a = true) := by
    intro k
    induction k with
    | zero =>
      intro _ a b ha h
      refine ⟨fun hb h2 => hcl b hb h2 a ha h, fun e => ?_⟩
      subst e
      exact hst n a (by rw [hg b hw a ha]; exact h)
    | succ k ih =>
      intro hk a b ha h
      have ih := ih (by omega)
      rw [Wp_s, Bool.or_eq_true, Bool.and_eq_true] at h
      rcases h with h | ⟨h1, h2⟩
      · exact ih a b ha h
      · refine ⟨fun hb h3 => ?_, fun e => ?_⟩
        · exact (ih a k ha h1).1 (by omega) ((ih k b (by omega) h2).1 hb h3)
        · exact (ih a k ha h1).1 (by omega) ((ih k b (by omega) h2).2 e)
  cases h1 : Wp K n w w
  · cases h2 : bt (rch g n (g w) n) w
    · rfl
    · rw [hall n w (by omega) h2] at h1
      cases h1
  · exact (hback n (by omega) w w (by omega) h1).2 rfl
theorem rn43 {M : Mem} {n : Nat} (hn : n ≤ 10) (h40 : M.1 40 = nI n) (k13 : Int32 → Int32 → Mem → Option (Int32 × Mem)) (k31 : Int32 → Int32 → Int32 → Int32 → Mem → Option (Int32 × Mem)) (x1 x2 x4 x : Int32) : ∀ (d i m : Nat), i + d = n → d < m → F_X7_ringNow_43 k13 k31 m x1 x2 (pas (M.2 34) x i) x4 (nI i) M = k31 x1 x2 (pas (M.2 34) x n) (x4 + 1) M := by
  intro d
  induction d with
  | zero =>
    intro i m hi hm
    obtain ⟨m, rfl⟩ : ∃ q, m = q + 1 := ⟨m - 1, by omega⟩
    obtain rfl : i = n := by omega
    unfold F_X7_ringNow_43
    rw [h40, if_pos (by rw [nle (by omega) (by omega)]; omega)]
  | succ d ih =>
    intro i m hi hm
    obtain ⟨m, rfl⟩ : ∃ q, m = q + 1 := ⟨m - 1, by omega⟩
    have ih := ih (i + 1) m (by omega) (by omega)
    rw [show pas (M.2 34) x (i + 1) = if bt (pas (M.2 34) x i) i = true then pas (M.2 34) x i ||| M.2 34 i else pas (M.2 34) x i from rfl] at ih
    unfold F_X7_ringNow_43 F_X7_ringNow_73
    rw [h40, if_neg (by rw [nle (by omega) (by omega)]; omega), has7 _ (by omega), bdS, or0, nI_s, ckN (by omega) (by omega), ncl (by omega)]
    simp only [ib]
    cases h : bt (pas (M.2 34) x i) i
    · rw [if_pos rfl]
      rw [h, if_neg (by decide)] at ih
      exact ih
    · rw [if_neg (by decide)]
      rw [h, if_pos rfl] at ih
      exact ih
theorem rn31 {M : Mem} {n : Nat} (hn : n ≤ 10) (h40 : M.1 40 = nI n) (k13 : Int32 → Int32 → Mem → Option (Int32 × Mem)) (x1 : Int32) {w : Nat} (hw : w < n) (x : Int32) : ∀ (d i m : Nat), i + d = n → d < m → F_X7_ringNow_31 k13 m x1 (nI w) (rch (M.2 34) n x i) (nI i) M = k13 (x1 ||| (if bt (rch (M.2 34) n x n) w = true then one w else 0)) (nI (w + 1)) M := by
  intro d
  induction d with
  | zero =>
    intro i m hi hm
    obtain ⟨m, rfl⟩ : ∃ q, m = q + 1 := ⟨m - 1, by omega⟩
    obtain rfl : i = n := by omega
    unfold F_X7_ringNow_31
    rw [h40, if_pos (by rw [nle (by omega) (by omega)]; omega), nI_s, show (1 : Int32) <<< (nI w &&& 31) = one w from rfl, and_1 _ (by omega)]
  | succ d ih =>
    intro i m hi hm
    obtain ⟨m, rfl⟩ : ∃ q, m = q + 1 := ⟨m - 1, by omega⟩
    have ih := ih (i + 1) m (by omega) (by omega)
    unfold F_X7_ringNow_31
    rw [h40, if_neg (by rw [nle (by omega) (by omega)]; omega)]
    refine Eq.trans (rn43 hn h40 k13 (F_X7_ringNow_31 k13 m) x1 (nI w) (nI i) (rch (M.2 34) n x i) n 0 fu (by omega) (by unfold fu; omega)) ?_
    rw [nI_s]
    exact ih
theorem ringN_ok {M : Mem} {n : Nat} {A : Nat → Bool} {K : Nat → Nat → Bool} (h : Tm M n A K) (hK : KP n A K) : F_X7_ringNow_13 fu 0 0 M = some (rgs (fun w => Wp K n w w) n, M) := by
  have hn := h.1
  have key : ∀ (d i m : Nat), i + d = n → d < m → F_X7_ringNow_13 m (rgs (fun w => Wp K n w w) i) (nI i) M = some (rgs (fun w => Wp K n w w) n, M) := by
    intro d
    induction d with
    | zero =>
      intro i m hi hm
      obtain ⟨m, rfl⟩ : ∃ q, m = q + 1 := ⟨m - 1, by omega⟩
      obtain rfl : i = n := by omega
      unfold F_X7_ringNow_13
      rw [h.2.1, if_pos (by rw [nle (by omega) (by omega)]; omega)]
    | succ d ih =>
      intro i m hi hm
      obtain ⟨m, rfl⟩ : ∃ q, m = q + 1 := ⟨m - 1, by omega⟩
      have ih := ih (i + 1) m (by omega) (by omega)
      unfold F_X7_ringNow_13
      rw [h.2.1, if_neg (by rw [nle (by omega) (by omega)]; omega), ckN (by omega) (by omega), ncl (by omega)]
      refine Eq.trans (rn31 hn h.2.1 (F_X7_ringNow_13 m) _ (show i < n by omega) (M.2 34 i) n 0 fu (by omega) (by unfold fu; omega)) ?_
      rw [ring_eq hn hK h.2.2.2 (show i < n by omega)]
      exact ih
  exact key n 0 fu (by omega) (by unfold fu; omega)
def rgv (kd gp ab L : Nat → Nat) (ps : Nat → Bool) (n : Nat) (set : Int32) : Int32 := rgs (fun w => Wp (sk kd gp ab L ps n set) n w w) n
theorem ring6_ok {M : Mem} {n : Nat} {kd gp ab : Nat → Nat} {ps : Nat → Bool} {kp : Int32} {L : Nat → Nat → Nat} (hC : Cx M n kd gp ab ps kp L) : ∃ M2, F_X6_ring M = some (rgv kd gp ab (L 0) ps n (hon n kp), M2) ∧ FS M M2 := by
  obtain ⟨M2, e4, f4, hT⟩ := takeUp_ok2 (j := 0) hC (by omega) (hon n kp)
  obtain ⟨f, e5⟩ := onR_ok hT
  refine ⟨_, ?_, FS_t f4 (FS_sr f (a := 16) (by omega))⟩
  unfold F_X6_ring
  rw [hon5 hC, bdS, e4, bdvS, e5, bdS]
  rfl
theorem ring7_ok {M : Mem} {n : Nat} {kd gp ab : Nat → Nat} {ps : Nat → Bool} {kp : Int32} {L : Nat → Nat → Nat} (hC : Cx M n kd gp ab ps kp L) : ∃ M2, F_X7_ringNow M = some (rgv kd gp ab (L 0) ps n (hon n kp), M2) ∧ FS M M2 := by
  obtain ⟨M2, e4, f4, hT⟩ := meets_ok2 (j := 0) hC (by omega) (hon n kp)
  refine ⟨M2, ?_, f4⟩
  unfold F_X7_ringNow
  rw [hon7 hC, bdS]
  refine Eq.trans (congrArg (fun X => bdv X (fun M6 => F_X7_ringNow_13 fu 0 0 M6)) e4) ?_
  show F_X7_ringNow_13 fu 0 0 M2 = _
  rw [ringN_ok hT KP_sk]
  rfl
theorem ans19 (M : Mem) (hI : Inv M) : Ans M F_X6_ring F_X7_ring := by
  obtain ⟨n, kd, gp, ab, ps, kp, L, hC⟩ := Cx_of hI.1 hI.2.1
  refine ⟨_, fun M1 f => ring6_ok (Cx_FS hC f), fun M1 f => ?_⟩
  obtain ⟨M2, e2, f2⟩ := ring7_ok (Cx_FS hC f)
  refine ⟨M2, ?_, f2⟩
  unfold F_X7_ring
  rw [e2, bdS]
