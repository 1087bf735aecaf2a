/-! FAR, AS WORDS: the least days by open ways, what is next on the way home -/
/-- one step of the shortening: over k -/
def gShort (k : Nat) (F : Nat → Nat → Int32) : Nat → Nat → Int32 := fun a b => if F a k + F k b < F a b then F a k + F k b else F a b
/-- entries are 0 .. 1000, 0 on the diagonal -/
def gOk (F : Nat → Nat → Int32) : Prop := (∀ a b, 0 ≤ (F a b).toInt ∧ (F a b).toInt ≤ 1000) ∧ ∀ a, F a a = 0
theorem z_toInt : (0 : Int32).toInt = 0 := rfl
theorem k_toInt : (1000 : Int32).toInt = 1000 := rfl
theorem gOk.add {F : Nat → Nat → Int32} (h : gOk F) (a b c d : Nat) : (F a b + F c d).toInt = (F a b).toInt + (F c d).toInt := by
  have h1 := h.1 a b
  have h2 := h.1 c d
  exact ti_add (by omega) (by omega)
/-- the shortened entry, as an integer -/
theorem gShort_int {F : Nat → Nat → Int32} (h : gOk F) (k a b : Nat) : (gShort k F a b).toInt = min (F a b).toInt ((F a k).toInt + (F k b).toInt) := by
  unfold gShort
  by_cases hc : F a k + F k b < F a b
  · rw [if_pos hc, h.add]
    rw [ti_lt, h.add] at hc
    omega
  · rw [if_neg hc]
    rw [ti_lt, h.add] at hc
    omega
theorem gShort_ok {F : Nat → Nat → Int32} (h : gOk F) (k : Nat) : gOk (gShort k F) := by
  refine ⟨fun a b => ?_, fun a => ?_⟩
  · rw [gShort_int h]
    have h1 := h.1 a b
    have h2 := h.1 a k
    have h3 := h.1 k b
    omega
  · rw [ti_eq, gShort_int h, h.2 a, z_toInt]
    have h2 := h.1 a k
    have h3 := h.1 k a
    omega
theorem gShort_row {F : Nat → Nat → Int32} (h : gOk F) (k b : Nat) : gShort k F k b = F k b := by
  rw [ti_eq, gShort_int h, h.2 k, z_toInt]
  have := h.1 k b
  omega
theorem gShort_col {F : Nat → Nat → Int32} (h : gOk F) (k a : Nat) : gShort k F a k = F a k := by
  rw [ti_eq, gShort_int h, h.2 k, z_toInt]
  have := h.1 a k
  omega
/-- all steps -/
def gFar (n : Nat) (F : Nat → Nat → Int32) : Nat → Nat → Int32 := xfold n gShort F
theorem gFar_ok {F : Nat → Nat → Int32} (h : gOk F) (n : Nat) : gOk (gFar n F) := xfold_inv (I := fun _ F => gOk F) h (fun k y _ hy => gShort_ok hy k)
/-- behind k steps no detour over one of the first k is shorter -/
theorem gFar_tri {F : Nat → Nat → Int32} (h : gOk F) : ∀ (n a b m : Nat), m < n → (gFar n F a b).toInt ≤ (gFar n F a m).toInt + (gFar n F m b).toInt := by
  intro n
  induction n with
  | zero => intro a b m hm; omega
  | succ n ih =>
    intro a b m hm
    have ok := gFar_ok h n
    have e : ∀ x y, (gFar (n + 1) F x y).toInt = min (gFar n F x y).toInt ((gFar n F x n).toInt + (gFar n F n y).toInt) := fun x y => gShort_int ok n x y
    have e0 : (gFar n F n n).toInt = 0 := by rw [ok.2 n]; rfl
    rw [e, e, e]
    have p1 := ok.1 a n
    have p2 := ok.1 n b
    have p3 := ok.1 n m
    have p4 := ok.1 m n
    have p5 := ok.1 a m
    have p6 := ok.1 m b
    rcases Nat.lt_or_ge m n with q | q
    · have i1 := ih a b m q
      have i2 := ih n b m q
      have i3 := ih a n m q
      omega
    · have : m = n := by omega
      subst this
      omega
/-- steps over what is joined to nothing change nothing -/
theorem gFar_more {F : Nat → Nat → Int32} (h : gOk F) {n : Nat} (hiso : ∀ a b, n ≤ a ∨ n ≤ b → a ≠ b → F a b = 1000) : ∀ m, n ≤ m → ∀ a b, gFar m F a b = gFar n F a b := by
  have iso : ∀ k a b, n ≤ a ∨ n ≤ b → a ≠ b → gFar k F a b = 1000 := by
    intro k
    induction k with
    | zero => exact hiso
    | succ k ih =>
      intro a b hab hne
      have ok := gFar_ok h k
      have e := gShort_int ok k a b
      rw [ti_eq]
      show (gShort k (gFar k F) a b).toInt = _
      rw [e, ih a b hab hne, k_toInt]
      have p1 := ok.1 a k
      have p2 := ok.1 k b
      rcases hab with q | q
      · by_cases hk : a = k
        · subst hk
          rw [ih a b (Or.inl q) hne, ok.2 a, k_toInt, z_toInt]
          omega
        · rw [ih a k (Or.inl q) hk, k_toInt]
          omega
      · by_cases hk : k = b
        · subst hk
          rw [ih a k (Or.inr q) hne, ok.2 k, k_toInt, z_toInt]
          omega
        · rw [ih k b (Or.inr q) hk, k_toInt]
          omega
  intro m hm
  induction m with
  | zero => intro a b; rw [Nat.le_zero.mp hm]
  | succ m ih =>
    intro a b
    rcases Nat.lt_or_ge m n with q | q
    · rw [show n = m + 1 by omega]
    · have ok := gFar_ok h m
      rw [← ih q a b, ti_eq]
      show (gShort m (gFar m F) a b).toInt = _
      rw [gShort_int ok]
      have p0 := ok.1 a b
      have p1 := ok.1 a m
      have p2 := ok.1 m b
      by_cases hk : a = m
      · subst hk
        rw [ok.2 a, z_toInt]
        omega
      · rw [iso m a m (Or.inr q) hk, k_toInt]
        omega
theorem gShort_cg {F G : Nat → Nat → Int32} {k a b : Nat} (h1 : G a k = F a k) (h2 : G k b = F k b) (h3 : G a b = F a b) : gShort k G a b = gShort k F a b := by unfold gShort; rw [h1, h2, h3]
/-- in place, entry by entry, is the same -/
def gCell (k a b : Nat) (F : Nat → Nat → Int32) : Nat → Nat → Int32 := x2 F a b (gShort k F a b)
theorem gRow_eq {F : Nat → Nat → Int32} (h : gOk F) (k a : Nat) : ∀ n, xfold n (fun b F => gCell k a b F) F = fun x y => if x = a ∧ y < n then gShort k F x y else F x y := by
  intro n
  induction n with
  | zero => funext x y; rw [if_neg (by omega)]; rfl
  | succ n ih =>
    rw [xfold_s, ih]
    funext x y
    have e1 : (if a = a ∧ k < n then gShort k F a k else F a k) = F a k := by
      by_cases q : a = a ∧ k < n
      · rw [if_pos q, gShort_col h]
      · rw [if_neg q]
    have e2 : (if k = a ∧ n < n then gShort k F k n else F k n) = F k n := by rw [if_neg (by omega)]
    have e3 : (if a = a ∧ n < n then gShort k F a n else F a n) = F a n := by rw [if_neg (by omega)]
    show (if x = a ∧ y = n then gShort k (fun x y => if x = a ∧ y < n then gShort k F x y else F x y) a n else (if x = a ∧ y < n then gShort k F x y else F x y)) = _
    rw [gShort_cg (F := F) e1 e2 e3]
    by_cases hx : x = a ∧ y = n
    · rw [if_pos hx, if_pos (by omega), hx.1, hx.2]
    · rw [if_neg hx]
      by_cases hy : x = a ∧ y < n
      · rw [if_pos hy, if_pos (by omega)]
      · rw [if_neg hy, if_neg (by omega)]
theorem gAll_eq {F : Nat → Nat → Int32} (h : gOk F) (k N : Nat) : ∀ n, xfold n (fun a F => xfold N (fun b F => gCell k a b F) F) F = fun x y => if x < n ∧ y < N then gShort k F x y else F x y := by
  intro n
  induction n with
  | zero => funext x y; rw [if_neg (by omega)]; rfl
  | succ n ih =>
    rw [xfold_s, ih]
    have ok2 : gOk (fun x y => if x < n ∧ y < N then gShort k F x y else F x y) := by
      have hs := gShort_ok h k
      refine ⟨fun a b => ?_, fun a => ?_⟩
      · by_cases q : a < n ∧ b < N
        · simp only [if_pos q]; exact hs.1 a b
        · simp only [if_neg q]; exact h.1 a b
      · by_cases q : a < n ∧ a < N
        · simp only [if_pos q]; exact hs.2 a
        · simp only [if_neg q]; exact h.2 a
    rw [gRow_eq ok2]
    funext x y
    have ek : ∀ y, (if k < n ∧ y < N then gShort k F k y else F k y) = F k y := fun y => by
      by_cases q : k < n ∧ y < N
      · rw [if_pos q, gShort_row h]
      · rw [if_neg q]
    have en : ∀ y, (if n < n ∧ y < N then gShort k F n y else F n y) = F n y := fun y => by rw [if_neg (by omega)]
    show (if x = n ∧ y < N then gShort k (fun x y => if x < n ∧ y < N then gShort k F x y else F x y) x y else (if x < n ∧ y < N then gShort k F x y else F x y)) = _
    by_cases hx : x = n ∧ y < N
    · rw [if_pos hx, if_pos (by omega)]
      obtain ⟨rfl, hy⟩ := hx
      exact gShort_cg (en k) (ek y) (en y)
    · rw [if_neg hx]
      by_cases hy : x < n ∧ y < N
      · rw [if_pos hy, if_pos (by omega)]
      · rw [if_neg hy, if_neg (by omega)]
