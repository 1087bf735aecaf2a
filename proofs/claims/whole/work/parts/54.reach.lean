/-! REACHED by open ways: both words for it -/
theorem gDays_s (L : xU) (c : Int32) (k : Nat) : gDays L c (k + 1) = if gOpen c k then x2 (x2 (gDays L c k) (L 1 k).toNatClampNeg (L 2 k).toNatClampNeg (L 3 k)) (L 2 k).toNatClampNeg (L 1 k).toNatClampNeg (L 3 k) else gDays L c k := rfl
theorem gDays_exo {L : xU} {c : Int32} {nv m : Nat} (h : gLandW L nv m) : ∀ k, k ≤ m → ∀ a b, a < 7 → b < 7 → gDays L c k a b ≠ -1 → ∃ j, j < k ∧ gOpen c j ∧ ((L 1 j = nI a ∧ L 2 j = nI b) ∨ (L 1 j = nI b ∧ L 2 j = nI a)) := by
  have hv7 := h.1
  intro k
  induction k with
  | zero => intro _ a b _ _ q; exact absurd rfl q
  | succ k ih =>
    intro hk a b ha hb q
    obtain ⟨x, y, hx, hy, hxy, e1, e2, -, -⟩ := h.2.2 k (by omega)
    rw [gDays_s, e1, e2, nc (by omega), nc (by omega)] at q
    by_cases ho : gOpen c k
    · rw [if_pos ho] at q
      by_cases q1 : a = y ∧ b = x
      · exact ⟨k, by omega, ho, Or.inr ⟨by rw [e1, q1.2], by rw [e2, q1.1]⟩⟩
      · rw [x2_ne _ _ q1] at q
        by_cases q2 : a = x ∧ b = y
        · exact ⟨k, by omega, ho, Or.inl ⟨by rw [e1, q2.1], by rw [e2, q2.2]⟩⟩
        · rw [x2_ne _ _ q2] at q
          obtain ⟨j, j1, j2, j3⟩ := ih (by omega) a b ha hb q
          exact ⟨j, by omega, j2, j3⟩
    · rw [if_neg ho] at q
      obtain ⟨j, j1, j2, j3⟩ := ih (by omega) a b ha hb q
      exact ⟨j, by omega, j2, j3⟩
theorem gDays_open {L : xU} {c : Int32} {nv m : Nat} (h : gLandW L nv m) {j a b : Nat} (ho : gOpen c j) (ha : a < 7) (hb : b < 7) (e1 : L 1 j = nI a) (e2 : L 2 j = nI b) : ∀ k, k ≤ m → j < k → gDays L c k a b ≠ -1 ∧ gDays L c k b a ≠ -1 := by
  have hv7 := h.1
  intro k
  induction k with
  | zero => intro _ q; omega
  | succ k ih =>
    intro hk hj
    obtain ⟨x, y, hx, hy, hxy, f1, f2, l1, l2⟩ := h.2.2 k (by omega)
    have l3 : ¬ L 3 k = -1 := fun z => by rw [z, m1_toInt] at l1; omega
    rw [gDays_s, f1, f2, nc (by omega), nc (by omega)]
    by_cases q : j = k
    · subst q
      have a1 : x = a := nI_inv (by omega) (by omega) (f1.symm.trans e1)
      have a2 : y = b := nI_inv (by omega) (by omega) (f2.symm.trans e2)
      subst a1
      subst a2
      rw [if_pos ho, x2_same]
      refine ⟨?_, l3⟩
      rw [x2_ne _ _ (fun z => hxy z.1), x2_same]
      exact l3
    · obtain ⟨i1, i2⟩ := ih (by omega) (by omega)
      have key : ∀ p q, gDays L c k p q ≠ -1 → x2 (x2 (gDays L c k) x y (L 3 k)) y x (L 3 k) p q ≠ -1 := by
        intro p q h
        unfold x2
        split
        · exact l3
        · split
          · exact l3
          · exact h
      split
      · exact ⟨key _ _ i1, key _ _ i2⟩
      · exact ⟨i1, i2⟩
theorem gFar_le {F : Nat → Nat → Int32} (h : gOk F) (a b : Nat) : ∀ n, (gFar n F a b).toInt ≤ (F a b).toInt := by
  intro n
  induction n with
  | zero => exact Int.le_refl _
  | succ n ih =>
    have e := gShort_int (gFar_ok h n) n a b
    show (gShort n (gFar n F) a b).toInt ≤ _
    rw [e]
    omega
theorem lF_way {L : xU} (hW : lWok L) {c : Int32} {a b : Nat} (h : gDays L c (lW L) a b ≠ -1) : (lF L c a b).toInt ≤ 9 := by
  have h1 := gFar_le (gWay_ok (c := c) hW) a b (lV L)
  rcases gWay_or (c := c) (fun _ _ => -1) gF0 hW (lW L) (Nat.le_refl _) a b with ⟨q, -⟩ | ⟨q, q1, q2, -⟩
  · exact absurd q h
  · rw [q] at q2
    show (gFar (lV L) (gWay L c gF0 (lW L)) a b).toInt ≤ 9
    omega
/-- what can be reached is near -/
theorem lF_bound {L : xU} (hW : lWok L) (c : Int32) (b : Nat) : ∀ m a, a < lV L → lC L c a b ≤ m → (lF L c a b).toInt < 1000 → (lF L c a b).toInt ≤ 9 * (m : Int) := by
  have hv7 := hW.1
  have ok := lF_ok hW c
  intro m
  induction m with
  | zero =>
    intro a ha hc hl
    by_cases q : a = b
    · subst q; rw [ok.2 a, z_toInt]; omega
    · obtain ⟨o, o1, o2⟩ := gFirst hW (lV L) a b hl q
      have o7 : o < lV L := Nat.lt_of_not_le (fun z => o1 (gDays_iso hW (Or.inr z)))
      have d1 : 1 ≤ (gDays L c (lW L) a o).toInt := by
        rcases gDays_ok (c := c) hW a o with z | z
        · exact absurd z o1
        · exact z.1
      have lt : 0 < lC L c a b := by
        have : cn (lV L) (fun _ => false) < lC L c a b := cn_lt (fun _ _ h => by cases h) ⟨o, o7, decide_eq_true (show (lF L c o b).toInt < (lF L c a b).toInt by
          have : (lF L c o b).toInt = (gFar (lV L) (gWay L c gF0 (lW L)) o b).toInt := rfl
          have : (lF L c a b).toInt = (gFar (lV L) (gWay L c gF0 (lW L)) a b).toInt := rfl
          omega), rfl⟩
        omega
      omega
  | succ m ih =>
    intro a ha hc hl
    by_cases q : a = b
    · subst q; rw [ok.2 a, z_toInt]; omega
    · obtain ⟨o, o1, o2⟩ := gFirst hW (lV L) a b hl q
      have o7 : o < lV L := Nat.lt_of_not_le (fun z => o1 (gDays_iso hW (Or.inr z)))
      have d1 : 1 ≤ (gDays L c (lW L) a o).toInt := by
        rcases gDays_ok (c := c) hW a o with z | z
        · exact absurd z o1
        · exact z.1
      have e1 : (lF L c o b).toInt = (gFar (lV L) (gWay L c gF0 (lW L)) o b).toInt := rfl
      have e2 : (lF L c a b).toInt = (gFar (lV L) (gWay L c gF0 (lW L)) a b).toInt := rfl
      have nr : (lF L c o b).toInt < (lF L c a b).toInt := by omega
      have lt : lC L c o b < lC L c a b := cn_lt (fun j _ hj => decide_eq_true (by have := of_decide_eq_true hj; omega)) ⟨o, o7, decide_eq_true nr, decide_eq_false (by omega)⟩
      have i := ih o o7 (by omega) (by omega)
      have t := gFar_tri (gWay_ok (c := c) hW) (lV L) a b o o7
      have w9 := lF_way hW (c := c) o1
      have e3 : (lF L c a o).toInt = (gFar (lV L) (gWay L c gF0 (lW L)) a o).toInt := rfl
      omega
theorem lF_63 {L : xU} (hW : lWok L) (c : Int32) {a b : Nat} (ha : a < lV L) (h : (lF L c a b).toInt < 1000) : (lF L c a b).toInt ≤ 63 := by
  have hv7 := hW.1
  have := lF_bound hW c b (lC L c a b) a ha (Nat.le_refl _) h
  have h7 : lC L c a b ≤ lV L := cn_le _ _
  omega
/-- the ends of a way, as a set -/
def rEn (L : xU) (j : Nat) : Int32 := ((1 : Int32) <<< (L 1 j &&& 31)) ||| ((1 : Int32) <<< (L 2 j &&& 31))
def rSwp (L : xU) (c : Int32) (k : Nat) (S : Int32) : Int32 := xfold k (fun j S => if gOpen c j ∧ ¬ S &&& rEn L j = 0 then S ||| rEn L j else S) S
theorem rSwp_s (L : xU) (c : Int32) (k : Nat) (S : Int32) : rSwp L c (k + 1) S = if gOpen c k ∧ ¬ rSwp L c k S &&& rEn L k = 0 then rSwp L c k S ||| rEn L k else rSwp L c k S := rfl
def rIt (L : xU) (c : Int32) (v : Nat) : Nat → Int32
  | 0 => (1 : Int32) <<< (nI v &&& 31)
  | i + 1 => rSwp L c (lW L) (rIt L c v i)
theorem rEn_bt {L : xU} {j a b : Nat} (ha : a < 7) (hb : b < 7) (e1 : L 1 j = nI a) (e2 : L 2 j = nI b) {i : Nat} (hi : i < 32) : bt (rEn L j) i = (decide (i = a) || decide (i = b)) := by
  unfold rEn
  rw [b_or, e1, e2, bt_sh (by omega) hi, bt_sh (by omega) hi]
theorem rSwp_mono {L : xU} {c : Int32} {S : Int32} {i : Nat} (h : bt S i = true) : ∀ k, bt (rSwp L c k S) i = true := by
  intro k
  induction k with
  | zero => exact h
  | succ k ih =>
    rw [rSwp_s]
    split
    · rw [b_or, ih]; rfl
    · exact ih
theorem rSwp_mono2 {L : xU} {c : Int32} {S : Int32} {i k : Nat} (h : bt (rSwp L c k S) i = true) : ∀ m, k ≤ m → bt (rSwp L c m S) i = true := by
  intro m
  induction m with
  | zero => intro q; rw [Nat.le_zero.mp q] at h; exact h
  | succ m ih =>
    intro q
    by_cases z : k = m + 1
    · rw [← z]; exact h
    · rw [rSwp_s]
      split
      · rw [b_or, ih (by omega)]; rfl
      · exact ih (by omega)
/-- a set that is near v -/
def rNr (L : xU) (c : Int32) (v : Nat) (S : Int32) : Prop := ∀ i, i < 32 → bt S i = true → i < lV L ∧ (lF L c v i).toInt < 1000
theorem rSwp_near {L : xU} (hW : lWok L) {c : Int32} {v : Nat} (hv : v < lV L) {S : Int32} (h : rNr L c v S) : ∀ k, k ≤ lW L → rNr L c v (rSwp L c k S) := by
  have hv7 := hW.1
  intro k
  induction k with
  | zero => intro _; exact h
  | succ k ih =>
    intro hk
    have ih' := ih (by omega)
    rw [rSwp_s]
    generalize rSwp L c k S = U at ih' ⊢
    split
    · next q =>
      obtain ⟨a, b, ha, hb, hab, e1, e2, l1, l2⟩ := hW.2.2 k (by omega)
      obtain ⟨d1, d2⟩ := gDays_open hW q.1 (by omega) (by omega) e1 e2 (lW L) (Nat.le_refl _) (by omega)
      have w1 := lF_way hW d1
      have w2 := lF_way hW d2
      have some_in : bt U a = true ∨ bt U b = true := Classical.byContradiction (fun z => q.2 (b_ext (fun i hi => by
        rw [b_and, b_0, rEn_bt (by omega) (by omega) e1 e2 hi]
        by_cases z1 : i = a
        · subst z1
          have : bt U i = false := by
            cases y : bt U i
            · rfl
            · exact absurd (Or.inl y) z
          rw [this, Bool.false_and]
        · by_cases z2 : i = b
          · subst z2
            have : bt U i = false := by
              cases y : bt U i
              · rfl
              · exact absurd (Or.inr y) z
            rw [this, Bool.false_and]
          · rw [decide_eq_false z1, decide_eq_false z2]; simp)))
      have t1 := gFar_tri (gWay_ok (c := c) hW) (lV L) v b a ha
      have t2 := gFar_tri (gWay_ok (c := c) hW) (lV L) v a b hb
      have both : (lF L c v a).toInt < 1000 ∧ (lF L c v b).toInt < 1000 := by
        have f1 : (lF L c v a).toInt = (gFar (lV L) (gWay L c gF0 (lW L)) v a).toInt := rfl
        have f2 : (lF L c v b).toInt = (gFar (lV L) (gWay L c gF0 (lW L)) v b).toInt := rfl
        have f3 : (lF L c a b).toInt = (gFar (lV L) (gWay L c gF0 (lW L)) a b).toInt := rfl
        have f4 : (lF L c b a).toInt = (gFar (lV L) (gWay L c gF0 (lW L)) b a).toInt := rfl
        rcases some_in with y | y
        · have := lF_63 hW c hv (ih' a (by omega) y).2
          omega
        · have := lF_63 hW c hv (ih' b (by omega) y).2
          omega
      intro i hi hbi
      rw [b_or, rEn_bt (by omega) (by omega) e1 e2 hi] at hbi
      by_cases z1 : i = a
      · subst z1; exact ⟨ha, both.1⟩
      · by_cases z2 : i = b
        · subst z2; exact ⟨hb, both.2⟩
        · rw [decide_eq_false z1, decide_eq_false z2] at hbi
          exact ih' i hi (by simpa using hbi)
    · exact ih'
theorem rIt_near {L : xU} (hW : lWok L) (c : Int32) {v : Nat} (hv : v < lV L) : ∀ i, rNr L c v (rIt L c v i) := by
  have hv7 := hW.1
  intro i
  induction i with
  | zero =>
    intro k hk h
    rw [rIt, bt_sh (by omega) hk] at h
    have := of_decide_eq_true h
    subst this
    exact ⟨hv, by rw [(lF_ok hW c).2 k, z_toInt]; omega⟩
  | succ i ih => exact rSwp_near hW hv ih (lW L) (Nat.le_refl _)
theorem rIt_at {L : xU} (hW : lWok L) (c : Int32) {v : Nat} (hv : v < lV L) : ∀ i, bt (rIt L c v i) v = true := by
  have hv7 := hW.1
  intro i
  induction i with
  | zero => rw [rIt, bt_sh (by omega) (by omega)]; exact decide_eq_true rfl
  | succ i ih => exact rSwp_mono ih _
theorem rIt_stay {L : xU} {c : Int32} {v i : Nat} (h : rIt L c v (i + 1) = rIt L c v i) : ∀ j, i ≤ j → rIt L c v j = rIt L c v i := by
  intro j
  induction j with
  | zero => intro q; rw [Nat.le_zero.mp q]
  | succ j ih =>
    intro q
    by_cases z : i = j + 1
    · rw [z]
    · rw [rIt, ih (by omega)]; exact h
theorem rIt_grow {L : xU} (hW : lWok L) (c : Int32) {v : Nat} (hv : v < lV L) : ∀ i, rIt L c v (i + 1) = rIt L c v i ∨ i + 1 ≤ cn 7 (bt (rIt L c v i)) := by
  have hv7 := hW.1
  intro i
  induction i with
  | zero =>
    right
    have : cn 7 (fun _ => false) < cn 7 (bt (rIt L c v 0)) := cn_lt (fun _ _ h => by cases h) ⟨v, by omega, rIt_at hW c hv 0, rfl⟩
    omega
  | succ i ih =>
    by_cases q : rIt L c v (i + 1) = rIt L c v i
    · left
      rw [rIt_stay q (i + 2) (by omega), q]
    · right
      have h1 := ih.resolve_left q
      have : cn 7 (bt (rIt L c v i)) < cn 7 (bt (rIt L c v (i + 1))) := by
        refine cn_lt (fun k _ h => rSwp_mono h _) (Classical.byContradiction (fun z => q (b_ext (fun k hk => ?_))))
        cases y : bt (rIt L c v i) k
        · cases x : bt (rIt L c v (i + 1)) k
          · rfl
          · exact absurd ⟨k, by have := (rIt_near hW c hv (i + 1) k hk x).1; omega, x, y⟩ z
        · exact rSwp_mono y _
      omega
theorem rIt_fix {L : xU} (hW : lWok L) (c : Int32) {v : Nat} (hv : v < lV L) : rIt L c v 8 = rIt L c v 7 := by
  rcases rIt_grow hW c hv 7 with h | h
  · exact h
  · have := cn_le 7 (bt (rIt L c v 7)); omega
theorem rSwp_fix {L : xU} {c : Int32} {S : Int32} (h : rSwp L c (lW L) S = S) : ∀ k, k ≤ lW L → rSwp L c k S = S := by
  intro k hk
  refine b_ext (fun i hi => ?_)
  cases y : bt S i
  · cases x : bt (rSwp L c k S) i
    · rfl
    · have := rSwp_mono2 x (lW L) hk
      rw [h, y] at this
      exact this.symm
  · exact rSwp_mono y k
/-- reached is near: the same -/
theorem rIt_iff {L : xU} (hW : lWok L) (c : Int32) {v o : Nat} (hv : v < lV L) (ho : o < lV L) : bt (rIt L c v 7) o = true ↔ (lF L c v o).toInt < 1000 := by
  have hv7 := hW.1
  refine ⟨fun h => (rIt_near hW c hv 7 o (by omega) h).2, fun h => ?_⟩
  have fx : rSwp L c (lW L) (rIt L c v 7) = rIt L c v 7 := rIt_fix hW c hv
  have cl : ∀ a b, a < 7 → b < 7 → gDays L c (lW L) a b ≠ -1 → bt (rIt L c v 7) a = true → bt (rIt L c v 7) b = true := by
    intro a b ha hb hd h1
    obtain ⟨j, j1, j2, j3⟩ := gDays_exo hW (lW L) (Nat.le_refl _) a b ha hb hd
    have f1 := rSwp_fix fx j (by omega)
    have f2 := rSwp_fix fx (j + 1) (by omega)
    rw [rSwp_s, f1] at f2
    have en : bt (rEn L j) a = true ∧ bt (rEn L j) b = true := by
      rcases j3 with ⟨y1, y2⟩ | ⟨y1, y2⟩
      · rw [rEn_bt ha hb y1 y2 (by omega), rEn_bt ha hb y1 y2 (by omega)]; simp
      · rw [rEn_bt hb ha y1 y2 (by omega), rEn_bt hb ha y1 y2 (by omega)]; simp
    rw [if_pos ⟨j2, fun z => by
      have := congrArg (fun x => bt x a) z
      simp only [b_and, h1, en.1, b_0] at this
      cases this⟩] at f2
    have := congrArg (fun x => bt x b) f2
    simp only [b_or, en.2, Bool.or_true] at this
    exact this.symm
  have go : ∀ m a, a < lV L → lC L c a o ≤ m → (lF L c a o).toInt < 1000 → bt (rIt L c v 7) a = true → bt (rIt L c v 7) o = true := by
    intro m
    induction m with
    | zero =>
      intro a ha hc hl h1
      by_cases q : a = o
      · rw [← q]; exact h1
      · obtain ⟨p, o1, o2⟩ := gFirst hW (lV L) a o hl q
        have o7 : p < lV L := Nat.lt_of_not_le (fun z => o1 (gDays_iso hW (Or.inr z)))
        have d1 : 1 ≤ (gDays L c (lW L) a p).toInt := by
          rcases gDays_ok (c := c) hW a p with z | z
          · exact absurd z o1
          · exact z.1
        have e1 : (lF L c p o).toInt = (gFar (lV L) (gWay L c gF0 (lW L)) p o).toInt := rfl
        have e2 : (lF L c a o).toInt = (gFar (lV L) (gWay L c gF0 (lW L)) a o).toInt := rfl
        have lt : lC L c p o < lC L c a o := cn_lt (fun j _ hj => decide_eq_true (by have := of_decide_eq_true hj; omega)) ⟨p, o7, decide_eq_true (by omega), decide_eq_false (by omega)⟩
        omega
    | succ m ih =>
      intro a ha hc hl h1
      by_cases q : a = o
      · rw [← q]; exact h1
      · obtain ⟨p, o1, o2⟩ := gFirst hW (lV L) a o hl q
        have o7 : p < lV L := Nat.lt_of_not_le (fun z => o1 (gDays_iso hW (Or.inr z)))
        have d1 : 1 ≤ (gDays L c (lW L) a p).toInt := by
          rcases gDays_ok (c := c) hW a p with z | z
          · exact absurd z o1
          · exact z.1
        have e1 : (lF L c p o).toInt = (gFar (lV L) (gWay L c gF0 (lW L)) p o).toInt := rfl
        have e2 : (lF L c a o).toInt = (gFar (lV L) (gWay L c gF0 (lW L)) a o).toInt := rfl
        have lt : lC L c p o < lC L c a o := cn_lt (fun j _ hj => decide_eq_true (by have := of_decide_eq_true hj; omega)) ⟨p, o7, decide_eq_true (by omega), decide_eq_false (by omega)⟩
        exact ih p o7 (by omega) (by omega) (cl a p (by omega) (by omega) o1 h1)
  exact go (lC L c v o) v hv (Nat.le_refl _) h (rIt_at hW c hv 7)
