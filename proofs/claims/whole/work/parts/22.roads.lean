/-! ROADS of the class: contracts -/
section KROADS
variable {g : xGT} {d : Nat} {u : xU} {w : xW} {r : xQ}
theorem K_isOneOf (i c : Int32) : xCall g d mX11_isOneOf [.int i, .int c] 698 u w r 698 (xPr (xb (¬ (i < 0) ∧ ¬ (c ≤ i))) u w r) := CX11_isOneOf ⟨rfl, rfl, rfl, rfl⟩
/-- both are villages' numbers -/
abbrev xv7 (a b : Int32) : Prop := ¬ (a < 0) ∧ (¬ ((7 : Int32) ≤ a) ∧ (¬ (b < 0) ∧ ¬ ((7 : Int32) ≤ b)))
theorem K_distance (hr : xRf r) (a b : Int32) : xCall g d mX8_distance [.ref 53, .int a, .int b] 698 u w r 698 (xPr (if xv7 a b then u (55 + a.toNatClampNeg) b.toNatClampNeg else 1000) u w r) := by
  refine CX8_distance hr ⟨fun h => ?_, fun h => ?_, ?_⟩
  · rw [xb_eq0, Classical.not_not] at h; exact vp_of h.1 h.2.1 (by omega)
  · rw [xb_eq0, Classical.not_not] at h; exact vp_of h.2.2.1 h.2.2.2 (by omega)
  · refine ⟨?_, rfl, rfl, rfl⟩
    by_cases h : xv7 a b
    · rw [if_pos h, if_neg (by rw [xb_eq0]; exact fun q => q h)]
    · rw [if_neg h, if_pos (by rw [xb_eq0]; exact h)]
theorem K_daysOfWay (hr : xRf r) (a b : Int32) : xCall g d mX8_daysOfWay [.ref 53, .int a, .int b] 698 u w r 698 (xPr (if xv7 a b then u (63 + a.toNatClampNeg) b.toNatClampNeg else 0) u w r) := by
  refine CX8_daysOfWay hr ⟨fun h => ?_, fun h => ?_, ?_⟩
  · rw [xb_eq0, Classical.not_not] at h; exact vp_of h.1 h.2.1 (by omega)
  · rw [xb_eq0, Classical.not_not] at h; exact vp_of h.2.2.1 h.2.2.2 (by omega)
  · refine ⟨?_, rfl, rfl, rfl⟩
    by_cases h : xv7 a b
    · rw [if_pos h, if_neg (by rw [xb_eq0]; exact fun q => q h)]
    · rw [if_neg h, if_pos (by rw [xb_eq0]; exact h)]
theorem K_nextOf (hr : xRf r) (a b : Int32) : xCall g d mX8_nextOf [.ref 53, .int a, .int b] 698 u w r 698 (xPr (if xv7 a b then u (71 + a.toNatClampNeg) b.toNatClampNeg else -1) u w r) := by
  refine CX8_nextOf hr ⟨fun h => ?_, fun h => ?_, ?_⟩
  · rw [xb_eq0, Classical.not_not] at h; exact vp_of h.1 h.2.1 (by omega)
  · rw [xb_eq0, Classical.not_not] at h; exact vp_of h.2.2.1 h.2.2.2 (by omega)
  · refine ⟨?_, rfl, rfl, rfl⟩
    by_cases h : xv7 a b
    · rw [if_pos h, if_neg (by rw [xb_eq0]; exact fun q => q h)]
    · rw [if_neg h, if_pos (by rw [xb_eq0]; exact h)]
theorem xv7_nI {a b : Nat} (ha : a < 7) (hb : b < 7) : xv7 (nI a) (nI b) :=
  ⟨nI_pos (by omega), nI_ge (b := 7) ha (by omega), nI_pos (by omega), nI_ge (b := 7) hb (by omega)⟩
theorem K_distance' (hr : xRf r) {a b : Nat} (ha : a < 7) (hb : b < 7) : xCall g d mX8_distance [.ref 53, .int (nI a), .int (nI b)] 698 u w r 698 (xPr (u (55 + a) b) u w r) := by
  have h := K_distance (g := g) (d := d) (u := u) (w := w) hr (nI a) (nI b)
  rw [if_pos (xv7_nI ha hb), nc (by omega), nc (by omega)] at h
  exact h
theorem K_daysOfWay' (hr : xRf r) {a b : Nat} (ha : a < 7) (hb : b < 7) : xCall g d mX8_daysOfWay [.ref 53, .int (nI a), .int (nI b)] 698 u w r 698 (xPr (u (63 + a) b) u w r) := by
  have h := K_daysOfWay (g := g) (d := d) (u := u) (w := w) hr (nI a) (nI b)
  rw [if_pos (xv7_nI ha hb), nc (by omega), nc (by omega)] at h
  exact h
theorem K_nextOf' (hr : xRf r) {a b : Nat} (ha : a < 7) (hb : b < 7) : xCall g d mX8_nextOf [.ref 53, .int (nI a), .int (nI b)] 698 u w r 698 (xPr (u (71 + a) b) u w r) := by
  have h := K_nextOf (g := g) (d := d) (u := u) (w := w) hr (nI a) (nI b)
  rw [if_pos (xv7_nI ha hb), nc (by omega), nc (by omega)] at h
  exact h
theorem K_nextOf_none (hr : xRf r) (b : Int32) : xCall g d mX8_nextOf [.ref 53, .int (-1), .int b] 698 u w r 698 (xPr (-1) u w r) := by
  have h := K_nextOf (g := g) (d := d) (u := u) (w := w) hr (-1) b
  rw [if_neg (fun q => q.1 (by decide))] at h
  exact h
/-! shorten: the entries of far, as words -/
def rF (u : xU) (F : Nat → Nat → Int32) : Prop := ∀ a b, a < 7 → b < 7 → u (55 + a) b = F a b
theorem rF.put {u : xU} {F : Nat → Nat → Int32} (h : rF u F) (v k : Nat) (x : Int32) : rF (x2 u (55 + v) k x) (x2 F v k x) := by
  intro a b ha hb
  unfold x2
  by_cases q : a = v ∧ b = k
  · rw [if_pos q, if_pos (by omega)]
  · rw [if_neg q, if_neg (by omega)]
    exact h a b ha hb
abbrev fFar : Nat → Prop := fun b => 55 ≤ b ∧ b < 62
theorem L_shorten_18 (hr : xRf r) {P : xPost} {o v : Nat} (ho : o < 7) (hv : v < 7) {u0 : xU} {F : Nat → Nat → Int32}
    (kk : ∀ u' : xU, rF u' (xfold 7 (fun j F => gCell o v j F) F) → xSm fFar u0 u' → xEv g (d + 1) mX8_shorten 10 [some (.ref 53), some (.int (nI o)), some (.int (nI (v + 1))), none] [] 698 u' w r 698 P) :
    ∀ (n k : Nat), k + n = 7 → ∀ (u : xU), rF u (xfold k (fun j F => gCell o v j F) F) → xSm fFar u0 u →
    xEv g (d + 1) mX8_shorten 18 [some (.ref 53), some (.int (nI o)), some (.int (nI v)), some (.int (nI k))] [] 698 u w r 698 P := by
  intro n
  induction n with
  | zero =>
    intro k hk u h1 h2
    have : k = 7 := by omega
    subst this
    refine TX8_shorten_18 hr (brT (nI_le (a := 7) (Nat.le_refl _) (by omega)) ?_)
    rw [nI_one]
    exact kk u h1 h2
  | succ n ih =>
    intro k hk u h1 h2
    refine TX8_shorten_18 hr (brF (nI_ge (b := 7) (by omega) (by omega)) ⟨vpn hv (by omega), vpn (by omega) (by omega), vpn ho (by omega), ?_⟩)
    rw [nI_one, nc (by omega), nc (by omega), nc (by omega)]
    refine ih (k + 1) (by omega) _ ?_ (h2.put (by constructor <;> omega))
    rw [h1 v o hv ho, h1 o k ho (by omega), h1 v k hv (by omega)]
    exact h1.put v k _
theorem L_shorten_10 (hr : xRf r) {P : xPost} {o : Nat} (ho : o < 7) {u0 : xU} {F : Nat → Nat → Int32}
    (kk : ∀ u' : xU, rF u' (xfold 7 (fun a F => xfold 7 (fun j F => gCell o a j F) F) F) → xSm fFar u0 u' → xEv g (d + 1) mX8_shorten 2 [some (.ref 53), some (.int (nI (o + 1))), none, none] [] 698 u' w r 698 P) :
    ∀ (n k : Nat), k + n = 7 → ∀ (u : xU), rF u (xfold k (fun a F => xfold 7 (fun j F => gCell o a j F) F) F) → xSm fFar u0 u →
    xEv g (d + 1) mX8_shorten 10 [some (.ref 53), some (.int (nI o)), some (.int (nI k)), none] [] 698 u w r 698 P := by
  intro n
  induction n with
  | zero =>
    intro k hk u h1 h2
    have : k = 7 := by omega
    subst this
    refine TX8_shorten_10 (brT (nI_le (a := 7) (Nat.le_refl _) (by omega)) ?_)
    rw [nI_one]
    exact kk u h1 h2
  | succ n ih =>
    intro k hk u h1 h2
    refine TX8_shorten_10 (brF (nI_ge (b := 7) (by omega) (by omega)) ?_)
    exact L_shorten_18 hr ho (by omega) (F := xfold k (fun a F => xfold 7 (fun j F => gCell o a j F) F) F) (fun u' q1 q2 => ih (k + 1) (by omega) u' q1 (h2.tr q2)) 7 0 rfl u h1 xSm.rf
theorem L_shorten_2 (hr : xRf r) {P : xPost} {u0 : xU} {F : Nat → Nat → Int32} (hF : gOk F)
    (kk : ∀ u' : xU, rF u' (gFar 7 F) → xSm fFar u0 u' → P none u' w r) :
    ∀ (n k : Nat), k + n = 7 → ∀ (u : xU), rF u (gFar k F) → xSm fFar u0 u →
    xEv g (d + 1) mX8_shorten 2 [some (.ref 53), some (.int (nI k)), none, none] [] 698 u w r 698 P := by
  intro n
  induction n with
  | zero =>
    intro k hk u h1 h2
    have : k = 7 := by omega
    subst this
    exact TX8_shorten_2 (brT (nI_le (a := 7) (Nat.le_refl _) (by omega)) (kk u h1 h2))
  | succ n ih =>
    intro k hk u h1 h2
    refine TX8_shorten_2 (brF (nI_ge (b := 7) (by omega) (by omega)) ?_)
    refine L_shorten_10 hr (by omega) (F := gFar k F) (fun u' q1 q2 => ih (k + 1) (by omega) u' ?_ (h2.tr q2)) 7 0 rfl u h1 xSm.rf
    intro a b ha hb
    rw [q1 a b ha hb, gAll_eq (gFar_ok hF k)]
    exact if_pos ⟨ha, hb⟩
theorem K_shorten (hr : xRf r) {F : Nat → Nat → Int32} (hF : gOk F) (h : rF u F) : xCall g (d + 1) mX8_shorten [.ref 53] 698 u w r 698 (xVd (fun u' => rF u' (gFar 7 F) ∧ xSm fFar u u') w r) :=
  CX8_shorten (L_shorten_2 hr hF (fun u' h1 h2 => ⟨rfl, ⟨h1, h2⟩, rfl, rfl⟩) 7 0 rfl u h xSm.rf)
/-! the ways -/
end KROADS
/-- a way is open -/
abbrev gOpen (c : Int32) (k : Nat) : Prop := ((c >>> (nI k &&& 31)) &&& 1) = 0
/-- the open ways of the first n, laid into z; a land's words are L: 1 from, 2 to, 3 days of its ways -/
def gWay (L : xU) (c : Int32) (z : Nat → Nat → Int32) (n : Nat) : Nat → Nat → Int32 := xfold n (fun k F => if gOpen c k then x2 (x2 F (L 1 k).toNatClampNeg (L 2 k).toNatClampNeg (L 3 k)) (L 2 k).toNatClampNeg (L 1 k).toNatClampNeg (L 3 k) else F) z
def gF0 : Nat → Nat → Int32 := fun a b => if a = b then 0 else 1000
/-- the land's ways are what they may be: of two villages, of 1 .. 9 days, no two alike -/
def gLandW (L : xU) (nv n : Nat) : Prop := nv ≤ 7 ∧ n ≤ 12 ∧ (∀ k, k < n → ∃ a b, a < nv ∧ b < nv ∧ a ≠ b ∧ L 1 k = nI a ∧ L 2 k = nI b ∧ 1 ≤ (L 3 k).toInt ∧ (L 3 k).toInt ≤ 9)
/-- what is laid does not depend on what it is laid into, and is as a way is -/
theorem gWay_or {L : xU} {c : Int32} {nv : Nat} (z z' : Nat → Nat → Int32) {m : Nat} (h : gLandW L nv m) : ∀ n, n ≤ m → ∀ a b, (gWay L c z n a b = z a b ∧ gWay L c z' n a b = z' a b) ∨ (gWay L c z n a b = gWay L c z' n a b ∧ 1 ≤ (gWay L c z n a b).toInt ∧ (gWay L c z n a b).toInt ≤ 9 ∧ a < nv ∧ b < nv ∧ a ≠ b) := by
  intro n
  induction n with
  | zero => intro _ a b; exact Or.inl ⟨rfl, rfl⟩
  | succ n ih =>
    intro hn a b
    obtain ⟨p, q, hp, hq, hpq, e1, e2, e3, e4⟩ := h.2.2 n (by omega)
    have hv := h.1
    have e : ∀ z, gWay L c z (n + 1) a b = if gOpen c n then x2 (x2 (gWay L c z n) p q (L 3 n)) q p (L 3 n) a b else gWay L c z n a b := by
      intro z
      show (if gOpen c n then _ else _ : Nat → Nat → Int32) a b = _
      rw [e1, e2, nc (by omega), nc (by omega)]
      by_cases ho : gOpen c n
      · rw [if_pos ho, if_pos ho]; rfl
      · rw [if_neg ho, if_neg ho]; rfl
    rw [e, e]
    by_cases ho : gOpen c n
    · rw [if_pos ho, if_pos ho]
      by_cases h1 : a = q ∧ b = p
      · obtain ⟨rfl, rfl⟩ := h1
        rw [x2_same, x2_same]
        exact Or.inr ⟨rfl, e3, e4, hq, hp, fun z => hpq z.symm⟩
      · rw [x2_ne _ _ h1, x2_ne _ _ h1]
        by_cases h2 : a = p ∧ b = q
        · obtain ⟨rfl, rfl⟩ := h2
          rw [x2_same, x2_same]
          exact Or.inr ⟨rfl, e3, e4, hp, hq, hpq⟩
        · rw [x2_ne _ _ h2, x2_ne _ _ h2]
          exact ih (by omega) a b
    · rw [if_neg ho, if_neg ho]
      exact ih (by omega) a b
theorem m1_toInt : (-1 : Int32).toInt = -1 := rfl
theorem gWay_ok {L : xU} {c : Int32} {nv n : Nat} (h : gLandW L nv n) : gOk (gWay L c gF0 n) := by
  refine ⟨fun a b => ?_, fun a => ?_⟩
  · rcases gWay_or (c := c) gF0 gF0 h n (Nat.le_refl _) a b with ⟨e, -⟩ | ⟨-, e1, e2, -⟩
    · rw [e]
      unfold gF0
      by_cases q : a = b
      · rw [if_pos q, z_toInt]; omega
      · rw [if_neg q, k_toInt]; omega
    · omega
  · rcases gWay_or (c := c) gF0 gF0 h n (Nat.le_refl _) a a with ⟨e, -⟩ | ⟨-, -, -, -, -, e⟩
    · rw [e]; exact if_pos rfl
    · exact absurd rfl e
theorem gWay_iso {L : xU} {c : Int32} {nv n : Nat} (h : gLandW L nv n) : ∀ a b, nv ≤ a ∨ nv ≤ b → a ≠ b → gWay L c gF0 n a b = 1000 := by
  intro a b hab hne
  rcases gWay_or (c := c) gF0 gF0 h n (Nat.le_refl _) a b with ⟨e, -⟩ | ⟨-, -, -, e1, e2, -⟩
  · rw [e]; exact if_neg hne
  · omega
/-- far of two villages -/
def gDist (L : xU) (c : Int32) (nv n : Nat) : Nat → Nat → Int32 := gFar nv (gWay L c gF0 n)
/-- the days of the open way between two, -1 without one -/
def gDays (L : xU) (c : Int32) (n : Nat) : Nat → Nat → Int32 := gWay L c (fun _ _ => -1) n
/-- the next one on the way home among the first k -/
def gNextF (D F : Nat → Nat → Int32) (a h : Nat) (k : Nat) : Int32 × Int32 := xfold k (fun o q => if D a o < 0 ∨ q.2 ≤ D a o + F o h then q else (nI o, D a o + F o h)) (-1, 1000)
def gNext (D F : Nat → Nat → Int32) (nv : Nat) (a h : Nat) : Int32 := if a = h ∨ ¬ F a h < 1000 then -1 else (gNextF D F a h nv).1
section KROADS2
variable {g : xGT} {d : Nat} {u : xU} {w : xW} {r : xQ}
/-- days of ways in memory: 0 without one -/
def rD (u : xU) (D : Nat → Nat → Int32) : Prop := ∀ a b, a < 7 → b < 7 → u (63 + a) b = D a b
theorem rD.put {u : xU} {F : Nat → Nat → Int32} (h : rD u F) (v k : Nat) (x : Int32) : rD (x2 u (63 + v) k x) (x2 F v k x) := by
  intro a b ha hb
  unfold x2
  by_cases q : a = v ∧ b = k
  · rw [if_pos q, if_pos (by omega)]
  · rw [if_neg q, if_neg (by omega)]
    exact h a b ha hb
/-- beside in memory: the set of those to which an open way goes -/
def rB (u : xU) (D : Nat → Nat → Int32) : Prop := ∀ a, a < 7 → u 78 a = xset 7 (fun b => decide (¬ D a b = -1))
abbrev fRo : Nat → Prop := fun b => 55 ≤ b ∧ b < 79
theorem xset_one {D D' : Nat → Nat → Int32} {a q : Nat} (hq : q < 7) (h1 : ¬ D' a q = -1) (h2 : ∀ b, b ≠ q → D' a b = D a b) : xset 7 (fun b => decide (¬ D a b = -1)) ||| ((1 : Int32) <<< (nI q &&& 31)) = xset 7 (fun b => decide (¬ D' a b = -1)) := by
  refine b_ext (fun i hi => ?_)
  rw [b_or, bt_xset (by omega) _ hi, bt_xset (by omega) _ hi, bt_sh (by omega) hi]
  by_cases e : i = q
  · subst e
    simp [h1, hq]
  · rw [h2 i e, decide_eq_false e, Bool.or_false]
theorem K_layWay (hr : xRf r) {a b : Nat} (ha : a < 7) (hb : b < 7) (x : Int32) : xCall g d mX8_layWay [.ref 53, .int (nI a), .int (nI b), .int x] 698 u w r 698 (xVd (fun u' => u' = x2 (x2 (x2 u (55 + a) b x) (63 + a) b x) 78 a (u 78 a ||| ((1 : Int32) <<< (nI b &&& 31)))) w r) := by
  refine CX8_layWay hr ⟨vpn ha (by omega), vpn hb (by omega), rfl, ?_, rfl, rfl⟩
  rw [nc (by omega), nc (by omega), x2_a _ _ (by omega), x2_a _ _ (by omega)]
end KROADS2
