/-! THE CLASS makes itself (the facts' order: gen/post.py) -/
theorem x2_8 {α : Type} (f : Nat → Nat → α) (a k i : Nat) (x : α) : x2 f a k x a i = if i = k then x else f a i := by
  by_cases h : i = k
  · rw [if_pos h, h, x2_same]
  · rw [if_neg h, x2_i _ _ h]
theorem xR.cg {g : xGT} {nx : Nat} {u u' : xU} {w w' : xW} {r r' : xQ} {H : Heap} (h : xR g nx u w r H) (e : ∀ b i, b < nx → u' b i = u b i ∧ w' b i = w b i ∧ r' b i = r b i) : xR g nx u' w' r' H :=
  ⟨h.1, h.2.1, h.2.2.1, fun a kd ha hk => (h.2.2.2 a kd ha hk).to (fun i => (e a i ha).1) (fun i => (e a i ha).2.1) (fun i => (e a i ha).2.2) rfl⟩
/-- memory that is not made yet says nothing -/
theorem xEv.cg {g : xGT} {d : Nat} {mi : xMI} {pc : Nat} {ls : List (Option Value)} {st : List Value} {nx nx' : Nat} {u u' : xU} {w w' : xW} {r r' : xQ} {P : xPost} (kk : xEv g d mi pc ls st nx u' w' r' nx' P) (e : ∀ b i, b < nx → u' b i = u b i ∧ w' b i = w b i ∧ r' b i = r b i) : xEv g d mi pc ls st nx u w r nx' P :=
  ⟨kk.1, fun p e' R s m args below meth c H locs n1 rl Q F G hR hl h1 hd hL hc hs ho hQ => kk.2 p e' R s m args below meth c H locs n1 rl Q F G (hR.cg e) hl h1 hd hL hc hs ho hQ⟩
theorem xLr.to {l : Nat} {r r' : xQ} (h : xLr l r) (f : ∀ k, r' l k = r l k) (f2 : ∀ k, r' (l + 12) k = r (l + 12) k) : xLr l r' := by
  unfold xLr xLr0 xFr1 at h ⊢
  simp only [f, f2]
  exact h
def xAll (r : xQ) : List (Nat × Nat × Nat) → Prop
  | [] => True
  | q :: l => r q.1 q.2.1 = some q.2.2 ∧ xAll r l
theorem xAll.mem {r : xQ} : ∀ {l : List (Nat × Nat × Nat)}, xAll r l → ∀ q ∈ l, r q.1 q.2.1 = some q.2.2 := by
  intro l
  induction l with
  | nil => intro _ q hq; cases hq
  | cons x l ih =>
    intro h q hq
    rcases List.mem_cons.1 hq with rfl | hq
    · exact h.1
    · exact ih h.2 q hq
def xRA : List (Nat × Nat × Nat) := [(8, 0, 9), (8, 1, 52), (8, 2, 79), (8, 3, 105), (8, 4, 117), (8, 5, 611), (8, 6, 616), (8, 7, 653), (8, 8, 654), (9, 0, 10), (9, 1, 16), (9, 2, 18), (9, 3, 20), (10, 0, 11), (10, 2, 12), (10, 3, 13), (10, 4, 14), (10, 6, 15), (52, 0, 53), (53, 0, 54), (53, 1, 62), (53, 2, 70), (53, 3, 78), (54, 0, 55), (54, 1, 56), (54, 2, 57), (54, 3, 58), (54, 4, 59), (54, 5, 60), (54, 6, 61), (62, 0, 63), (62, 1, 64), (62, 2, 65), (62, 3, 66), (62, 4, 67), (62, 5, 68), (62, 6, 69), (70, 0, 71), (70, 1, 72), (70, 2, 73), (70, 3, 74), (70, 4, 75), (70, 5, 76), (70, 6, 77), (79, 0, 52), (79, 1, 80), (79, 2, 92), (79, 3, 93), (79, 6, 94), (79, 9, 95), (79, 10, 102), (95, 0, 96), (95, 1, 97), (95, 2, 98), (95, 3, 99), (95, 4, 100), (95, 5, 101), (102, 0, 103), (102, 1, 104), (117, 0, 118), (611, 0, 612), (611, 1, 613), (611, 2, 614), (611, 3, 615)]
/-- what the reference's constructor makes -/
def xRM : List (Nat × Nat × Nat) := xRl.filter (fun q => 655 ≤ q.1)
theorem xRl_parts : ∀ q ∈ xRl, q ∈ xRA ∨ q ∈ (List.range 41).map (fun j => (118, j, 119 + 12 * j)) ∨ q ∈ (List.range 3).map (fun j => (616, j, 617 + 12 * j)) ∨ q ∈ xRM := by decide +kernel
def xrM : xQ := fun b i => (xRl.find? (fun q => q.1 == b && q.2.1 == i)).map (fun q => q.2.2)
theorem xRM_ok : ∀ q ∈ xRM, xrM q.1 q.2.1 = some q.2.2 ∧ 655 ≤ q.1 := by decide +kernel
theorem xRA_lt : ∀ q ∈ xRA, q.1 < 655 := by decide +kernel
/-- the references below 655 as they are made, those above as they will be -/
def xrU (r : xQ) : xQ := fun b i => if b < 655 then r b i else xrM b i
theorem xrU_lo {r : xQ} {b i : Nat} (h : b < 655) : xrU r b i = r b i := if_pos h
theorem xrU_hi {r : xQ} {b i : Nat} (h : 655 ≤ b) : xrU r b i = xrM b i := if_neg (by omega)
theorem xrU_rf {r : xQ} (hA : xAll r xRA) (h1 : ∀ j, j < 41 → r 118 j = some (119 + 12 * j)) (h2 : ∀ j, j < 3 → r 616 j = some (617 + 12 * j)) (s1 : xSr 80 r) (s2 : xSr 105 r) (s3 : ∀ j, j < 41 → xSr (119 + 12 * j) r) (s4 : ∀ j, j < 3 → xSr (617 + 12 * j) r) (l1 : xLr 22 r) (l2 : xLr 37 r) (n1 : xNr 16 r ∧ xNr 18 r ∧ xNr 20 r) : xRf (xrU r) := by
  refine ⟨fun q hq => ?_, fun s hs => ?_, l1.to (fun k => xrU_lo (by omega)) (fun k => xrU_lo (by omega)), l2.to (fun k => xrU_lo (by omega)) (fun k => xrU_lo (by omega)), (xrU_lo (by omega)).trans n1.1, (xrU_lo (by omega)).trans n1.2.1, (xrU_lo (by omega)).trans n1.2.2⟩
  · rcases xRl_parts q hq with h | h | h | h
    · rw [xrU_lo (xRA_lt q h)]
      exact hA.mem q h
    · obtain ⟨j, hj, rfl⟩ := List.mem_map.1 h
      exact (xrU_lo (show (118 : Nat) < 655 by decide)).trans (h1 j (List.mem_range.1 hj))
    · obtain ⟨j, hj, rfl⟩ := List.mem_map.1 h
      exact (xrU_lo (show (616 : Nat) < 655 by decide)).trans (h2 j (List.mem_range.1 hj))
    · obtain ⟨y1, y2⟩ := xRM_ok q h
      rw [xrU_hi y2]
      exact y1
  · rcases List.mem_append.1 hs with h | h
    · rcases List.mem_cons.1 h with rfl | h
      · exact s1.to (fun k => xrU_lo (by omega))
      · rcases List.mem_cons.1 h with rfl | h
        · exact s2.to (fun k => xrU_lo (by omega))
        · cases h
    · rcases List.mem_append.1 h with h | h
      · obtain ⟨j, hj, rfl⟩ := List.mem_map.1 h
        have hj := List.mem_range.1 hj
        exact (s3 j hj).to (fun k => xrU_lo (by omega))
      · obtain ⟨j, hj, rfl⟩ := List.mem_map.1 h
        have hj := List.mem_range.1 hj
        exact (s4 j hj).to (fun k => xrU_lo (by omega))
section POST
variable {g : xGT} {d nx : Nat} {u : xU} {w : xW} {r : xQ} {P : xPost}
/-- the boxes are made -/
theorem K_post_110 {r0 : xQ} : ∀ m i s (r : xQ), m + i = 3 → s = 617 + 12 * i → r 8 6 = some 616 → (∀ j, j < i → r 616 j = some (617 + 12 * j)) → (∀ j, j < i → xSr (617 + 12 * j) r) → rSm 616 653 r0 r → xZ s u w r →
    (∀ r', (∀ j, j < 3 → r' 616 j = some (617 + 12 * j)) → (∀ j, j < 3 → xSr (617 + 12 * j) r') → rSm 616 653 r0 r' → xZ 653 u w r' → xEv g (d + 2) mX11_init 134 [some (.ref 8), none] [] 653 u w r' 655 P) →
    xEv g (d + 2) mX11_init 110 [some (.ref 8), some (.int (nI i))] [] s u w r 655 P := by
  intro m
  induction m with
  | zero =>
    intro i s r hi hs h1 h2 h3 h4 hZ kk
    have ei : i = 3 := by omega
    subst ei
    have es : s = 653 := by omega
    subst es
    refine xe_iload_n dX11_init_110 rfl ?_
    refine xe_iconst (v := 3) dX11_init_111 rfl ?_
    refine xe_icmp_ge dX11_init_112 rfl (fun _ => ?_) (fun z => absurd (by decide) z)
    exact xEv.fewer (kk r h2 h3 h4 hZ) (xfw_get (xfw_s (xfw_n (xfw_nil _))))
  | succ m ih =>
    intro i s r hi hs h1 h2 h3 h4 hZ kk
    have hst : xSt s := by rw [hs]; exact stAll _ (srow616 i (by omega))
    refine xe_iload_n dX11_init_110 rfl ?_
    refine xe_iconst (v := 3) dX11_init_111 rfl ?_
    refine xe_icmp_ge dX11_init_112 rfl (fun z => absurd ((le_nI (a := 3) (by omega) (by omega)).1 z) (by omega)) (fun _ => ?_)
    refine xe_aload_n dX11_init_115 rfl ?_
    refine xe_getR dX11_init_116 flX11_65 kk8 (by omega) rfl h1 ?_
    refine xe_iload_n dX11_init_119 rfl ?_
    refine xe_new (ci := 9) dX11_init_120 rfl (xT_at 579 (by decide +kernel) (by decide +kernel)) (xT_at 445 (by decide +kernel) (by decide +kernel)) (xT_at 132 (by decide +kernel) (by decide +kernel)) hst.k0 hZ ?_
    refine xe_dup dX11_init_123 rfl ?_
    refine xe_callIN (args := []) (P1 := fun rv u1 w1 r1 => rv = none ∧ u = u1 ∧ w = w1 ∧ xSr s r1 ∧ (∀ b i, ¬ b = s → r1 b i = r b i) ∧ xZ (s + 12) u w r1) dX11_init_124 inX11_46 rfl rfl (Nat.le_of_ble_eq_true rfl) (C_State hst (hZ.le (Nat.le_succ _)) (fun r1 y1 y2 y3 => ⟨rfl, rfl, rfl, y1, y2, y3⟩)) (by omega) (fun rv1 u1 w1 r1 k => ?_)
    obtain ⟨rfl, rfl, rfl, y1, y2, y3⟩ := k
    refine xe_aastS dX11_init_127 kk616 (by omega) (vpn (by omega) (by omega)) hst.k0 (by omega) ?_
    rw [nc (by omega)]
    refine xe_iinc (v := nI (i + 1)) (ls' := [some (.ref 8), some (.int (nI (i + 1)))]) dX11_init_128 rfl (by decide) (nI_one _) rfl ?_
    refine xe_goto dX11_init_131 rfl ?_
    refine ih (i + 1) (s + 12) _ (by omega) (by omega) ((x2_a _ _ (by decide)).trans ((y2 8 6 (by omega)).trans h1)) (fun j hj => ?_) (fun j hj => ?_) (fun b k hb => (x2_a _ _ (by omega)).trans ((y2 b k (by omega)).trans (h4 b k hb))) (y3.pr (by omega)) kk
    · by_cases ej : j = i
      · subst ej
        rw [x2_same, hs]
      · exact (x2_i _ _ ej).trans ((y2 616 j (by omega)).trans (h2 j (by omega)))
    · by_cases ej : j = i
      · subst ej
        rw [← hs]
        exact y1.to (fun k => x2_a _ _ (by omega))
      · exact (h3 j (by omega)).to (fun k => (x2_a _ _ (by omega)).trans (y2 _ k (by omega)))
abbrev uZ : xU := fun _ _ => 0
abbrev wZ : xW := fun _ _ => 0
abbrev rZ : xQ := fun _ _ => none
abbrev uP : xU := x2 (x2 (x2 uZ 9 9 (-1)) 22 16 (-1)) 37 16 (-1)
set_option maxHeartbeats 4000000 in
theorem C_Post {N : Nat} {T : Nat → Int32} (kk : ∀ u' w' r', xRf r' → r' 8 10 = some 22 → r' 8 11 = some 37 → r' 52 1 = some 22 → kWd w' → bgn N T 22 D0 u' w' → xSm fBe uP u' → u' 611 5 = 0 → P none u' w' r') : xCall g (d + 6) mX11_init [.ref 8] 9 uZ wZ rZ 655 P := by
  have hZ0 : xZ 9 uZ wZ rZ := fun b i _ => ⟨rfl, rfl, rfl⟩
  refine xCall.of (ls := [some (.ref 8), none]) plX11 (Nat.le_of_ble_eq_true rfl) rfl ?_
  refine xe_aload_n dX11_init_0 rfl ?_
  refine xe_objInit dX11_init_1 (xT_at 144 (by decide +kernel) (by decide +kernel)) (Nat.le_of_ble_eq_true rfl) ?_
  refine xe_aload_n dX11_init_4 rfl ?_
  refine xe_new (ci := 7) dX11_init_5 rfl (xT_at 147 (by decide +kernel) (by decide +kernel)) (xT_at 148 (by decide +kernel) (by decide +kernel)) (xT_at 119 (by decide +kernel) (by decide +kernel)) kk9 hZ0 ?_
  refine xe_dup dX11_init_8 rfl ?_
  refine xe_callIN (args := []) (P1 := fun rv u1 w1 r1 => rv = none ∧ x2 uZ 9 9 (-1) = u1 ∧ kWd w1 ∧ (r1 9 0 = some 10 ∧ r1 9 1 = some 16 ∧ r1 9 2 = some 18 ∧ r1 9 3 = some 20 ∧ r1 10 0 = some 11 ∧ r1 10 2 = some 12 ∧ r1 10 3 = some 13 ∧ r1 10 4 = some 14 ∧ r1 10 6 = some 15) ∧ (xNr 16 r1 ∧ xNr 18 r1 ∧ xNr 20 r1) ∧ rSm 9 22 rZ r1 ∧ xZ 22 (x2 uZ 9 9 (-1)) w1 r1) dX11_init_9 inX11_9 rfl rfl (Nat.le_of_ble_eq_true rfl) (C_Reader (hZ0.le (Nat.le_succ _)) (fun w1 r1 y1 y2 y3 y4 y5 => ⟨rfl, rfl, y1, y2, y3, y4, y5⟩)) (Nat.le_of_ble_eq_true rfl) (fun rv1 u1 w1 r1 k => ?_)
  obtain ⟨rfl, rfl, kw, a1, n1, f1, hZ1⟩ := k
  refine xe_putRF (b := 9) dX11_init_12 flX11_10 kk8 (by omega) (fun q h => by cases h; exact ⟨rfl, rfl⟩) rfl rfl ?_
  have hZ1 := hZ1.pr (a := 8) (k := 0) (x := some 9) (by omega)
  refine xe_aload_n dX11_init_15 rfl ?_
  refine xe_new (ci := 2) dX11_init_16 rfl (xT_at 290 (by decide +kernel) (by decide +kernel)) (xT_at 291 (by decide +kernel) (by decide +kernel)) (xT_at 127 (by decide +kernel) (by decide +kernel)) ld22.k0 hZ1 ?_
  refine xe_dup dX11_init_19 rfl ?_
  refine xe_callIN (args := []) (P1 := fun rv u2 w2 r2 => rv = none ∧ x2 (x2 uZ 9 9 (-1)) 22 16 (-1) = u2 ∧ w1 = w2 ∧ xLr 22 r2 ∧ (∀ b i, ¬ b = 22 → ¬ b = 34 → r2 b i = x2 r1 8 0 (some 9) b i) ∧ xZ 37 (x2 (x2 uZ 9 9 (-1)) 22 16 (-1)) w1 r2) dX11_init_20 inX11_18 rfl rfl (Nat.le_of_ble_eq_true rfl) (C_Land (l := 22) ld22 (hZ1.le (Nat.le_succ _)) (fun r2 y1 y2 y3 => ⟨rfl, rfl, rfl, y1, y2, y3⟩)) (Nat.le_of_ble_eq_true rfl) (fun rv1 u2 w2 r2 k => ?_)
  obtain ⟨rfl, rfl, rfl, l2, f2, hZ2⟩ := k
  refine xe_putR (b := 22) dX11_init_23 flX11_19 kk8 (by omega) nf11_10 rfl ?_
  have hZ2 := hZ2.pr (a := 8) (k := 10) (x := some 22) (by omega)
  refine xe_aload_n dX11_init_26 rfl ?_
  refine xe_new (ci := 2) dX11_init_27 rfl (xT_at 290 (by decide +kernel) (by decide +kernel)) (xT_at 291 (by decide +kernel) (by decide +kernel)) (xT_at 127 (by decide +kernel) (by decide +kernel)) ld37.k0 hZ2 ?_
  refine xe_dup dX11_init_30 rfl ?_
  refine xe_callIN (args := []) (P1 := fun rv u2 w2 r3 => rv = none ∧ uP = u2 ∧ w1 = w2 ∧ xLr 37 r3 ∧ (∀ b i, ¬ b = 37 → ¬ b = 49 → r3 b i = x2 r2 8 10 (some 22) b i) ∧ xZ 52 uP w1 r3) dX11_init_31 inX11_18 rfl rfl (Nat.le_of_ble_eq_true rfl) (C_Land (l := 37) ld37 (hZ2.le (Nat.le_succ _)) (fun r2 y1 y2 y3 => ⟨rfl, rfl, rfl, y1, y2, y3⟩)) (Nat.le_of_ble_eq_true rfl) (fun rv1 u2 w2 r3 k => ?_)
  obtain ⟨rfl, rfl, rfl, l3, f3, hZ3⟩ := k
  generalize eUP : uP = uq at hZ3 kk ⊢
  refine xe_putR (b := 37) dX11_init_34 flX11_23 kk8 (by omega) nf11_11 rfl ?_
  have hZ3 := hZ3.pr (a := 8) (k := 11) (x := some 37) (by omega)
  refine xe_aload_n dX11_init_37 rfl ?_
  refine xe_new (ci := 0) dX11_init_38 rfl (xT_at 400 (by decide +kernel) (by decide +kernel)) (xT_at 401 (by decide +kernel) (by decide +kernel)) (xT_at 129 (by decide +kernel) (by decide +kernel)) kk52 hZ3 ?_
  refine xe_dup dX11_init_41 rfl ?_
  refine xe_aload_n dX11_init_42 rfl ?_
  refine xe_getR (b := 22) dX11_init_43 flX11_19 kk8 (by omega) rfl ((x2_i _ _ (by decide)).trans ((f3 8 10 (by decide) (by decide)).trans (x2_same _ _ _ _))) ?_
  refine xe_callI (args := [.ref 22]) (P1 := fun rv u2 w2 r4 => rv = none ∧ uq = u2 ∧ w1 = w2 ∧ (r4 52 0 = some 53 ∧ r4 52 1 = some 22 ∧ r4 54 0 = some 55 ∧ r4 54 1 = some 56 ∧ r4 54 2 = some 57 ∧ r4 54 3 = some 58 ∧ r4 54 4 = some 59 ∧ r4 54 5 = some 60 ∧ r4 54 6 = some 61 ∧ r4 53 0 = some 54 ∧ r4 62 0 = some 63 ∧ r4 62 1 = some 64 ∧ r4 62 2 = some 65 ∧ r4 62 3 = some 66 ∧ r4 62 4 = some 67 ∧ r4 62 5 = some 68 ∧ r4 62 6 = some 69 ∧ r4 53 1 = some 62 ∧ r4 70 0 = some 71 ∧ r4 70 1 = some 72 ∧ r4 70 2 = some 73 ∧ r4 70 3 = some 74 ∧ r4 70 4 = some 75 ∧ r4 70 5 = some 76 ∧ r4 70 6 = some 77 ∧ r4 53 2 = some 70 ∧ r4 53 3 = some 78) ∧ rSm 52 79 (x2 r3 8 11 (some 37)) r4 ∧ xZ 79 uq w1 r4) dX11_init_46 ilX11_28 rfl rfl (Nat.le_of_ble_eq_true rfl) (C_Course (hZ3.le (Nat.le_succ _)) (fun r2 y1 y2 y3 => ⟨rfl, rfl, rfl, y1, y2, y3⟩)) (Nat.le_of_ble_eq_true rfl) (fun rv1 u2 w2 r4 k => ?_)
  obtain ⟨rfl, rfl, rfl, a4, f4, hZ4⟩ := k
  refine xe_putRF (b := 52) dX11_init_49 flX11_31 kk8 (by omega) (fun q h => by cases h; exact ⟨rfl, rfl⟩) rfl rfl ?_
  have hZ4 := hZ4.pr (a := 8) (k := 1) (x := some 52) (by omega)
  refine xe_aload_n dX11_init_52 rfl ?_
  refine xe_new (ci := 3) dX11_init_53 rfl (xT_at 438 (by decide +kernel) (by decide +kernel)) (xT_at 439 (by decide +kernel) (by decide +kernel)) (xT_at 131 (by decide +kernel) (by decide +kernel)) kk79 hZ4 ?_
  refine xe_dup dX11_init_56 rfl ?_
  refine xe_aload_n dX11_init_57 rfl ?_
  refine xe_getR (b := 52) dX11_init_58 flX11_31 kk8 (by omega) rfl (x2_same _ _ _ _) ?_
  refine xe_callI (args := [.ref 52]) (P1 := fun rv u2 w2 r5 => rv = none ∧ uq = u2 ∧ w1 = w2 ∧ (r5 79 1 = some 80 ∧ r5 79 2 = some 92 ∧ r5 79 3 = some 93 ∧ r5 79 6 = some 94 ∧ r5 95 0 = some 96 ∧ r5 95 1 = some 97 ∧ r5 95 2 = some 98 ∧ r5 95 3 = some 99 ∧ r5 95 4 = some 100 ∧ r5 95 5 = some 101 ∧ r5 79 9 = some 95 ∧ r5 102 0 = some 103 ∧ r5 102 1 = some 104 ∧ r5 79 10 = some 102 ∧ r5 79 0 = some 52) ∧ xSr 80 r5 ∧ rSm 79 105 (x2 r4 8 1 (some 52)) r5 ∧ xZ 105 uq w1 r5) dX11_init_61 ilX11_37 rfl rfl (Nat.le_of_ble_eq_true rfl) (C_Look (hZ4.le (Nat.le_succ _)) (fun r2 y1 y2 y3 y4 => ⟨rfl, rfl, rfl, y1, y2, y3, y4⟩)) (Nat.le_of_ble_eq_true rfl) (fun rv1 u2 w2 r5 k => ?_)
  obtain ⟨rfl, rfl, rfl, a5, s5, f5, hZ5⟩ := k
  refine xe_putRF (b := 79) dX11_init_64 flX11_40 kk8 (by omega) (fun q h => by cases h; exact ⟨rfl, rfl⟩) rfl rfl ?_
  have hZ5 := hZ5.pr (a := 8) (k := 2) (x := some 79) (by omega)
  refine xe_aload_n dX11_init_67 rfl ?_
  refine xe_new (ci := 9) dX11_init_68 rfl (xT_at 579 (by decide +kernel) (by decide +kernel)) (xT_at 445 (by decide +kernel) (by decide +kernel)) (xT_at 132 (by decide +kernel) (by decide +kernel)) st105.k0 hZ5 ?_
  refine xe_dup dX11_init_71 rfl ?_
  refine xe_callIN (args := []) (P1 := fun rv u2 w2 r6 => rv = none ∧ uq = u2 ∧ w1 = w2 ∧ xSr 105 r6 ∧ (∀ b i, ¬ b = 105 → r6 b i = x2 r5 8 2 (some 79) b i) ∧ xZ 117 uq w1 r6) dX11_init_72 inX11_46 rfl rfl (Nat.le_of_ble_eq_true rfl) (C_State (s := 105) st105 (hZ5.le (Nat.le_succ _)) (fun r2 y1 y2 y3 => ⟨rfl, rfl, rfl, y1, y2, y3⟩)) (Nat.le_of_ble_eq_true rfl) (fun rv1 u2 w2 r6 k => ?_)
  obtain ⟨rfl, rfl, rfl, s6, f6, hZ6⟩ := k
  refine xe_putRF (b := 105) dX11_init_75 flX11_47 kk8 (by omega) (fun q h => by cases h; exact ⟨rfl, rfl⟩) rfl rfl ?_
  have hZ6 := hZ6.pr (a := 8) (k := 3) (x := some 105) (by omega)
  refine xe_aload_n dX11_init_78 rfl ?_
  refine xe_new (ci := 6) dX11_init_79 rfl (xT_at 581 (by decide +kernel) (by decide +kernel)) (xT_at 582 (by decide +kernel) (by decide +kernel)) (xT_at 133 (by decide +kernel) (by decide +kernel)) kk117 hZ6 ?_
  refine xe_dup dX11_init_82 rfl ?_
  refine xe_callI (args := []) (P1 := fun rv u2 w2 r7 => rv = none ∧ uq = u2 ∧ w1 = w2 ∧ r7 117 0 = some 118 ∧ (∀ j, j < 41 → r7 118 j = some (119 + 12 * j)) ∧ (∀ j, j < 41 → xSr (119 + 12 * j) r7) ∧ rSm 117 611 (x2 r6 8 3 (some 105)) r7 ∧ xZ 611 uq w1 r7) dX11_init_83 ilX11_53 rfl rfl (Nat.le_of_ble_eq_true rfl) (C_Past (hZ6.le (Nat.le_succ _)) (fun r2 y1 y2 y3 y4 y5 => ⟨rfl, rfl, rfl, y1, y2, y3, y4, y5⟩)) (Nat.le_of_ble_eq_true rfl) (fun rv1 u2 w2 r7 k => ?_)
  obtain ⟨rfl, rfl, rfl, a7, b7', s7, f7, hZ7⟩ := k
  refine xe_putRF (b := 117) dX11_init_86 flX11_54 kk8 (by omega) (fun q h => by cases h; exact ⟨rfl, rfl⟩) rfl rfl ?_
  have hZ7 := hZ7.pr (a := 8) (k := 4) (x := some 117) (by omega)
  refine xe_aload_n dX11_init_89 rfl ?_
  refine xe_new (ci := 4) dX11_init_90 rfl (xT_at 603 (by decide +kernel) (by decide +kernel)) (xT_at 604 (by decide +kernel) (by decide +kernel)) (xT_at 134 (by decide +kernel) (by decide +kernel)) kk611 hZ7 ?_
  refine xe_dup dX11_init_93 rfl ?_
  refine xe_callIN (args := []) (P1 := fun rv u2 w2 r8 => rv = none ∧ uq = u2 ∧ w1 = w2 ∧ (r8 611 0 = some 612 ∧ r8 611 1 = some 613 ∧ r8 611 2 = some 614 ∧ r8 611 3 = some 615) ∧ rSm 611 616 (x2 r7 8 4 (some 117)) r8 ∧ xZ 616 uq w1 r8) dX11_init_94 inX11_60 rfl rfl (Nat.le_of_ble_eq_true rfl) (C_Lore (hZ7.le (Nat.le_succ _)) (fun r2 y1 y2 y3 => ⟨rfl, rfl, rfl, y1, y2, y3⟩)) (Nat.le_of_ble_eq_true rfl) (fun rv1 u2 w2 r8 k => ?_)
  obtain ⟨rfl, rfl, rfl, a8, f8, hZ8⟩ := k
  refine xe_putRF (b := 611) dX11_init_97 flX11_61 kk8 (by omega) (fun q h => by cases h; exact ⟨rfl, rfl⟩) rfl rfl ?_
  have hZ8 := hZ8.pr (a := 8) (k := 5) (x := some 611) (by omega)
  refine xe_aload_n dX11_init_100 rfl ?_
  refine xe_iconst (v := 3) dX11_init_101 rfl ?_
  refine xe_anewS (n := 3) dX11_init_102 (xT_at 579 (by decide +kernel) (by decide +kernel)) (fun s z => z.2.2.1.2.1) rfl (by omega) kk616 hZ8 ?_
  refine xe_putRF (b := 616) dX11_init_105 flX11_65 kk8 (by omega) (fun q h => by cases h; exact ⟨rfl, rfl⟩) rfl rfl ?_
  have hZ9 := (hZ8.le (Nat.le_succ _)).pr (a := 8) (k := 6) (x := some 616) (by omega)
  refine xe_iconst (v := 0) dX11_init_108 rfl ?_
  refine xe_istore_n (i := 1) (ls' := [some (.ref 8), some (.int (nI 0))]) dX11_init_109 rfl (by decide) rfl ?_
  refine K_post_110 (d := d + 4) (r0 := x2 (x2 r8 8 5 (some 611)) 8 6 (some 616)) 3 0 617 _ rfl rfl (x2_same _ _ _ _) (fun j hj => absurd hj (Nat.not_lt_zero _)) (fun j hj => absurd hj (Nat.not_lt_zero _)) (fun b k hb => rfl) hZ9 (fun r9 a9 s9 f9 hZ9 => ?_)
  refine xe_aload_n dX11_init_134 rfl ?_
  refine xe_iconst (v := 3) dX11_init_135 rfl ?_
  refine xe_newa (n := 3) (ty := .boolean) dX11_init_136 rfl acZ rfl (by omega) (by simp) (by decide +kernel) hZ9 ?_
  refine xe_putRF (b := 653) dX11_init_138 flX11_69 kk8 (by omega) (fun q h => by cases h; exact ⟨rfl, rfl⟩) rfl rfl ?_
  have hZ10 := (hZ9.le (Nat.le_succ _)).pr (a := 8) (k := 7) (x := some 653) (by omega)
  refine xe_aload_n dX11_init_141 rfl ?_
  refine xe_sipush (v := 300) dX11_init_142 rfl ?_
  refine xe_newa (n := 300) (ty := .int) dX11_init_145 rfl acI rfl (by omega) (by simp) (by decide +kernel) hZ10 ?_
  refine xe_putRF (b := 654) dX11_init_147 flX11_73 kk8 (by omega) (fun q h => by cases h; exact ⟨rfl, rfl⟩) rfl rfl ?_
  refine xe_aload_n dX11_init_150 rfl ?_
  have f1n : ∀ i, r1 8 i = none := fun i => f1 8 i (by omega)
  have key : ∀ i, (x2 (x2 r9 8 7 (some 653)) 8 8 (some 654)) 8 i = if i = 8 then some 654 else if i = 7 then some 653 else if i = 6 then some 616 else if i = 5 then some 611 else if i = 4 then some 117 else if i = 3 then some 105 else if i = 2 then some 79 else if i = 1 then some 52 else if i = 11 then some 37 else if i = 10 then some 22 else if i = 0 then some 9 else none := fun i => by
    rw [x2_8, x2_8, f9 8 i (by omega), x2_8, x2_8, f8 8 i (by omega), x2_8, f7 8 i (by omega), x2_8, f6 8 i (by omega), x2_8, f5 8 i (by omega), x2_8, f4 8 i (by omega), x2_8, f3 8 i (by omega) (by omega), x2_8, f2 8 i (by omega) (by omega), x2_8, f1n]
  have G9 : ∀ b i, ¬ b = 8 → (x2 (x2 r9 8 7 (some 653)) 8 8 (some 654)) b i = r9 b i := fun b i h => (x2_a _ _ h).trans (x2_a _ _ h)
  generalize x2 (x2 r9 8 7 (some 653)) 8 8 (some 654) = rF at key G9 ⊢
  have G8 : ∀ b i, ¬ b = 8 → b < 616 → rF b i = r8 b i := fun b i h h2 => (G9 b i h).trans ((f9 b i (by omega)).trans ((x2_a _ _ h).trans (x2_a _ _ h)))
  have G7 : ∀ b i, ¬ b = 8 → b < 611 → rF b i = r7 b i := fun b i h h2 => (G8 b i h (by omega)).trans ((f8 b i (by omega)).trans (x2_a _ _ h))
  have G6 : ∀ b i, ¬ b = 8 → b < 117 → rF b i = r6 b i := fun b i h h2 => (G7 b i h (by omega)).trans ((f7 b i (by omega)).trans (x2_a _ _ h))
  have G5 : ∀ b i, ¬ b = 8 → b < 105 → rF b i = r5 b i := fun b i h h2 => (G6 b i h (by omega)).trans ((f6 b i (by omega)).trans (x2_a _ _ h))
  have G4 : ∀ b i, ¬ b = 8 → b < 79 → rF b i = r4 b i := fun b i h h2 => (G5 b i h (by omega)).trans ((f5 b i (by omega)).trans (x2_a _ _ h))
  have G3 : ∀ b i, ¬ b = 8 → b < 52 → rF b i = r3 b i := fun b i h h2 => (G4 b i h (by omega)).trans ((f4 b i (by omega)).trans (x2_a _ _ h))
  have G2 : ∀ b i, ¬ b = 8 → b < 37 → rF b i = r2 b i := fun b i h h2 => (G3 b i h (by omega)).trans ((f3 b i (by omega) (by omega)).trans (x2_a _ _ h))
  have G1 : ∀ b i, ¬ b = 8 → b < 22 → rF b i = r1 b i := fun b i h h2 => (G2 b i h (by omega)).trans ((f2 b i (by omega) (by omega)).trans (x2_a _ _ h))
  have hA : xAll rF xRA := ⟨key 0, key 1, key 2, key 3, key 4, key 5, key 6, key 7, key 8, (G1 9 0 (by decide) (by decide)).trans a1.1, (G1 9 1 (by decide) (by decide)).trans a1.2.1, (G1 9 2 (by decide) (by decide)).trans a1.2.2.1, (G1 9 3 (by decide) (by decide)).trans a1.2.2.2.1, (G1 10 0 (by decide) (by decide)).trans a1.2.2.2.2.1, (G1 10 2 (by decide) (by decide)).trans a1.2.2.2.2.2.1, (G1 10 3 (by decide) (by decide)).trans a1.2.2.2.2.2.2.1, (G1 10 4 (by decide) (by decide)).trans a1.2.2.2.2.2.2.2.1, (G1 10 6 (by decide) (by decide)).trans a1.2.2.2.2.2.2.2.2, (G4 52 0 (by decide) (by decide)).trans a4.1, (G4 53 0 (by decide) (by decide)).trans a4.2.2.2.2.2.2.2.2.2.1, (G4 53 1 (by decide) (by decide)).trans a4.2.2.2.2.2.2.2.2.2.2.2.2.2.2.2.2.2.1, (G4 53 2 (by decide) (by decide)).trans a4.2.2.2.2.2.2.2.2.2.2.2.2.2.2.2.2.2.2.2.2.2.2.2.2.2.1, (G4 53 3 (by decide) (by decide)).trans a4.2.2.2.2.2.2.2.2.2.2.2.2.2.2.2.2.2.2.2.2.2.2.2.2.2.2, (G4 54 0 (by decide) (by decide)).trans a4.2.2.1, (G4 54 1 (by decide) (by decide)).trans a4.2.2.2.1, (G4 54 2 (by decide) (by decide)).trans a4.2.2.2.2.1, (G4 54 3 (by decide) (by decide)).trans a4.2.2.2.2.2.1, (G4 54 4 (by decide) (by decide)).trans a4.2.2.2.2.2.2.1, (G4 54 5 (by decide) (by decide)).trans a4.2.2.2.2.2.2.2.1, (G4 54 6 (by decide) (by decide)).trans a4.2.2.2.2.2.2.2.2.1, (G4 62 0 (by decide) (by decide)).trans a4.2.2.2.2.2.2.2.2.2.2.1, (G4 62 1 (by decide) (by decide)).trans a4.2.2.2.2.2.2.2.2.2.2.2.1, (G4 62 2 (by decide) (by decide)).trans a4.2.2.2.2.2.2.2.2.2.2.2.2.1, (G4 62 3 (by decide) (by decide)).trans a4.2.2.2.2.2.2.2.2.2.2.2.2.2.1, (G4 62 4 (by decide) (by decide)).trans a4.2.2.2.2.2.2.2.2.2.2.2.2.2.2.1, (G4 62 5 (by decide) (by decide)).trans a4.2.2.2.2.2.2.2.2.2.2.2.2.2.2.2.1, (G4 62 6 (by decide) (by decide)).trans a4.2.2.2.2.2.2.2.2.2.2.2.2.2.2.2.2.1, (G4 70 0 (by decide) (by decide)).trans a4.2.2.2.2.2.2.2.2.2.2.2.2.2.2.2.2.2.2.1, (G4 70 1 (by decide) (by decide)).trans a4.2.2.2.2.2.2.2.2.2.2.2.2.2.2.2.2.2.2.2.1, (G4 70 2 (by decide) (by decide)).trans a4.2.2.2.2.2.2.2.2.2.2.2.2.2.2.2.2.2.2.2.2.1, (G4 70 3 (by decide) (by decide)).trans a4.2.2.2.2.2.2.2.2.2.2.2.2.2.2.2.2.2.2.2.2.2.1, (G4 70 4 (by decide) (by decide)).trans a4.2.2.2.2.2.2.2.2.2.2.2.2.2.2.2.2.2.2.2.2.2.2.1, (G4 70 5 (by decide) (by decide)).trans a4.2.2.2.2.2.2.2.2.2.2.2.2.2.2.2.2.2.2.2.2.2.2.2.1, (G4 70 6 (by decide) (by decide)).trans a4.2.2.2.2.2.2.2.2.2.2.2.2.2.2.2.2.2.2.2.2.2.2.2.2.1, (G5 79 0 (by decide) (by decide)).trans a5.2.2.2.2.2.2.2.2.2.2.2.2.2.2, (G5 79 1 (by decide) (by decide)).trans a5.1, (G5 79 2 (by decide) (by decide)).trans a5.2.1, (G5 79 3 (by decide) (by decide)).trans a5.2.2.1, (G5 79 6 (by decide) (by decide)).trans a5.2.2.2.1, (G5 79 9 (by decide) (by decide)).trans a5.2.2.2.2.2.2.2.2.2.2.1, (G5 79 10 (by decide) (by decide)).trans a5.2.2.2.2.2.2.2.2.2.2.2.2.2.1, (G5 95 0 (by decide) (by decide)).trans a5.2.2.2.2.1, (G5 95 1 (by decide) (by decide)).trans a5.2.2.2.2.2.1, (G5 95 2 (by decide) (by decide)).trans a5.2.2.2.2.2.2.1, (G5 95 3 (by decide) (by decide)).trans a5.2.2.2.2.2.2.2.1, (G5 95 4 (by decide) (by decide)).trans a5.2.2.2.2.2.2.2.2.1, (G5 95 5 (by decide) (by decide)).trans a5.2.2.2.2.2.2.2.2.2.1, (G5 102 0 (by decide) (by decide)).trans a5.2.2.2.2.2.2.2.2.2.2.2.1, (G5 102 1 (by decide) (by decide)).trans a5.2.2.2.2.2.2.2.2.2.2.2.2.1, (G7 117 0 (by decide) (by decide)).trans a7, (G8 611 0 (by decide) (by decide)).trans a8.1, (G8 611 1 (by decide) (by decide)).trans a8.2.1, (G8 611 2 (by decide) (by decide)).trans a8.2.2.1, (G8 611 3 (by decide) (by decide)).trans a8.2.2.2, trivial⟩
  have hrf : xRf (xrU rF) := xrU_rf hA (fun j hj => (G7 118 j (by decide) (by decide)).trans (b7' j hj)) (fun j hj => (G9 616 j (by decide)).trans (a9 j hj)) (s5.to (fun k => G5 80 k (by decide) (by decide))) (s6.to (fun k => G6 105 k (by decide) (by decide))) (fun j hj => (s7 j hj).to (fun k => G7 _ k (by omega) (by omega))) (fun j hj => (s9 j hj).to (fun k => G9 _ k (by omega))) (l2.to (fun k => G2 22 k (by decide) (by decide)) (fun k => G2 34 k (by decide) (by decide))) (l3.to (fun k => G3 37 k (by decide) (by decide)) (fun k => G3 49 k (by decide) (by decide))) ⟨(G1 16 0 (by decide) (by decide)).trans n1.1, (G1 18 0 (by decide) (by decide)).trans n1.2.1, (G1 20 0 (by decide) (by decide)).trans n1.2.2⟩
  have t10 : xrU rF 8 10 = some 22 := (xrU_lo (by decide)).trans (key 10)
  have t11 : xrU rF 8 11 = some 37 := (xrU_lo (by decide)).trans (key 11)
  refine xEv.cg (u' := uq) (w' := w1) (r' := xrU rF) ?_ (fun b i hb => ⟨rfl, rfl, xrU_lo hb⟩)
  generalize xrU rF = rG at hrf t10 t11
  have hD : cD N T 22 D0 uq w1 := by
    rw [← eUP]
    exact ⟨⟨rfl, fun i hi => absurd hi (Nat.not_lt_zero _)⟩, ⟨rfl, fun i hi => absurd hi (Nat.not_lt_zero _)⟩, ⟨rfl, fun i hi => absurd hi (Nat.not_lt_zero _)⟩, rfl, ⟨rfl, fun i hi => absurd hi (Nat.not_lt_zero _)⟩, ⟨rfl, fun i hi => absurd hi (Nat.not_lt_zero _)⟩, ⟨rfl, fun i hi => absurd hi (Nat.not_lt_zero _)⟩, rfl, rfl, fun _ => ⟨rfl, rfl⟩, fun z => absurd (show (0 : Nat) = 1 from z) (by decide), rfl, rfl, fun i hi => absurd hi (Nat.not_lt_zero _)⟩
  refine xe_callV (args := []) (P1 := fun rv u2 w2 r2 => rv = none ∧ w1 = w2 ∧ x2 rG 52 1 (some 22) = r2 ∧ bgn N T 22 D0 u2 w1 ∧ xSm fBe uq u2 ∧ u2 611 5 = uq 611 5) dX11_init_151 vlX11_77 rfl rfl (Nat.le_of_ble_eq_true rfl) kk8 (by omega) rfl rfl (K_startAnew_5 (d := d + 1) (l := 22) hrf (Or.inl rfl) t10 (oD_0 N T) hD (fun u' y1 y2 y3 => ⟨rfl, rfl, rfl, y1, y2, y3⟩)) (Nat.le_refl _) (fun rv1 u2 w2 r2 k => ?_)
  obtain ⟨rfl, rfl, rfl, bg, fb, f5⟩ := k
  have e5 : uq 611 5 = 0 := by rw [← eUP]; rfl
  exact xe_return dX11_init_154 trivial (kk u2 w1 _ (hrf.upd (fun b i h1 h2 h3 => x2_ne _ _ h2)) ((x2_ne _ _ (by decide)).trans t10) ((x2_ne _ _ (by decide)).trans t11) (x2_same _ _ _ _) kw bg fb (f5.trans e5))
end POST
