/-! THE CONSTRUCTORS -/
theorem acB : Cond.arrayClass .byte ∈ xT := xT_at 236 (by decide +kernel) (by decide +kernel)
theorem acI : Cond.arrayClass .int ∈ xT := xT_at 237 (by decide +kernel) (by decide +kernel)
theorem acJ : Cond.arrayClass .long ∈ xT := xT_at 238 (by decide +kernel) (by decide +kernel)
theorem acZ : Cond.arrayClass .boolean ∈ xT := xT_at 630 (by decide +kernel) (by decide +kernel)
abbrev rSm (lo hi : Nat) (r r' : xQ) : Prop := ∀ b i, ¬ (lo ≤ b ∧ b < hi) → r' b i = r b i
section CTOR
variable {g : xGT} {d : Nat} {u : xU} {w : xW} {r : xQ} {P : xPost}
/-- a state is made -/
theorem C_State {s : Nat} (h_s : xSt s) (hZ : xZ (s + 1) u w r) (kk : ∀ r', xSr s r' → (∀ b i, ¬ b = s → r' b i = r b i) → xZ (s + 12) u w r' → P none u w r') : xCall g (d + 1) mX9_init [.ref s] (s + 1) u w r (s + 12) P := by
  refine xCall.of (ls := [some (.ref s)]) plX9 (Nat.le_of_ble_eq_true rfl) rfl ?_
  refine xe_aload_n dX9_init_0 rfl ?_
  refine xe_objInit dX9_init_1 (xT_at 449 (by decide +kernel) (by decide +kernel)) (Nat.le_of_ble_eq_true rfl) ?_
  refine xe_aload_n dX9_init_4 rfl ?_
  refine xe_bipush (v := 6) dX9_init_5 rfl ?_
  refine xe_newa (n := 6) (ty := .int) dX9_init_7 rfl acI rfl (by omega) (Or.inl rfl) h_s.k1 hZ ?_
  refine xe_putRF (b := s + 1) dX9_init_9 flX9_9 h_s.k0 (by omega) (fun q h => by cases h; exact ⟨rfl, rfl⟩) rfl rfl ?_
  have hZ := (hZ.le (Nat.le_succ _)).pr (a := s) (k := 3) (x := some (s + 1)) (by omega)
  refine xe_aload_n dX9_init_12 rfl ?_
  refine xe_bipush (v := 6) dX9_init_13 rfl ?_
  refine xe_newa (n := 6) (ty := .int) dX9_init_15 rfl acI rfl (by omega) (Or.inl rfl) h_s.k2 hZ ?_
  refine xe_putRF (b := s + 2) dX9_init_17 flX9_15 h_s.k0 (by omega) (fun q h => by cases h; exact ⟨rfl, rfl⟩) rfl rfl ?_
  have hZ := (hZ.le (Nat.le_succ _)).pr (a := s) (k := 4) (x := some (s + 2)) (by omega)
  refine xe_aload_n dX9_init_20 rfl ?_
  refine xe_bipush (v := 6) dX9_init_21 rfl ?_
  refine xe_newa (n := 6) (ty := .int) dX9_init_23 rfl acI rfl (by omega) (Or.inl rfl) h_s.k3 hZ ?_
  refine xe_putRF (b := s + 3) dX9_init_25 flX9_18 h_s.k0 (by omega) (fun q h => by cases h; exact ⟨rfl, rfl⟩) rfl rfl ?_
  have hZ := (hZ.le (Nat.le_succ _)).pr (a := s) (k := 5) (x := some (s + 3)) (by omega)
  refine xe_aload_n dX9_init_28 rfl ?_
  refine xe_bipush (v := 6) dX9_init_29 rfl ?_
  refine xe_newa (n := 6) (ty := .int) dX9_init_31 rfl acI rfl (by omega) (Or.inl rfl) h_s.k4 hZ ?_
  refine xe_putRF (b := s + 4) dX9_init_33 flX9_21 h_s.k0 (by omega) (fun q h => by cases h; exact ⟨rfl, rfl⟩) rfl rfl ?_
  have hZ := (hZ.le (Nat.le_succ _)).pr (a := s) (k := 6) (x := some (s + 4)) (by omega)
  refine xe_aload_n dX9_init_36 rfl ?_
  refine xe_bipush (v := 10) dX9_init_37 rfl ?_
  refine xe_newa (n := 10) (ty := .int) dX9_init_39 rfl acI rfl (by omega) (Or.inl rfl) h_s.k5 hZ ?_
  refine xe_putRF (b := s + 5) dX9_init_41 flX9_24 h_s.k0 (by omega) (fun q h => by cases h; exact ⟨rfl, rfl⟩) rfl rfl ?_
  have hZ := (hZ.le (Nat.le_succ _)).pr (a := s) (k := 7) (x := some (s + 5)) (by omega)
  refine xe_aload_n dX9_init_44 rfl ?_
  refine xe_bipush (v := 10) dX9_init_45 rfl ?_
  refine xe_newa (n := 10) (ty := .int) dX9_init_47 rfl acI rfl (by omega) (Or.inl rfl) h_s.k6 hZ ?_
  refine xe_putRF (b := s + 6) dX9_init_49 flX9_27 h_s.k0 (by omega) (fun q h => by cases h; exact ⟨rfl, rfl⟩) rfl rfl ?_
  have hZ := (hZ.le (Nat.le_succ _)).pr (a := s) (k := 8) (x := some (s + 6)) (by omega)
  refine xe_aload_n dX9_init_52 rfl ?_
  refine xe_bipush (v := 10) dX9_init_53 rfl ?_
  refine xe_newa (n := 10) (ty := .int) dX9_init_55 rfl acI rfl (by omega) (Or.inl rfl) h_s.k7 hZ ?_
  refine xe_putRF (b := s + 7) dX9_init_57 flX9_30 h_s.k0 (by omega) (fun q h => by cases h; exact ⟨rfl, rfl⟩) rfl rfl ?_
  have hZ := (hZ.le (Nat.le_succ _)).pr (a := s) (k := 9) (x := some (s + 7)) (by omega)
  refine xe_aload_n dX9_init_60 rfl ?_
  refine xe_bipush (v := 10) dX9_init_61 rfl ?_
  refine xe_newa (n := 10) (ty := .int) dX9_init_63 rfl acI rfl (by omega) (Or.inl rfl) h_s.k8 hZ ?_
  refine xe_putRF (b := s + 8) dX9_init_65 flX9_33 h_s.k0 (by omega) (fun q h => by cases h; exact ⟨rfl, rfl⟩) rfl rfl ?_
  have hZ := (hZ.le (Nat.le_succ _)).pr (a := s) (k := 10) (x := some (s + 8)) (by omega)
  refine xe_aload_n dX9_init_68 rfl ?_
  refine xe_bipush (v := 10) dX9_init_69 rfl ?_
  refine xe_newa (n := 10) (ty := .int) dX9_init_71 rfl acI rfl (by omega) (Or.inl rfl) h_s.k9 hZ ?_
  refine xe_putRF (b := s + 9) dX9_init_73 flX9_36 h_s.k0 (by omega) (fun q h => by cases h; exact ⟨rfl, rfl⟩) rfl rfl ?_
  have hZ := (hZ.le (Nat.le_succ _)).pr (a := s) (k := 11) (x := some (s + 9)) (by omega)
  refine xe_aload_n dX9_init_76 rfl ?_
  refine xe_bipush (v := 10) dX9_init_77 rfl ?_
  refine xe_newa (n := 10) (ty := .int) dX9_init_79 rfl acI rfl (by omega) (Or.inl rfl) h_s.k10 hZ ?_
  refine xe_putRF (b := s + 10) dX9_init_81 flX9_39 h_s.k0 (by omega) (fun q h => by cases h; exact ⟨rfl, rfl⟩) rfl rfl ?_
  have hZ := (hZ.le (Nat.le_succ _)).pr (a := s) (k := 12) (x := some (s + 10)) (by omega)
  refine xe_aload_n dX9_init_84 rfl ?_
  refine xe_bipush (v := 10) dX9_init_85 rfl ?_
  refine xe_newa (n := 10) (ty := .int) dX9_init_87 rfl acI rfl (by omega) (Or.inl rfl) h_s.k11 hZ ?_
  refine xe_putRF (b := s + 11) dX9_init_89 flX9_42 h_s.k0 (by omega) (fun q h => by cases h; exact ⟨rfl, rfl⟩) rfl rfl ?_
  have hZ := (hZ.le (Nat.le_succ _)).pr (a := s) (k := 13) (x := some (s + 11)) (by omega)
  exact xe_return dX9_init_92 trivial (kk _ ⟨(x2_i _ _ (by decide)).trans ((x2_i _ _ (by decide)).trans ((x2_i _ _ (by decide)).trans ((x2_i _ _ (by decide)).trans ((x2_i _ _ (by decide)).trans ((x2_i _ _ (by decide)).trans ((x2_i _ _ (by decide)).trans ((x2_i _ _ (by decide)).trans ((x2_i _ _ (by decide)).trans ((x2_i _ _ (by decide)).trans (x2_same _ _ _ _)))))))))), (x2_i _ _ (by decide)).trans ((x2_i _ _ (by decide)).trans ((x2_i _ _ (by decide)).trans ((x2_i _ _ (by decide)).trans ((x2_i _ _ (by decide)).trans ((x2_i _ _ (by decide)).trans ((x2_i _ _ (by decide)).trans ((x2_i _ _ (by decide)).trans ((x2_i _ _ (by decide)).trans (x2_same _ _ _ _))))))))), (x2_i _ _ (by decide)).trans ((x2_i _ _ (by decide)).trans ((x2_i _ _ (by decide)).trans ((x2_i _ _ (by decide)).trans ((x2_i _ _ (by decide)).trans ((x2_i _ _ (by decide)).trans ((x2_i _ _ (by decide)).trans ((x2_i _ _ (by decide)).trans (x2_same _ _ _ _)))))))), (x2_i _ _ (by decide)).trans ((x2_i _ _ (by decide)).trans ((x2_i _ _ (by decide)).trans ((x2_i _ _ (by decide)).trans ((x2_i _ _ (by decide)).trans ((x2_i _ _ (by decide)).trans ((x2_i _ _ (by decide)).trans (x2_same _ _ _ _))))))), (x2_i _ _ (by decide)).trans ((x2_i _ _ (by decide)).trans ((x2_i _ _ (by decide)).trans ((x2_i _ _ (by decide)).trans ((x2_i _ _ (by decide)).trans ((x2_i _ _ (by decide)).trans (x2_same _ _ _ _)))))), (x2_i _ _ (by decide)).trans ((x2_i _ _ (by decide)).trans ((x2_i _ _ (by decide)).trans ((x2_i _ _ (by decide)).trans ((x2_i _ _ (by decide)).trans (x2_same _ _ _ _))))), (x2_i _ _ (by decide)).trans ((x2_i _ _ (by decide)).trans ((x2_i _ _ (by decide)).trans ((x2_i _ _ (by decide)).trans (x2_same _ _ _ _)))), (x2_i _ _ (by decide)).trans ((x2_i _ _ (by decide)).trans ((x2_i _ _ (by decide)).trans (x2_same _ _ _ _))), (x2_i _ _ (by decide)).trans ((x2_i _ _ (by decide)).trans (x2_same _ _ _ _)), (x2_i _ _ (by decide)).trans (x2_same _ _ _ _), x2_same _ _ _ _⟩ (fun b i hb => (x2_a _ _ (by omega)).trans ((x2_a _ _ (by omega)).trans ((x2_a _ _ (by omega)).trans ((x2_a _ _ (by omega)).trans ((x2_a _ _ (by omega)).trans ((x2_a _ _ (by omega)).trans ((x2_a _ _ (by omega)).trans ((x2_a _ _ (by omega)).trans ((x2_a _ _ (by omega)).trans ((x2_a _ _ (by omega)).trans ((x2_a _ _ (by omega)).trans (rfl)))))))))))) hZ)
theorem C_Formula {f : Nat} (h_f : xFm f) (hZ : xZ (f + 1) u w r) (kk : ∀ r', xFr1 f r' → (∀ b i, ¬ b = f → r' b i = r b i) → xZ (f + 3) u w r' → P none u w r') : xCall g (d + 1) mX1_init [.ref f] (f + 1) u w r (f + 3) P := by
  refine xCall.of (ls := [some (.ref f)]) plX1 (Nat.le_of_ble_eq_true rfl) rfl ?_
  refine xe_aload_n dX1_init_0 rfl ?_
  refine xe_objInit dX1_init_1 (xT_at 301 (by decide +kernel) (by decide +kernel)) (Nat.le_of_ble_eq_true rfl) ?_
  refine xe_aload_n dX1_init_4 rfl ?_
  refine xe_sipush (v := 270) dX1_init_5 rfl ?_
  refine xe_newa (n := 270) (ty := .int) dX1_init_8 rfl acI rfl (by omega) (Or.inl rfl) h_f.2.1 hZ ?_
  refine xe_putRF (b := f + 1) dX1_init_10 flX1_9 h_f.1 (by omega) (fun q h => by cases h; exact ⟨rfl, rfl⟩) rfl rfl ?_
  have hZ := (hZ.le (Nat.le_succ _)).pr (a := f) (k := 0) (x := some (f + 1)) (by omega)
  refine xe_aload_n dX1_init_13 rfl ?_
  refine xe_bipush (v := 30) dX1_init_14 rfl ?_
  refine xe_newa (n := 30) (ty := .int) dX1_init_16 rfl acI rfl (by omega) (Or.inl rfl) h_f.2.2 hZ ?_
  refine xe_putRF (b := f + 2) dX1_init_18 flX1_13 h_f.1 (by omega) (fun q h => by cases h; exact ⟨rfl, rfl⟩) rfl rfl ?_
  have hZ := (hZ.le (Nat.le_succ _)).pr (a := f) (k := 1) (x := some (f + 2)) (by omega)
  exact xe_return dX1_init_21 trivial (kk _ ⟨(x2_i _ _ (by decide)).trans (x2_same _ _ _ _), x2_same _ _ _ _⟩ (fun b i hb => (x2_a _ _ (by omega)).trans ((x2_a _ _ (by omega)).trans (rfl))) hZ)
theorem C_Land {l : Nat} (h_l : xLd l) (hZ : xZ (l + 1) u w r) (kk : ∀ r', xLr l r' → (∀ b i, ¬ b = l → ¬ b = l + 12 → r' b i = r b i) → xZ (l + 15) (x2 u l 16 (-1)) w r' → P none (x2 u l 16 (-1)) w r') : xCall g (d + 2) mX2_init [.ref l] (l + 1) u w r (l + 15) P := by
  refine xCall.of (ls := [some (.ref l)]) plX2 (Nat.le_of_ble_eq_true rfl) rfl ?_
  refine xe_aload_n dX2_init_0 rfl ?_
  refine xe_objInit dX2_init_1 (xT_at 295 (by decide +kernel) (by decide +kernel)) (Nat.le_of_ble_eq_true rfl) ?_
  refine xe_aload_n dX2_init_4 rfl ?_
  refine xe_bipush (v := 12) dX2_init_5 rfl ?_
  refine xe_newa (n := 12) (ty := .int) dX2_init_7 rfl acI rfl (by omega) (Or.inl rfl) h_l.k1 hZ ?_
  refine xe_putRF (b := l + 1) dX2_init_9 flX2_9 h_l.k0 (by omega) (fun q h => by cases h; exact ⟨rfl, rfl⟩) rfl rfl ?_
  have hZ := (hZ.le (Nat.le_succ _)).pr (a := l) (k := 2) (x := some (l + 1)) (by omega)
  refine xe_aload_n dX2_init_12 rfl ?_
  refine xe_bipush (v := 12) dX2_init_13 rfl ?_
  refine xe_newa (n := 12) (ty := .int) dX2_init_15 rfl acI rfl (by omega) (Or.inl rfl) h_l.k2 hZ ?_
  refine xe_putRF (b := l + 2) dX2_init_17 flX2_15 h_l.k0 (by omega) (fun q h => by cases h; exact ⟨rfl, rfl⟩) rfl rfl ?_
  have hZ := (hZ.le (Nat.le_succ _)).pr (a := l) (k := 3) (x := some (l + 2)) (by omega)
  refine xe_aload_n dX2_init_20 rfl ?_
  refine xe_bipush (v := 12) dX2_init_21 rfl ?_
  refine xe_newa (n := 12) (ty := .int) dX2_init_23 rfl acI rfl (by omega) (Or.inl rfl) h_l.k3 hZ ?_
  refine xe_putRF (b := l + 3) dX2_init_25 flX2_18 h_l.k0 (by omega) (fun q h => by cases h; exact ⟨rfl, rfl⟩) rfl rfl ?_
  have hZ := (hZ.le (Nat.le_succ _)).pr (a := l) (k := 4) (x := some (l + 3)) (by omega)
  refine xe_aload_n dX2_init_28 rfl ?_
  refine xe_bipush (v := 6) dX2_init_29 rfl ?_
  refine xe_newa (n := 6) (ty := .int) dX2_init_31 rfl acI rfl (by omega) (Or.inl rfl) h_l.k4 hZ ?_
  refine xe_putRF (b := l + 4) dX2_init_33 flX2_21 h_l.k0 (by omega) (fun q h => by cases h; exact ⟨rfl, rfl⟩) rfl rfl ?_
  have hZ := (hZ.le (Nat.le_succ _)).pr (a := l) (k := 6) (x := some (l + 4)) (by omega)
  refine xe_aload_n dX2_init_36 rfl ?_
  refine xe_bipush (v := 6) dX2_init_37 rfl ?_
  refine xe_newa (n := 6) (ty := .int) dX2_init_39 rfl acI rfl (by omega) (Or.inl rfl) h_l.k5 hZ ?_
  refine xe_putRF (b := l + 5) dX2_init_41 flX2_24 h_l.k0 (by omega) (fun q h => by cases h; exact ⟨rfl, rfl⟩) rfl rfl ?_
  have hZ := (hZ.le (Nat.le_succ _)).pr (a := l) (k := 7) (x := some (l + 5)) (by omega)
  refine xe_aload_n dX2_init_44 rfl ?_
  refine xe_bipush (v := 6) dX2_init_45 rfl ?_
  refine xe_newa (n := 6) (ty := .int) dX2_init_47 rfl acI rfl (by omega) (Or.inl rfl) h_l.k6 hZ ?_
  refine xe_putRF (b := l + 6) dX2_init_49 flX2_27 h_l.k0 (by omega) (fun q h => by cases h; exact ⟨rfl, rfl⟩) rfl rfl ?_
  have hZ := (hZ.le (Nat.le_succ _)).pr (a := l) (k := 8) (x := some (l + 6)) (by omega)
  refine xe_aload_n dX2_init_52 rfl ?_
  refine xe_bipush (v := 6) dX2_init_53 rfl ?_
  refine xe_newa (n := 6) (ty := .int) dX2_init_55 rfl acI rfl (by omega) (Or.inl rfl) h_l.k7 hZ ?_
  refine xe_putRF (b := l + 7) dX2_init_57 flX2_30 h_l.k0 (by omega) (fun q h => by cases h; exact ⟨rfl, rfl⟩) rfl rfl ?_
  have hZ := (hZ.le (Nat.le_succ _)).pr (a := l) (k := 9) (x := some (l + 7)) (by omega)
  refine xe_aload_n dX2_init_60 rfl ?_
  refine xe_bipush (v := 8) dX2_init_61 rfl ?_
  refine xe_newa (n := 8) (ty := .int) dX2_init_63 rfl acI rfl (by omega) (Or.inl rfl) h_l.k8 hZ ?_
  refine xe_putRF (b := l + 8) dX2_init_65 flX2_33 h_l.k0 (by omega) (fun q h => by cases h; exact ⟨rfl, rfl⟩) rfl rfl ?_
  have hZ := (hZ.le (Nat.le_succ _)).pr (a := l) (k := 11) (x := some (l + 8)) (by omega)
  refine xe_aload_n dX2_init_68 rfl ?_
  refine xe_bipush (v := 8) dX2_init_69 rfl ?_
  refine xe_newa (n := 8) (ty := .int) dX2_init_71 rfl acI rfl (by omega) (Or.inl rfl) h_l.k9 hZ ?_
  refine xe_putRF (b := l + 9) dX2_init_73 flX2_36 h_l.k0 (by omega) (fun q h => by cases h; exact ⟨rfl, rfl⟩) rfl rfl ?_
  have hZ := (hZ.le (Nat.le_succ _)).pr (a := l) (k := 12) (x := some (l + 9)) (by omega)
  refine xe_aload_n dX2_init_76 rfl ?_
  refine xe_bipush (v := 8) dX2_init_77 rfl ?_
  refine xe_newa (n := 8) (ty := .int) dX2_init_79 rfl acI rfl (by omega) (Or.inl rfl) h_l.k10 hZ ?_
  refine xe_putRF (b := l + 10) dX2_init_81 flX2_39 h_l.k0 (by omega) (fun q h => by cases h; exact ⟨rfl, rfl⟩) rfl rfl ?_
  have hZ := (hZ.le (Nat.le_succ _)).pr (a := l) (k := 13) (x := some (l + 10)) (by omega)
  refine xe_aload_n dX2_init_84 rfl ?_
  refine xe_bipush (v := 8) dX2_init_85 rfl ?_
  refine xe_newa (n := 8) (ty := .int) dX2_init_87 rfl acI rfl (by omega) (Or.inl rfl) h_l.k11 hZ ?_
  refine xe_putRF (b := l + 11) dX2_init_89 flX2_42 h_l.k0 (by omega) (fun q h => by cases h; exact ⟨rfl, rfl⟩) rfl rfl ?_
  have hZ := (hZ.le (Nat.le_succ _)).pr (a := l) (k := 14) (x := some (l + 11)) (by omega)
  refine xe_aload_n dX2_init_92 rfl ?_
  refine xe_iconst (v := -1) dX2_init_93 rfl ?_
  refine xe_putI dX2_init_94 flX2_45 h_l.k0 (by omega) (fun q h => by cases h; rfl) rfl ?_
  have hZ := hZ.pu (a := l) (k := 16) (x := -1) (by omega)
  refine xe_aload_n dX2_init_97 rfl ?_
  refine xe_new (ci := 1) dX2_init_98 rfl (xT_at 296 (by decide +kernel) (by decide +kernel)) (xT_at 297 (by decide +kernel) (by decide +kernel)) (xT_at 128 (by decide +kernel) (by decide +kernel)) h_l.k12 hZ ?_
  refine xe_dup dX2_init_101 rfl ?_
  refine xe_callIN (args := []) (P1 := fun rv u1 w1 r1 => rv = none ∧ (x2 u l 16 (-1)) = u1 ∧ w = w1 ∧ (xFr1 (l + 12) r1 ∧ (∀ b i, ¬ b = (l + 12) → r1 b i = (x2 (x2 (x2 (x2 (x2 (x2 (x2 (x2 (x2 (x2 (x2 r l 2 (some (l + 1))) l 3 (some (l + 2))) l 4 (some (l + 3))) l 6 (some (l + 4))) l 7 (some (l + 5))) l 8 (some (l + 6))) l 9 (some (l + 7))) l 11 (some (l + 8))) l 12 (some (l + 9))) l 13 (some (l + 10))) l 14 (some (l + 11))) b i) ∧ xZ (l + 12 + 3) (x2 u l 16 (-1)) w r1)) dX2_init_102 inX2_51 rfl rfl (Nat.le_of_ble_eq_true rfl) (C_Formula h_l.fm (hZ.le (Nat.le_succ _)) (fun r1 y1 y2 y3 => ⟨rfl, rfl, rfl, y1, y2, y3⟩)) (by omega) (fun rv1 u1 w1 r1 k => ?_)
  obtain ⟨rfl, rfl, rfl, y1, y2, y3⟩ := k
  refine xe_putRF (b := l + 12) dX2_init_105 flX2_52 h_l.k0 (by omega) (fun q h => by cases h; exact ⟨rfl, rfl⟩) rfl rfl ?_
  have hZ := y3.pr (a := l) (k := 17) (x := some (l + 12)) (by omega)
  exact xe_return dX2_init_108 trivial (kk _ ⟨⟨(x2_i _ _ (by decide)).trans ((y2 _ _ (by omega)).trans ((x2_i _ _ (by decide)).trans ((x2_i _ _ (by decide)).trans ((x2_i _ _ (by decide)).trans ((x2_i _ _ (by decide)).trans ((x2_i _ _ (by decide)).trans ((x2_i _ _ (by decide)).trans ((x2_i _ _ (by decide)).trans ((x2_i _ _ (by decide)).trans ((x2_i _ _ (by decide)).trans ((x2_i _ _ (by decide)).trans (x2_same _ _ _ _)))))))))))), (x2_i _ _ (by decide)).trans ((y2 _ _ (by omega)).trans ((x2_i _ _ (by decide)).trans ((x2_i _ _ (by decide)).trans ((x2_i _ _ (by decide)).trans ((x2_i _ _ (by decide)).trans ((x2_i _ _ (by decide)).trans ((x2_i _ _ (by decide)).trans ((x2_i _ _ (by decide)).trans ((x2_i _ _ (by decide)).trans ((x2_i _ _ (by decide)).trans (x2_same _ _ _ _))))))))))), (x2_i _ _ (by decide)).trans ((y2 _ _ (by omega)).trans ((x2_i _ _ (by decide)).trans ((x2_i _ _ (by decide)).trans ((x2_i _ _ (by decide)).trans ((x2_i _ _ (by decide)).trans ((x2_i _ _ (by decide)).trans ((x2_i _ _ (by decide)).trans ((x2_i _ _ (by decide)).trans ((x2_i _ _ (by decide)).trans (x2_same _ _ _ _)))))))))), (x2_i _ _ (by decide)).trans ((y2 _ _ (by omega)).trans ((x2_i _ _ (by decide)).trans ((x2_i _ _ (by decide)).trans ((x2_i _ _ (by decide)).trans ((x2_i _ _ (by decide)).trans ((x2_i _ _ (by decide)).trans ((x2_i _ _ (by decide)).trans ((x2_i _ _ (by decide)).trans (x2_same _ _ _ _))))))))), (x2_i _ _ (by decide)).trans ((y2 _ _ (by omega)).trans ((x2_i _ _ (by decide)).trans ((x2_i _ _ (by decide)).trans ((x2_i _ _ (by decide)).trans ((x2_i _ _ (by decide)).trans ((x2_i _ _ (by decide)).trans ((x2_i _ _ (by decide)).trans (x2_same _ _ _ _)))))))), (x2_i _ _ (by decide)).trans ((y2 _ _ (by omega)).trans ((x2_i _ _ (by decide)).trans ((x2_i _ _ (by decide)).trans ((x2_i _ _ (by decide)).trans ((x2_i _ _ (by decide)).trans ((x2_i _ _ (by decide)).trans (x2_same _ _ _ _))))))), (x2_i _ _ (by decide)).trans ((y2 _ _ (by omega)).trans ((x2_i _ _ (by decide)).trans ((x2_i _ _ (by decide)).trans ((x2_i _ _ (by decide)).trans ((x2_i _ _ (by decide)).trans (x2_same _ _ _ _)))))), (x2_i _ _ (by decide)).trans ((y2 _ _ (by omega)).trans ((x2_i _ _ (by decide)).trans ((x2_i _ _ (by decide)).trans ((x2_i _ _ (by decide)).trans (x2_same _ _ _ _))))), (x2_i _ _ (by decide)).trans ((y2 _ _ (by omega)).trans ((x2_i _ _ (by decide)).trans ((x2_i _ _ (by decide)).trans (x2_same _ _ _ _)))), (x2_i _ _ (by decide)).trans ((y2 _ _ (by omega)).trans ((x2_i _ _ (by decide)).trans (x2_same _ _ _ _))), (x2_i _ _ (by decide)).trans ((y2 _ _ (by omega)).trans (x2_same _ _ _ _)), x2_same _ _ _ _⟩, ⟨(x2_a _ _ (by omega)).trans y1.1, (x2_a _ _ (by omega)).trans y1.2⟩⟩ (fun b i hb hb2 => (x2_a _ _ (by omega)).trans ((y2 _ _ (by omega)).trans ((x2_a _ _ (by omega)).trans ((x2_a _ _ (by omega)).trans ((x2_a _ _ (by omega)).trans ((x2_a _ _ (by omega)).trans ((x2_a _ _ (by omega)).trans ((x2_a _ _ (by omega)).trans ((x2_a _ _ (by omega)).trans ((x2_a _ _ (by omega)).trans ((x2_a _ _ (by omega)).trans ((x2_a _ _ (by omega)).trans ((x2_a _ _ (by omega)).trans (rfl)))))))))))))) hZ)
theorem C_Lore (hZ : xZ 612 u w r) (kk : ∀ r', (r' 611 0 = some 612 ∧ r' 611 1 = some 613 ∧ r' 611 2 = some 614 ∧ r' 611 3 = some 615) → rSm 611 616 r r' → xZ 616 u w r' → P none u w r') : xCall g (d + 1) mX4_init [.ref 611] 612 u w r 616 P := by
  refine xCall.of (ls := [some (.ref 611)]) plX4 (Nat.le_of_ble_eq_true rfl) rfl ?_
  refine xe_aload_n dX4_init_0 rfl ?_
  refine xe_objInit dX4_init_1 (xT_at 608 (by decide +kernel) (by decide +kernel)) (Nat.le_of_ble_eq_true rfl) ?_
  refine xe_aload_n dX4_init_4 rfl ?_
  refine xe_bipush (v := 30) dX4_init_5 rfl ?_
  refine xe_newa (n := 30) (ty := .int) dX4_init_7 rfl acI rfl (by omega) (Or.inl rfl) (by decide +kernel) hZ ?_
  refine xe_putRF (b := 612) dX4_init_9 flX4_9 kk611 (by omega) (fun q h => by cases h; exact ⟨rfl, rfl⟩) rfl rfl ?_
  have hZ := (hZ.le (Nat.le_succ _)).pr (a := 611) (k := 0) (x := some (612)) (by omega)
  refine xe_aload_n dX4_init_12 rfl ?_
  refine xe_bipush (v := 30) dX4_init_13 rfl ?_
  refine xe_newa (n := 30) (ty := .boolean) dX4_init_15 rfl acZ rfl (by omega) (Or.inr (Or.inr (Or.inl rfl))) (by decide +kernel) hZ ?_
  refine xe_putRF (b := 613) dX4_init_17 flX4_15 kk611 (by omega) (fun q h => by cases h; exact ⟨rfl, rfl⟩) rfl rfl ?_
  have hZ := (hZ.le (Nat.le_succ _)).pr (a := 611) (k := 1) (x := some (613)) (by omega)
  refine xe_aload_n dX4_init_20 rfl ?_
  refine xe_bipush (v := 30) dX4_init_21 rfl ?_
  refine xe_newa (n := 30) (ty := .int) dX4_init_23 rfl acI rfl (by omega) (Or.inl rfl) (by decide +kernel) hZ ?_
  refine xe_putRF (b := 614) dX4_init_25 flX4_19 kk611 (by omega) (fun q h => by cases h; exact ⟨rfl, rfl⟩) rfl rfl ?_
  have hZ := (hZ.le (Nat.le_succ _)).pr (a := 611) (k := 2) (x := some (614)) (by omega)
  refine xe_aload_n dX4_init_28 rfl ?_
  refine xe_bipush (v := 30) dX4_init_29 rfl ?_
  refine xe_newa (n := 30) (ty := .int) dX4_init_31 rfl acI rfl (by omega) (Or.inl rfl) (by decide +kernel) hZ ?_
  refine xe_putRF (b := 615) dX4_init_33 flX4_22 kk611 (by omega) (fun q h => by cases h; exact ⟨rfl, rfl⟩) rfl rfl ?_
  have hZ := (hZ.le (Nat.le_succ _)).pr (a := 611) (k := 3) (x := some (615)) (by omega)
  exact xe_return dX4_init_36 trivial (kk _ ⟨(x2_i _ _ (by decide)).trans ((x2_i _ _ (by decide)).trans ((x2_i _ _ (by decide)).trans (x2_same _ _ _ _))), (x2_i _ _ (by decide)).trans ((x2_i _ _ (by decide)).trans (x2_same _ _ _ _)), (x2_i _ _ (by decide)).trans (x2_same _ _ _ _), x2_same _ _ _ _⟩ (fun b i hb => (x2_a _ _ (by omega)).trans ((x2_a _ _ (by omega)).trans ((x2_a _ _ (by omega)).trans ((x2_a _ _ (by omega)).trans (rfl))))) hZ)
set_option maxHeartbeats 4000000 in
theorem C_Model (hZ : xZ 656 u w r) (kk : ∀ r', (r' 655 0 = some 656 ∧ r' 655 10 = some 657 ∧ r' 655 11 = some 658 ∧ r' 655 12 = some 659 ∧ r' 655 13 = some 660 ∧ r' 655 14 = some 661 ∧ r' 655 15 = some 662 ∧ r' 655 16 = some 663 ∧ r' 655 24 = some 664 ∧ r' 655 25 = some 665 ∧ r' 655 26 = some 666 ∧ r' 655 27 = some 667 ∧ r' 655 28 = some 668 ∧ r' 655 29 = some 669 ∧ r' 655 30 = some 670 ∧ r' 655 31 = some 671 ∧ r' 655 32 = some 672 ∧ r' 655 33 = some 673 ∧ r' 655 34 = some 674 ∧ r' 655 35 = some 675 ∧ r' 655 36 = some 676 ∧ r' 655 37 = some 677 ∧ r' 655 38 = some 678 ∧ r' 655 39 = some 679 ∧ r' 655 40 = some 680 ∧ r' 655 41 = some 681 ∧ r' 655 42 = some 682 ∧ r' 655 57 = some 683 ∧ r' 655 58 = some 684 ∧ r' 655 59 = some 685 ∧ r' 655 60 = some 686 ∧ r' 655 62 = some 687 ∧ r' 655 65 = some 688 ∧ r' 655 66 = some 689 ∧ r' 655 67 = some 690 ∧ r' 655 69 = some 691 ∧ r' 655 70 = some 692 ∧ r' 655 71 = some 693 ∧ r' 655 72 = some 694 ∧ r' 655 75 = some 695 ∧ r' 655 76 = some 696 ∧ r' 655 77 = some 697) → rSm 655 698 r r' → P none (x2 (x2 u 655 3 (-1)) 655 52 300) w r') : xCall g (d + 1) mX12_init [.ref 655] 656 u w r 698 P := by
  refine xCall.of (ls := [some (.ref 655)]) plX12 (Nat.le_of_ble_eq_true rfl) rfl ?_
  refine xe_aload_n dX12_init_0 rfl ?_
  refine xe_objInit dX12_init_1 (xT_at 1357 (by decide +kernel) (by decide +kernel)) (Nat.le_of_ble_eq_true rfl) ?_
  refine xe_aload_n dX12_init_4 rfl ?_
  refine xe_sipush (v := 1600) dX12_init_5 rfl ?_
  refine xe_newa (n := 1600) (ty := .int) dX12_init_8 rfl acI rfl (by omega) (Or.inl rfl) (by decide +kernel) hZ ?_
  refine xe_putRF (b := 656) dX12_init_10 flX12_7 kk655 (by omega) (fun q h => by cases h; exact ⟨rfl, rfl⟩) rfl rfl ?_
  have hZ := (hZ.le (Nat.le_succ _)).pr (a := 655) (k := 0) (x := some (656)) (by omega)
  refine xe_aload_n dX12_init_13 rfl ?_
  refine xe_iconst (v := -1) dX12_init_14 rfl ?_
  refine xe_putI dX12_init_15 flX12_13 kk655 (by omega) (fun q h => by cases h; rfl) rfl ?_
  have hZ := hZ.pu (a := 655) (k := 3) (x := -1) (by omega)
  refine xe_aload_n dX12_init_18 rfl ?_
  refine xe_bipush (v := 21) dX12_init_19 rfl ?_
  refine xe_newa (n := 21) (ty := .long) dX12_init_21 rfl acJ rfl (by omega) (Or.inr (Or.inr (Or.inr rfl))) (by decide +kernel) hZ ?_
  refine xe_putRF (b := 657) dX12_init_23 flX12_17 kk655 (by omega) (fun q h => by cases h; exact ⟨rfl, rfl⟩) rfl rfl ?_
  have hZ := (hZ.le (Nat.le_succ _)).pr (a := 655) (k := 10) (x := some (657)) (by omega)
  refine xe_aload_n dX12_init_26 rfl ?_
  refine xe_sipush (v := 320) dX12_init_27 rfl ?_
  refine xe_newa (n := 320) (ty := .int) dX12_init_30 rfl acI rfl (by omega) (Or.inl rfl) (by decide +kernel) hZ ?_
  refine xe_putRF (b := 658) dX12_init_32 flX12_21 kk655 (by omega) (fun q h => by cases h; exact ⟨rfl, rfl⟩) rfl rfl ?_
  have hZ := (hZ.le (Nat.le_succ _)).pr (a := 655) (k := 11) (x := some (658)) (by omega)
  refine xe_aload_n dX12_init_35 rfl ?_
  refine xe_sipush (v := 320) dX12_init_36 rfl ?_
  refine xe_newa (n := 320) (ty := .int) dX12_init_39 rfl acI rfl (by omega) (Or.inl rfl) (by decide +kernel) hZ ?_
  refine xe_putRF (b := 659) dX12_init_41 flX12_24 kk655 (by omega) (fun q h => by cases h; exact ⟨rfl, rfl⟩) rfl rfl ?_
  have hZ := (hZ.le (Nat.le_succ _)).pr (a := 655) (k := 12) (x := some (659)) (by omega)
  refine xe_aload_n dX12_init_44 rfl ?_
  refine xe_sipush (v := 320) dX12_init_45 rfl ?_
  refine xe_newa (n := 320) (ty := .int) dX12_init_48 rfl acI rfl (by omega) (Or.inl rfl) (by decide +kernel) hZ ?_
  refine xe_putRF (b := 660) dX12_init_50 flX12_27 kk655 (by omega) (fun q h => by cases h; exact ⟨rfl, rfl⟩) rfl rfl ?_
  have hZ := (hZ.le (Nat.le_succ _)).pr (a := 655) (k := 13) (x := some (660)) (by omega)
  refine xe_aload_n dX12_init_53 rfl ?_
  refine xe_sipush (v := 320) dX12_init_54 rfl ?_
  refine xe_newa (n := 320) (ty := .int) dX12_init_57 rfl acI rfl (by omega) (Or.inl rfl) (by decide +kernel) hZ ?_
  refine xe_putRF (b := 661) dX12_init_59 flX12_30 kk655 (by omega) (fun q h => by cases h; exact ⟨rfl, rfl⟩) rfl rfl ?_
  have hZ := (hZ.le (Nat.le_succ _)).pr (a := 655) (k := 14) (x := some (661)) (by omega)
  refine xe_aload_n dX12_init_62 rfl ?_
  refine xe_sipush (v := 160) dX12_init_63 rfl ?_
  refine xe_newa (n := 160) (ty := .int) dX12_init_66 rfl acI rfl (by omega) (Or.inl rfl) (by decide +kernel) hZ ?_
  refine xe_putRF (b := 662) dX12_init_68 flX12_33 kk655 (by omega) (fun q h => by cases h; exact ⟨rfl, rfl⟩) rfl rfl ?_
  have hZ := (hZ.le (Nat.le_succ _)).pr (a := 655) (k := 15) (x := some (662)) (by omega)
  refine xe_aload_n dX12_init_71 rfl ?_
  refine xe_bipush (v := 64) dX12_init_72 rfl ?_
  refine xe_newa (n := 64) (ty := .int) dX12_init_74 rfl acI rfl (by omega) (Or.inl rfl) (by decide +kernel) hZ ?_
  refine xe_putRF (b := 663) dX12_init_76 flX12_36 kk655 (by omega) (fun q h => by cases h; exact ⟨rfl, rfl⟩) rfl rfl ?_
  have hZ := (hZ.le (Nat.le_succ _)).pr (a := 655) (k := 16) (x := some (663)) (by omega)
  refine xe_aload_n dX12_init_79 rfl ?_
  refine xe_iconst (v := 4) dX12_init_80 rfl ?_
  refine xe_newa (n := 4) (ty := .int) dX12_init_81 rfl acI rfl (by omega) (Or.inl rfl) (by decide +kernel) hZ ?_
  refine xe_putRF (b := 664) dX12_init_83 flX12_39 kk655 (by omega) (fun q h => by cases h; exact ⟨rfl, rfl⟩) rfl rfl ?_
  have hZ := (hZ.le (Nat.le_succ _)).pr (a := 655) (k := 24) (x := some (664)) (by omega)
  refine xe_aload_n dX12_init_86 rfl ?_
  refine xe_bipush (v := 12) dX12_init_87 rfl ?_
  refine xe_newa (n := 12) (ty := .int) dX12_init_89 rfl acI rfl (by omega) (Or.inl rfl) (by decide +kernel) hZ ?_
  refine xe_putRF (b := 665) dX12_init_91 flX12_42 kk655 (by omega) (fun q h => by cases h; exact ⟨rfl, rfl⟩) rfl rfl ?_
  have hZ := (hZ.le (Nat.le_succ _)).pr (a := 655) (k := 25) (x := some (665)) (by omega)
  refine xe_aload_n dX12_init_94 rfl ?_
  refine xe_bipush (v := 12) dX12_init_95 rfl ?_
  refine xe_newa (n := 12) (ty := .int) dX12_init_97 rfl acI rfl (by omega) (Or.inl rfl) (by decide +kernel) hZ ?_
  refine xe_putRF (b := 666) dX12_init_99 flX12_45 kk655 (by omega) (fun q h => by cases h; exact ⟨rfl, rfl⟩) rfl rfl ?_
  have hZ := (hZ.le (Nat.le_succ _)).pr (a := 655) (k := 26) (x := some (666)) (by omega)
  refine xe_aload_n dX12_init_102 rfl ?_
  refine xe_bipush (v := 12) dX12_init_103 rfl ?_
  refine xe_newa (n := 12) (ty := .int) dX12_init_105 rfl acI rfl (by omega) (Or.inl rfl) (by decide +kernel) hZ ?_
  refine xe_putRF (b := 667) dX12_init_107 flX12_48 kk655 (by omega) (fun q h => by cases h; exact ⟨rfl, rfl⟩) rfl rfl ?_
  have hZ := (hZ.le (Nat.le_succ _)).pr (a := 655) (k := 27) (x := some (667)) (by omega)
  refine xe_aload_n dX12_init_110 rfl ?_
  refine xe_bipush (v := 12) dX12_init_111 rfl ?_
  refine xe_newa (n := 12) (ty := .int) dX12_init_113 rfl acI rfl (by omega) (Or.inl rfl) (by decide +kernel) hZ ?_
  refine xe_putRF (b := 668) dX12_init_115 flX12_51 kk655 (by omega) (fun q h => by cases h; exact ⟨rfl, rfl⟩) rfl rfl ?_
  have hZ := (hZ.le (Nat.le_succ _)).pr (a := 655) (k := 28) (x := some (668)) (by omega)
  refine xe_aload_n dX12_init_118 rfl ?_
  refine xe_bipush (v := 12) dX12_init_119 rfl ?_
  refine xe_newa (n := 12) (ty := .int) dX12_init_121 rfl acI rfl (by omega) (Or.inl rfl) (by decide +kernel) hZ ?_
  refine xe_putRF (b := 669) dX12_init_123 flX12_54 kk655 (by omega) (fun q h => by cases h; exact ⟨rfl, rfl⟩) rfl rfl ?_
  have hZ := (hZ.le (Nat.le_succ _)).pr (a := 655) (k := 29) (x := some (669)) (by omega)
  refine xe_aload_n dX12_init_126 rfl ?_
  refine xe_bipush (v := 12) dX12_init_127 rfl ?_
  refine xe_newa (n := 12) (ty := .int) dX12_init_129 rfl acI rfl (by omega) (Or.inl rfl) (by decide +kernel) hZ ?_
  refine xe_putRF (b := 670) dX12_init_131 flX12_57 kk655 (by omega) (fun q h => by cases h; exact ⟨rfl, rfl⟩) rfl rfl ?_
  have hZ := (hZ.le (Nat.le_succ _)).pr (a := 655) (k := 30) (x := some (670)) (by omega)
  refine xe_aload_n dX12_init_134 rfl ?_
  refine xe_bipush (v := 6) dX12_init_135 rfl ?_
  refine xe_newa (n := 6) (ty := .int) dX12_init_137 rfl acI rfl (by omega) (Or.inl rfl) (by decide +kernel) hZ ?_
  refine xe_putRF (b := 671) dX12_init_139 flX12_60 kk655 (by omega) (fun q h => by cases h; exact ⟨rfl, rfl⟩) rfl rfl ?_
  have hZ := (hZ.le (Nat.le_succ _)).pr (a := 655) (k := 31) (x := some (671)) (by omega)
  refine xe_aload_n dX12_init_142 rfl ?_
  refine xe_bipush (v := 6) dX12_init_143 rfl ?_
  refine xe_newa (n := 6) (ty := .int) dX12_init_145 rfl acI rfl (by omega) (Or.inl rfl) (by decide +kernel) hZ ?_
  refine xe_putRF (b := 672) dX12_init_147 flX12_63 kk655 (by omega) (fun q h => by cases h; exact ⟨rfl, rfl⟩) rfl rfl ?_
  have hZ := (hZ.le (Nat.le_succ _)).pr (a := 655) (k := 32) (x := some (672)) (by omega)
  refine xe_aload_n dX12_init_150 rfl ?_
  refine xe_bipush (v := 6) dX12_init_151 rfl ?_
  refine xe_newa (n := 6) (ty := .int) dX12_init_153 rfl acI rfl (by omega) (Or.inl rfl) (by decide +kernel) hZ ?_
  refine xe_putRF (b := 673) dX12_init_155 flX12_66 kk655 (by omega) (fun q h => by cases h; exact ⟨rfl, rfl⟩) rfl rfl ?_
  have hZ := (hZ.le (Nat.le_succ _)).pr (a := 655) (k := 33) (x := some (673)) (by omega)
  refine xe_aload_n dX12_init_158 rfl ?_
  refine xe_bipush (v := 6) dX12_init_159 rfl ?_
  refine xe_newa (n := 6) (ty := .int) dX12_init_161 rfl acI rfl (by omega) (Or.inl rfl) (by decide +kernel) hZ ?_
  refine xe_putRF (b := 674) dX12_init_163 flX12_69 kk655 (by omega) (fun q h => by cases h; exact ⟨rfl, rfl⟩) rfl rfl ?_
  have hZ := (hZ.le (Nat.le_succ _)).pr (a := 655) (k := 34) (x := some (674)) (by omega)
  refine xe_aload_n dX12_init_166 rfl ?_
  refine xe_bipush (v := 6) dX12_init_167 rfl ?_
  refine xe_newa (n := 6) (ty := .int) dX12_init_169 rfl acI rfl (by omega) (Or.inl rfl) (by decide +kernel) hZ ?_
  refine xe_putRF (b := 675) dX12_init_171 flX12_72 kk655 (by omega) (fun q h => by cases h; exact ⟨rfl, rfl⟩) rfl rfl ?_
  have hZ := (hZ.le (Nat.le_succ _)).pr (a := 655) (k := 35) (x := some (675)) (by omega)
  refine xe_aload_n dX12_init_174 rfl ?_
  refine xe_bipush (v := 6) dX12_init_175 rfl ?_
  refine xe_newa (n := 6) (ty := .int) dX12_init_177 rfl acI rfl (by omega) (Or.inl rfl) (by decide +kernel) hZ ?_
  refine xe_putRF (b := 676) dX12_init_179 flX12_75 kk655 (by omega) (fun q h => by cases h; exact ⟨rfl, rfl⟩) rfl rfl ?_
  have hZ := (hZ.le (Nat.le_succ _)).pr (a := 655) (k := 36) (x := some (676)) (by omega)
  refine xe_aload_n dX12_init_182 rfl ?_
  refine xe_bipush (v := 6) dX12_init_183 rfl ?_
  refine xe_newa (n := 6) (ty := .int) dX12_init_185 rfl acI rfl (by omega) (Or.inl rfl) (by decide +kernel) hZ ?_
  refine xe_putRF (b := 677) dX12_init_187 flX12_78 kk655 (by omega) (fun q h => by cases h; exact ⟨rfl, rfl⟩) rfl rfl ?_
  have hZ := (hZ.le (Nat.le_succ _)).pr (a := 655) (k := 37) (x := some (677)) (by omega)
  refine xe_aload_n dX12_init_190 rfl ?_
  refine xe_bipush (v := 6) dX12_init_191 rfl ?_
  refine xe_newa (n := 6) (ty := .int) dX12_init_193 rfl acI rfl (by omega) (Or.inl rfl) (by decide +kernel) hZ ?_
  refine xe_putRF (b := 678) dX12_init_195 flX12_81 kk655 (by omega) (fun q h => by cases h; exact ⟨rfl, rfl⟩) rfl rfl ?_
  have hZ := (hZ.le (Nat.le_succ _)).pr (a := 655) (k := 38) (x := some (678)) (by omega)
  refine xe_aload_n dX12_init_198 rfl ?_
  refine xe_bipush (v := 8) dX12_init_199 rfl ?_
  refine xe_newa (n := 8) (ty := .int) dX12_init_201 rfl acI rfl (by omega) (Or.inl rfl) (by decide +kernel) hZ ?_
  refine xe_putRF (b := 679) dX12_init_203 flX12_84 kk655 (by omega) (fun q h => by cases h; exact ⟨rfl, rfl⟩) rfl rfl ?_
  have hZ := (hZ.le (Nat.le_succ _)).pr (a := 655) (k := 39) (x := some (679)) (by omega)
  refine xe_aload_n dX12_init_206 rfl ?_
  refine xe_bipush (v := 8) dX12_init_207 rfl ?_
  refine xe_newa (n := 8) (ty := .int) dX12_init_209 rfl acI rfl (by omega) (Or.inl rfl) (by decide +kernel) hZ ?_
  refine xe_putRF (b := 680) dX12_init_211 flX12_87 kk655 (by omega) (fun q h => by cases h; exact ⟨rfl, rfl⟩) rfl rfl ?_
  have hZ := (hZ.le (Nat.le_succ _)).pr (a := 655) (k := 40) (x := some (680)) (by omega)
  refine xe_aload_n dX12_init_214 rfl ?_
  refine xe_bipush (v := 8) dX12_init_215 rfl ?_
  refine xe_newa (n := 8) (ty := .int) dX12_init_217 rfl acI rfl (by omega) (Or.inl rfl) (by decide +kernel) hZ ?_
  refine xe_putRF (b := 681) dX12_init_219 flX12_90 kk655 (by omega) (fun q h => by cases h; exact ⟨rfl, rfl⟩) rfl rfl ?_
  have hZ := (hZ.le (Nat.le_succ _)).pr (a := 655) (k := 41) (x := some (681)) (by omega)
  refine xe_aload_n dX12_init_222 rfl ?_
  refine xe_bipush (v := 8) dX12_init_223 rfl ?_
  refine xe_newa (n := 8) (ty := .int) dX12_init_225 rfl acI rfl (by omega) (Or.inl rfl) (by decide +kernel) hZ ?_
  refine xe_putRF (b := 682) dX12_init_227 flX12_93 kk655 (by omega) (fun q h => by cases h; exact ⟨rfl, rfl⟩) rfl rfl ?_
  have hZ := (hZ.le (Nat.le_succ _)).pr (a := 655) (k := 42) (x := some (682)) (by omega)
  refine xe_aload_n dX12_init_230 rfl ?_
  refine xe_sipush (v := 300) dX12_init_231 rfl ?_
  refine xe_putI dX12_init_234 flX12_96 kk655 (by omega) (fun q h => by cases h; rfl) rfl ?_
  have hZ := hZ.pu (a := 655) (k := 52) (x := 300) (by omega)
  refine xe_aload_n dX12_init_237 rfl ?_
  refine xe_bipush (v := 92) dX12_init_238 rfl ?_
  refine xe_newa (n := 92) (ty := .int) dX12_init_240 rfl acI rfl (by omega) (Or.inl rfl) (by decide +kernel) hZ ?_
  refine xe_putRF (b := 683) dX12_init_242 flX12_99 kk655 (by omega) (fun q h => by cases h; exact ⟨rfl, rfl⟩) rfl rfl ?_
  have hZ := (hZ.le (Nat.le_succ _)).pr (a := 655) (k := 57) (x := some (683)) (by omega)
  refine xe_aload_n dX12_init_245 rfl ?_
  refine xe_bipush (v := 92) dX12_init_246 rfl ?_
  refine xe_newa (n := 92) (ty := .int) dX12_init_248 rfl acI rfl (by omega) (Or.inl rfl) (by decide +kernel) hZ ?_
  refine xe_putRF (b := 684) dX12_init_250 flX12_102 kk655 (by omega) (fun q h => by cases h; exact ⟨rfl, rfl⟩) rfl rfl ?_
  have hZ := (hZ.le (Nat.le_succ _)).pr (a := 655) (k := 58) (x := some (684)) (by omega)
  refine xe_aload_n dX12_init_253 rfl ?_
  refine xe_bipush (v := 49) dX12_init_254 rfl ?_
  refine xe_newa (n := 49) (ty := .int) dX12_init_256 rfl acI rfl (by omega) (Or.inl rfl) (by decide +kernel) hZ ?_
  refine xe_putRF (b := 685) dX12_init_258 flX12_105 kk655 (by omega) (fun q h => by cases h; exact ⟨rfl, rfl⟩) rfl rfl ?_
  have hZ := (hZ.le (Nat.le_succ _)).pr (a := 655) (k := 59) (x := some (685)) (by omega)
  refine xe_aload_n dX12_init_261 rfl ?_
  refine xe_bipush (v := 20) dX12_init_262 rfl ?_
  refine xe_newa (n := 20) (ty := .int) dX12_init_264 rfl acI rfl (by omega) (Or.inl rfl) (by decide +kernel) hZ ?_
  refine xe_putRF (b := 686) dX12_init_266 flX12_108 kk655 (by omega) (fun q h => by cases h; exact ⟨rfl, rfl⟩) rfl rfl ?_
  have hZ := (hZ.le (Nat.le_succ _)).pr (a := 655) (k := 60) (x := some (686)) (by omega)
  refine xe_aload_n dX12_init_269 rfl ?_
  refine xe_sipush (v := 3680) dX12_init_270 rfl ?_
  refine xe_newa (n := 3680) (ty := .int) dX12_init_273 rfl acI rfl (by omega) (Or.inl rfl) (by decide +kernel) hZ ?_
  refine xe_putRF (b := 687) dX12_init_275 flX12_111 kk655 (by omega) (fun q h => by cases h; exact ⟨rfl, rfl⟩) rfl rfl ?_
  have hZ := (hZ.le (Nat.le_succ _)).pr (a := 655) (k := 62) (x := some (687)) (by omega)
  refine xe_aload_n dX12_init_278 rfl ?_
  refine xe_bipush (v := 42) dX12_init_279 rfl ?_
  refine xe_newa (n := 42) (ty := .int) dX12_init_281 rfl acI rfl (by omega) (Or.inl rfl) (by decide +kernel) hZ ?_
  refine xe_putRF (b := 688) dX12_init_283 flX12_114 kk655 (by omega) (fun q h => by cases h; exact ⟨rfl, rfl⟩) rfl rfl ?_
  have hZ := (hZ.le (Nat.le_succ _)).pr (a := 655) (k := 65) (x := some (688)) (by omega)
  refine xe_aload_n dX12_init_286 rfl ?_
  refine xe_bipush (v := 7) dX12_init_287 rfl ?_
  refine xe_newa (n := 7) (ty := .int) dX12_init_289 rfl acI rfl (by omega) (Or.inl rfl) (by decide +kernel) hZ ?_
  refine xe_putRF (b := 689) dX12_init_291 flX12_117 kk655 (by omega) (fun q h => by cases h; exact ⟨rfl, rfl⟩) rfl rfl ?_
  have hZ := (hZ.le (Nat.le_succ _)).pr (a := 655) (k := 66) (x := some (689)) (by omega)
  refine xe_aload_n dX12_init_294 rfl ?_
  refine xe_bipush (v := 20) dX12_init_295 rfl ?_
  refine xe_newa (n := 20) (ty := .int) dX12_init_297 rfl acI rfl (by omega) (Or.inl rfl) (by decide +kernel) hZ ?_
  refine xe_putRF (b := 690) dX12_init_299 flX12_120 kk655 (by omega) (fun q h => by cases h; exact ⟨rfl, rfl⟩) rfl rfl ?_
  have hZ := (hZ.le (Nat.le_succ _)).pr (a := 655) (k := 67) (x := some (690)) (by omega)
  refine xe_aload_n dX12_init_302 rfl ?_
  refine xe_bipush (v := 30) dX12_init_303 rfl ?_
  refine xe_newa (n := 30) (ty := .int) dX12_init_305 rfl acI rfl (by omega) (Or.inl rfl) (by decide +kernel) hZ ?_
  refine xe_putRF (b := 691) dX12_init_307 flX12_123 kk655 (by omega) (fun q h => by cases h; exact ⟨rfl, rfl⟩) rfl rfl ?_
  have hZ := (hZ.le (Nat.le_succ _)).pr (a := 655) (k := 69) (x := some (691)) (by omega)
  refine xe_aload_n dX12_init_310 rfl ?_
  refine xe_bipush (v := 30) dX12_init_311 rfl ?_
  refine xe_newa (n := 30) (ty := .int) dX12_init_313 rfl acI rfl (by omega) (Or.inl rfl) (by decide +kernel) hZ ?_
  refine xe_putRF (b := 692) dX12_init_315 flX12_126 kk655 (by omega) (fun q h => by cases h; exact ⟨rfl, rfl⟩) rfl rfl ?_
  have hZ := (hZ.le (Nat.le_succ _)).pr (a := 655) (k := 70) (x := some (692)) (by omega)
  refine xe_aload_n dX12_init_318 rfl ?_
  refine xe_bipush (v := 30) dX12_init_319 rfl ?_
  refine xe_newa (n := 30) (ty := .int) dX12_init_321 rfl acI rfl (by omega) (Or.inl rfl) (by decide +kernel) hZ ?_
  refine xe_putRF (b := 693) dX12_init_323 flX12_129 kk655 (by omega) (fun q h => by cases h; exact ⟨rfl, rfl⟩) rfl rfl ?_
  have hZ := (hZ.le (Nat.le_succ _)).pr (a := 655) (k := 71) (x := some (693)) (by omega)
  refine xe_aload_n dX12_init_326 rfl ?_
  refine xe_bipush (v := 30) dX12_init_327 rfl ?_
  refine xe_newa (n := 30) (ty := .boolean) dX12_init_329 rfl acZ rfl (by omega) (Or.inr (Or.inr (Or.inl rfl))) (by decide +kernel) hZ ?_
  refine xe_putRF (b := 694) dX12_init_331 flX12_132 kk655 (by omega) (fun q h => by cases h; exact ⟨rfl, rfl⟩) rfl rfl ?_
  have hZ := (hZ.le (Nat.le_succ _)).pr (a := 655) (k := 72) (x := some (694)) (by omega)
  refine xe_aload_n dX12_init_334 rfl ?_
  refine xe_bipush (v := 7) dX12_init_335 rfl ?_
  refine xe_newa (n := 7) (ty := .int) dX12_init_337 rfl acI rfl (by omega) (Or.inl rfl) (by decide +kernel) hZ ?_
  refine xe_putRF (b := 695) dX12_init_339 flX12_136 kk655 (by omega) (fun q h => by cases h; exact ⟨rfl, rfl⟩) rfl rfl ?_
  have hZ := (hZ.le (Nat.le_succ _)).pr (a := 655) (k := 75) (x := some (695)) (by omega)
  refine xe_aload_n dX12_init_342 rfl ?_
  refine xe_iconst (v := 3) dX12_init_343 rfl ?_
  refine xe_newa (n := 3) (ty := .boolean) dX12_init_344 rfl acZ rfl (by omega) (Or.inr (Or.inr (Or.inl rfl))) (by decide +kernel) hZ ?_
  refine xe_putRF (b := 696) dX12_init_346 flX12_139 kk655 (by omega) (fun q h => by cases h; exact ⟨rfl, rfl⟩) rfl rfl ?_
  have hZ := (hZ.le (Nat.le_succ _)).pr (a := 655) (k := 76) (x := some (696)) (by omega)
  refine xe_aload_n dX12_init_349 rfl ?_
  refine xe_sipush (v := 276) dX12_init_350 rfl ?_
  refine xe_newa (n := 276) (ty := .int) dX12_init_353 rfl acI rfl (by omega) (Or.inl rfl) (by decide +kernel) hZ ?_
  refine xe_putRF (b := 697) dX12_init_355 flX12_142 kk655 (by omega) (fun q h => by cases h; exact ⟨rfl, rfl⟩) rfl rfl ?_
  have hZ := (hZ.le (Nat.le_succ _)).pr (a := 655) (k := 77) (x := some (697)) (by omega)
  exact xe_return dX12_init_358 trivial (kk _ ⟨(x2_i _ _ (by decide)).trans ((x2_i _ _ (by decide)).trans ((x2_i _ _ (by decide)).trans ((x2_i _ _ (by decide)).trans ((x2_i _ _ (by decide)).trans ((x2_i _ _ (by decide)).trans ((x2_i _ _ (by decide)).trans ((x2_i _ _ (by decide)).trans ((x2_i _ _ (by decide)).trans ((x2_i _ _ (by decide)).trans ((x2_i _ _ (by decide)).trans ((x2_i _ _ (by decide)).trans ((x2_i _ _ (by decide)).trans ((x2_i _ _ (by decide)).trans ((x2_i _ _ (by decide)).trans ((x2_i _ _ (by decide)).trans ((x2_i _ _ (by decide)).trans ((x2_i _ _ (by decide)).trans ((x2_i _ _ (by decide)).trans ((x2_i _ _ (by decide)).trans ((x2_i _ _ (by decide)).trans ((x2_i _ _ (by decide)).trans ((x2_i _ _ (by decide)).trans ((x2_i _ _ (by decide)).trans ((x2_i _ _ (by decide)).trans ((x2_i _ _ (by decide)).trans ((x2_i _ _ (by decide)).trans ((x2_i _ _ (by decide)).trans ((x2_i _ _ (by decide)).trans ((x2_i _ _ (by decide)).trans ((x2_i _ _ (by decide)).trans ((x2_i _ _ (by decide)).trans ((x2_i _ _ (by decide)).trans ((x2_i _ _ (by decide)).trans ((x2_i _ _ (by decide)).trans ((x2_i _ _ (by decide)).trans ((x2_i _ _ (by decide)).trans ((x2_i _ _ (by decide)).trans ((x2_i _ _ (by decide)).trans ((x2_i _ _ (by decide)).trans ((x2_i _ _ (by decide)).trans (x2_same _ _ _ _))))))))))))))))))))))))))))))))))))))))), (x2_i _ _ (by decide)).trans ((x2_i _ _ (by decide)).trans ((x2_i _ _ (by decide)).trans ((x2_i _ _ (by decide)).trans ((x2_i _ _ (by decide)).trans ((x2_i _ _ (by decide)).trans ((x2_i _ _ (by decide)).trans ((x2_i _ _ (by decide)).trans ((x2_i _ _ (by decide)).trans ((x2_i _ _ (by decide)).trans ((x2_i _ _ (by decide)).trans ((x2_i _ _ (by decide)).trans ((x2_i _ _ (by decide)).trans ((x2_i _ _ (by decide)).trans ((x2_i _ _ (by decide)).trans ((x2_i _ _ (by decide)).trans ((x2_i _ _ (by decide)).trans ((x2_i _ _ (by decide)).trans ((x2_i _ _ (by decide)).trans ((x2_i _ _ (by decide)).trans ((x2_i _ _ (by decide)).trans ((x2_i _ _ (by decide)).trans ((x2_i _ _ (by decide)).trans ((x2_i _ _ (by decide)).trans ((x2_i _ _ (by decide)).trans ((x2_i _ _ (by decide)).trans ((x2_i _ _ (by decide)).trans ((x2_i _ _ (by decide)).trans ((x2_i _ _ (by decide)).trans ((x2_i _ _ (by decide)).trans ((x2_i _ _ (by decide)).trans ((x2_i _ _ (by decide)).trans ((x2_i _ _ (by decide)).trans ((x2_i _ _ (by decide)).trans ((x2_i _ _ (by decide)).trans ((x2_i _ _ (by decide)).trans ((x2_i _ _ (by decide)).trans ((x2_i _ _ (by decide)).trans ((x2_i _ _ (by decide)).trans ((x2_i _ _ (by decide)).trans (x2_same _ _ _ _)))))))))))))))))))))))))))))))))))))))), (x2_i _ _ (by decide)).trans ((x2_i _ _ (by decide)).trans ((x2_i _ _ (by decide)).trans ((x2_i _ _ (by decide)).trans ((x2_i _ _ (by decide)).trans ((x2_i _ _ (by decide)).trans ((x2_i _ _ (by decide)).trans ((x2_i _ _ (by decide)).trans ((x2_i _ _ (by decide)).trans ((x2_i _ _ (by decide)).trans ((x2_i _ _ (by decide)).trans ((x2_i _ _ (by decide)).trans ((x2_i _ _ (by decide)).trans ((x2_i _ _ (by decide)).trans ((x2_i _ _ (by decide)).trans ((x2_i _ _ (by decide)).trans ((x2_i _ _ (by decide)).trans ((x2_i _ _ (by decide)).trans ((x2_i _ _ (by decide)).trans ((x2_i _ _ (by decide)).trans ((x2_i _ _ (by decide)).trans ((x2_i _ _ (by decide)).trans ((x2_i _ _ (by decide)).trans ((x2_i _ _ (by decide)).trans ((x2_i _ _ (by decide)).trans ((x2_i _ _ (by decide)).trans ((x2_i _ _ (by decide)).trans ((x2_i _ _ (by decide)).trans ((x2_i _ _ (by decide)).trans ((x2_i _ _ (by decide)).trans ((x2_i _ _ (by decide)).trans ((x2_i _ _ (by decide)).trans ((x2_i _ _ (by decide)).trans ((x2_i _ _ (by decide)).trans ((x2_i _ _ (by decide)).trans ((x2_i _ _ (by decide)).trans ((x2_i _ _ (by decide)).trans ((x2_i _ _ (by decide)).trans ((x2_i _ _ (by decide)).trans (x2_same _ _ _ _))))))))))))))))))))))))))))))))))))))), (x2_i _ _ (by decide)).trans ((x2_i _ _ (by decide)).trans ((x2_i _ _ (by decide)).trans ((x2_i _ _ (by decide)).trans ((x2_i _ _ (by decide)).trans ((x2_i _ _ (by decide)).trans ((x2_i _ _ (by decide)).trans ((x2_i _ _ (by decide)).trans ((x2_i _ _ (by decide)).trans ((x2_i _ _ (by decide)).trans ((x2_i _ _ (by decide)).trans ((x2_i _ _ (by decide)).trans ((x2_i _ _ (by decide)).trans ((x2_i _ _ (by decide)).trans ((x2_i _ _ (by decide)).trans ((x2_i _ _ (by decide)).trans ((x2_i _ _ (by decide)).trans ((x2_i _ _ (by decide)).trans ((x2_i _ _ (by decide)).trans ((x2_i _ _ (by decide)).trans ((x2_i _ _ (by decide)).trans ((x2_i _ _ (by decide)).trans ((x2_i _ _ (by decide)).trans ((x2_i _ _ (by decide)).trans ((x2_i _ _ (by decide)).trans ((x2_i _ _ (by decide)).trans ((x2_i _ _ (by decide)).trans ((x2_i _ _ (by decide)).trans ((x2_i _ _ (by decide)).trans ((x2_i _ _ (by decide)).trans ((x2_i _ _ (by decide)).trans ((x2_i _ _ (by decide)).trans ((x2_i _ _ (by decide)).trans ((x2_i _ _ (by decide)).trans ((x2_i _ _ (by decide)).trans ((x2_i _ _ (by decide)).trans ((x2_i _ _ (by decide)).trans ((x2_i _ _ (by decide)).trans (x2_same _ _ _ _)))))))))))))))))))))))))))))))))))))), (x2_i _ _ (by decide)).trans ((x2_i _ _ (by decide)).trans ((x2_i _ _ (by decide)).trans ((x2_i _ _ (by decide)).trans ((x2_i _ _ (by decide)).trans ((x2_i _ _ (by decide)).trans ((x2_i _ _ (by decide)).trans ((x2_i _ _ (by decide)).trans ((x2_i _ _ (by decide)).trans ((x2_i _ _ (by decide)).trans ((x2_i _ _ (by decide)).trans ((x2_i _ _ (by decide)).trans ((x2_i _ _ (by decide)).trans ((x2_i _ _ (by decide)).trans ((x2_i _ _ (by decide)).trans ((x2_i _ _ (by decide)).trans ((x2_i _ _ (by decide)).trans ((x2_i _ _ (by decide)).trans ((x2_i _ _ (by decide)).trans ((x2_i _ _ (by decide)).trans ((x2_i _ _ (by decide)).trans ((x2_i _ _ (by decide)).trans ((x2_i _ _ (by decide)).trans ((x2_i _ _ (by decide)).trans ((x2_i _ _ (by decide)).trans ((x2_i _ _ (by decide)).trans ((x2_i _ _ (by decide)).trans ((x2_i _ _ (by decide)).trans ((x2_i _ _ (by decide)).trans ((x2_i _ _ (by decide)).trans ((x2_i _ _ (by decide)).trans ((x2_i _ _ (by decide)).trans ((x2_i _ _ (by decide)).trans ((x2_i _ _ (by decide)).trans ((x2_i _ _ (by decide)).trans ((x2_i _ _ (by decide)).trans ((x2_i _ _ (by decide)).trans (x2_same _ _ _ _))))))))))))))))))))))))))))))))))))), (x2_i _ _ (by decide)).trans ((x2_i _ _ (by decide)).trans ((x2_i _ _ (by decide)).trans ((x2_i _ _ (by decide)).trans ((x2_i _ _ (by decide)).trans ((x2_i _ _ (by decide)).trans ((x2_i _ _ (by decide)).trans ((x2_i _ _ (by decide)).trans ((x2_i _ _ (by decide)).trans ((x2_i _ _ (by decide)).trans ((x2_i _ _ (by decide)).trans ((x2_i _ _ (by decide)).trans ((x2_i _ _ (by decide)).trans ((x2_i _ _ (by decide)).trans ((x2_i _ _ (by decide)).trans ((x2_i _ _ (by decide)).trans ((x2_i _ _ (by decide)).trans ((x2_i _ _ (by decide)).trans ((x2_i _ _ (by decide)).trans ((x2_i _ _ (by decide)).trans ((x2_i _ _ (by decide)).trans ((x2_i _ _ (by decide)).trans ((x2_i _ _ (by decide)).trans ((x2_i _ _ (by decide)).trans ((x2_i _ _ (by decide)).trans ((x2_i _ _ (by decide)).trans ((x2_i _ _ (by decide)).trans ((x2_i _ _ (by decide)).trans ((x2_i _ _ (by decide)).trans ((x2_i _ _ (by decide)).trans ((x2_i _ _ (by decide)).trans ((x2_i _ _ (by decide)).trans ((x2_i _ _ (by decide)).trans ((x2_i _ _ (by decide)).trans ((x2_i _ _ (by decide)).trans ((x2_i _ _ (by decide)).trans (x2_same _ _ _ _)))))))))))))))))))))))))))))))))))), (x2_i _ _ (by decide)).trans ((x2_i _ _ (by decide)).trans ((x2_i _ _ (by decide)).trans ((x2_i _ _ (by decide)).trans ((x2_i _ _ (by decide)).trans ((x2_i _ _ (by decide)).trans ((x2_i _ _ (by decide)).trans ((x2_i _ _ (by decide)).trans ((x2_i _ _ (by decide)).trans ((x2_i _ _ (by decide)).trans ((x2_i _ _ (by decide)).trans ((x2_i _ _ (by decide)).trans ((x2_i _ _ (by decide)).trans ((x2_i _ _ (by decide)).trans ((x2_i _ _ (by decide)).trans ((x2_i _ _ (by decide)).trans ((x2_i _ _ (by decide)).trans ((x2_i _ _ (by decide)).trans ((x2_i _ _ (by decide)).trans ((x2_i _ _ (by decide)).trans ((x2_i _ _ (by decide)).trans ((x2_i _ _ (by decide)).trans ((x2_i _ _ (by decide)).trans ((x2_i _ _ (by decide)).trans ((x2_i _ _ (by decide)).trans ((x2_i _ _ (by decide)).trans ((x2_i _ _ (by decide)).trans ((x2_i _ _ (by decide)).trans ((x2_i _ _ (by decide)).trans ((x2_i _ _ (by decide)).trans ((x2_i _ _ (by decide)).trans ((x2_i _ _ (by decide)).trans ((x2_i _ _ (by decide)).trans ((x2_i _ _ (by decide)).trans ((x2_i _ _ (by decide)).trans (x2_same _ _ _ _))))))))))))))))))))))))))))))))))), (x2_i _ _ (by decide)).trans ((x2_i _ _ (by decide)).trans ((x2_i _ _ (by decide)).trans ((x2_i _ _ (by decide)).trans ((x2_i _ _ (by decide)).trans ((x2_i _ _ (by decide)).trans ((x2_i _ _ (by decide)).trans ((x2_i _ _ (by decide)).trans ((x2_i _ _ (by decide)).trans ((x2_i _ _ (by decide)).trans ((x2_i _ _ (by decide)).trans ((x2_i _ _ (by decide)).trans ((x2_i _ _ (by decide)).trans ((x2_i _ _ (by decide)).trans ((x2_i _ _ (by decide)).trans ((x2_i _ _ (by decide)).trans ((x2_i _ _ (by decide)).trans ((x2_i _ _ (by decide)).trans ((x2_i _ _ (by decide)).trans ((x2_i _ _ (by decide)).trans ((x2_i _ _ (by decide)).trans ((x2_i _ _ (by decide)).trans ((x2_i _ _ (by decide)).trans ((x2_i _ _ (by decide)).trans ((x2_i _ _ (by decide)).trans ((x2_i _ _ (by decide)).trans ((x2_i _ _ (by decide)).trans ((x2_i _ _ (by decide)).trans ((x2_i _ _ (by decide)).trans ((x2_i _ _ (by decide)).trans ((x2_i _ _ (by decide)).trans ((x2_i _ _ (by decide)).trans ((x2_i _ _ (by decide)).trans ((x2_i _ _ (by decide)).trans (x2_same _ _ _ _)))))))))))))))))))))))))))))))))), (x2_i _ _ (by decide)).trans ((x2_i _ _ (by decide)).trans ((x2_i _ _ (by decide)).trans ((x2_i _ _ (by decide)).trans ((x2_i _ _ (by decide)).trans ((x2_i _ _ (by decide)).trans ((x2_i _ _ (by decide)).trans ((x2_i _ _ (by decide)).trans ((x2_i _ _ (by decide)).trans ((x2_i _ _ (by decide)).trans ((x2_i _ _ (by decide)).trans ((x2_i _ _ (by decide)).trans ((x2_i _ _ (by decide)).trans ((x2_i _ _ (by decide)).trans ((x2_i _ _ (by decide)).trans ((x2_i _ _ (by decide)).trans ((x2_i _ _ (by decide)).trans ((x2_i _ _ (by decide)).trans ((x2_i _ _ (by decide)).trans ((x2_i _ _ (by decide)).trans ((x2_i _ _ (by decide)).trans ((x2_i _ _ (by decide)).trans ((x2_i _ _ (by decide)).trans ((x2_i _ _ (by decide)).trans ((x2_i _ _ (by decide)).trans ((x2_i _ _ (by decide)).trans ((x2_i _ _ (by decide)).trans ((x2_i _ _ (by decide)).trans ((x2_i _ _ (by decide)).trans ((x2_i _ _ (by decide)).trans ((x2_i _ _ (by decide)).trans ((x2_i _ _ (by decide)).trans ((x2_i _ _ (by decide)).trans (x2_same _ _ _ _))))))))))))))))))))))))))))))))), (x2_i _ _ (by decide)).trans ((x2_i _ _ (by decide)).trans ((x2_i _ _ (by decide)).trans ((x2_i _ _ (by decide)).trans ((x2_i _ _ (by decide)).trans ((x2_i _ _ (by decide)).trans ((x2_i _ _ (by decide)).trans ((x2_i _ _ (by decide)).trans ((x2_i _ _ (by decide)).trans ((x2_i _ _ (by decide)).trans ((x2_i _ _ (by decide)).trans ((x2_i _ _ (by decide)).trans ((x2_i _ _ (by decide)).trans ((x2_i _ _ (by decide)).trans ((x2_i _ _ (by decide)).trans ((x2_i _ _ (by decide)).trans ((x2_i _ _ (by decide)).trans ((x2_i _ _ (by decide)).trans ((x2_i _ _ (by decide)).trans ((x2_i _ _ (by decide)).trans ((x2_i _ _ (by decide)).trans ((x2_i _ _ (by decide)).trans ((x2_i _ _ (by decide)).trans ((x2_i _ _ (by decide)).trans ((x2_i _ _ (by decide)).trans ((x2_i _ _ (by decide)).trans ((x2_i _ _ (by decide)).trans ((x2_i _ _ (by decide)).trans ((x2_i _ _ (by decide)).trans ((x2_i _ _ (by decide)).trans ((x2_i _ _ (by decide)).trans ((x2_i _ _ (by decide)).trans (x2_same _ _ _ _)))))))))))))))))))))))))))))))), (x2_i _ _ (by decide)).trans ((x2_i _ _ (by decide)).trans ((x2_i _ _ (by decide)).trans ((x2_i _ _ (by decide)).trans ((x2_i _ _ (by decide)).trans ((x2_i _ _ (by decide)).trans ((x2_i _ _ (by decide)).trans ((x2_i _ _ (by decide)).trans ((x2_i _ _ (by decide)).trans ((x2_i _ _ (by decide)).trans ((x2_i _ _ (by decide)).trans ((x2_i _ _ (by decide)).trans ((x2_i _ _ (by decide)).trans ((x2_i _ _ (by decide)).trans ((x2_i _ _ (by decide)).trans ((x2_i _ _ (by decide)).trans ((x2_i _ _ (by decide)).trans ((x2_i _ _ (by decide)).trans ((x2_i _ _ (by decide)).trans ((x2_i _ _ (by decide)).trans ((x2_i _ _ (by decide)).trans ((x2_i _ _ (by decide)).trans ((x2_i _ _ (by decide)).trans ((x2_i _ _ (by decide)).trans ((x2_i _ _ (by decide)).trans ((x2_i _ _ (by decide)).trans ((x2_i _ _ (by decide)).trans ((x2_i _ _ (by decide)).trans ((x2_i _ _ (by decide)).trans ((x2_i _ _ (by decide)).trans ((x2_i _ _ (by decide)).trans (x2_same _ _ _ _))))))))))))))))))))))))))))))), (x2_i _ _ (by decide)).trans ((x2_i _ _ (by decide)).trans ((x2_i _ _ (by decide)).trans ((x2_i _ _ (by decide)).trans ((x2_i _ _ (by decide)).trans ((x2_i _ _ (by decide)).trans ((x2_i _ _ (by decide)).trans ((x2_i _ _ (by decide)).trans ((x2_i _ _ (by decide)).trans ((x2_i _ _ (by decide)).trans ((x2_i _ _ (by decide)).trans ((x2_i _ _ (by decide)).trans ((x2_i _ _ (by decide)).trans ((x2_i _ _ (by decide)).trans ((x2_i _ _ (by decide)).trans ((x2_i _ _ (by decide)).trans ((x2_i _ _ (by decide)).trans ((x2_i _ _ (by decide)).trans ((x2_i _ _ (by decide)).trans ((x2_i _ _ (by decide)).trans ((x2_i _ _ (by decide)).trans ((x2_i _ _ (by decide)).trans ((x2_i _ _ (by decide)).trans ((x2_i _ _ (by decide)).trans ((x2_i _ _ (by decide)).trans ((x2_i _ _ (by decide)).trans ((x2_i _ _ (by decide)).trans ((x2_i _ _ (by decide)).trans ((x2_i _ _ (by decide)).trans ((x2_i _ _ (by decide)).trans (x2_same _ _ _ _)))))))))))))))))))))))))))))), (x2_i _ _ (by decide)).trans ((x2_i _ _ (by decide)).trans ((x2_i _ _ (by decide)).trans ((x2_i _ _ (by decide)).trans ((x2_i _ _ (by decide)).trans ((x2_i _ _ (by decide)).trans ((x2_i _ _ (by decide)).trans ((x2_i _ _ (by decide)).trans ((x2_i _ _ (by decide)).trans ((x2_i _ _ (by decide)).trans ((x2_i _ _ (by decide)).trans ((x2_i _ _ (by decide)).trans ((x2_i _ _ (by decide)).trans ((x2_i _ _ (by decide)).trans ((x2_i _ _ (by decide)).trans ((x2_i _ _ (by decide)).trans ((x2_i _ _ (by decide)).trans ((x2_i _ _ (by decide)).trans ((x2_i _ _ (by decide)).trans ((x2_i _ _ (by decide)).trans ((x2_i _ _ (by decide)).trans ((x2_i _ _ (by decide)).trans ((x2_i _ _ (by decide)).trans ((x2_i _ _ (by decide)).trans ((x2_i _ _ (by decide)).trans ((x2_i _ _ (by decide)).trans ((x2_i _ _ (by decide)).trans ((x2_i _ _ (by decide)).trans ((x2_i _ _ (by decide)).trans (x2_same _ _ _ _))))))))))))))))))))))))))))), (x2_i _ _ (by decide)).trans ((x2_i _ _ (by decide)).trans ((x2_i _ _ (by decide)).trans ((x2_i _ _ (by decide)).trans ((x2_i _ _ (by decide)).trans ((x2_i _ _ (by decide)).trans ((x2_i _ _ (by decide)).trans ((x2_i _ _ (by decide)).trans ((x2_i _ _ (by decide)).trans ((x2_i _ _ (by decide)).trans ((x2_i _ _ (by decide)).trans ((x2_i _ _ (by decide)).trans ((x2_i _ _ (by decide)).trans ((x2_i _ _ (by decide)).trans ((x2_i _ _ (by decide)).trans ((x2_i _ _ (by decide)).trans ((x2_i _ _ (by decide)).trans ((x2_i _ _ (by decide)).trans ((x2_i _ _ (by decide)).trans ((x2_i _ _ (by decide)).trans ((x2_i _ _ (by decide)).trans ((x2_i _ _ (by decide)).trans ((x2_i _ _ (by decide)).trans ((x2_i _ _ (by decide)).trans ((x2_i _ _ (by decide)).trans ((x2_i _ _ (by decide)).trans ((x2_i _ _ (by decide)).trans ((x2_i _ _ (by decide)).trans (x2_same _ _ _ _)))))))))))))))))))))))))))), (x2_i _ _ (by decide)).trans ((x2_i _ _ (by decide)).trans ((x2_i _ _ (by decide)).trans ((x2_i _ _ (by decide)).trans ((x2_i _ _ (by decide)).trans ((x2_i _ _ (by decide)).trans ((x2_i _ _ (by decide)).trans ((x2_i _ _ (by decide)).trans ((x2_i _ _ (by decide)).trans ((x2_i _ _ (by decide)).trans ((x2_i _ _ (by decide)).trans ((x2_i _ _ (by decide)).trans ((x2_i _ _ (by decide)).trans ((x2_i _ _ (by decide)).trans ((x2_i _ _ (by decide)).trans ((x2_i _ _ (by decide)).trans ((x2_i _ _ (by decide)).trans ((x2_i _ _ (by decide)).trans ((x2_i _ _ (by decide)).trans ((x2_i _ _ (by decide)).trans ((x2_i _ _ (by decide)).trans ((x2_i _ _ (by decide)).trans ((x2_i _ _ (by decide)).trans ((x2_i _ _ (by decide)).trans ((x2_i _ _ (by decide)).trans ((x2_i _ _ (by decide)).trans ((x2_i _ _ (by decide)).trans (x2_same _ _ _ _))))))))))))))))))))))))))), (x2_i _ _ (by decide)).trans ((x2_i _ _ (by decide)).trans ((x2_i _ _ (by decide)).trans ((x2_i _ _ (by decide)).trans ((x2_i _ _ (by decide)).trans ((x2_i _ _ (by decide)).trans ((x2_i _ _ (by decide)).trans ((x2_i _ _ (by decide)).trans ((x2_i _ _ (by decide)).trans ((x2_i _ _ (by decide)).trans ((x2_i _ _ (by decide)).trans ((x2_i _ _ (by decide)).trans ((x2_i _ _ (by decide)).trans ((x2_i _ _ (by decide)).trans ((x2_i _ _ (by decide)).trans ((x2_i _ _ (by decide)).trans ((x2_i _ _ (by decide)).trans ((x2_i _ _ (by decide)).trans ((x2_i _ _ (by decide)).trans ((x2_i _ _ (by decide)).trans ((x2_i _ _ (by decide)).trans ((x2_i _ _ (by decide)).trans ((x2_i _ _ (by decide)).trans ((x2_i _ _ (by decide)).trans ((x2_i _ _ (by decide)).trans ((x2_i _ _ (by decide)).trans (x2_same _ _ _ _)))))))))))))))))))))))))), (x2_i _ _ (by decide)).trans ((x2_i _ _ (by decide)).trans ((x2_i _ _ (by decide)).trans ((x2_i _ _ (by decide)).trans ((x2_i _ _ (by decide)).trans ((x2_i _ _ (by decide)).trans ((x2_i _ _ (by decide)).trans ((x2_i _ _ (by decide)).trans ((x2_i _ _ (by decide)).trans ((x2_i _ _ (by decide)).trans ((x2_i _ _ (by decide)).trans ((x2_i _ _ (by decide)).trans ((x2_i _ _ (by decide)).trans ((x2_i _ _ (by decide)).trans ((x2_i _ _ (by decide)).trans ((x2_i _ _ (by decide)).trans ((x2_i _ _ (by decide)).trans ((x2_i _ _ (by decide)).trans ((x2_i _ _ (by decide)).trans ((x2_i _ _ (by decide)).trans ((x2_i _ _ (by decide)).trans ((x2_i _ _ (by decide)).trans ((x2_i _ _ (by decide)).trans ((x2_i _ _ (by decide)).trans ((x2_i _ _ (by decide)).trans (x2_same _ _ _ _))))))))))))))))))))))))), (x2_i _ _ (by decide)).trans ((x2_i _ _ (by decide)).trans ((x2_i _ _ (by decide)).trans ((x2_i _ _ (by decide)).trans ((x2_i _ _ (by decide)).trans ((x2_i _ _ (by decide)).trans ((x2_i _ _ (by decide)).trans ((x2_i _ _ (by decide)).trans ((x2_i _ _ (by decide)).trans ((x2_i _ _ (by decide)).trans ((x2_i _ _ (by decide)).trans ((x2_i _ _ (by decide)).trans ((x2_i _ _ (by decide)).trans ((x2_i _ _ (by decide)).trans ((x2_i _ _ (by decide)).trans ((x2_i _ _ (by decide)).trans ((x2_i _ _ (by decide)).trans ((x2_i _ _ (by decide)).trans ((x2_i _ _ (by decide)).trans ((x2_i _ _ (by decide)).trans ((x2_i _ _ (by decide)).trans ((x2_i _ _ (by decide)).trans ((x2_i _ _ (by decide)).trans ((x2_i _ _ (by decide)).trans (x2_same _ _ _ _)))))))))))))))))))))))), (x2_i _ _ (by decide)).trans ((x2_i _ _ (by decide)).trans ((x2_i _ _ (by decide)).trans ((x2_i _ _ (by decide)).trans ((x2_i _ _ (by decide)).trans ((x2_i _ _ (by decide)).trans ((x2_i _ _ (by decide)).trans ((x2_i _ _ (by decide)).trans ((x2_i _ _ (by decide)).trans ((x2_i _ _ (by decide)).trans ((x2_i _ _ (by decide)).trans ((x2_i _ _ (by decide)).trans ((x2_i _ _ (by decide)).trans ((x2_i _ _ (by decide)).trans ((x2_i _ _ (by decide)).trans ((x2_i _ _ (by decide)).trans ((x2_i _ _ (by decide)).trans ((x2_i _ _ (by decide)).trans ((x2_i _ _ (by decide)).trans ((x2_i _ _ (by decide)).trans ((x2_i _ _ (by decide)).trans ((x2_i _ _ (by decide)).trans ((x2_i _ _ (by decide)).trans (x2_same _ _ _ _))))))))))))))))))))))), (x2_i _ _ (by decide)).trans ((x2_i _ _ (by decide)).trans ((x2_i _ _ (by decide)).trans ((x2_i _ _ (by decide)).trans ((x2_i _ _ (by decide)).trans ((x2_i _ _ (by decide)).trans ((x2_i _ _ (by decide)).trans ((x2_i _ _ (by decide)).trans ((x2_i _ _ (by decide)).trans ((x2_i _ _ (by decide)).trans ((x2_i _ _ (by decide)).trans ((x2_i _ _ (by decide)).trans ((x2_i _ _ (by decide)).trans ((x2_i _ _ (by decide)).trans ((x2_i _ _ (by decide)).trans ((x2_i _ _ (by decide)).trans ((x2_i _ _ (by decide)).trans ((x2_i _ _ (by decide)).trans ((x2_i _ _ (by decide)).trans ((x2_i _ _ (by decide)).trans ((x2_i _ _ (by decide)).trans ((x2_i _ _ (by decide)).trans (x2_same _ _ _ _)))))))))))))))))))))), (x2_i _ _ (by decide)).trans ((x2_i _ _ (by decide)).trans ((x2_i _ _ (by decide)).trans ((x2_i _ _ (by decide)).trans ((x2_i _ _ (by decide)).trans ((x2_i _ _ (by decide)).trans ((x2_i _ _ (by decide)).trans ((x2_i _ _ (by decide)).trans ((x2_i _ _ (by decide)).trans ((x2_i _ _ (by decide)).trans ((x2_i _ _ (by decide)).trans ((x2_i _ _ (by decide)).trans ((x2_i _ _ (by decide)).trans ((x2_i _ _ (by decide)).trans ((x2_i _ _ (by decide)).trans ((x2_i _ _ (by decide)).trans ((x2_i _ _ (by decide)).trans ((x2_i _ _ (by decide)).trans ((x2_i _ _ (by decide)).trans ((x2_i _ _ (by decide)).trans ((x2_i _ _ (by decide)).trans (x2_same _ _ _ _))))))))))))))))))))), (x2_i _ _ (by decide)).trans ((x2_i _ _ (by decide)).trans ((x2_i _ _ (by decide)).trans ((x2_i _ _ (by decide)).trans ((x2_i _ _ (by decide)).trans ((x2_i _ _ (by decide)).trans ((x2_i _ _ (by decide)).trans ((x2_i _ _ (by decide)).trans ((x2_i _ _ (by decide)).trans ((x2_i _ _ (by decide)).trans ((x2_i _ _ (by decide)).trans ((x2_i _ _ (by decide)).trans ((x2_i _ _ (by decide)).trans ((x2_i _ _ (by decide)).trans ((x2_i _ _ (by decide)).trans ((x2_i _ _ (by decide)).trans ((x2_i _ _ (by decide)).trans ((x2_i _ _ (by decide)).trans ((x2_i _ _ (by decide)).trans ((x2_i _ _ (by decide)).trans (x2_same _ _ _ _)))))))))))))))))))), (x2_i _ _ (by decide)).trans ((x2_i _ _ (by decide)).trans ((x2_i _ _ (by decide)).trans ((x2_i _ _ (by decide)).trans ((x2_i _ _ (by decide)).trans ((x2_i _ _ (by decide)).trans ((x2_i _ _ (by decide)).trans ((x2_i _ _ (by decide)).trans ((x2_i _ _ (by decide)).trans ((x2_i _ _ (by decide)).trans ((x2_i _ _ (by decide)).trans ((x2_i _ _ (by decide)).trans ((x2_i _ _ (by decide)).trans ((x2_i _ _ (by decide)).trans ((x2_i _ _ (by decide)).trans ((x2_i _ _ (by decide)).trans ((x2_i _ _ (by decide)).trans ((x2_i _ _ (by decide)).trans ((x2_i _ _ (by decide)).trans (x2_same _ _ _ _))))))))))))))))))), (x2_i _ _ (by decide)).trans ((x2_i _ _ (by decide)).trans ((x2_i _ _ (by decide)).trans ((x2_i _ _ (by decide)).trans ((x2_i _ _ (by decide)).trans ((x2_i _ _ (by decide)).trans ((x2_i _ _ (by decide)).trans ((x2_i _ _ (by decide)).trans ((x2_i _ _ (by decide)).trans ((x2_i _ _ (by decide)).trans ((x2_i _ _ (by decide)).trans ((x2_i _ _ (by decide)).trans ((x2_i _ _ (by decide)).trans ((x2_i _ _ (by decide)).trans ((x2_i _ _ (by decide)).trans ((x2_i _ _ (by decide)).trans ((x2_i _ _ (by decide)).trans ((x2_i _ _ (by decide)).trans (x2_same _ _ _ _)))))))))))))))))), (x2_i _ _ (by decide)).trans ((x2_i _ _ (by decide)).trans ((x2_i _ _ (by decide)).trans ((x2_i _ _ (by decide)).trans ((x2_i _ _ (by decide)).trans ((x2_i _ _ (by decide)).trans ((x2_i _ _ (by decide)).trans ((x2_i _ _ (by decide)).trans ((x2_i _ _ (by decide)).trans ((x2_i _ _ (by decide)).trans ((x2_i _ _ (by decide)).trans ((x2_i _ _ (by decide)).trans ((x2_i _ _ (by decide)).trans ((x2_i _ _ (by decide)).trans ((x2_i _ _ (by decide)).trans ((x2_i _ _ (by decide)).trans ((x2_i _ _ (by decide)).trans (x2_same _ _ _ _))))))))))))))))), (x2_i _ _ (by decide)).trans ((x2_i _ _ (by decide)).trans ((x2_i _ _ (by decide)).trans ((x2_i _ _ (by decide)).trans ((x2_i _ _ (by decide)).trans ((x2_i _ _ (by decide)).trans ((x2_i _ _ (by decide)).trans ((x2_i _ _ (by decide)).trans ((x2_i _ _ (by decide)).trans ((x2_i _ _ (by decide)).trans ((x2_i _ _ (by decide)).trans ((x2_i _ _ (by decide)).trans ((x2_i _ _ (by decide)).trans ((x2_i _ _ (by decide)).trans ((x2_i _ _ (by decide)).trans ((x2_i _ _ (by decide)).trans (x2_same _ _ _ _)))))))))))))))), (x2_i _ _ (by decide)).trans ((x2_i _ _ (by decide)).trans ((x2_i _ _ (by decide)).trans ((x2_i _ _ (by decide)).trans ((x2_i _ _ (by decide)).trans ((x2_i _ _ (by decide)).trans ((x2_i _ _ (by decide)).trans ((x2_i _ _ (by decide)).trans ((x2_i _ _ (by decide)).trans ((x2_i _ _ (by decide)).trans ((x2_i _ _ (by decide)).trans ((x2_i _ _ (by decide)).trans ((x2_i _ _ (by decide)).trans ((x2_i _ _ (by decide)).trans ((x2_i _ _ (by decide)).trans (x2_same _ _ _ _))))))))))))))), (x2_i _ _ (by decide)).trans ((x2_i _ _ (by decide)).trans ((x2_i _ _ (by decide)).trans ((x2_i _ _ (by decide)).trans ((x2_i _ _ (by decide)).trans ((x2_i _ _ (by decide)).trans ((x2_i _ _ (by decide)).trans ((x2_i _ _ (by decide)).trans ((x2_i _ _ (by decide)).trans ((x2_i _ _ (by decide)).trans ((x2_i _ _ (by decide)).trans ((x2_i _ _ (by decide)).trans ((x2_i _ _ (by decide)).trans ((x2_i _ _ (by decide)).trans (x2_same _ _ _ _)))))))))))))), (x2_i _ _ (by decide)).trans ((x2_i _ _ (by decide)).trans ((x2_i _ _ (by decide)).trans ((x2_i _ _ (by decide)).trans ((x2_i _ _ (by decide)).trans ((x2_i _ _ (by decide)).trans ((x2_i _ _ (by decide)).trans ((x2_i _ _ (by decide)).trans ((x2_i _ _ (by decide)).trans ((x2_i _ _ (by decide)).trans ((x2_i _ _ (by decide)).trans ((x2_i _ _ (by decide)).trans ((x2_i _ _ (by decide)).trans (x2_same _ _ _ _))))))))))))), (x2_i _ _ (by decide)).trans ((x2_i _ _ (by decide)).trans ((x2_i _ _ (by decide)).trans ((x2_i _ _ (by decide)).trans ((x2_i _ _ (by decide)).trans ((x2_i _ _ (by decide)).trans ((x2_i _ _ (by decide)).trans ((x2_i _ _ (by decide)).trans ((x2_i _ _ (by decide)).trans ((x2_i _ _ (by decide)).trans ((x2_i _ _ (by decide)).trans ((x2_i _ _ (by decide)).trans (x2_same _ _ _ _)))))))))))), (x2_i _ _ (by decide)).trans ((x2_i _ _ (by decide)).trans ((x2_i _ _ (by decide)).trans ((x2_i _ _ (by decide)).trans ((x2_i _ _ (by decide)).trans ((x2_i _ _ (by decide)).trans ((x2_i _ _ (by decide)).trans ((x2_i _ _ (by decide)).trans ((x2_i _ _ (by decide)).trans ((x2_i _ _ (by decide)).trans ((x2_i _ _ (by decide)).trans (x2_same _ _ _ _))))))))))), (x2_i _ _ (by decide)).trans ((x2_i _ _ (by decide)).trans ((x2_i _ _ (by decide)).trans ((x2_i _ _ (by decide)).trans ((x2_i _ _ (by decide)).trans ((x2_i _ _ (by decide)).trans ((x2_i _ _ (by decide)).trans ((x2_i _ _ (by decide)).trans ((x2_i _ _ (by decide)).trans ((x2_i _ _ (by decide)).trans (x2_same _ _ _ _)))))))))), (x2_i _ _ (by decide)).trans ((x2_i _ _ (by decide)).trans ((x2_i _ _ (by decide)).trans ((x2_i _ _ (by decide)).trans ((x2_i _ _ (by decide)).trans ((x2_i _ _ (by decide)).trans ((x2_i _ _ (by decide)).trans ((x2_i _ _ (by decide)).trans ((x2_i _ _ (by decide)).trans (x2_same _ _ _ _))))))))), (x2_i _ _ (by decide)).trans ((x2_i _ _ (by decide)).trans ((x2_i _ _ (by decide)).trans ((x2_i _ _ (by decide)).trans ((x2_i _ _ (by decide)).trans ((x2_i _ _ (by decide)).trans ((x2_i _ _ (by decide)).trans ((x2_i _ _ (by decide)).trans (x2_same _ _ _ _)))))))), (x2_i _ _ (by decide)).trans ((x2_i _ _ (by decide)).trans ((x2_i _ _ (by decide)).trans ((x2_i _ _ (by decide)).trans ((x2_i _ _ (by decide)).trans ((x2_i _ _ (by decide)).trans ((x2_i _ _ (by decide)).trans (x2_same _ _ _ _))))))), (x2_i _ _ (by decide)).trans ((x2_i _ _ (by decide)).trans ((x2_i _ _ (by decide)).trans ((x2_i _ _ (by decide)).trans ((x2_i _ _ (by decide)).trans ((x2_i _ _ (by decide)).trans (x2_same _ _ _ _)))))), (x2_i _ _ (by decide)).trans ((x2_i _ _ (by decide)).trans ((x2_i _ _ (by decide)).trans ((x2_i _ _ (by decide)).trans ((x2_i _ _ (by decide)).trans (x2_same _ _ _ _))))), (x2_i _ _ (by decide)).trans ((x2_i _ _ (by decide)).trans ((x2_i _ _ (by decide)).trans ((x2_i _ _ (by decide)).trans (x2_same _ _ _ _)))), (x2_i _ _ (by decide)).trans ((x2_i _ _ (by decide)).trans ((x2_i _ _ (by decide)).trans (x2_same _ _ _ _))), (x2_i _ _ (by decide)).trans ((x2_i _ _ (by decide)).trans (x2_same _ _ _ _)), (x2_i _ _ (by decide)).trans (x2_same _ _ _ _), x2_same _ _ _ _⟩ (fun b i hb => (x2_a _ _ (by omega)).trans ((x2_a _ _ (by omega)).trans ((x2_a _ _ (by omega)).trans ((x2_a _ _ (by omega)).trans ((x2_a _ _ (by omega)).trans ((x2_a _ _ (by omega)).trans ((x2_a _ _ (by omega)).trans ((x2_a _ _ (by omega)).trans ((x2_a _ _ (by omega)).trans ((x2_a _ _ (by omega)).trans ((x2_a _ _ (by omega)).trans ((x2_a _ _ (by omega)).trans ((x2_a _ _ (by omega)).trans ((x2_a _ _ (by omega)).trans ((x2_a _ _ (by omega)).trans ((x2_a _ _ (by omega)).trans ((x2_a _ _ (by omega)).trans ((x2_a _ _ (by omega)).trans ((x2_a _ _ (by omega)).trans ((x2_a _ _ (by omega)).trans ((x2_a _ _ (by omega)).trans ((x2_a _ _ (by omega)).trans ((x2_a _ _ (by omega)).trans ((x2_a _ _ (by omega)).trans ((x2_a _ _ (by omega)).trans ((x2_a _ _ (by omega)).trans ((x2_a _ _ (by omega)).trans ((x2_a _ _ (by omega)).trans ((x2_a _ _ (by omega)).trans ((x2_a _ _ (by omega)).trans ((x2_a _ _ (by omega)).trans ((x2_a _ _ (by omega)).trans ((x2_a _ _ (by omega)).trans ((x2_a _ _ (by omega)).trans ((x2_a _ _ (by omega)).trans ((x2_a _ _ (by omega)).trans ((x2_a _ _ (by omega)).trans ((x2_a _ _ (by omega)).trans ((x2_a _ _ (by omega)).trans ((x2_a _ _ (by omega)).trans ((x2_a _ _ (by omega)).trans ((x2_a _ _ (by omega)).trans (rfl))))))))))))))))))))))))))))))))))))))))))))
set_option maxHeartbeats 4000000 in
theorem C_Roads (hZ : xZ 54 u w r) (kk : ∀ r', (r' 54 0 = some 55 ∧ r' 54 1 = some 56 ∧ r' 54 2 = some 57 ∧ r' 54 3 = some 58 ∧ r' 54 4 = some 59 ∧ r' 54 5 = some 60 ∧ r' 54 6 = some 61 ∧ r' 53 0 = some 54 ∧ r' 62 0 = some 63 ∧ r' 62 1 = some 64 ∧ r' 62 2 = some 65 ∧ r' 62 3 = some 66 ∧ r' 62 4 = some 67 ∧ r' 62 5 = some 68 ∧ r' 62 6 = some 69 ∧ r' 53 1 = some 62 ∧ r' 70 0 = some 71 ∧ r' 70 1 = some 72 ∧ r' 70 2 = some 73 ∧ r' 70 3 = some 74 ∧ r' 70 4 = some 75 ∧ r' 70 5 = some 76 ∧ r' 70 6 = some 77 ∧ r' 53 2 = some 70 ∧ r' 53 3 = some 78) → rSm 53 79 r r' → xZ 79 u w r' → P none u w r') : xCall g (d + 1) mX8_init [.ref 53] 54 u w r 79 P := by
  refine xCall.of (ls := [some (.ref 53)]) plX8 (Nat.le_of_ble_eq_true rfl) rfl ?_
  refine xe_aload_n dX8_init_0 rfl ?_
  refine xe_objInit dX8_init_1 (xT_at 411 (by decide +kernel) (by decide +kernel)) (Nat.le_of_ble_eq_true rfl) ?_
  refine xe_aload_n dX8_init_4 rfl ?_
  refine xe_bipush (v := 7) dX8_init_5 rfl ?_
  refine xe_bipush (v := 7) dX8_init_7 rfl ?_
  refine xe_multi (N := 7) (M := 7) dX8_init_9 (xT_at 412 (by decide +kernel) (by decide +kernel)) (fun s z => z.2.2.1.2.2) rfl rfl (by omega) (by omega) (by decide +kernel) (by decide +kernel) hZ ?_
  have hm1 : ∀ i, i < 7 → (xrw 54 7 r) 54 i = some (54 + 1 + i) := fun i hi => if_pos ⟨rfl, hi⟩
  have hf1 : ∀ b i, ¬ b = 54 → (xrw 54 7 r) b i = r b i := fun b i hb => if_neg (fun z => hb z.1)
  have hz1 : xZ 62 u w (xrw 54 7 r) := fun b i hb => ⟨(hZ b i (by omega)).1, (hZ b i (by omega)).2.1, (hf1 b i (by omega)).trans (hZ b i (by omega)).2.2⟩
  generalize xrw 54 7 r = rm1 at hm1 hf1 hz1 ⊢
  refine xe_putRF (b := 54) dX8_init_13 flX8_11 kk53 (by omega) (fun q h => by cases h; exact ⟨rfl, rfl⟩) rfl rfl ?_
  have hZ := hz1.pr (a := 53) (k := 0) (x := some (54)) (by omega)
  refine xe_aload_n dX8_init_16 rfl ?_
  refine xe_bipush (v := 7) dX8_init_17 rfl ?_
  refine xe_bipush (v := 7) dX8_init_19 rfl ?_
  refine xe_multi (N := 7) (M := 7) dX8_init_21 (xT_at 412 (by decide +kernel) (by decide +kernel)) (fun s z => z.2.2.1.2.2) rfl rfl (by omega) (by omega) (by decide +kernel) (by decide +kernel) hZ ?_
  have hm2 : ∀ i, i < 7 → (xrw 62 7 (x2 rm1 53 0 (some (54)))) 62 i = some (62 + 1 + i) := fun i hi => if_pos ⟨rfl, hi⟩
  have hf2 : ∀ b i, ¬ b = 62 → (xrw 62 7 (x2 rm1 53 0 (some (54)))) b i = (x2 rm1 53 0 (some (54))) b i := fun b i hb => if_neg (fun z => hb z.1)
  have hz2 : xZ 70 u w (xrw 62 7 (x2 rm1 53 0 (some (54)))) := fun b i hb => ⟨(hZ b i (by omega)).1, (hZ b i (by omega)).2.1, (hf2 b i (by omega)).trans (hZ b i (by omega)).2.2⟩
  generalize xrw 62 7 (x2 rm1 53 0 (some (54))) = rm2 at hm2 hf2 hz2 ⊢
  refine xe_putRF (b := 62) dX8_init_25 flX8_16 kk53 (by omega) (fun q h => by cases h; exact ⟨rfl, rfl⟩) rfl rfl ?_
  have hZ := hz2.pr (a := 53) (k := 1) (x := some (62)) (by omega)
  refine xe_aload_n dX8_init_28 rfl ?_
  refine xe_bipush (v := 7) dX8_init_29 rfl ?_
  refine xe_bipush (v := 7) dX8_init_31 rfl ?_
  refine xe_multi (N := 7) (M := 7) dX8_init_33 (xT_at 412 (by decide +kernel) (by decide +kernel)) (fun s z => z.2.2.1.2.2) rfl rfl (by omega) (by omega) (by decide +kernel) (by decide +kernel) hZ ?_
  have hm3 : ∀ i, i < 7 → (xrw 70 7 (x2 rm2 53 1 (some (62)))) 70 i = some (70 + 1 + i) := fun i hi => if_pos ⟨rfl, hi⟩
  have hf3 : ∀ b i, ¬ b = 70 → (xrw 70 7 (x2 rm2 53 1 (some (62)))) b i = (x2 rm2 53 1 (some (62))) b i := fun b i hb => if_neg (fun z => hb z.1)
  have hz3 : xZ 78 u w (xrw 70 7 (x2 rm2 53 1 (some (62)))) := fun b i hb => ⟨(hZ b i (by omega)).1, (hZ b i (by omega)).2.1, (hf3 b i (by omega)).trans (hZ b i (by omega)).2.2⟩
  generalize xrw 70 7 (x2 rm2 53 1 (some (62))) = rm3 at hm3 hf3 hz3 ⊢
  refine xe_putRF (b := 70) dX8_init_37 flX8_19 kk53 (by omega) (fun q h => by cases h; exact ⟨rfl, rfl⟩) rfl rfl ?_
  have hZ := hz3.pr (a := 53) (k := 2) (x := some (70)) (by omega)
  refine xe_aload_n dX8_init_40 rfl ?_
  refine xe_bipush (v := 7) dX8_init_41 rfl ?_
  refine xe_newa (n := 7) (ty := .int) dX8_init_43 rfl acI rfl (by omega) (Or.inl rfl) (by decide +kernel) hZ ?_
  refine xe_putRF (b := 78) dX8_init_45 flX8_22 kk53 (by omega) (fun q h => by cases h; exact ⟨rfl, rfl⟩) rfl rfl ?_
  have hZ := (hZ.le (Nat.le_succ _)).pr (a := 53) (k := 3) (x := some (78)) (by omega)
  exact xe_return dX8_init_48 trivial (kk _ ⟨(x2_a _ _ (by omega)).trans ((x2_a _ _ (by omega)).trans ((hf3 _ _ (by omega)).trans ((x2_a _ _ (by omega)).trans ((hf2 _ _ (by omega)).trans ((x2_a _ _ (by omega)).trans (hm1 0 (by omega))))))), (x2_a _ _ (by omega)).trans ((x2_a _ _ (by omega)).trans ((hf3 _ _ (by omega)).trans ((x2_a _ _ (by omega)).trans ((hf2 _ _ (by omega)).trans ((x2_a _ _ (by omega)).trans (hm1 1 (by omega))))))), (x2_a _ _ (by omega)).trans ((x2_a _ _ (by omega)).trans ((hf3 _ _ (by omega)).trans ((x2_a _ _ (by omega)).trans ((hf2 _ _ (by omega)).trans ((x2_a _ _ (by omega)).trans (hm1 2 (by omega))))))), (x2_a _ _ (by omega)).trans ((x2_a _ _ (by omega)).trans ((hf3 _ _ (by omega)).trans ((x2_a _ _ (by omega)).trans ((hf2 _ _ (by omega)).trans ((x2_a _ _ (by omega)).trans (hm1 3 (by omega))))))), (x2_a _ _ (by omega)).trans ((x2_a _ _ (by omega)).trans ((hf3 _ _ (by omega)).trans ((x2_a _ _ (by omega)).trans ((hf2 _ _ (by omega)).trans ((x2_a _ _ (by omega)).trans (hm1 4 (by omega))))))), (x2_a _ _ (by omega)).trans ((x2_a _ _ (by omega)).trans ((hf3 _ _ (by omega)).trans ((x2_a _ _ (by omega)).trans ((hf2 _ _ (by omega)).trans ((x2_a _ _ (by omega)).trans (hm1 5 (by omega))))))), (x2_a _ _ (by omega)).trans ((x2_a _ _ (by omega)).trans ((hf3 _ _ (by omega)).trans ((x2_a _ _ (by omega)).trans ((hf2 _ _ (by omega)).trans ((x2_a _ _ (by omega)).trans (hm1 6 (by omega))))))), (x2_i _ _ (by decide)).trans ((x2_i _ _ (by decide)).trans ((hf3 _ _ (by omega)).trans ((x2_i _ _ (by decide)).trans ((hf2 _ _ (by omega)).trans (x2_same _ _ _ _))))), (x2_a _ _ (by omega)).trans ((x2_a _ _ (by omega)).trans ((hf3 _ _ (by omega)).trans ((x2_a _ _ (by omega)).trans (hm2 0 (by omega))))), (x2_a _ _ (by omega)).trans ((x2_a _ _ (by omega)).trans ((hf3 _ _ (by omega)).trans ((x2_a _ _ (by omega)).trans (hm2 1 (by omega))))), (x2_a _ _ (by omega)).trans ((x2_a _ _ (by omega)).trans ((hf3 _ _ (by omega)).trans ((x2_a _ _ (by omega)).trans (hm2 2 (by omega))))), (x2_a _ _ (by omega)).trans ((x2_a _ _ (by omega)).trans ((hf3 _ _ (by omega)).trans ((x2_a _ _ (by omega)).trans (hm2 3 (by omega))))), (x2_a _ _ (by omega)).trans ((x2_a _ _ (by omega)).trans ((hf3 _ _ (by omega)).trans ((x2_a _ _ (by omega)).trans (hm2 4 (by omega))))), (x2_a _ _ (by omega)).trans ((x2_a _ _ (by omega)).trans ((hf3 _ _ (by omega)).trans ((x2_a _ _ (by omega)).trans (hm2 5 (by omega))))), (x2_a _ _ (by omega)).trans ((x2_a _ _ (by omega)).trans ((hf3 _ _ (by omega)).trans ((x2_a _ _ (by omega)).trans (hm2 6 (by omega))))), (x2_i _ _ (by decide)).trans ((x2_i _ _ (by decide)).trans ((hf3 _ _ (by omega)).trans (x2_same _ _ _ _))), (x2_a _ _ (by omega)).trans ((x2_a _ _ (by omega)).trans (hm3 0 (by omega))), (x2_a _ _ (by omega)).trans ((x2_a _ _ (by omega)).trans (hm3 1 (by omega))), (x2_a _ _ (by omega)).trans ((x2_a _ _ (by omega)).trans (hm3 2 (by omega))), (x2_a _ _ (by omega)).trans ((x2_a _ _ (by omega)).trans (hm3 3 (by omega))), (x2_a _ _ (by omega)).trans ((x2_a _ _ (by omega)).trans (hm3 4 (by omega))), (x2_a _ _ (by omega)).trans ((x2_a _ _ (by omega)).trans (hm3 5 (by omega))), (x2_a _ _ (by omega)).trans ((x2_a _ _ (by omega)).trans (hm3 6 (by omega))), (x2_i _ _ (by decide)).trans (x2_same _ _ _ _), x2_same _ _ _ _⟩ (fun b i hb => (x2_a _ _ (by omega)).trans ((x2_a _ _ (by omega)).trans ((hf3 _ _ (by omega)).trans ((x2_a _ _ (by omega)).trans ((hf2 _ _ (by omega)).trans ((x2_a _ _ (by omega)).trans ((hf1 _ _ (by omega)).trans (rfl)))))))) hZ)
theorem C_Course (hZ : xZ 53 u w r) (kk : ∀ r', (r' 52 0 = some 53 ∧ r' 52 1 = some 22 ∧ r' 54 0 = some 55 ∧ r' 54 1 = some 56 ∧ r' 54 2 = some 57 ∧ r' 54 3 = some 58 ∧ r' 54 4 = some 59 ∧ r' 54 5 = some 60 ∧ r' 54 6 = some 61 ∧ r' 53 0 = some 54 ∧ r' 62 0 = some 63 ∧ r' 62 1 = some 64 ∧ r' 62 2 = some 65 ∧ r' 62 3 = some 66 ∧ r' 62 4 = some 67 ∧ r' 62 5 = some 68 ∧ r' 62 6 = some 69 ∧ r' 53 1 = some 62 ∧ r' 70 0 = some 71 ∧ r' 70 1 = some 72 ∧ r' 70 2 = some 73 ∧ r' 70 3 = some 74 ∧ r' 70 4 = some 75 ∧ r' 70 5 = some 76 ∧ r' 70 6 = some 77 ∧ r' 53 2 = some 70 ∧ r' 53 3 = some 78) → rSm 52 79 r r' → xZ 79 u w r' → P none u w r') : xCall g (d + 2) mX0_init [.ref 52, .ref 22] 53 u w r 79 P := by
  refine xCall.of (ls := [some (.ref 52), some (.ref 22)]) plX0 (Nat.le_of_ble_eq_true rfl) rfl ?_
  refine xe_aload_n dX0_init_0 rfl ?_
  refine xe_objInit dX0_init_1 (xT_at 405 (by decide +kernel) (by decide +kernel)) (Nat.le_of_ble_eq_true rfl) ?_
  refine xe_aload_n dX0_init_4 rfl ?_
  refine xe_new (ci := 8) dX0_init_5 rfl (xT_at 406 (by decide +kernel) (by decide +kernel)) (xT_at 407 (by decide +kernel) (by decide +kernel)) (xT_at 130 (by decide +kernel) (by decide +kernel)) (by decide +kernel) hZ ?_
  refine xe_dup dX0_init_8 rfl ?_
  refine xe_callIN (args := []) (P1 := fun rv u1 w1 r1 => rv = none ∧ u = u1 ∧ w = w1 ∧ ((r1 54 0 = some 55 ∧ r1 54 1 = some 56 ∧ r1 54 2 = some 57 ∧ r1 54 3 = some 58 ∧ r1 54 4 = some 59 ∧ r1 54 5 = some 60 ∧ r1 54 6 = some 61 ∧ r1 53 0 = some 54 ∧ r1 62 0 = some 63 ∧ r1 62 1 = some 64 ∧ r1 62 2 = some 65 ∧ r1 62 3 = some 66 ∧ r1 62 4 = some 67 ∧ r1 62 5 = some 68 ∧ r1 62 6 = some 69 ∧ r1 53 1 = some 62 ∧ r1 70 0 = some 71 ∧ r1 70 1 = some 72 ∧ r1 70 2 = some 73 ∧ r1 70 3 = some 74 ∧ r1 70 4 = some 75 ∧ r1 70 5 = some 76 ∧ r1 70 6 = some 77 ∧ r1 53 2 = some 70 ∧ r1 53 3 = some 78) ∧ rSm 53 79 r r1 ∧ xZ 79 u w r1)) dX0_init_9 inX0_11 rfl rfl (Nat.le_of_ble_eq_true rfl) (C_Roads (hZ.le (Nat.le_succ _)) (fun r1 y1 y2 y3 => ⟨rfl, rfl, rfl, y1, y2, y3⟩)) (Nat.le_of_ble_eq_true rfl) (fun rv1 u1 w1 r1 k => ?_)
  obtain ⟨rfl, rfl, rfl, y1, y2, y3⟩ := k
  refine xe_putRF (b := 53) dX0_init_12 flX0_12 kk52 (by omega) (fun q h => by cases h; exact ⟨rfl, rfl⟩) rfl rfl ?_
  have hZ := y3.pr (a := 52) (k := 0) (x := some (53)) (by omega)
  refine xe_aload_n dX0_init_15 rfl ?_
  refine xe_aload_n dX0_init_16 rfl ?_
  refine xe_putR (b := 22) dX0_init_17 flX0_18 kk52 (by omega) (fun q h => by cases h; rfl) rfl ?_
  have hZ := hZ.pr (a := 52) (k := 1) (x := some (22)) (by omega)
  exact xe_return dX0_init_20 trivial (kk _ ⟨(x2_i _ _ (by decide)).trans (x2_same _ _ _ _), x2_same _ _ _ _, (x2_a _ _ (by omega)).trans ((x2_a _ _ (by omega)).trans (y1.1)), (x2_a _ _ (by omega)).trans ((x2_a _ _ (by omega)).trans (y1.2.1)), (x2_a _ _ (by omega)).trans ((x2_a _ _ (by omega)).trans (y1.2.2.1)), (x2_a _ _ (by omega)).trans ((x2_a _ _ (by omega)).trans (y1.2.2.2.1)), (x2_a _ _ (by omega)).trans ((x2_a _ _ (by omega)).trans (y1.2.2.2.2.1)), (x2_a _ _ (by omega)).trans ((x2_a _ _ (by omega)).trans (y1.2.2.2.2.2.1)), (x2_a _ _ (by omega)).trans ((x2_a _ _ (by omega)).trans (y1.2.2.2.2.2.2.1)), (x2_a _ _ (by omega)).trans ((x2_a _ _ (by omega)).trans (y1.2.2.2.2.2.2.2.1)), (x2_a _ _ (by omega)).trans ((x2_a _ _ (by omega)).trans (y1.2.2.2.2.2.2.2.2.1)), (x2_a _ _ (by omega)).trans ((x2_a _ _ (by omega)).trans (y1.2.2.2.2.2.2.2.2.2.1)), (x2_a _ _ (by omega)).trans ((x2_a _ _ (by omega)).trans (y1.2.2.2.2.2.2.2.2.2.2.1)), (x2_a _ _ (by omega)).trans ((x2_a _ _ (by omega)).trans (y1.2.2.2.2.2.2.2.2.2.2.2.1)), (x2_a _ _ (by omega)).trans ((x2_a _ _ (by omega)).trans (y1.2.2.2.2.2.2.2.2.2.2.2.2.1)), (x2_a _ _ (by omega)).trans ((x2_a _ _ (by omega)).trans (y1.2.2.2.2.2.2.2.2.2.2.2.2.2.1)), (x2_a _ _ (by omega)).trans ((x2_a _ _ (by omega)).trans (y1.2.2.2.2.2.2.2.2.2.2.2.2.2.2.1)), (x2_a _ _ (by omega)).trans ((x2_a _ _ (by omega)).trans (y1.2.2.2.2.2.2.2.2.2.2.2.2.2.2.2.1)), (x2_a _ _ (by omega)).trans ((x2_a _ _ (by omega)).trans (y1.2.2.2.2.2.2.2.2.2.2.2.2.2.2.2.2.1)), (x2_a _ _ (by omega)).trans ((x2_a _ _ (by omega)).trans (y1.2.2.2.2.2.2.2.2.2.2.2.2.2.2.2.2.2.1)), (x2_a _ _ (by omega)).trans ((x2_a _ _ (by omega)).trans (y1.2.2.2.2.2.2.2.2.2.2.2.2.2.2.2.2.2.2.1)), (x2_a _ _ (by omega)).trans ((x2_a _ _ (by omega)).trans (y1.2.2.2.2.2.2.2.2.2.2.2.2.2.2.2.2.2.2.2.1)), (x2_a _ _ (by omega)).trans ((x2_a _ _ (by omega)).trans (y1.2.2.2.2.2.2.2.2.2.2.2.2.2.2.2.2.2.2.2.2.1)), (x2_a _ _ (by omega)).trans ((x2_a _ _ (by omega)).trans (y1.2.2.2.2.2.2.2.2.2.2.2.2.2.2.2.2.2.2.2.2.2.1)), (x2_a _ _ (by omega)).trans ((x2_a _ _ (by omega)).trans (y1.2.2.2.2.2.2.2.2.2.2.2.2.2.2.2.2.2.2.2.2.2.2.1)), (x2_a _ _ (by omega)).trans ((x2_a _ _ (by omega)).trans (y1.2.2.2.2.2.2.2.2.2.2.2.2.2.2.2.2.2.2.2.2.2.2.2.1)), (x2_a _ _ (by omega)).trans ((x2_a _ _ (by omega)).trans (y1.2.2.2.2.2.2.2.2.2.2.2.2.2.2.2.2.2.2.2.2.2.2.2.2))⟩ (fun b i hb => (x2_a _ _ (by omega)).trans ((x2_a _ _ (by omega)).trans ((y2 _ _ (by omega)).trans (rfl)))) hZ)
set_option maxHeartbeats 4000000 in
theorem C_Look (hZ : xZ 80 u w r) (kk : ∀ r', (r' 79 1 = some 80 ∧ r' 79 2 = some 92 ∧ r' 79 3 = some 93 ∧ r' 79 6 = some 94 ∧ r' 95 0 = some 96 ∧ r' 95 1 = some 97 ∧ r' 95 2 = some 98 ∧ r' 95 3 = some 99 ∧ r' 95 4 = some 100 ∧ r' 95 5 = some 101 ∧ r' 79 9 = some 95 ∧ r' 102 0 = some 103 ∧ r' 102 1 = some 104 ∧ r' 79 10 = some 102 ∧ r' 79 0 = some 52) → xSr 80 r' → rSm 79 105 r r' → xZ 105 u w r' → P none u w r') : xCall g (d + 2) mX3_init [.ref 79, .ref 52] 80 u w r 105 P := by
  refine xCall.of (ls := [some (.ref 79), some (.ref 52)]) plX3 (Nat.le_of_ble_eq_true rfl) rfl ?_
  refine xe_aload_n dX3_init_0 rfl ?_
  refine xe_objInit dX3_init_1 (xT_at 443 (by decide +kernel) (by decide +kernel)) (Nat.le_of_ble_eq_true rfl) ?_
  refine xe_aload_n dX3_init_4 rfl ?_
  refine xe_new (ci := 9) dX3_init_5 rfl (xT_at 444 (by decide +kernel) (by decide +kernel)) (xT_at 445 (by decide +kernel) (by decide +kernel)) (xT_at 132 (by decide +kernel) (by decide +kernel)) (by decide +kernel) hZ ?_
  refine xe_dup dX3_init_8 rfl ?_
  refine xe_callIN (args := []) (P1 := fun rv u1 w1 r1 => rv = none ∧ u = u1 ∧ w = w1 ∧ (xSr 80 r1 ∧ (∀ b i, ¬ b = 80 → r1 b i = r b i) ∧ xZ 92 u w r1)) dX3_init_9 inX3_11 rfl rfl (Nat.le_of_ble_eq_true rfl) (C_State st80 (hZ.le (Nat.le_succ _)) (fun r1 y1 y2 y3 => ⟨rfl, rfl, rfl, y1, y2, y3⟩)) (Nat.le_of_ble_eq_true rfl) (fun rv1 u1 w1 r1 k => ?_)
  obtain ⟨rfl, rfl, rfl, y1, y2, y3⟩ := k
  refine xe_putRF (b := 80) dX3_init_12 flX3_12 kk79 (by omega) (fun q h => by cases h; exact ⟨rfl, rfl⟩) rfl rfl ?_
  have hZ := y3.pr (a := 79) (k := 1) (x := some (80)) (by omega)
  refine xe_aload_n dX3_init_15 rfl ?_
  refine xe_bipush (v := 7) dX3_init_16 rfl ?_
  refine xe_newa (n := 7) (ty := .int) dX3_init_18 rfl acI rfl (by omega) (Or.inl rfl) (by decide +kernel) hZ ?_
  refine xe_putRF (b := 92) dX3_init_20 flX3_18 kk79 (by omega) (fun q h => by cases h; exact ⟨rfl, rfl⟩) rfl rfl ?_
  have hZ := (hZ.le (Nat.le_succ _)).pr (a := 79) (k := 2) (x := some (92)) (by omega)
  refine xe_aload_n dX3_init_23 rfl ?_
  refine xe_sipush (v := 300) dX3_init_24 rfl ?_
  refine xe_newa (n := 300) (ty := .int) dX3_init_27 rfl acI rfl (by omega) (Or.inl rfl) (by decide +kernel) hZ ?_
  refine xe_putRF (b := 93) dX3_init_29 flX3_22 kk79 (by omega) (fun q h => by cases h; exact ⟨rfl, rfl⟩) rfl rfl ?_
  have hZ := (hZ.le (Nat.le_succ _)).pr (a := 79) (k := 3) (x := some (93)) (by omega)
  refine xe_aload_n dX3_init_32 rfl ?_
  refine xe_bipush (v := 7) dX3_init_33 rfl ?_
  refine xe_newa (n := 7) (ty := .int) dX3_init_35 rfl acI rfl (by omega) (Or.inl rfl) (by decide +kernel) hZ ?_
  refine xe_putRF (b := 94) dX3_init_37 flX3_25 kk79 (by omega) (fun q h => by cases h; exact ⟨rfl, rfl⟩) rfl rfl ?_
  have hZ := (hZ.le (Nat.le_succ _)).pr (a := 79) (k := 6) (x := some (94)) (by omega)
  refine xe_aload_n dX3_init_40 rfl ?_
  refine xe_bipush (v := 6) dX3_init_41 rfl ?_
  refine xe_bipush (v := 7) dX3_init_43 rfl ?_
  refine xe_multi (N := 6) (M := 7) dX3_init_45 (xT_at 525 (by decide +kernel) (by decide +kernel)) (fun s z => z.2.2.1.2.2) rfl rfl (by omega) (by omega) (by decide +kernel) (by decide +kernel) hZ ?_
  have hm2 : ∀ i, i < 6 → (xrw 95 6 (x2 (x2 (x2 (x2 r1 79 1 (some (80))) 79 2 (some (92))) 79 3 (some (93))) 79 6 (some (94)))) 95 i = some (95 + 1 + i) := fun i hi => if_pos ⟨rfl, hi⟩
  have hf2 : ∀ b i, ¬ b = 95 → (xrw 95 6 (x2 (x2 (x2 (x2 r1 79 1 (some (80))) 79 2 (some (92))) 79 3 (some (93))) 79 6 (some (94)))) b i = (x2 (x2 (x2 (x2 r1 79 1 (some (80))) 79 2 (some (92))) 79 3 (some (93))) 79 6 (some (94))) b i := fun b i hb => if_neg (fun z => hb z.1)
  have hz2 : xZ 102 u w (xrw 95 6 (x2 (x2 (x2 (x2 r1 79 1 (some (80))) 79 2 (some (92))) 79 3 (some (93))) 79 6 (some (94)))) := fun b i hb => ⟨(hZ b i (by omega)).1, (hZ b i (by omega)).2.1, (hf2 b i (by omega)).trans (hZ b i (by omega)).2.2⟩
  generalize xrw 95 6 (x2 (x2 (x2 (x2 r1 79 1 (some (80))) 79 2 (some (92))) 79 3 (some (93))) 79 6 (some (94))) = rm2 at hm2 hf2 hz2 ⊢
  refine xe_putRF (b := 95) dX3_init_49 flX3_30 kk79 (by omega) (fun q h => by cases h; exact ⟨rfl, rfl⟩) rfl rfl ?_
  have hZ := hz2.pr (a := 79) (k := 9) (x := some (95)) (by omega)
  refine xe_aload_n dX3_init_52 rfl ?_
  refine xe_iconst (v := 2) dX3_init_53 rfl ?_
  refine xe_bipush (v := 10) dX3_init_54 rfl ?_
  refine xe_multi (N := 2) (M := 10) dX3_init_56 (xT_at 525 (by decide +kernel) (by decide +kernel)) (fun s z => z.2.2.1.2.2) rfl rfl (by omega) (by omega) (by decide +kernel) (by decide +kernel) hZ ?_
  have hm3 : ∀ i, i < 2 → (xrw 102 2 (x2 rm2 79 9 (some (95)))) 102 i = some (102 + 1 + i) := fun i hi => if_pos ⟨rfl, hi⟩
  have hf3 : ∀ b i, ¬ b = 102 → (xrw 102 2 (x2 rm2 79 9 (some (95)))) b i = (x2 rm2 79 9 (some (95))) b i := fun b i hb => if_neg (fun z => hb z.1)
  have hz3 : xZ 105 u w (xrw 102 2 (x2 rm2 79 9 (some (95)))) := fun b i hb => ⟨(hZ b i (by omega)).1, (hZ b i (by omega)).2.1, (hf3 b i (by omega)).trans (hZ b i (by omega)).2.2⟩
  generalize xrw 102 2 (x2 rm2 79 9 (some (95))) = rm3 at hm3 hf3 hz3 ⊢
  refine xe_putRF (b := 102) dX3_init_60 flX3_33 kk79 (by omega) (fun q h => by cases h; exact ⟨rfl, rfl⟩) rfl rfl ?_
  have hZ := hz3.pr (a := 79) (k := 10) (x := some (102)) (by omega)
  refine xe_aload_n dX3_init_63 rfl ?_
  refine xe_aload_n dX3_init_64 rfl ?_
  refine xe_putRF (b := 52) dX3_init_65 flX3_36 kk79 (by omega) (fun q h => by cases h; exact ⟨rfl, rfl⟩) rfl rfl ?_
  have hZ := hZ.pr (a := 79) (k := 0) (x := some (52)) (by omega)
  exact xe_return dX3_init_68 trivial (kk _ ⟨(x2_i _ _ (by decide)).trans ((x2_i _ _ (by decide)).trans ((hf3 _ _ (by omega)).trans ((x2_i _ _ (by decide)).trans ((hf2 _ _ (by omega)).trans ((x2_i _ _ (by decide)).trans ((x2_i _ _ (by decide)).trans ((x2_i _ _ (by decide)).trans (x2_same _ _ _ _)))))))), (x2_i _ _ (by decide)).trans ((x2_i _ _ (by decide)).trans ((hf3 _ _ (by omega)).trans ((x2_i _ _ (by decide)).trans ((hf2 _ _ (by omega)).trans ((x2_i _ _ (by decide)).trans ((x2_i _ _ (by decide)).trans (x2_same _ _ _ _))))))), (x2_i _ _ (by decide)).trans ((x2_i _ _ (by decide)).trans ((hf3 _ _ (by omega)).trans ((x2_i _ _ (by decide)).trans ((hf2 _ _ (by omega)).trans ((x2_i _ _ (by decide)).trans (x2_same _ _ _ _)))))), (x2_i _ _ (by decide)).trans ((x2_i _ _ (by decide)).trans ((hf3 _ _ (by omega)).trans ((x2_i _ _ (by decide)).trans ((hf2 _ _ (by omega)).trans (x2_same _ _ _ _))))), (x2_a _ _ (by omega)).trans ((x2_a _ _ (by omega)).trans ((hf3 _ _ (by omega)).trans ((x2_a _ _ (by omega)).trans (hm2 0 (by omega))))), (x2_a _ _ (by omega)).trans ((x2_a _ _ (by omega)).trans ((hf3 _ _ (by omega)).trans ((x2_a _ _ (by omega)).trans (hm2 1 (by omega))))), (x2_a _ _ (by omega)).trans ((x2_a _ _ (by omega)).trans ((hf3 _ _ (by omega)).trans ((x2_a _ _ (by omega)).trans (hm2 2 (by omega))))), (x2_a _ _ (by omega)).trans ((x2_a _ _ (by omega)).trans ((hf3 _ _ (by omega)).trans ((x2_a _ _ (by omega)).trans (hm2 3 (by omega))))), (x2_a _ _ (by omega)).trans ((x2_a _ _ (by omega)).trans ((hf3 _ _ (by omega)).trans ((x2_a _ _ (by omega)).trans (hm2 4 (by omega))))), (x2_a _ _ (by omega)).trans ((x2_a _ _ (by omega)).trans ((hf3 _ _ (by omega)).trans ((x2_a _ _ (by omega)).trans (hm2 5 (by omega))))), (x2_i _ _ (by decide)).trans ((x2_i _ _ (by decide)).trans ((hf3 _ _ (by omega)).trans (x2_same _ _ _ _))), (x2_a _ _ (by omega)).trans ((x2_a _ _ (by omega)).trans (hm3 0 (by omega))), (x2_a _ _ (by omega)).trans ((x2_a _ _ (by omega)).trans (hm3 1 (by omega))), (x2_i _ _ (by decide)).trans (x2_same _ _ _ _), x2_same _ _ _ _⟩ ⟨(x2_a _ _ (by omega)).trans ((x2_a _ _ (by omega)).trans ((hf3 _ _ (by omega)).trans ((x2_a _ _ (by omega)).trans ((hf2 _ _ (by omega)).trans ((x2_a _ _ (by omega)).trans ((x2_a _ _ (by omega)).trans ((x2_a _ _ (by omega)).trans ((x2_a _ _ (by omega)).trans (y1.1))))))))), (x2_a _ _ (by omega)).trans ((x2_a _ _ (by omega)).trans ((hf3 _ _ (by omega)).trans ((x2_a _ _ (by omega)).trans ((hf2 _ _ (by omega)).trans ((x2_a _ _ (by omega)).trans ((x2_a _ _ (by omega)).trans ((x2_a _ _ (by omega)).trans ((x2_a _ _ (by omega)).trans (y1.2.1))))))))), (x2_a _ _ (by omega)).trans ((x2_a _ _ (by omega)).trans ((hf3 _ _ (by omega)).trans ((x2_a _ _ (by omega)).trans ((hf2 _ _ (by omega)).trans ((x2_a _ _ (by omega)).trans ((x2_a _ _ (by omega)).trans ((x2_a _ _ (by omega)).trans ((x2_a _ _ (by omega)).trans (y1.2.2.1))))))))), (x2_a _ _ (by omega)).trans ((x2_a _ _ (by omega)).trans ((hf3 _ _ (by omega)).trans ((x2_a _ _ (by omega)).trans ((hf2 _ _ (by omega)).trans ((x2_a _ _ (by omega)).trans ((x2_a _ _ (by omega)).trans ((x2_a _ _ (by omega)).trans ((x2_a _ _ (by omega)).trans (y1.2.2.2.1))))))))), (x2_a _ _ (by omega)).trans ((x2_a _ _ (by omega)).trans ((hf3 _ _ (by omega)).trans ((x2_a _ _ (by omega)).trans ((hf2 _ _ (by omega)).trans ((x2_a _ _ (by omega)).trans ((x2_a _ _ (by omega)).trans ((x2_a _ _ (by omega)).trans ((x2_a _ _ (by omega)).trans (y1.2.2.2.2.1))))))))), (x2_a _ _ (by omega)).trans ((x2_a _ _ (by omega)).trans ((hf3 _ _ (by omega)).trans ((x2_a _ _ (by omega)).trans ((hf2 _ _ (by omega)).trans ((x2_a _ _ (by omega)).trans ((x2_a _ _ (by omega)).trans ((x2_a _ _ (by omega)).trans ((x2_a _ _ (by omega)).trans (y1.2.2.2.2.2.1))))))))), (x2_a _ _ (by omega)).trans ((x2_a _ _ (by omega)).trans ((hf3 _ _ (by omega)).trans ((x2_a _ _ (by omega)).trans ((hf2 _ _ (by omega)).trans ((x2_a _ _ (by omega)).trans ((x2_a _ _ (by omega)).trans ((x2_a _ _ (by omega)).trans ((x2_a _ _ (by omega)).trans (y1.2.2.2.2.2.2.1))))))))), (x2_a _ _ (by omega)).trans ((x2_a _ _ (by omega)).trans ((hf3 _ _ (by omega)).trans ((x2_a _ _ (by omega)).trans ((hf2 _ _ (by omega)).trans ((x2_a _ _ (by omega)).trans ((x2_a _ _ (by omega)).trans ((x2_a _ _ (by omega)).trans ((x2_a _ _ (by omega)).trans (y1.2.2.2.2.2.2.2.1))))))))), (x2_a _ _ (by omega)).trans ((x2_a _ _ (by omega)).trans ((hf3 _ _ (by omega)).trans ((x2_a _ _ (by omega)).trans ((hf2 _ _ (by omega)).trans ((x2_a _ _ (by omega)).trans ((x2_a _ _ (by omega)).trans ((x2_a _ _ (by omega)).trans ((x2_a _ _ (by omega)).trans (y1.2.2.2.2.2.2.2.2.1))))))))), (x2_a _ _ (by omega)).trans ((x2_a _ _ (by omega)).trans ((hf3 _ _ (by omega)).trans ((x2_a _ _ (by omega)).trans ((hf2 _ _ (by omega)).trans ((x2_a _ _ (by omega)).trans ((x2_a _ _ (by omega)).trans ((x2_a _ _ (by omega)).trans ((x2_a _ _ (by omega)).trans (y1.2.2.2.2.2.2.2.2.2.1))))))))), (x2_a _ _ (by omega)).trans ((x2_a _ _ (by omega)).trans ((hf3 _ _ (by omega)).trans ((x2_a _ _ (by omega)).trans ((hf2 _ _ (by omega)).trans ((x2_a _ _ (by omega)).trans ((x2_a _ _ (by omega)).trans ((x2_a _ _ (by omega)).trans ((x2_a _ _ (by omega)).trans (y1.2.2.2.2.2.2.2.2.2.2)))))))))⟩ (fun b i hb => (x2_a _ _ (by omega)).trans ((x2_a _ _ (by omega)).trans ((hf3 _ _ (by omega)).trans ((x2_a _ _ (by omega)).trans ((hf2 _ _ (by omega)).trans ((x2_a _ _ (by omega)).trans ((x2_a _ _ (by omega)).trans ((x2_a _ _ (by omega)).trans ((x2_a _ _ (by omega)).trans ((y2 _ _ (by omega)).trans (rfl))))))))))) hZ)
end CTOR
