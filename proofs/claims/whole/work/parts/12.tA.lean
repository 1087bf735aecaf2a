/-! Formula.clear -/

theorem TX1_clear_0 {g : xGT} {d : Nat} {f : Nat} {u : xU} {w : xW} {r : xQ} {P : xPost} (h_f : xFm f)
    (k : P none (x2 (x2 u f 2 (0 : Int32)) f 3 (0 : Int32)) w r) :
    xEv g d mX1_clear 0 [some (.ref f)] [] 698 u w r 698 P := by
  refine xe_aload_n dX1_clear_0 rfl ?_
  refine xe_iconst (v := 0) dX1_clear_1 rfl ?_
  refine xe_putI dX1_clear_2 flX1_16 h_f.k0 (xKK_lt h_f.k0) nf1_2 rfl ?_
  refine xe_aload_n dX1_clear_5 rfl ?_
  refine xe_iconst (v := 0) dX1_clear_6 rfl ?_
  refine xe_putI dX1_clear_7 flX1_20 h_f.k0 (xKK_lt h_f.k0) nf1_3 rfl ?_
  exact xe_return dX1_clear_10 trivial k

theorem CX1_clear {g : xGT} {d : Nat} {f : Nat} {u : xU} {w : xW} {r : xQ} {P : xPost} (h_f : xFm f)
    (k : P none (x2 (x2 u f 2 (0 : Int32)) f 3 (0 : Int32)) w r) :
    xCall g d mX1_clear [.ref f] 698 u w r 698 P :=
  xCall.of plX1 (Nat.le_of_ble_eq_true rfl) rfl (TX1_clear_0 h_f k)

/-! Formula.isFull -/

theorem TX1_isFull_0 {g : xGT} {d : Nat} {f : Nat} {u : xU} {w : xW} {r : xQ} {P : xPost} (h_f : xFm f)
    (k : P (some (.int (xb (¬ ((u f 3) < (30 : Int32)))))) u w r) :
    xEv g d mX1_isFull 0 [some (.ref f)] [] 698 u w r 698 P := by
  refine xe_aload_n dX1_isFull_0 rfl ?_
  refine xe_getI dX1_isFull_1 flX1_20 h_f.k0 (xKK_lt h_f.k0) rfl ?_
  refine xe_bipush (v := 30) dX1_isFull_4 rfl ?_
  have K3 : xEv g d mX1_isFull 14 [some (.ref f)] [.int (xb (¬ ((u f 3) < (30 : Int32))))] 698 u w r 698 P := by
    exact xe_ireturn dX1_isFull_14 (xrokZ (xb01 _)) k
  refine xe_icmp_lt (tgt := 13) dX1_isFull_6 rfl (fun c1 => ?_) (fun c2 => ?_)
  · refine xe_iconst (v := 0) dX1_isFull_13 rfl ?_
    exact xtop (xb_neg (p := ¬ ((u f 3) < (30 : Int32))) (fun q => q c1)) K3
  · refine xe_iconst (v := 1) dX1_isFull_9 rfl ?_
    refine xe_goto (tgt := 14) dX1_isFull_10 rfl ?_
    exact xtop (xb_pos (show ¬ ((u f 3) < (30 : Int32)) from (fun q => (c2 q)))) K3

theorem CX1_isFull {g : xGT} {d : Nat} {f : Nat} {u : xU} {w : xW} {r : xQ} {P : xPost} (h_f : xFm f)
    (k : P (some (.int (xb (¬ ((u f 3) < (30 : Int32)))))) u w r) :
    xCall g d mX1_isFull [.ref f] 698 u w r 698 P :=
  xCall.of plX1 (Nat.le_of_ble_eq_true rfl) rfl (TX1_isFull_0 h_f k)

/-! Formula.add -/

theorem TX1_add_0 {g : xGT} {d : Nat} {i1 : Int32} {f : Nat} {u : xU} {w : xW} {r : xQ} {P : xPost} (h_f : xFm f) (q_f : xFr1 f r)
    (k : ((¬ ((u f 2) < 0) ∧ ¬ ((270 : Int32) ≤ (u f 2))) → vp_in (u f 2) 270 ∧ (P none (x2 (x2 u (f + 1) (u f 2).toNatClampNeg i1) f 2 (((x2 u (f + 1) (u f 2).toNatClampNeg i1) f 2) + (1 : Int32))) w r)) ∧ (¬ (¬ ((u f 2) < 0) ∧ ¬ ((270 : Int32) ≤ (u f 2))) → P none u w r)) :
    xEv g d mX1_add 0 [some (.ref f), some (.int i1)] [] 698 u w r 698 P := by
  refine xe_aload_n dX1_add_0 rfl ?_
  refine xe_getI dX1_add_1 flX1_16 h_f.k0 (xKK_lt h_f.k0) rfl ?_
  have K6 : ¬ (¬ ((u f 2) < 0) ∧ ¬ ((270 : Int32) ≤ (u f 2))) → xEv g d mX1_add 39 [some (.ref f), some (.int i1)] [] 698 u w r 698 P := fun c7 => by
    have k := k.2 c7
    exact xe_return dX1_add_39 trivial k
  refine xe_if_lt (tgt := 39) dX1_add_4 rfl (fun c1 => ?_) (fun c2 => ?_)
  · exact K6 (fun q => (q.1 c1))
  · refine xe_aload_n dX1_add_7 rfl ?_
    refine xe_getI dX1_add_8 flX1_16 h_f.k0 (xKK_lt h_f.k0) rfl ?_
    refine xe_aload_n dX1_add_11 rfl ?_
    refine xe_getR (b := (f + 1)) dX1_add_12 flX1_9 h_f.k0 (xKK_lt h_f.k0) rfl q_f.f0 ?_
    refine xe_alen (v := (270 : Int32)) dX1_add_15 h_f.k1 (xKK_lt h_f.k1) (by simp) rfl ?_
    refine xe_icmp_ge (tgt := 39) dX1_add_16 rfl (fun c3 => ?_) (fun c4 => ?_)
    · exact K6 (fun q => (q.2 c3))
    · have k := k.1 ⟨c2, c4⟩
      refine xe_aload_n dX1_add_19 rfl ?_
      refine xe_getR (b := (f + 1)) dX1_add_20 flX1_9 h_f.k0 (xKK_lt h_f.k0) rfl q_f.f0 ?_
      refine xe_aload_n dX1_add_23 rfl ?_
      refine xe_getI dX1_add_24 flX1_16 h_f.k0 (xKK_lt h_f.k0) rfl ?_
      refine xe_iload_n dX1_add_27 rfl ?_
      obtain ⟨b5, k⟩ := k
      refine xe_iast dX1_add_28 h_f.k1 (xKK_lt h_f.k1) b5 ?_
      refine xe_aload_n dX1_add_29 rfl ?_
      refine xe_dup dX1_add_30 rfl ?_
      refine xe_getI dX1_add_31 flX1_16 h_f.k0 (xKK_lt h_f.k0) rfl ?_
      refine xe_iconst (v := 1) dX1_add_34 rfl ?_
      refine xe_iadd dX1_add_35 ?_
      refine xe_putI dX1_add_36 flX1_16 h_f.k0 (xKK_lt h_f.k0) nf1_2 rfl ?_
      exact xe_return dX1_add_39 trivial k

theorem CX1_add {g : xGT} {d : Nat} {i1 : Int32} {f : Nat} {u : xU} {w : xW} {r : xQ} {P : xPost} (h_f : xFm f) (q_f : xFr1 f r)
    (k : ((¬ ((u f 2) < 0) ∧ ¬ ((270 : Int32) ≤ (u f 2))) → vp_in (u f 2) 270 ∧ (P none (x2 (x2 u (f + 1) (u f 2).toNatClampNeg i1) f 2 (((x2 u (f + 1) (u f 2).toNatClampNeg i1) f 2) + (1 : Int32))) w r)) ∧ (¬ (¬ ((u f 2) < 0) ∧ ¬ ((270 : Int32) ≤ (u f 2))) → P none u w r)) :
    xCall g d mX1_add [.ref f, .int i1] 698 u w r 698 P :=
  xCall.of plX1 (Nat.le_of_ble_eq_true rfl) rfl (TX1_add_0 h_f q_f k)

/-! Formula.value -/

theorem TX1_value_0 {g : xGT} {d : Nat} {i1 i2 i3 i4 : Int32} {f : Nat} {u : xU} {w : xW} {r : xQ} {P : xPost}
    (k : xEv g (d + 1) mX1_value 6 [some (.ref f), some (.int i1), some (.int i2), some (.int i3), some (.int i4), some (.int (0 : Int32)), some (.int (0 : Int32)), none] [] 698 u w r 698 P) :
    xEv g (d + 1) mX1_value 0 [some (.ref f), some (.int i1), some (.int i2), some (.int i3), some (.int i4), none, none, none] [] 698 u w r 698 P := by
  refine xe_iconst (v := 0) dX1_value_0 rfl ?_
  refine xe_istore (ls' := [some (.ref f), some (.int i1), some (.int i2), some (.int i3), some (.int i4), some (.int (0 : Int32)), none, none]) dX1_value_1 (by decide) rfl ?_
  refine xe_iconst (v := 0) dX1_value_3 rfl ?_
  refine xe_istore (ls' := [some (.ref f), some (.int i1), some (.int i2), some (.int i3), some (.int i4), some (.int (0 : Int32)), some (.int (0 : Int32)), none]) dX1_value_4 (by decide) rfl ?_
  exact k

theorem CX1_value {g : xGT} {d : Nat} {i1 i2 i3 i4 : Int32} {f : Nat} {u : xU} {w : xW} {r : xQ} {P : xPost}
    (k : xEv g (d + 1) mX1_value 6 [some (.ref f), some (.int i1), some (.int i2), some (.int i3), some (.int i4), some (.int (0 : Int32)), some (.int (0 : Int32)), none] [] 698 u w r 698 P) :
    xCall g (d + 1) mX1_value [.ref f, .int i1, .int i2, .int i3, .int i4] 698 u w r 698 P :=
  xCall.of plX1 (Nat.le_of_ble_eq_true rfl) rfl (TX1_value_0  k)

set_option maxRecDepth 20000 in
theorem TX1_value_6 {g : xGT} {d : Nat} {i1 i2 i3 i4 i5 i6 : Int32} {f : Nat} {u : xU} {w : xW} {r : xQ} {P : xPost} (h_f : xFm f) (q_f : xFr1 f r)
    (k : ((u f 2) ≤ i6 → P (some (.int (if i5 ≤ 0 then (0 : Int32) else (u (f + 2) 0)))) u w r) ∧ (¬ ((u f 2) ≤ i6) → vp_in i6 270 ∧ (((-(u (f + 1) i6.toNatClampNeg)) = 24 → xCall g d mX1_push [.ref f, .int i5, .int i2] 698 u w r 698 (fun rv7 u7 w7 r7 => ∃ v7 : Int32, rv7 = some (.int v7) ∧ w = w7 ∧ r = r7 ∧ xEv g (d + 1) mX1_value 221 [some (.ref f), some (.int i1), some (.int i2), some (.int i3), some (.int i4), some (.int v7), some (.int i6), none] [] 698 u7 w r 698 P)) ∧ ((-(u (f + 1) i6.toNatClampNeg)) = 30 → (i5 ≤ 0 → xEv g (d + 1) mX1_value 221 [some (.ref f), some (.int i1), some (.int i2), some (.int i3), some (.int i4), some (.int i5), some (.int i6), none] [] 698 u w r 698 P) ∧ (¬ (i5 ≤ 0) → vp_in (i5 - (1 : Int32)) 30 ∧ (xEv g (d + 1) mX1_value 221 [some (.ref f), some (.int i1), some (.int i2), some (.int i3), some (.int i4), some (.int i5), some (.int i6), none] [] 698 (x2 u (f + 2) (i5 - (1 : Int32)).toNatClampNeg (xb ((u (f + 2) (i5 - (1 : Int32)).toNatClampNeg) = 0))) w r 698 P))) ∧ ((-(u (f + 1) i6.toNatClampNeg)) = 31 → xCall g d mX1_push [.ref f, .int i5, .int i1] 698 u w r 698 (fun rv14 u14 w14 r14 => ∃ v14 : Int32, rv14 = some (.int v14) ∧ w = w14 ∧ r = r14 ∧ xEv g (d + 1) mX1_value 221 [some (.ref f), some (.int i1), some (.int i2), some (.int i3), some (.int i4), some (.int v14), some (.int i6), none] [] 698 u14 w r 698 P)) ∧ ((-(u (f + 1) i6.toNatClampNeg)) = 32 → xCall g d mX1_push [.ref f, .int i5, .int i3] 698 u w r 698 (fun rv15 u15 w15 r15 => ∃ v15 : Int32, rv15 = some (.int v15) ∧ w = w15 ∧ r = r15 ∧ xEv g (d + 1) mX1_value 221 [some (.ref f), some (.int i1), some (.int i2), some (.int i3), some (.int i4), some (.int v15), some (.int i6), none] [] 698 u15 w r 698 P)) ∧ ((-(u (f + 1) i6.toNatClampNeg)) = 33 → xCall g d mX1_push [.ref f, .int i5, .int i4] 698 u w r 698 (fun rv16 u16 w16 r16 => ∃ v16 : Int32, rv16 = some (.int v16) ∧ w = w16 ∧ r = r16 ∧ xEv g (d + 1) mX1_value 221 [some (.ref f), some (.int i1), some (.int i2), some (.int i3), some (.int i4), some (.int v16), some (.int i6), none] [] 698 u16 w r 698 P)) ∧ (¬ (-(u (f + 1) i6.toNatClampNeg)) = 24 → ¬ (-(u (f + 1) i6.toNatClampNeg)) = 30 → ¬ (-(u (f + 1) i6.toNatClampNeg)) = 31 → ¬ (-(u (f + 1) i6.toNatClampNeg)) = 32 → ¬ (-(u (f + 1) i6.toNatClampNeg)) = 33 → ((u (f + 1) i6.toNatClampNeg) < 0 → (i5 ≤ (1 : Int32) → xEv g (d + 1) mX1_value 221 [some (.ref f), some (.int i1), some (.int i2), some (.int i3), some (.int i4), some (.int i5), some (.int i6), none] [] 698 u w r 698 P) ∧ (¬ (i5 ≤ (1 : Int32)) → vp_in ((i5 + (-1 : Int32)) - (1 : Int32)) 30 ∧ (vp_in (i5 + (-1 : Int32)) 30 ∧ (xCall g d mX1_join [.int (-(u (f + 1) i6.toNatClampNeg)), .int (u (f + 2) ((i5 + (-1 : Int32)) - (1 : Int32)).toNatClampNeg), .int (u (f + 2) (i5 + (-1 : Int32)).toNatClampNeg)] 698 u w r 698 (fun rv23 u23 w23 r23 => ∃ v23 : Int32, rv23 = some (.int v23) ∧ u = u23 ∧ w = w23 ∧ r = r23 ∧ xEv g (d + 1) mX1_value 221 [some (.ref f), some (.int i1), some (.int i2), some (.int i3), some (.int i4), some (.int (i5 + (-1 : Int32))), some (.int i6), none] [] 698 (x2 u (f + 2) ((i5 + (-1 : Int32)) - (1 : Int32)).toNatClampNeg v23) w r 698 P))))) ∧ (¬ ((u (f + 1) i6.toNatClampNeg) < 0) → xCall g d mX1_push [.ref f, .int i5, .int (u (f + 1) i6.toNatClampNeg)] 698 u w r 698 (fun rv24 u24 w24 r24 => ∃ v24 : Int32, rv24 = some (.int v24) ∧ w = w24 ∧ r = r24 ∧ xEv g (d + 1) mX1_value 221 [some (.ref f), some (.int i1), some (.int i2), some (.int i3), some (.int i4), some (.int v24), some (.int i6), none] [] 698 u24 w r 698 P)))))) :
    xEv g (d + 1) mX1_value 6 [some (.ref f), some (.int i1), some (.int i2), some (.int i3), some (.int i4), some (.int i5), some (.int i6), none] [] 698 u w r 698 P := by
  refine xe_iload dX1_value_6 rfl ?_
  refine xe_aload_n dX1_value_8 rfl ?_
  refine xe_getI dX1_value_9 flX1_16 h_f.k0 (xKK_lt h_f.k0) rfl ?_
  refine xe_icmp_ge (tgt := 227) dX1_value_12 rfl (fun c1 => ?_) (fun c2 => ?_)
  · have k := k.1 c1
    refine xe_iload dX1_value_227 rfl ?_
    have K5 : xEv g (d + 1) mX1_value 242 [some (.ref f), some (.int i1), some (.int i2), some (.int i3), some (.int i4), some (.int i5), some (.int i6), none] [.int (if i5 ≤ 0 then (0 : Int32) else (u (f + 2) 0))] 698 u w r 698 P := by
      exact xe_ireturn dX1_value_242 rfl k
    refine xe_if_le (tgt := 241) dX1_value_229 rfl (fun c3 => ?_) (fun c4 => ?_)
    · refine xe_iconst (v := 0) dX1_value_241 rfl ?_
      exact xtop (if_pos c3) K5
    · refine xe_aload_n dX1_value_232 rfl ?_
      refine xe_getR (b := (f + 2)) dX1_value_233 flX1_13 h_f.k0 (xKK_lt h_f.k0) rfl q_f.f1 ?_
      refine xe_iconst (v := 0) dX1_value_236 rfl ?_
      refine xe_iald dX1_value_237 h_f.k2 (xKK_lt h_f.k2) (show ¬ ((0 : Int32) < 0 ∨ 30 ≤ (0 : Int32).toNatClampNeg) from by decide) ?_
      refine xe_goto (tgt := 242) dX1_value_238 rfl ?_
      exact xtop (if_neg (fun q => (c4 q))) K5
  · have k := k.2 (fun q => (c2 q))
    refine xe_aload_n dX1_value_15 rfl ?_
    refine xe_getR (b := (f + 1)) dX1_value_16 flX1_9 h_f.k0 (xKK_lt h_f.k0) rfl q_f.f0 ?_
    refine xe_iload dX1_value_19 rfl ?_
    obtain ⟨b6, k⟩ := k
    refine xe_iald dX1_value_21 h_f.k1 (xKK_lt h_f.k1) b6 ?_
    refine xe_istore (ls' := [some (.ref f), some (.int i1), some (.int i2), some (.int i3), some (.int i4), some (.int i5), some (.int i6), some (.int (u (f + 1) i6.toNatClampNeg))]) dX1_value_22 (by decide) rfl ?_
    refine xe_iload dX1_value_24 rfl ?_
    refine xe_ineg dX1_value_26 ?_
    by_cases c25 : (-(u (f + 1) i6.toNatClampNeg)) = 24
    · have k := k.1 c25
      refine xe_tableIn (tgt := 92) dX1_value_27 (by rw [c25]; decide) (by rw [c25]; decide) (by rw [c25]; rfl) rfl ?_
      refine xe_aload_n dX1_value_92 rfl ?_
      refine xe_iload dX1_value_93 rfl ?_
      refine xe_iload_n dX1_value_95 rfl ?_
      refine xe_callV (args := [.int i5, .int i2]) dX1_value_96 vlX1_23 rfl rfl (Nat.le_of_ble_eq_true rfl) h_f.k0 (xKK_lt h_f.k0) rfl rfl k (Nat.le_refl _) (fun rv7 u7 w7 r7 k => ?_)
      obtain ⟨v7, rfl, rfl, rfl, k⟩ := k
      refine xe_istore (ls' := [some (.ref f), some (.int i1), some (.int i2), some (.int i3), some (.int i4), some (.int v7), some (.int i6), some (.int (u (f + 1) i6.toNatClampNeg))]) dX1_value_99 (by decide) rfl ?_
      refine xe_goto (tgt := 221) dX1_value_101 rfl ?_
      exact xEv.fewer (ls' := [some (.ref f), some (.int i1), some (.int i2), some (.int i3), some (.int i4), some (.int v7), some (.int i6), none]) k (xfw_get (xfw_s (xfw_s (xfw_s (xfw_s (xfw_s (xfw_s (xfw_s (xfw_n (xfw_nil _))))))))))
    by_cases c26 : (-(u (f + 1) i6.toNatClampNeg)) = 30
    · have k := k.2.1 c26
      refine xe_tableIn (tgt := 129) dX1_value_27 (by rw [c26]; decide) (by rw [c26]; decide) (by rw [c26]; rfl) rfl ?_
      refine xe_iload dX1_value_129 rfl ?_
      refine xe_if_le (tgt := 221) dX1_value_131 rfl (fun c8 => ?_) (fun c9 => ?_)
      · have k := k.1 c8
        exact xEv.fewer (ls' := [some (.ref f), some (.int i1), some (.int i2), some (.int i3), some (.int i4), some (.int i5), some (.int i6), none]) k (xfw_get (xfw_s (xfw_s (xfw_s (xfw_s (xfw_s (xfw_s (xfw_s (xfw_n (xfw_nil _))))))))))
      · have k := k.2 (fun q => (c9 q))
        refine xe_aload_n dX1_value_134 rfl ?_
        refine xe_getR (b := (f + 2)) dX1_value_135 flX1_13 h_f.k0 (xKK_lt h_f.k0) rfl q_f.f1 ?_
        refine xe_iload dX1_value_138 rfl ?_
        refine xe_iconst (v := 1) dX1_value_140 rfl ?_
        refine xe_isub dX1_value_141 ?_
        refine xe_aload_n dX1_value_142 rfl ?_
        refine xe_getR (b := (f + 2)) dX1_value_143 flX1_13 h_f.k0 (xKK_lt h_f.k0) rfl q_f.f1 ?_
        refine xe_iload dX1_value_146 rfl ?_
        refine xe_iconst (v := 1) dX1_value_148 rfl ?_
        refine xe_isub dX1_value_149 ?_
        obtain ⟨b10, k⟩ := k
        refine xe_iald dX1_value_150 h_f.k2 (xKK_lt h_f.k2) b10 ?_
        have K13 : xEv g (d + 1) mX1_value 159 [some (.ref f), some (.int i1), some (.int i2), some (.int i3), some (.int i4), some (.int i5), some (.int i6), some (.int (u (f + 1) i6.toNatClampNeg))] [.int (xb ((u (f + 2) (i5 - (1 : Int32)).toNatClampNeg) = 0)), .int (i5 - (1 : Int32)), .ref (f + 2)] 698 u w r 698 P := by
          refine xe_iast dX1_value_159 h_f.k2 (xKK_lt h_f.k2) b10 ?_
          refine xe_goto (tgt := 221) dX1_value_160 rfl ?_
          exact xEv.fewer (ls' := [some (.ref f), some (.int i1), some (.int i2), some (.int i3), some (.int i4), some (.int i5), some (.int i6), none]) k (xfw_get (xfw_s (xfw_s (xfw_s (xfw_s (xfw_s (xfw_s (xfw_s (xfw_n (xfw_nil _))))))))))
        refine xe_if_ne (tgt := 158) dX1_value_151 rfl (fun c11 => ?_) (fun c12 => ?_)
        · refine xe_iconst (v := 0) dX1_value_158 rfl ?_
          exact xtop (xb_neg (show ¬ ((u (f + 2) (i5 - (1 : Int32)).toNatClampNeg) = 0) from (fun q => (c11 q)))) K13
        · refine xe_iconst (v := 1) dX1_value_154 rfl ?_
          refine xe_goto (tgt := 159) dX1_value_155 rfl ?_
          exact xtop (xb_pos (show (u (f + 2) (i5 - (1 : Int32)).toNatClampNeg) = 0 from c12)) K13
    by_cases c27 : (-(u (f + 1) i6.toNatClampNeg)) = 31
    · have k := k.2.2.1 c27
      refine xe_tableIn (tgt := 80) dX1_value_27 (by rw [c27]; decide) (by rw [c27]; decide) (by rw [c27]; rfl) rfl ?_
      refine xe_aload_n dX1_value_80 rfl ?_
      refine xe_iload dX1_value_81 rfl ?_
      refine xe_iload_n dX1_value_83 rfl ?_
      refine xe_callV (args := [.int i5, .int i1]) dX1_value_84 vlX1_23 rfl rfl (Nat.le_of_ble_eq_true rfl) h_f.k0 (xKK_lt h_f.k0) rfl rfl k (Nat.le_refl _) (fun rv14 u14 w14 r14 k => ?_)
      obtain ⟨v14, rfl, rfl, rfl, k⟩ := k
      refine xe_istore (ls' := [some (.ref f), some (.int i1), some (.int i2), some (.int i3), some (.int i4), some (.int v14), some (.int i6), some (.int (u (f + 1) i6.toNatClampNeg))]) dX1_value_87 (by decide) rfl ?_
      refine xe_goto (tgt := 221) dX1_value_89 rfl ?_
      exact xEv.fewer (ls' := [some (.ref f), some (.int i1), some (.int i2), some (.int i3), some (.int i4), some (.int v14), some (.int i6), none]) k (xfw_get (xfw_s (xfw_s (xfw_s (xfw_s (xfw_s (xfw_s (xfw_s (xfw_n (xfw_nil _))))))))))
    by_cases c28 : (-(u (f + 1) i6.toNatClampNeg)) = 32
    · have k := k.2.2.2.1 c28
      refine xe_tableIn (tgt := 104) dX1_value_27 (by rw [c28]; decide) (by rw [c28]; decide) (by rw [c28]; rfl) rfl ?_
      refine xe_aload_n dX1_value_104 rfl ?_
      refine xe_iload dX1_value_105 rfl ?_
      refine xe_iload_n dX1_value_107 rfl ?_
      refine xe_callV (args := [.int i5, .int i3]) dX1_value_108 vlX1_23 rfl rfl (Nat.le_of_ble_eq_true rfl) h_f.k0 (xKK_lt h_f.k0) rfl rfl k (Nat.le_refl _) (fun rv15 u15 w15 r15 k => ?_)
      obtain ⟨v15, rfl, rfl, rfl, k⟩ := k
      refine xe_istore (ls' := [some (.ref f), some (.int i1), some (.int i2), some (.int i3), some (.int i4), some (.int v15), some (.int i6), some (.int (u (f + 1) i6.toNatClampNeg))]) dX1_value_111 (by decide) rfl ?_
      refine xe_goto (tgt := 221) dX1_value_113 rfl ?_
      exact xEv.fewer (ls' := [some (.ref f), some (.int i1), some (.int i2), some (.int i3), some (.int i4), some (.int v15), some (.int i6), none]) k (xfw_get (xfw_s (xfw_s (xfw_s (xfw_s (xfw_s (xfw_s (xfw_s (xfw_n (xfw_nil _))))))))))
    by_cases c29 : (-(u (f + 1) i6.toNatClampNeg)) = 33
    · have k := k.2.2.2.2.1 c29
      refine xe_tableIn (tgt := 116) dX1_value_27 (by rw [c29]; decide) (by rw [c29]; decide) (by rw [c29]; rfl) rfl ?_
      refine xe_aload_n dX1_value_116 rfl ?_
      refine xe_iload dX1_value_117 rfl ?_
      refine xe_iload dX1_value_119 rfl ?_
      refine xe_callV (args := [.int i5, .int i4]) dX1_value_121 vlX1_23 rfl rfl (Nat.le_of_ble_eq_true rfl) h_f.k0 (xKK_lt h_f.k0) rfl rfl k (Nat.le_refl _) (fun rv16 u16 w16 r16 k => ?_)
      obtain ⟨v16, rfl, rfl, rfl, k⟩ := k
      refine xe_istore (ls' := [some (.ref f), some (.int i1), some (.int i2), some (.int i3), some (.int i4), some (.int v16), some (.int i6), some (.int (u (f + 1) i6.toNatClampNeg))]) dX1_value_124 (by decide) rfl ?_
      refine xe_goto (tgt := 221) dX1_value_126 rfl ?_
      exact xEv.fewer (ls' := [some (.ref f), some (.int i1), some (.int i2), some (.int i3), some (.int i4), some (.int v16), some (.int i6), none]) k (xfw_get (xfw_s (xfw_s (xfw_s (xfw_s (xfw_s (xfw_s (xfw_s (xfw_n (xfw_nil _))))))))))
    have k := k.2.2.2.2.2 c25 c26 c27 c28 c29
    have K30 : xEv g (d + 1) mX1_value 163 [some (.ref f), some (.int i1), some (.int i2), some (.int i3), some (.int i4), some (.int i5), some (.int i6), some (.int (u (f + 1) i6.toNatClampNeg))] [] 698 u w r 698 P := by
      refine xe_iload dX1_value_163 rfl ?_
      refine xe_if_lt (tgt := 181) dX1_value_165 rfl (fun c17 => ?_) (fun c18 => ?_)
      · have k := k.1 c17
        refine xe_iload dX1_value_181 rfl ?_
        refine xe_iconst (v := 1) dX1_value_183 rfl ?_
        refine xe_icmp_le (tgt := 221) dX1_value_184 rfl (fun c19 => ?_) (fun c20 => ?_)
        · have k := k.1 c19
          exact xEv.fewer (ls' := [some (.ref f), some (.int i1), some (.int i2), some (.int i3), some (.int i4), some (.int i5), some (.int i6), none]) k (xfw_get (xfw_s (xfw_s (xfw_s (xfw_s (xfw_s (xfw_s (xfw_s (xfw_n (xfw_nil _))))))))))
        · have k := k.2 (fun q => (c20 q))
          refine xe_iinc (v := (i5 + (-1 : Int32))) (ls' := [some (.ref f), some (.int i1), some (.int i2), some (.int i3), some (.int i4), some (.int (i5 + (-1 : Int32))), some (.int i6), some (.int (u (f + 1) i6.toNatClampNeg))]) dX1_value_187 rfl (by decide) rfl rfl ?_
          refine xe_aload_n dX1_value_190 rfl ?_
          refine xe_getR (b := (f + 2)) dX1_value_191 flX1_13 h_f.k0 (xKK_lt h_f.k0) rfl q_f.f1 ?_
          refine xe_iload dX1_value_194 rfl ?_
          refine xe_iconst (v := 1) dX1_value_196 rfl ?_
          refine xe_isub dX1_value_197 ?_
          refine xe_iload dX1_value_198 rfl ?_
          refine xe_ineg dX1_value_200 ?_
          refine xe_aload_n dX1_value_201 rfl ?_
          refine xe_getR (b := (f + 2)) dX1_value_202 flX1_13 h_f.k0 (xKK_lt h_f.k0) rfl q_f.f1 ?_
          refine xe_iload dX1_value_205 rfl ?_
          refine xe_iconst (v := 1) dX1_value_207 rfl ?_
          refine xe_isub dX1_value_208 ?_
          obtain ⟨b21, k⟩ := k
          refine xe_iald dX1_value_209 h_f.k2 (xKK_lt h_f.k2) b21 ?_
          refine xe_aload_n dX1_value_210 rfl ?_
          refine xe_getR (b := (f + 2)) dX1_value_211 flX1_13 h_f.k0 (xKK_lt h_f.k0) rfl q_f.f1 ?_
          refine xe_iload dX1_value_214 rfl ?_
          obtain ⟨b22, k⟩ := k
          refine xe_iald dX1_value_216 h_f.k2 (xKK_lt h_f.k2) b22 ?_
          refine xe_callS (args := [.int (-(u (f + 1) i6.toNatClampNeg)), .int (u (f + 2) ((i5 + (-1 : Int32)) - (1 : Int32)).toNatClampNeg), .int (u (f + 2) (i5 + (-1 : Int32)).toNatClampNeg)]) dX1_value_217 slX1_27 rfl rfl (Nat.le_of_ble_eq_true rfl) k (Nat.le_refl _) (fun rv23 u23 w23 r23 k => ?_)
          obtain ⟨v23, rfl, rfl, rfl, rfl, k⟩ := k
          refine xe_iast dX1_value_220 h_f.k2 (xKK_lt h_f.k2) b21 ?_
          exact xEv.fewer (ls' := [some (.ref f), some (.int i1), some (.int i2), some (.int i3), some (.int i4), some (.int (i5 + (-1 : Int32))), some (.int i6), none]) k (xfw_get (xfw_s (xfw_s (xfw_s (xfw_s (xfw_s (xfw_s (xfw_s (xfw_n (xfw_nil _))))))))))
      · have k := k.2 (fun q => (c18 q))
        refine xe_aload_n dX1_value_168 rfl ?_
        refine xe_iload dX1_value_169 rfl ?_
        refine xe_iload dX1_value_171 rfl ?_
        refine xe_callV (args := [.int i5, .int (u (f + 1) i6.toNatClampNeg)]) dX1_value_173 vlX1_23 rfl rfl (Nat.le_of_ble_eq_true rfl) h_f.k0 (xKK_lt h_f.k0) rfl rfl k (Nat.le_refl _) (fun rv24 u24 w24 r24 k => ?_)
        obtain ⟨v24, rfl, rfl, rfl, k⟩ := k
        refine xe_istore (ls' := [some (.ref f), some (.int i1), some (.int i2), some (.int i3), some (.int i4), some (.int v24), some (.int i6), some (.int (u (f + 1) i6.toNatClampNeg))]) dX1_value_176 (by decide) rfl ?_
        refine xe_goto (tgt := 221) dX1_value_178 rfl ?_
        exact xEv.fewer (ls' := [some (.ref f), some (.int i1), some (.int i2), some (.int i3), some (.int i4), some (.int v24), some (.int i6), none]) k (xfw_get (xfw_s (xfw_s (xfw_s (xfw_s (xfw_s (xfw_s (xfw_s (xfw_n (xfw_nil _))))))))))
    by_cases hlo : (-(u (f + 1) i6.toNatClampNeg)).toInt < 24 ∨ 33 < (-(u (f + 1) i6.toNatClampNeg)).toInt
    · exact xe_tableOut (tgt := 163) dX1_value_27 hlo rfl K30
    · rcases xsw_24_33_5 c25 c26 c27 c28 c29 hlo with hv | hv | hv | hv | hv
      · exact xe_tableIn (tgt := 163) dX1_value_27 (by rw [hv]; decide) (by rw [hv]; decide) (by rw [hv]; rfl) rfl K30
      · exact xe_tableIn (tgt := 163) dX1_value_27 (by rw [hv]; decide) (by rw [hv]; decide) (by rw [hv]; rfl) rfl K30
      · exact xe_tableIn (tgt := 163) dX1_value_27 (by rw [hv]; decide) (by rw [hv]; decide) (by rw [hv]; rfl) rfl K30
      · exact xe_tableIn (tgt := 163) dX1_value_27 (by rw [hv]; decide) (by rw [hv]; decide) (by rw [hv]; rfl) rfl K30
      · exact xe_tableIn (tgt := 163) dX1_value_27 (by rw [hv]; decide) (by rw [hv]; decide) (by rw [hv]; rfl) rfl K30

theorem TX1_value_221 {g : xGT} {d : Nat} {i1 i2 i3 i4 i5 i6 : Int32} {f : Nat} {u : xU} {w : xW} {r : xQ} {P : xPost}
    (k : xEv g (d + 1) mX1_value 6 [some (.ref f), some (.int i1), some (.int i2), some (.int i3), some (.int i4), some (.int i5), some (.int (i6 + (1 : Int32))), none] [] 698 u w r 698 P) :
    xEv g (d + 1) mX1_value 221 [some (.ref f), some (.int i1), some (.int i2), some (.int i3), some (.int i4), some (.int i5), some (.int i6), none] [] 698 u w r 698 P := by
  refine xe_iinc (v := (i6 + (1 : Int32))) (ls' := [some (.ref f), some (.int i1), some (.int i2), some (.int i3), some (.int i4), some (.int i5), some (.int (i6 + (1 : Int32))), none]) dX1_value_221 rfl (by decide) rfl rfl ?_
  refine xe_goto (tgt := 6) dX1_value_224 rfl ?_
  exact k

/-! Formula.push -/

theorem TX1_push_0 {g : xGT} {d : Nat} {i1 i2 : Int32} {f : Nat} {u : xU} {w : xW} {r : xQ} {P : xPost} (h_f : xFm f) (q_f : xFr1 f r)
    (k : ((i1 < 0 ∨ ¬ (i1 < (30 : Int32))) → P (some (.int i1)) u w r) ∧ (¬ (i1 < 0 ∨ ¬ (i1 < (30 : Int32))) → vp_in i1 30 ∧ (P (some (.int (i1 + (1 : Int32)))) (x2 u (f + 2) i1.toNatClampNeg i2) w r))) :
    xEv g d mX1_push 0 [some (.ref f), some (.int i1), some (.int i2)] [] 698 u w r 698 P := by
  refine xe_iload_n dX1_push_0 rfl ?_
  have K6 : (i1 < 0 ∨ ¬ (i1 < (30 : Int32))) → xEv g d mX1_push 13 [some (.ref f), some (.int i1), some (.int i2)] [] 698 u w r 698 P := fun c7 => by
    have k := k.1 c7
    refine xe_iload_n dX1_push_13 rfl ?_
    exact xe_ireturn dX1_push_14 rfl k
  refine xe_if_lt (tgt := 13) dX1_push_1 rfl (fun c1 => ?_) (fun c2 => ?_)
  · exact K6 (Or.inl c1)
  · refine xe_iload_n dX1_push_4 rfl ?_
    refine xe_aload_n dX1_push_5 rfl ?_
    refine xe_getR (b := (f + 2)) dX1_push_6 flX1_13 h_f.k0 (xKK_lt h_f.k0) rfl q_f.f1 ?_
    refine xe_alen (v := (30 : Int32)) dX1_push_9 h_f.k2 (xKK_lt h_f.k2) (by simp) rfl ?_
    refine xe_icmp_lt (tgt := 15) dX1_push_10 rfl (fun c3 => ?_) (fun c4 => ?_)
    · have k := k.2 (fun q => (q.elim (fun z => (c2 z)) (fun z => (z c3))))
      refine xe_aload_n dX1_push_15 rfl ?_
      refine xe_getR (b := (f + 2)) dX1_push_16 flX1_13 h_f.k0 (xKK_lt h_f.k0) rfl q_f.f1 ?_
      refine xe_iload_n dX1_push_19 rfl ?_
      refine xe_iload_n dX1_push_20 rfl ?_
      obtain ⟨b5, k⟩ := k
      refine xe_iast dX1_push_21 h_f.k2 (xKK_lt h_f.k2) b5 ?_
      refine xe_iload_n dX1_push_22 rfl ?_
      refine xe_iconst (v := 1) dX1_push_23 rfl ?_
      refine xe_iadd dX1_push_24 ?_
      exact xe_ireturn dX1_push_25 rfl k
    · exact K6 (Or.inr c4)

theorem CX1_push {g : xGT} {d : Nat} {i1 i2 : Int32} {f : Nat} {u : xU} {w : xW} {r : xQ} {P : xPost} (h_f : xFm f) (q_f : xFr1 f r)
    (k : ((i1 < 0 ∨ ¬ (i1 < (30 : Int32))) → P (some (.int i1)) u w r) ∧ (¬ (i1 < 0 ∨ ¬ (i1 < (30 : Int32))) → vp_in i1 30 ∧ (P (some (.int (i1 + (1 : Int32)))) (x2 u (f + 2) i1.toNatClampNeg i2) w r))) :
    xCall g d mX1_push [.ref f, .int i1, .int i2] 698 u w r 698 P :=
  xCall.of plX1 (Nat.le_of_ble_eq_true rfl) rfl (TX1_push_0 h_f q_f k)

/-! Formula.join -/

set_option maxRecDepth 20000 in
theorem TX1_join_0 {g : xGT} {d : Nat} {i0 i1 i2 : Int32} {u : xU} {w : xW} {r : xQ} {P : xPost}
    (k : (i0 = 7 → P (some (.int (xb (¬ (i2 ≤ i1))))) u w r) ∧ (i0 = 8 → P (some (.int (xb (¬ (i1 ≤ i2))))) u w r) ∧ (i0 = 9 → P (some (.int (xb (i1 = i2)))) u w r) ∧ (i0 = 10 → P (some (.int (i1 + i2))) u w r) ∧ (i0 = 11 → P (some (.int (i1 - i2))) u w r) ∧ (i0 = 12 → P (some (.int (i1 * i2))) u w r) ∧ (i0 = 13 → (i2 = 0 → P (some (.int (0 : Int32))) u w r) ∧ (¬ (i2 = 0) → ¬ i2 = 0 ∧ (P (some (.int (i1 / i2))) u w r))) ∧ (i0 = 28 → P (some (.int (xb (¬ (i1 = 0) ∨ ¬ (i2 = 0))))) u w r) ∧ (i0 = 29 → P (some (.int (xb (¬ (i1 = 0) ∧ ¬ (i2 = 0))))) u w r) ∧ (¬ i0 = 7 → ¬ i0 = 8 → ¬ i0 = 9 → ¬ i0 = 10 → ¬ i0 = 11 → ¬ i0 = 12 → ¬ i0 = 13 → ¬ i0 = 28 → ¬ i0 = 29 → (i2 = 0 → P (some (.int (0 : Int32))) u w r) ∧ (¬ (i2 = 0) → ¬ i2 = 0 ∧ (P (some (.int (i1 - i1 / i2 * i2))) u w r)))) :
    xEv g d mX1_join 0 [some (.int i0), some (.int i1), some (.int i2)] [] 698 u w r 698 P := by
  refine xe_iload_n dX1_join_0 rfl ?_
  by_cases c26 : i0 = 7
  · have k := k.1 c26
    refine xe_tableIn (tgt := 136) dX1_join_1 (by rw [c26]; decide) (by rw [c26]; decide) (by rw [c26]; rfl) rfl ?_
    refine xe_iload_n dX1_join_136 rfl ?_
    refine xe_iload_n dX1_join_137 rfl ?_
    have K3 : xEv g d mX1_join 146 [some (.int i0), some (.int i1), some (.int i2)] [.int (xb (¬ (i2 ≤ i1)))] 698 u w r 698 P := by
      exact xe_ireturn dX1_join_146 rfl k
    refine xe_icmp_ge (tgt := 145) dX1_join_138 rfl (fun c1 => ?_) (fun c2 => ?_)
    · refine xe_iconst (v := 0) dX1_join_145 rfl ?_
      exact xtop (xb_neg (p := ¬ (i2 ≤ i1)) (fun q => q c1)) K3
    · refine xe_iconst (v := 1) dX1_join_141 rfl ?_
      refine xe_goto (tgt := 146) dX1_join_142 rfl ?_
      exact xtop (xb_pos (show ¬ (i2 ≤ i1) from (fun q => (c2 q)))) K3
  by_cases c27 : i0 = 8
  · have k := k.2.1 c27
    refine xe_tableIn (tgt := 147) dX1_join_1 (by rw [c27]; decide) (by rw [c27]; decide) (by rw [c27]; rfl) rfl ?_
    refine xe_iload_n dX1_join_147 rfl ?_
    refine xe_iload_n dX1_join_148 rfl ?_
    have K6 : xEv g d mX1_join 157 [some (.int i0), some (.int i1), some (.int i2)] [.int (xb (¬ (i1 ≤ i2)))] 698 u w r 698 P := by
      exact xe_ireturn dX1_join_157 rfl k
    refine xe_icmp_le (tgt := 156) dX1_join_149 rfl (fun c4 => ?_) (fun c5 => ?_)
    · refine xe_iconst (v := 0) dX1_join_156 rfl ?_
      exact xtop (xb_neg (p := ¬ (i1 ≤ i2)) (fun q => q c4)) K6
    · refine xe_iconst (v := 1) dX1_join_152 rfl ?_
      refine xe_goto (tgt := 157) dX1_join_153 rfl ?_
      exact xtop (xb_pos (show ¬ (i1 ≤ i2) from (fun q => (c5 q)))) K6
  by_cases c28 : i0 = 9
  · have k := k.2.2.1 c28
    refine xe_tableIn (tgt := 158) dX1_join_1 (by rw [c28]; decide) (by rw [c28]; decide) (by rw [c28]; rfl) rfl ?_
    refine xe_iload_n dX1_join_158 rfl ?_
    refine xe_iload_n dX1_join_159 rfl ?_
    have K9 : xEv g d mX1_join 168 [some (.int i0), some (.int i1), some (.int i2)] [.int (xb (i1 = i2))] 698 u w r 698 P := by
      exact xe_ireturn dX1_join_168 rfl k
    refine xe_icmp_ne (tgt := 167) dX1_join_160 rfl (fun c7 => ?_) (fun c8 => ?_)
    · refine xe_iconst (v := 0) dX1_join_167 rfl ?_
      exact xtop (xb_neg (show ¬ (i1 = i2) from (fun q => (c7 q)))) K9
    · refine xe_iconst (v := 1) dX1_join_163 rfl ?_
      refine xe_goto (tgt := 168) dX1_join_164 rfl ?_
      exact xtop (xb_pos (show i1 = i2 from c8)) K9
  by_cases c29 : i0 = 10
  · have k := k.2.2.2.1 c29
    refine xe_tableIn (tgt := 169) dX1_join_1 (by rw [c29]; decide) (by rw [c29]; decide) (by rw [c29]; rfl) rfl ?_
    refine xe_iload_n dX1_join_169 rfl ?_
    refine xe_iload_n dX1_join_170 rfl ?_
    refine xe_iadd dX1_join_171 ?_
    exact xe_ireturn dX1_join_172 rfl k
  by_cases c30 : i0 = 11
  · have k := k.2.2.2.2.1 c30
    refine xe_tableIn (tgt := 173) dX1_join_1 (by rw [c30]; decide) (by rw [c30]; decide) (by rw [c30]; rfl) rfl ?_
    refine xe_iload_n dX1_join_173 rfl ?_
    refine xe_iload_n dX1_join_174 rfl ?_
    refine xe_isub dX1_join_175 ?_
    exact xe_ireturn dX1_join_176 rfl k
  by_cases c31 : i0 = 12
  · have k := k.2.2.2.2.2.1 c31
    refine xe_tableIn (tgt := 177) dX1_join_1 (by rw [c31]; decide) (by rw [c31]; decide) (by rw [c31]; rfl) rfl ?_
    refine xe_iload_n dX1_join_177 rfl ?_
    refine xe_iload_n dX1_join_178 rfl ?_
    refine xe_imul dX1_join_179 ?_
    exact xe_ireturn dX1_join_180 rfl k
  by_cases c32 : i0 = 13
  · have k := k.2.2.2.2.2.2.1 c32
    refine xe_tableIn (tgt := 181) dX1_join_1 (by rw [c32]; decide) (by rw [c32]; decide) (by rw [c32]; rfl) rfl ?_
    refine xe_iload_n dX1_join_181 rfl ?_
    refine xe_if_ne (tgt := 189) dX1_join_182 rfl (fun c10 => ?_) (fun c11 => ?_)
    · have k := k.2 (fun q => (c10 q))
      refine xe_iload_n dX1_join_189 rfl ?_
      refine xe_iload_n dX1_join_190 rfl ?_
      obtain ⟨z12, k⟩ := k
      refine xe_idiv dX1_join_191 z12 ?_
      exact xe_ireturn dX1_join_192 rfl k
    · have k := k.1 c11
      refine xe_iconst (v := 0) dX1_join_185 rfl ?_
      refine xe_goto (tgt := 192) dX1_join_186 rfl ?_
      exact xe_ireturn dX1_join_192 rfl k
  by_cases c33 : i0 = 28
  · have k := k.2.2.2.2.2.2.2.1 c33
    refine xe_tableIn (tgt := 108) dX1_join_1 (by rw [c33]; decide) (by rw [c33]; decide) (by rw [c33]; rfl) rfl ?_
    refine xe_iload_n dX1_join_108 rfl ?_
    have K17 : xEv g d mX1_join 121 [some (.int i0), some (.int i1), some (.int i2)] [.int (xb (¬ (i1 = 0) ∨ ¬ (i2 = 0)))] 698 u w r 698 P := by
      exact xe_ireturn dX1_join_121 rfl k
    refine xe_if_ne (tgt := 116) dX1_join_109 rfl (fun c13 => ?_) (fun c14 => ?_)
    · refine xe_iconst (v := 1) dX1_join_116 rfl ?_
      refine xe_goto (tgt := 121) dX1_join_117 rfl ?_
      exact xtop (xb_pos (show (¬ (i1 = 0) ∨ ¬ (i2 = 0)) from (Or.inl c13))) K17
    · refine xe_iload_n dX1_join_112 rfl ?_
      refine xe_if_eq (tgt := 120) dX1_join_113 rfl (fun c15 => ?_) (fun c16 => ?_)
      · refine xe_iconst (v := 0) dX1_join_120 rfl ?_
        exact xtop (xb_neg (show ¬ (¬ (i1 = 0) ∨ ¬ (i2 = 0)) from (fun q => (q.elim (fun z => (z c14)) (fun z => (z c15)))))) K17
      · refine xe_iconst (v := 1) dX1_join_116 rfl ?_
        refine xe_goto (tgt := 121) dX1_join_117 rfl ?_
        exact xtop (xb_pos (show (¬ (i1 = 0) ∨ ¬ (i2 = 0)) from (Or.inr c16))) K17
  by_cases c34 : i0 = 29
  · have k := k.2.2.2.2.2.2.2.2.1 c34
    refine xe_tableIn (tgt := 122) dX1_join_1 (by rw [c34]; decide) (by rw [c34]; decide) (by rw [c34]; rfl) rfl ?_
    refine xe_iload_n dX1_join_122 rfl ?_
    have K22 : xEv g d mX1_join 135 [some (.int i0), some (.int i1), some (.int i2)] [.int (xb (¬ (i1 = 0) ∧ ¬ (i2 = 0)))] 698 u w r 698 P := by
      exact xe_ireturn dX1_join_135 rfl k
    refine xe_if_eq (tgt := 134) dX1_join_123 rfl (fun c18 => ?_) (fun c19 => ?_)
    · refine xe_iconst (v := 0) dX1_join_134 rfl ?_
      exact xtop (xb_neg (show ¬ (¬ (i1 = 0) ∧ ¬ (i2 = 0)) from (fun q => (q.1 c18)))) K22
    · refine xe_iload_n dX1_join_126 rfl ?_
      refine xe_if_eq (tgt := 134) dX1_join_127 rfl (fun c20 => ?_) (fun c21 => ?_)
      · refine xe_iconst (v := 0) dX1_join_134 rfl ?_
        exact xtop (xb_neg (show ¬ (¬ (i1 = 0) ∧ ¬ (i2 = 0)) from (fun q => (q.2 c20)))) K22
      · refine xe_iconst (v := 1) dX1_join_130 rfl ?_
        refine xe_goto (tgt := 135) dX1_join_131 rfl ?_
        exact xtop (xb_pos (show (¬ (i1 = 0) ∧ ¬ (i2 = 0)) from ⟨c19, c21⟩)) K22
  have k := k.2.2.2.2.2.2.2.2.2 c26 c27 c28 c29 c30 c31 c32 c33 c34
  have K35 : xEv g d mX1_join 193 [some (.int i0), some (.int i1), some (.int i2)] [] 698 u w r 698 P := by
    refine xe_iload_n dX1_join_193 rfl ?_
    refine xe_if_ne (tgt := 201) dX1_join_194 rfl (fun c23 => ?_) (fun c24 => ?_)
    · have k := k.2 (fun q => (c23 q))
      refine xe_iload_n dX1_join_201 rfl ?_
      refine xe_iload_n dX1_join_202 rfl ?_
      obtain ⟨z25, k⟩ := k
      refine xe_irem dX1_join_203 z25 ?_
      exact xe_ireturn dX1_join_204 rfl k
    · have k := k.1 c24
      refine xe_iconst (v := 0) dX1_join_197 rfl ?_
      refine xe_goto (tgt := 204) dX1_join_198 rfl ?_
      exact xe_ireturn dX1_join_204 rfl k
  by_cases hlo : i0.toInt < 7 ∨ 29 < i0.toInt
  · exact xe_tableOut (tgt := 193) dX1_join_1 hlo rfl K35
  · rcases xsw_7_29_9 c26 c27 c28 c29 c30 c31 c32 c33 c34 hlo with hv | hv | hv | hv | hv | hv | hv | hv | hv | hv | hv | hv | hv | hv
    · exact xe_tableIn (tgt := 193) dX1_join_1 (by rw [hv]; decide) (by rw [hv]; decide) (by rw [hv]; rfl) rfl K35
    · exact xe_tableIn (tgt := 193) dX1_join_1 (by rw [hv]; decide) (by rw [hv]; decide) (by rw [hv]; rfl) rfl K35
    · exact xe_tableIn (tgt := 193) dX1_join_1 (by rw [hv]; decide) (by rw [hv]; decide) (by rw [hv]; rfl) rfl K35
    · exact xe_tableIn (tgt := 193) dX1_join_1 (by rw [hv]; decide) (by rw [hv]; decide) (by rw [hv]; rfl) rfl K35
    · exact xe_tableIn (tgt := 193) dX1_join_1 (by rw [hv]; decide) (by rw [hv]; decide) (by rw [hv]; rfl) rfl K35
    · exact xe_tableIn (tgt := 193) dX1_join_1 (by rw [hv]; decide) (by rw [hv]; decide) (by rw [hv]; rfl) rfl K35
    · exact xe_tableIn (tgt := 193) dX1_join_1 (by rw [hv]; decide) (by rw [hv]; decide) (by rw [hv]; rfl) rfl K35
    · exact xe_tableIn (tgt := 193) dX1_join_1 (by rw [hv]; decide) (by rw [hv]; decide) (by rw [hv]; rfl) rfl K35
    · exact xe_tableIn (tgt := 193) dX1_join_1 (by rw [hv]; decide) (by rw [hv]; decide) (by rw [hv]; rfl) rfl K35
    · exact xe_tableIn (tgt := 193) dX1_join_1 (by rw [hv]; decide) (by rw [hv]; decide) (by rw [hv]; rfl) rfl K35
    · exact xe_tableIn (tgt := 193) dX1_join_1 (by rw [hv]; decide) (by rw [hv]; decide) (by rw [hv]; rfl) rfl K35
    · exact xe_tableIn (tgt := 193) dX1_join_1 (by rw [hv]; decide) (by rw [hv]; decide) (by rw [hv]; rfl) rfl K35
    · exact xe_tableIn (tgt := 193) dX1_join_1 (by rw [hv]; decide) (by rw [hv]; decide) (by rw [hv]; rfl) rfl K35
    · exact xe_tableIn (tgt := 193) dX1_join_1 (by rw [hv]; decide) (by rw [hv]; decide) (by rw [hv]; rfl) rfl K35

theorem CX1_join {g : xGT} {d : Nat} {i0 i1 i2 : Int32} {u : xU} {w : xW} {r : xQ} {P : xPost}
    (k : (i0 = 7 → P (some (.int (xb (¬ (i2 ≤ i1))))) u w r) ∧ (i0 = 8 → P (some (.int (xb (¬ (i1 ≤ i2))))) u w r) ∧ (i0 = 9 → P (some (.int (xb (i1 = i2)))) u w r) ∧ (i0 = 10 → P (some (.int (i1 + i2))) u w r) ∧ (i0 = 11 → P (some (.int (i1 - i2))) u w r) ∧ (i0 = 12 → P (some (.int (i1 * i2))) u w r) ∧ (i0 = 13 → (i2 = 0 → P (some (.int (0 : Int32))) u w r) ∧ (¬ (i2 = 0) → ¬ i2 = 0 ∧ (P (some (.int (i1 / i2))) u w r))) ∧ (i0 = 28 → P (some (.int (xb (¬ (i1 = 0) ∨ ¬ (i2 = 0))))) u w r) ∧ (i0 = 29 → P (some (.int (xb (¬ (i1 = 0) ∧ ¬ (i2 = 0))))) u w r) ∧ (¬ i0 = 7 → ¬ i0 = 8 → ¬ i0 = 9 → ¬ i0 = 10 → ¬ i0 = 11 → ¬ i0 = 12 → ¬ i0 = 13 → ¬ i0 = 28 → ¬ i0 = 29 → (i2 = 0 → P (some (.int (0 : Int32))) u w r) ∧ (¬ (i2 = 0) → ¬ i2 = 0 ∧ (P (some (.int (i1 - i1 / i2 * i2))) u w r)))) :
    xCall g d mX1_join [.int i0, .int i1, .int i2] 698 u w r 698 P :=
  xCall.of plX1 (Nat.le_of_ble_eq_true rfl) rfl (TX1_join_0  k)

/-! Land.clear -/

theorem TX2_clear_0 {g : xGT} {d : Nat} {l : Nat} {u : xU} {w : xW} {r : xQ} {P : xPost} (h_l : xLd l) (q_l : xLr l r)
    (k : xCall g d mX1_clear [.ref (l + 12)] 698 (x2 (x2 (x2 (x2 (x2 (x2 u l 0 (0 : Int32)) l 1 (0 : Int32)) l 5 (0 : Int32)) l 10 (0 : Int32)) l 15 (0 : Int32)) l 16 (-1 : Int32)) w r 698 (fun rv1 u1 w1 r1 => rv1 = none ∧ w = w1 ∧ r = r1 ∧ P none u1 w r)) :
    xEv g (d + 1) mX2_clear 0 [some (.ref l)] [] 698 u w r 698 P := by
  refine xe_aload_n dX2_clear_0 rfl ?_
  refine xe_iconst (v := 0) dX2_clear_1 rfl ?_
  refine xe_putI dX2_clear_2 flX2_56 h_l.k0 (xKK_lt h_l.k0) nf2_0 rfl ?_
  refine xe_aload_n dX2_clear_5 rfl ?_
  refine xe_iconst (v := 0) dX2_clear_6 rfl ?_
  refine xe_putI dX2_clear_7 flX2_59 h_l.k0 (xKK_lt h_l.k0) nf2_1 rfl ?_
  refine xe_aload_n dX2_clear_10 rfl ?_
  refine xe_iconst (v := 0) dX2_clear_11 rfl ?_
  refine xe_putI dX2_clear_12 flX2_62 h_l.k0 (xKK_lt h_l.k0) nf2_5 rfl ?_
  refine xe_aload_n dX2_clear_15 rfl ?_
  refine xe_iconst (v := 0) dX2_clear_16 rfl ?_
  refine xe_putI dX2_clear_17 flX2_65 h_l.k0 (xKK_lt h_l.k0) nf2_10 rfl ?_
  refine xe_aload_n dX2_clear_20 rfl ?_
  refine xe_iconst (v := 0) dX2_clear_21 rfl ?_
  refine xe_putI dX2_clear_22 flX2_68 h_l.k0 (xKK_lt h_l.k0) nf2_15 rfl ?_
  refine xe_aload_n dX2_clear_25 rfl ?_
  refine xe_iconst (v := -1) dX2_clear_26 rfl ?_
  refine xe_putI dX2_clear_27 flX2_45 h_l.k0 (xKK_lt h_l.k0) nf2_16 rfl ?_
  refine xe_aload_n dX2_clear_30 rfl ?_
  refine xe_getR (b := (l + 12)) dX2_clear_31 flX2_52 h_l.k0 (xKK_lt h_l.k0) rfl q_l.1.f17 ?_
  refine xe_callV (args := []) dX2_clear_34 vlX2_71 rfl rfl (Nat.le_of_ble_eq_true rfl) h_l.fm.k0 (xKK_lt h_l.fm.k0) rfl rfl k (Nat.le_refl _) (fun rv1 u1 w1 r1 k => ?_)
  obtain ⟨rfl, rfl, rfl, k⟩ := k
  exact xe_return dX2_clear_37 trivial k

theorem CX2_clear {g : xGT} {d : Nat} {l : Nat} {u : xU} {w : xW} {r : xQ} {P : xPost} (h_l : xLd l) (q_l : xLr l r)
    (k : xCall g d mX1_clear [.ref (l + 12)] 698 (x2 (x2 (x2 (x2 (x2 (x2 u l 0 (0 : Int32)) l 1 (0 : Int32)) l 5 (0 : Int32)) l 10 (0 : Int32)) l 15 (0 : Int32)) l 16 (-1 : Int32)) w r 698 (fun rv1 u1 w1 r1 => rv1 = none ∧ w = w1 ∧ r = r1 ∧ P none u1 w r)) :
    xCall g (d + 1) mX2_clear [.ref l] 698 u w r 698 P :=
  xCall.of plX2 (Nat.le_of_ble_eq_true rfl) rfl (TX2_clear_0 h_l q_l k)

/-! Land.hasWay -/

theorem TX2_hasWay_0 {g : xGT} {d : Nat} {i1 i2 : Int32} {l : Nat} {u : xU} {w : xW} {r : xQ} {P : xPost}
    (k : xEv g d mX2_hasWay 2 [some (.ref l), some (.int i1), some (.int i2), some (.int (0 : Int32))] [] 698 u w r 698 P) :
    xEv g d mX2_hasWay 0 [some (.ref l), some (.int i1), some (.int i2), none] [] 698 u w r 698 P := by
  refine xe_iconst (v := 0) dX2_hasWay_0 rfl ?_
  refine xe_istore_n (ls' := [some (.ref l), some (.int i1), some (.int i2), some (.int (0 : Int32))]) dX2_hasWay_1 rfl (by decide) rfl ?_
  exact k

theorem CX2_hasWay {g : xGT} {d : Nat} {i1 i2 : Int32} {l : Nat} {u : xU} {w : xW} {r : xQ} {P : xPost}
    (k : xEv g d mX2_hasWay 2 [some (.ref l), some (.int i1), some (.int i2), some (.int (0 : Int32))] [] 698 u w r 698 P) :
    xCall g d mX2_hasWay [.ref l, .int i1, .int i2] 698 u w r 698 P :=
  xCall.of plX2 (Nat.le_of_ble_eq_true rfl) rfl (TX2_hasWay_0  k)

theorem TX2_hasWay_2 {g : xGT} {d : Nat} {i1 i2 i3 : Int32} {l : Nat} {u : xU} {w : xW} {r : xQ} {P : xPost} (h_l : xLd l) (q_l : xLr l r)
    (k : ((u l 1) ≤ i3 → P (some (.int (0 : Int32))) u w r) ∧ (¬ ((u l 1) ≤ i3) → vp_in i3 12 ∧ (((¬ ((u (l + 1) i3.toNatClampNeg) = i1) ∨ ¬ ((u (l + 2) i3.toNatClampNeg) = i2)) → (((u (l + 1) i3.toNatClampNeg) = i2 ∧ (u (l + 2) i3.toNatClampNeg) = i1) → P (some (.int (1 : Int32))) u w r) ∧ (¬ ((u (l + 1) i3.toNatClampNeg) = i2 ∧ (u (l + 2) i3.toNatClampNeg) = i1) → xEv g d mX2_hasWay 2 [some (.ref l), some (.int i1), some (.int i2), some (.int (i3 + (1 : Int32)))] [] 698 u w r 698 P)) ∧ (¬ (¬ ((u (l + 1) i3.toNatClampNeg) = i1) ∨ ¬ ((u (l + 2) i3.toNatClampNeg) = i2)) → P (some (.int (1 : Int32))) u w r)))) :
    xEv g d mX2_hasWay 2 [some (.ref l), some (.int i1), some (.int i2), some (.int i3)] [] 698 u w r 698 P := by
  refine xe_iload_n dX2_hasWay_2 rfl ?_
  refine xe_aload_n dX2_hasWay_3 rfl ?_
  refine xe_getI dX2_hasWay_4 flX2_59 h_l.k0 (xKK_lt h_l.k0) rfl ?_
  refine xe_icmp_ge (tgt := 58) dX2_hasWay_7 rfl (fun c1 => ?_) (fun c2 => ?_)
  · have k := k.1 c1
    refine xe_iconst (v := 0) dX2_hasWay_58 rfl ?_
    exact xe_ireturn dX2_hasWay_59 (xrokZ (Or.inl rfl)) k
  · have k := k.2 (fun q => (c2 q))
    refine xe_aload_n dX2_hasWay_10 rfl ?_
    refine xe_getR (b := (l + 1)) dX2_hasWay_11 flX2_9 h_l.k0 (xKK_lt h_l.k0) rfl q_l.1.f2 ?_
    refine xe_iload_n dX2_hasWay_14 rfl ?_
    obtain ⟨b3, k⟩ := k
    refine xe_iald dX2_hasWay_15 h_l.k1 (xKK_lt h_l.k1) b3 ?_
    refine xe_iload_n dX2_hasWay_16 rfl ?_
    have K14 : (¬ ((u (l + 1) i3.toNatClampNeg) = i1) ∨ ¬ ((u (l + 2) i3.toNatClampNeg) = i2)) → xEv g d mX2_hasWay 30 [some (.ref l), some (.int i1), some (.int i2), some (.int i3)] [] 698 u w r 698 P := fun c15 => by
      have k := k.1 c15
      refine xe_aload_n dX2_hasWay_30 rfl ?_
      refine xe_getR (b := (l + 1)) dX2_hasWay_31 flX2_9 h_l.k0 (xKK_lt h_l.k0) rfl q_l.1.f2 ?_
      refine xe_iload_n dX2_hasWay_34 rfl ?_
      refine xe_iald dX2_hasWay_35 h_l.k1 (xKK_lt h_l.k1) b3 ?_
      refine xe_iload_n dX2_hasWay_36 rfl ?_
      have K12 : ¬ ((u (l + 1) i3.toNatClampNeg) = i2 ∧ (u (l + 2) i3.toNatClampNeg) = i1) → xEv g d mX2_hasWay 52 [some (.ref l), some (.int i1), some (.int i2), some (.int i3)] [] 698 u w r 698 P := fun c13 => by
        have k := k.2 c13
        refine xe_iinc (v := (i3 + (1 : Int32))) (ls' := [some (.ref l), some (.int i1), some (.int i2), some (.int (i3 + (1 : Int32)))]) dX2_hasWay_52 rfl (by decide) rfl rfl ?_
        refine xe_goto (tgt := 2) dX2_hasWay_55 rfl ?_
        exact k
      refine xe_icmp_ne (tgt := 52) dX2_hasWay_37 rfl (fun c8 => ?_) (fun c9 => ?_)
      · exact K12 (fun q => (c8 q.1))
      · refine xe_aload_n dX2_hasWay_40 rfl ?_
        refine xe_getR (b := (l + 2)) dX2_hasWay_41 flX2_15 h_l.k0 (xKK_lt h_l.k0) rfl q_l.1.f3 ?_
        refine xe_iload_n dX2_hasWay_44 rfl ?_
        refine xe_iald dX2_hasWay_45 h_l.k2 (xKK_lt h_l.k2) b3 ?_
        refine xe_iload_n dX2_hasWay_46 rfl ?_
        refine xe_icmp_ne (tgt := 52) dX2_hasWay_47 rfl (fun c10 => ?_) (fun c11 => ?_)
        · exact K12 (fun q => (c10 q.2))
        · have k := k.1 ⟨c9, c11⟩
          refine xe_iconst (v := 1) dX2_hasWay_50 rfl ?_
          exact xe_ireturn dX2_hasWay_51 (xrokZ (Or.inr rfl)) k
    refine xe_icmp_ne (tgt := 30) dX2_hasWay_17 rfl (fun c4 => ?_) (fun c5 => ?_)
    · exact K14 (Or.inl c4)
    · refine xe_aload_n dX2_hasWay_20 rfl ?_
      refine xe_getR (b := (l + 2)) dX2_hasWay_21 flX2_15 h_l.k0 (xKK_lt h_l.k0) rfl q_l.1.f3 ?_
      refine xe_iload_n dX2_hasWay_24 rfl ?_
      refine xe_iald dX2_hasWay_25 h_l.k2 (xKK_lt h_l.k2) b3 ?_
      refine xe_iload_n dX2_hasWay_26 rfl ?_
      refine xe_icmp_eq (tgt := 50) dX2_hasWay_27 rfl (fun c6 => ?_) (fun c7 => ?_)
      · have k := k.2 (fun q => (q.elim (fun z => (z c5)) (fun z => (z c6))))
        refine xe_iconst (v := 1) dX2_hasWay_50 rfl ?_
        exact xe_ireturn dX2_hasWay_51 (xrokZ (Or.inr rfl)) k
      · exact K14 (Or.inr c7)

/-! Land.addWay -/

theorem TX2_addWay_0 {g : xGT} {d : Nat} {i1 i2 i3 : Int32} {l : Nat} {u : xU} {w : xW} {r : xQ} {P : xPost} (h_l : xLd l) (q_l : xLr l r)
    (k : ((12 : Int32) ≤ (u l 1) → P none u w r) ∧ (¬ ((12 : Int32) ≤ (u l 1)) → vp_in (u l 1) 12 ∧ (vp_in ((x2 u (l + 1) (u l 1).toNatClampNeg i1) l 1) 12 ∧ (vp_in ((x2 (x2 u (l + 1) (u l 1).toNatClampNeg i1) (l + 2) ((x2 u (l + 1) (u l 1).toNatClampNeg i1) l 1).toNatClampNeg i2) l 1) 12 ∧ (P none (x2 (x2 (x2 (x2 u (l + 1) (u l 1).toNatClampNeg i1) (l + 2) ((x2 u (l + 1) (u l 1).toNatClampNeg i1) l 1).toNatClampNeg i2) (l + 3) ((x2 (x2 u (l + 1) (u l 1).toNatClampNeg i1) (l + 2) ((x2 u (l + 1) (u l 1).toNatClampNeg i1) l 1).toNatClampNeg i2) l 1).toNatClampNeg i3) l 1 (((x2 (x2 (x2 u (l + 1) (u l 1).toNatClampNeg i1) (l + 2) ((x2 u (l + 1) (u l 1).toNatClampNeg i1) l 1).toNatClampNeg i2) (l + 3) ((x2 (x2 u (l + 1) (u l 1).toNatClampNeg i1) (l + 2) ((x2 u (l + 1) (u l 1).toNatClampNeg i1) l 1).toNatClampNeg i2) l 1).toNatClampNeg i3) l 1) + (1 : Int32))) w r))))) :
    xEv g d mX2_addWay 0 [some (.ref l), some (.int i1), some (.int i2), some (.int i3)] [] 698 u w r 698 P := by
  refine xe_aload_n dX2_addWay_0 rfl ?_
  refine xe_getI dX2_addWay_1 flX2_59 h_l.k0 (xKK_lt h_l.k0) rfl ?_
  refine xe_bipush (v := 12) dX2_addWay_4 rfl ?_
  refine xe_icmp_ge (tgt := 49) dX2_addWay_6 rfl (fun c1 => ?_) (fun c2 => ?_)
  · have k := k.1 c1
    exact xe_return dX2_addWay_49 trivial k
  · have k := k.2 (fun q => (c2 q))
    refine xe_aload_n dX2_addWay_9 rfl ?_
    refine xe_getR (b := (l + 1)) dX2_addWay_10 flX2_9 h_l.k0 (xKK_lt h_l.k0) rfl q_l.1.f2 ?_
    refine xe_aload_n dX2_addWay_13 rfl ?_
    refine xe_getI dX2_addWay_14 flX2_59 h_l.k0 (xKK_lt h_l.k0) rfl ?_
    refine xe_iload_n dX2_addWay_17 rfl ?_
    obtain ⟨b3, k⟩ := k
    refine xe_iast dX2_addWay_18 h_l.k1 (xKK_lt h_l.k1) b3 ?_
    refine xe_aload_n dX2_addWay_19 rfl ?_
    refine xe_getR (b := (l + 2)) dX2_addWay_20 flX2_15 h_l.k0 (xKK_lt h_l.k0) rfl q_l.1.f3 ?_
    refine xe_aload_n dX2_addWay_23 rfl ?_
    refine xe_getI dX2_addWay_24 flX2_59 h_l.k0 (xKK_lt h_l.k0) rfl ?_
    refine xe_iload_n dX2_addWay_27 rfl ?_
    obtain ⟨b4, k⟩ := k
    refine xe_iast dX2_addWay_28 h_l.k2 (xKK_lt h_l.k2) b4 ?_
    refine xe_aload_n dX2_addWay_29 rfl ?_
    refine xe_getR (b := (l + 3)) dX2_addWay_30 flX2_18 h_l.k0 (xKK_lt h_l.k0) rfl q_l.1.f4 ?_
    refine xe_aload_n dX2_addWay_33 rfl ?_
    refine xe_getI dX2_addWay_34 flX2_59 h_l.k0 (xKK_lt h_l.k0) rfl ?_
    refine xe_iload_n dX2_addWay_37 rfl ?_
    obtain ⟨b5, k⟩ := k
    refine xe_iast dX2_addWay_38 h_l.k3 (xKK_lt h_l.k3) b5 ?_
    refine xe_aload_n dX2_addWay_39 rfl ?_
    refine xe_dup dX2_addWay_40 rfl ?_
    refine xe_getI dX2_addWay_41 flX2_59 h_l.k0 (xKK_lt h_l.k0) rfl ?_
    refine xe_iconst (v := 1) dX2_addWay_44 rfl ?_
    refine xe_iadd dX2_addWay_45 ?_
    refine xe_putI dX2_addWay_46 flX2_59 h_l.k0 (xKK_lt h_l.k0) nf2_1 rfl ?_
    exact xe_return dX2_addWay_49 trivial k

theorem CX2_addWay {g : xGT} {d : Nat} {i1 i2 i3 : Int32} {l : Nat} {u : xU} {w : xW} {r : xQ} {P : xPost} (h_l : xLd l) (q_l : xLr l r)
    (k : ((12 : Int32) ≤ (u l 1) → P none u w r) ∧ (¬ ((12 : Int32) ≤ (u l 1)) → vp_in (u l 1) 12 ∧ (vp_in ((x2 u (l + 1) (u l 1).toNatClampNeg i1) l 1) 12 ∧ (vp_in ((x2 (x2 u (l + 1) (u l 1).toNatClampNeg i1) (l + 2) ((x2 u (l + 1) (u l 1).toNatClampNeg i1) l 1).toNatClampNeg i2) l 1) 12 ∧ (P none (x2 (x2 (x2 (x2 u (l + 1) (u l 1).toNatClampNeg i1) (l + 2) ((x2 u (l + 1) (u l 1).toNatClampNeg i1) l 1).toNatClampNeg i2) (l + 3) ((x2 (x2 u (l + 1) (u l 1).toNatClampNeg i1) (l + 2) ((x2 u (l + 1) (u l 1).toNatClampNeg i1) l 1).toNatClampNeg i2) l 1).toNatClampNeg i3) l 1 (((x2 (x2 (x2 u (l + 1) (u l 1).toNatClampNeg i1) (l + 2) ((x2 u (l + 1) (u l 1).toNatClampNeg i1) l 1).toNatClampNeg i2) (l + 3) ((x2 (x2 u (l + 1) (u l 1).toNatClampNeg i1) (l + 2) ((x2 u (l + 1) (u l 1).toNatClampNeg i1) l 1).toNatClampNeg i2) l 1).toNatClampNeg i3) l 1) + (1 : Int32))) w r))))) :
    xCall g d mX2_addWay [.ref l, .int i1, .int i2, .int i3] 698 u w r 698 P :=
  xCall.of plX2 (Nat.le_of_ble_eq_true rfl) rfl (TX2_addWay_0 h_l q_l k)

/-! Land.addBier -/

theorem TX2_addBier_0 {g : xGT} {d : Nat} {i1 i2 i3 i4 : Int32} {l : Nat} {u : xU} {w : xW} {r : xQ} {P : xPost} (h_l : xLd l) (q_l : xLr l r)
    (k : ((6 : Int32) ≤ (u l 5) → P none u w r) ∧ (¬ ((6 : Int32) ≤ (u l 5)) → vp_in (u l 5) 6 ∧ (vp_in ((x2 u (l + 4) (u l 5).toNatClampNeg i1) l 5) 6 ∧ (vp_in ((x2 (x2 u (l + 4) (u l 5).toNatClampNeg i1) (l + 5) ((x2 u (l + 4) (u l 5).toNatClampNeg i1) l 5).toNatClampNeg i2) l 5) 6 ∧ (vp_in ((x2 (x2 (x2 u (l + 4) (u l 5).toNatClampNeg i1) (l + 5) ((x2 u (l + 4) (u l 5).toNatClampNeg i1) l 5).toNatClampNeg i2) (l + 6) ((x2 (x2 u (l + 4) (u l 5).toNatClampNeg i1) (l + 5) ((x2 u (l + 4) (u l 5).toNatClampNeg i1) l 5).toNatClampNeg i2) l 5).toNatClampNeg i3) l 5) 6 ∧ (P none (x2 (x2 (x2 (x2 (x2 u (l + 4) (u l 5).toNatClampNeg i1) (l + 5) ((x2 u (l + 4) (u l 5).toNatClampNeg i1) l 5).toNatClampNeg i2) (l + 6) ((x2 (x2 u (l + 4) (u l 5).toNatClampNeg i1) (l + 5) ((x2 u (l + 4) (u l 5).toNatClampNeg i1) l 5).toNatClampNeg i2) l 5).toNatClampNeg i3) (l + 7) ((x2 (x2 (x2 u (l + 4) (u l 5).toNatClampNeg i1) (l + 5) ((x2 u (l + 4) (u l 5).toNatClampNeg i1) l 5).toNatClampNeg i2) (l + 6) ((x2 (x2 u (l + 4) (u l 5).toNatClampNeg i1) (l + 5) ((x2 u (l + 4) (u l 5).toNatClampNeg i1) l 5).toNatClampNeg i2) l 5).toNatClampNeg i3) l 5).toNatClampNeg i4) l 5 (((x2 (x2 (x2 (x2 u (l + 4) (u l 5).toNatClampNeg i1) (l + 5) ((x2 u (l + 4) (u l 5).toNatClampNeg i1) l 5).toNatClampNeg i2) (l + 6) ((x2 (x2 u (l + 4) (u l 5).toNatClampNeg i1) (l + 5) ((x2 u (l + 4) (u l 5).toNatClampNeg i1) l 5).toNatClampNeg i2) l 5).toNatClampNeg i3) (l + 7) ((x2 (x2 (x2 u (l + 4) (u l 5).toNatClampNeg i1) (l + 5) ((x2 u (l + 4) (u l 5).toNatClampNeg i1) l 5).toNatClampNeg i2) (l + 6) ((x2 (x2 u (l + 4) (u l 5).toNatClampNeg i1) (l + 5) ((x2 u (l + 4) (u l 5).toNatClampNeg i1) l 5).toNatClampNeg i2) l 5).toNatClampNeg i3) l 5).toNatClampNeg i4) l 5) + (1 : Int32))) w r)))))) :
    xEv g d mX2_addBier 0 [some (.ref l), some (.int i1), some (.int i2), some (.int i3), some (.int i4)] [] 698 u w r 698 P := by
  refine xe_aload_n dX2_addBier_0 rfl ?_
  refine xe_getI dX2_addBier_1 flX2_62 h_l.k0 (xKK_lt h_l.k0) rfl ?_
  refine xe_bipush (v := 6) dX2_addBier_4 rfl ?_
  refine xe_icmp_ge (tgt := 60) dX2_addBier_6 rfl (fun c1 => ?_) (fun c2 => ?_)
  · have k := k.1 c1
    exact xe_return dX2_addBier_60 trivial k
  · have k := k.2 (fun q => (c2 q))
    refine xe_aload_n dX2_addBier_9 rfl ?_
    refine xe_getR (b := (l + 4)) dX2_addBier_10 flX2_21 h_l.k0 (xKK_lt h_l.k0) rfl q_l.1.f6 ?_
    refine xe_aload_n dX2_addBier_13 rfl ?_
    refine xe_getI dX2_addBier_14 flX2_62 h_l.k0 (xKK_lt h_l.k0) rfl ?_
    refine xe_iload_n dX2_addBier_17 rfl ?_
    obtain ⟨b3, k⟩ := k
    refine xe_iast dX2_addBier_18 h_l.k4 (xKK_lt h_l.k4) b3 ?_
    refine xe_aload_n dX2_addBier_19 rfl ?_
    refine xe_getR (b := (l + 5)) dX2_addBier_20 flX2_24 h_l.k0 (xKK_lt h_l.k0) rfl q_l.1.f7 ?_
    refine xe_aload_n dX2_addBier_23 rfl ?_
    refine xe_getI dX2_addBier_24 flX2_62 h_l.k0 (xKK_lt h_l.k0) rfl ?_
    refine xe_iload_n dX2_addBier_27 rfl ?_
    obtain ⟨b4, k⟩ := k
    refine xe_iast dX2_addBier_28 h_l.k5 (xKK_lt h_l.k5) b4 ?_
    refine xe_aload_n dX2_addBier_29 rfl ?_
    refine xe_getR (b := (l + 6)) dX2_addBier_30 flX2_27 h_l.k0 (xKK_lt h_l.k0) rfl q_l.1.f8 ?_
    refine xe_aload_n dX2_addBier_33 rfl ?_
    refine xe_getI dX2_addBier_34 flX2_62 h_l.k0 (xKK_lt h_l.k0) rfl ?_
    refine xe_iload_n dX2_addBier_37 rfl ?_
    obtain ⟨b5, k⟩ := k
    refine xe_iast dX2_addBier_38 h_l.k6 (xKK_lt h_l.k6) b5 ?_
    refine xe_aload_n dX2_addBier_39 rfl ?_
    refine xe_getR (b := (l + 7)) dX2_addBier_40 flX2_30 h_l.k0 (xKK_lt h_l.k0) rfl q_l.1.f9 ?_
    refine xe_aload_n dX2_addBier_43 rfl ?_
    refine xe_getI dX2_addBier_44 flX2_62 h_l.k0 (xKK_lt h_l.k0) rfl ?_
    refine xe_iload dX2_addBier_47 rfl ?_
    obtain ⟨b6, k⟩ := k
    refine xe_iast dX2_addBier_49 h_l.k7 (xKK_lt h_l.k7) b6 ?_
    refine xe_aload_n dX2_addBier_50 rfl ?_
    refine xe_dup dX2_addBier_51 rfl ?_
    refine xe_getI dX2_addBier_52 flX2_62 h_l.k0 (xKK_lt h_l.k0) rfl ?_
    refine xe_iconst (v := 1) dX2_addBier_55 rfl ?_
    refine xe_iadd dX2_addBier_56 ?_
    refine xe_putI dX2_addBier_57 flX2_62 h_l.k0 (xKK_lt h_l.k0) nf2_5 rfl ?_
    exact xe_return dX2_addBier_60 trivial k

theorem CX2_addBier {g : xGT} {d : Nat} {i1 i2 i3 i4 : Int32} {l : Nat} {u : xU} {w : xW} {r : xQ} {P : xPost} (h_l : xLd l) (q_l : xLr l r)
    (k : ((6 : Int32) ≤ (u l 5) → P none u w r) ∧ (¬ ((6 : Int32) ≤ (u l 5)) → vp_in (u l 5) 6 ∧ (vp_in ((x2 u (l + 4) (u l 5).toNatClampNeg i1) l 5) 6 ∧ (vp_in ((x2 (x2 u (l + 4) (u l 5).toNatClampNeg i1) (l + 5) ((x2 u (l + 4) (u l 5).toNatClampNeg i1) l 5).toNatClampNeg i2) l 5) 6 ∧ (vp_in ((x2 (x2 (x2 u (l + 4) (u l 5).toNatClampNeg i1) (l + 5) ((x2 u (l + 4) (u l 5).toNatClampNeg i1) l 5).toNatClampNeg i2) (l + 6) ((x2 (x2 u (l + 4) (u l 5).toNatClampNeg i1) (l + 5) ((x2 u (l + 4) (u l 5).toNatClampNeg i1) l 5).toNatClampNeg i2) l 5).toNatClampNeg i3) l 5) 6 ∧ (P none (x2 (x2 (x2 (x2 (x2 u (l + 4) (u l 5).toNatClampNeg i1) (l + 5) ((x2 u (l + 4) (u l 5).toNatClampNeg i1) l 5).toNatClampNeg i2) (l + 6) ((x2 (x2 u (l + 4) (u l 5).toNatClampNeg i1) (l + 5) ((x2 u (l + 4) (u l 5).toNatClampNeg i1) l 5).toNatClampNeg i2) l 5).toNatClampNeg i3) (l + 7) ((x2 (x2 (x2 u (l + 4) (u l 5).toNatClampNeg i1) (l + 5) ((x2 u (l + 4) (u l 5).toNatClampNeg i1) l 5).toNatClampNeg i2) (l + 6) ((x2 (x2 u (l + 4) (u l 5).toNatClampNeg i1) (l + 5) ((x2 u (l + 4) (u l 5).toNatClampNeg i1) l 5).toNatClampNeg i2) l 5).toNatClampNeg i3) l 5).toNatClampNeg i4) l 5 (((x2 (x2 (x2 (x2 u (l + 4) (u l 5).toNatClampNeg i1) (l + 5) ((x2 u (l + 4) (u l 5).toNatClampNeg i1) l 5).toNatClampNeg i2) (l + 6) ((x2 (x2 u (l + 4) (u l 5).toNatClampNeg i1) (l + 5) ((x2 u (l + 4) (u l 5).toNatClampNeg i1) l 5).toNatClampNeg i2) l 5).toNatClampNeg i3) (l + 7) ((x2 (x2 (x2 u (l + 4) (u l 5).toNatClampNeg i1) (l + 5) ((x2 u (l + 4) (u l 5).toNatClampNeg i1) l 5).toNatClampNeg i2) (l + 6) ((x2 (x2 u (l + 4) (u l 5).toNatClampNeg i1) (l + 5) ((x2 u (l + 4) (u l 5).toNatClampNeg i1) l 5).toNatClampNeg i2) l 5).toNatClampNeg i3) l 5).toNatClampNeg i4) l 5) + (1 : Int32))) w r)))))) :
    xCall g d mX2_addBier [.ref l, .int i1, .int i2, .int i3, .int i4] 698 u w r 698 P :=
  xCall.of plX2 (Nat.le_of_ble_eq_true rfl) rfl (TX2_addBier_0 h_l q_l k)

/-! Land.addLetter -/

theorem TX2_addLetter_0 {g : xGT} {d : Nat} {i1 i2 i3 i4 : Int32} {l : Nat} {u : xU} {w : xW} {r : xQ} {P : xPost} (h_l : xLd l) (q_l : xLr l r)
    (k : ((8 : Int32) ≤ (u l 10) → P none u w r) ∧ (¬ ((8 : Int32) ≤ (u l 10)) → vp_in (u l 10) 8 ∧ (vp_in ((x2 u (l + 8) (u l 10).toNatClampNeg i1) l 10) 8 ∧ (vp_in ((x2 (x2 u (l + 8) (u l 10).toNatClampNeg i1) (l + 9) ((x2 u (l + 8) (u l 10).toNatClampNeg i1) l 10).toNatClampNeg i2) l 10) 8 ∧ (vp_in ((x2 (x2 (x2 u (l + 8) (u l 10).toNatClampNeg i1) (l + 9) ((x2 u (l + 8) (u l 10).toNatClampNeg i1) l 10).toNatClampNeg i2) (l + 10) ((x2 (x2 u (l + 8) (u l 10).toNatClampNeg i1) (l + 9) ((x2 u (l + 8) (u l 10).toNatClampNeg i1) l 10).toNatClampNeg i2) l 10).toNatClampNeg i3) l 10) 8 ∧ (P none (x2 (x2 (x2 (x2 (x2 u (l + 8) (u l 10).toNatClampNeg i1) (l + 9) ((x2 u (l + 8) (u l 10).toNatClampNeg i1) l 10).toNatClampNeg i2) (l + 10) ((x2 (x2 u (l + 8) (u l 10).toNatClampNeg i1) (l + 9) ((x2 u (l + 8) (u l 10).toNatClampNeg i1) l 10).toNatClampNeg i2) l 10).toNatClampNeg i3) (l + 11) ((x2 (x2 (x2 u (l + 8) (u l 10).toNatClampNeg i1) (l + 9) ((x2 u (l + 8) (u l 10).toNatClampNeg i1) l 10).toNatClampNeg i2) (l + 10) ((x2 (x2 u (l + 8) (u l 10).toNatClampNeg i1) (l + 9) ((x2 u (l + 8) (u l 10).toNatClampNeg i1) l 10).toNatClampNeg i2) l 10).toNatClampNeg i3) l 10).toNatClampNeg i4) l 10 (((x2 (x2 (x2 (x2 u (l + 8) (u l 10).toNatClampNeg i1) (l + 9) ((x2 u (l + 8) (u l 10).toNatClampNeg i1) l 10).toNatClampNeg i2) (l + 10) ((x2 (x2 u (l + 8) (u l 10).toNatClampNeg i1) (l + 9) ((x2 u (l + 8) (u l 10).toNatClampNeg i1) l 10).toNatClampNeg i2) l 10).toNatClampNeg i3) (l + 11) ((x2 (x2 (x2 u (l + 8) (u l 10).toNatClampNeg i1) (l + 9) ((x2 u (l + 8) (u l 10).toNatClampNeg i1) l 10).toNatClampNeg i2) (l + 10) ((x2 (x2 u (l + 8) (u l 10).toNatClampNeg i1) (l + 9) ((x2 u (l + 8) (u l 10).toNatClampNeg i1) l 10).toNatClampNeg i2) l 10).toNatClampNeg i3) l 10).toNatClampNeg i4) l 10) + (1 : Int32))) w r)))))) :
    xEv g d mX2_addLetter 0 [some (.ref l), some (.int i1), some (.int i2), some (.int i3), some (.int i4)] [] 698 u w r 698 P := by
  refine xe_aload_n dX2_addLetter_0 rfl ?_
  refine xe_getI dX2_addLetter_1 flX2_65 h_l.k0 (xKK_lt h_l.k0) rfl ?_
  refine xe_bipush (v := 8) dX2_addLetter_4 rfl ?_
  refine xe_icmp_ge (tgt := 60) dX2_addLetter_6 rfl (fun c1 => ?_) (fun c2 => ?_)
  · have k := k.1 c1
    exact xe_return dX2_addLetter_60 trivial k
  · have k := k.2 (fun q => (c2 q))
    refine xe_aload_n dX2_addLetter_9 rfl ?_
    refine xe_getR (b := (l + 8)) dX2_addLetter_10 flX2_33 h_l.k0 (xKK_lt h_l.k0) rfl q_l.1.f11 ?_
    refine xe_aload_n dX2_addLetter_13 rfl ?_
    refine xe_getI dX2_addLetter_14 flX2_65 h_l.k0 (xKK_lt h_l.k0) rfl ?_
    refine xe_iload_n dX2_addLetter_17 rfl ?_
    obtain ⟨b3, k⟩ := k
    refine xe_iast dX2_addLetter_18 h_l.k8 (xKK_lt h_l.k8) b3 ?_
    refine xe_aload_n dX2_addLetter_19 rfl ?_
    refine xe_getR (b := (l + 9)) dX2_addLetter_20 flX2_36 h_l.k0 (xKK_lt h_l.k0) rfl q_l.1.f12 ?_
    refine xe_aload_n dX2_addLetter_23 rfl ?_
    refine xe_getI dX2_addLetter_24 flX2_65 h_l.k0 (xKK_lt h_l.k0) rfl ?_
    refine xe_iload_n dX2_addLetter_27 rfl ?_
    obtain ⟨b4, k⟩ := k
    refine xe_iast dX2_addLetter_28 h_l.k9 (xKK_lt h_l.k9) b4 ?_
    refine xe_aload_n dX2_addLetter_29 rfl ?_
    refine xe_getR (b := (l + 10)) dX2_addLetter_30 flX2_39 h_l.k0 (xKK_lt h_l.k0) rfl q_l.1.f13 ?_
    refine xe_aload_n dX2_addLetter_33 rfl ?_
    refine xe_getI dX2_addLetter_34 flX2_65 h_l.k0 (xKK_lt h_l.k0) rfl ?_
    refine xe_iload_n dX2_addLetter_37 rfl ?_
    obtain ⟨b5, k⟩ := k
    refine xe_iast dX2_addLetter_38 h_l.k10 (xKK_lt h_l.k10) b5 ?_
    refine xe_aload_n dX2_addLetter_39 rfl ?_
    refine xe_getR (b := (l + 11)) dX2_addLetter_40 flX2_42 h_l.k0 (xKK_lt h_l.k0) rfl q_l.1.f14 ?_
    refine xe_aload_n dX2_addLetter_43 rfl ?_
    refine xe_getI dX2_addLetter_44 flX2_65 h_l.k0 (xKK_lt h_l.k0) rfl ?_
    refine xe_iload dX2_addLetter_47 rfl ?_
    obtain ⟨b6, k⟩ := k
    refine xe_iast dX2_addLetter_49 h_l.k11 (xKK_lt h_l.k11) b6 ?_
    refine xe_aload_n dX2_addLetter_50 rfl ?_
    refine xe_dup dX2_addLetter_51 rfl ?_
    refine xe_getI dX2_addLetter_52 flX2_65 h_l.k0 (xKK_lt h_l.k0) rfl ?_
    refine xe_iconst (v := 1) dX2_addLetter_55 rfl ?_
    refine xe_iadd dX2_addLetter_56 ?_
    refine xe_putI dX2_addLetter_57 flX2_65 h_l.k0 (xKK_lt h_l.k0) nf2_10 rfl ?_
    exact xe_return dX2_addLetter_60 trivial k

theorem CX2_addLetter {g : xGT} {d : Nat} {i1 i2 i3 i4 : Int32} {l : Nat} {u : xU} {w : xW} {r : xQ} {P : xPost} (h_l : xLd l) (q_l : xLr l r)
    (k : ((8 : Int32) ≤ (u l 10) → P none u w r) ∧ (¬ ((8 : Int32) ≤ (u l 10)) → vp_in (u l 10) 8 ∧ (vp_in ((x2 u (l + 8) (u l 10).toNatClampNeg i1) l 10) 8 ∧ (vp_in ((x2 (x2 u (l + 8) (u l 10).toNatClampNeg i1) (l + 9) ((x2 u (l + 8) (u l 10).toNatClampNeg i1) l 10).toNatClampNeg i2) l 10) 8 ∧ (vp_in ((x2 (x2 (x2 u (l + 8) (u l 10).toNatClampNeg i1) (l + 9) ((x2 u (l + 8) (u l 10).toNatClampNeg i1) l 10).toNatClampNeg i2) (l + 10) ((x2 (x2 u (l + 8) (u l 10).toNatClampNeg i1) (l + 9) ((x2 u (l + 8) (u l 10).toNatClampNeg i1) l 10).toNatClampNeg i2) l 10).toNatClampNeg i3) l 10) 8 ∧ (P none (x2 (x2 (x2 (x2 (x2 u (l + 8) (u l 10).toNatClampNeg i1) (l + 9) ((x2 u (l + 8) (u l 10).toNatClampNeg i1) l 10).toNatClampNeg i2) (l + 10) ((x2 (x2 u (l + 8) (u l 10).toNatClampNeg i1) (l + 9) ((x2 u (l + 8) (u l 10).toNatClampNeg i1) l 10).toNatClampNeg i2) l 10).toNatClampNeg i3) (l + 11) ((x2 (x2 (x2 u (l + 8) (u l 10).toNatClampNeg i1) (l + 9) ((x2 u (l + 8) (u l 10).toNatClampNeg i1) l 10).toNatClampNeg i2) (l + 10) ((x2 (x2 u (l + 8) (u l 10).toNatClampNeg i1) (l + 9) ((x2 u (l + 8) (u l 10).toNatClampNeg i1) l 10).toNatClampNeg i2) l 10).toNatClampNeg i3) l 10).toNatClampNeg i4) l 10 (((x2 (x2 (x2 (x2 u (l + 8) (u l 10).toNatClampNeg i1) (l + 9) ((x2 u (l + 8) (u l 10).toNatClampNeg i1) l 10).toNatClampNeg i2) (l + 10) ((x2 (x2 u (l + 8) (u l 10).toNatClampNeg i1) (l + 9) ((x2 u (l + 8) (u l 10).toNatClampNeg i1) l 10).toNatClampNeg i2) l 10).toNatClampNeg i3) (l + 11) ((x2 (x2 (x2 u (l + 8) (u l 10).toNatClampNeg i1) (l + 9) ((x2 u (l + 8) (u l 10).toNatClampNeg i1) l 10).toNatClampNeg i2) (l + 10) ((x2 (x2 u (l + 8) (u l 10).toNatClampNeg i1) (l + 9) ((x2 u (l + 8) (u l 10).toNatClampNeg i1) l 10).toNatClampNeg i2) l 10).toNatClampNeg i3) l 10).toNatClampNeg i4) l 10) + (1 : Int32))) w r)))))) :
    xCall g d mX2_addLetter [.ref l, .int i1, .int i2, .int i3, .int i4] 698 u w r 698 P :=
  xCall.of plX2 (Nat.le_of_ble_eq_true rfl) rfl (TX2_addLetter_0 h_l q_l k)

/-! Land.isWinter -/

theorem TX2_isWinter_0 {g : xGT} {d : Nat} {i1 : Int32} {l : Nat} {u : xU} {w : xW} {r : xQ} {P : xPost} (h_l : xLd l)
    (k : P (some (.int (xb (¬ (i1 < (u l 15)) ∧ ¬ ((u l 16) < i1))))) u w r) :
    xEv g d mX2_isWinter 0 [some (.ref l), some (.int i1)] [] 698 u w r 698 P := by
  refine xe_iload_n dX2_isWinter_0 rfl ?_
  refine xe_aload_n dX2_isWinter_1 rfl ?_
  refine xe_getI dX2_isWinter_2 flX2_68 h_l.k0 (xKK_lt h_l.k0) rfl ?_
  have K5 : xEv g d mX2_isWinter 21 [some (.ref l), some (.int i1)] [.int (xb (¬ (i1 < (u l 15)) ∧ ¬ ((u l 16) < i1)))] 698 u w r 698 P := by
    exact xe_ireturn dX2_isWinter_21 (xrokZ (xb01 _)) k
  refine xe_icmp_lt (tgt := 20) dX2_isWinter_5 rfl (fun c1 => ?_) (fun c2 => ?_)
  · refine xe_iconst (v := 0) dX2_isWinter_20 rfl ?_
    exact xtop (xb_neg (show ¬ (¬ (i1 < (u l 15)) ∧ ¬ ((u l 16) < i1)) from (fun q => (q.1 c1)))) K5
  · refine xe_iload_n dX2_isWinter_8 rfl ?_
    refine xe_aload_n dX2_isWinter_9 rfl ?_
    refine xe_getI dX2_isWinter_10 flX2_45 h_l.k0 (xKK_lt h_l.k0) rfl ?_
    refine xe_icmp_gt (tgt := 20) dX2_isWinter_13 rfl (fun c3 => ?_) (fun c4 => ?_)
    · refine xe_iconst (v := 0) dX2_isWinter_20 rfl ?_
      exact xtop (xb_neg (show ¬ (¬ (i1 < (u l 15)) ∧ ¬ ((u l 16) < i1)) from (fun q => (q.2 c3)))) K5
    · refine xe_iconst (v := 1) dX2_isWinter_16 rfl ?_
      refine xe_goto (tgt := 21) dX2_isWinter_17 rfl ?_
      exact xtop (xb_pos (show (¬ (i1 < (u l 15)) ∧ ¬ ((u l 16) < i1)) from ⟨c2, c4⟩)) K5

theorem CX2_isWinter {g : xGT} {d : Nat} {i1 : Int32} {l : Nat} {u : xU} {w : xW} {r : xQ} {P : xPost} (h_l : xLd l)
    (k : P (some (.int (xb (¬ (i1 < (u l 15)) ∧ ¬ ((u l 16) < i1))))) u w r) :
    xCall g d mX2_isWinter [.ref l, .int i1] 698 u w r 698 P :=
  xCall.of plX2 (Nat.le_of_ble_eq_true rfl) rfl (TX2_isWinter_0 h_l k)

/-! Land.reachedFrom -/

theorem TX2_reachedFrom_0 {g : xGT} {d : Nat} {i1 i2 : Int32} {l : Nat} {u : xU} {w : xW} {r : xQ} {P : xPost}
    (k : xEv g d mX2_reachedFrom 10 [some (.ref l), none, some (.int i2), some (.int ((1 : Int32) <<< (i1 &&& 31))), some (.int (0 : Int32)), some (.int (0 : Int32)), none, none] [] 698 u w r 698 P) :
    xEv g d mX2_reachedFrom 0 [some (.ref l), some (.int i1), some (.int i2), none, none, none, none, none] [] 698 u w r 698 P := by
  refine xe_iconst (v := 1) dX2_reachedFrom_0 rfl ?_
  refine xe_iload_n dX2_reachedFrom_1 rfl ?_
  refine xe_ishl dX2_reachedFrom_2 ?_
  refine xe_istore_n (ls' := [some (.ref l), some (.int i1), some (.int i2), some (.int ((1 : Int32) <<< (i1 &&& 31))), none, none, none, none]) dX2_reachedFrom_3 rfl (by decide) rfl ?_
  refine xe_iconst (v := 0) dX2_reachedFrom_4 rfl ?_
  refine xe_istore (ls' := [some (.ref l), some (.int i1), some (.int i2), some (.int ((1 : Int32) <<< (i1 &&& 31))), some (.int (0 : Int32)), none, none, none]) dX2_reachedFrom_5 (by decide) rfl ?_
  refine xe_iconst (v := 0) dX2_reachedFrom_7 rfl ?_
  refine xe_istore (ls' := [some (.ref l), some (.int i1), some (.int i2), some (.int ((1 : Int32) <<< (i1 &&& 31))), some (.int (0 : Int32)), some (.int (0 : Int32)), none, none]) dX2_reachedFrom_8 (by decide) rfl ?_
  exact xEv.fewer (ls' := [some (.ref l), none, some (.int i2), some (.int ((1 : Int32) <<< (i1 &&& 31))), some (.int (0 : Int32)), some (.int (0 : Int32)), none, none]) k (xfw_get (xfw_s (xfw_n (xfw_s (xfw_s (xfw_s (xfw_s (xfw_n (xfw_n (xfw_nil _))))))))))

theorem CX2_reachedFrom {g : xGT} {d : Nat} {i1 i2 : Int32} {l : Nat} {u : xU} {w : xW} {r : xQ} {P : xPost}
    (k : xEv g d mX2_reachedFrom 10 [some (.ref l), none, some (.int i2), some (.int ((1 : Int32) <<< (i1 &&& 31))), some (.int (0 : Int32)), some (.int (0 : Int32)), none, none] [] 698 u w r 698 P) :
    xCall g d mX2_reachedFrom [.ref l, .int i1, .int i2] 698 u w r 698 P :=
  xCall.of plX2 (Nat.le_of_ble_eq_true rfl) rfl (TX2_reachedFrom_0  k)

theorem TX2_reachedFrom_10 {g : xGT} {d : Nat} {i2 i3 i4 i5 : Int32} {l : Nat} {u : xU} {w : xW} {r : xQ} {P : xPost}
    (k : ((¬ ((7 : Int32) ≤ i5) ∧ ¬ (i4 = i3)) → xEv g d mX2_reachedFrom 29 [some (.ref l), none, some (.int i2), some (.int i3), some (.int i3), some (.int i5), some (.int (0 : Int32)), none] [] 698 u w r 698 P) ∧ (¬ (¬ ((7 : Int32) ≤ i5) ∧ ¬ (i4 = i3)) → P (some (.int i3)) u w r)) :
    xEv g d mX2_reachedFrom 10 [some (.ref l), none, some (.int i2), some (.int i3), some (.int i4), some (.int i5), none, none] [] 698 u w r 698 P := by
  refine xe_iload dX2_reachedFrom_10 rfl ?_
  refine xe_bipush (v := 7) dX2_reachedFrom_12 rfl ?_
  have K5 : ¬ (¬ ((7 : Int32) ≤ i5) ∧ ¬ (i4 = i3)) → xEv g d mX2_reachedFrom 92 [some (.ref l), none, some (.int i2), some (.int i3), some (.int i4), some (.int i5), none, none] [] 698 u w r 698 P := fun c6 => by
    have k := k.2 c6
    refine xe_iload_n dX2_reachedFrom_92 rfl ?_
    exact xe_ireturn dX2_reachedFrom_93 rfl k
  refine xe_icmp_ge (tgt := 92) dX2_reachedFrom_14 rfl (fun c1 => ?_) (fun c2 => ?_)
  · exact K5 (fun q => (q.1 c1))
  · refine xe_iload dX2_reachedFrom_17 rfl ?_
    refine xe_iload_n dX2_reachedFrom_19 rfl ?_
    refine xe_icmp_eq (tgt := 92) dX2_reachedFrom_20 rfl (fun c3 => ?_) (fun c4 => ?_)
    · exact K5 (fun q => (q.2 c3))
    · have k := k.1 ⟨c2, c4⟩
      refine xe_iload_n dX2_reachedFrom_23 rfl ?_
      refine xe_istore (ls' := [some (.ref l), none, some (.int i2), some (.int i3), some (.int i3), some (.int i5), none, none]) dX2_reachedFrom_24 (by decide) rfl ?_
      refine xe_iconst (v := 0) dX2_reachedFrom_26 rfl ?_
      refine xe_istore (ls' := [some (.ref l), none, some (.int i2), some (.int i3), some (.int i3), some (.int i5), some (.int (0 : Int32)), none]) dX2_reachedFrom_27 (by decide) rfl ?_
      exact k

theorem TX2_reachedFrom_29 {g : xGT} {d : Nat} {i2 i3 i4 i5 i6 : Int32} {l : Nat} {u : xU} {w : xW} {r : xQ} {P : xPost} (h_l : xLd l) (q_l : xLr l r)
    (k : ((u l 1) ≤ i6 → xEv g d mX2_reachedFrom 10 [some (.ref l), none, some (.int i2), some (.int i3), some (.int i4), some (.int (i5 + (1 : Int32))), none, none] [] 698 u w r 698 P) ∧ (¬ ((u l 1) ≤ i6) → vp_in i6 12 ∧ (((((i2 >>> (i6 &&& 31)) &&& (1 : Int32)) = 0 ∧ ¬ ((i3 &&& (((1 : Int32) <<< ((u (l + 1) i6.toNatClampNeg) &&& 31)) ||| ((1 : Int32) <<< ((u (l + 2) i6.toNatClampNeg) &&& 31)))) = 0)) → xEv g d mX2_reachedFrom 80 [some (.ref l), none, some (.int i2), some (.int (i3 ||| (((1 : Int32) <<< ((u (l + 1) i6.toNatClampNeg) &&& 31)) ||| ((1 : Int32) <<< ((u (l + 2) i6.toNatClampNeg) &&& 31))))), some (.int i4), some (.int i5), some (.int i6), none] [] 698 u w r 698 P) ∧ (¬ (((i2 >>> (i6 &&& 31)) &&& (1 : Int32)) = 0 ∧ ¬ ((i3 &&& (((1 : Int32) <<< ((u (l + 1) i6.toNatClampNeg) &&& 31)) ||| ((1 : Int32) <<< ((u (l + 2) i6.toNatClampNeg) &&& 31)))) = 0)) → xEv g d mX2_reachedFrom 80 [some (.ref l), none, some (.int i2), some (.int i3), some (.int i4), some (.int i5), some (.int i6), none] [] 698 u w r 698 P)))) :
    xEv g d mX2_reachedFrom 29 [some (.ref l), none, some (.int i2), some (.int i3), some (.int i4), some (.int i5), some (.int i6), none] [] 698 u w r 698 P := by
  refine xe_iload dX2_reachedFrom_29 rfl ?_
  refine xe_aload_n dX2_reachedFrom_31 rfl ?_
  refine xe_getI dX2_reachedFrom_32 flX2_59 h_l.k0 (xKK_lt h_l.k0) rfl ?_
  refine xe_icmp_ge (tgt := 86) dX2_reachedFrom_35 rfl (fun c7 => ?_) (fun c8 => ?_)
  · have k := k.1 c7
    refine xe_iinc (v := (i5 + (1 : Int32))) (ls' := [some (.ref l), none, some (.int i2), some (.int i3), some (.int i4), some (.int (i5 + (1 : Int32))), some (.int i6), none]) dX2_reachedFrom_86 rfl (by decide) rfl rfl ?_
    refine xe_goto (tgt := 10) dX2_reachedFrom_89 rfl ?_
    exact xEv.fewer (ls' := [some (.ref l), none, some (.int i2), some (.int i3), some (.int i4), some (.int (i5 + (1 : Int32))), none, none]) k (xfw_get (xfw_s (xfw_n (xfw_s (xfw_s (xfw_s (xfw_s (xfw_n (xfw_n (xfw_nil _))))))))))
  · have k := k.2 (fun q => (c8 q))
    refine xe_iconst (v := 1) dX2_reachedFrom_38 rfl ?_
    refine xe_aload_n dX2_reachedFrom_39 rfl ?_
    refine xe_getR (b := (l + 1)) dX2_reachedFrom_40 flX2_9 h_l.k0 (xKK_lt h_l.k0) rfl q_l.1.f2 ?_
    refine xe_iload dX2_reachedFrom_43 rfl ?_
    obtain ⟨b9, k⟩ := k
    refine xe_iald dX2_reachedFrom_45 h_l.k1 (xKK_lt h_l.k1) b9 ?_
    refine xe_ishl dX2_reachedFrom_46 ?_
    refine xe_iconst (v := 1) dX2_reachedFrom_47 rfl ?_
    refine xe_aload_n dX2_reachedFrom_48 rfl ?_
    refine xe_getR (b := (l + 2)) dX2_reachedFrom_49 flX2_15 h_l.k0 (xKK_lt h_l.k0) rfl q_l.1.f3 ?_
    refine xe_iload dX2_reachedFrom_52 rfl ?_
    refine xe_iald dX2_reachedFrom_54 h_l.k2 (xKK_lt h_l.k2) b9 ?_
    refine xe_ishl dX2_reachedFrom_55 ?_
    refine xe_ior dX2_reachedFrom_56 ?_
    refine xe_istore (ls' := [some (.ref l), none, some (.int i2), some (.int i3), some (.int i4), some (.int i5), some (.int i6), some (.int (((1 : Int32) <<< ((u (l + 1) i6.toNatClampNeg) &&& 31)) ||| ((1 : Int32) <<< ((u (l + 2) i6.toNatClampNeg) &&& 31))))]) dX2_reachedFrom_57 (by decide) rfl ?_
    refine xe_iload_n dX2_reachedFrom_59 rfl ?_
    refine xe_iload dX2_reachedFrom_60 rfl ?_
    refine xe_ishr dX2_reachedFrom_62 ?_
    refine xe_iconst (v := 1) dX2_reachedFrom_63 rfl ?_
    refine xe_iand dX2_reachedFrom_64 ?_
    have K14 : ¬ (((i2 >>> (i6 &&& 31)) &&& (1 : Int32)) = 0 ∧ ¬ ((i3 &&& (((1 : Int32) <<< ((u (l + 1) i6.toNatClampNeg) &&& 31)) ||| ((1 : Int32) <<< ((u (l + 2) i6.toNatClampNeg) &&& 31)))) = 0)) → xEv g d mX2_reachedFrom 80 [some (.ref l), none, some (.int i2), some (.int i3), some (.int i4), some (.int i5), some (.int i6), some (.int (((1 : Int32) <<< ((u (l + 1) i6.toNatClampNeg) &&& 31)) ||| ((1 : Int32) <<< ((u (l + 2) i6.toNatClampNeg) &&& 31))))] [] 698 u w r 698 P := fun c15 => by
      have k := k.2 c15
      exact xEv.fewer (ls' := [some (.ref l), none, some (.int i2), some (.int i3), some (.int i4), some (.int i5), some (.int i6), none]) k (xfw_get (xfw_s (xfw_n (xfw_s (xfw_s (xfw_s (xfw_s (xfw_s (xfw_n (xfw_nil _))))))))))
    refine xe_if_ne (tgt := 80) dX2_reachedFrom_65 rfl (fun c10 => ?_) (fun c11 => ?_)
    · exact K14 (fun q => (c10 q.1))
    · refine xe_iload_n dX2_reachedFrom_68 rfl ?_
      refine xe_iload dX2_reachedFrom_69 rfl ?_
      refine xe_iand dX2_reachedFrom_71 ?_
      refine xe_if_eq (tgt := 80) dX2_reachedFrom_72 rfl (fun c12 => ?_) (fun c13 => ?_)
      · exact K14 (fun q => (q.2 c12))
      · have k := k.1 ⟨c11, c13⟩
        refine xe_iload_n dX2_reachedFrom_75 rfl ?_
        refine xe_iload dX2_reachedFrom_76 rfl ?_
        refine xe_ior dX2_reachedFrom_78 ?_
        refine xe_istore_n (ls' := [some (.ref l), none, some (.int i2), some (.int (i3 ||| (((1 : Int32) <<< ((u (l + 1) i6.toNatClampNeg) &&& 31)) ||| ((1 : Int32) <<< ((u (l + 2) i6.toNatClampNeg) &&& 31))))), some (.int i4), some (.int i5), some (.int i6), some (.int (((1 : Int32) <<< ((u (l + 1) i6.toNatClampNeg) &&& 31)) ||| ((1 : Int32) <<< ((u (l + 2) i6.toNatClampNeg) &&& 31))))]) dX2_reachedFrom_79 rfl (by decide) rfl ?_
        exact xEv.fewer (ls' := [some (.ref l), none, some (.int i2), some (.int (i3 ||| (((1 : Int32) <<< ((u (l + 1) i6.toNatClampNeg) &&& 31)) ||| ((1 : Int32) <<< ((u (l + 2) i6.toNatClampNeg) &&& 31))))), some (.int i4), some (.int i5), some (.int i6), none]) k (xfw_get (xfw_s (xfw_n (xfw_s (xfw_s (xfw_s (xfw_s (xfw_s (xfw_n (xfw_nil _))))))))))

theorem TX2_reachedFrom_80 {g : xGT} {d : Nat} {i2 i3 i4 i5 i6 : Int32} {l : Nat} {u : xU} {w : xW} {r : xQ} {P : xPost}
    (k : xEv g d mX2_reachedFrom 29 [some (.ref l), none, some (.int i2), some (.int i3), some (.int i4), some (.int i5), some (.int (i6 + (1 : Int32))), none] [] 698 u w r 698 P) :
    xEv g d mX2_reachedFrom 80 [some (.ref l), none, some (.int i2), some (.int i3), some (.int i4), some (.int i5), some (.int i6), none] [] 698 u w r 698 P := by
  refine xe_iinc (v := (i6 + (1 : Int32))) (ls' := [some (.ref l), none, some (.int i2), some (.int i3), some (.int i4), some (.int i5), some (.int (i6 + (1 : Int32))), none]) dX2_reachedFrom_80 rfl (by decide) rfl rfl ?_
  refine xe_goto (tgt := 29) dX2_reachedFrom_83 rfl ?_
  exact k

/-! Lore.tell -/

theorem TX4_tell_0 {g : xGT} {d : Nat} {i1 i2 : Int32} {u : xU} {w : xW} {r : xQ} {P : xPost} (hr : xRf r)
    (k : xCall g d mX11_isOneOf [.int (u 611 4), .int (30 : Int32)] 698 u w r 698 (fun rv1 u1 w1 r1 => ∃ v1 : Int32, rv1 = some (.int v1) ∧ u = u1 ∧ w = w1 ∧ r = r1 ∧ (v1 = 0 → P (some (.int (-1 : Int32))) u w r) ∧ (¬ (v1 = 0) → vp_in (u 611 4) 30 ∧ ((i2 = 0 ∨ i2 = 1) ∧ (P (some (.int (u 611 4))) (x2 (x2 (x2 (x2 (x2 u 612 (u 611 4).toNatClampNeg i1) 613 (u 611 4).toNatClampNeg i2) 614 (u 611 4).toNatClampNeg (u 611 5)) 615 (u 611 4).toNatClampNeg (-1 : Int32)) 611 4 ((u 611 4) + (1 : Int32))) w r))))) :
    xEv g (d + 1) mX4_tell 0 [some (.ref 611), some (.int i1), some (.int i2), none] [] 698 u w r 698 P := by
  refine xe_aload_n dX4_tell_0 rfl ?_
  refine xe_getI dX4_tell_1 flX4_25 kk611 (xKK_lt kk611) rfl ?_
  refine xe_istore_n (ls' := [some (.ref 611), some (.int i1), some (.int i2), some (.int (u 611 4))]) dX4_tell_4 rfl (by decide) rfl ?_
  refine xe_iload_n dX4_tell_5 rfl ?_
  refine xe_bipush (v := 30) dX4_tell_6 rfl ?_
  refine xe_callSN (args := [.int (u 611 4), .int (30 : Int32)]) dX4_tell_8 snX4_29 rfl rfl (Nat.le_of_ble_eq_true rfl) k (Nat.le_refl _) (fun rv1 u1 w1 r1 k => ?_)
  obtain ⟨v1, rfl, rfl, rfl, rfl, k⟩ := k
  refine xe_if_ne (tgt := 16) dX4_tell_11 rfl (fun c2 => ?_) (fun c3 => ?_)
  · have k := k.2 (fun q => (c2 q))
    refine xe_aload_n dX4_tell_16 rfl ?_
    refine xe_getR (b := 612) dX4_tell_17 flX4_9 kk611 (xKK_lt kk611) rfl (rf611_0 hr) ?_
    refine xe_iload_n dX4_tell_20 rfl ?_
    refine xe_iload_n dX4_tell_21 rfl ?_
    obtain ⟨b4, k⟩ := k
    refine xe_iast dX4_tell_22 kk612 (xKK_lt kk612) b4 ?_
    refine xe_aload_n dX4_tell_23 rfl ?_
    refine xe_getR (b := 613) dX4_tell_24 flX4_15 kk611 (xKK_lt kk611) rfl (rf611_1 hr) ?_
    refine xe_iload_n dX4_tell_27 rfl ?_
    refine xe_iload_n dX4_tell_28 rfl ?_
    obtain ⟨z5, k⟩ := k
    refine xe_zast dX4_tell_29 kk613 (xKK_lt kk613) b4 z5 ?_
    refine xe_aload_n dX4_tell_30 rfl ?_
    refine xe_getR (b := 614) dX4_tell_31 flX4_19 kk611 (xKK_lt kk611) rfl (rf611_2 hr) ?_
    refine xe_iload_n dX4_tell_34 rfl ?_
    refine xe_aload_n dX4_tell_35 rfl ?_
    refine xe_getI dX4_tell_36 flX4_33 kk611 (xKK_lt kk611) rfl ?_
    refine xe_iast dX4_tell_39 kk614 (xKK_lt kk614) b4 ?_
    refine xe_aload_n dX4_tell_40 rfl ?_
    refine xe_getR (b := 615) dX4_tell_41 flX4_22 kk611 (xKK_lt kk611) rfl (rf611_3 hr) ?_
    refine xe_iload_n dX4_tell_44 rfl ?_
    refine xe_iconst (v := -1) dX4_tell_45 rfl ?_
    refine xe_iast dX4_tell_46 kk615 (xKK_lt kk615) b4 ?_
    refine xe_aload_n dX4_tell_47 rfl ?_
    refine xe_dup dX4_tell_48 rfl ?_
    refine xe_getI dX4_tell_49 flX4_25 kk611 (xKK_lt kk611) rfl ?_
    refine xe_iconst (v := 1) dX4_tell_52 rfl ?_
    refine xe_iadd dX4_tell_53 ?_
    refine xe_putI dX4_tell_54 flX4_25 kk611 (xKK_lt kk611) nf4_4 rfl ?_
    refine xe_iload_n dX4_tell_57 rfl ?_
    exact xe_ireturn dX4_tell_58 rfl k
  · have k := k.1 c3
    refine xe_iconst (v := -1) dX4_tell_14 rfl ?_
    exact xe_ireturn dX4_tell_15 rfl k

theorem CX4_tell {g : xGT} {d : Nat} {i1 i2 : Int32} {u : xU} {w : xW} {r : xQ} {P : xPost} (hr : xRf r)
    (k : xCall g d mX11_isOneOf [.int (u 611 4), .int (30 : Int32)] 698 u w r 698 (fun rv1 u1 w1 r1 => ∃ v1 : Int32, rv1 = some (.int v1) ∧ u = u1 ∧ w = w1 ∧ r = r1 ∧ (v1 = 0 → P (some (.int (-1 : Int32))) u w r) ∧ (¬ (v1 = 0) → vp_in (u 611 4) 30 ∧ ((i2 = 0 ∨ i2 = 1) ∧ (P (some (.int (u 611 4))) (x2 (x2 (x2 (x2 (x2 u 612 (u 611 4).toNatClampNeg i1) 613 (u 611 4).toNatClampNeg i2) 614 (u 611 4).toNatClampNeg (u 611 5)) 615 (u 611 4).toNatClampNeg (-1 : Int32)) 611 4 ((u 611 4) + (1 : Int32))) w r))))) :
    xCall g (d + 1) mX4_tell [.ref 611, .int i1, .int i2] 698 u w r 698 P :=
  xCall.of plX4 (Nat.le_of_ble_eq_true rfl) rfl (TX4_tell_0 hr k)

/-! Lore.forget -/

theorem TX4_forget_0 {g : xGT} {d : Nat} {i1 : Int32} {u : xU} {w : xW} {r : xQ} {P : xPost} (hr : xRf r)
    (k : xCall g d mX11_isOneOf [.int i1, .int (u 611 4)] 698 u w r 698 (fun rv1 u1 w1 r1 => ∃ v1 : Int32, rv1 = some (.int v1) ∧ u = u1 ∧ w = w1 ∧ r = r1 ∧ (¬ (v1 = 0) → vp_in i1 30) ∧ (((v1 = 0 ∨ ¬ ((u 615 i1.toNatClampNeg) = (-1 : Int32))) → P (some (.int (0 : Int32))) u w r) ∧ (¬ (v1 = 0 ∨ ¬ ((u 615 i1.toNatClampNeg) = (-1 : Int32))) → vp_in i1 30 ∧ (P (some (.int (1 : Int32))) (x2 u 615 i1.toNatClampNeg (u 611 5)) w r))))) :
    xEv g (d + 1) mX4_forget 0 [some (.ref 611), some (.int i1)] [] 698 u w r 698 P := by
  refine xe_iload_n dX4_forget_0 rfl ?_
  refine xe_aload_n dX4_forget_1 rfl ?_
  refine xe_getI dX4_forget_2 flX4_25 kk611 (xKK_lt kk611) rfl ?_
  refine xe_callSN (args := [.int i1, .int (u 611 4)]) dX4_forget_5 snX4_29 rfl rfl (Nat.le_of_ble_eq_true rfl) k (Nat.le_refl _) (fun rv1 u1 w1 r1 k => ?_)
  obtain ⟨v1, rfl, rfl, rfl, rfl, k⟩ := k
  obtain ⟨b4, k⟩ := k
  have K8 : (v1 = 0 ∨ ¬ ((u 615 i1.toNatClampNeg) = (-1 : Int32))) → xEv g (d + 1) mX4_forget 21 [some (.ref 611), some (.int i1)] [] 698 u w r 698 P := fun c9 => by
    have k := k.1 c9
    refine xe_iconst (v := 0) dX4_forget_21 rfl ?_
    exact xe_ireturn dX4_forget_22 (xrokZ (Or.inl rfl)) k
  refine xe_if_eq (tgt := 21) dX4_forget_8 rfl (fun c2 => ?_) (fun c3 => ?_)
  · exact K8 (Or.inl c2)
  · refine xe_aload_n dX4_forget_11 rfl ?_
    refine xe_getR (b := 615) dX4_forget_12 flX4_22 kk611 (xKK_lt kk611) rfl (rf611_3 hr) ?_
    refine xe_iload_n dX4_forget_15 rfl ?_
    refine xe_iald dX4_forget_16 kk615 (xKK_lt kk615) (b4 c3) ?_
    refine xe_iconst (v := -1) dX4_forget_17 rfl ?_
    refine xe_icmp_eq (tgt := 23) dX4_forget_18 rfl (fun c5 => ?_) (fun c6 => ?_)
    · have k := k.2 (fun q => (q.elim (fun z => (c3 z)) (fun z => (z c5))))
      refine xe_aload_n dX4_forget_23 rfl ?_
      refine xe_getR (b := 615) dX4_forget_24 flX4_22 kk611 (xKK_lt kk611) rfl (rf611_3 hr) ?_
      refine xe_iload_n dX4_forget_27 rfl ?_
      refine xe_aload_n dX4_forget_28 rfl ?_
      refine xe_getI dX4_forget_29 flX4_33 kk611 (xKK_lt kk611) rfl ?_
      obtain ⟨b7, k⟩ := k
      refine xe_iast dX4_forget_32 kk615 (xKK_lt kk615) b7 ?_
      refine xe_iconst (v := 1) dX4_forget_33 rfl ?_
      exact xe_ireturn dX4_forget_34 (xrokZ (Or.inr rfl)) k
    · exact K8 (Or.inr c6)

theorem CX4_forget {g : xGT} {d : Nat} {i1 : Int32} {u : xU} {w : xW} {r : xQ} {P : xPost} (hr : xRf r)
    (k : xCall g d mX11_isOneOf [.int i1, .int (u 611 4)] 698 u w r 698 (fun rv1 u1 w1 r1 => ∃ v1 : Int32, rv1 = some (.int v1) ∧ u = u1 ∧ w = w1 ∧ r = r1 ∧ (¬ (v1 = 0) → vp_in i1 30) ∧ (((v1 = 0 ∨ ¬ ((u 615 i1.toNatClampNeg) = (-1 : Int32))) → P (some (.int (0 : Int32))) u w r) ∧ (¬ (v1 = 0 ∨ ¬ ((u 615 i1.toNatClampNeg) = (-1 : Int32))) → vp_in i1 30 ∧ (P (some (.int (1 : Int32))) (x2 u 615 i1.toNatClampNeg (u 611 5)) w r))))) :
    xCall g (d + 1) mX4_forget [.ref 611, .int i1] 698 u w r 698 P :=
  xCall.of plX4 (Nat.le_of_ble_eq_true rfl) rfl (TX4_forget_0 hr k)

/-! Lore.biersThat -/

theorem TX4_biersThat_0 {g : xGT} {d : Nat} {i1 i2 : Int32} {u : xU} {w : xW} {r : xQ} {P : xPost}
    (k : xEv g d mX4_biersThat 5 [some (.ref 611), some (.int i1), some (.int i2), some (.int (0 : Int32)), some (.int (0 : Int32)), none] [] 698 u w r 698 P) :
    xEv g d mX4_biersThat 0 [some (.ref 611), some (.int i1), some (.int i2), none, none, none] [] 698 u w r 698 P := by
  refine xe_iconst (v := 0) dX4_biersThat_0 rfl ?_
  refine xe_istore_n (ls' := [some (.ref 611), some (.int i1), some (.int i2), some (.int (0 : Int32)), none, none]) dX4_biersThat_1 rfl (by decide) rfl ?_
  refine xe_iconst (v := 0) dX4_biersThat_2 rfl ?_
  refine xe_istore (ls' := [some (.ref 611), some (.int i1), some (.int i2), some (.int (0 : Int32)), some (.int (0 : Int32)), none]) dX4_biersThat_3 (by decide) rfl ?_
  exact k

theorem CX4_biersThat {g : xGT} {d : Nat} {i1 i2 : Int32} {u : xU} {w : xW} {r : xQ} {P : xPost}
    (k : xEv g d mX4_biersThat 5 [some (.ref 611), some (.int i1), some (.int i2), some (.int (0 : Int32)), some (.int (0 : Int32)), none] [] 698 u w r 698 P) :
    xCall g d mX4_biersThat [.ref 611, .int i1, .int i2] 698 u w r 698 P :=
  xCall.of plX4 (Nat.le_of_ble_eq_true rfl) rfl (TX4_biersThat_0  k)

set_option maxRecDepth 20000 in
theorem TX4_biersThat_5 {g : xGT} {d : Nat} {i1 i2 i3 i4 : Int32} {u : xU} {w : xW} {r : xQ} {P : xPost} (hr : xRf r)
    (k : ((u 611 4) ≤ i4 → P (some (.int i3)) u w r) ∧ (¬ ((u 611 4) ≤ i4) → vp_in i4 30 ∧ ((((u 613 i4.toNatClampNeg) = i1 ∧ (¬ (i2 < (u 614 i4.toNatClampNeg)) ∧ (xb (¬ ((u 615 i4.toNatClampNeg) = (-1 : Int32)) ∧ ¬ (i2 < (u 615 i4.toNatClampNeg)))) = 0)) → xEv g d mX4_biersThat 82 [some (.ref 611), some (.int i1), some (.int i2), some (.int (i3 ||| ((1 : Int32) <<< ((u 612 i4.toNatClampNeg) &&& 31)))), some (.int i4), none] [] 698 u w r 698 P) ∧ (¬ ((u 613 i4.toNatClampNeg) = i1 ∧ (¬ (i2 < (u 614 i4.toNatClampNeg)) ∧ (xb (¬ ((u 615 i4.toNatClampNeg) = (-1 : Int32)) ∧ ¬ (i2 < (u 615 i4.toNatClampNeg)))) = 0)) → xEv g d mX4_biersThat 82 [some (.ref 611), some (.int i1), some (.int i2), some (.int i3), some (.int i4), none] [] 698 u w r 698 P)))) :
    xEv g d mX4_biersThat 5 [some (.ref 611), some (.int i1), some (.int i2), some (.int i3), some (.int i4), none] [] 698 u w r 698 P := by
  refine xe_iload dX4_biersThat_5 rfl ?_
  refine xe_aload_n dX4_biersThat_7 rfl ?_
  refine xe_getI dX4_biersThat_8 flX4_25 kk611 (xKK_lt kk611) rfl ?_
  refine xe_icmp_ge (tgt := 88) dX4_biersThat_11 rfl (fun c1 => ?_) (fun c2 => ?_)
  · have k := k.1 c1
    refine xe_iload_n dX4_biersThat_88 rfl ?_
    exact xe_ireturn dX4_biersThat_89 rfl k
  · have k := k.2 (fun q => (c2 q))
    refine xe_aload_n dX4_biersThat_14 rfl ?_
    refine xe_getR (b := 615) dX4_biersThat_15 flX4_22 kk611 (xKK_lt kk611) rfl (rf611_3 hr) ?_
    refine xe_iload dX4_biersThat_18 rfl ?_
    obtain ⟨b3, k⟩ := k
    refine xe_iald dX4_biersThat_20 kk615 (xKK_lt kk615) b3 ?_
    refine xe_iconst (v := -1) dX4_biersThat_21 rfl ?_
    have K16 : xEv g d mX4_biersThat 41 [some (.ref 611), some (.int i1), some (.int i2), some (.int i3), some (.int i4), none] [.int (xb (¬ ((u 615 i4.toNatClampNeg) = (-1 : Int32)) ∧ ¬ (i2 < (u 615 i4.toNatClampNeg))))] 698 u w r 698 P := by
      refine xe_istore (ls' := [some (.ref 611), some (.int i1), some (.int i2), some (.int i3), some (.int i4), some (.int (xb (¬ ((u 615 i4.toNatClampNeg) = (-1 : Int32)) ∧ ¬ (i2 < (u 615 i4.toNatClampNeg)))))]) dX4_biersThat_41 (by decide) rfl ?_
      refine xe_aload_n dX4_biersThat_43 rfl ?_
      refine xe_getR (b := 613) dX4_biersThat_44 flX4_15 kk611 (xKK_lt kk611) rfl (rf611_1 hr) ?_
      refine xe_iload dX4_biersThat_47 rfl ?_
      refine xe_zald dX4_biersThat_49 kk613 (xKK_lt kk613) b3 ?_
      refine xe_iload_n dX4_biersThat_50 rfl ?_
      have K14 : ¬ ((u 613 i4.toNatClampNeg) = i1 ∧ (¬ (i2 < (u 614 i4.toNatClampNeg)) ∧ (xb (¬ ((u 615 i4.toNatClampNeg) = (-1 : Int32)) ∧ ¬ (i2 < (u 615 i4.toNatClampNeg)))) = 0)) → xEv g d mX4_biersThat 82 [some (.ref 611), some (.int i1), some (.int i2), some (.int i3), some (.int i4), some (.int (xb (¬ ((u 615 i4.toNatClampNeg) = (-1 : Int32)) ∧ ¬ (i2 < (u 615 i4.toNatClampNeg)))))] [] 698 u w r 698 P := fun c15 => by
        have k := k.2 c15
        exact xEv.fewer (ls' := [some (.ref 611), some (.int i1), some (.int i2), some (.int i3), some (.int i4), none]) k (xfw_get (xfw_s (xfw_s (xfw_s (xfw_s (xfw_s (xfw_n (xfw_nil _))))))))
      refine xe_icmp_ne (tgt := 82) dX4_biersThat_51 rfl (fun c8 => ?_) (fun c9 => ?_)
      · exact K14 (fun q => (c8 q.1))
      · refine xe_aload_n dX4_biersThat_54 rfl ?_
        refine xe_getR (b := 614) dX4_biersThat_55 flX4_19 kk611 (xKK_lt kk611) rfl (rf611_2 hr) ?_
        refine xe_iload dX4_biersThat_58 rfl ?_
        refine xe_iald dX4_biersThat_60 kk614 (xKK_lt kk614) b3 ?_
        refine xe_iload_n dX4_biersThat_61 rfl ?_
        refine xe_icmp_gt (tgt := 82) dX4_biersThat_62 rfl (fun c10 => ?_) (fun c11 => ?_)
        · exact K14 (fun q => (q.2.1 c10))
        · refine xe_iload dX4_biersThat_65 rfl ?_
          refine xe_if_ne (tgt := 82) dX4_biersThat_67 rfl (fun c12 => ?_) (fun c13 => ?_)
          · exact K14 (fun q => (c12 q.2.2))
          · have k := k.1 ⟨c9, ⟨c11, c13⟩⟩
            refine xe_iload_n dX4_biersThat_70 rfl ?_
            refine xe_iconst (v := 1) dX4_biersThat_71 rfl ?_
            refine xe_aload_n dX4_biersThat_72 rfl ?_
            refine xe_getR (b := 612) dX4_biersThat_73 flX4_9 kk611 (xKK_lt kk611) rfl (rf611_0 hr) ?_
            refine xe_iload dX4_biersThat_76 rfl ?_
            refine xe_iald dX4_biersThat_78 kk612 (xKK_lt kk612) b3 ?_
            refine xe_ishl dX4_biersThat_79 ?_
            refine xe_ior dX4_biersThat_80 ?_
            refine xe_istore_n (ls' := [some (.ref 611), some (.int i1), some (.int i2), some (.int (i3 ||| ((1 : Int32) <<< ((u 612 i4.toNatClampNeg) &&& 31)))), some (.int i4), some (.int (xb (¬ ((u 615 i4.toNatClampNeg) = (-1 : Int32)) ∧ ¬ (i2 < (u 615 i4.toNatClampNeg)))))]) dX4_biersThat_81 rfl (by decide) rfl ?_
            exact xEv.fewer (ls' := [some (.ref 611), some (.int i1), some (.int i2), some (.int (i3 ||| ((1 : Int32) <<< ((u 612 i4.toNatClampNeg) &&& 31)))), some (.int i4), none]) k (xfw_get (xfw_s (xfw_s (xfw_s (xfw_s (xfw_s (xfw_n (xfw_nil _))))))))
    refine xe_icmp_eq (tgt := 40) dX4_biersThat_22 rfl (fun c4 => ?_) (fun c5 => ?_)
    · refine xe_iconst (v := 0) dX4_biersThat_40 rfl ?_
      exact xtop (xb_neg (show ¬ (¬ ((u 615 i4.toNatClampNeg) = (-1 : Int32)) ∧ ¬ (i2 < (u 615 i4.toNatClampNeg))) from (fun q => (q.1 c4)))) K16
    · refine xe_aload_n dX4_biersThat_25 rfl ?_
      refine xe_getR (b := 615) dX4_biersThat_26 flX4_22 kk611 (xKK_lt kk611) rfl (rf611_3 hr) ?_
      refine xe_iload dX4_biersThat_29 rfl ?_
      refine xe_iald dX4_biersThat_31 kk615 (xKK_lt kk615) b3 ?_
      refine xe_iload_n dX4_biersThat_32 rfl ?_
      refine xe_icmp_gt (tgt := 40) dX4_biersThat_33 rfl (fun c6 => ?_) (fun c7 => ?_)
      · refine xe_iconst (v := 0) dX4_biersThat_40 rfl ?_
        exact xtop (xb_neg (show ¬ (¬ ((u 615 i4.toNatClampNeg) = (-1 : Int32)) ∧ ¬ (i2 < (u 615 i4.toNatClampNeg))) from (fun q => (q.2 c6)))) K16
      · refine xe_iconst (v := 1) dX4_biersThat_36 rfl ?_
        refine xe_goto (tgt := 41) dX4_biersThat_37 rfl ?_
        exact xtop (xb_pos (show (¬ ((u 615 i4.toNatClampNeg) = (-1 : Int32)) ∧ ¬ (i2 < (u 615 i4.toNatClampNeg))) from ⟨c5, c7⟩)) K16

theorem TX4_biersThat_82 {g : xGT} {d : Nat} {i1 i2 i3 i4 : Int32} {u : xU} {w : xW} {r : xQ} {P : xPost}
    (k : xEv g d mX4_biersThat 5 [some (.ref 611), some (.int i1), some (.int i2), some (.int i3), some (.int (i4 + (1 : Int32))), none] [] 698 u w r 698 P) :
    xEv g d mX4_biersThat 82 [some (.ref 611), some (.int i1), some (.int i2), some (.int i3), some (.int i4), none] [] 698 u w r 698 P := by
  refine xe_iinc (v := (i4 + (1 : Int32))) (ls' := [some (.ref 611), some (.int i1), some (.int i2), some (.int i3), some (.int (i4 + (1 : Int32))), none]) dX4_biersThat_82 rfl (by decide) rfl rfl ?_
  refine xe_goto (tgt := 5) dX4_biersThat_85 rfl ?_
  exact k

/-! Names.isFull -/

theorem TX5_isFull_0 {g : xGT} {d : Nat} {n m : Nat} {u : xU} {w : xW} {r : xQ} {P : xPost} (h_n : xNm n m) (q_n : xNr n r)
    (k : P (some (.int (xb (¬ ((u n 1) < (Int32.ofNat m)))))) u w r) :
    xEv g d mX5_isFull 0 [some (.ref n)] [] 698 u w r 698 P := by
  refine xe_aload_n dX5_isFull_0 rfl ?_
  refine xe_getI dX5_isFull_1 flX5_21 h_n.k0 (xKK_lt h_n.k0) rfl ?_
  refine xe_aload_n dX5_isFull_4 rfl ?_
  refine xe_getR (b := (n + 1)) dX5_isFull_5 flX5_15 h_n.k0 (xKK_lt h_n.k0) rfl q_n.f0 ?_
  refine xe_alen (v := (Int32.ofNat m)) dX5_isFull_8 h_n.k1 (xKK_lt h_n.k1) (by simp) rfl ?_
  have K3 : xEv g d mX5_isFull 17 [some (.ref n)] [.int (xb (¬ ((u n 1) < (Int32.ofNat m))))] 698 u w r 698 P := by
    exact xe_ireturn dX5_isFull_17 (xrokZ (xb01 _)) k
  refine xe_icmp_lt (tgt := 16) dX5_isFull_9 rfl (fun c1 => ?_) (fun c2 => ?_)
  · refine xe_iconst (v := 0) dX5_isFull_16 rfl ?_
    exact xtop (xb_neg (p := ¬ ((u n 1) < (Int32.ofNat m))) (fun q => q c1)) K3
  · refine xe_iconst (v := 1) dX5_isFull_12 rfl ?_
    refine xe_goto (tgt := 17) dX5_isFull_13 rfl ?_
    exact xtop (xb_pos (show ¬ ((u n 1) < (Int32.ofNat m)) from (fun q => (c2 q)))) K3

theorem CX5_isFull {g : xGT} {d : Nat} {n m : Nat} {u : xU} {w : xW} {r : xQ} {P : xPost} (h_n : xNm n m) (q_n : xNr n r)
    (k : P (some (.int (xb (¬ ((u n 1) < (Int32.ofNat m)))))) u w r) :
    xCall g d mX5_isFull [.ref n] 698 u w r 698 P :=
  xCall.of plX5 (Nat.le_of_ble_eq_true rfl) rfl (TX5_isFull_0 h_n q_n k)

/-! Names.find -/

theorem TX5_find_0 {g : xGT} {d : Nat} {y1 : Int64} {n : Nat} {u : xU} {w : xW} {r : xQ} {P : xPost}
    (k : xEv g d mX5_find 2 [some (.ref n), some (.long y1), none, some (.int (0 : Int32))] [] 698 u w r 698 P) :
    xEv g d mX5_find 0 [some (.ref n), some (.long y1), none, none] [] 698 u w r 698 P := by
  refine xe_iconst (v := 0) dX5_find_0 rfl ?_
  refine xe_istore_n (ls' := [some (.ref n), some (.long y1), none, some (.int (0 : Int32))]) dX5_find_1 rfl (by decide) rfl ?_
  exact k

theorem CX5_find {g : xGT} {d : Nat} {y1 : Int64} {n : Nat} {u : xU} {w : xW} {r : xQ} {P : xPost}
    (k : xEv g d mX5_find 2 [some (.ref n), some (.long y1), none, some (.int (0 : Int32))] [] 698 u w r 698 P) :
    xCall g d mX5_find [.ref n, .long y1] 698 u w r 698 P :=
  xCall.of plX5 (Nat.le_of_ble_eq_true rfl) rfl (TX5_find_0  k)

theorem TX5_find_2 {g : xGT} {d : Nat} {i3 : Int32} {y1 : Int64} {n m : Nat} {u : xU} {w : xW} {r : xQ} {P : xPost} (h_n : xNm n m) (q_n : xNr n r)
    (k : ((u n 1) ≤ i3 → P (some (.int (-1 : Int32))) u w r) ∧ (¬ ((u n 1) ≤ i3) → vp_in i3 m ∧ (((lg_cmp (w (n + 1) i3.toNatClampNeg) y1) = 0 → P (some (.int i3)) u w r) ∧ (¬ ((lg_cmp (w (n + 1) i3.toNatClampNeg) y1) = 0) → xEv g d mX5_find 2 [some (.ref n), some (.long y1), none, some (.int (i3 + (1 : Int32)))] [] 698 u w r 698 P)))) :
    xEv g d mX5_find 2 [some (.ref n), some (.long y1), none, some (.int i3)] [] 698 u w r 698 P := by
  refine xe_iload_n dX5_find_2 rfl ?_
  refine xe_aload_n dX5_find_3 rfl ?_
  refine xe_getI dX5_find_4 flX5_21 h_n.k0 (xKK_lt h_n.k0) rfl ?_
  refine xe_icmp_ge (tgt := 29) dX5_find_7 rfl (fun c1 => ?_) (fun c2 => ?_)
  · have k := k.1 c1
    refine xe_iconst (v := -1) dX5_find_29 rfl ?_
    exact xe_ireturn dX5_find_30 rfl k
  · have k := k.2 (fun q => (c2 q))
    refine xe_aload_n dX5_find_10 rfl ?_
    refine xe_getR (b := (n + 1)) dX5_find_11 flX5_15 h_n.k0 (xKK_lt h_n.k0) rfl q_n.f0 ?_
    refine xe_iload_n dX5_find_14 rfl ?_
    obtain ⟨b3, k⟩ := k
    refine xe_lald dX5_find_15 h_n.k1 (xKK_lt h_n.k1) b3 ?_
    refine xe_lload_n dX5_find_16 rfl ?_
    refine xe_lcmp dX5_find_17 ?_
    refine xe_if_ne (tgt := 23) dX5_find_18 rfl (fun c4 => ?_) (fun c5 => ?_)
    · have k := k.2 (fun q => (c4 q))
      refine xe_iinc (v := (i3 + (1 : Int32))) (ls' := [some (.ref n), some (.long y1), none, some (.int (i3 + (1 : Int32)))]) dX5_find_23 rfl (by decide) rfl rfl ?_
      refine xe_goto (tgt := 2) dX5_find_26 rfl ?_
      exact k
    · have k := k.1 c5
      refine xe_iload_n dX5_find_21 rfl ?_
      exact xe_ireturn dX5_find_22 rfl k

/-! Names.add -/

theorem TX5_add_0 {g : xGT} {d : Nat} {y1 : Int64} {n m : Nat} {u : xU} {w : xW} {r : xQ} {P : xPost} (h_n : xNm n m) (q_n : xNr n r)
    (k : ((¬ ((u n 1) < 0) ∧ ¬ ((Int32.ofNat m) ≤ (u n 1))) → vp_in (u n 1) m ∧ (P none (x2 u n 1 ((u n 1) + (1 : Int32))) (x2 w (n + 1) (u n 1).toNatClampNeg y1) r)) ∧ (¬ (¬ ((u n 1) < 0) ∧ ¬ ((Int32.ofNat m) ≤ (u n 1))) → P none u w r)) :
    xEv g d mX5_add 0 [some (.ref n), some (.long y1), none] [] 698 u w r 698 P := by
  refine xe_aload_n dX5_add_0 rfl ?_
  refine xe_getI dX5_add_1 flX5_21 h_n.k0 (xKK_lt h_n.k0) rfl ?_
  have K6 : ¬ (¬ ((u n 1) < 0) ∧ ¬ ((Int32.ofNat m) ≤ (u n 1))) → xEv g d mX5_add 39 [some (.ref n), some (.long y1), none] [] 698 u w r 698 P := fun c7 => by
    have k := k.2 c7
    exact xe_return dX5_add_39 trivial k
  refine xe_if_lt (tgt := 39) dX5_add_4 rfl (fun c1 => ?_) (fun c2 => ?_)
  · exact K6 (fun q => (q.1 c1))
  · refine xe_aload_n dX5_add_7 rfl ?_
    refine xe_getI dX5_add_8 flX5_21 h_n.k0 (xKK_lt h_n.k0) rfl ?_
    refine xe_aload_n dX5_add_11 rfl ?_
    refine xe_getR (b := (n + 1)) dX5_add_12 flX5_15 h_n.k0 (xKK_lt h_n.k0) rfl q_n.f0 ?_
    refine xe_alen (v := (Int32.ofNat m)) dX5_add_15 h_n.k1 (xKK_lt h_n.k1) (by simp) rfl ?_
    refine xe_icmp_ge (tgt := 39) dX5_add_16 rfl (fun c3 => ?_) (fun c4 => ?_)
    · exact K6 (fun q => (q.2 c3))
    · have k := k.1 ⟨c2, c4⟩
      refine xe_aload_n dX5_add_19 rfl ?_
      refine xe_getR (b := (n + 1)) dX5_add_20 flX5_15 h_n.k0 (xKK_lt h_n.k0) rfl q_n.f0 ?_
      refine xe_aload_n dX5_add_23 rfl ?_
      refine xe_getI dX5_add_24 flX5_21 h_n.k0 (xKK_lt h_n.k0) rfl ?_
      refine xe_lload_n dX5_add_27 rfl ?_
      obtain ⟨b5, k⟩ := k
      refine xe_last dX5_add_28 h_n.k1 (xKK_lt h_n.k1) b5 ?_
      refine xe_aload_n dX5_add_29 rfl ?_
      refine xe_dup dX5_add_30 rfl ?_
      refine xe_getI dX5_add_31 flX5_21 h_n.k0 (xKK_lt h_n.k0) rfl ?_
      refine xe_iconst (v := 1) dX5_add_34 rfl ?_
      refine xe_iadd dX5_add_35 ?_
      refine xe_putI dX5_add_36 flX5_21 h_n.k0 (xKK_lt h_n.k0) nf5_1 rfl ?_
      exact xe_return dX5_add_39 trivial k

theorem CX5_add {g : xGT} {d : Nat} {y1 : Int64} {n m : Nat} {u : xU} {w : xW} {r : xQ} {P : xPost} (h_n : xNm n m) (q_n : xNr n r)
    (k : ((¬ ((u n 1) < 0) ∧ ¬ ((Int32.ofNat m) ≤ (u n 1))) → vp_in (u n 1) m ∧ (P none (x2 u n 1 ((u n 1) + (1 : Int32))) (x2 w (n + 1) (u n 1).toNatClampNeg y1) r)) ∧ (¬ (¬ ((u n 1) < 0) ∧ ¬ ((Int32.ofNat m) ≤ (u n 1))) → P none u w r)) :
    xCall g d mX5_add [.ref n, .long y1] 698 u w r 698 P :=
  xCall.of plX5 (Nat.le_of_ble_eq_true rfl) rfl (TX5_add_0 h_n q_n k)

/-! Past.begin -/

theorem TX6_begin_0 {g : xGT} {d : Nat} {s : Nat} {u : xU} {w : xW} {r : xQ} {P : xPost} (hr : xRf r)
    (k : xCall g d mX9_copyFrom [.ref (119 + 12 * 0), .ref s] 698 (x2 (x2 (x2 u 117 1 (0 : Int32)) 117 2 (0 : Int32)) 117 3 (0 : Int32)) w r 698 (fun rv1 u1 w1 r1 => rv1 = none ∧ w = w1 ∧ r = r1 ∧ P none u1 w r)) :
    xEv g (d + 1) mX6_begin 0 [some (.ref 117), some (.ref s)] [] 698 u w r 698 P := by
  refine xe_aload_n dX6_begin_0 rfl ?_
  refine xe_iconst (v := 0) dX6_begin_1 rfl ?_
  refine xe_putI dX6_begin_2 flX6_18 kk117 (xKK_lt kk117) nf6_1 rfl ?_
  refine xe_aload_n dX6_begin_5 rfl ?_
  refine xe_iconst (v := 0) dX6_begin_6 rfl ?_
  refine xe_putI dX6_begin_7 flX6_22 kk117 (xKK_lt kk117) nf6_2 rfl ?_
  refine xe_aload_n dX6_begin_10 rfl ?_
  refine xe_iconst (v := 0) dX6_begin_11 rfl ?_
  refine xe_putI dX6_begin_12 flX6_25 kk117 (xKK_lt kk117) nf6_3 rfl ?_
  refine xe_aload_n dX6_begin_15 rfl ?_
  refine xe_getR (b := 118) dX6_begin_16 flX6_13 kk117 (xKK_lt kk117) rfl (rf117_0 hr) ?_
  refine xe_iconst (v := 0) dX6_begin_19 rfl ?_
  refine xe_aald dX6_begin_20 kk118 (xKK_lt kk118) (by simp) (show ¬ ((0 : Int32) < 0 ∨ 41 ≤ (0 : Int32).toNatClampNeg) from by decide) (rr118 hr (show ¬ ((0 : Int32) < 0 ∨ 41 ≤ (0 : Int32).toNatClampNeg) from by decide)) ?_
  refine xe_aload_n dX6_begin_21 rfl ?_
  refine xe_callV (args := [.ref s]) dX6_begin_22 vlX6_28 rfl rfl (Nat.le_of_ble_eq_true rfl) (ss118 (show ¬ ((0 : Int32) < 0 ∨ 41 ≤ (0 : Int32).toNatClampNeg) from by decide)).k0 (xKK_lt (ss118 (show ¬ ((0 : Int32) < 0 ∨ 41 ≤ (0 : Int32).toNatClampNeg) from by decide)).k0) rfl rfl k (Nat.le_refl _) (fun rv1 u1 w1 r1 k => ?_)
  obtain ⟨rfl, rfl, rfl, k⟩ := k
  exact xe_return dX6_begin_25 trivial k

theorem CX6_begin {g : xGT} {d : Nat} {s : Nat} {u : xU} {w : xW} {r : xQ} {P : xPost} (hr : xRf r)
    (k : xCall g d mX9_copyFrom [.ref (119 + 12 * 0), .ref s] 698 (x2 (x2 (x2 u 117 1 (0 : Int32)) 117 2 (0 : Int32)) 117 3 (0 : Int32)) w r 698 (fun rv1 u1 w1 r1 => rv1 = none ∧ w = w1 ∧ r = r1 ∧ P none u1 w r)) :
    xCall g (d + 1) mX6_begin [.ref 117, .ref s] 698 u w r 698 P :=
  xCall.of plX6 (Nat.le_of_ble_eq_true rfl) rfl (TX6_begin_0 hr k)

/-! Past.keep -/

theorem TX6_keep_0 {g : xGT} {d : Nat} {s : Nat} {u : xU} {w : xW} {r : xQ} {P : xPost}
    (k : ((((u 117 2) + (1 : Int32)) - (u 117 1)) ≤ (40 : Int32) → xEv g (d + 1) mX6_keep 42 [some (.ref 117), some (.ref s)] [] 698 (x2 (x2 u 117 2 ((u 117 2) + (1 : Int32))) 117 3 ((u 117 2) + (1 : Int32))) w r 698 P) ∧ (¬ ((((u 117 2) + (1 : Int32)) - (u 117 1)) ≤ (40 : Int32)) → xEv g (d + 1) mX6_keep 42 [some (.ref 117), some (.ref s)] [] 698 (x2 (x2 (x2 u 117 2 ((u 117 2) + (1 : Int32))) 117 3 ((u 117 2) + (1 : Int32))) 117 1 ((u 117 1) + (1 : Int32))) w r 698 P)) :
    xEv g (d + 1) mX6_keep 0 [some (.ref 117), some (.ref s)] [] 698 u w r 698 P := by
  refine xe_aload_n dX6_keep_0 rfl ?_
  refine xe_dup dX6_keep_1 rfl ?_
  refine xe_getI dX6_keep_2 flX6_22 kk117 (xKK_lt kk117) rfl ?_
  refine xe_iconst (v := 1) dX6_keep_5 rfl ?_
  refine xe_iadd dX6_keep_6 ?_
  refine xe_putI dX6_keep_7 flX6_22 kk117 (xKK_lt kk117) nf6_2 rfl ?_
  refine xe_aload_n dX6_keep_10 rfl ?_
  refine xe_aload_n dX6_keep_11 rfl ?_
  refine xe_getI dX6_keep_12 flX6_22 kk117 (xKK_lt kk117) rfl ?_
  refine xe_putI dX6_keep_15 flX6_25 kk117 (xKK_lt kk117) nf6_3 rfl ?_
  refine xe_aload_n dX6_keep_18 rfl ?_
  refine xe_getI dX6_keep_19 flX6_25 kk117 (xKK_lt kk117) rfl ?_
  refine xe_aload_n dX6_keep_22 rfl ?_
  refine xe_getI dX6_keep_23 flX6_18 kk117 (xKK_lt kk117) rfl ?_
  refine xe_isub dX6_keep_26 ?_
  refine xe_bipush (v := 40) dX6_keep_27 rfl ?_
  refine xe_icmp_le (tgt := 42) dX6_keep_29 rfl (fun c1 => ?_) (fun c2 => ?_)
  · have k := k.1 c1
    exact k
  · have k := k.2 (fun q => (c2 q))
    refine xe_aload_n dX6_keep_32 rfl ?_
    refine xe_dup dX6_keep_33 rfl ?_
    refine xe_getI dX6_keep_34 flX6_18 kk117 (xKK_lt kk117) rfl ?_
    refine xe_iconst (v := 1) dX6_keep_37 rfl ?_
    refine xe_iadd dX6_keep_38 ?_
    refine xe_putI dX6_keep_39 flX6_18 kk117 (xKK_lt kk117) nf6_1 rfl ?_
    exact k

theorem CX6_keep {g : xGT} {d : Nat} {s : Nat} {u : xU} {w : xW} {r : xQ} {P : xPost}
    (k : ((((u 117 2) + (1 : Int32)) - (u 117 1)) ≤ (40 : Int32) → xEv g (d + 1) mX6_keep 42 [some (.ref 117), some (.ref s)] [] 698 (x2 (x2 u 117 2 ((u 117 2) + (1 : Int32))) 117 3 ((u 117 2) + (1 : Int32))) w r 698 P) ∧ (¬ ((((u 117 2) + (1 : Int32)) - (u 117 1)) ≤ (40 : Int32)) → xEv g (d + 1) mX6_keep 42 [some (.ref 117), some (.ref s)] [] 698 (x2 (x2 (x2 u 117 2 ((u 117 2) + (1 : Int32))) 117 3 ((u 117 2) + (1 : Int32))) 117 1 ((u 117 1) + (1 : Int32))) w r 698 P)) :
    xCall g (d + 1) mX6_keep [.ref 117, .ref s] 698 u w r 698 P :=
  xCall.of plX6 (Nat.le_of_ble_eq_true rfl) rfl (TX6_keep_0  k)

theorem TX6_keep_42 {g : xGT} {d : Nat} {s : Nat} {u : xU} {w : xW} {r : xQ} {P : xPost}
    (k : xCall g d mX6_slot [.ref 117, .int (u 117 2)] 698 u w r 698 (fun rv3 u3 w3 r3 => ∃ s3 : Nat, rv3 = some (.ref s3) ∧ u = u3 ∧ w = w3 ∧ r = r3 ∧ (xSt s3 ∧ xSr s3 r) ∧ xCall g d mX9_copyFrom [.ref s3, .ref s] 698 u w r 698 (fun rv4 u4 w4 r4 => rv4 = none ∧ w = w4 ∧ r = r4 ∧ P none u4 w r))) :
    xEv g (d + 1) mX6_keep 42 [some (.ref 117), some (.ref s)] [] 698 u w r 698 P := by
  refine xe_aload_n dX6_keep_42 rfl ?_
  refine xe_aload_n dX6_keep_43 rfl ?_
  refine xe_getI dX6_keep_44 flX6_22 kk117 (xKK_lt kk117) rfl ?_
  refine xe_callV (args := [.int (u 117 2)]) dX6_keep_47 vlX6_32 rfl rfl (Nat.le_of_ble_eq_true rfl) kk117 (xKK_lt kk117) rfl rfl k (Nat.le_refl _) (fun rv3 u3 w3 r3 k => ?_)
  obtain ⟨s3, rfl, rfl, rfl, rfl, ⟨h3, q3⟩, k⟩ := k
  refine xe_aload_n dX6_keep_50 rfl ?_
  refine xe_callV (args := [.ref s]) dX6_keep_51 vlX6_28 rfl rfl (Nat.le_of_ble_eq_true rfl) h3.k0 (xKK_lt h3.k0) rfl rfl k (Nat.le_refl _) (fun rv4 u4 w4 r4 k => ?_)
  obtain ⟨rfl, rfl, rfl, k⟩ := k
  exact xe_return dX6_keep_54 trivial k

/-! Past.undoable -/

theorem TX6_undoable_0 {g : xGT} {d : Nat} {u : xU} {w : xW} {r : xQ} {P : xPost}
    (k : P (some (.int ((u 117 2) - (u 117 1)))) u w r) :
    xEv g d mX6_undoable 0 [some (.ref 117)] [] 698 u w r 698 P := by
  refine xe_aload_n dX6_undoable_0 rfl ?_
  refine xe_getI dX6_undoable_1 flX6_22 kk117 (xKK_lt kk117) rfl ?_
  refine xe_aload_n dX6_undoable_4 rfl ?_
  refine xe_getI dX6_undoable_5 flX6_18 kk117 (xKK_lt kk117) rfl ?_
  refine xe_isub dX6_undoable_8 ?_
  exact xe_ireturn dX6_undoable_9 rfl k

theorem CX6_undoable {g : xGT} {d : Nat} {u : xU} {w : xW} {r : xQ} {P : xPost}
    (k : P (some (.int ((u 117 2) - (u 117 1)))) u w r) :
    xCall g d mX6_undoable [.ref 117] 698 u w r 698 P :=
  xCall.of plX6 (Nat.le_of_ble_eq_true rfl) rfl (TX6_undoable_0  k)

/-! Past.redoable -/

theorem TX6_redoable_0 {g : xGT} {d : Nat} {u : xU} {w : xW} {r : xQ} {P : xPost}
    (k : P (some (.int ((u 117 3) - (u 117 2)))) u w r) :
    xEv g d mX6_redoable 0 [some (.ref 117)] [] 698 u w r 698 P := by
  refine xe_aload_n dX6_redoable_0 rfl ?_
  refine xe_getI dX6_redoable_1 flX6_25 kk117 (xKK_lt kk117) rfl ?_
  refine xe_aload_n dX6_redoable_4 rfl ?_
  refine xe_getI dX6_redoable_5 flX6_22 kk117 (xKK_lt kk117) rfl ?_
  refine xe_isub dX6_redoable_8 ?_
  exact xe_ireturn dX6_redoable_9 rfl k

theorem CX6_redoable {g : xGT} {d : Nat} {u : xU} {w : xW} {r : xQ} {P : xPost}
    (k : P (some (.int ((u 117 3) - (u 117 2)))) u w r) :
    xCall g d mX6_redoable [.ref 117] 698 u w r 698 P :=
  xCall.of plX6 (Nat.le_of_ble_eq_true rfl) rfl (TX6_redoable_0  k)

/-! Past.stepBack -/

theorem TX6_stepBack_0 {g : xGT} {d : Nat} {u : xU} {w : xW} {r : xQ} {P : xPost}
    (k : xCall g d mX6_slot [.ref 117, .int ((u 117 2) - (1 : Int32))] 698 (x2 u 117 2 ((u 117 2) - (1 : Int32))) w r 698 (fun rv1 u1 w1 r1 => ∃ s1 : Nat, rv1 = some (.ref s1) ∧ (x2 u 117 2 ((u 117 2) - (1 : Int32))) = u1 ∧ w = w1 ∧ r = r1 ∧ (xSt s1 ∧ xSr s1 r) ∧ P (some (.ref s1)) (x2 u 117 2 ((u 117 2) - (1 : Int32))) w r)) :
    xEv g (d + 1) mX6_stepBack 0 [some (.ref 117)] [] 698 u w r 698 P := by
  refine xe_aload_n dX6_stepBack_0 rfl ?_
  refine xe_dup dX6_stepBack_1 rfl ?_
  refine xe_getI dX6_stepBack_2 flX6_22 kk117 (xKK_lt kk117) rfl ?_
  refine xe_iconst (v := 1) dX6_stepBack_5 rfl ?_
  refine xe_isub dX6_stepBack_6 ?_
  refine xe_putI dX6_stepBack_7 flX6_22 kk117 (xKK_lt kk117) nf6_2 rfl ?_
  refine xe_aload_n dX6_stepBack_10 rfl ?_
  refine xe_aload_n dX6_stepBack_11 rfl ?_
  refine xe_getI dX6_stepBack_12 flX6_22 kk117 (xKK_lt kk117) rfl ?_
  refine xe_callV (args := [.int ((u 117 2) - (1 : Int32))]) dX6_stepBack_15 vlX6_32 rfl rfl (Nat.le_of_ble_eq_true rfl) kk117 (xKK_lt kk117) rfl rfl k (Nat.le_refl _) (fun rv1 u1 w1 r1 k => ?_)
  obtain ⟨s1, rfl, rfl, rfl, rfl, ⟨h1, q1⟩, k⟩ := k
  exact xe_areturn dX6_stepBack_18 trivial k

theorem CX6_stepBack {g : xGT} {d : Nat} {u : xU} {w : xW} {r : xQ} {P : xPost}
    (k : xCall g d mX6_slot [.ref 117, .int ((u 117 2) - (1 : Int32))] 698 (x2 u 117 2 ((u 117 2) - (1 : Int32))) w r 698 (fun rv1 u1 w1 r1 => ∃ s1 : Nat, rv1 = some (.ref s1) ∧ (x2 u 117 2 ((u 117 2) - (1 : Int32))) = u1 ∧ w = w1 ∧ r = r1 ∧ (xSt s1 ∧ xSr s1 r) ∧ P (some (.ref s1)) (x2 u 117 2 ((u 117 2) - (1 : Int32))) w r)) :
    xCall g (d + 1) mX6_stepBack [.ref 117] 698 u w r 698 P :=
  xCall.of plX6 (Nat.le_of_ble_eq_true rfl) rfl (TX6_stepBack_0  k)

/-! Past.stepOn -/

theorem TX6_stepOn_0 {g : xGT} {d : Nat} {u : xU} {w : xW} {r : xQ} {P : xPost}
    (k : xCall g d mX6_slot [.ref 117, .int ((u 117 2) + (1 : Int32))] 698 (x2 u 117 2 ((u 117 2) + (1 : Int32))) w r 698 (fun rv1 u1 w1 r1 => ∃ s1 : Nat, rv1 = some (.ref s1) ∧ (x2 u 117 2 ((u 117 2) + (1 : Int32))) = u1 ∧ w = w1 ∧ r = r1 ∧ (xSt s1 ∧ xSr s1 r) ∧ P (some (.ref s1)) (x2 u 117 2 ((u 117 2) + (1 : Int32))) w r)) :
    xEv g (d + 1) mX6_stepOn 0 [some (.ref 117)] [] 698 u w r 698 P := by
  refine xe_aload_n dX6_stepOn_0 rfl ?_
  refine xe_dup dX6_stepOn_1 rfl ?_
  refine xe_getI dX6_stepOn_2 flX6_22 kk117 (xKK_lt kk117) rfl ?_
  refine xe_iconst (v := 1) dX6_stepOn_5 rfl ?_
  refine xe_iadd dX6_stepOn_6 ?_
  refine xe_putI dX6_stepOn_7 flX6_22 kk117 (xKK_lt kk117) nf6_2 rfl ?_
  refine xe_aload_n dX6_stepOn_10 rfl ?_
  refine xe_aload_n dX6_stepOn_11 rfl ?_
  refine xe_getI dX6_stepOn_12 flX6_22 kk117 (xKK_lt kk117) rfl ?_
  refine xe_callV (args := [.int ((u 117 2) + (1 : Int32))]) dX6_stepOn_15 vlX6_32 rfl rfl (Nat.le_of_ble_eq_true rfl) kk117 (xKK_lt kk117) rfl rfl k (Nat.le_refl _) (fun rv1 u1 w1 r1 k => ?_)
  obtain ⟨s1, rfl, rfl, rfl, rfl, ⟨h1, q1⟩, k⟩ := k
  exact xe_areturn dX6_stepOn_18 trivial k

theorem CX6_stepOn {g : xGT} {d : Nat} {u : xU} {w : xW} {r : xQ} {P : xPost}
    (k : xCall g d mX6_slot [.ref 117, .int ((u 117 2) + (1 : Int32))] 698 (x2 u 117 2 ((u 117 2) + (1 : Int32))) w r 698 (fun rv1 u1 w1 r1 => ∃ s1 : Nat, rv1 = some (.ref s1) ∧ (x2 u 117 2 ((u 117 2) + (1 : Int32))) = u1 ∧ w = w1 ∧ r = r1 ∧ (xSt s1 ∧ xSr s1 r) ∧ P (some (.ref s1)) (x2 u 117 2 ((u 117 2) + (1 : Int32))) w r)) :
    xCall g (d + 1) mX6_stepOn [.ref 117] 698 u w r 698 P :=
  xCall.of plX6 (Nat.le_of_ble_eq_true rfl) rfl (TX6_stepOn_0  k)

/-! Past.slot -/

theorem TX6_slot_0 {g : xGT} {d : Nat} {i1 : Int32} {u : xU} {w : xW} {r : xQ} {P : xPost} (hr : xRf r)
    (k : xCall g d mJ9_floorMod_7cf53 [.int i1, .int (41 : Int32)] 698 u w r 698 (fun rv1 u1 w1 r1 => ∃ v1 : Int32, rv1 = some (.int v1) ∧ u = u1 ∧ w = w1 ∧ r = r1 ∧ vp_in v1 41 ∧ (P (some (.ref (119 + 12 * v1.toNatClampNeg))) u w r))) :
    xEv g (d + 1) mX6_slot 0 [some (.ref 117), some (.int i1)] [] 698 u w r 698 P := by
  refine xe_aload_n dX6_slot_0 rfl ?_
  refine xe_getR (b := 118) dX6_slot_1 flX6_13 kk117 (xKK_lt kk117) rfl (rf117_0 hr) ?_
  refine xe_iload_n dX6_slot_4 rfl ?_
  refine xe_bipush (v := 41) dX6_slot_5 rfl ?_
  refine xe_callS (args := [.int i1, .int (41 : Int32)]) dX6_slot_7 slX6_36 rfl rfl (Nat.le_of_ble_eq_true rfl) k (Nat.le_refl _) (fun rv1 u1 w1 r1 k => ?_)
  obtain ⟨v1, rfl, rfl, rfl, rfl, k⟩ := k
  obtain ⟨b2, k⟩ := k
  refine xe_aald dX6_slot_10 kk118 (xKK_lt kk118) (by simp) b2 (rr118 hr b2) ?_
  exact xe_areturn dX6_slot_11 trivial k

theorem CX6_slot {g : xGT} {d : Nat} {i1 : Int32} {u : xU} {w : xW} {r : xQ} {P : xPost} (hr : xRf r)
    (k : xCall g d mJ9_floorMod_7cf53 [.int i1, .int (41 : Int32)] 698 u w r 698 (fun rv1 u1 w1 r1 => ∃ v1 : Int32, rv1 = some (.int v1) ∧ u = u1 ∧ w = w1 ∧ r = r1 ∧ vp_in v1 41 ∧ (P (some (.ref (119 + 12 * v1.toNatClampNeg))) u w r))) :
    xCall g (d + 1) mX6_slot [.ref 117, .int i1] 698 u w r 698 P :=
  xCall.of plX6 (Nat.le_of_ble_eq_true rfl) rfl (TX6_slot_0 hr k)

/-! Roads.lay -/

theorem TX8_lay_0 {g : xGT} {d : Nat} {i2 : Int32} {l : Nat} {u : xU} {w : xW} {r : xQ} {P : xPost}
    (k : xEv g (d + 1) mX8_lay 2 [some (.ref 53), some (.ref l), some (.int i2), some (.int (0 : Int32)), none, none] [] 698 u w r 698 P) :
    xEv g (d + 1) mX8_lay 0 [some (.ref 53), some (.ref l), some (.int i2), none, none, none] [] 698 u w r 698 P := by
  refine xe_iconst (v := 0) dX8_lay_0 rfl ?_
  refine xe_istore_n (ls' := [some (.ref 53), some (.ref l), some (.int i2), some (.int (0 : Int32)), none, none]) dX8_lay_1 rfl (by decide) rfl ?_
  exact k

theorem CX8_lay {g : xGT} {d : Nat} {i2 : Int32} {l : Nat} {u : xU} {w : xW} {r : xQ} {P : xPost}
    (k : xEv g (d + 1) mX8_lay 2 [some (.ref 53), some (.ref l), some (.int i2), some (.int (0 : Int32)), none, none] [] 698 u w r 698 P) :
    xCall g (d + 1) mX8_lay [.ref 53, .ref l, .int i2] 698 u w r 698 P :=
  xCall.of plX8 (Nat.le_of_ble_eq_true rfl) rfl (TX8_lay_0  k)

theorem TX8_lay_2 {g : xGT} {d : Nat} {i2 i3 : Int32} {l : Nat} {u : xU} {w : xW} {r : xQ} {P : xPost} (hr : xRf r)
    (k : ((7 : Int32) ≤ i3 → xEv g (d + 1) mX8_lay 71 [some (.ref 53), some (.ref l), some (.int i2), some (.int (0 : Int32)), none, none] [] 698 u w r 698 P) ∧ (¬ ((7 : Int32) ≤ i3) → vp_in i3 7 ∧ (xEv g (d + 1) mX8_lay 18 [some (.ref 53), some (.ref l), some (.int i2), some (.int i3), some (.int (0 : Int32)), none] [] 698 (x2 u 78 i3.toNatClampNeg (0 : Int32)) w r 698 P))) :
    xEv g (d + 1) mX8_lay 2 [some (.ref 53), some (.ref l), some (.int i2), some (.int i3), none, none] [] 698 u w r 698 P := by
  refine xe_iload_n dX8_lay_2 rfl ?_
  refine xe_bipush (v := 7) dX8_lay_3 rfl ?_
  refine xe_icmp_ge (tgt := 69) dX8_lay_5 rfl (fun c1 => ?_) (fun c2 => ?_)
  · have k := k.1 c1
    refine xe_iconst (v := 0) dX8_lay_69 rfl ?_
    refine xe_istore_n (ls' := [some (.ref 53), some (.ref l), some (.int i2), some (.int (0 : Int32)), none, none]) dX8_lay_70 rfl (by decide) rfl ?_
    exact k
  · have k := k.2 (fun q => (c2 q))
    refine xe_aload_n dX8_lay_8 rfl ?_
    refine xe_getR (b := 78) dX8_lay_9 flX8_22 kk53 (xKK_lt kk53) rfl (rf53_3 hr) ?_
    refine xe_iload_n dX8_lay_12 rfl ?_
    refine xe_iconst (v := 0) dX8_lay_13 rfl ?_
    obtain ⟨b3, k⟩ := k
    refine xe_iast dX8_lay_14 kk78 (xKK_lt kk78) b3 ?_
    refine xe_iconst (v := 0) dX8_lay_15 rfl ?_
    refine xe_istore (ls' := [some (.ref 53), some (.ref l), some (.int i2), some (.int i3), some (.int (0 : Int32)), none]) dX8_lay_16 (by decide) rfl ?_
    exact k

set_option maxRecDepth 20000 in
theorem TX8_lay_71 {g : xGT} {d : Nat} {i2 i3 : Int32} {l : Nat} {u : xU} {w : xW} {r : xQ} {P : xPost} (h_l : xLd l) (q_l : xLr l r)
    (k : ((u l 1) ≤ i3 → xCall g d mX8_shorten [.ref 53] 698 u w r 698 (fun rv6 u6 w6 r6 => rv6 = none ∧ w = w6 ∧ r = r6 ∧ xEv g (d + 1) mX8_lay 163 [some (.ref 53), none, none, some (.int (0 : Int32)), none, none] [] 698 u6 w r 698 P)) ∧ (¬ ((u l 1) ≤ i3) → vp_in i3 12 ∧ ((((i2 >>> (i3 &&& 31)) &&& (1 : Int32)) = 0 → xCall g d mX11_isOneOf [.int (u (l + 1) i3.toNatClampNeg), .int (7 : Int32)] 698 u w r 698 (fun rv10 u10 w10 r10 => ∃ v10 : Int32, rv10 = some (.int v10) ∧ u = u10 ∧ w = w10 ∧ r = r10 ∧ (v10 = 0 → xEv g (d + 1) mX8_lay 151 [some (.ref 53), some (.ref l), some (.int i2), some (.int i3), none, none] [] 698 u w r 698 P) ∧ (¬ (v10 = 0) → xCall g d mX11_isOneOf [.int (u (l + 2) i3.toNatClampNeg), .int (7 : Int32)] 698 u w r 698 (fun rv13 u13 w13 r13 => ∃ v13 : Int32, rv13 = some (.int v13) ∧ u = u13 ∧ w = w13 ∧ r = r13 ∧ (v13 = 0 → xEv g (d + 1) mX8_lay 151 [some (.ref 53), some (.ref l), some (.int i2), some (.int i3), none, none] [] 698 u w r 698 P) ∧ (¬ (v13 = 0) → xCall g d mX8_layWay [.ref 53, .int (u (l + 1) i3.toNatClampNeg), .int (u (l + 2) i3.toNatClampNeg), .int (u (l + 3) i3.toNatClampNeg)] 698 u w r 698 (fun rv16 u16 w16 r16 => rv16 = none ∧ w = w16 ∧ r = r16 ∧ xCall g d mX8_layWay [.ref 53, .int (u (l + 2) i3.toNatClampNeg), .int (u (l + 1) i3.toNatClampNeg), .int (u16 (l + 3) i3.toNatClampNeg)] 698 u16 w r 698 (fun rv17 u17 w17 r17 => rv17 = none ∧ w = w17 ∧ r = r17 ∧ xEv g (d + 1) mX8_lay 151 [some (.ref 53), some (.ref l), some (.int i2), some (.int i3), none, none] [] 698 u17 w r 698 P))))))) ∧ (¬ (((i2 >>> (i3 &&& 31)) &&& (1 : Int32)) = 0) → xEv g (d + 1) mX8_lay 151 [some (.ref 53), some (.ref l), some (.int i2), some (.int i3), none, none] [] 698 u w r 698 P)))) :
    xEv g (d + 1) mX8_lay 71 [some (.ref 53), some (.ref l), some (.int i2), some (.int i3), none, none] [] 698 u w r 698 P := by
  refine xe_iload_n dX8_lay_71 rfl ?_
  refine xe_aload_n dX8_lay_72 rfl ?_
  refine xe_getI dX8_lay_73 flX8_26 h_l.k0 (xKK_lt h_l.k0) rfl ?_
  refine xe_icmp_ge (tgt := 157) dX8_lay_76 rfl (fun c4 => ?_) (fun c5 => ?_)
  · have k := k.1 c4
    refine xe_aload_n dX8_lay_157 rfl ?_
    refine xe_callV (args := []) dX8_lay_158 vlX8_49 rfl rfl (Nat.le_of_ble_eq_true rfl) kk53 (xKK_lt kk53) rfl rfl k (Nat.le_refl _) (fun rv6 u6 w6 r6 k => ?_)
    obtain ⟨rfl, rfl, rfl, k⟩ := k
    refine xe_iconst (v := 0) dX8_lay_161 rfl ?_
    refine xe_istore_n (ls' := [some (.ref 53), some (.ref l), some (.int i2), some (.int (0 : Int32)), none, none]) dX8_lay_162 rfl (by decide) rfl ?_
    exact xEv.fewer (ls' := [some (.ref 53), none, none, some (.int (0 : Int32)), none, none]) k (xfw_get (xfw_s (xfw_n (xfw_n (xfw_s (xfw_n (xfw_n (xfw_nil _))))))))
  · have k := k.2 (fun q => (c5 q))
    refine xe_aload_n dX8_lay_79 rfl ?_
    refine xe_getR (b := (l + 1)) dX8_lay_80 flX8_32 h_l.k0 (xKK_lt h_l.k0) rfl q_l.1.f2 ?_
    refine xe_iload_n dX8_lay_83 rfl ?_
    obtain ⟨b7, k⟩ := k
    refine xe_iald dX8_lay_84 h_l.k1 (xKK_lt h_l.k1) b7 ?_
    refine xe_istore (ls' := [some (.ref 53), some (.ref l), some (.int i2), some (.int i3), some (.int (u (l + 1) i3.toNatClampNeg)), none]) dX8_lay_85 (by decide) rfl ?_
    refine xe_aload_n dX8_lay_87 rfl ?_
    refine xe_getR (b := (l + 2)) dX8_lay_88 flX8_35 h_l.k0 (xKK_lt h_l.k0) rfl q_l.1.f3 ?_
    refine xe_iload_n dX8_lay_91 rfl ?_
    refine xe_iald dX8_lay_92 h_l.k2 (xKK_lt h_l.k2) b7 ?_
    refine xe_istore (ls' := [some (.ref 53), some (.ref l), some (.int i2), some (.int i3), some (.int (u (l + 1) i3.toNatClampNeg)), some (.int (u (l + 2) i3.toNatClampNeg))]) dX8_lay_93 (by decide) rfl ?_
    refine xe_iload_n dX8_lay_95 rfl ?_
    refine xe_iload_n dX8_lay_96 rfl ?_
    refine xe_ishr dX8_lay_97 ?_
    refine xe_iconst (v := 1) dX8_lay_98 rfl ?_
    refine xe_iand dX8_lay_99 ?_
    refine xe_if_ne (tgt := 151) dX8_lay_100 rfl (fun c8 => ?_) (fun c9 => ?_)
    · have k := k.2 (fun q => (c8 q))
      exact xEv.fewer (ls' := [some (.ref 53), some (.ref l), some (.int i2), some (.int i3), none, none]) k (xfw_get (xfw_s (xfw_s (xfw_s (xfw_s (xfw_n (xfw_n (xfw_nil _))))))))
    · have k := k.1 c9
      refine xe_iload dX8_lay_103 rfl ?_
      refine xe_bipush (v := 7) dX8_lay_105 rfl ?_
      refine xe_callSN (args := [.int (u (l + 1) i3.toNatClampNeg), .int (7 : Int32)]) dX8_lay_107 snX8_38 rfl rfl (Nat.le_of_ble_eq_true rfl) k (Nat.le_refl _) (fun rv10 u10 w10 r10 k => ?_)
      obtain ⟨v10, rfl, rfl, rfl, rfl, k⟩ := k
      refine xe_if_eq (tgt := 151) dX8_lay_110 rfl (fun c11 => ?_) (fun c12 => ?_)
      · have k := k.1 c11
        exact xEv.fewer (ls' := [some (.ref 53), some (.ref l), some (.int i2), some (.int i3), none, none]) k (xfw_get (xfw_s (xfw_s (xfw_s (xfw_s (xfw_n (xfw_n (xfw_nil _))))))))
      · have k := k.2 (fun q => (c12 q))
        refine xe_iload dX8_lay_113 rfl ?_
        refine xe_bipush (v := 7) dX8_lay_115 rfl ?_
        refine xe_callSN (args := [.int (u (l + 2) i3.toNatClampNeg), .int (7 : Int32)]) dX8_lay_117 snX8_38 rfl rfl (Nat.le_of_ble_eq_true rfl) k (Nat.le_refl _) (fun rv13 u13 w13 r13 k => ?_)
        obtain ⟨v13, rfl, rfl, rfl, rfl, k⟩ := k
        refine xe_if_eq (tgt := 151) dX8_lay_120 rfl (fun c14 => ?_) (fun c15 => ?_)
        · have k := k.1 c14
          exact xEv.fewer (ls' := [some (.ref 53), some (.ref l), some (.int i2), some (.int i3), none, none]) k (xfw_get (xfw_s (xfw_s (xfw_s (xfw_s (xfw_n (xfw_n (xfw_nil _))))))))
        · have k := k.2 (fun q => (c15 q))
          refine xe_aload_n dX8_lay_123 rfl ?_
          refine xe_iload dX8_lay_124 rfl ?_
          refine xe_iload dX8_lay_126 rfl ?_
          refine xe_aload_n dX8_lay_128 rfl ?_
          refine xe_getR (b := (l + 3)) dX8_lay_129 flX8_42 h_l.k0 (xKK_lt h_l.k0) rfl q_l.1.f4 ?_
          refine xe_iload_n dX8_lay_132 rfl ?_
          refine xe_iald dX8_lay_133 h_l.k3 (xKK_lt h_l.k3) b7 ?_
          refine xe_callV (args := [.int (u (l + 1) i3.toNatClampNeg), .int (u (l + 2) i3.toNatClampNeg), .int (u (l + 3) i3.toNatClampNeg)]) dX8_lay_134 vlX8_45 rfl rfl (Nat.le_of_ble_eq_true rfl) kk53 (xKK_lt kk53) rfl rfl k (Nat.le_refl _) (fun rv16 u16 w16 r16 k => ?_)
          obtain ⟨rfl, rfl, rfl, k⟩ := k
          refine xe_aload_n dX8_lay_137 rfl ?_
          refine xe_iload dX8_lay_138 rfl ?_
          refine xe_iload dX8_lay_140 rfl ?_
          refine xe_aload_n dX8_lay_142 rfl ?_
          refine xe_getR (b := (l + 3)) dX8_lay_143 flX8_42 h_l.k0 (xKK_lt h_l.k0) rfl q_l.1.f4 ?_
          refine xe_iload_n dX8_lay_146 rfl ?_
          refine xe_iald dX8_lay_147 h_l.k3 (xKK_lt h_l.k3) b7 ?_
          refine xe_callV (args := [.int (u (l + 2) i3.toNatClampNeg), .int (u (l + 1) i3.toNatClampNeg), .int (u16 (l + 3) i3.toNatClampNeg)]) dX8_lay_148 vlX8_45 rfl rfl (Nat.le_of_ble_eq_true rfl) kk53 (xKK_lt kk53) rfl rfl k (Nat.le_refl _) (fun rv17 u17 w17 r17 k => ?_)
          obtain ⟨rfl, rfl, rfl, k⟩ := k
          exact xEv.fewer (ls' := [some (.ref 53), some (.ref l), some (.int i2), some (.int i3), none, none]) k (xfw_get (xfw_s (xfw_s (xfw_s (xfw_s (xfw_n (xfw_n (xfw_nil _))))))))

theorem TX8_lay_18 {g : xGT} {d : Nat} {i2 i3 i4 : Int32} {l : Nat} {u : xU} {w : xW} {r : xQ} {P : xPost} (hr : xRf r)
    (k : ((7 : Int32) ≤ i4 → xEv g (d + 1) mX8_lay 2 [some (.ref 53), some (.ref l), some (.int i2), some (.int (i3 + (1 : Int32))), none, none] [] 698 u w r 698 P) ∧ (¬ ((7 : Int32) ≤ i4) → vp_in i3 7 ∧ (vp_in i4 7 ∧ (xEv g (d + 1) mX8_lay 18 [some (.ref 53), some (.ref l), some (.int i2), some (.int i3), some (.int (i4 + (1 : Int32))), none] [] 698 (x2 (x2 u (55 + i3.toNatClampNeg) i4.toNatClampNeg (if i3 = i4 then (0 : Int32) else (1000 : Int32))) (63 + i3.toNatClampNeg) i4.toNatClampNeg (0 : Int32)) w r 698 P)))) :
    xEv g (d + 1) mX8_lay 18 [some (.ref 53), some (.ref l), some (.int i2), some (.int i3), some (.int i4), none] [] 698 u w r 698 P := by
  refine xe_iload dX8_lay_18 rfl ?_
  refine xe_bipush (v := 7) dX8_lay_20 rfl ?_
  refine xe_icmp_ge (tgt := 63) dX8_lay_22 rfl (fun c18 => ?_) (fun c19 => ?_)
  · have k := k.1 c18
    refine xe_iinc (v := (i3 + (1 : Int32))) (ls' := [some (.ref 53), some (.ref l), some (.int i2), some (.int (i3 + (1 : Int32))), some (.int i4), none]) dX8_lay_63 rfl (by decide) rfl rfl ?_
    refine xe_goto (tgt := 2) dX8_lay_66 rfl ?_
    exact xEv.fewer (ls' := [some (.ref 53), some (.ref l), some (.int i2), some (.int (i3 + (1 : Int32))), none, none]) k (xfw_get (xfw_s (xfw_s (xfw_s (xfw_s (xfw_n (xfw_n (xfw_nil _))))))))
  · have k := k.2 (fun q => (c19 q))
    refine xe_aload_n dX8_lay_25 rfl ?_
    refine xe_getR (b := 54) dX8_lay_26 flX8_11 kk53 (xKK_lt kk53) rfl (rf53_0 hr) ?_
    refine xe_iload_n dX8_lay_29 rfl ?_
    obtain ⟨b20, k⟩ := k
    refine xe_aald dX8_lay_30 kk54 (xKK_lt kk54) (by simp) b20 (rr54 hr b20) ?_
    refine xe_iload dX8_lay_31 rfl ?_
    refine xe_iload_n dX8_lay_33 rfl ?_
    refine xe_iload dX8_lay_34 rfl ?_
    have K24 : xEv g (d + 1) mX8_lay 46 [some (.ref 53), some (.ref l), some (.int i2), some (.int i3), some (.int i4), none] [.int (if i3 = i4 then (0 : Int32) else (1000 : Int32)), .int i4, .ref (55 + i3.toNatClampNeg)] 698 u w r 698 P := by
      obtain ⟨b23, k⟩ := k
      refine xe_iast dX8_lay_46 (kr54 (i := i3) b20) (xKK_lt (kr54 (i := i3) b20)) b23 ?_
      refine xe_aload_n dX8_lay_47 rfl ?_
      refine xe_getR (b := 62) dX8_lay_48 flX8_16 kk53 (xKK_lt kk53) rfl (rf53_1 hr) ?_
      refine xe_iload_n dX8_lay_51 rfl ?_
      refine xe_aald dX8_lay_52 kk62 (xKK_lt kk62) (by simp) b20 (rr62 hr b20) ?_
      refine xe_iload dX8_lay_53 rfl ?_
      refine xe_iconst (v := 0) dX8_lay_55 rfl ?_
      refine xe_iast dX8_lay_56 (kr62 (i := i3) b20) (xKK_lt (kr62 (i := i3) b20)) b23 ?_
      refine xe_iinc (v := (i4 + (1 : Int32))) (ls' := [some (.ref 53), some (.ref l), some (.int i2), some (.int i3), some (.int (i4 + (1 : Int32))), none]) dX8_lay_57 rfl (by decide) rfl rfl ?_
      refine xe_goto (tgt := 18) dX8_lay_60 rfl ?_
      exact k
    refine xe_icmp_ne (tgt := 43) dX8_lay_36 rfl (fun c21 => ?_) (fun c22 => ?_)
    · refine xe_sipush (v := 1000) dX8_lay_43 rfl ?_
      exact xtop (if_neg (fun q => (c21 q))) K24
    · refine xe_iconst (v := 0) dX8_lay_39 rfl ?_
      refine xe_goto (tgt := 46) dX8_lay_40 rfl ?_
      exact xtop (if_pos c22) K24

theorem TX8_lay_163 {g : xGT} {d : Nat} {i3 : Int32} {u : xU} {w : xW} {r : xQ} {P : xPost}
    (k : ((7 : Int32) ≤ i3 → P none u w r) ∧ (¬ ((7 : Int32) ≤ i3) → xEv g (d + 1) mX8_lay 172 [some (.ref 53), none, none, some (.int i3), some (.int (0 : Int32)), none] [] 698 u w r 698 P)) :
    xEv g (d + 1) mX8_lay 163 [some (.ref 53), none, none, some (.int i3), none, none] [] 698 u w r 698 P := by
  refine xe_iload_n dX8_lay_163 rfl ?_
  refine xe_bipush (v := 7) dX8_lay_164 rfl ?_
  refine xe_icmp_ge (tgt := 207) dX8_lay_166 rfl (fun c25 => ?_) (fun c26 => ?_)
  · have k := k.1 c25
    exact xe_return dX8_lay_207 trivial k
  · have k := k.2 (fun q => (c26 q))
    refine xe_iconst (v := 0) dX8_lay_169 rfl ?_
    refine xe_istore (ls' := [some (.ref 53), none, none, some (.int i3), some (.int (0 : Int32)), none]) dX8_lay_170 (by decide) rfl ?_
    exact k

theorem TX8_lay_151 {g : xGT} {d : Nat} {i2 i3 : Int32} {l : Nat} {u : xU} {w : xW} {r : xQ} {P : xPost}
    (k : xEv g (d + 1) mX8_lay 71 [some (.ref 53), some (.ref l), some (.int i2), some (.int (i3 + (1 : Int32))), none, none] [] 698 u w r 698 P) :
    xEv g (d + 1) mX8_lay 151 [some (.ref 53), some (.ref l), some (.int i2), some (.int i3), none, none] [] 698 u w r 698 P := by
  refine xe_iinc (v := (i3 + (1 : Int32))) (ls' := [some (.ref 53), some (.ref l), some (.int i2), some (.int (i3 + (1 : Int32))), none, none]) dX8_lay_151 rfl (by decide) rfl rfl ?_
  refine xe_goto (tgt := 71) dX8_lay_154 rfl ?_
  exact k

theorem TX8_lay_172 {g : xGT} {d : Nat} {i3 i4 : Int32} {u : xU} {w : xW} {r : xQ} {P : xPost} (hr : xRf r)
    (k : ((7 : Int32) ≤ i4 → xEv g (d + 1) mX8_lay 163 [some (.ref 53), none, none, some (.int (i3 + (1 : Int32))), none, none] [] 698 u w r 698 P) ∧ (¬ ((7 : Int32) ≤ i4) → vp_in i3 7 ∧ (xCall g d mX8_findNext [.ref 53, .int i3, .int i4] 698 u w r 698 (fun rv30 u30 w30 r30 => ∃ v30 : Int32, rv30 = some (.int v30) ∧ u = u30 ∧ w = w30 ∧ r = r30 ∧ vp_in i4 7 ∧ (xEv g (d + 1) mX8_lay 172 [some (.ref 53), none, none, some (.int i3), some (.int (i4 + (1 : Int32))), none] [] 698 (x2 u (71 + i3.toNatClampNeg) i4.toNatClampNeg v30) w r 698 P))))) :
    xEv g (d + 1) mX8_lay 172 [some (.ref 53), none, none, some (.int i3), some (.int i4), none] [] 698 u w r 698 P := by
  refine xe_iload dX8_lay_172 rfl ?_
  refine xe_bipush (v := 7) dX8_lay_174 rfl ?_
  refine xe_icmp_ge (tgt := 201) dX8_lay_176 rfl (fun c27 => ?_) (fun c28 => ?_)
  · have k := k.1 c27
    refine xe_iinc (v := (i3 + (1 : Int32))) (ls' := [some (.ref 53), none, none, some (.int (i3 + (1 : Int32))), some (.int i4), none]) dX8_lay_201 rfl (by decide) rfl rfl ?_
    refine xe_goto (tgt := 163) dX8_lay_204 rfl ?_
    exact xEv.fewer (ls' := [some (.ref 53), none, none, some (.int (i3 + (1 : Int32))), none, none]) k (xfw_get (xfw_s (xfw_n (xfw_n (xfw_s (xfw_n (xfw_n (xfw_nil _))))))))
  · have k := k.2 (fun q => (c28 q))
    refine xe_aload_n dX8_lay_179 rfl ?_
    refine xe_getR (b := 70) dX8_lay_180 flX8_19 kk53 (xKK_lt kk53) rfl (rf53_2 hr) ?_
    refine xe_iload_n dX8_lay_183 rfl ?_
    obtain ⟨b29, k⟩ := k
    refine xe_aald dX8_lay_184 kk70 (xKK_lt kk70) (by simp) b29 (rr70 hr b29) ?_
    refine xe_iload dX8_lay_185 rfl ?_
    refine xe_aload_n dX8_lay_187 rfl ?_
    refine xe_iload_n dX8_lay_188 rfl ?_
    refine xe_iload dX8_lay_189 rfl ?_
    refine xe_callV (args := [.int i3, .int i4]) dX8_lay_191 vlX8_52 rfl rfl (Nat.le_of_ble_eq_true rfl) kk53 (xKK_lt kk53) rfl rfl k (Nat.le_refl _) (fun rv30 u30 w30 r30 k => ?_)
    obtain ⟨v30, rfl, rfl, rfl, rfl, k⟩ := k
    obtain ⟨b31, k⟩ := k
    refine xe_iast dX8_lay_194 (kr70 (i := i3) b29) (xKK_lt (kr70 (i := i3) b29)) b31 ?_
    refine xe_iinc (v := (i4 + (1 : Int32))) (ls' := [some (.ref 53), none, none, some (.int i3), some (.int (i4 + (1 : Int32))), none]) dX8_lay_195 rfl (by decide) rfl rfl ?_
    refine xe_goto (tgt := 172) dX8_lay_198 rfl ?_
    exact k

/-! Roads.distance -/

theorem TX8_distance_0 {g : xGT} {d : Nat} {i1 i2 : Int32} {u : xU} {w : xW} {r : xQ} {P : xPost} (hr : xRf r)
    (k : (¬ ((xb (¬ (i1 < 0) ∧ (¬ ((7 : Int32) ≤ i1) ∧ (¬ (i2 < 0) ∧ ¬ ((7 : Int32) ≤ i2))))) = 0) → vp_in i1 7) ∧ ((¬ ((xb (¬ (i1 < 0) ∧ (¬ ((7 : Int32) ≤ i1) ∧ (¬ (i2 < 0) ∧ ¬ ((7 : Int32) ≤ i2))))) = 0) → vp_in i2 7) ∧ (P (some (.int (if (xb (¬ (i1 < 0) ∧ (¬ ((7 : Int32) ≤ i1) ∧ (¬ (i2 < 0) ∧ ¬ ((7 : Int32) ≤ i2))))) = 0 then (1000 : Int32) else (u (55 + i1.toNatClampNeg) i2.toNatClampNeg)))) u w r))) :
    xEv g d mX8_distance 0 [some (.ref 53), some (.int i1), some (.int i2), none] [] 698 u w r 698 P := by
  refine xe_iload_n dX8_distance_0 rfl ?_
  have K14 : xEv g d mX8_distance 25 [some (.ref 53), some (.int i1), some (.int i2), none] [.int (xb (¬ (i1 < 0) ∧ (¬ ((7 : Int32) ≤ i1) ∧ (¬ (i2 < 0) ∧ ¬ ((7 : Int32) ≤ i2)))))] 698 u w r 698 P := by
    refine xe_istore_n (ls' := [some (.ref 53), some (.int i1), some (.int i2), some (.int (xb (¬ (i1 < 0) ∧ (¬ ((7 : Int32) ≤ i1) ∧ (¬ (i2 < 0) ∧ ¬ ((7 : Int32) ≤ i2))))))]) dX8_distance_25 rfl (by decide) rfl ?_
    refine xe_iload_n dX8_distance_26 rfl ?_
    obtain ⟨b11, k⟩ := k
    obtain ⟨b12, k⟩ := k
    have K13 : xEv g d mX8_distance 44 [some (.ref 53), some (.int i1), some (.int i2), some (.int (xb (¬ (i1 < 0) ∧ (¬ ((7 : Int32) ≤ i1) ∧ (¬ (i2 < 0) ∧ ¬ ((7 : Int32) ≤ i2))))))] [.int (if (xb (¬ (i1 < 0) ∧ (¬ ((7 : Int32) ≤ i1) ∧ (¬ (i2 < 0) ∧ ¬ ((7 : Int32) ≤ i2))))) = 0 then (1000 : Int32) else (u (55 + i1.toNatClampNeg) i2.toNatClampNeg))] 698 u w r 698 P := by
      exact xe_ireturn dX8_distance_44 rfl k
    refine xe_if_eq (tgt := 41) dX8_distance_27 rfl (fun c9 => ?_) (fun c10 => ?_)
    · refine xe_sipush (v := 1000) dX8_distance_41 rfl ?_
      exact xtop (if_pos c9) K13
    · refine xe_aload_n dX8_distance_30 rfl ?_
      refine xe_getR (b := 54) dX8_distance_31 flX8_11 kk53 (xKK_lt kk53) rfl (rf53_0 hr) ?_
      refine xe_iload_n dX8_distance_34 rfl ?_
      refine xe_aald dX8_distance_35 kk54 (xKK_lt kk54) (by simp) (b11 (fun q => (c10 q))) (rr54 hr (b11 (fun q => (c10 q)))) ?_
      refine xe_iload_n dX8_distance_36 rfl ?_
      refine xe_iald dX8_distance_37 (kr54 (i := i1) (b11 (fun q => (c10 q)))) (xKK_lt (kr54 (i := i1) (b11 (fun q => (c10 q))))) (b12 (fun q => (c10 q))) ?_
      refine xe_goto (tgt := 44) dX8_distance_38 rfl ?_
      exact xtop (if_neg (fun q => (c10 q))) K13
  refine xe_if_lt (tgt := 24) dX8_distance_1 rfl (fun c1 => ?_) (fun c2 => ?_)
  · refine xe_iconst (v := 0) dX8_distance_24 rfl ?_
    exact xtop (xb_neg (show ¬ (¬ (i1 < 0) ∧ (¬ ((7 : Int32) ≤ i1) ∧ (¬ (i2 < 0) ∧ ¬ ((7 : Int32) ≤ i2)))) from (fun q => (q.1 c1)))) K14
  · refine xe_iload_n dX8_distance_4 rfl ?_
    refine xe_bipush (v := 7) dX8_distance_5 rfl ?_
    refine xe_icmp_ge (tgt := 24) dX8_distance_7 rfl (fun c3 => ?_) (fun c4 => ?_)
    · refine xe_iconst (v := 0) dX8_distance_24 rfl ?_
      exact xtop (xb_neg (show ¬ (¬ (i1 < 0) ∧ (¬ ((7 : Int32) ≤ i1) ∧ (¬ (i2 < 0) ∧ ¬ ((7 : Int32) ≤ i2)))) from (fun q => (q.2.1 c3)))) K14
    · refine xe_iload_n dX8_distance_10 rfl ?_
      refine xe_if_lt (tgt := 24) dX8_distance_11 rfl (fun c5 => ?_) (fun c6 => ?_)
      · refine xe_iconst (v := 0) dX8_distance_24 rfl ?_
        exact xtop (xb_neg (show ¬ (¬ (i1 < 0) ∧ (¬ ((7 : Int32) ≤ i1) ∧ (¬ (i2 < 0) ∧ ¬ ((7 : Int32) ≤ i2)))) from (fun q => (q.2.2.1 c5)))) K14
      · refine xe_iload_n dX8_distance_14 rfl ?_
        refine xe_bipush (v := 7) dX8_distance_15 rfl ?_
        refine xe_icmp_ge (tgt := 24) dX8_distance_17 rfl (fun c7 => ?_) (fun c8 => ?_)
        · refine xe_iconst (v := 0) dX8_distance_24 rfl ?_
          exact xtop (xb_neg (show ¬ (¬ (i1 < 0) ∧ (¬ ((7 : Int32) ≤ i1) ∧ (¬ (i2 < 0) ∧ ¬ ((7 : Int32) ≤ i2)))) from (fun q => (q.2.2.2 c7)))) K14
        · refine xe_iconst (v := 1) dX8_distance_20 rfl ?_
          refine xe_goto (tgt := 25) dX8_distance_21 rfl ?_
          exact xtop (xb_pos (show (¬ (i1 < 0) ∧ (¬ ((7 : Int32) ≤ i1) ∧ (¬ (i2 < 0) ∧ ¬ ((7 : Int32) ≤ i2)))) from ⟨c2, ⟨c4, ⟨c6, c8⟩⟩⟩)) K14

theorem CX8_distance {g : xGT} {d : Nat} {i1 i2 : Int32} {u : xU} {w : xW} {r : xQ} {P : xPost} (hr : xRf r)
    (k : (¬ ((xb (¬ (i1 < 0) ∧ (¬ ((7 : Int32) ≤ i1) ∧ (¬ (i2 < 0) ∧ ¬ ((7 : Int32) ≤ i2))))) = 0) → vp_in i1 7) ∧ ((¬ ((xb (¬ (i1 < 0) ∧ (¬ ((7 : Int32) ≤ i1) ∧ (¬ (i2 < 0) ∧ ¬ ((7 : Int32) ≤ i2))))) = 0) → vp_in i2 7) ∧ (P (some (.int (if (xb (¬ (i1 < 0) ∧ (¬ ((7 : Int32) ≤ i1) ∧ (¬ (i2 < 0) ∧ ¬ ((7 : Int32) ≤ i2))))) = 0 then (1000 : Int32) else (u (55 + i1.toNatClampNeg) i2.toNatClampNeg)))) u w r))) :
    xCall g d mX8_distance [.ref 53, .int i1, .int i2] 698 u w r 698 P :=
  xCall.of plX8 (Nat.le_of_ble_eq_true rfl) rfl (TX8_distance_0 hr k)

/-! Roads.waysAt -/

theorem TX8_waysAt_0 {g : xGT} {d : Nat} {i1 : Int32} {u : xU} {w : xW} {r : xQ} {P : xPost} (hr : xRf r)
    (k : xCall g d mX11_isOneOf [.int i1, .int (7 : Int32)] 698 u w r 698 (fun rv1 u1 w1 r1 => ∃ v1 : Int32, rv1 = some (.int v1) ∧ u = u1 ∧ w = w1 ∧ r = r1 ∧ (v1 = 0 → P (some (.int (0 : Int32))) u w r) ∧ (¬ (v1 = 0) → vp_in i1 7 ∧ (xCall g d mJ6_bitCount_0f7a4 [.int (u 78 i1.toNatClampNeg)] 698 u w r 698 (fun rv5 u5 w5 r5 => ∃ v5 : Int32, rv5 = some (.int v5) ∧ u = u5 ∧ w = w5 ∧ r = r5 ∧ P (some (.int v5)) u w r))))) :
    xEv g (d + 1) mX8_waysAt 0 [some (.ref 53), some (.int i1)] [] 698 u w r 698 P := by
  refine xe_iload_n dX8_waysAt_0 rfl ?_
  refine xe_bipush (v := 7) dX8_waysAt_1 rfl ?_
  refine xe_callSN (args := [.int i1, .int (7 : Int32)]) dX8_waysAt_3 snX8_38 rfl rfl (Nat.le_of_ble_eq_true rfl) k (Nat.le_refl _) (fun rv1 u1 w1 r1 k => ?_)
  obtain ⟨v1, rfl, rfl, rfl, rfl, k⟩ := k
  refine xe_if_eq (tgt := 21) dX8_waysAt_6 rfl (fun c2 => ?_) (fun c3 => ?_)
  · have k := k.1 c2
    refine xe_iconst (v := 0) dX8_waysAt_21 rfl ?_
    exact xe_ireturn dX8_waysAt_22 rfl k
  · have k := k.2 (fun q => (c3 q))
    refine xe_aload_n dX8_waysAt_9 rfl ?_
    refine xe_getR (b := 78) dX8_waysAt_10 flX8_22 kk53 (xKK_lt kk53) rfl (rf53_3 hr) ?_
    refine xe_iload_n dX8_waysAt_13 rfl ?_
    obtain ⟨b4, k⟩ := k
    refine xe_iald dX8_waysAt_14 kk78 (xKK_lt kk78) b4 ?_
    refine xe_callS (args := [.int (u 78 i1.toNatClampNeg)]) dX8_waysAt_15 slX8_56 rfl rfl (Nat.le_of_ble_eq_true rfl) k (Nat.le_refl _) (fun rv5 u5 w5 r5 k => ?_)
    obtain ⟨v5, rfl, rfl, rfl, rfl, k⟩ := k
    refine xe_goto (tgt := 22) dX8_waysAt_18 rfl ?_
    exact xe_ireturn dX8_waysAt_22 rfl k

theorem CX8_waysAt {g : xGT} {d : Nat} {i1 : Int32} {u : xU} {w : xW} {r : xQ} {P : xPost} (hr : xRf r)
    (k : xCall g d mX11_isOneOf [.int i1, .int (7 : Int32)] 698 u w r 698 (fun rv1 u1 w1 r1 => ∃ v1 : Int32, rv1 = some (.int v1) ∧ u = u1 ∧ w = w1 ∧ r = r1 ∧ (v1 = 0 → P (some (.int (0 : Int32))) u w r) ∧ (¬ (v1 = 0) → vp_in i1 7 ∧ (xCall g d mJ6_bitCount_0f7a4 [.int (u 78 i1.toNatClampNeg)] 698 u w r 698 (fun rv5 u5 w5 r5 => ∃ v5 : Int32, rv5 = some (.int v5) ∧ u = u5 ∧ w = w5 ∧ r = r5 ∧ P (some (.int v5)) u w r))))) :
    xCall g (d + 1) mX8_waysAt [.ref 53, .int i1] 698 u w r 698 P :=
  xCall.of plX8 (Nat.le_of_ble_eq_true rfl) rfl (TX8_waysAt_0 hr k)

/-! Roads.daysOfWay -/

theorem TX8_daysOfWay_0 {g : xGT} {d : Nat} {i1 i2 : Int32} {u : xU} {w : xW} {r : xQ} {P : xPost} (hr : xRf r)
    (k : (¬ ((xb (¬ (i1 < 0) ∧ (¬ ((7 : Int32) ≤ i1) ∧ (¬ (i2 < 0) ∧ ¬ ((7 : Int32) ≤ i2))))) = 0) → vp_in i1 7) ∧ ((¬ ((xb (¬ (i1 < 0) ∧ (¬ ((7 : Int32) ≤ i1) ∧ (¬ (i2 < 0) ∧ ¬ ((7 : Int32) ≤ i2))))) = 0) → vp_in i2 7) ∧ (P (some (.int (if (xb (¬ (i1 < 0) ∧ (¬ ((7 : Int32) ≤ i1) ∧ (¬ (i2 < 0) ∧ ¬ ((7 : Int32) ≤ i2))))) = 0 then (0 : Int32) else (u (63 + i1.toNatClampNeg) i2.toNatClampNeg)))) u w r))) :
    xEv g d mX8_daysOfWay 0 [some (.ref 53), some (.int i1), some (.int i2), none] [] 698 u w r 698 P := by
  refine xe_iload_n dX8_daysOfWay_0 rfl ?_
  have K14 : xEv g d mX8_daysOfWay 25 [some (.ref 53), some (.int i1), some (.int i2), none] [.int (xb (¬ (i1 < 0) ∧ (¬ ((7 : Int32) ≤ i1) ∧ (¬ (i2 < 0) ∧ ¬ ((7 : Int32) ≤ i2)))))] 698 u w r 698 P := by
    refine xe_istore_n (ls' := [some (.ref 53), some (.int i1), some (.int i2), some (.int (xb (¬ (i1 < 0) ∧ (¬ ((7 : Int32) ≤ i1) ∧ (¬ (i2 < 0) ∧ ¬ ((7 : Int32) ≤ i2))))))]) dX8_daysOfWay_25 rfl (by decide) rfl ?_
    refine xe_iload_n dX8_daysOfWay_26 rfl ?_
    obtain ⟨b11, k⟩ := k
    obtain ⟨b12, k⟩ := k
    have K13 : xEv g d mX8_daysOfWay 42 [some (.ref 53), some (.int i1), some (.int i2), some (.int (xb (¬ (i1 < 0) ∧ (¬ ((7 : Int32) ≤ i1) ∧ (¬ (i2 < 0) ∧ ¬ ((7 : Int32) ≤ i2))))))] [.int (if (xb (¬ (i1 < 0) ∧ (¬ ((7 : Int32) ≤ i1) ∧ (¬ (i2 < 0) ∧ ¬ ((7 : Int32) ≤ i2))))) = 0 then (0 : Int32) else (u (63 + i1.toNatClampNeg) i2.toNatClampNeg))] 698 u w r 698 P := by
      exact xe_ireturn dX8_daysOfWay_42 rfl k
    refine xe_if_eq (tgt := 41) dX8_daysOfWay_27 rfl (fun c9 => ?_) (fun c10 => ?_)
    · refine xe_iconst (v := 0) dX8_daysOfWay_41 rfl ?_
      exact xtop (if_pos c9) K13
    · refine xe_aload_n dX8_daysOfWay_30 rfl ?_
      refine xe_getR (b := 62) dX8_daysOfWay_31 flX8_16 kk53 (xKK_lt kk53) rfl (rf53_1 hr) ?_
      refine xe_iload_n dX8_daysOfWay_34 rfl ?_
      refine xe_aald dX8_daysOfWay_35 kk62 (xKK_lt kk62) (by simp) (b11 (fun q => (c10 q))) (rr62 hr (b11 (fun q => (c10 q)))) ?_
      refine xe_iload_n dX8_daysOfWay_36 rfl ?_
      refine xe_iald dX8_daysOfWay_37 (kr62 (i := i1) (b11 (fun q => (c10 q)))) (xKK_lt (kr62 (i := i1) (b11 (fun q => (c10 q))))) (b12 (fun q => (c10 q))) ?_
      refine xe_goto (tgt := 42) dX8_daysOfWay_38 rfl ?_
      exact xtop (if_neg (fun q => (c10 q))) K13
  refine xe_if_lt (tgt := 24) dX8_daysOfWay_1 rfl (fun c1 => ?_) (fun c2 => ?_)
  · refine xe_iconst (v := 0) dX8_daysOfWay_24 rfl ?_
    exact xtop (xb_neg (show ¬ (¬ (i1 < 0) ∧ (¬ ((7 : Int32) ≤ i1) ∧ (¬ (i2 < 0) ∧ ¬ ((7 : Int32) ≤ i2)))) from (fun q => (q.1 c1)))) K14
  · refine xe_iload_n dX8_daysOfWay_4 rfl ?_
    refine xe_bipush (v := 7) dX8_daysOfWay_5 rfl ?_
    refine xe_icmp_ge (tgt := 24) dX8_daysOfWay_7 rfl (fun c3 => ?_) (fun c4 => ?_)
    · refine xe_iconst (v := 0) dX8_daysOfWay_24 rfl ?_
      exact xtop (xb_neg (show ¬ (¬ (i1 < 0) ∧ (¬ ((7 : Int32) ≤ i1) ∧ (¬ (i2 < 0) ∧ ¬ ((7 : Int32) ≤ i2)))) from (fun q => (q.2.1 c3)))) K14
    · refine xe_iload_n dX8_daysOfWay_10 rfl ?_
      refine xe_if_lt (tgt := 24) dX8_daysOfWay_11 rfl (fun c5 => ?_) (fun c6 => ?_)
      · refine xe_iconst (v := 0) dX8_daysOfWay_24 rfl ?_
        exact xtop (xb_neg (show ¬ (¬ (i1 < 0) ∧ (¬ ((7 : Int32) ≤ i1) ∧ (¬ (i2 < 0) ∧ ¬ ((7 : Int32) ≤ i2)))) from (fun q => (q.2.2.1 c5)))) K14
      · refine xe_iload_n dX8_daysOfWay_14 rfl ?_
        refine xe_bipush (v := 7) dX8_daysOfWay_15 rfl ?_
        refine xe_icmp_ge (tgt := 24) dX8_daysOfWay_17 rfl (fun c7 => ?_) (fun c8 => ?_)
        · refine xe_iconst (v := 0) dX8_daysOfWay_24 rfl ?_
          exact xtop (xb_neg (show ¬ (¬ (i1 < 0) ∧ (¬ ((7 : Int32) ≤ i1) ∧ (¬ (i2 < 0) ∧ ¬ ((7 : Int32) ≤ i2)))) from (fun q => (q.2.2.2 c7)))) K14
        · refine xe_iconst (v := 1) dX8_daysOfWay_20 rfl ?_
          refine xe_goto (tgt := 25) dX8_daysOfWay_21 rfl ?_
          exact xtop (xb_pos (show (¬ (i1 < 0) ∧ (¬ ((7 : Int32) ≤ i1) ∧ (¬ (i2 < 0) ∧ ¬ ((7 : Int32) ≤ i2)))) from ⟨c2, ⟨c4, ⟨c6, c8⟩⟩⟩)) K14

theorem CX8_daysOfWay {g : xGT} {d : Nat} {i1 i2 : Int32} {u : xU} {w : xW} {r : xQ} {P : xPost} (hr : xRf r)
    (k : (¬ ((xb (¬ (i1 < 0) ∧ (¬ ((7 : Int32) ≤ i1) ∧ (¬ (i2 < 0) ∧ ¬ ((7 : Int32) ≤ i2))))) = 0) → vp_in i1 7) ∧ ((¬ ((xb (¬ (i1 < 0) ∧ (¬ ((7 : Int32) ≤ i1) ∧ (¬ (i2 < 0) ∧ ¬ ((7 : Int32) ≤ i2))))) = 0) → vp_in i2 7) ∧ (P (some (.int (if (xb (¬ (i1 < 0) ∧ (¬ ((7 : Int32) ≤ i1) ∧ (¬ (i2 < 0) ∧ ¬ ((7 : Int32) ≤ i2))))) = 0 then (0 : Int32) else (u (63 + i1.toNatClampNeg) i2.toNatClampNeg)))) u w r))) :
    xCall g d mX8_daysOfWay [.ref 53, .int i1, .int i2] 698 u w r 698 P :=
  xCall.of plX8 (Nat.le_of_ble_eq_true rfl) rfl (TX8_daysOfWay_0 hr k)

/-! Roads.nextOf -/

theorem TX8_nextOf_0 {g : xGT} {d : Nat} {i1 i2 : Int32} {u : xU} {w : xW} {r : xQ} {P : xPost} (hr : xRf r)
    (k : (¬ ((xb (¬ (i1 < 0) ∧ (¬ ((7 : Int32) ≤ i1) ∧ (¬ (i2 < 0) ∧ ¬ ((7 : Int32) ≤ i2))))) = 0) → vp_in i1 7) ∧ ((¬ ((xb (¬ (i1 < 0) ∧ (¬ ((7 : Int32) ≤ i1) ∧ (¬ (i2 < 0) ∧ ¬ ((7 : Int32) ≤ i2))))) = 0) → vp_in i2 7) ∧ (P (some (.int (if (xb (¬ (i1 < 0) ∧ (¬ ((7 : Int32) ≤ i1) ∧ (¬ (i2 < 0) ∧ ¬ ((7 : Int32) ≤ i2))))) = 0 then (-1 : Int32) else (u (71 + i1.toNatClampNeg) i2.toNatClampNeg)))) u w r))) :
    xEv g d mX8_nextOf 0 [some (.ref 53), some (.int i1), some (.int i2), none] [] 698 u w r 698 P := by
  refine xe_iload_n dX8_nextOf_0 rfl ?_
  have K14 : xEv g d mX8_nextOf 25 [some (.ref 53), some (.int i1), some (.int i2), none] [.int (xb (¬ (i1 < 0) ∧ (¬ ((7 : Int32) ≤ i1) ∧ (¬ (i2 < 0) ∧ ¬ ((7 : Int32) ≤ i2)))))] 698 u w r 698 P := by
    refine xe_istore_n (ls' := [some (.ref 53), some (.int i1), some (.int i2), some (.int (xb (¬ (i1 < 0) ∧ (¬ ((7 : Int32) ≤ i1) ∧ (¬ (i2 < 0) ∧ ¬ ((7 : Int32) ≤ i2))))))]) dX8_nextOf_25 rfl (by decide) rfl ?_
    refine xe_iload_n dX8_nextOf_26 rfl ?_
    obtain ⟨b11, k⟩ := k
    obtain ⟨b12, k⟩ := k
    have K13 : xEv g d mX8_nextOf 42 [some (.ref 53), some (.int i1), some (.int i2), some (.int (xb (¬ (i1 < 0) ∧ (¬ ((7 : Int32) ≤ i1) ∧ (¬ (i2 < 0) ∧ ¬ ((7 : Int32) ≤ i2))))))] [.int (if (xb (¬ (i1 < 0) ∧ (¬ ((7 : Int32) ≤ i1) ∧ (¬ (i2 < 0) ∧ ¬ ((7 : Int32) ≤ i2))))) = 0 then (-1 : Int32) else (u (71 + i1.toNatClampNeg) i2.toNatClampNeg))] 698 u w r 698 P := by
      exact xe_ireturn dX8_nextOf_42 rfl k
    refine xe_if_eq (tgt := 41) dX8_nextOf_27 rfl (fun c9 => ?_) (fun c10 => ?_)
    · refine xe_iconst (v := -1) dX8_nextOf_41 rfl ?_
      exact xtop (if_pos c9) K13
    · refine xe_aload_n dX8_nextOf_30 rfl ?_
      refine xe_getR (b := 70) dX8_nextOf_31 flX8_19 kk53 (xKK_lt kk53) rfl (rf53_2 hr) ?_
      refine xe_iload_n dX8_nextOf_34 rfl ?_
      refine xe_aald dX8_nextOf_35 kk70 (xKK_lt kk70) (by simp) (b11 (fun q => (c10 q))) (rr70 hr (b11 (fun q => (c10 q)))) ?_
      refine xe_iload_n dX8_nextOf_36 rfl ?_
      refine xe_iald dX8_nextOf_37 (kr70 (i := i1) (b11 (fun q => (c10 q)))) (xKK_lt (kr70 (i := i1) (b11 (fun q => (c10 q))))) (b12 (fun q => (c10 q))) ?_
      refine xe_goto (tgt := 42) dX8_nextOf_38 rfl ?_
      exact xtop (if_neg (fun q => (c10 q))) K13
  refine xe_if_lt (tgt := 24) dX8_nextOf_1 rfl (fun c1 => ?_) (fun c2 => ?_)
  · refine xe_iconst (v := 0) dX8_nextOf_24 rfl ?_
    exact xtop (xb_neg (show ¬ (¬ (i1 < 0) ∧ (¬ ((7 : Int32) ≤ i1) ∧ (¬ (i2 < 0) ∧ ¬ ((7 : Int32) ≤ i2)))) from (fun q => (q.1 c1)))) K14
  · refine xe_iload_n dX8_nextOf_4 rfl ?_
    refine xe_bipush (v := 7) dX8_nextOf_5 rfl ?_
    refine xe_icmp_ge (tgt := 24) dX8_nextOf_7 rfl (fun c3 => ?_) (fun c4 => ?_)
    · refine xe_iconst (v := 0) dX8_nextOf_24 rfl ?_
      exact xtop (xb_neg (show ¬ (¬ (i1 < 0) ∧ (¬ ((7 : Int32) ≤ i1) ∧ (¬ (i2 < 0) ∧ ¬ ((7 : Int32) ≤ i2)))) from (fun q => (q.2.1 c3)))) K14
    · refine xe_iload_n dX8_nextOf_10 rfl ?_
      refine xe_if_lt (tgt := 24) dX8_nextOf_11 rfl (fun c5 => ?_) (fun c6 => ?_)
      · refine xe_iconst (v := 0) dX8_nextOf_24 rfl ?_
        exact xtop (xb_neg (show ¬ (¬ (i1 < 0) ∧ (¬ ((7 : Int32) ≤ i1) ∧ (¬ (i2 < 0) ∧ ¬ ((7 : Int32) ≤ i2)))) from (fun q => (q.2.2.1 c5)))) K14
      · refine xe_iload_n dX8_nextOf_14 rfl ?_
        refine xe_bipush (v := 7) dX8_nextOf_15 rfl ?_
        refine xe_icmp_ge (tgt := 24) dX8_nextOf_17 rfl (fun c7 => ?_) (fun c8 => ?_)
        · refine xe_iconst (v := 0) dX8_nextOf_24 rfl ?_
          exact xtop (xb_neg (show ¬ (¬ (i1 < 0) ∧ (¬ ((7 : Int32) ≤ i1) ∧ (¬ (i2 < 0) ∧ ¬ ((7 : Int32) ≤ i2)))) from (fun q => (q.2.2.2 c7)))) K14
        · refine xe_iconst (v := 1) dX8_nextOf_20 rfl ?_
          refine xe_goto (tgt := 25) dX8_nextOf_21 rfl ?_
          exact xtop (xb_pos (show (¬ (i1 < 0) ∧ (¬ ((7 : Int32) ≤ i1) ∧ (¬ (i2 < 0) ∧ ¬ ((7 : Int32) ≤ i2)))) from ⟨c2, ⟨c4, ⟨c6, c8⟩⟩⟩)) K14

theorem CX8_nextOf {g : xGT} {d : Nat} {i1 i2 : Int32} {u : xU} {w : xW} {r : xQ} {P : xPost} (hr : xRf r)
    (k : (¬ ((xb (¬ (i1 < 0) ∧ (¬ ((7 : Int32) ≤ i1) ∧ (¬ (i2 < 0) ∧ ¬ ((7 : Int32) ≤ i2))))) = 0) → vp_in i1 7) ∧ ((¬ ((xb (¬ (i1 < 0) ∧ (¬ ((7 : Int32) ≤ i1) ∧ (¬ (i2 < 0) ∧ ¬ ((7 : Int32) ≤ i2))))) = 0) → vp_in i2 7) ∧ (P (some (.int (if (xb (¬ (i1 < 0) ∧ (¬ ((7 : Int32) ≤ i1) ∧ (¬ (i2 < 0) ∧ ¬ ((7 : Int32) ≤ i2))))) = 0 then (-1 : Int32) else (u (71 + i1.toNatClampNeg) i2.toNatClampNeg)))) u w r))) :
    xCall g d mX8_nextOf [.ref 53, .int i1, .int i2] 698 u w r 698 P :=
  xCall.of plX8 (Nat.le_of_ble_eq_true rfl) rfl (TX8_nextOf_0 hr k)

/-! Roads.passed -/

theorem TX8_passed_0 {g : xGT} {d : Nat} {i1 i2 : Int32} {u : xU} {w : xW} {r : xQ} {P : xPost}
    (k : xEv g (d + 1) mX8_passed 8 [some (.ref 53), none, some (.int i2), some (.int (0 : Int32)), some (.int i1), some (.int (0 : Int32))] [] 698 u w r 698 P) :
    xEv g (d + 1) mX8_passed 0 [some (.ref 53), some (.int i1), some (.int i2), none, none, none] [] 698 u w r 698 P := by
  refine xe_iconst (v := 0) dX8_passed_0 rfl ?_
  refine xe_istore_n (ls' := [some (.ref 53), some (.int i1), some (.int i2), some (.int (0 : Int32)), none, none]) dX8_passed_1 rfl (by decide) rfl ?_
  refine xe_iload_n dX8_passed_2 rfl ?_
  refine xe_istore (ls' := [some (.ref 53), some (.int i1), some (.int i2), some (.int (0 : Int32)), some (.int i1), none]) dX8_passed_3 (by decide) rfl ?_
  refine xe_iconst (v := 0) dX8_passed_5 rfl ?_
  refine xe_istore (ls' := [some (.ref 53), some (.int i1), some (.int i2), some (.int (0 : Int32)), some (.int i1), some (.int (0 : Int32))]) dX8_passed_6 (by decide) rfl ?_
  exact xEv.fewer (ls' := [some (.ref 53), none, some (.int i2), some (.int (0 : Int32)), some (.int i1), some (.int (0 : Int32))]) k (xfw_get (xfw_s (xfw_n (xfw_s (xfw_s (xfw_s (xfw_s (xfw_nil _))))))))

theorem CX8_passed {g : xGT} {d : Nat} {i1 i2 : Int32} {u : xU} {w : xW} {r : xQ} {P : xPost}
    (k : xEv g (d + 1) mX8_passed 8 [some (.ref 53), none, some (.int i2), some (.int (0 : Int32)), some (.int i1), some (.int (0 : Int32))] [] 698 u w r 698 P) :
    xCall g (d + 1) mX8_passed [.ref 53, .int i1, .int i2] 698 u w r 698 P :=
  xCall.of plX8 (Nat.le_of_ble_eq_true rfl) rfl (TX8_passed_0  k)

theorem TX8_passed_8 {g : xGT} {d : Nat} {i2 i3 i4 i5 : Int32} {u : xU} {w : xW} {r : xQ} {P : xPost}
    (k : ((¬ ((7 : Int32) ≤ i5) ∧ ¬ (i4 = (-1 : Int32))) → xCall g d mX8_nextOf [.ref 53, .int i4, .int i2] 698 u w r 698 (fun rv5 u5 w5 r5 => ∃ v5 : Int32, rv5 = some (.int v5) ∧ u = u5 ∧ w = w5 ∧ r = r5 ∧ xEv g (d + 1) mX8_passed 8 [some (.ref 53), none, some (.int i2), some (.int (i3 ||| ((1 : Int32) <<< (i4 &&& 31)))), some (.int v5), some (.int (i5 + (1 : Int32)))] [] 698 u w r 698 P)) ∧ (¬ (¬ ((7 : Int32) ≤ i5) ∧ ¬ (i4 = (-1 : Int32))) → P (some (.int i3)) u w r)) :
    xEv g (d + 1) mX8_passed 8 [some (.ref 53), none, some (.int i2), some (.int i3), some (.int i4), some (.int i5)] [] 698 u w r 698 P := by
  refine xe_iload dX8_passed_8 rfl ?_
  refine xe_bipush (v := 7) dX8_passed_10 rfl ?_
  have K6 : ¬ (¬ ((7 : Int32) ≤ i5) ∧ ¬ (i4 = (-1 : Int32))) → xEv g (d + 1) mX8_passed 43 [some (.ref 53), none, some (.int i2), some (.int i3), some (.int i4), some (.int i5)] [] 698 u w r 698 P := fun c7 => by
    have k := k.2 c7
    refine xe_iload_n dX8_passed_43 rfl ?_
    exact xe_ireturn dX8_passed_44 rfl k
  refine xe_icmp_ge (tgt := 43) dX8_passed_12 rfl (fun c1 => ?_) (fun c2 => ?_)
  · exact K6 (fun q => (q.1 c1))
  · refine xe_iload dX8_passed_15 rfl ?_
    refine xe_iconst (v := -1) dX8_passed_17 rfl ?_
    refine xe_icmp_eq (tgt := 43) dX8_passed_18 rfl (fun c3 => ?_) (fun c4 => ?_)
    · exact K6 (fun q => (q.2 c3))
    · have k := k.1 ⟨c2, c4⟩
      refine xe_iload_n dX8_passed_21 rfl ?_
      refine xe_iconst (v := 1) dX8_passed_22 rfl ?_
      refine xe_iload dX8_passed_23 rfl ?_
      refine xe_ishl dX8_passed_25 ?_
      refine xe_ior dX8_passed_26 ?_
      refine xe_istore_n (ls' := [some (.ref 53), none, some (.int i2), some (.int (i3 ||| ((1 : Int32) <<< (i4 &&& 31)))), some (.int i4), some (.int i5)]) dX8_passed_27 rfl (by decide) rfl ?_
      refine xe_aload_n dX8_passed_28 rfl ?_
      refine xe_iload dX8_passed_29 rfl ?_
      refine xe_iload_n dX8_passed_31 rfl ?_
      refine xe_callV (args := [.int i4, .int i2]) dX8_passed_32 vlX8_62 rfl rfl (Nat.le_of_ble_eq_true rfl) kk53 (xKK_lt kk53) rfl rfl k (Nat.le_refl _) (fun rv5 u5 w5 r5 k => ?_)
      obtain ⟨v5, rfl, rfl, rfl, rfl, k⟩ := k
      refine xe_istore (ls' := [some (.ref 53), none, some (.int i2), some (.int (i3 ||| ((1 : Int32) <<< (i4 &&& 31)))), some (.int v5), some (.int i5)]) dX8_passed_35 (by decide) rfl ?_
      refine xe_iinc (v := (i5 + (1 : Int32))) (ls' := [some (.ref 53), none, some (.int i2), some (.int (i3 ||| ((1 : Int32) <<< (i4 &&& 31)))), some (.int v5), some (.int (i5 + (1 : Int32)))]) dX8_passed_37 rfl (by decide) rfl rfl ?_
      refine xe_goto (tgt := 8) dX8_passed_40 rfl ?_
      exact k

/-! Roads.nearest -/

theorem TX8_nearest_0 {g : xGT} {d : Nat} {i1 i2 i3 : Int32} {u : xU} {w : xW} {r : xQ} {P : xPost}
    (k : xEv g (d + 1) mX8_nearest 11 [some (.ref 53), none, some (.int i2), some (.int i3), some (.int (1000 : Int32)), some (.int i1), some (.int (0 : Int32))] [] 698 u w r 698 P) :
    xEv g (d + 1) mX8_nearest 0 [some (.ref 53), some (.int i1), some (.int i2), some (.int i3), none, none, none] [] 698 u w r 698 P := by
  refine xe_sipush (v := 1000) dX8_nearest_0 rfl ?_
  refine xe_istore (ls' := [some (.ref 53), some (.int i1), some (.int i2), some (.int i3), some (.int (1000 : Int32)), none, none]) dX8_nearest_3 (by decide) rfl ?_
  refine xe_iload_n dX8_nearest_5 rfl ?_
  refine xe_istore (ls' := [some (.ref 53), some (.int i1), some (.int i2), some (.int i3), some (.int (1000 : Int32)), some (.int i1), none]) dX8_nearest_6 (by decide) rfl ?_
  refine xe_iconst (v := 0) dX8_nearest_8 rfl ?_
  refine xe_istore (ls' := [some (.ref 53), some (.int i1), some (.int i2), some (.int i3), some (.int (1000 : Int32)), some (.int i1), some (.int (0 : Int32))]) dX8_nearest_9 (by decide) rfl ?_
  exact xEv.fewer (ls' := [some (.ref 53), none, some (.int i2), some (.int i3), some (.int (1000 : Int32)), some (.int i1), some (.int (0 : Int32))]) k (xfw_get (xfw_s (xfw_n (xfw_s (xfw_s (xfw_s (xfw_s (xfw_s (xfw_nil _)))))))))

theorem CX8_nearest {g : xGT} {d : Nat} {i1 i2 i3 : Int32} {u : xU} {w : xW} {r : xQ} {P : xPost}
    (k : xEv g (d + 1) mX8_nearest 11 [some (.ref 53), none, some (.int i2), some (.int i3), some (.int (1000 : Int32)), some (.int i1), some (.int (0 : Int32))] [] 698 u w r 698 P) :
    xCall g (d + 1) mX8_nearest [.ref 53, .int i1, .int i2, .int i3] 698 u w r 698 P :=
  xCall.of plX8 (Nat.le_of_ble_eq_true rfl) rfl (TX8_nearest_0  k)

theorem TX8_nearest_11 {g : xGT} {d : Nat} {i2 i3 i4 i5 i6 : Int32} {u : xU} {w : xW} {r : xQ} {P : xPost}
    (k : ((¬ ((7 : Int32) ≤ i6) ∧ ¬ (i5 = (-1 : Int32))) → xCall g d mX8_distance [.ref 53, .int i5, .int i3] 698 u w r 698 (fun rv5 u5 w5 r5 => ∃ v5 : Int32, rv5 = some (.int v5) ∧ u = u5 ∧ w = w5 ∧ r = r5 ∧ xCall g d mX8_nextOf [.ref 53, .int i5, .int i2] 698 u w r 698 (fun rv6 u6 w6 r6 => ∃ v6 : Int32, rv6 = some (.int v6) ∧ u = u6 ∧ w = w6 ∧ r = r6 ∧ xEv g (d + 1) mX8_nearest 11 [some (.ref 53), none, some (.int i2), some (.int i3), some (.int (if v5 < i4 then v5 else i4)), some (.int v6), some (.int (i6 + (1 : Int32)))] [] 698 u w r 698 P))) ∧ (¬ (¬ ((7 : Int32) ≤ i6) ∧ ¬ (i5 = (-1 : Int32))) → P (some (.int i4)) u w r)) :
    xEv g (d + 1) mX8_nearest 11 [some (.ref 53), none, some (.int i2), some (.int i3), some (.int i4), some (.int i5), some (.int i6)] [] 698 u w r 698 P := by
  refine xe_iload dX8_nearest_11 rfl ?_
  refine xe_bipush (v := 7) dX8_nearest_13 rfl ?_
  have K7 : ¬ (¬ ((7 : Int32) ≤ i6) ∧ ¬ (i5 = (-1 : Int32))) → xEv g (d + 1) mX8_nearest 53 [some (.ref 53), none, some (.int i2), some (.int i3), some (.int i4), some (.int i5), some (.int i6)] [] 698 u w r 698 P := fun c8 => by
    have k := k.2 c8
    refine xe_iload dX8_nearest_53 rfl ?_
    exact xe_ireturn dX8_nearest_55 rfl k
  refine xe_icmp_ge (tgt := 53) dX8_nearest_15 rfl (fun c1 => ?_) (fun c2 => ?_)
  · exact K7 (fun q => (q.1 c1))
  · refine xe_iload dX8_nearest_18 rfl ?_
    refine xe_iconst (v := -1) dX8_nearest_20 rfl ?_
    refine xe_icmp_eq (tgt := 53) dX8_nearest_21 rfl (fun c3 => ?_) (fun c4 => ?_)
    · exact K7 (fun q => (q.2 c3))
    · have k := k.1 ⟨c2, c4⟩
      refine xe_iload dX8_nearest_24 rfl ?_
      refine xe_aload_n dX8_nearest_26 rfl ?_
      refine xe_iload dX8_nearest_27 rfl ?_
      refine xe_iload_n dX8_nearest_29 rfl ?_
      refine xe_callV (args := [.int i5, .int i3]) dX8_nearest_30 vlX8_65 rfl rfl (Nat.le_of_ble_eq_true rfl) kk53 (xKK_lt kk53) rfl rfl k (Nat.le_refl _) (fun rv5 u5 w5 r5 k => ?_)
      obtain ⟨v5, rfl, rfl, rfl, rfl, k⟩ := k
      refine xe_mmin dX8_nearest_33 mlX8_68 (Nat.le_of_ble_eq_true rfl) ?_
      refine xe_istore (ls' := [some (.ref 53), none, some (.int i2), some (.int i3), some (.int (if v5 < i4 then v5 else i4)), some (.int i5), some (.int i6)]) dX8_nearest_36 (by decide) rfl ?_
      refine xe_aload_n dX8_nearest_38 rfl ?_
      refine xe_iload dX8_nearest_39 rfl ?_
      refine xe_iload_n dX8_nearest_41 rfl ?_
      refine xe_callV (args := [.int i5, .int i2]) dX8_nearest_42 vlX8_62 rfl rfl (Nat.le_of_ble_eq_true rfl) kk53 (xKK_lt kk53) rfl rfl k (Nat.le_refl _) (fun rv6 u6 w6 r6 k => ?_)
      obtain ⟨v6, rfl, rfl, rfl, rfl, k⟩ := k
      refine xe_istore (ls' := [some (.ref 53), none, some (.int i2), some (.int i3), some (.int (if v5 < i4 then v5 else i4)), some (.int v6), some (.int i6)]) dX8_nearest_45 (by decide) rfl ?_
      refine xe_iinc (v := (i6 + (1 : Int32))) (ls' := [some (.ref 53), none, some (.int i2), some (.int i3), some (.int (if v5 < i4 then v5 else i4)), some (.int v6), some (.int (i6 + (1 : Int32)))]) dX8_nearest_47 rfl (by decide) rfl rfl ?_
      refine xe_goto (tgt := 11) dX8_nearest_50 rfl ?_
      exact k

/-! Roads.layWay -/

theorem TX8_layWay_0 {g : xGT} {d : Nat} {i1 i2 i3 : Int32} {u : xU} {w : xW} {r : xQ} {P : xPost} (hr : xRf r)
    (k : vp_in i1 7 ∧ (vp_in i2 7 ∧ (P none (x2 (x2 (x2 u (55 + i1.toNatClampNeg) i2.toNatClampNeg i3) (63 + i1.toNatClampNeg) i2.toNatClampNeg i3) 78 i1.toNatClampNeg (((x2 (x2 u (55 + i1.toNatClampNeg) i2.toNatClampNeg i3) (63 + i1.toNatClampNeg) i2.toNatClampNeg i3) 78 i1.toNatClampNeg) ||| ((1 : Int32) <<< (i2 &&& 31)))) w r))) :
    xEv g d mX8_layWay 0 [some (.ref 53), some (.int i1), some (.int i2), some (.int i3)] [] 698 u w r 698 P := by
  refine xe_aload_n dX8_layWay_0 rfl ?_
  refine xe_getR (b := 54) dX8_layWay_1 flX8_11 kk53 (xKK_lt kk53) rfl (rf53_0 hr) ?_
  refine xe_iload_n dX8_layWay_4 rfl ?_
  obtain ⟨b1, k⟩ := k
  refine xe_aald dX8_layWay_5 kk54 (xKK_lt kk54) (by simp) b1 (rr54 hr b1) ?_
  refine xe_iload_n dX8_layWay_6 rfl ?_
  refine xe_iload_n dX8_layWay_7 rfl ?_
  obtain ⟨b2, k⟩ := k
  refine xe_iast dX8_layWay_8 (kr54 (i := i1) b1) (xKK_lt (kr54 (i := i1) b1)) b2 ?_
  refine xe_aload_n dX8_layWay_9 rfl ?_
  refine xe_getR (b := 62) dX8_layWay_10 flX8_16 kk53 (xKK_lt kk53) rfl (rf53_1 hr) ?_
  refine xe_iload_n dX8_layWay_13 rfl ?_
  refine xe_aald dX8_layWay_14 kk62 (xKK_lt kk62) (by simp) b1 (rr62 hr b1) ?_
  refine xe_iload_n dX8_layWay_15 rfl ?_
  refine xe_iload_n dX8_layWay_16 rfl ?_
  refine xe_iast dX8_layWay_17 (kr62 (i := i1) b1) (xKK_lt (kr62 (i := i1) b1)) b2 ?_
  refine xe_aload_n dX8_layWay_18 rfl ?_
  refine xe_getR (b := 78) dX8_layWay_19 flX8_22 kk53 (xKK_lt kk53) rfl (rf53_3 hr) ?_
  refine xe_iload_n dX8_layWay_22 rfl ?_
  refine xe_dup2 dX8_layWay_23 rfl rfl ?_
  refine xe_iald dX8_layWay_24 kk78 (xKK_lt kk78) b1 ?_
  refine xe_iconst (v := 1) dX8_layWay_25 rfl ?_
  refine xe_iload_n dX8_layWay_26 rfl ?_
  refine xe_ishl dX8_layWay_27 ?_
  refine xe_ior dX8_layWay_28 ?_
  refine xe_iast dX8_layWay_29 kk78 (xKK_lt kk78) b1 ?_
  exact xe_return dX8_layWay_30 trivial k

theorem CX8_layWay {g : xGT} {d : Nat} {i1 i2 i3 : Int32} {u : xU} {w : xW} {r : xQ} {P : xPost} (hr : xRf r)
    (k : vp_in i1 7 ∧ (vp_in i2 7 ∧ (P none (x2 (x2 (x2 u (55 + i1.toNatClampNeg) i2.toNatClampNeg i3) (63 + i1.toNatClampNeg) i2.toNatClampNeg i3) 78 i1.toNatClampNeg (((x2 (x2 u (55 + i1.toNatClampNeg) i2.toNatClampNeg i3) (63 + i1.toNatClampNeg) i2.toNatClampNeg i3) 78 i1.toNatClampNeg) ||| ((1 : Int32) <<< (i2 &&& 31)))) w r))) :
    xCall g d mX8_layWay [.ref 53, .int i1, .int i2, .int i3] 698 u w r 698 P :=
  xCall.of plX8 (Nat.le_of_ble_eq_true rfl) rfl (TX8_layWay_0 hr k)

/-! Roads.shorten -/

theorem TX8_shorten_0 {g : xGT} {d : Nat} {u : xU} {w : xW} {r : xQ} {P : xPost}
    (k : xEv g (d + 1) mX8_shorten 2 [some (.ref 53), some (.int (0 : Int32)), none, none] [] 698 u w r 698 P) :
    xEv g (d + 1) mX8_shorten 0 [some (.ref 53), none, none, none] [] 698 u w r 698 P := by
  refine xe_iconst (v := 0) dX8_shorten_0 rfl ?_
  refine xe_istore_n (ls' := [some (.ref 53), some (.int (0 : Int32)), none, none]) dX8_shorten_1 rfl (by decide) rfl ?_
  exact k

theorem CX8_shorten {g : xGT} {d : Nat} {u : xU} {w : xW} {r : xQ} {P : xPost}
    (k : xEv g (d + 1) mX8_shorten 2 [some (.ref 53), some (.int (0 : Int32)), none, none] [] 698 u w r 698 P) :
    xCall g (d + 1) mX8_shorten [.ref 53] 698 u w r 698 P :=
  xCall.of plX8 (Nat.le_of_ble_eq_true rfl) rfl (TX8_shorten_0  k)

theorem TX8_shorten_2 {g : xGT} {d : Nat} {i1 : Int32} {u : xU} {w : xW} {r : xQ} {P : xPost}
    (k : ((7 : Int32) ≤ i1 → P none u w r) ∧ (¬ ((7 : Int32) ≤ i1) → xEv g (d + 1) mX8_shorten 10 [some (.ref 53), some (.int i1), some (.int (0 : Int32)), none] [] 698 u w r 698 P)) :
    xEv g (d + 1) mX8_shorten 2 [some (.ref 53), some (.int i1), none, none] [] 698 u w r 698 P := by
  refine xe_iload_n dX8_shorten_2 rfl ?_
  refine xe_bipush (v := 7) dX8_shorten_3 rfl ?_
  refine xe_icmp_ge (tgt := 78) dX8_shorten_5 rfl (fun c1 => ?_) (fun c2 => ?_)
  · have k := k.1 c1
    exact xe_return dX8_shorten_78 trivial k
  · have k := k.2 (fun q => (c2 q))
    refine xe_iconst (v := 0) dX8_shorten_8 rfl ?_
    refine xe_istore_n (ls' := [some (.ref 53), some (.int i1), some (.int (0 : Int32)), none]) dX8_shorten_9 rfl (by decide) rfl ?_
    exact k

theorem TX8_shorten_10 {g : xGT} {d : Nat} {i1 i2 : Int32} {u : xU} {w : xW} {r : xQ} {P : xPost}
    (k : ((7 : Int32) ≤ i2 → xEv g (d + 1) mX8_shorten 2 [some (.ref 53), some (.int (i1 + (1 : Int32))), none, none] [] 698 u w r 698 P) ∧ (¬ ((7 : Int32) ≤ i2) → xEv g (d + 1) mX8_shorten 18 [some (.ref 53), some (.int i1), some (.int i2), some (.int (0 : Int32))] [] 698 u w r 698 P)) :
    xEv g (d + 1) mX8_shorten 10 [some (.ref 53), some (.int i1), some (.int i2), none] [] 698 u w r 698 P := by
  refine xe_iload_n dX8_shorten_10 rfl ?_
  refine xe_bipush (v := 7) dX8_shorten_11 rfl ?_
  refine xe_icmp_ge (tgt := 72) dX8_shorten_13 rfl (fun c3 => ?_) (fun c4 => ?_)
  · have k := k.1 c3
    refine xe_iinc (v := (i1 + (1 : Int32))) (ls' := [some (.ref 53), some (.int (i1 + (1 : Int32))), some (.int i2), none]) dX8_shorten_72 rfl (by decide) rfl rfl ?_
    refine xe_goto (tgt := 2) dX8_shorten_75 rfl ?_
    exact xEv.fewer (ls' := [some (.ref 53), some (.int (i1 + (1 : Int32))), none, none]) k (xfw_get (xfw_s (xfw_s (xfw_n (xfw_n (xfw_nil _))))))
  · have k := k.2 (fun q => (c4 q))
    refine xe_iconst (v := 0) dX8_shorten_16 rfl ?_
    refine xe_istore_n (ls' := [some (.ref 53), some (.int i1), some (.int i2), some (.int (0 : Int32))]) dX8_shorten_17 rfl (by decide) rfl ?_
    exact k

theorem TX8_shorten_18 {g : xGT} {d : Nat} {i1 i2 i3 : Int32} {u : xU} {w : xW} {r : xQ} {P : xPost} (hr : xRf r)
    (k : ((7 : Int32) ≤ i3 → xEv g (d + 1) mX8_shorten 10 [some (.ref 53), some (.int i1), some (.int (i2 + (1 : Int32))), none] [] 698 u w r 698 P) ∧ (¬ ((7 : Int32) ≤ i3) → vp_in i2 7 ∧ (vp_in i3 7 ∧ (vp_in i1 7 ∧ (xEv g (d + 1) mX8_shorten 18 [some (.ref 53), some (.int i1), some (.int i2), some (.int (i3 + (1 : Int32)))] [] 698 (x2 u (55 + i2.toNatClampNeg) i3.toNatClampNeg (if ((u (55 + i2.toNatClampNeg) i1.toNatClampNeg) + (u (55 + i1.toNatClampNeg) i3.toNatClampNeg)) < (u (55 + i2.toNatClampNeg) i3.toNatClampNeg) then ((u (55 + i2.toNatClampNeg) i1.toNatClampNeg) + (u (55 + i1.toNatClampNeg) i3.toNatClampNeg)) else (u (55 + i2.toNatClampNeg) i3.toNatClampNeg))) w r 698 P))))) :
    xEv g (d + 1) mX8_shorten 18 [some (.ref 53), some (.int i1), some (.int i2), some (.int i3)] [] 698 u w r 698 P := by
  refine xe_iload_n dX8_shorten_18 rfl ?_
  refine xe_bipush (v := 7) dX8_shorten_19 rfl ?_
  refine xe_icmp_ge (tgt := 66) dX8_shorten_21 rfl (fun c5 => ?_) (fun c6 => ?_)
  · have k := k.1 c5
    refine xe_iinc (v := (i2 + (1 : Int32))) (ls' := [some (.ref 53), some (.int i1), some (.int (i2 + (1 : Int32))), some (.int i3)]) dX8_shorten_66 rfl (by decide) rfl rfl ?_
    refine xe_goto (tgt := 10) dX8_shorten_69 rfl ?_
    exact xEv.fewer (ls' := [some (.ref 53), some (.int i1), some (.int (i2 + (1 : Int32))), none]) k (xfw_get (xfw_s (xfw_s (xfw_s (xfw_n (xfw_nil _))))))
  · have k := k.2 (fun q => (c6 q))
    refine xe_aload_n dX8_shorten_24 rfl ?_
    refine xe_getR (b := 54) dX8_shorten_25 flX8_11 kk53 (xKK_lt kk53) rfl (rf53_0 hr) ?_
    refine xe_iload_n dX8_shorten_28 rfl ?_
    obtain ⟨b7, k⟩ := k
    refine xe_aald dX8_shorten_29 kk54 (xKK_lt kk54) (by simp) b7 (rr54 hr b7) ?_
    refine xe_iload_n dX8_shorten_30 rfl ?_
    refine xe_aload_n dX8_shorten_31 rfl ?_
    refine xe_getR (b := 54) dX8_shorten_32 flX8_11 kk53 (xKK_lt kk53) rfl (rf53_0 hr) ?_
    refine xe_iload_n dX8_shorten_35 rfl ?_
    refine xe_aald dX8_shorten_36 kk54 (xKK_lt kk54) (by simp) b7 (rr54 hr b7) ?_
    refine xe_iload_n dX8_shorten_37 rfl ?_
    obtain ⟨b8, k⟩ := k
    refine xe_iald dX8_shorten_38 (kr54 (i := i2) b7) (xKK_lt (kr54 (i := i2) b7)) b8 ?_
    refine xe_aload_n dX8_shorten_39 rfl ?_
    refine xe_getR (b := 54) dX8_shorten_40 flX8_11 kk53 (xKK_lt kk53) rfl (rf53_0 hr) ?_
    refine xe_iload_n dX8_shorten_43 rfl ?_
    refine xe_aald dX8_shorten_44 kk54 (xKK_lt kk54) (by simp) b7 (rr54 hr b7) ?_
    refine xe_iload_n dX8_shorten_45 rfl ?_
    obtain ⟨b9, k⟩ := k
    refine xe_iald dX8_shorten_46 (kr54 (i := i2) b7) (xKK_lt (kr54 (i := i2) b7)) b9 ?_
    refine xe_aload_n dX8_shorten_47 rfl ?_
    refine xe_getR (b := 54) dX8_shorten_48 flX8_11 kk53 (xKK_lt kk53) rfl (rf53_0 hr) ?_
    refine xe_iload_n dX8_shorten_51 rfl ?_
    refine xe_aald dX8_shorten_52 kk54 (xKK_lt kk54) (by simp) b9 (rr54 hr b9) ?_
    refine xe_iload_n dX8_shorten_53 rfl ?_
    refine xe_iald dX8_shorten_54 (kr54 (i := i1) b9) (xKK_lt (kr54 (i := i1) b9)) b8 ?_
    refine xe_iadd dX8_shorten_55 ?_
    refine xe_mmin dX8_shorten_56 mlX8_68 (Nat.le_of_ble_eq_true rfl) ?_
    refine xe_iast dX8_shorten_59 (kr54 (i := i2) b7) (xKK_lt (kr54 (i := i2) b7)) b8 ?_
    refine xe_iinc (v := (i3 + (1 : Int32))) (ls' := [some (.ref 53), some (.int i1), some (.int i2), some (.int (i3 + (1 : Int32)))]) dX8_shorten_60 rfl (by decide) rfl rfl ?_
    refine xe_goto (tgt := 18) dX8_shorten_63 rfl ?_
    exact k

/-! Roads.findNext -/

theorem TX8_findNext_0 {g : xGT} {d : Nat} {i1 i2 : Int32} {u : xU} {w : xW} {r : xQ} {P : xPost} (hr : xRf r)
    (k : (¬ (i1 = i2) → vp_in i1 7) ∧ ((¬ (i1 = i2) → vp_in i2 7) ∧ (((i1 = i2 ∨ ¬ ((u (55 + i1.toNatClampNeg) i2.toNatClampNeg) < (1000 : Int32))) → P (some (.int (-1 : Int32))) u w r) ∧ (¬ (i1 = i2 ∨ ¬ ((u (55 + i1.toNatClampNeg) i2.toNatClampNeg) < (1000 : Int32))) → xEv g d mX8_findNext 31 [some (.ref 53), some (.int i1), some (.int i2), some (.int (-1 : Int32)), some (.int (1000 : Int32)), some (.int (0 : Int32)), none] [] 698 u w r 698 P)))) :
    xEv g d mX8_findNext 0 [some (.ref 53), some (.int i1), some (.int i2), none, none, none, none] [] 698 u w r 698 P := by
  refine xe_iload_n dX8_findNext_0 rfl ?_
  refine xe_iload_n dX8_findNext_1 rfl ?_
  obtain ⟨b3, k⟩ := k
  obtain ⟨b4, k⟩ := k
  have K7 : (i1 = i2 ∨ ¬ ((u (55 + i1.toNatClampNeg) i2.toNatClampNeg) < (1000 : Int32))) → xEv g d mX8_findNext 19 [some (.ref 53), some (.int i1), some (.int i2), none, none, none, none] [] 698 u w r 698 P := fun c8 => by
    have k := k.1 c8
    refine xe_iconst (v := -1) dX8_findNext_19 rfl ?_
    exact xe_ireturn dX8_findNext_20 rfl k
  refine xe_icmp_eq (tgt := 19) dX8_findNext_2 rfl (fun c1 => ?_) (fun c2 => ?_)
  · exact K7 (Or.inl c1)
  · refine xe_aload_n dX8_findNext_5 rfl ?_
    refine xe_getR (b := 54) dX8_findNext_6 flX8_11 kk53 (xKK_lt kk53) rfl (rf53_0 hr) ?_
    refine xe_iload_n dX8_findNext_9 rfl ?_
    refine xe_aald dX8_findNext_10 kk54 (xKK_lt kk54) (by simp) (b3 c2) (rr54 hr (b3 c2)) ?_
    refine xe_iload_n dX8_findNext_11 rfl ?_
    refine xe_iald dX8_findNext_12 (kr54 (i := i1) (b3 c2)) (xKK_lt (kr54 (i := i1) (b3 c2))) (b4 c2) ?_
    refine xe_sipush (v := 1000) dX8_findNext_13 rfl ?_
    refine xe_icmp_lt (tgt := 21) dX8_findNext_16 rfl (fun c5 => ?_) (fun c6 => ?_)
    · have k := k.2 (fun q => (q.elim (fun z => (c2 z)) (fun z => (z c5))))
      refine xe_iconst (v := -1) dX8_findNext_21 rfl ?_
      refine xe_istore_n (ls' := [some (.ref 53), some (.int i1), some (.int i2), some (.int (-1 : Int32)), none, none, none]) dX8_findNext_22 rfl (by decide) rfl ?_
      refine xe_sipush (v := 1000) dX8_findNext_23 rfl ?_
      refine xe_istore (ls' := [some (.ref 53), some (.int i1), some (.int i2), some (.int (-1 : Int32)), some (.int (1000 : Int32)), none, none]) dX8_findNext_26 (by decide) rfl ?_
      refine xe_iconst (v := 0) dX8_findNext_28 rfl ?_
      refine xe_istore (ls' := [some (.ref 53), some (.int i1), some (.int i2), some (.int (-1 : Int32)), some (.int (1000 : Int32)), some (.int (0 : Int32)), none]) dX8_findNext_29 (by decide) rfl ?_
      exact k
    · exact K7 (Or.inr c6)

theorem CX8_findNext {g : xGT} {d : Nat} {i1 i2 : Int32} {u : xU} {w : xW} {r : xQ} {P : xPost} (hr : xRf r)
    (k : (¬ (i1 = i2) → vp_in i1 7) ∧ ((¬ (i1 = i2) → vp_in i2 7) ∧ (((i1 = i2 ∨ ¬ ((u (55 + i1.toNatClampNeg) i2.toNatClampNeg) < (1000 : Int32))) → P (some (.int (-1 : Int32))) u w r) ∧ (¬ (i1 = i2 ∨ ¬ ((u (55 + i1.toNatClampNeg) i2.toNatClampNeg) < (1000 : Int32))) → xEv g d mX8_findNext 31 [some (.ref 53), some (.int i1), some (.int i2), some (.int (-1 : Int32)), some (.int (1000 : Int32)), some (.int (0 : Int32)), none] [] 698 u w r 698 P)))) :
    xCall g d mX8_findNext [.ref 53, .int i1, .int i2] 698 u w r 698 P :=
  xCall.of plX8 (Nat.le_of_ble_eq_true rfl) rfl (TX8_findNext_0 hr k)

theorem TX8_findNext_31 {g : xGT} {d : Nat} {i1 i2 i3 i4 i5 : Int32} {u : xU} {w : xW} {r : xQ} {P : xPost} (hr : xRf r)
    (k : ((7 : Int32) ≤ i5 → P (some (.int i3)) u w r) ∧ (¬ ((7 : Int32) ≤ i5) → vp_in i1 7 ∧ (vp_in i5 7 ∧ (vp_in i2 7 ∧ ((((((u 78 i1.toNatClampNeg) >>> (i5 &&& 31)) &&& (1 : Int32)) = (1 : Int32) ∧ ¬ (i4 ≤ ((u (63 + i1.toNatClampNeg) i5.toNatClampNeg) + (u (55 + i5.toNatClampNeg) i2.toNatClampNeg)))) → xEv g d mX8_findNext 88 [some (.ref 53), some (.int i1), some (.int i2), some (.int i5), some (.int ((u (63 + i1.toNatClampNeg) i5.toNatClampNeg) + (u (55 + i5.toNatClampNeg) i2.toNatClampNeg))), some (.int i5), none] [] 698 u w r 698 P) ∧ (¬ ((((u 78 i1.toNatClampNeg) >>> (i5 &&& 31)) &&& (1 : Int32)) = (1 : Int32) ∧ ¬ (i4 ≤ ((u (63 + i1.toNatClampNeg) i5.toNatClampNeg) + (u (55 + i5.toNatClampNeg) i2.toNatClampNeg)))) → xEv g d mX8_findNext 88 [some (.ref 53), some (.int i1), some (.int i2), some (.int i3), some (.int i4), some (.int i5), none] [] 698 u w r 698 P)))))) :
    xEv g d mX8_findNext 31 [some (.ref 53), some (.int i1), some (.int i2), some (.int i3), some (.int i4), some (.int i5), none] [] 698 u w r 698 P := by
  refine xe_iload dX8_findNext_31 rfl ?_
  refine xe_bipush (v := 7) dX8_findNext_33 rfl ?_
  refine xe_icmp_ge (tgt := 94) dX8_findNext_35 rfl (fun c9 => ?_) (fun c10 => ?_)
  · have k := k.1 c9
    refine xe_iload_n dX8_findNext_94 rfl ?_
    exact xe_ireturn dX8_findNext_95 rfl k
  · have k := k.2 (fun q => (c10 q))
    refine xe_aload_n dX8_findNext_38 rfl ?_
    refine xe_getR (b := 62) dX8_findNext_39 flX8_16 kk53 (xKK_lt kk53) rfl (rf53_1 hr) ?_
    refine xe_iload_n dX8_findNext_42 rfl ?_
    obtain ⟨b11, k⟩ := k
    refine xe_aald dX8_findNext_43 kk62 (xKK_lt kk62) (by simp) b11 (rr62 hr b11) ?_
    refine xe_iload dX8_findNext_44 rfl ?_
    obtain ⟨b12, k⟩ := k
    refine xe_iald dX8_findNext_46 (kr62 (i := i1) b11) (xKK_lt (kr62 (i := i1) b11)) b12 ?_
    refine xe_aload_n dX8_findNext_47 rfl ?_
    refine xe_getR (b := 54) dX8_findNext_48 flX8_11 kk53 (xKK_lt kk53) rfl (rf53_0 hr) ?_
    refine xe_iload dX8_findNext_51 rfl ?_
    refine xe_aald dX8_findNext_53 kk54 (xKK_lt kk54) (by simp) b12 (rr54 hr b12) ?_
    refine xe_iload_n dX8_findNext_54 rfl ?_
    obtain ⟨b13, k⟩ := k
    refine xe_iald dX8_findNext_55 (kr54 (i := i5) b12) (xKK_lt (kr54 (i := i5) b12)) b13 ?_
    refine xe_iadd dX8_findNext_56 ?_
    refine xe_istore (ls' := [some (.ref 53), some (.int i1), some (.int i2), some (.int i3), some (.int i4), some (.int i5), some (.int ((u (63 + i1.toNatClampNeg) i5.toNatClampNeg) + (u (55 + i5.toNatClampNeg) i2.toNatClampNeg)))]) dX8_findNext_57 (by decide) rfl ?_
    refine xe_aload_n dX8_findNext_59 rfl ?_
    refine xe_getR (b := 78) dX8_findNext_60 flX8_22 kk53 (xKK_lt kk53) rfl (rf53_3 hr) ?_
    refine xe_iload_n dX8_findNext_63 rfl ?_
    refine xe_iald dX8_findNext_64 kk78 (xKK_lt kk78) b11 ?_
    refine xe_iload dX8_findNext_65 rfl ?_
    refine xe_ishr dX8_findNext_67 ?_
    refine xe_iconst (v := 1) dX8_findNext_68 rfl ?_
    refine xe_iand dX8_findNext_69 ?_
    refine xe_iconst (v := 1) dX8_findNext_70 rfl ?_
    have K18 : ¬ ((((u 78 i1.toNatClampNeg) >>> (i5 &&& 31)) &&& (1 : Int32)) = (1 : Int32) ∧ ¬ (i4 ≤ ((u (63 + i1.toNatClampNeg) i5.toNatClampNeg) + (u (55 + i5.toNatClampNeg) i2.toNatClampNeg)))) → xEv g d mX8_findNext 88 [some (.ref 53), some (.int i1), some (.int i2), some (.int i3), some (.int i4), some (.int i5), some (.int ((u (63 + i1.toNatClampNeg) i5.toNatClampNeg) + (u (55 + i5.toNatClampNeg) i2.toNatClampNeg)))] [] 698 u w r 698 P := fun c19 => by
      have k := k.2 c19
      exact xEv.fewer (ls' := [some (.ref 53), some (.int i1), some (.int i2), some (.int i3), some (.int i4), some (.int i5), none]) k (xfw_get (xfw_s (xfw_s (xfw_s (xfw_s (xfw_s (xfw_s (xfw_n (xfw_nil _)))))))))
    refine xe_icmp_ne (tgt := 88) dX8_findNext_71 rfl (fun c14 => ?_) (fun c15 => ?_)
    · exact K18 (fun q => (c14 q.1))
    · refine xe_iload dX8_findNext_74 rfl ?_
      refine xe_iload dX8_findNext_76 rfl ?_
      refine xe_icmp_ge (tgt := 88) dX8_findNext_78 rfl (fun c16 => ?_) (fun c17 => ?_)
      · exact K18 (fun q => (q.2 c16))
      · have k := k.1 ⟨c15, c17⟩
        refine xe_iload dX8_findNext_81 rfl ?_
        refine xe_istore_n (ls' := [some (.ref 53), some (.int i1), some (.int i2), some (.int i5), some (.int i4), some (.int i5), some (.int ((u (63 + i1.toNatClampNeg) i5.toNatClampNeg) + (u (55 + i5.toNatClampNeg) i2.toNatClampNeg)))]) dX8_findNext_83 rfl (by decide) rfl ?_
        refine xe_iload dX8_findNext_84 rfl ?_
        refine xe_istore (ls' := [some (.ref 53), some (.int i1), some (.int i2), some (.int i5), some (.int ((u (63 + i1.toNatClampNeg) i5.toNatClampNeg) + (u (55 + i5.toNatClampNeg) i2.toNatClampNeg))), some (.int i5), some (.int ((u (63 + i1.toNatClampNeg) i5.toNatClampNeg) + (u (55 + i5.toNatClampNeg) i2.toNatClampNeg)))]) dX8_findNext_86 (by decide) rfl ?_
        exact xEv.fewer (ls' := [some (.ref 53), some (.int i1), some (.int i2), some (.int i5), some (.int ((u (63 + i1.toNatClampNeg) i5.toNatClampNeg) + (u (55 + i5.toNatClampNeg) i2.toNatClampNeg))), some (.int i5), none]) k (xfw_get (xfw_s (xfw_s (xfw_s (xfw_s (xfw_s (xfw_s (xfw_n (xfw_nil _)))))))))

theorem TX8_findNext_88 {g : xGT} {d : Nat} {i1 i2 i3 i4 i5 : Int32} {u : xU} {w : xW} {r : xQ} {P : xPost}
    (k : xEv g d mX8_findNext 31 [some (.ref 53), some (.int i1), some (.int i2), some (.int i3), some (.int i4), some (.int (i5 + (1 : Int32))), none] [] 698 u w r 698 P) :
    xEv g d mX8_findNext 88 [some (.ref 53), some (.int i1), some (.int i2), some (.int i3), some (.int i4), some (.int i5), none] [] 698 u w r 698 P := by
  refine xe_iinc (v := (i5 + (1 : Int32))) (ls' := [some (.ref 53), some (.int i1), some (.int i2), some (.int i3), some (.int i4), some (.int (i5 + (1 : Int32))), none]) dX8_findNext_88 rfl (by decide) rfl rfl ?_
  refine xe_goto (tgt := 31) dX8_findNext_91 rfl ?_
  exact k

/-! State.begin -/

theorem TX9_begin_0 {g : xGT} {d : Nat} {s l : Nat} {u : xU} {w : xW} {r : xQ} {P : xPost} (h_s : xSt s)
    (k : xEv g (d + 1) mX9_begin 17 [some (.ref s), some (.ref l), some (.int (0 : Int32))] [] 698 (x2 (x2 (x2 u s 0 (0 : Int32)) s 1 (0 : Int32)) s 2 (0 : Int32)) w r 698 P) :
    xEv g (d + 1) mX9_begin 0 [some (.ref s), some (.ref l), none] [] 698 u w r 698 P := by
  refine xe_aload_n dX9_begin_0 rfl ?_
  refine xe_iconst (v := 0) dX9_begin_1 rfl ?_
  refine xe_putI dX9_begin_2 flX9_45 h_s.k0 (xKK_lt h_s.k0) nf9_0 rfl ?_
  refine xe_aload_n dX9_begin_5 rfl ?_
  refine xe_iconst (v := 0) dX9_begin_6 rfl ?_
  refine xe_putI dX9_begin_7 flX9_49 h_s.k0 (xKK_lt h_s.k0) nf9_1 rfl ?_
  refine xe_aload_n dX9_begin_10 rfl ?_
  refine xe_iconst (v := 0) dX9_begin_11 rfl ?_
  refine xe_putI dX9_begin_12 flX9_52 h_s.k0 (xKK_lt h_s.k0) nf9_2 rfl ?_
  refine xe_iconst (v := 0) dX9_begin_15 rfl ?_
  refine xe_istore_n (ls' := [some (.ref s), some (.ref l), some (.int (0 : Int32))]) dX9_begin_16 rfl (by decide) rfl ?_
  exact k

theorem CX9_begin {g : xGT} {d : Nat} {s l : Nat} {u : xU} {w : xW} {r : xQ} {P : xPost} (h_s : xSt s)
    (k : xEv g (d + 1) mX9_begin 17 [some (.ref s), some (.ref l), some (.int (0 : Int32))] [] 698 (x2 (x2 (x2 u s 0 (0 : Int32)) s 1 (0 : Int32)) s 2 (0 : Int32)) w r 698 P) :
    xCall g (d + 1) mX9_begin [.ref s, .ref l] 698 u w r 698 P :=
  xCall.of plX9 (Nat.le_of_ble_eq_true rfl) rfl (TX9_begin_0 h_s k)

theorem TX9_begin_17 {g : xGT} {d : Nat} {i2 : Int32} {s l : Nat} {u : xU} {w : xW} {r : xQ} {P : xPost} (h_s : xSt s) (q_s : xSr s r) (h_l : xLd l) (q_l : xLr l r)
    (k : ((6 : Int32) ≤ i2 → xEv g (d + 1) mX9_begin 64 [some (.ref s), some (.ref l), some (.int (0 : Int32))] [] 698 u w r 698 P) ∧ (¬ ((6 : Int32) ≤ i2) → vp_in i2 6 ∧ (xEv g (d + 1) mX9_begin 17 [some (.ref s), some (.ref l), some (.int (i2 + (1 : Int32)))] [] 698 (x2 (x2 (x2 (x2 u (s + 1) i2.toNatClampNeg (0 : Int32)) (s + 2) i2.toNatClampNeg ((x2 u (s + 1) i2.toNatClampNeg (0 : Int32)) (l + 4) i2.toNatClampNeg)) (s + 3) i2.toNatClampNeg (-1 : Int32)) (s + 4) i2.toNatClampNeg (0 : Int32)) w r 698 P))) :
    xEv g (d + 1) mX9_begin 17 [some (.ref s), some (.ref l), some (.int i2)] [] 698 u w r 698 P := by
  refine xe_iload_n dX9_begin_17 rfl ?_
  refine xe_bipush (v := 6) dX9_begin_18 rfl ?_
  refine xe_icmp_ge (tgt := 62) dX9_begin_20 rfl (fun c1 => ?_) (fun c2 => ?_)
  · have k := k.1 c1
    refine xe_iconst (v := 0) dX9_begin_62 rfl ?_
    refine xe_istore_n (ls' := [some (.ref s), some (.ref l), some (.int (0 : Int32))]) dX9_begin_63 rfl (by decide) rfl ?_
    exact k
  · have k := k.2 (fun q => (c2 q))
    refine xe_aload_n dX9_begin_23 rfl ?_
    refine xe_getR (b := (s + 1)) dX9_begin_24 flX9_9 h_s.k0 (xKK_lt h_s.k0) rfl q_s.f3 ?_
    refine xe_iload_n dX9_begin_27 rfl ?_
    refine xe_iconst (v := 0) dX9_begin_28 rfl ?_
    obtain ⟨b3, k⟩ := k
    refine xe_iast dX9_begin_29 h_s.k1 (xKK_lt h_s.k1) b3 ?_
    refine xe_aload_n dX9_begin_30 rfl ?_
    refine xe_getR (b := (s + 2)) dX9_begin_31 flX9_15 h_s.k0 (xKK_lt h_s.k0) rfl q_s.f4 ?_
    refine xe_iload_n dX9_begin_34 rfl ?_
    refine xe_aload_n dX9_begin_35 rfl ?_
    refine xe_getR (b := (l + 4)) dX9_begin_36 flX9_55 h_l.k0 (xKK_lt h_l.k0) rfl q_l.1.f6 ?_
    refine xe_iload_n dX9_begin_39 rfl ?_
    refine xe_iald dX9_begin_40 h_l.k4 (xKK_lt h_l.k4) b3 ?_
    refine xe_iast dX9_begin_41 h_s.k2 (xKK_lt h_s.k2) b3 ?_
    refine xe_aload_n dX9_begin_42 rfl ?_
    refine xe_getR (b := (s + 3)) dX9_begin_43 flX9_18 h_s.k0 (xKK_lt h_s.k0) rfl q_s.f5 ?_
    refine xe_iload_n dX9_begin_46 rfl ?_
    refine xe_iconst (v := -1) dX9_begin_47 rfl ?_
    refine xe_iast dX9_begin_48 h_s.k3 (xKK_lt h_s.k3) b3 ?_
    refine xe_aload_n dX9_begin_49 rfl ?_
    refine xe_getR (b := (s + 4)) dX9_begin_50 flX9_21 h_s.k0 (xKK_lt h_s.k0) rfl q_s.f6 ?_
    refine xe_iload_n dX9_begin_53 rfl ?_
    refine xe_iconst (v := 0) dX9_begin_54 rfl ?_
    refine xe_iast dX9_begin_55 h_s.k4 (xKK_lt h_s.k4) b3 ?_
    refine xe_iinc (v := (i2 + (1 : Int32))) (ls' := [some (.ref s), some (.ref l), some (.int (i2 + (1 : Int32)))]) dX9_begin_56 rfl (by decide) rfl rfl ?_
    refine xe_goto (tgt := 17) dX9_begin_59 rfl ?_
    exact k

theorem TX9_begin_64 {g : xGT} {d : Nat} {i2 : Int32} {s l : Nat} {u : xU} {w : xW} {r : xQ} {P : xPost} (h_s : xSt s) (h_l : xLd l) (q_l : xLr l r)
    (k : ((u l 10) ≤ i2 → P none u w r) ∧ (¬ ((u l 10) ≤ i2) → vp_in i2 8 ∧ (xCall g d mX9_addLetter [.ref s, .int (u (l + 8) i2.toNatClampNeg), .int (u (l + 9) i2.toNatClampNeg), .int (u (l + 10) i2.toNatClampNeg), .int (u (l + 11) i2.toNatClampNeg)] 698 u w r 698 (fun rv7 u7 w7 r7 => ∃ v7 : Int32, rv7 = some (.int v7) ∧ w = w7 ∧ r = r7 ∧ xEv g (d + 1) mX9_begin 64 [some (.ref s), some (.ref l), some (.int (i2 + (1 : Int32)))] [] 698 u7 w r 698 P)))) :
    xEv g (d + 1) mX9_begin 64 [some (.ref s), some (.ref l), some (.int i2)] [] 698 u w r 698 P := by
  refine xe_iload_n dX9_begin_64 rfl ?_
  refine xe_aload_n dX9_begin_65 rfl ?_
  refine xe_getI dX9_begin_66 flX9_60 h_l.k0 (xKK_lt h_l.k0) rfl ?_
  refine xe_icmp_ge (tgt := 107) dX9_begin_69 rfl (fun c4 => ?_) (fun c5 => ?_)
  · have k := k.1 c4
    exact xe_return dX9_begin_107 trivial k
  · have k := k.2 (fun q => (c5 q))
    refine xe_aload_n dX9_begin_72 rfl ?_
    refine xe_aload_n dX9_begin_73 rfl ?_
    refine xe_getR (b := (l + 8)) dX9_begin_74 flX9_61 h_l.k0 (xKK_lt h_l.k0) rfl q_l.1.f11 ?_
    refine xe_iload_n dX9_begin_77 rfl ?_
    obtain ⟨b6, k⟩ := k
    refine xe_iald dX9_begin_78 h_l.k8 (xKK_lt h_l.k8) b6 ?_
    refine xe_aload_n dX9_begin_79 rfl ?_
    refine xe_getR (b := (l + 9)) dX9_begin_80 flX9_64 h_l.k0 (xKK_lt h_l.k0) rfl q_l.1.f12 ?_
    refine xe_iload_n dX9_begin_83 rfl ?_
    refine xe_iald dX9_begin_84 h_l.k9 (xKK_lt h_l.k9) b6 ?_
    refine xe_aload_n dX9_begin_85 rfl ?_
    refine xe_getR (b := (l + 10)) dX9_begin_86 flX9_65 h_l.k0 (xKK_lt h_l.k0) rfl q_l.1.f13 ?_
    refine xe_iload_n dX9_begin_89 rfl ?_
    refine xe_iald dX9_begin_90 h_l.k10 (xKK_lt h_l.k10) b6 ?_
    refine xe_aload_n dX9_begin_91 rfl ?_
    refine xe_getR (b := (l + 11)) dX9_begin_92 flX9_66 h_l.k0 (xKK_lt h_l.k0) rfl q_l.1.f14 ?_
    refine xe_iload_n dX9_begin_95 rfl ?_
    refine xe_iald dX9_begin_96 h_l.k11 (xKK_lt h_l.k11) b6 ?_
    refine xe_callV (args := [.int (u (l + 8) i2.toNatClampNeg), .int (u (l + 9) i2.toNatClampNeg), .int (u (l + 10) i2.toNatClampNeg), .int (u (l + 11) i2.toNatClampNeg)]) dX9_begin_97 vlX9_67 rfl rfl (Nat.le_of_ble_eq_true rfl) h_s.k0 (xKK_lt h_s.k0) rfl rfl k (Nat.le_refl _) (fun rv7 u7 w7 r7 k => ?_)
    obtain ⟨v7, rfl, rfl, rfl, k⟩ := k
    refine xe_pop dX9_begin_100 rfl ?_
    refine xe_iinc (v := (i2 + (1 : Int32))) (ls' := [some (.ref s), some (.ref l), some (.int (i2 + (1 : Int32)))]) dX9_begin_101 rfl (by decide) rfl rfl ?_
    refine xe_goto (tgt := 64) dX9_begin_104 rfl ?_
    exact k

/-! State.copyFrom -/

set_option maxRecDepth 20000 in
theorem TX9_copyFrom_0 {g : xGT} {d : Nat} {s o : Nat} {u : xU} {w : xW} {r : xQ} {P : xPost} (h_s : xSt s) (q_s : xSr s r) (h_o : xSt o) (q_o : xSr o r)
    (k : P none (xcp (xcp (xcp (xcp (xcp (xcp (xcp (xcp (xcp (xcp (xcp (x2 (x2 (x2 u s 0 (u o 0)) s 1 ((x2 u s 0 (u o 0)) o 1)) s 2 ((x2 (x2 u s 0 (u o 0)) s 1 ((x2 u s 0 (u o 0)) o 1)) o 2)) (o + 1) (s + 1) 6) (o + 2) (s + 2) 6) (o + 3) (s + 3) 6) (o + 4) (s + 4) 6) (o + 5) (s + 5) 10) (o + 6) (s + 6) 10) (o + 7) (s + 7) 10) (o + 8) (s + 8) 10) (o + 9) (s + 9) 10) (o + 10) (s + 10) 10) (o + 11) (s + 11) 10) w r) :
    xEv g (d + 1) mX9_copyFrom 0 [some (.ref s), some (.ref o)] [] 698 u w r 698 P := by
  refine xe_aload_n dX9_copyFrom_0 rfl ?_
  refine xe_aload_n dX9_copyFrom_1 rfl ?_
  refine xe_getI dX9_copyFrom_2 flX9_45 h_o.k0 (xKK_lt h_o.k0) rfl ?_
  refine xe_putI dX9_copyFrom_5 flX9_45 h_s.k0 (xKK_lt h_s.k0) nf9_0 rfl ?_
  refine xe_aload_n dX9_copyFrom_8 rfl ?_
  refine xe_aload_n dX9_copyFrom_9 rfl ?_
  refine xe_getI dX9_copyFrom_10 flX9_49 h_o.k0 (xKK_lt h_o.k0) rfl ?_
  refine xe_putI dX9_copyFrom_13 flX9_49 h_s.k0 (xKK_lt h_s.k0) nf9_1 rfl ?_
  refine xe_aload_n dX9_copyFrom_16 rfl ?_
  refine xe_aload_n dX9_copyFrom_17 rfl ?_
  refine xe_getI dX9_copyFrom_18 flX9_52 h_o.k0 (xKK_lt h_o.k0) rfl ?_
  refine xe_putI dX9_copyFrom_21 flX9_52 h_s.k0 (xKK_lt h_s.k0) nf9_2 rfl ?_
  refine xe_aload_n dX9_copyFrom_24 rfl ?_
  refine xe_getR (b := (o + 1)) dX9_copyFrom_25 flX9_9 h_o.k0 (xKK_lt h_o.k0) rfl q_o.f3 ?_
  refine xe_iconst (v := 0) dX9_copyFrom_28 rfl ?_
  refine xe_aload_n dX9_copyFrom_29 rfl ?_
  refine xe_getR (b := (s + 1)) dX9_copyFrom_30 flX9_9 h_s.k0 (xKK_lt h_s.k0) rfl q_s.f3 ?_
  refine xe_iconst (v := 0) dX9_copyFrom_33 rfl ?_
  refine xe_bipush (v := 6) dX9_copyFrom_34 rfl ?_
  refine xe_copy (N := 6) dX9_copyFrom_36 clX9_71 h_o.k1 h_s.k1 (xKK_lt h_o.k1) (xKK_lt h_s.k1) rfl (by decide) (by decide) (Nat.le_of_ble_eq_true rfl) ?_
  refine xe_aload_n dX9_copyFrom_39 rfl ?_
  refine xe_getR (b := (o + 2)) dX9_copyFrom_40 flX9_15 h_o.k0 (xKK_lt h_o.k0) rfl q_o.f4 ?_
  refine xe_iconst (v := 0) dX9_copyFrom_43 rfl ?_
  refine xe_aload_n dX9_copyFrom_44 rfl ?_
  refine xe_getR (b := (s + 2)) dX9_copyFrom_45 flX9_15 h_s.k0 (xKK_lt h_s.k0) rfl q_s.f4 ?_
  refine xe_iconst (v := 0) dX9_copyFrom_48 rfl ?_
  refine xe_bipush (v := 6) dX9_copyFrom_49 rfl ?_
  refine xe_copy (N := 6) dX9_copyFrom_51 clX9_71 h_o.k2 h_s.k2 (xKK_lt h_o.k2) (xKK_lt h_s.k2) rfl (by decide) (by decide) (Nat.le_of_ble_eq_true rfl) ?_
  refine xe_aload_n dX9_copyFrom_54 rfl ?_
  refine xe_getR (b := (o + 3)) dX9_copyFrom_55 flX9_18 h_o.k0 (xKK_lt h_o.k0) rfl q_o.f5 ?_
  refine xe_iconst (v := 0) dX9_copyFrom_58 rfl ?_
  refine xe_aload_n dX9_copyFrom_59 rfl ?_
  refine xe_getR (b := (s + 3)) dX9_copyFrom_60 flX9_18 h_s.k0 (xKK_lt h_s.k0) rfl q_s.f5 ?_
  refine xe_iconst (v := 0) dX9_copyFrom_63 rfl ?_
  refine xe_bipush (v := 6) dX9_copyFrom_64 rfl ?_
  refine xe_copy (N := 6) dX9_copyFrom_66 clX9_71 h_o.k3 h_s.k3 (xKK_lt h_o.k3) (xKK_lt h_s.k3) rfl (by decide) (by decide) (Nat.le_of_ble_eq_true rfl) ?_
  refine xe_aload_n dX9_copyFrom_69 rfl ?_
  refine xe_getR (b := (o + 4)) dX9_copyFrom_70 flX9_21 h_o.k0 (xKK_lt h_o.k0) rfl q_o.f6 ?_
  refine xe_iconst (v := 0) dX9_copyFrom_73 rfl ?_
  refine xe_aload_n dX9_copyFrom_74 rfl ?_
  refine xe_getR (b := (s + 4)) dX9_copyFrom_75 flX9_21 h_s.k0 (xKK_lt h_s.k0) rfl q_s.f6 ?_
  refine xe_iconst (v := 0) dX9_copyFrom_78 rfl ?_
  refine xe_bipush (v := 6) dX9_copyFrom_79 rfl ?_
  refine xe_copy (N := 6) dX9_copyFrom_81 clX9_71 h_o.k4 h_s.k4 (xKK_lt h_o.k4) (xKK_lt h_s.k4) rfl (by decide) (by decide) (Nat.le_of_ble_eq_true rfl) ?_
  refine xe_aload_n dX9_copyFrom_84 rfl ?_
  refine xe_getR (b := (o + 5)) dX9_copyFrom_85 flX9_24 h_o.k0 (xKK_lt h_o.k0) rfl q_o.f7 ?_
  refine xe_iconst (v := 0) dX9_copyFrom_88 rfl ?_
  refine xe_aload_n dX9_copyFrom_89 rfl ?_
  refine xe_getR (b := (s + 5)) dX9_copyFrom_90 flX9_24 h_s.k0 (xKK_lt h_s.k0) rfl q_s.f7 ?_
  refine xe_iconst (v := 0) dX9_copyFrom_93 rfl ?_
  refine xe_bipush (v := 10) dX9_copyFrom_94 rfl ?_
  refine xe_copy (N := 10) dX9_copyFrom_96 clX9_71 h_o.k5 h_s.k5 (xKK_lt h_o.k5) (xKK_lt h_s.k5) rfl (by decide) (by decide) (Nat.le_of_ble_eq_true rfl) ?_
  refine xe_aload_n dX9_copyFrom_99 rfl ?_
  refine xe_getR (b := (o + 6)) dX9_copyFrom_100 flX9_27 h_o.k0 (xKK_lt h_o.k0) rfl q_o.f8 ?_
  refine xe_iconst (v := 0) dX9_copyFrom_103 rfl ?_
  refine xe_aload_n dX9_copyFrom_104 rfl ?_
  refine xe_getR (b := (s + 6)) dX9_copyFrom_105 flX9_27 h_s.k0 (xKK_lt h_s.k0) rfl q_s.f8 ?_
  refine xe_iconst (v := 0) dX9_copyFrom_108 rfl ?_
  refine xe_bipush (v := 10) dX9_copyFrom_109 rfl ?_
  refine xe_copy (N := 10) dX9_copyFrom_111 clX9_71 h_o.k6 h_s.k6 (xKK_lt h_o.k6) (xKK_lt h_s.k6) rfl (by decide) (by decide) (Nat.le_of_ble_eq_true rfl) ?_
  refine xe_aload_n dX9_copyFrom_114 rfl ?_
  refine xe_getR (b := (o + 7)) dX9_copyFrom_115 flX9_30 h_o.k0 (xKK_lt h_o.k0) rfl q_o.f9 ?_
  refine xe_iconst (v := 0) dX9_copyFrom_118 rfl ?_
  refine xe_aload_n dX9_copyFrom_119 rfl ?_
  refine xe_getR (b := (s + 7)) dX9_copyFrom_120 flX9_30 h_s.k0 (xKK_lt h_s.k0) rfl q_s.f9 ?_
  refine xe_iconst (v := 0) dX9_copyFrom_123 rfl ?_
  refine xe_bipush (v := 10) dX9_copyFrom_124 rfl ?_
  refine xe_copy (N := 10) dX9_copyFrom_126 clX9_71 h_o.k7 h_s.k7 (xKK_lt h_o.k7) (xKK_lt h_s.k7) rfl (by decide) (by decide) (Nat.le_of_ble_eq_true rfl) ?_
  refine xe_aload_n dX9_copyFrom_129 rfl ?_
  refine xe_getR (b := (o + 8)) dX9_copyFrom_130 flX9_33 h_o.k0 (xKK_lt h_o.k0) rfl q_o.f10 ?_
  refine xe_iconst (v := 0) dX9_copyFrom_133 rfl ?_
  refine xe_aload_n dX9_copyFrom_134 rfl ?_
  refine xe_getR (b := (s + 8)) dX9_copyFrom_135 flX9_33 h_s.k0 (xKK_lt h_s.k0) rfl q_s.f10 ?_
  refine xe_iconst (v := 0) dX9_copyFrom_138 rfl ?_
  refine xe_bipush (v := 10) dX9_copyFrom_139 rfl ?_
  refine xe_copy (N := 10) dX9_copyFrom_141 clX9_71 h_o.k8 h_s.k8 (xKK_lt h_o.k8) (xKK_lt h_s.k8) rfl (by decide) (by decide) (Nat.le_of_ble_eq_true rfl) ?_
  refine xe_aload_n dX9_copyFrom_144 rfl ?_
  refine xe_getR (b := (o + 9)) dX9_copyFrom_145 flX9_36 h_o.k0 (xKK_lt h_o.k0) rfl q_o.f11 ?_
  refine xe_iconst (v := 0) dX9_copyFrom_148 rfl ?_
  refine xe_aload_n dX9_copyFrom_149 rfl ?_
  refine xe_getR (b := (s + 9)) dX9_copyFrom_150 flX9_36 h_s.k0 (xKK_lt h_s.k0) rfl q_s.f11 ?_
  refine xe_iconst (v := 0) dX9_copyFrom_153 rfl ?_
  refine xe_bipush (v := 10) dX9_copyFrom_154 rfl ?_
  refine xe_copy (N := 10) dX9_copyFrom_156 clX9_71 h_o.k9 h_s.k9 (xKK_lt h_o.k9) (xKK_lt h_s.k9) rfl (by decide) (by decide) (Nat.le_of_ble_eq_true rfl) ?_
  refine xe_aload_n dX9_copyFrom_159 rfl ?_
  refine xe_getR (b := (o + 10)) dX9_copyFrom_160 flX9_39 h_o.k0 (xKK_lt h_o.k0) rfl q_o.f12 ?_
  refine xe_iconst (v := 0) dX9_copyFrom_163 rfl ?_
  refine xe_aload_n dX9_copyFrom_164 rfl ?_
  refine xe_getR (b := (s + 10)) dX9_copyFrom_165 flX9_39 h_s.k0 (xKK_lt h_s.k0) rfl q_s.f12 ?_
  refine xe_iconst (v := 0) dX9_copyFrom_168 rfl ?_
  refine xe_bipush (v := 10) dX9_copyFrom_169 rfl ?_
  refine xe_copy (N := 10) dX9_copyFrom_171 clX9_71 h_o.k10 h_s.k10 (xKK_lt h_o.k10) (xKK_lt h_s.k10) rfl (by decide) (by decide) (Nat.le_of_ble_eq_true rfl) ?_
  refine xe_aload_n dX9_copyFrom_174 rfl ?_
  refine xe_getR (b := (o + 11)) dX9_copyFrom_175 flX9_42 h_o.k0 (xKK_lt h_o.k0) rfl q_o.f13 ?_
  refine xe_iconst (v := 0) dX9_copyFrom_178 rfl ?_
  refine xe_aload_n dX9_copyFrom_179 rfl ?_
  refine xe_getR (b := (s + 11)) dX9_copyFrom_180 flX9_42 h_s.k0 (xKK_lt h_s.k0) rfl q_s.f13 ?_
  refine xe_iconst (v := 0) dX9_copyFrom_183 rfl ?_
  refine xe_bipush (v := 10) dX9_copyFrom_184 rfl ?_
  refine xe_copy (N := 10) dX9_copyFrom_186 clX9_71 h_o.k11 h_s.k11 (xKK_lt h_o.k11) (xKK_lt h_s.k11) rfl (by decide) (by decide) (Nat.le_of_ble_eq_true rfl) ?_
  exact xe_return dX9_copyFrom_189 trivial k

theorem CX9_copyFrom {g : xGT} {d : Nat} {s o : Nat} {u : xU} {w : xW} {r : xQ} {P : xPost} (h_s : xSt s) (q_s : xSr s r) (h_o : xSt o) (q_o : xSr o r)
    (k : P none (xcp (xcp (xcp (xcp (xcp (xcp (xcp (xcp (xcp (xcp (xcp (x2 (x2 (x2 u s 0 (u o 0)) s 1 ((x2 u s 0 (u o 0)) o 1)) s 2 ((x2 (x2 u s 0 (u o 0)) s 1 ((x2 u s 0 (u o 0)) o 1)) o 2)) (o + 1) (s + 1) 6) (o + 2) (s + 2) 6) (o + 3) (s + 3) 6) (o + 4) (s + 4) 6) (o + 5) (s + 5) 10) (o + 6) (s + 6) 10) (o + 7) (s + 7) 10) (o + 8) (s + 8) 10) (o + 9) (s + 9) 10) (o + 10) (s + 10) 10) (o + 11) (s + 11) 10) w r) :
    xCall g (d + 1) mX9_copyFrom [.ref s, .ref o] 698 u w r 698 P :=
  xCall.of plX9 (Nat.le_of_ble_eq_true rfl) rfl (TX9_copyFrom_0 h_s q_s h_o q_o k)

/-! State.addLetter -/

theorem TX9_addLetter_0 {g : xGT} {d : Nat} {i1 i2 i3 i4 : Int32} {s : Nat} {u : xU} {w : xW} {r : xQ} {P : xPost} (h_s : xSt s) (q_s : xSr s r)
    (k : xCall g d mX11_isOneOf [.int (u s 2), .int (10 : Int32)] 698 u w r 698 (fun rv1 u1 w1 r1 => ∃ v1 : Int32, rv1 = some (.int v1) ∧ u = u1 ∧ w = w1 ∧ r = r1 ∧ (v1 = 0 → P (some (.int (-1 : Int32))) u w r) ∧ (¬ (v1 = 0) → vp_in (u s 2) 10 ∧ (P (some (.int (u s 2))) (x2 (x2 (x2 (x2 (x2 (x2 (x2 (x2 u (s + 5) (u s 2).toNatClampNeg i1) (s + 6) (u s 2).toNatClampNeg (-1 : Int32)) (s + 7) (u s 2).toNatClampNeg (-1 : Int32)) (s + 8) (u s 2).toNatClampNeg i2) (s + 9) (u s 2).toNatClampNeg i3) (s + 10) (u s 2).toNatClampNeg i4) (s + 11) (u s 2).toNatClampNeg (0 : Int32)) s 2 (((x2 (x2 (x2 (x2 (x2 (x2 (x2 u (s + 5) (u s 2).toNatClampNeg i1) (s + 6) (u s 2).toNatClampNeg (-1 : Int32)) (s + 7) (u s 2).toNatClampNeg (-1 : Int32)) (s + 8) (u s 2).toNatClampNeg i2) (s + 9) (u s 2).toNatClampNeg i3) (s + 10) (u s 2).toNatClampNeg i4) (s + 11) (u s 2).toNatClampNeg (0 : Int32)) s 2) + (1 : Int32))) w r)))) :
    xEv g (d + 1) mX9_addLetter 0 [some (.ref s), some (.int i1), some (.int i2), some (.int i3), some (.int i4), none] [] 698 u w r 698 P := by
  refine xe_aload_n dX9_addLetter_0 rfl ?_
  refine xe_getI dX9_addLetter_1 flX9_52 h_s.k0 (xKK_lt h_s.k0) rfl ?_
  refine xe_istore (ls' := [some (.ref s), some (.int i1), some (.int i2), some (.int i3), some (.int i4), some (.int (u s 2))]) dX9_addLetter_4 (by decide) rfl ?_
  refine xe_iload dX9_addLetter_6 rfl ?_
  refine xe_bipush (v := 10) dX9_addLetter_8 rfl ?_
  refine xe_callSN (args := [.int (u s 2), .int (10 : Int32)]) dX9_addLetter_10 snX9_77 rfl rfl (Nat.le_of_ble_eq_true rfl) k (Nat.le_refl _) (fun rv1 u1 w1 r1 k => ?_)
  obtain ⟨v1, rfl, rfl, rfl, rfl, k⟩ := k
  refine xe_if_ne (tgt := 18) dX9_addLetter_13 rfl (fun c2 => ?_) (fun c3 => ?_)
  · have k := k.2 (fun q => (c2 q))
    refine xe_aload_n dX9_addLetter_18 rfl ?_
    refine xe_getR (b := (s + 5)) dX9_addLetter_19 flX9_24 h_s.k0 (xKK_lt h_s.k0) rfl q_s.f7 ?_
    refine xe_iload dX9_addLetter_22 rfl ?_
    refine xe_iload_n dX9_addLetter_24 rfl ?_
    obtain ⟨b4, k⟩ := k
    refine xe_iast dX9_addLetter_25 h_s.k5 (xKK_lt h_s.k5) b4 ?_
    refine xe_aload_n dX9_addLetter_26 rfl ?_
    refine xe_getR (b := (s + 6)) dX9_addLetter_27 flX9_27 h_s.k0 (xKK_lt h_s.k0) rfl q_s.f8 ?_
    refine xe_iload dX9_addLetter_30 rfl ?_
    refine xe_iconst (v := -1) dX9_addLetter_32 rfl ?_
    refine xe_iast dX9_addLetter_33 h_s.k6 (xKK_lt h_s.k6) b4 ?_
    refine xe_aload_n dX9_addLetter_34 rfl ?_
    refine xe_getR (b := (s + 7)) dX9_addLetter_35 flX9_30 h_s.k0 (xKK_lt h_s.k0) rfl q_s.f9 ?_
    refine xe_iload dX9_addLetter_38 rfl ?_
    refine xe_iconst (v := -1) dX9_addLetter_40 rfl ?_
    refine xe_iast dX9_addLetter_41 h_s.k7 (xKK_lt h_s.k7) b4 ?_
    refine xe_aload_n dX9_addLetter_42 rfl ?_
    refine xe_getR (b := (s + 8)) dX9_addLetter_43 flX9_33 h_s.k0 (xKK_lt h_s.k0) rfl q_s.f10 ?_
    refine xe_iload dX9_addLetter_46 rfl ?_
    refine xe_iload_n dX9_addLetter_48 rfl ?_
    refine xe_iast dX9_addLetter_49 h_s.k8 (xKK_lt h_s.k8) b4 ?_
    refine xe_aload_n dX9_addLetter_50 rfl ?_
    refine xe_getR (b := (s + 9)) dX9_addLetter_51 flX9_36 h_s.k0 (xKK_lt h_s.k0) rfl q_s.f11 ?_
    refine xe_iload dX9_addLetter_54 rfl ?_
    refine xe_iload_n dX9_addLetter_56 rfl ?_
    refine xe_iast dX9_addLetter_57 h_s.k9 (xKK_lt h_s.k9) b4 ?_
    refine xe_aload_n dX9_addLetter_58 rfl ?_
    refine xe_getR (b := (s + 10)) dX9_addLetter_59 flX9_39 h_s.k0 (xKK_lt h_s.k0) rfl q_s.f12 ?_
    refine xe_iload dX9_addLetter_62 rfl ?_
    refine xe_iload dX9_addLetter_64 rfl ?_
    refine xe_iast dX9_addLetter_66 h_s.k10 (xKK_lt h_s.k10) b4 ?_
    refine xe_aload_n dX9_addLetter_67 rfl ?_
    refine xe_getR (b := (s + 11)) dX9_addLetter_68 flX9_42 h_s.k0 (xKK_lt h_s.k0) rfl q_s.f13 ?_
    refine xe_iload dX9_addLetter_71 rfl ?_
    refine xe_iconst (v := 0) dX9_addLetter_73 rfl ?_
    refine xe_iast dX9_addLetter_74 h_s.k11 (xKK_lt h_s.k11) b4 ?_
    refine xe_aload_n dX9_addLetter_75 rfl ?_
    refine xe_dup dX9_addLetter_76 rfl ?_
    refine xe_getI dX9_addLetter_77 flX9_52 h_s.k0 (xKK_lt h_s.k0) rfl ?_
    refine xe_iconst (v := 1) dX9_addLetter_80 rfl ?_
    refine xe_iadd dX9_addLetter_81 ?_
    refine xe_putI dX9_addLetter_82 flX9_52 h_s.k0 (xKK_lt h_s.k0) nf9_2 rfl ?_
    refine xe_iload dX9_addLetter_85 rfl ?_
    exact xe_ireturn dX9_addLetter_87 rfl k
  · have k := k.1 c3
    refine xe_iconst (v := -1) dX9_addLetter_16 rfl ?_
    exact xe_ireturn dX9_addLetter_17 rfl k

theorem CX9_addLetter {g : xGT} {d : Nat} {i1 i2 i3 i4 : Int32} {s : Nat} {u : xU} {w : xW} {r : xQ} {P : xPost} (h_s : xSt s) (q_s : xSr s r)
    (k : xCall g d mX11_isOneOf [.int (u s 2), .int (10 : Int32)] 698 u w r 698 (fun rv1 u1 w1 r1 => ∃ v1 : Int32, rv1 = some (.int v1) ∧ u = u1 ∧ w = w1 ∧ r = r1 ∧ (v1 = 0 → P (some (.int (-1 : Int32))) u w r) ∧ (¬ (v1 = 0) → vp_in (u s 2) 10 ∧ (P (some (.int (u s 2))) (x2 (x2 (x2 (x2 (x2 (x2 (x2 (x2 u (s + 5) (u s 2).toNatClampNeg i1) (s + 6) (u s 2).toNatClampNeg (-1 : Int32)) (s + 7) (u s 2).toNatClampNeg (-1 : Int32)) (s + 8) (u s 2).toNatClampNeg i2) (s + 9) (u s 2).toNatClampNeg i3) (s + 10) (u s 2).toNatClampNeg i4) (s + 11) (u s 2).toNatClampNeg (0 : Int32)) s 2 (((x2 (x2 (x2 (x2 (x2 (x2 (x2 u (s + 5) (u s 2).toNatClampNeg i1) (s + 6) (u s 2).toNatClampNeg (-1 : Int32)) (s + 7) (u s 2).toNatClampNeg (-1 : Int32)) (s + 8) (u s 2).toNatClampNeg i2) (s + 9) (u s 2).toNatClampNeg i3) (s + 10) (u s 2).toNatClampNeg i4) (s + 11) (u s 2).toNatClampNeg (0 : Int32)) s 2) + (1 : Int32))) w r)))) :
    xCall g (d + 1) mX9_addLetter [.ref s, .int i1, .int i2, .int i3, .int i4] 698 u w r 698 P :=
  xCall.of plX9 (Nat.le_of_ble_eq_true rfl) rfl (TX9_addLetter_0 h_s q_s k)

/-! State.leaveOneLetter -/

theorem TX9_leaveOneLetter_0 {g : xGT} {d : Nat} {i1 i2 : Int32} {s : Nat} {u : xU} {w : xW} {r : xQ} {P : xPost} (h_s : xSt s)
    (k : xEv g (d + 1) mX9_leaveOneLetter 7 [some (.ref s), some (.int i1), some (.int i2), some (.int (0 : Int32))] [] 698 (x2 u s 2 (0 : Int32)) w r 698 P) :
    xEv g (d + 1) mX9_leaveOneLetter 0 [some (.ref s), some (.int i1), some (.int i2), none] [] 698 u w r 698 P := by
  refine xe_aload_n dX9_leaveOneLetter_0 rfl ?_
  refine xe_iconst (v := 0) dX9_leaveOneLetter_1 rfl ?_
  refine xe_putI dX9_leaveOneLetter_2 flX9_52 h_s.k0 (xKK_lt h_s.k0) nf9_2 rfl ?_
  refine xe_iconst (v := 0) dX9_leaveOneLetter_5 rfl ?_
  refine xe_istore_n (ls' := [some (.ref s), some (.int i1), some (.int i2), some (.int (0 : Int32))]) dX9_leaveOneLetter_6 rfl (by decide) rfl ?_
  exact k

theorem CX9_leaveOneLetter {g : xGT} {d : Nat} {i1 i2 : Int32} {s : Nat} {u : xU} {w : xW} {r : xQ} {P : xPost} (h_s : xSt s)
    (k : xEv g (d + 1) mX9_leaveOneLetter 7 [some (.ref s), some (.int i1), some (.int i2), some (.int (0 : Int32))] [] 698 (x2 u s 2 (0 : Int32)) w r 698 P) :
    xCall g (d + 1) mX9_leaveOneLetter [.ref s, .int i1, .int i2] 698 u w r 698 P :=
  xCall.of plX9 (Nat.le_of_ble_eq_true rfl) rfl (TX9_leaveOneLetter_0 h_s k)

theorem TX9_leaveOneLetter_7 {g : xGT} {d : Nat} {i1 i2 i3 : Int32} {s : Nat} {u : xU} {w : xW} {r : xQ} {P : xPost} (h_s : xSt s) (q_s : xSr s r)
    (k : ((6 : Int32) ≤ i3 → xCall g d mX9_addLetter [.ref s, .int i1, .int i2, .int (200 : Int32), .int (1 : Int32)] 698 u w r 698 (fun rv3 u3 w3 r3 => ∃ v3 : Int32, rv3 = some (.int v3) ∧ w = w3 ∧ r = r3 ∧ P none u3 w r)) ∧ (¬ ((6 : Int32) ≤ i3) → vp_in i3 6 ∧ (xEv g (d + 1) mX9_leaveOneLetter 7 [some (.ref s), some (.int i1), some (.int i2), some (.int (i3 + (1 : Int32)))] [] 698 (x2 u (s + 4) i3.toNatClampNeg (0 : Int32)) w r 698 P))) :
    xEv g (d + 1) mX9_leaveOneLetter 7 [some (.ref s), some (.int i1), some (.int i2), some (.int i3)] [] 698 u w r 698 P := by
  refine xe_iload_n dX9_leaveOneLetter_7 rfl ?_
  refine xe_bipush (v := 6) dX9_leaveOneLetter_8 rfl ?_
  refine xe_icmp_ge (tgt := 26) dX9_leaveOneLetter_10 rfl (fun c1 => ?_) (fun c2 => ?_)
  · have k := k.1 c1
    refine xe_aload_n dX9_leaveOneLetter_26 rfl ?_
    refine xe_iload_n dX9_leaveOneLetter_27 rfl ?_
    refine xe_iload_n dX9_leaveOneLetter_28 rfl ?_
    refine xe_sipush (v := 200) dX9_leaveOneLetter_29 rfl ?_
    refine xe_iconst (v := 1) dX9_leaveOneLetter_32 rfl ?_
    refine xe_callV (args := [.int i1, .int i2, .int (200 : Int32), .int (1 : Int32)]) dX9_leaveOneLetter_33 vlX9_67 rfl rfl (Nat.le_of_ble_eq_true rfl) h_s.k0 (xKK_lt h_s.k0) rfl rfl k (Nat.le_refl _) (fun rv3 u3 w3 r3 k => ?_)
    obtain ⟨v3, rfl, rfl, rfl, k⟩ := k
    refine xe_pop dX9_leaveOneLetter_36 rfl ?_
    exact xe_return dX9_leaveOneLetter_37 trivial k
  · have k := k.2 (fun q => (c2 q))
    refine xe_aload_n dX9_leaveOneLetter_13 rfl ?_
    refine xe_getR (b := (s + 4)) dX9_leaveOneLetter_14 flX9_21 h_s.k0 (xKK_lt h_s.k0) rfl q_s.f6 ?_
    refine xe_iload_n dX9_leaveOneLetter_17 rfl ?_
    refine xe_iconst (v := 0) dX9_leaveOneLetter_18 rfl ?_
    obtain ⟨b4, k⟩ := k
    refine xe_iast dX9_leaveOneLetter_19 h_s.k4 (xKK_lt h_s.k4) b4 ?_
    refine xe_iinc (v := (i3 + (1 : Int32))) (ls' := [some (.ref s), some (.int i1), some (.int i2), some (.int (i3 + (1 : Int32)))]) dX9_leaveOneLetter_20 rfl (by decide) rfl rfl ?_
    refine xe_goto (tgt := 7) dX9_leaveOneLetter_23 rfl ?_
    exact k

/-! State.standsIn -/

theorem TX9_standsIn_0 {g : xGT} {d : Nat} {i1 : Int32} {s : Nat} {u : xU} {w : xW} {r : xQ} {P : xPost} (h_s : xSt s) (q_s : xSr s r)
    (k : (¬ ((xb (¬ (i1 < 0) ∧ ¬ ((6 : Int32) ≤ i1))) = 0) → vp_in i1 6) ∧ (((¬ ((xb (¬ (i1 < 0) ∧ ¬ ((6 : Int32) ≤ i1))) = 0) ∧ (u (s + 1) i1.toNatClampNeg) = (1 : Int32)) → vp_in i1 6) ∧ (P (some (.int (if (¬ ((xb (¬ (i1 < 0) ∧ ¬ ((6 : Int32) ≤ i1))) = 0) ∧ (u (s + 1) i1.toNatClampNeg) = (1 : Int32)) then (u (s + 2) i1.toNatClampNeg) else (-1 : Int32)))) u w r))) :
    xEv g d mX9_standsIn 0 [some (.ref s), some (.int i1), none] [] 698 u w r 698 P := by
  refine xe_iload_n dX9_standsIn_0 rfl ?_
  have K12 : xEv g d mX9_standsIn 15 [some (.ref s), some (.int i1), none] [.int (xb (¬ (i1 < 0) ∧ ¬ ((6 : Int32) ≤ i1)))] 698 u w r 698 P := by
    refine xe_istore_n (ls' := [some (.ref s), some (.int i1), some (.int (xb (¬ (i1 < 0) ∧ ¬ ((6 : Int32) ≤ i1))))]) dX9_standsIn_15 rfl (by decide) rfl ?_
    refine xe_iload_n dX9_standsIn_16 rfl ?_
    obtain ⟨b7, k⟩ := k
    obtain ⟨b10, k⟩ := k
    have K11 : xEv g d mX9_standsIn 40 [some (.ref s), some (.int i1), some (.int (xb (¬ (i1 < 0) ∧ ¬ ((6 : Int32) ≤ i1))))] [.int (if (¬ ((xb (¬ (i1 < 0) ∧ ¬ ((6 : Int32) ≤ i1))) = 0) ∧ (u (s + 1) i1.toNatClampNeg) = (1 : Int32)) then (u (s + 2) i1.toNatClampNeg) else (-1 : Int32))] 698 u w r 698 P := by
      exact xe_ireturn dX9_standsIn_40 rfl k
    refine xe_if_eq (tgt := 39) dX9_standsIn_17 rfl (fun c5 => ?_) (fun c6 => ?_)
    · refine xe_iconst (v := -1) dX9_standsIn_39 rfl ?_
      exact xtop (if_neg (fun q => (q.1 c5))) K11
    · refine xe_aload_n dX9_standsIn_20 rfl ?_
      refine xe_getR (b := (s + 1)) dX9_standsIn_21 flX9_9 h_s.k0 (xKK_lt h_s.k0) rfl q_s.f3 ?_
      refine xe_iload_n dX9_standsIn_24 rfl ?_
      refine xe_iald dX9_standsIn_25 h_s.k1 (xKK_lt h_s.k1) (b7 c6) ?_
      refine xe_iconst (v := 1) dX9_standsIn_26 rfl ?_
      refine xe_icmp_ne (tgt := 39) dX9_standsIn_27 rfl (fun c8 => ?_) (fun c9 => ?_)
      · refine xe_iconst (v := -1) dX9_standsIn_39 rfl ?_
        exact xtop (if_neg (fun q => (c8 q.2))) K11
      · refine xe_aload_n dX9_standsIn_30 rfl ?_
        refine xe_getR (b := (s + 2)) dX9_standsIn_31 flX9_15 h_s.k0 (xKK_lt h_s.k0) rfl q_s.f4 ?_
        refine xe_iload_n dX9_standsIn_34 rfl ?_
        refine xe_iald dX9_standsIn_35 h_s.k2 (xKK_lt h_s.k2) (b10 ⟨c6, c9⟩) ?_
        refine xe_goto (tgt := 40) dX9_standsIn_36 rfl ?_
        exact xtop (if_pos ⟨c6, c9⟩) K11
  refine xe_if_lt (tgt := 14) dX9_standsIn_1 rfl (fun c1 => ?_) (fun c2 => ?_)
  · refine xe_iconst (v := 0) dX9_standsIn_14 rfl ?_
    exact xtop (xb_neg (show ¬ (¬ (i1 < 0) ∧ ¬ ((6 : Int32) ≤ i1)) from (fun q => (q.1 c1)))) K12
  · refine xe_iload_n dX9_standsIn_4 rfl ?_
    refine xe_bipush (v := 6) dX9_standsIn_5 rfl ?_
    refine xe_icmp_ge (tgt := 14) dX9_standsIn_7 rfl (fun c3 => ?_) (fun c4 => ?_)
    · refine xe_iconst (v := 0) dX9_standsIn_14 rfl ?_
      exact xtop (xb_neg (show ¬ (¬ (i1 < 0) ∧ ¬ ((6 : Int32) ≤ i1)) from (fun q => (q.2 c3)))) K12
    · refine xe_iconst (v := 1) dX9_standsIn_10 rfl ?_
      refine xe_goto (tgt := 15) dX9_standsIn_11 rfl ?_
      exact xtop (xb_pos (show (¬ (i1 < 0) ∧ ¬ ((6 : Int32) ≤ i1)) from ⟨c2, c4⟩)) K12

theorem CX9_standsIn {g : xGT} {d : Nat} {i1 : Int32} {s : Nat} {u : xU} {w : xW} {r : xQ} {P : xPost} (h_s : xSt s) (q_s : xSr s r)
    (k : (¬ ((xb (¬ (i1 < 0) ∧ ¬ ((6 : Int32) ≤ i1))) = 0) → vp_in i1 6) ∧ (((¬ ((xb (¬ (i1 < 0) ∧ ¬ ((6 : Int32) ≤ i1))) = 0) ∧ (u (s + 1) i1.toNatClampNeg) = (1 : Int32)) → vp_in i1 6) ∧ (P (some (.int (if (¬ ((xb (¬ (i1 < 0) ∧ ¬ ((6 : Int32) ≤ i1))) = 0) ∧ (u (s + 1) i1.toNatClampNeg) = (1 : Int32)) then (u (s + 2) i1.toNatClampNeg) else (-1 : Int32)))) u w r))) :
    xCall g d mX9_standsIn [.ref s, .int i1] 698 u w r 698 P :=
  xCall.of plX9 (Nat.le_of_ble_eq_true rfl) rfl (TX9_standsIn_0 h_s q_s k)

/-! State.spotOf -/

theorem TX9_spotOf_0 {g : xGT} {d : Nat} {i1 : Int32} {s : Nat} {u : xU} {w : xW} {r : xQ} {P : xPost} (h_s : xSt s) (q_s : xSr s r)
    (k : vp_in i1 10 ∧ (((u (s + 5) i1.toNatClampNeg) = (-1 : Int32) → xCall g d mX9_standsIn [.ref s, .int (u (s + 6) i1.toNatClampNeg)] 698 u w r 698 (fun rv4 u4 w4 r4 => ∃ v4 : Int32, rv4 = some (.int v4) ∧ u = u4 ∧ w = w4 ∧ r = r4 ∧ P (some (.int v4)) u w r)) ∧ (¬ ((u (s + 5) i1.toNatClampNeg) = (-1 : Int32)) → P (some (.int (u (s + 5) i1.toNatClampNeg))) u w r))) :
    xEv g (d + 1) mX9_spotOf 0 [some (.ref s), some (.int i1), none] [] 698 u w r 698 P := by
  refine xe_aload_n dX9_spotOf_0 rfl ?_
  refine xe_getR (b := (s + 5)) dX9_spotOf_1 flX9_24 h_s.k0 (xKK_lt h_s.k0) rfl q_s.f7 ?_
  refine xe_iload_n dX9_spotOf_4 rfl ?_
  obtain ⟨b1, k⟩ := k
  refine xe_iald dX9_spotOf_5 h_s.k5 (xKK_lt h_s.k5) b1 ?_
  refine xe_istore_n (ls' := [some (.ref s), some (.int i1), some (.int (u (s + 5) i1.toNatClampNeg))]) dX9_spotOf_6 rfl (by decide) rfl ?_
  refine xe_iload_n dX9_spotOf_7 rfl ?_
  refine xe_iconst (v := -1) dX9_spotOf_8 rfl ?_
  refine xe_icmp_eq (tgt := 16) dX9_spotOf_9 rfl (fun c2 => ?_) (fun c3 => ?_)
  · have k := k.1 c2
    refine xe_aload_n dX9_spotOf_16 rfl ?_
    refine xe_aload_n dX9_spotOf_17 rfl ?_
    refine xe_getR (b := (s + 6)) dX9_spotOf_18 flX9_27 h_s.k0 (xKK_lt h_s.k0) rfl q_s.f8 ?_
    refine xe_iload_n dX9_spotOf_21 rfl ?_
    refine xe_iald dX9_spotOf_22 h_s.k6 (xKK_lt h_s.k6) b1 ?_
    refine xe_callV (args := [.int (u (s + 6) i1.toNatClampNeg)]) dX9_spotOf_23 vlX9_81 rfl rfl (Nat.le_of_ble_eq_true rfl) h_s.k0 (xKK_lt h_s.k0) rfl rfl k (Nat.le_refl _) (fun rv4 u4 w4 r4 k => ?_)
    obtain ⟨v4, rfl, rfl, rfl, rfl, k⟩ := k
    exact xe_ireturn dX9_spotOf_26 rfl k
  · have k := k.2 (fun q => (c3 q))
    refine xe_iload_n dX9_spotOf_12 rfl ?_
    refine xe_goto (tgt := 26) dX9_spotOf_13 rfl ?_
    exact xe_ireturn dX9_spotOf_26 rfl k

theorem CX9_spotOf {g : xGT} {d : Nat} {i1 : Int32} {s : Nat} {u : xU} {w : xW} {r : xQ} {P : xPost} (h_s : xSt s) (q_s : xSr s r)
    (k : vp_in i1 10 ∧ (((u (s + 5) i1.toNatClampNeg) = (-1 : Int32) → xCall g d mX9_standsIn [.ref s, .int (u (s + 6) i1.toNatClampNeg)] 698 u w r 698 (fun rv4 u4 w4 r4 => ∃ v4 : Int32, rv4 = some (.int v4) ∧ u = u4 ∧ w = w4 ∧ r = r4 ∧ P (some (.int v4)) u w r)) ∧ (¬ ((u (s + 5) i1.toNatClampNeg) = (-1 : Int32)) → P (some (.int (u (s + 5) i1.toNatClampNeg))) u w r))) :
    xCall g (d + 1) mX9_spotOf [.ref s, .int i1] 698 u w r 698 P :=
  xCall.of plX9 (Nat.le_of_ble_eq_true rfl) rfl (TX9_spotOf_0 h_s q_s k)

/-! State.pileAt -/

theorem TX9_pileAt_0 {g : xGT} {d : Nat} {i1 : Int32} {s : Nat} {u : xU} {w : xW} {r : xQ} {P : xPost}
    (k : xEv g d mX9_pileAt 4 [some (.ref s), some (.int i1), some (.int (0 : Int32)), some (.int (0 : Int32))] [] 698 u w r 698 P) :
    xEv g d mX9_pileAt 0 [some (.ref s), some (.int i1), none, none] [] 698 u w r 698 P := by
  refine xe_iconst (v := 0) dX9_pileAt_0 rfl ?_
  refine xe_istore_n (ls' := [some (.ref s), some (.int i1), some (.int (0 : Int32)), none]) dX9_pileAt_1 rfl (by decide) rfl ?_
  refine xe_iconst (v := 0) dX9_pileAt_2 rfl ?_
  refine xe_istore_n (ls' := [some (.ref s), some (.int i1), some (.int (0 : Int32)), some (.int (0 : Int32))]) dX9_pileAt_3 rfl (by decide) rfl ?_
  exact k

theorem CX9_pileAt {g : xGT} {d : Nat} {i1 : Int32} {s : Nat} {u : xU} {w : xW} {r : xQ} {P : xPost}
    (k : xEv g d mX9_pileAt 4 [some (.ref s), some (.int i1), some (.int (0 : Int32)), some (.int (0 : Int32))] [] 698 u w r 698 P) :
    xCall g d mX9_pileAt [.ref s, .int i1] 698 u w r 698 P :=
  xCall.of plX9 (Nat.le_of_ble_eq_true rfl) rfl (TX9_pileAt_0  k)

theorem TX9_pileAt_4 {g : xGT} {d : Nat} {i1 i2 i3 : Int32} {s : Nat} {u : xU} {w : xW} {r : xQ} {P : xPost} (h_s : xSt s) (q_s : xSr s r)
    (k : ((u s 2) ≤ i3 → P (some (.int i2)) u w r) ∧ (¬ ((u s 2) ≤ i3) → vp_in i3 10 ∧ (((u (s + 5) i3.toNatClampNeg) = i1 → xEv g d mX9_pileAt 28 [some (.ref s), some (.int i1), some (.int (i2 ||| ((1 : Int32) <<< (i3 &&& 31)))), some (.int i3)] [] 698 u w r 698 P) ∧ (¬ ((u (s + 5) i3.toNatClampNeg) = i1) → xEv g d mX9_pileAt 28 [some (.ref s), some (.int i1), some (.int i2), some (.int i3)] [] 698 u w r 698 P)))) :
    xEv g d mX9_pileAt 4 [some (.ref s), some (.int i1), some (.int i2), some (.int i3)] [] 698 u w r 698 P := by
  refine xe_iload_n dX9_pileAt_4 rfl ?_
  refine xe_aload_n dX9_pileAt_5 rfl ?_
  refine xe_getI dX9_pileAt_6 flX9_52 h_s.k0 (xKK_lt h_s.k0) rfl ?_
  refine xe_icmp_ge (tgt := 34) dX9_pileAt_9 rfl (fun c1 => ?_) (fun c2 => ?_)
  · have k := k.1 c1
    refine xe_iload_n dX9_pileAt_34 rfl ?_
    exact xe_ireturn dX9_pileAt_35 rfl k
  · have k := k.2 (fun q => (c2 q))
    refine xe_aload_n dX9_pileAt_12 rfl ?_
    refine xe_getR (b := (s + 5)) dX9_pileAt_13 flX9_24 h_s.k0 (xKK_lt h_s.k0) rfl q_s.f7 ?_
    refine xe_iload_n dX9_pileAt_16 rfl ?_
    obtain ⟨b3, k⟩ := k
    refine xe_iald dX9_pileAt_17 h_s.k5 (xKK_lt h_s.k5) b3 ?_
    refine xe_iload_n dX9_pileAt_18 rfl ?_
    refine xe_icmp_ne (tgt := 28) dX9_pileAt_19 rfl (fun c4 => ?_) (fun c5 => ?_)
    · have k := k.2 (fun q => (c4 q))
      exact k
    · have k := k.1 c5
      refine xe_iload_n dX9_pileAt_22 rfl ?_
      refine xe_iconst (v := 1) dX9_pileAt_23 rfl ?_
      refine xe_iload_n dX9_pileAt_24 rfl ?_
      refine xe_ishl dX9_pileAt_25 ?_
      refine xe_ior dX9_pileAt_26 ?_
      refine xe_istore_n (ls' := [some (.ref s), some (.int i1), some (.int (i2 ||| ((1 : Int32) <<< (i3 &&& 31)))), some (.int i3)]) dX9_pileAt_27 rfl (by decide) rfl ?_
      exact k

theorem TX9_pileAt_28 {g : xGT} {d : Nat} {i1 i2 i3 : Int32} {s : Nat} {u : xU} {w : xW} {r : xQ} {P : xPost}
    (k : xEv g d mX9_pileAt 4 [some (.ref s), some (.int i1), some (.int i2), some (.int (i3 + (1 : Int32)))] [] 698 u w r 698 P) :
    xEv g d mX9_pileAt 28 [some (.ref s), some (.int i1), some (.int i2), some (.int i3)] [] 698 u w r 698 P := by
  refine xe_iinc (v := (i3 + (1 : Int32))) (ls' := [some (.ref s), some (.int i1), some (.int i2), some (.int (i3 + (1 : Int32)))]) dX9_pileAt_28 rfl (by decide) rfl rfl ?_
  refine xe_goto (tgt := 4) dX9_pileAt_31 rfl ?_
  exact k

/-! State.standingAt -/

theorem TX9_standingAt_0 {g : xGT} {d : Nat} {i1 : Int32} {s : Nat} {u : xU} {w : xW} {r : xQ} {P : xPost}
    (k : xEv g (d + 1) mX9_standingAt 4 [some (.ref s), some (.int i1), some (.int (0 : Int32)), some (.int (0 : Int32))] [] 698 u w r 698 P) :
    xEv g (d + 1) mX9_standingAt 0 [some (.ref s), some (.int i1), none, none] [] 698 u w r 698 P := by
  refine xe_iconst (v := 0) dX9_standingAt_0 rfl ?_
  refine xe_istore_n (ls' := [some (.ref s), some (.int i1), some (.int (0 : Int32)), none]) dX9_standingAt_1 rfl (by decide) rfl ?_
  refine xe_iconst (v := 0) dX9_standingAt_2 rfl ?_
  refine xe_istore_n (ls' := [some (.ref s), some (.int i1), some (.int (0 : Int32)), some (.int (0 : Int32))]) dX9_standingAt_3 rfl (by decide) rfl ?_
  exact k

theorem CX9_standingAt {g : xGT} {d : Nat} {i1 : Int32} {s : Nat} {u : xU} {w : xW} {r : xQ} {P : xPost}
    (k : xEv g (d + 1) mX9_standingAt 4 [some (.ref s), some (.int i1), some (.int (0 : Int32)), some (.int (0 : Int32))] [] 698 u w r 698 P) :
    xCall g (d + 1) mX9_standingAt [.ref s, .int i1] 698 u w r 698 P :=
  xCall.of plX9 (Nat.le_of_ble_eq_true rfl) rfl (TX9_standingAt_0  k)

theorem TX9_standingAt_4 {g : xGT} {d : Nat} {i1 i2 i3 : Int32} {s : Nat} {u : xU} {w : xW} {r : xQ} {P : xPost} (h_s : xSt s)
    (k : ((6 : Int32) ≤ i3 → P (some (.int i2)) u w r) ∧ (¬ ((6 : Int32) ≤ i3) → xCall g d mX9_standsIn [.ref s, .int i3] 698 u w r 698 (fun rv3 u3 w3 r3 => ∃ v3 : Int32, rv3 = some (.int v3) ∧ u = u3 ∧ w = w3 ∧ r = r3 ∧ (v3 = i1 → xEv g (d + 1) mX9_standingAt 25 [some (.ref s), some (.int i1), some (.int (i2 ||| ((1 : Int32) <<< (i3 &&& 31)))), some (.int i3)] [] 698 u w r 698 P) ∧ (¬ (v3 = i1) → xEv g (d + 1) mX9_standingAt 25 [some (.ref s), some (.int i1), some (.int i2), some (.int i3)] [] 698 u w r 698 P)))) :
    xEv g (d + 1) mX9_standingAt 4 [some (.ref s), some (.int i1), some (.int i2), some (.int i3)] [] 698 u w r 698 P := by
  refine xe_iload_n dX9_standingAt_4 rfl ?_
  refine xe_bipush (v := 6) dX9_standingAt_5 rfl ?_
  refine xe_icmp_ge (tgt := 31) dX9_standingAt_7 rfl (fun c1 => ?_) (fun c2 => ?_)
  · have k := k.1 c1
    refine xe_iload_n dX9_standingAt_31 rfl ?_
    exact xe_ireturn dX9_standingAt_32 rfl k
  · have k := k.2 (fun q => (c2 q))
    refine xe_aload_n dX9_standingAt_10 rfl ?_
    refine xe_iload_n dX9_standingAt_11 rfl ?_
    refine xe_callV (args := [.int i3]) dX9_standingAt_12 vlX9_81 rfl rfl (Nat.le_of_ble_eq_true rfl) h_s.k0 (xKK_lt h_s.k0) rfl rfl k (Nat.le_refl _) (fun rv3 u3 w3 r3 k => ?_)
    obtain ⟨v3, rfl, rfl, rfl, rfl, k⟩ := k
    refine xe_iload_n dX9_standingAt_15 rfl ?_
    refine xe_icmp_ne (tgt := 25) dX9_standingAt_16 rfl (fun c4 => ?_) (fun c5 => ?_)
    · have k := k.2 (fun q => (c4 q))
      exact k
    · have k := k.1 c5
      refine xe_iload_n dX9_standingAt_19 rfl ?_
      refine xe_iconst (v := 1) dX9_standingAt_20 rfl ?_
      refine xe_iload_n dX9_standingAt_21 rfl ?_
      refine xe_ishl dX9_standingAt_22 ?_
      refine xe_ior dX9_standingAt_23 ?_
      refine xe_istore_n (ls' := [some (.ref s), some (.int i1), some (.int (i2 ||| ((1 : Int32) <<< (i3 &&& 31)))), some (.int i3)]) dX9_standingAt_24 rfl (by decide) rfl ?_
      exact k

theorem TX9_standingAt_25 {g : xGT} {d : Nat} {i1 i2 i3 : Int32} {s : Nat} {u : xU} {w : xW} {r : xQ} {P : xPost}
    (k : xEv g (d + 1) mX9_standingAt 4 [some (.ref s), some (.int i1), some (.int i2), some (.int (i3 + (1 : Int32)))] [] 698 u w r 698 P) :
    xEv g (d + 1) mX9_standingAt 25 [some (.ref s), some (.int i1), some (.int i2), some (.int i3)] [] 698 u w r 698 P := by
  refine xe_iinc (v := (i3 + (1 : Int32))) (ls' := [some (.ref s), some (.int i1), some (.int i2), some (.int (i3 + (1 : Int32)))]) dX9_standingAt_25 rfl (by decide) rfl rfl ?_
  refine xe_goto (tgt := 4) dX9_standingAt_28 rfl ?_
  exact k

/-! State.lettersIn -/

theorem TX9_lettersIn_0 {g : xGT} {d : Nat} {i1 : Int32} {s : Nat} {u : xU} {w : xW} {r : xQ} {P : xPost}
    (k : xEv g d mX9_lettersIn 4 [some (.ref s), some (.int i1), some (.int (0 : Int32)), some (.int (0 : Int32))] [] 698 u w r 698 P) :
    xEv g d mX9_lettersIn 0 [some (.ref s), some (.int i1), none, none] [] 698 u w r 698 P := by
  refine xe_iconst (v := 0) dX9_lettersIn_0 rfl ?_
  refine xe_istore_n (ls' := [some (.ref s), some (.int i1), some (.int (0 : Int32)), none]) dX9_lettersIn_1 rfl (by decide) rfl ?_
  refine xe_iconst (v := 0) dX9_lettersIn_2 rfl ?_
  refine xe_istore_n (ls' := [some (.ref s), some (.int i1), some (.int (0 : Int32)), some (.int (0 : Int32))]) dX9_lettersIn_3 rfl (by decide) rfl ?_
  exact k

theorem CX9_lettersIn {g : xGT} {d : Nat} {i1 : Int32} {s : Nat} {u : xU} {w : xW} {r : xQ} {P : xPost}
    (k : xEv g d mX9_lettersIn 4 [some (.ref s), some (.int i1), some (.int (0 : Int32)), some (.int (0 : Int32))] [] 698 u w r 698 P) :
    xCall g d mX9_lettersIn [.ref s, .int i1] 698 u w r 698 P :=
  xCall.of plX9 (Nat.le_of_ble_eq_true rfl) rfl (TX9_lettersIn_0  k)

theorem TX9_lettersIn_4 {g : xGT} {d : Nat} {i1 i2 i3 : Int32} {s : Nat} {u : xU} {w : xW} {r : xQ} {P : xPost} (h_s : xSt s) (q_s : xSr s r)
    (k : ((u s 2) ≤ i3 → P (some (.int i2)) u w r) ∧ (¬ ((u s 2) ≤ i3) → vp_in i3 10 ∧ (((u (s + 6) i3.toNatClampNeg) = i1 → xEv g d mX9_lettersIn 28 [some (.ref s), some (.int i1), some (.int (i2 ||| ((1 : Int32) <<< (i3 &&& 31)))), some (.int i3)] [] 698 u w r 698 P) ∧ (¬ ((u (s + 6) i3.toNatClampNeg) = i1) → xEv g d mX9_lettersIn 28 [some (.ref s), some (.int i1), some (.int i2), some (.int i3)] [] 698 u w r 698 P)))) :
    xEv g d mX9_lettersIn 4 [some (.ref s), some (.int i1), some (.int i2), some (.int i3)] [] 698 u w r 698 P := by
  refine xe_iload_n dX9_lettersIn_4 rfl ?_
  refine xe_aload_n dX9_lettersIn_5 rfl ?_
  refine xe_getI dX9_lettersIn_6 flX9_52 h_s.k0 (xKK_lt h_s.k0) rfl ?_
  refine xe_icmp_ge (tgt := 34) dX9_lettersIn_9 rfl (fun c1 => ?_) (fun c2 => ?_)
  · have k := k.1 c1
    refine xe_iload_n dX9_lettersIn_34 rfl ?_
    exact xe_ireturn dX9_lettersIn_35 rfl k
  · have k := k.2 (fun q => (c2 q))
    refine xe_aload_n dX9_lettersIn_12 rfl ?_
    refine xe_getR (b := (s + 6)) dX9_lettersIn_13 flX9_27 h_s.k0 (xKK_lt h_s.k0) rfl q_s.f8 ?_
    refine xe_iload_n dX9_lettersIn_16 rfl ?_
    obtain ⟨b3, k⟩ := k
    refine xe_iald dX9_lettersIn_17 h_s.k6 (xKK_lt h_s.k6) b3 ?_
    refine xe_iload_n dX9_lettersIn_18 rfl ?_
    refine xe_icmp_ne (tgt := 28) dX9_lettersIn_19 rfl (fun c4 => ?_) (fun c5 => ?_)
    · have k := k.2 (fun q => (c4 q))
      exact k
    · have k := k.1 c5
      refine xe_iload_n dX9_lettersIn_22 rfl ?_
      refine xe_iconst (v := 1) dX9_lettersIn_23 rfl ?_
      refine xe_iload_n dX9_lettersIn_24 rfl ?_
      refine xe_ishl dX9_lettersIn_25 ?_
      refine xe_ior dX9_lettersIn_26 ?_
      refine xe_istore_n (ls' := [some (.ref s), some (.int i1), some (.int (i2 ||| ((1 : Int32) <<< (i3 &&& 31)))), some (.int i3)]) dX9_lettersIn_27 rfl (by decide) rfl ?_
      exact k

theorem TX9_lettersIn_28 {g : xGT} {d : Nat} {i1 i2 i3 : Int32} {s : Nat} {u : xU} {w : xW} {r : xQ} {P : xPost}
    (k : xEv g d mX9_lettersIn 4 [some (.ref s), some (.int i1), some (.int i2), some (.int (i3 + (1 : Int32)))] [] 698 u w r 698 P) :
    xEv g d mX9_lettersIn 28 [some (.ref s), some (.int i1), some (.int i2), some (.int i3)] [] 698 u w r 698 P := by
  refine xe_iinc (v := (i3 + (1 : Int32))) (ls' := [some (.ref s), some (.int i1), some (.int i2), some (.int (i3 + (1 : Int32)))]) dX9_lettersIn_28 rfl (by decide) rfl rfl ?_
  refine xe_goto (tgt := 4) dX9_lettersIn_31 rfl ?_
  exact k

/-! State.lettersHome -/

theorem TX9_lettersHome_0 {g : xGT} {d : Nat} {s : Nat} {u : xU} {w : xW} {r : xQ} {P : xPost}
    (k : xEv g d mX9_lettersHome 4 [some (.ref s), some (.int (0 : Int32)), some (.int (0 : Int32))] [] 698 u w r 698 P) :
    xEv g d mX9_lettersHome 0 [some (.ref s), none, none] [] 698 u w r 698 P := by
  refine xe_iconst (v := 0) dX9_lettersHome_0 rfl ?_
  refine xe_istore_n (ls' := [some (.ref s), some (.int (0 : Int32)), none]) dX9_lettersHome_1 rfl (by decide) rfl ?_
  refine xe_iconst (v := 0) dX9_lettersHome_2 rfl ?_
  refine xe_istore_n (ls' := [some (.ref s), some (.int (0 : Int32)), some (.int (0 : Int32))]) dX9_lettersHome_3 rfl (by decide) rfl ?_
  exact k

theorem CX9_lettersHome {g : xGT} {d : Nat} {s : Nat} {u : xU} {w : xW} {r : xQ} {P : xPost}
    (k : xEv g d mX9_lettersHome 4 [some (.ref s), some (.int (0 : Int32)), some (.int (0 : Int32))] [] 698 u w r 698 P) :
    xCall g d mX9_lettersHome [.ref s] 698 u w r 698 P :=
  xCall.of plX9 (Nat.le_of_ble_eq_true rfl) rfl (TX9_lettersHome_0  k)

theorem TX9_lettersHome_4 {g : xGT} {d : Nat} {i1 i2 : Int32} {s : Nat} {u : xU} {w : xW} {r : xQ} {P : xPost} (h_s : xSt s) (q_s : xSr s r)
    (k : ((u s 2) ≤ i2 → P (some (.int i1)) u w r) ∧ (¬ ((u s 2) ≤ i2) → vp_in i2 10 ∧ (((u (s + 7) i2.toNatClampNeg) = (-1 : Int32) → xEv g d mX9_lettersHome 28 [some (.ref s), some (.int i1), some (.int i2)] [] 698 u w r 698 P) ∧ (¬ ((u (s + 7) i2.toNatClampNeg) = (-1 : Int32)) → xEv g d mX9_lettersHome 28 [some (.ref s), some (.int (i1 ||| ((1 : Int32) <<< (i2 &&& 31)))), some (.int i2)] [] 698 u w r 698 P)))) :
    xEv g d mX9_lettersHome 4 [some (.ref s), some (.int i1), some (.int i2)] [] 698 u w r 698 P := by
  refine xe_iload_n dX9_lettersHome_4 rfl ?_
  refine xe_aload_n dX9_lettersHome_5 rfl ?_
  refine xe_getI dX9_lettersHome_6 flX9_52 h_s.k0 (xKK_lt h_s.k0) rfl ?_
  refine xe_icmp_ge (tgt := 34) dX9_lettersHome_9 rfl (fun c1 => ?_) (fun c2 => ?_)
  · have k := k.1 c1
    refine xe_iload_n dX9_lettersHome_34 rfl ?_
    exact xe_ireturn dX9_lettersHome_35 rfl k
  · have k := k.2 (fun q => (c2 q))
    refine xe_aload_n dX9_lettersHome_12 rfl ?_
    refine xe_getR (b := (s + 7)) dX9_lettersHome_13 flX9_30 h_s.k0 (xKK_lt h_s.k0) rfl q_s.f9 ?_
    refine xe_iload_n dX9_lettersHome_16 rfl ?_
    obtain ⟨b3, k⟩ := k
    refine xe_iald dX9_lettersHome_17 h_s.k7 (xKK_lt h_s.k7) b3 ?_
    refine xe_iconst (v := -1) dX9_lettersHome_18 rfl ?_
    refine xe_icmp_eq (tgt := 28) dX9_lettersHome_19 rfl (fun c4 => ?_) (fun c5 => ?_)
    · have k := k.1 c4
      exact k
    · have k := k.2 (fun q => (c5 q))
      refine xe_iload_n dX9_lettersHome_22 rfl ?_
      refine xe_iconst (v := 1) dX9_lettersHome_23 rfl ?_
      refine xe_iload_n dX9_lettersHome_24 rfl ?_
      refine xe_ishl dX9_lettersHome_25 ?_
      refine xe_ior dX9_lettersHome_26 ?_
      refine xe_istore_n (ls' := [some (.ref s), some (.int (i1 ||| ((1 : Int32) <<< (i2 &&& 31)))), some (.int i2)]) dX9_lettersHome_27 rfl (by decide) rfl ?_
      exact k

theorem TX9_lettersHome_28 {g : xGT} {d : Nat} {i1 i2 : Int32} {s : Nat} {u : xU} {w : xW} {r : xQ} {P : xPost}
    (k : xEv g d mX9_lettersHome 4 [some (.ref s), some (.int i1), some (.int (i2 + (1 : Int32)))] [] 698 u w r 698 P) :
    xEv g d mX9_lettersHome 28 [some (.ref s), some (.int i1), some (.int i2)] [] 698 u w r 698 P := by
  refine xe_iinc (v := (i2 + (1 : Int32))) (ls' := [some (.ref s), some (.int i1), some (.int (i2 + (1 : Int32)))]) dX9_lettersHome_28 rfl (by decide) rfl rfl ?_
  refine xe_goto (tgt := 4) dX9_lettersHome_31 rfl ?_
  exact k

/-! State.isInTime -/

theorem TX9_isInTime_0 {g : xGT} {d : Nat} {i1 : Int32} {s : Nat} {u : xU} {w : xW} {r : xQ} {P : xPost} (h_s : xSt s) (q_s : xSr s r)
    (k : vp_in i1 10 ∧ (P (some (.int (xb (¬ ((u (s + 7) i1.toNatClampNeg) = (-1 : Int32)) ∧ ¬ ((u (s + 9) i1.toNatClampNeg) < (u (s + 7) i1.toNatClampNeg)))))) u w r)) :
    xEv g d mX9_isInTime 0 [some (.ref s), some (.int i1)] [] 698 u w r 698 P := by
  refine xe_aload_n dX9_isInTime_0 rfl ?_
  refine xe_getR (b := (s + 7)) dX9_isInTime_1 flX9_30 h_s.k0 (xKK_lt h_s.k0) rfl q_s.f9 ?_
  refine xe_iload_n dX9_isInTime_4 rfl ?_
  obtain ⟨b1, k⟩ := k
  refine xe_iald dX9_isInTime_5 h_s.k7 (xKK_lt h_s.k7) b1 ?_
  refine xe_iconst (v := -1) dX9_isInTime_6 rfl ?_
  have K6 : xEv g d mX9_isInTime 30 [some (.ref s), some (.int i1)] [.int (xb (¬ ((u (s + 7) i1.toNatClampNeg) = (-1 : Int32)) ∧ ¬ ((u (s + 9) i1.toNatClampNeg) < (u (s + 7) i1.toNatClampNeg))))] 698 u w r 698 P := by
    exact xe_ireturn dX9_isInTime_30 (xrokZ (xb01 _)) k
  refine xe_icmp_eq (tgt := 29) dX9_isInTime_7 rfl (fun c2 => ?_) (fun c3 => ?_)
  · refine xe_iconst (v := 0) dX9_isInTime_29 rfl ?_
    exact xtop (xb_neg (show ¬ (¬ ((u (s + 7) i1.toNatClampNeg) = (-1 : Int32)) ∧ ¬ ((u (s + 9) i1.toNatClampNeg) < (u (s + 7) i1.toNatClampNeg))) from (fun q => (q.1 c2)))) K6
  · refine xe_aload_n dX9_isInTime_10 rfl ?_
    refine xe_getR (b := (s + 7)) dX9_isInTime_11 flX9_30 h_s.k0 (xKK_lt h_s.k0) rfl q_s.f9 ?_
    refine xe_iload_n dX9_isInTime_14 rfl ?_
    refine xe_iald dX9_isInTime_15 h_s.k7 (xKK_lt h_s.k7) b1 ?_
    refine xe_aload_n dX9_isInTime_16 rfl ?_
    refine xe_getR (b := (s + 9)) dX9_isInTime_17 flX9_36 h_s.k0 (xKK_lt h_s.k0) rfl q_s.f11 ?_
    refine xe_iload_n dX9_isInTime_20 rfl ?_
    refine xe_iald dX9_isInTime_21 h_s.k9 (xKK_lt h_s.k9) b1 ?_
    refine xe_icmp_gt (tgt := 29) dX9_isInTime_22 rfl (fun c4 => ?_) (fun c5 => ?_)
    · refine xe_iconst (v := 0) dX9_isInTime_29 rfl ?_
      exact xtop (xb_neg (show ¬ (¬ ((u (s + 7) i1.toNatClampNeg) = (-1 : Int32)) ∧ ¬ ((u (s + 9) i1.toNatClampNeg) < (u (s + 7) i1.toNatClampNeg))) from (fun q => (q.2 c4)))) K6
    · refine xe_iconst (v := 1) dX9_isInTime_25 rfl ?_
      refine xe_goto (tgt := 30) dX9_isInTime_26 rfl ?_
      exact xtop (xb_pos (show (¬ ((u (s + 7) i1.toNatClampNeg) = (-1 : Int32)) ∧ ¬ ((u (s + 9) i1.toNatClampNeg) < (u (s + 7) i1.toNatClampNeg))) from ⟨c3, c5⟩)) K6

theorem CX9_isInTime {g : xGT} {d : Nat} {i1 : Int32} {s : Nat} {u : xU} {w : xW} {r : xQ} {P : xPost} (h_s : xSt s) (q_s : xSr s r)
    (k : vp_in i1 10 ∧ (P (some (.int (xb (¬ ((u (s + 7) i1.toNatClampNeg) = (-1 : Int32)) ∧ ¬ ((u (s + 9) i1.toNatClampNeg) < (u (s + 7) i1.toNatClampNeg)))))) u w r)) :
    xCall g d mX9_isInTime [.ref s, .int i1] 698 u w r 698 P :=
  xCall.of plX9 (Nat.le_of_ble_eq_true rfl) rfl (TX9_isInTime_0 h_s q_s k)

/-! State.putInPile -/

theorem TX9_putInPile_0 {g : xGT} {d : Nat} {i1 i2 : Int32} {s : Nat} {u : xU} {w : xW} {r : xQ} {P : xPost} (h_s : xSt s) (q_s : xSr s r)
    (k : vp_in i1 10 ∧ (xCall g d mX9_comeOutOf [.ref s, .int (u (s + 6) i1.toNatClampNeg)] 698 u w r 698 (fun rv2 u2 w2 r2 => rv2 = none ∧ w = w2 ∧ r = r2 ∧ P none (x2 (x2 u2 (s + 6) i1.toNatClampNeg (-1 : Int32)) (s + 5) i1.toNatClampNeg i2) w r))) :
    xEv g (d + 1) mX9_putInPile 0 [some (.ref s), some (.int i1), some (.int i2)] [] 698 u w r 698 P := by
  refine xe_aload_n dX9_putInPile_0 rfl ?_
  refine xe_aload_n dX9_putInPile_1 rfl ?_
  refine xe_getR (b := (s + 6)) dX9_putInPile_2 flX9_27 h_s.k0 (xKK_lt h_s.k0) rfl q_s.f8 ?_
  refine xe_iload_n dX9_putInPile_5 rfl ?_
  obtain ⟨b1, k⟩ := k
  refine xe_iald dX9_putInPile_6 h_s.k6 (xKK_lt h_s.k6) b1 ?_
  refine xe_callV (args := [.int (u (s + 6) i1.toNatClampNeg)]) dX9_putInPile_7 vlX9_85 rfl rfl (Nat.le_of_ble_eq_true rfl) h_s.k0 (xKK_lt h_s.k0) rfl rfl k (Nat.le_refl _) (fun rv2 u2 w2 r2 k => ?_)
  obtain ⟨rfl, rfl, rfl, k⟩ := k
  refine xe_aload_n dX9_putInPile_10 rfl ?_
  refine xe_getR (b := (s + 6)) dX9_putInPile_11 flX9_27 h_s.k0 (xKK_lt h_s.k0) rfl q_s.f8 ?_
  refine xe_iload_n dX9_putInPile_14 rfl ?_
  refine xe_iconst (v := -1) dX9_putInPile_15 rfl ?_
  refine xe_iast dX9_putInPile_16 h_s.k6 (xKK_lt h_s.k6) b1 ?_
  refine xe_aload_n dX9_putInPile_17 rfl ?_
  refine xe_getR (b := (s + 5)) dX9_putInPile_18 flX9_24 h_s.k0 (xKK_lt h_s.k0) rfl q_s.f7 ?_
  refine xe_iload_n dX9_putInPile_21 rfl ?_
  refine xe_iload_n dX9_putInPile_22 rfl ?_
  refine xe_iast dX9_putInPile_23 h_s.k5 (xKK_lt h_s.k5) b1 ?_
  exact xe_return dX9_putInPile_24 trivial k

theorem CX9_putInPile {g : xGT} {d : Nat} {i1 i2 : Int32} {s : Nat} {u : xU} {w : xW} {r : xQ} {P : xPost} (h_s : xSt s) (q_s : xSr s r)
    (k : vp_in i1 10 ∧ (xCall g d mX9_comeOutOf [.ref s, .int (u (s + 6) i1.toNatClampNeg)] 698 u w r 698 (fun rv2 u2 w2 r2 => rv2 = none ∧ w = w2 ∧ r = r2 ∧ P none (x2 (x2 u2 (s + 6) i1.toNatClampNeg (-1 : Int32)) (s + 5) i1.toNatClampNeg i2) w r))) :
    xCall g (d + 1) mX9_putInPile [.ref s, .int i1, .int i2] 698 u w r 698 P :=
  xCall.of plX9 (Nat.le_of_ble_eq_true rfl) rfl (TX9_putInPile_0 h_s q_s k)

/-! State.putInBier -/

theorem TX9_putInBier_0 {g : xGT} {d : Nat} {i1 i2 : Int32} {s : Nat} {u : xU} {w : xW} {r : xQ} {P : xPost} (h_s : xSt s) (q_s : xSr s r)
    (k : vp_in i1 10 ∧ (((u (s + 6) i1.toNatClampNeg) = i2 → P none u w r) ∧ (¬ ((u (s + 6) i1.toNatClampNeg) = i2) → xCall g d mX11_isOneOf [.int i2, .int (6 : Int32)] 698 u w r 698 (fun rv4 u4 w4 r4 => ∃ v4 : Int32, rv4 = some (.int v4) ∧ u = u4 ∧ w = w4 ∧ r = r4 ∧ (v4 = 0 → P none u w r) ∧ (¬ (v4 = 0) → xCall g d mX9_comeOutOf [.ref s, .int (u (s + 6) i1.toNatClampNeg)] 698 u w r 698 (fun rv7 u7 w7 r7 => rv7 = none ∧ w = w7 ∧ r = r7 ∧ vp_in i2 6 ∧ (P none (x2 (x2 (x2 (x2 u7 (s + 5) i1.toNatClampNeg (-1 : Int32)) (s + 6) i1.toNatClampNeg i2) (s + 11) i1.toNatClampNeg (((x2 (x2 u7 (s + 5) i1.toNatClampNeg (-1 : Int32)) (s + 6) i1.toNatClampNeg i2) (s + 11) i1.toNatClampNeg) + (1 : Int32))) (s + 4) i2.toNatClampNeg (((x2 (x2 (x2 u7 (s + 5) i1.toNatClampNeg (-1 : Int32)) (s + 6) i1.toNatClampNeg i2) (s + 11) i1.toNatClampNeg (((x2 (x2 u7 (s + 5) i1.toNatClampNeg (-1 : Int32)) (s + 6) i1.toNatClampNeg i2) (s + 11) i1.toNatClampNeg) + (1 : Int32))) (s + 4) i2.toNatClampNeg) + (1 : Int32))) w r))))))) :
    xEv g (d + 1) mX9_putInBier 0 [some (.ref s), some (.int i1), some (.int i2)] [] 698 u w r 698 P := by
  refine xe_aload_n dX9_putInBier_0 rfl ?_
  refine xe_getR (b := (s + 6)) dX9_putInBier_1 flX9_27 h_s.k0 (xKK_lt h_s.k0) rfl q_s.f8 ?_
  refine xe_iload_n dX9_putInBier_4 rfl ?_
  obtain ⟨b1, k⟩ := k
  refine xe_iald dX9_putInBier_5 h_s.k6 (xKK_lt h_s.k6) b1 ?_
  refine xe_iload_n dX9_putInBier_6 rfl ?_
  refine xe_icmp_eq (tgt := 63) dX9_putInBier_7 rfl (fun c2 => ?_) (fun c3 => ?_)
  · have k := k.1 c2
    exact xe_return dX9_putInBier_63 trivial k
  · have k := k.2 (fun q => (c3 q))
    refine xe_iload_n dX9_putInBier_10 rfl ?_
    refine xe_bipush (v := 6) dX9_putInBier_11 rfl ?_
    refine xe_callSN (args := [.int i2, .int (6 : Int32)]) dX9_putInBier_13 snX9_77 rfl rfl (Nat.le_of_ble_eq_true rfl) k (Nat.le_refl _) (fun rv4 u4 w4 r4 k => ?_)
    obtain ⟨v4, rfl, rfl, rfl, rfl, k⟩ := k
    refine xe_if_eq (tgt := 63) dX9_putInBier_16 rfl (fun c5 => ?_) (fun c6 => ?_)
    · have k := k.1 c5
      exact xe_return dX9_putInBier_63 trivial k
    · have k := k.2 (fun q => (c6 q))
      refine xe_aload_n dX9_putInBier_19 rfl ?_
      refine xe_aload_n dX9_putInBier_20 rfl ?_
      refine xe_getR (b := (s + 6)) dX9_putInBier_21 flX9_27 h_s.k0 (xKK_lt h_s.k0) rfl q_s.f8 ?_
      refine xe_iload_n dX9_putInBier_24 rfl ?_
      refine xe_iald dX9_putInBier_25 h_s.k6 (xKK_lt h_s.k6) b1 ?_
      refine xe_callV (args := [.int (u (s + 6) i1.toNatClampNeg)]) dX9_putInBier_26 vlX9_85 rfl rfl (Nat.le_of_ble_eq_true rfl) h_s.k0 (xKK_lt h_s.k0) rfl rfl k (Nat.le_refl _) (fun rv7 u7 w7 r7 k => ?_)
      obtain ⟨rfl, rfl, rfl, k⟩ := k
      refine xe_aload_n dX9_putInBier_29 rfl ?_
      refine xe_getR (b := (s + 5)) dX9_putInBier_30 flX9_24 h_s.k0 (xKK_lt h_s.k0) rfl q_s.f7 ?_
      refine xe_iload_n dX9_putInBier_33 rfl ?_
      refine xe_iconst (v := -1) dX9_putInBier_34 rfl ?_
      refine xe_iast dX9_putInBier_35 h_s.k5 (xKK_lt h_s.k5) b1 ?_
      refine xe_aload_n dX9_putInBier_36 rfl ?_
      refine xe_getR (b := (s + 6)) dX9_putInBier_37 flX9_27 h_s.k0 (xKK_lt h_s.k0) rfl q_s.f8 ?_
      refine xe_iload_n dX9_putInBier_40 rfl ?_
      refine xe_iload_n dX9_putInBier_41 rfl ?_
      refine xe_iast dX9_putInBier_42 h_s.k6 (xKK_lt h_s.k6) b1 ?_
      refine xe_aload_n dX9_putInBier_43 rfl ?_
      refine xe_getR (b := (s + 11)) dX9_putInBier_44 flX9_42 h_s.k0 (xKK_lt h_s.k0) rfl q_s.f13 ?_
      refine xe_iload_n dX9_putInBier_47 rfl ?_
      refine xe_dup2 dX9_putInBier_48 rfl rfl ?_
      refine xe_iald dX9_putInBier_49 h_s.k11 (xKK_lt h_s.k11) b1 ?_
      refine xe_iconst (v := 1) dX9_putInBier_50 rfl ?_
      refine xe_iadd dX9_putInBier_51 ?_
      refine xe_iast dX9_putInBier_52 h_s.k11 (xKK_lt h_s.k11) b1 ?_
      refine xe_aload_n dX9_putInBier_53 rfl ?_
      refine xe_getR (b := (s + 4)) dX9_putInBier_54 flX9_21 h_s.k0 (xKK_lt h_s.k0) rfl q_s.f6 ?_
      refine xe_iload_n dX9_putInBier_57 rfl ?_
      refine xe_dup2 dX9_putInBier_58 rfl rfl ?_
      obtain ⟨b8, k⟩ := k
      refine xe_iald dX9_putInBier_59 h_s.k4 (xKK_lt h_s.k4) b8 ?_
      refine xe_iconst (v := 1) dX9_putInBier_60 rfl ?_
      refine xe_iadd dX9_putInBier_61 ?_
      refine xe_iast dX9_putInBier_62 h_s.k4 (xKK_lt h_s.k4) b8 ?_
      exact xe_return dX9_putInBier_63 trivial k

theorem CX9_putInBier {g : xGT} {d : Nat} {i1 i2 : Int32} {s : Nat} {u : xU} {w : xW} {r : xQ} {P : xPost} (h_s : xSt s) (q_s : xSr s r)
    (k : vp_in i1 10 ∧ (((u (s + 6) i1.toNatClampNeg) = i2 → P none u w r) ∧ (¬ ((u (s + 6) i1.toNatClampNeg) = i2) → xCall g d mX11_isOneOf [.int i2, .int (6 : Int32)] 698 u w r 698 (fun rv4 u4 w4 r4 => ∃ v4 : Int32, rv4 = some (.int v4) ∧ u = u4 ∧ w = w4 ∧ r = r4 ∧ (v4 = 0 → P none u w r) ∧ (¬ (v4 = 0) → xCall g d mX9_comeOutOf [.ref s, .int (u (s + 6) i1.toNatClampNeg)] 698 u w r 698 (fun rv7 u7 w7 r7 => rv7 = none ∧ w = w7 ∧ r = r7 ∧ vp_in i2 6 ∧ (P none (x2 (x2 (x2 (x2 u7 (s + 5) i1.toNatClampNeg (-1 : Int32)) (s + 6) i1.toNatClampNeg i2) (s + 11) i1.toNatClampNeg (((x2 (x2 u7 (s + 5) i1.toNatClampNeg (-1 : Int32)) (s + 6) i1.toNatClampNeg i2) (s + 11) i1.toNatClampNeg) + (1 : Int32))) (s + 4) i2.toNatClampNeg (((x2 (x2 (x2 u7 (s + 5) i1.toNatClampNeg (-1 : Int32)) (s + 6) i1.toNatClampNeg i2) (s + 11) i1.toNatClampNeg (((x2 (x2 u7 (s + 5) i1.toNatClampNeg (-1 : Int32)) (s + 6) i1.toNatClampNeg i2) (s + 11) i1.toNatClampNeg) + (1 : Int32))) (s + 4) i2.toNatClampNeg) + (1 : Int32))) w r))))))) :
    xCall g (d + 1) mX9_putInBier [.ref s, .int i1, .int i2] 698 u w r 698 P :=
  xCall.of plX9 (Nat.le_of_ble_eq_true rfl) rfl (TX9_putInBier_0 h_s q_s k)

/-! State.putHome -/

theorem TX9_putHome_0 {g : xGT} {d : Nat} {i1 : Int32} {s : Nat} {u : xU} {w : xW} {r : xQ} {P : xPost} (h_s : xSt s) (q_s : xSr s r)
    (k : xCall g d mX9_putInPile [.ref s, .int i1, .int (-1 : Int32)] 698 u w r 698 (fun rv1 u1 w1 r1 => rv1 = none ∧ w = w1 ∧ r = r1 ∧ vp_in i1 10 ∧ (P none (x2 u1 (s + 7) i1.toNatClampNeg (u1 s 0)) w r))) :
    xEv g (d + 1) mX9_putHome 0 [some (.ref s), some (.int i1)] [] 698 u w r 698 P := by
  refine xe_aload_n dX9_putHome_0 rfl ?_
  refine xe_iload_n dX9_putHome_1 rfl ?_
  refine xe_iconst (v := -1) dX9_putHome_2 rfl ?_
  refine xe_callV (args := [.int i1, .int (-1 : Int32)]) dX9_putHome_3 vlX9_89 rfl rfl (Nat.le_of_ble_eq_true rfl) h_s.k0 (xKK_lt h_s.k0) rfl rfl k (Nat.le_refl _) (fun rv1 u1 w1 r1 k => ?_)
  obtain ⟨rfl, rfl, rfl, k⟩ := k
  refine xe_aload_n dX9_putHome_6 rfl ?_
  refine xe_getR (b := (s + 7)) dX9_putHome_7 flX9_30 h_s.k0 (xKK_lt h_s.k0) rfl q_s.f9 ?_
  refine xe_iload_n dX9_putHome_10 rfl ?_
  refine xe_aload_n dX9_putHome_11 rfl ?_
  refine xe_getI dX9_putHome_12 flX9_45 h_s.k0 (xKK_lt h_s.k0) rfl ?_
  obtain ⟨b2, k⟩ := k
  refine xe_iast dX9_putHome_15 h_s.k7 (xKK_lt h_s.k7) b2 ?_
  exact xe_return dX9_putHome_16 trivial k

theorem CX9_putHome {g : xGT} {d : Nat} {i1 : Int32} {s : Nat} {u : xU} {w : xW} {r : xQ} {P : xPost} (h_s : xSt s) (q_s : xSr s r)
    (k : xCall g d mX9_putInPile [.ref s, .int i1, .int (-1 : Int32)] 698 u w r 698 (fun rv1 u1 w1 r1 => rv1 = none ∧ w = w1 ∧ r = r1 ∧ vp_in i1 10 ∧ (P none (x2 u1 (s + 7) i1.toNatClampNeg (u1 s 0)) w r))) :
    xCall g (d + 1) mX9_putHome [.ref s, .int i1] 698 u w r 698 P :=
  xCall.of plX9 (Nat.le_of_ble_eq_true rfl) rfl (TX9_putHome_0 h_s q_s k)

/-! State.comeOutOf -/

theorem TX9_comeOutOf_0 {g : xGT} {d : Nat} {i1 : Int32} {s : Nat} {u : xU} {w : xW} {r : xQ} {P : xPost} (h_s : xSt s) (q_s : xSr s r)
    (k : ((¬ (i1 < 0) ∧ ¬ ((6 : Int32) ≤ i1)) → vp_in i1 6 ∧ (P none (x2 u (s + 4) i1.toNatClampNeg ((u (s + 4) i1.toNatClampNeg) - (1 : Int32))) w r)) ∧ (¬ (¬ (i1 < 0) ∧ ¬ ((6 : Int32) ≤ i1)) → P none u w r)) :
    xEv g d mX9_comeOutOf 0 [some (.ref s), some (.int i1)] [] 698 u w r 698 P := by
  refine xe_iload_n dX9_comeOutOf_0 rfl ?_
  have K6 : ¬ (¬ (i1 < 0) ∧ ¬ ((6 : Int32) ≤ i1)) → xEv g d mX9_comeOutOf 20 [some (.ref s), some (.int i1)] [] 698 u w r 698 P := fun c7 => by
    have k := k.2 c7
    exact xe_return dX9_comeOutOf_20 trivial k
  refine xe_if_lt (tgt := 20) dX9_comeOutOf_1 rfl (fun c1 => ?_) (fun c2 => ?_)
  · exact K6 (fun q => (q.1 c1))
  · refine xe_iload_n dX9_comeOutOf_4 rfl ?_
    refine xe_bipush (v := 6) dX9_comeOutOf_5 rfl ?_
    refine xe_icmp_ge (tgt := 20) dX9_comeOutOf_7 rfl (fun c3 => ?_) (fun c4 => ?_)
    · exact K6 (fun q => (q.2 c3))
    · have k := k.1 ⟨c2, c4⟩
      refine xe_aload_n dX9_comeOutOf_10 rfl ?_
      refine xe_getR (b := (s + 4)) dX9_comeOutOf_11 flX9_21 h_s.k0 (xKK_lt h_s.k0) rfl q_s.f6 ?_
      refine xe_iload_n dX9_comeOutOf_14 rfl ?_
      refine xe_dup2 dX9_comeOutOf_15 rfl rfl ?_
      obtain ⟨b5, k⟩ := k
      refine xe_iald dX9_comeOutOf_16 h_s.k4 (xKK_lt h_s.k4) b5 ?_
      refine xe_iconst (v := 1) dX9_comeOutOf_17 rfl ?_
      refine xe_isub dX9_comeOutOf_18 ?_
      refine xe_iast dX9_comeOutOf_19 h_s.k4 (xKK_lt h_s.k4) b5 ?_
      exact xe_return dX9_comeOutOf_20 trivial k

theorem CX9_comeOutOf {g : xGT} {d : Nat} {i1 : Int32} {s : Nat} {u : xU} {w : xW} {r : xQ} {P : xPost} (h_s : xSt s) (q_s : xSr s r)
    (k : ((¬ (i1 < 0) ∧ ¬ ((6 : Int32) ≤ i1)) → vp_in i1 6 ∧ (P none (x2 u (s + 4) i1.toNatClampNeg ((u (s + 4) i1.toNatClampNeg) - (1 : Int32))) w r)) ∧ (¬ (¬ (i1 < 0) ∧ ¬ ((6 : Int32) ≤ i1)) → P none u w r)) :
    xCall g d mX9_comeOutOf [.ref s, .int i1] 698 u w r 698 P :=
  xCall.of plX9 (Nat.le_of_ble_eq_true rfl) rfl (TX9_comeOutOf_0 h_s q_s k)
