/-! what startAnew walks, once more with 655 places made: the class makes itself before the reference lies (written by gen/nx5.py out of the parts before) -/
theorem xs5 {s : Nat} (h : xSt s) : s + 12 ≤ 655 := by
  have key : ∀ a, a < 698 → xKK a = some (.inl 9) → a + 12 ≤ 655 := by decide +kernel
  exact key s (xKK_lt h.k0) h.k0
theorem xl5 {s : Nat} (h : xLd s) : s + 15 ≤ 655 := by
  have key : ∀ a, a < 698 → xKK a = some (.inl 2) → a + 15 ≤ 655 := by decide +kernel
  exact key s (xKK_lt h.k0) h.k0
theorem TX6_begin_0_5 {g : xGT} {d : Nat} {s : Nat} {u : xU} {w : xW} {r : xQ} {P : xPost} (hr : xRf r)
    (k : xCall g d mX9_copyFrom [.ref (119 + 12 * 0), .ref s] 655 (x2 (x2 (x2 u 117 1 (0 : Int32)) 117 2 (0 : Int32)) 117 3 (0 : Int32)) w r 655 (fun rv1 u1 w1 r1 => rv1 = none ∧ w = w1 ∧ r = r1 ∧ P none u1 w r)) :
    xEv g (d + 1) mX6_begin 0 [some (.ref 117), some (.ref s)] [] 655 u w r 655 P := by
  refine xe_aload_n dX6_begin_0 rfl ?_
  refine xe_iconst (v := 0) dX6_begin_1 rfl ?_
  refine xe_putI dX6_begin_2 flX6_18 kk117 (by omega) nf6_1 rfl ?_
  refine xe_aload_n dX6_begin_5 rfl ?_
  refine xe_iconst (v := 0) dX6_begin_6 rfl ?_
  refine xe_putI dX6_begin_7 flX6_22 kk117 (by omega) nf6_2 rfl ?_
  refine xe_aload_n dX6_begin_10 rfl ?_
  refine xe_iconst (v := 0) dX6_begin_11 rfl ?_
  refine xe_putI dX6_begin_12 flX6_25 kk117 (by omega) nf6_3 rfl ?_
  refine xe_aload_n dX6_begin_15 rfl ?_
  refine xe_getR (b := 118) dX6_begin_16 flX6_13 kk117 (by omega) rfl (rf117_0 hr) ?_
  refine xe_iconst (v := 0) dX6_begin_19 rfl ?_
  refine xe_aald dX6_begin_20 kk118 (by omega) (by simp) (show ¬ ((0 : Int32) < 0 ∨ 41 ≤ (0 : Int32).toNatClampNeg) from by decide) (rr118 hr (show ¬ ((0 : Int32) < 0 ∨ 41 ≤ (0 : Int32).toNatClampNeg) from by decide)) ?_
  refine xe_aload_n dX6_begin_21 rfl ?_
  refine xe_callV (args := [.ref s]) dX6_begin_22 vlX6_28 rfl rfl (Nat.le_of_ble_eq_true rfl) (ss118 (show ¬ ((0 : Int32) < 0 ∨ 41 ≤ (0 : Int32).toNatClampNeg) from by decide)).k0 (by decide +kernel) rfl rfl k (Nat.le_refl _) (fun rv1 u1 w1 r1 k => ?_)
  obtain ⟨rfl, rfl, rfl, k⟩ := k
  exact xe_return dX6_begin_25 trivial k
theorem CX6_begin_5 {g : xGT} {d : Nat} {s : Nat} {u : xU} {w : xW} {r : xQ} {P : xPost} (hr : xRf r)
    (k : xCall g d mX9_copyFrom [.ref (119 + 12 * 0), .ref s] 655 (x2 (x2 (x2 u 117 1 (0 : Int32)) 117 2 (0 : Int32)) 117 3 (0 : Int32)) w r 655 (fun rv1 u1 w1 r1 => rv1 = none ∧ w = w1 ∧ r = r1 ∧ P none u1 w r)) :
    xCall g (d + 1) mX6_begin [.ref 117, .ref s] 655 u w r 655 P :=
  xCall.of plX6 (Nat.le_of_ble_eq_true rfl) rfl (TX6_begin_0_5 hr k)
theorem TX8_lay_0_5 {g : xGT} {d : Nat} {i2 : Int32} {l : Nat} {u : xU} {w : xW} {r : xQ} {P : xPost}
    (k : xEv g (d + 1) mX8_lay 2 [some (.ref 53), some (.ref l), some (.int i2), some (.int (0 : Int32)), none, none] [] 655 u w r 655 P) :
    xEv g (d + 1) mX8_lay 0 [some (.ref 53), some (.ref l), some (.int i2), none, none, none] [] 655 u w r 655 P := by
  refine xe_iconst (v := 0) dX8_lay_0 rfl ?_
  refine xe_istore_n (ls' := [some (.ref 53), some (.ref l), some (.int i2), some (.int (0 : Int32)), none, none]) dX8_lay_1 rfl (by decide) rfl ?_
  exact k
theorem CX8_lay_5 {g : xGT} {d : Nat} {i2 : Int32} {l : Nat} {u : xU} {w : xW} {r : xQ} {P : xPost}
    (k : xEv g (d + 1) mX8_lay 2 [some (.ref 53), some (.ref l), some (.int i2), some (.int (0 : Int32)), none, none] [] 655 u w r 655 P) :
    xCall g (d + 1) mX8_lay [.ref 53, .ref l, .int i2] 655 u w r 655 P :=
  xCall.of plX8 (Nat.le_of_ble_eq_true rfl) rfl (TX8_lay_0_5  k)
theorem TX8_lay_2_5 {g : xGT} {d : Nat} {i2 i3 : Int32} {l : Nat} {u : xU} {w : xW} {r : xQ} {P : xPost} (hr : xRf r)
    (k : ((7 : Int32) ≤ i3 → xEv g (d + 1) mX8_lay 71 [some (.ref 53), some (.ref l), some (.int i2), some (.int (0 : Int32)), none, none] [] 655 u w r 655 P) ∧ (¬ ((7 : Int32) ≤ i3) → vp_in i3 7 ∧ (xEv g (d + 1) mX8_lay 18 [some (.ref 53), some (.ref l), some (.int i2), some (.int i3), some (.int (0 : Int32)), none] [] 655 (x2 u 78 i3.toNatClampNeg (0 : Int32)) w r 655 P))) :
    xEv g (d + 1) mX8_lay 2 [some (.ref 53), some (.ref l), some (.int i2), some (.int i3), none, none] [] 655 u w r 655 P := by
  refine xe_iload_n dX8_lay_2 rfl ?_
  refine xe_bipush (v := 7) dX8_lay_3 rfl ?_
  refine xe_icmp_ge (tgt := 69) dX8_lay_5 rfl (fun c1 => ?_) (fun c2 => ?_)
  · have k := k.1 c1
    refine xe_iconst (v := 0) dX8_lay_69 rfl ?_
    refine xe_istore_n (ls' := [some (.ref 53), some (.ref l), some (.int i2), some (.int (0 : Int32)), none, none]) dX8_lay_70 rfl (by decide) rfl ?_
    exact k
  · have k := k.2 (fun q => (c2 q))
    refine xe_aload_n dX8_lay_8 rfl ?_
    refine xe_getR (b := 78) dX8_lay_9 flX8_22 kk53 (by omega) rfl (rf53_3 hr) ?_
    refine xe_iload_n dX8_lay_12 rfl ?_
    refine xe_iconst (v := 0) dX8_lay_13 rfl ?_
    obtain ⟨b3, k⟩ := k
    refine xe_iast dX8_lay_14 kk78 (by omega) b3 ?_
    refine xe_iconst (v := 0) dX8_lay_15 rfl ?_
    refine xe_istore (ls' := [some (.ref 53), some (.ref l), some (.int i2), some (.int i3), some (.int (0 : Int32)), none]) dX8_lay_16 (by decide) rfl ?_
    exact k
set_option maxRecDepth 20000 in
theorem TX8_lay_71_5 {g : xGT} {d : Nat} {i2 i3 : Int32} {l : Nat} {u : xU} {w : xW} {r : xQ} {P : xPost} (h_l : xLd l) (q_l : xLr l r)
    (k : ((u l 1) ≤ i3 → xCall g d mX8_shorten [.ref 53] 655 u w r 655 (fun rv6 u6 w6 r6 => rv6 = none ∧ w = w6 ∧ r = r6 ∧ xEv g (d + 1) mX8_lay 163 [some (.ref 53), none, none, some (.int (0 : Int32)), none, none] [] 655 u6 w r 655 P)) ∧ (¬ ((u l 1) ≤ i3) → vp_in i3 12 ∧ ((((i2 >>> (i3 &&& 31)) &&& (1 : Int32)) = 0 → xCall g d mX11_isOneOf [.int (u (l + 1) i3.toNatClampNeg), .int (7 : Int32)] 655 u w r 655 (fun rv10 u10 w10 r10 => ∃ v10 : Int32, rv10 = some (.int v10) ∧ u = u10 ∧ w = w10 ∧ r = r10 ∧ (v10 = 0 → xEv g (d + 1) mX8_lay 151 [some (.ref 53), some (.ref l), some (.int i2), some (.int i3), none, none] [] 655 u w r 655 P) ∧ (¬ (v10 = 0) → xCall g d mX11_isOneOf [.int (u (l + 2) i3.toNatClampNeg), .int (7 : Int32)] 655 u w r 655 (fun rv13 u13 w13 r13 => ∃ v13 : Int32, rv13 = some (.int v13) ∧ u = u13 ∧ w = w13 ∧ r = r13 ∧ (v13 = 0 → xEv g (d + 1) mX8_lay 151 [some (.ref 53), some (.ref l), some (.int i2), some (.int i3), none, none] [] 655 u w r 655 P) ∧ (¬ (v13 = 0) → xCall g d mX8_layWay [.ref 53, .int (u (l + 1) i3.toNatClampNeg), .int (u (l + 2) i3.toNatClampNeg), .int (u (l + 3) i3.toNatClampNeg)] 655 u w r 655 (fun rv16 u16 w16 r16 => rv16 = none ∧ w = w16 ∧ r = r16 ∧ xCall g d mX8_layWay [.ref 53, .int (u (l + 2) i3.toNatClampNeg), .int (u (l + 1) i3.toNatClampNeg), .int (u16 (l + 3) i3.toNatClampNeg)] 655 u16 w r 655 (fun rv17 u17 w17 r17 => rv17 = none ∧ w = w17 ∧ r = r17 ∧ xEv g (d + 1) mX8_lay 151 [some (.ref 53), some (.ref l), some (.int i2), some (.int i3), none, none] [] 655 u17 w r 655 P))))))) ∧ (¬ (((i2 >>> (i3 &&& 31)) &&& (1 : Int32)) = 0) → xEv g (d + 1) mX8_lay 151 [some (.ref 53), some (.ref l), some (.int i2), some (.int i3), none, none] [] 655 u w r 655 P)))) :
    xEv g (d + 1) mX8_lay 71 [some (.ref 53), some (.ref l), some (.int i2), some (.int i3), none, none] [] 655 u w r 655 P := by
  have z_h_l := xl5 h_l
  refine xe_iload_n dX8_lay_71 rfl ?_
  refine xe_aload_n dX8_lay_72 rfl ?_
  refine xe_getI dX8_lay_73 flX8_26 h_l.k0 (by omega) rfl ?_
  refine xe_icmp_ge (tgt := 157) dX8_lay_76 rfl (fun c4 => ?_) (fun c5 => ?_)
  · have k := k.1 c4
    refine xe_aload_n dX8_lay_157 rfl ?_
    refine xe_callV (args := []) dX8_lay_158 vlX8_49 rfl rfl (Nat.le_of_ble_eq_true rfl) kk53 (by omega) rfl rfl k (Nat.le_refl _) (fun rv6 u6 w6 r6 k => ?_)
    obtain ⟨rfl, rfl, rfl, k⟩ := k
    refine xe_iconst (v := 0) dX8_lay_161 rfl ?_
    refine xe_istore_n (ls' := [some (.ref 53), some (.ref l), some (.int i2), some (.int (0 : Int32)), none, none]) dX8_lay_162 rfl (by decide) rfl ?_
    exact xEv.fewer (ls' := [some (.ref 53), none, none, some (.int (0 : Int32)), none, none]) k (xfw_get (xfw_s (xfw_n (xfw_n (xfw_s (xfw_n (xfw_n (xfw_nil _))))))))
  · have k := k.2 (fun q => (c5 q))
    refine xe_aload_n dX8_lay_79 rfl ?_
    refine xe_getR (b := (l + 1)) dX8_lay_80 flX8_32 h_l.k0 (by omega) rfl q_l.1.f2 ?_
    refine xe_iload_n dX8_lay_83 rfl ?_
    obtain ⟨b7, k⟩ := k
    refine xe_iald dX8_lay_84 h_l.k1 (by omega) b7 ?_
    refine xe_istore (ls' := [some (.ref 53), some (.ref l), some (.int i2), some (.int i3), some (.int (u (l + 1) i3.toNatClampNeg)), none]) dX8_lay_85 (by decide) rfl ?_
    refine xe_aload_n dX8_lay_87 rfl ?_
    refine xe_getR (b := (l + 2)) dX8_lay_88 flX8_35 h_l.k0 (by omega) rfl q_l.1.f3 ?_
    refine xe_iload_n dX8_lay_91 rfl ?_
    refine xe_iald dX8_lay_92 h_l.k2 (by omega) b7 ?_
    refine xe_istore (ls' := [some (.ref 53), some (.ref l), some (.int i2), some (.int i3), some (.int (u (l + 1) i3.toNatClampNeg)), some (.int (u (l + 2) i3.toNatClampNeg))]) dX8_lay_93 (by decide) rfl ?_
    refine xe_iload_n dX8_lay_95 rfl ?_
    refine xe_iload_n dX8_lay_96 rfl ?_
    refine xe_ishr dX8_lay_97 ?_
    refine xe_iconst (v := 1) dX8_lay_98 rfl ?_
    refine xe_iand dX8_lay_99 ?_
    refine xe_if_ne (tgt := 151) dX8_lay_100 rfl (fun c8 => ?_) (fun c9 => ?_)
    · have k := k.2 (fun q => (c8 q))
      exact xEv.fewer (ls' := [some (.ref 53), some (.ref l), some (.int i2), some (.int i3), none, none]) k (xfw_get (xfw_s (xfw_s (xfw_s (xfw_s (xfw_n (xfw_n (xfw_nil _))))))))
    · have k := k.1 c9
      refine xe_iload dX8_lay_103 rfl ?_
      refine xe_bipush (v := 7) dX8_lay_105 rfl ?_
      refine xe_callSN (args := [.int (u (l + 1) i3.toNatClampNeg), .int (7 : Int32)]) dX8_lay_107 snX8_38 rfl rfl (Nat.le_of_ble_eq_true rfl) k (Nat.le_refl _) (fun rv10 u10 w10 r10 k => ?_)
      obtain ⟨v10, rfl, rfl, rfl, rfl, k⟩ := k
      refine xe_if_eq (tgt := 151) dX8_lay_110 rfl (fun c11 => ?_) (fun c12 => ?_)
      · have k := k.1 c11
        exact xEv.fewer (ls' := [some (.ref 53), some (.ref l), some (.int i2), some (.int i3), none, none]) k (xfw_get (xfw_s (xfw_s (xfw_s (xfw_s (xfw_n (xfw_n (xfw_nil _))))))))
      · have k := k.2 (fun q => (c12 q))
        refine xe_iload dX8_lay_113 rfl ?_
        refine xe_bipush (v := 7) dX8_lay_115 rfl ?_
        refine xe_callSN (args := [.int (u (l + 2) i3.toNatClampNeg), .int (7 : Int32)]) dX8_lay_117 snX8_38 rfl rfl (Nat.le_of_ble_eq_true rfl) k (Nat.le_refl _) (fun rv13 u13 w13 r13 k => ?_)
        obtain ⟨v13, rfl, rfl, rfl, rfl, k⟩ := k
        refine xe_if_eq (tgt := 151) dX8_lay_120 rfl (fun c14 => ?_) (fun c15 => ?_)
        · have k := k.1 c14
          exact xEv.fewer (ls' := [some (.ref 53), some (.ref l), some (.int i2), some (.int i3), none, none]) k (xfw_get (xfw_s (xfw_s (xfw_s (xfw_s (xfw_n (xfw_n (xfw_nil _))))))))
        · have k := k.2 (fun q => (c15 q))
          refine xe_aload_n dX8_lay_123 rfl ?_
          refine xe_iload dX8_lay_124 rfl ?_
          refine xe_iload dX8_lay_126 rfl ?_
          refine xe_aload_n dX8_lay_128 rfl ?_
          refine xe_getR (b := (l + 3)) dX8_lay_129 flX8_42 h_l.k0 (by omega) rfl q_l.1.f4 ?_
          refine xe_iload_n dX8_lay_132 rfl ?_
          refine xe_iald dX8_lay_133 h_l.k3 (by omega) b7 ?_
          refine xe_callV (args := [.int (u (l + 1) i3.toNatClampNeg), .int (u (l + 2) i3.toNatClampNeg), .int (u (l + 3) i3.toNatClampNeg)]) dX8_lay_134 vlX8_45 rfl rfl (Nat.le_of_ble_eq_true rfl) kk53 (by omega) rfl rfl k (Nat.le_refl _) (fun rv16 u16 w16 r16 k => ?_)
          obtain ⟨rfl, rfl, rfl, k⟩ := k
          refine xe_aload_n dX8_lay_137 rfl ?_
          refine xe_iload dX8_lay_138 rfl ?_
          refine xe_iload dX8_lay_140 rfl ?_
          refine xe_aload_n dX8_lay_142 rfl ?_
          refine xe_getR (b := (l + 3)) dX8_lay_143 flX8_42 h_l.k0 (by omega) rfl q_l.1.f4 ?_
          refine xe_iload_n dX8_lay_146 rfl ?_
          refine xe_iald dX8_lay_147 h_l.k3 (by omega) b7 ?_
          refine xe_callV (args := [.int (u (l + 2) i3.toNatClampNeg), .int (u (l + 1) i3.toNatClampNeg), .int (u16 (l + 3) i3.toNatClampNeg)]) dX8_lay_148 vlX8_45 rfl rfl (Nat.le_of_ble_eq_true rfl) kk53 (by omega) rfl rfl k (Nat.le_refl _) (fun rv17 u17 w17 r17 k => ?_)
          obtain ⟨rfl, rfl, rfl, k⟩ := k
          exact xEv.fewer (ls' := [some (.ref 53), some (.ref l), some (.int i2), some (.int i3), none, none]) k (xfw_get (xfw_s (xfw_s (xfw_s (xfw_s (xfw_n (xfw_n (xfw_nil _))))))))
theorem TX8_lay_18_5 {g : xGT} {d : Nat} {i2 i3 i4 : Int32} {l : Nat} {u : xU} {w : xW} {r : xQ} {P : xPost} (hr : xRf r)
    (k : ((7 : Int32) ≤ i4 → xEv g (d + 1) mX8_lay 2 [some (.ref 53), some (.ref l), some (.int i2), some (.int (i3 + (1 : Int32))), none, none] [] 655 u w r 655 P) ∧ (¬ ((7 : Int32) ≤ i4) → vp_in i3 7 ∧ (vp_in i4 7 ∧ (xEv g (d + 1) mX8_lay 18 [some (.ref 53), some (.ref l), some (.int i2), some (.int i3), some (.int (i4 + (1 : Int32))), none] [] 655 (x2 (x2 u (55 + i3.toNatClampNeg) i4.toNatClampNeg (if i3 = i4 then (0 : Int32) else (1000 : Int32))) (63 + i3.toNatClampNeg) i4.toNatClampNeg (0 : Int32)) w r 655 P)))) :
    xEv g (d + 1) mX8_lay 18 [some (.ref 53), some (.ref l), some (.int i2), some (.int i3), some (.int i4), none] [] 655 u w r 655 P := by
  refine xe_iload dX8_lay_18 rfl ?_
  refine xe_bipush (v := 7) dX8_lay_20 rfl ?_
  refine xe_icmp_ge (tgt := 63) dX8_lay_22 rfl (fun c18 => ?_) (fun c19 => ?_)
  · have k := k.1 c18
    refine xe_iinc (v := (i3 + (1 : Int32))) (ls' := [some (.ref 53), some (.ref l), some (.int i2), some (.int (i3 + (1 : Int32))), some (.int i4), none]) dX8_lay_63 rfl (by decide) rfl rfl ?_
    refine xe_goto (tgt := 2) dX8_lay_66 rfl ?_
    exact xEv.fewer (ls' := [some (.ref 53), some (.ref l), some (.int i2), some (.int (i3 + (1 : Int32))), none, none]) k (xfw_get (xfw_s (xfw_s (xfw_s (xfw_s (xfw_n (xfw_n (xfw_nil _))))))))
  · have k := k.2 (fun q => (c19 q))
    refine xe_aload_n dX8_lay_25 rfl ?_
    refine xe_getR (b := 54) dX8_lay_26 flX8_11 kk53 (by omega) rfl (rf53_0 hr) ?_
    refine xe_iload_n dX8_lay_29 rfl ?_
    obtain ⟨b20, k⟩ := k
    refine xe_aald dX8_lay_30 kk54 (by omega) (by simp) b20 (rr54 hr b20) ?_
    refine xe_iload dX8_lay_31 rfl ?_
    refine xe_iload_n dX8_lay_33 rfl ?_
    refine xe_iload dX8_lay_34 rfl ?_
    have K24 : xEv g (d + 1) mX8_lay 46 [some (.ref 53), some (.ref l), some (.int i2), some (.int i3), some (.int i4), none] [.int (if i3 = i4 then (0 : Int32) else (1000 : Int32)), .int i4, .ref (55 + i3.toNatClampNeg)] 655 u w r 655 P := by
      obtain ⟨b23, k⟩ := k
      refine xe_iast dX8_lay_46 (kr54 (i := i3) b20) (by have z9 := vp_lt b20; omega) b23 ?_
      refine xe_aload_n dX8_lay_47 rfl ?_
      refine xe_getR (b := 62) dX8_lay_48 flX8_16 kk53 (by omega) rfl (rf53_1 hr) ?_
      refine xe_iload_n dX8_lay_51 rfl ?_
      refine xe_aald dX8_lay_52 kk62 (by omega) (by simp) b20 (rr62 hr b20) ?_
      refine xe_iload dX8_lay_53 rfl ?_
      refine xe_iconst (v := 0) dX8_lay_55 rfl ?_
      refine xe_iast dX8_lay_56 (kr62 (i := i3) b20) (by have z9 := vp_lt b20; omega) b23 ?_
      refine xe_iinc (v := (i4 + (1 : Int32))) (ls' := [some (.ref 53), some (.ref l), some (.int i2), some (.int i3), some (.int (i4 + (1 : Int32))), none]) dX8_lay_57 rfl (by decide) rfl rfl ?_
      refine xe_goto (tgt := 18) dX8_lay_60 rfl ?_
      exact k
    refine xe_icmp_ne (tgt := 43) dX8_lay_36 rfl (fun c21 => ?_) (fun c22 => ?_)
    · refine xe_sipush (v := 1000) dX8_lay_43 rfl ?_
      exact xtop (if_neg (fun q => (c21 q))) K24
    · refine xe_iconst (v := 0) dX8_lay_39 rfl ?_
      refine xe_goto (tgt := 46) dX8_lay_40 rfl ?_
      exact xtop (if_pos c22) K24
theorem TX8_lay_163_5 {g : xGT} {d : Nat} {i3 : Int32} {u : xU} {w : xW} {r : xQ} {P : xPost}
    (k : ((7 : Int32) ≤ i3 → P none u w r) ∧ (¬ ((7 : Int32) ≤ i3) → xEv g (d + 1) mX8_lay 172 [some (.ref 53), none, none, some (.int i3), some (.int (0 : Int32)), none] [] 655 u w r 655 P)) :
    xEv g (d + 1) mX8_lay 163 [some (.ref 53), none, none, some (.int i3), none, none] [] 655 u w r 655 P := by
  refine xe_iload_n dX8_lay_163 rfl ?_
  refine xe_bipush (v := 7) dX8_lay_164 rfl ?_
  refine xe_icmp_ge (tgt := 207) dX8_lay_166 rfl (fun c25 => ?_) (fun c26 => ?_)
  · have k := k.1 c25
    exact xe_return dX8_lay_207 trivial k
  · have k := k.2 (fun q => (c26 q))
    refine xe_iconst (v := 0) dX8_lay_169 rfl ?_
    refine xe_istore (ls' := [some (.ref 53), none, none, some (.int i3), some (.int (0 : Int32)), none]) dX8_lay_170 (by decide) rfl ?_
    exact k
theorem TX8_lay_151_5 {g : xGT} {d : Nat} {i2 i3 : Int32} {l : Nat} {u : xU} {w : xW} {r : xQ} {P : xPost}
    (k : xEv g (d + 1) mX8_lay 71 [some (.ref 53), some (.ref l), some (.int i2), some (.int (i3 + (1 : Int32))), none, none] [] 655 u w r 655 P) :
    xEv g (d + 1) mX8_lay 151 [some (.ref 53), some (.ref l), some (.int i2), some (.int i3), none, none] [] 655 u w r 655 P := by
  refine xe_iinc (v := (i3 + (1 : Int32))) (ls' := [some (.ref 53), some (.ref l), some (.int i2), some (.int (i3 + (1 : Int32))), none, none]) dX8_lay_151 rfl (by decide) rfl rfl ?_
  refine xe_goto (tgt := 71) dX8_lay_154 rfl ?_
  exact k
theorem TX8_lay_172_5 {g : xGT} {d : Nat} {i3 i4 : Int32} {u : xU} {w : xW} {r : xQ} {P : xPost} (hr : xRf r)
    (k : ((7 : Int32) ≤ i4 → xEv g (d + 1) mX8_lay 163 [some (.ref 53), none, none, some (.int (i3 + (1 : Int32))), none, none] [] 655 u w r 655 P) ∧ (¬ ((7 : Int32) ≤ i4) → vp_in i3 7 ∧ (xCall g d mX8_findNext [.ref 53, .int i3, .int i4] 655 u w r 655 (fun rv30 u30 w30 r30 => ∃ v30 : Int32, rv30 = some (.int v30) ∧ u = u30 ∧ w = w30 ∧ r = r30 ∧ vp_in i4 7 ∧ (xEv g (d + 1) mX8_lay 172 [some (.ref 53), none, none, some (.int i3), some (.int (i4 + (1 : Int32))), none] [] 655 (x2 u (71 + i3.toNatClampNeg) i4.toNatClampNeg v30) w r 655 P))))) :
    xEv g (d + 1) mX8_lay 172 [some (.ref 53), none, none, some (.int i3), some (.int i4), none] [] 655 u w r 655 P := by
  refine xe_iload dX8_lay_172 rfl ?_
  refine xe_bipush (v := 7) dX8_lay_174 rfl ?_
  refine xe_icmp_ge (tgt := 201) dX8_lay_176 rfl (fun c27 => ?_) (fun c28 => ?_)
  · have k := k.1 c27
    refine xe_iinc (v := (i3 + (1 : Int32))) (ls' := [some (.ref 53), none, none, some (.int (i3 + (1 : Int32))), some (.int i4), none]) dX8_lay_201 rfl (by decide) rfl rfl ?_
    refine xe_goto (tgt := 163) dX8_lay_204 rfl ?_
    exact xEv.fewer (ls' := [some (.ref 53), none, none, some (.int (i3 + (1 : Int32))), none, none]) k (xfw_get (xfw_s (xfw_n (xfw_n (xfw_s (xfw_n (xfw_n (xfw_nil _))))))))
  · have k := k.2 (fun q => (c28 q))
    refine xe_aload_n dX8_lay_179 rfl ?_
    refine xe_getR (b := 70) dX8_lay_180 flX8_19 kk53 (by omega) rfl (rf53_2 hr) ?_
    refine xe_iload_n dX8_lay_183 rfl ?_
    obtain ⟨b29, k⟩ := k
    refine xe_aald dX8_lay_184 kk70 (by omega) (by simp) b29 (rr70 hr b29) ?_
    refine xe_iload dX8_lay_185 rfl ?_
    refine xe_aload_n dX8_lay_187 rfl ?_
    refine xe_iload_n dX8_lay_188 rfl ?_
    refine xe_iload dX8_lay_189 rfl ?_
    refine xe_callV (args := [.int i3, .int i4]) dX8_lay_191 vlX8_52 rfl rfl (Nat.le_of_ble_eq_true rfl) kk53 (by omega) rfl rfl k (Nat.le_refl _) (fun rv30 u30 w30 r30 k => ?_)
    obtain ⟨v30, rfl, rfl, rfl, rfl, k⟩ := k
    obtain ⟨b31, k⟩ := k
    refine xe_iast dX8_lay_194 (kr70 (i := i3) b29) (by have z9 := vp_lt b29; omega) b31 ?_
    refine xe_iinc (v := (i4 + (1 : Int32))) (ls' := [some (.ref 53), none, none, some (.int i3), some (.int (i4 + (1 : Int32))), none]) dX8_lay_195 rfl (by decide) rfl rfl ?_
    refine xe_goto (tgt := 172) dX8_lay_198 rfl ?_
    exact k
theorem TX8_layWay_0_5 {g : xGT} {d : Nat} {i1 i2 i3 : Int32} {u : xU} {w : xW} {r : xQ} {P : xPost} (hr : xRf r)
    (k : vp_in i1 7 ∧ (vp_in i2 7 ∧ (P none (x2 (x2 (x2 u (55 + i1.toNatClampNeg) i2.toNatClampNeg i3) (63 + i1.toNatClampNeg) i2.toNatClampNeg i3) 78 i1.toNatClampNeg (((x2 (x2 u (55 + i1.toNatClampNeg) i2.toNatClampNeg i3) (63 + i1.toNatClampNeg) i2.toNatClampNeg i3) 78 i1.toNatClampNeg) ||| ((1 : Int32) <<< (i2 &&& 31)))) w r))) :
    xEv g d mX8_layWay 0 [some (.ref 53), some (.int i1), some (.int i2), some (.int i3)] [] 655 u w r 655 P := by
  refine xe_aload_n dX8_layWay_0 rfl ?_
  refine xe_getR (b := 54) dX8_layWay_1 flX8_11 kk53 (by omega) rfl (rf53_0 hr) ?_
  refine xe_iload_n dX8_layWay_4 rfl ?_
  obtain ⟨b1, k⟩ := k
  refine xe_aald dX8_layWay_5 kk54 (by omega) (by simp) b1 (rr54 hr b1) ?_
  refine xe_iload_n dX8_layWay_6 rfl ?_
  refine xe_iload_n dX8_layWay_7 rfl ?_
  obtain ⟨b2, k⟩ := k
  refine xe_iast dX8_layWay_8 (kr54 (i := i1) b1) (by have z9 := vp_lt b1; omega) b2 ?_
  refine xe_aload_n dX8_layWay_9 rfl ?_
  refine xe_getR (b := 62) dX8_layWay_10 flX8_16 kk53 (by omega) rfl (rf53_1 hr) ?_
  refine xe_iload_n dX8_layWay_13 rfl ?_
  refine xe_aald dX8_layWay_14 kk62 (by omega) (by simp) b1 (rr62 hr b1) ?_
  refine xe_iload_n dX8_layWay_15 rfl ?_
  refine xe_iload_n dX8_layWay_16 rfl ?_
  refine xe_iast dX8_layWay_17 (kr62 (i := i1) b1) (by have z9 := vp_lt b1; omega) b2 ?_
  refine xe_aload_n dX8_layWay_18 rfl ?_
  refine xe_getR (b := 78) dX8_layWay_19 flX8_22 kk53 (by omega) rfl (rf53_3 hr) ?_
  refine xe_iload_n dX8_layWay_22 rfl ?_
  refine xe_dup2 dX8_layWay_23 rfl rfl ?_
  refine xe_iald dX8_layWay_24 kk78 (by omega) b1 ?_
  refine xe_iconst (v := 1) dX8_layWay_25 rfl ?_
  refine xe_iload_n dX8_layWay_26 rfl ?_
  refine xe_ishl dX8_layWay_27 ?_
  refine xe_ior dX8_layWay_28 ?_
  refine xe_iast dX8_layWay_29 kk78 (by omega) b1 ?_
  exact xe_return dX8_layWay_30 trivial k
theorem CX8_layWay_5 {g : xGT} {d : Nat} {i1 i2 i3 : Int32} {u : xU} {w : xW} {r : xQ} {P : xPost} (hr : xRf r)
    (k : vp_in i1 7 ∧ (vp_in i2 7 ∧ (P none (x2 (x2 (x2 u (55 + i1.toNatClampNeg) i2.toNatClampNeg i3) (63 + i1.toNatClampNeg) i2.toNatClampNeg i3) 78 i1.toNatClampNeg (((x2 (x2 u (55 + i1.toNatClampNeg) i2.toNatClampNeg i3) (63 + i1.toNatClampNeg) i2.toNatClampNeg i3) 78 i1.toNatClampNeg) ||| ((1 : Int32) <<< (i2 &&& 31)))) w r))) :
    xCall g d mX8_layWay [.ref 53, .int i1, .int i2, .int i3] 655 u w r 655 P :=
  xCall.of plX8 (Nat.le_of_ble_eq_true rfl) rfl (TX8_layWay_0_5 hr k)
theorem TX8_shorten_0_5 {g : xGT} {d : Nat} {u : xU} {w : xW} {r : xQ} {P : xPost}
    (k : xEv g (d + 1) mX8_shorten 2 [some (.ref 53), some (.int (0 : Int32)), none, none] [] 655 u w r 655 P) :
    xEv g (d + 1) mX8_shorten 0 [some (.ref 53), none, none, none] [] 655 u w r 655 P := by
  refine xe_iconst (v := 0) dX8_shorten_0 rfl ?_
  refine xe_istore_n (ls' := [some (.ref 53), some (.int (0 : Int32)), none, none]) dX8_shorten_1 rfl (by decide) rfl ?_
  exact k
theorem CX8_shorten_5 {g : xGT} {d : Nat} {u : xU} {w : xW} {r : xQ} {P : xPost}
    (k : xEv g (d + 1) mX8_shorten 2 [some (.ref 53), some (.int (0 : Int32)), none, none] [] 655 u w r 655 P) :
    xCall g (d + 1) mX8_shorten [.ref 53] 655 u w r 655 P :=
  xCall.of plX8 (Nat.le_of_ble_eq_true rfl) rfl (TX8_shorten_0_5  k)
theorem TX8_shorten_2_5 {g : xGT} {d : Nat} {i1 : Int32} {u : xU} {w : xW} {r : xQ} {P : xPost}
    (k : ((7 : Int32) ≤ i1 → P none u w r) ∧ (¬ ((7 : Int32) ≤ i1) → xEv g (d + 1) mX8_shorten 10 [some (.ref 53), some (.int i1), some (.int (0 : Int32)), none] [] 655 u w r 655 P)) :
    xEv g (d + 1) mX8_shorten 2 [some (.ref 53), some (.int i1), none, none] [] 655 u w r 655 P := by
  refine xe_iload_n dX8_shorten_2 rfl ?_
  refine xe_bipush (v := 7) dX8_shorten_3 rfl ?_
  refine xe_icmp_ge (tgt := 78) dX8_shorten_5 rfl (fun c1 => ?_) (fun c2 => ?_)
  · have k := k.1 c1
    exact xe_return dX8_shorten_78 trivial k
  · have k := k.2 (fun q => (c2 q))
    refine xe_iconst (v := 0) dX8_shorten_8 rfl ?_
    refine xe_istore_n (ls' := [some (.ref 53), some (.int i1), some (.int (0 : Int32)), none]) dX8_shorten_9 rfl (by decide) rfl ?_
    exact k
theorem TX8_shorten_10_5 {g : xGT} {d : Nat} {i1 i2 : Int32} {u : xU} {w : xW} {r : xQ} {P : xPost}
    (k : ((7 : Int32) ≤ i2 → xEv g (d + 1) mX8_shorten 2 [some (.ref 53), some (.int (i1 + (1 : Int32))), none, none] [] 655 u w r 655 P) ∧ (¬ ((7 : Int32) ≤ i2) → xEv g (d + 1) mX8_shorten 18 [some (.ref 53), some (.int i1), some (.int i2), some (.int (0 : Int32))] [] 655 u w r 655 P)) :
    xEv g (d + 1) mX8_shorten 10 [some (.ref 53), some (.int i1), some (.int i2), none] [] 655 u w r 655 P := by
  refine xe_iload_n dX8_shorten_10 rfl ?_
  refine xe_bipush (v := 7) dX8_shorten_11 rfl ?_
  refine xe_icmp_ge (tgt := 72) dX8_shorten_13 rfl (fun c3 => ?_) (fun c4 => ?_)
  · have k := k.1 c3
    refine xe_iinc (v := (i1 + (1 : Int32))) (ls' := [some (.ref 53), some (.int (i1 + (1 : Int32))), some (.int i2), none]) dX8_shorten_72 rfl (by decide) rfl rfl ?_
    refine xe_goto (tgt := 2) dX8_shorten_75 rfl ?_
    exact xEv.fewer (ls' := [some (.ref 53), some (.int (i1 + (1 : Int32))), none, none]) k (xfw_get (xfw_s (xfw_s (xfw_n (xfw_n (xfw_nil _))))))
  · have k := k.2 (fun q => (c4 q))
    refine xe_iconst (v := 0) dX8_shorten_16 rfl ?_
    refine xe_istore_n (ls' := [some (.ref 53), some (.int i1), some (.int i2), some (.int (0 : Int32))]) dX8_shorten_17 rfl (by decide) rfl ?_
    exact k
theorem TX8_shorten_18_5 {g : xGT} {d : Nat} {i1 i2 i3 : Int32} {u : xU} {w : xW} {r : xQ} {P : xPost} (hr : xRf r)
    (k : ((7 : Int32) ≤ i3 → xEv g (d + 1) mX8_shorten 10 [some (.ref 53), some (.int i1), some (.int (i2 + (1 : Int32))), none] [] 655 u w r 655 P) ∧ (¬ ((7 : Int32) ≤ i3) → vp_in i2 7 ∧ (vp_in i3 7 ∧ (vp_in i1 7 ∧ (xEv g (d + 1) mX8_shorten 18 [some (.ref 53), some (.int i1), some (.int i2), some (.int (i3 + (1 : Int32)))] [] 655 (x2 u (55 + i2.toNatClampNeg) i3.toNatClampNeg (if ((u (55 + i2.toNatClampNeg) i1.toNatClampNeg) + (u (55 + i1.toNatClampNeg) i3.toNatClampNeg)) < (u (55 + i2.toNatClampNeg) i3.toNatClampNeg) then ((u (55 + i2.toNatClampNeg) i1.toNatClampNeg) + (u (55 + i1.toNatClampNeg) i3.toNatClampNeg)) else (u (55 + i2.toNatClampNeg) i3.toNatClampNeg))) w r 655 P))))) :
    xEv g (d + 1) mX8_shorten 18 [some (.ref 53), some (.int i1), some (.int i2), some (.int i3)] [] 655 u w r 655 P := by
  refine xe_iload_n dX8_shorten_18 rfl ?_
  refine xe_bipush (v := 7) dX8_shorten_19 rfl ?_
  refine xe_icmp_ge (tgt := 66) dX8_shorten_21 rfl (fun c5 => ?_) (fun c6 => ?_)
  · have k := k.1 c5
    refine xe_iinc (v := (i2 + (1 : Int32))) (ls' := [some (.ref 53), some (.int i1), some (.int (i2 + (1 : Int32))), some (.int i3)]) dX8_shorten_66 rfl (by decide) rfl rfl ?_
    refine xe_goto (tgt := 10) dX8_shorten_69 rfl ?_
    exact xEv.fewer (ls' := [some (.ref 53), some (.int i1), some (.int (i2 + (1 : Int32))), none]) k (xfw_get (xfw_s (xfw_s (xfw_s (xfw_n (xfw_nil _))))))
  · have k := k.2 (fun q => (c6 q))
    refine xe_aload_n dX8_shorten_24 rfl ?_
    refine xe_getR (b := 54) dX8_shorten_25 flX8_11 kk53 (by omega) rfl (rf53_0 hr) ?_
    refine xe_iload_n dX8_shorten_28 rfl ?_
    obtain ⟨b7, k⟩ := k
    refine xe_aald dX8_shorten_29 kk54 (by omega) (by simp) b7 (rr54 hr b7) ?_
    refine xe_iload_n dX8_shorten_30 rfl ?_
    refine xe_aload_n dX8_shorten_31 rfl ?_
    refine xe_getR (b := 54) dX8_shorten_32 flX8_11 kk53 (by omega) rfl (rf53_0 hr) ?_
    refine xe_iload_n dX8_shorten_35 rfl ?_
    refine xe_aald dX8_shorten_36 kk54 (by omega) (by simp) b7 (rr54 hr b7) ?_
    refine xe_iload_n dX8_shorten_37 rfl ?_
    obtain ⟨b8, k⟩ := k
    refine xe_iald dX8_shorten_38 (kr54 (i := i2) b7) (by have z9 := vp_lt b7; omega) b8 ?_
    refine xe_aload_n dX8_shorten_39 rfl ?_
    refine xe_getR (b := 54) dX8_shorten_40 flX8_11 kk53 (by omega) rfl (rf53_0 hr) ?_
    refine xe_iload_n dX8_shorten_43 rfl ?_
    refine xe_aald dX8_shorten_44 kk54 (by omega) (by simp) b7 (rr54 hr b7) ?_
    refine xe_iload_n dX8_shorten_45 rfl ?_
    obtain ⟨b9, k⟩ := k
    refine xe_iald dX8_shorten_46 (kr54 (i := i2) b7) (by have z9 := vp_lt b7; omega) b9 ?_
    refine xe_aload_n dX8_shorten_47 rfl ?_
    refine xe_getR (b := 54) dX8_shorten_48 flX8_11 kk53 (by omega) rfl (rf53_0 hr) ?_
    refine xe_iload_n dX8_shorten_51 rfl ?_
    refine xe_aald dX8_shorten_52 kk54 (by omega) (by simp) b9 (rr54 hr b9) ?_
    refine xe_iload_n dX8_shorten_53 rfl ?_
    refine xe_iald dX8_shorten_54 (kr54 (i := i1) b9) (by have z9 := vp_lt b9; omega) b8 ?_
    refine xe_iadd dX8_shorten_55 ?_
    refine xe_mmin dX8_shorten_56 mlX8_68 (Nat.le_of_ble_eq_true rfl) ?_
    refine xe_iast dX8_shorten_59 (kr54 (i := i2) b7) (by have z9 := vp_lt b7; omega) b8 ?_
    refine xe_iinc (v := (i3 + (1 : Int32))) (ls' := [some (.ref 53), some (.int i1), some (.int i2), some (.int (i3 + (1 : Int32)))]) dX8_shorten_60 rfl (by decide) rfl rfl ?_
    refine xe_goto (tgt := 18) dX8_shorten_63 rfl ?_
    exact k
theorem TX8_findNext_0_5 {g : xGT} {d : Nat} {i1 i2 : Int32} {u : xU} {w : xW} {r : xQ} {P : xPost} (hr : xRf r)
    (k : (¬ (i1 = i2) → vp_in i1 7) ∧ ((¬ (i1 = i2) → vp_in i2 7) ∧ (((i1 = i2 ∨ ¬ ((u (55 + i1.toNatClampNeg) i2.toNatClampNeg) < (1000 : Int32))) → P (some (.int (-1 : Int32))) u w r) ∧ (¬ (i1 = i2 ∨ ¬ ((u (55 + i1.toNatClampNeg) i2.toNatClampNeg) < (1000 : Int32))) → xEv g d mX8_findNext 31 [some (.ref 53), some (.int i1), some (.int i2), some (.int (-1 : Int32)), some (.int (1000 : Int32)), some (.int (0 : Int32)), none] [] 655 u w r 655 P)))) :
    xEv g d mX8_findNext 0 [some (.ref 53), some (.int i1), some (.int i2), none, none, none, none] [] 655 u w r 655 P := by
  refine xe_iload_n dX8_findNext_0 rfl ?_
  refine xe_iload_n dX8_findNext_1 rfl ?_
  obtain ⟨b3, k⟩ := k
  obtain ⟨b4, k⟩ := k
  have K7 : (i1 = i2 ∨ ¬ ((u (55 + i1.toNatClampNeg) i2.toNatClampNeg) < (1000 : Int32))) → xEv g d mX8_findNext 19 [some (.ref 53), some (.int i1), some (.int i2), none, none, none, none] [] 655 u w r 655 P := fun c8 => by
    have k := k.1 c8
    refine xe_iconst (v := -1) dX8_findNext_19 rfl ?_
    exact xe_ireturn dX8_findNext_20 rfl k
  refine xe_icmp_eq (tgt := 19) dX8_findNext_2 rfl (fun c1 => ?_) (fun c2 => ?_)
  · exact K7 (Or.inl c1)
  · refine xe_aload_n dX8_findNext_5 rfl ?_
    refine xe_getR (b := 54) dX8_findNext_6 flX8_11 kk53 (by omega) rfl (rf53_0 hr) ?_
    refine xe_iload_n dX8_findNext_9 rfl ?_
    refine xe_aald dX8_findNext_10 kk54 (by omega) (by simp) (b3 c2) (rr54 hr (b3 c2)) ?_
    refine xe_iload_n dX8_findNext_11 rfl ?_
    refine xe_iald dX8_findNext_12 (kr54 (i := i1) (b3 c2)) (by have z9 := vp_lt (b3 c2); omega) (b4 c2) ?_
    refine xe_sipush (v := 1000) dX8_findNext_13 rfl ?_
    refine xe_icmp_lt (tgt := 21) dX8_findNext_16 rfl (fun c5 => ?_) (fun c6 => ?_)
    · have k := k.2 (fun q => (q.elim (fun z => (c2 z)) (fun z => (z c5))))
      refine xe_iconst (v := -1) dX8_findNext_21 rfl ?_
      refine xe_istore_n (ls' := [some (.ref 53), some (.int i1), some (.int i2), some (.int (-1 : Int32)), none, none, none]) dX8_findNext_22 rfl (by decide) rfl ?_
      refine xe_sipush (v := 1000) dX8_findNext_23 rfl ?_
      refine xe_istore (ls' := [some (.ref 53), some (.int i1), some (.int i2), some (.int (-1 : Int32)), some (.int (1000 : Int32)), none, none]) dX8_findNext_26 (by decide) rfl ?_
      refine xe_iconst (v := 0) dX8_findNext_28 rfl ?_
      refine xe_istore (ls' := [some (.ref 53), some (.int i1), some (.int i2), some (.int (-1 : Int32)), some (.int (1000 : Int32)), some (.int (0 : Int32)), none]) dX8_findNext_29 (by decide) rfl ?_
      exact k
    · exact K7 (Or.inr c6)
theorem CX8_findNext_5 {g : xGT} {d : Nat} {i1 i2 : Int32} {u : xU} {w : xW} {r : xQ} {P : xPost} (hr : xRf r)
    (k : (¬ (i1 = i2) → vp_in i1 7) ∧ ((¬ (i1 = i2) → vp_in i2 7) ∧ (((i1 = i2 ∨ ¬ ((u (55 + i1.toNatClampNeg) i2.toNatClampNeg) < (1000 : Int32))) → P (some (.int (-1 : Int32))) u w r) ∧ (¬ (i1 = i2 ∨ ¬ ((u (55 + i1.toNatClampNeg) i2.toNatClampNeg) < (1000 : Int32))) → xEv g d mX8_findNext 31 [some (.ref 53), some (.int i1), some (.int i2), some (.int (-1 : Int32)), some (.int (1000 : Int32)), some (.int (0 : Int32)), none] [] 655 u w r 655 P)))) :
    xCall g d mX8_findNext [.ref 53, .int i1, .int i2] 655 u w r 655 P :=
  xCall.of plX8 (Nat.le_of_ble_eq_true rfl) rfl (TX8_findNext_0_5 hr k)
theorem TX8_findNext_31_5 {g : xGT} {d : Nat} {i1 i2 i3 i4 i5 : Int32} {u : xU} {w : xW} {r : xQ} {P : xPost} (hr : xRf r)
    (k : ((7 : Int32) ≤ i5 → P (some (.int i3)) u w r) ∧ (¬ ((7 : Int32) ≤ i5) → vp_in i1 7 ∧ (vp_in i5 7 ∧ (vp_in i2 7 ∧ ((((((u 78 i1.toNatClampNeg) >>> (i5 &&& 31)) &&& (1 : Int32)) = (1 : Int32) ∧ ¬ (i4 ≤ ((u (63 + i1.toNatClampNeg) i5.toNatClampNeg) + (u (55 + i5.toNatClampNeg) i2.toNatClampNeg)))) → xEv g d mX8_findNext 88 [some (.ref 53), some (.int i1), some (.int i2), some (.int i5), some (.int ((u (63 + i1.toNatClampNeg) i5.toNatClampNeg) + (u (55 + i5.toNatClampNeg) i2.toNatClampNeg))), some (.int i5), none] [] 655 u w r 655 P) ∧ (¬ ((((u 78 i1.toNatClampNeg) >>> (i5 &&& 31)) &&& (1 : Int32)) = (1 : Int32) ∧ ¬ (i4 ≤ ((u (63 + i1.toNatClampNeg) i5.toNatClampNeg) + (u (55 + i5.toNatClampNeg) i2.toNatClampNeg)))) → xEv g d mX8_findNext 88 [some (.ref 53), some (.int i1), some (.int i2), some (.int i3), some (.int i4), some (.int i5), none] [] 655 u w r 655 P)))))) :
    xEv g d mX8_findNext 31 [some (.ref 53), some (.int i1), some (.int i2), some (.int i3), some (.int i4), some (.int i5), none] [] 655 u w r 655 P := by
  refine xe_iload dX8_findNext_31 rfl ?_
  refine xe_bipush (v := 7) dX8_findNext_33 rfl ?_
  refine xe_icmp_ge (tgt := 94) dX8_findNext_35 rfl (fun c9 => ?_) (fun c10 => ?_)
  · have k := k.1 c9
    refine xe_iload_n dX8_findNext_94 rfl ?_
    exact xe_ireturn dX8_findNext_95 rfl k
  · have k := k.2 (fun q => (c10 q))
    refine xe_aload_n dX8_findNext_38 rfl ?_
    refine xe_getR (b := 62) dX8_findNext_39 flX8_16 kk53 (by omega) rfl (rf53_1 hr) ?_
    refine xe_iload_n dX8_findNext_42 rfl ?_
    obtain ⟨b11, k⟩ := k
    refine xe_aald dX8_findNext_43 kk62 (by omega) (by simp) b11 (rr62 hr b11) ?_
    refine xe_iload dX8_findNext_44 rfl ?_
    obtain ⟨b12, k⟩ := k
    refine xe_iald dX8_findNext_46 (kr62 (i := i1) b11) (by have z9 := vp_lt b11; omega) b12 ?_
    refine xe_aload_n dX8_findNext_47 rfl ?_
    refine xe_getR (b := 54) dX8_findNext_48 flX8_11 kk53 (by omega) rfl (rf53_0 hr) ?_
    refine xe_iload dX8_findNext_51 rfl ?_
    refine xe_aald dX8_findNext_53 kk54 (by omega) (by simp) b12 (rr54 hr b12) ?_
    refine xe_iload_n dX8_findNext_54 rfl ?_
    obtain ⟨b13, k⟩ := k
    refine xe_iald dX8_findNext_55 (kr54 (i := i5) b12) (by have z9 := vp_lt b12; omega) b13 ?_
    refine xe_iadd dX8_findNext_56 ?_
    refine xe_istore (ls' := [some (.ref 53), some (.int i1), some (.int i2), some (.int i3), some (.int i4), some (.int i5), some (.int ((u (63 + i1.toNatClampNeg) i5.toNatClampNeg) + (u (55 + i5.toNatClampNeg) i2.toNatClampNeg)))]) dX8_findNext_57 (by decide) rfl ?_
    refine xe_aload_n dX8_findNext_59 rfl ?_
    refine xe_getR (b := 78) dX8_findNext_60 flX8_22 kk53 (by omega) rfl (rf53_3 hr) ?_
    refine xe_iload_n dX8_findNext_63 rfl ?_
    refine xe_iald dX8_findNext_64 kk78 (by omega) b11 ?_
    refine xe_iload dX8_findNext_65 rfl ?_
    refine xe_ishr dX8_findNext_67 ?_
    refine xe_iconst (v := 1) dX8_findNext_68 rfl ?_
    refine xe_iand dX8_findNext_69 ?_
    refine xe_iconst (v := 1) dX8_findNext_70 rfl ?_
    have K18 : ¬ ((((u 78 i1.toNatClampNeg) >>> (i5 &&& 31)) &&& (1 : Int32)) = (1 : Int32) ∧ ¬ (i4 ≤ ((u (63 + i1.toNatClampNeg) i5.toNatClampNeg) + (u (55 + i5.toNatClampNeg) i2.toNatClampNeg)))) → xEv g d mX8_findNext 88 [some (.ref 53), some (.int i1), some (.int i2), some (.int i3), some (.int i4), some (.int i5), some (.int ((u (63 + i1.toNatClampNeg) i5.toNatClampNeg) + (u (55 + i5.toNatClampNeg) i2.toNatClampNeg)))] [] 655 u w r 655 P := fun c19 => by
      have k := k.2 c19
      exact xEv.fewer (ls' := [some (.ref 53), some (.int i1), some (.int i2), some (.int i3), some (.int i4), some (.int i5), none]) k (xfw_get (xfw_s (xfw_s (xfw_s (xfw_s (xfw_s (xfw_s (xfw_n (xfw_nil _)))))))))
    refine xe_icmp_ne (tgt := 88) dX8_findNext_71 rfl (fun c14 => ?_) (fun c15 => ?_)
    · exact K18 (fun q => (c14 q.1))
    · refine xe_iload dX8_findNext_74 rfl ?_
      refine xe_iload dX8_findNext_76 rfl ?_
      refine xe_icmp_ge (tgt := 88) dX8_findNext_78 rfl (fun c16 => ?_) (fun c17 => ?_)
      · exact K18 (fun q => (q.2 c16))
      · have k := k.1 ⟨c15, c17⟩
        refine xe_iload dX8_findNext_81 rfl ?_
        refine xe_istore_n (ls' := [some (.ref 53), some (.int i1), some (.int i2), some (.int i5), some (.int i4), some (.int i5), some (.int ((u (63 + i1.toNatClampNeg) i5.toNatClampNeg) + (u (55 + i5.toNatClampNeg) i2.toNatClampNeg)))]) dX8_findNext_83 rfl (by decide) rfl ?_
        refine xe_iload dX8_findNext_84 rfl ?_
        refine xe_istore (ls' := [some (.ref 53), some (.int i1), some (.int i2), some (.int i5), some (.int ((u (63 + i1.toNatClampNeg) i5.toNatClampNeg) + (u (55 + i5.toNatClampNeg) i2.toNatClampNeg))), some (.int i5), some (.int ((u (63 + i1.toNatClampNeg) i5.toNatClampNeg) + (u (55 + i5.toNatClampNeg) i2.toNatClampNeg)))]) dX8_findNext_86 (by decide) rfl ?_
        exact xEv.fewer (ls' := [some (.ref 53), some (.int i1), some (.int i2), some (.int i5), some (.int ((u (63 + i1.toNatClampNeg) i5.toNatClampNeg) + (u (55 + i5.toNatClampNeg) i2.toNatClampNeg))), some (.int i5), none]) k (xfw_get (xfw_s (xfw_s (xfw_s (xfw_s (xfw_s (xfw_s (xfw_n (xfw_nil _)))))))))
theorem TX8_findNext_88_5 {g : xGT} {d : Nat} {i1 i2 i3 i4 i5 : Int32} {u : xU} {w : xW} {r : xQ} {P : xPost}
    (k : xEv g d mX8_findNext 31 [some (.ref 53), some (.int i1), some (.int i2), some (.int i3), some (.int i4), some (.int (i5 + (1 : Int32))), none] [] 655 u w r 655 P) :
    xEv g d mX8_findNext 88 [some (.ref 53), some (.int i1), some (.int i2), some (.int i3), some (.int i4), some (.int i5), none] [] 655 u w r 655 P := by
  refine xe_iinc (v := (i5 + (1 : Int32))) (ls' := [some (.ref 53), some (.int i1), some (.int i2), some (.int i3), some (.int i4), some (.int (i5 + (1 : Int32))), none]) dX8_findNext_88 rfl (by decide) rfl rfl ?_
  refine xe_goto (tgt := 31) dX8_findNext_91 rfl ?_
  exact k
theorem TX9_begin_0_5 {g : xGT} {d : Nat} {s l : Nat} {u : xU} {w : xW} {r : xQ} {P : xPost} (h_s : xSt s)
    (k : xEv g (d + 1) mX9_begin 17 [some (.ref s), some (.ref l), some (.int (0 : Int32))] [] 655 (x2 (x2 (x2 u s 0 (0 : Int32)) s 1 (0 : Int32)) s 2 (0 : Int32)) w r 655 P) :
    xEv g (d + 1) mX9_begin 0 [some (.ref s), some (.ref l), none] [] 655 u w r 655 P := by
  have z_h_s := xs5 h_s
  refine xe_aload_n dX9_begin_0 rfl ?_
  refine xe_iconst (v := 0) dX9_begin_1 rfl ?_
  refine xe_putI dX9_begin_2 flX9_45 h_s.k0 (by omega) nf9_0 rfl ?_
  refine xe_aload_n dX9_begin_5 rfl ?_
  refine xe_iconst (v := 0) dX9_begin_6 rfl ?_
  refine xe_putI dX9_begin_7 flX9_49 h_s.k0 (by omega) nf9_1 rfl ?_
  refine xe_aload_n dX9_begin_10 rfl ?_
  refine xe_iconst (v := 0) dX9_begin_11 rfl ?_
  refine xe_putI dX9_begin_12 flX9_52 h_s.k0 (by omega) nf9_2 rfl ?_
  refine xe_iconst (v := 0) dX9_begin_15 rfl ?_
  refine xe_istore_n (ls' := [some (.ref s), some (.ref l), some (.int (0 : Int32))]) dX9_begin_16 rfl (by decide) rfl ?_
  exact k
theorem CX9_begin_5 {g : xGT} {d : Nat} {s l : Nat} {u : xU} {w : xW} {r : xQ} {P : xPost} (h_s : xSt s)
    (k : xEv g (d + 1) mX9_begin 17 [some (.ref s), some (.ref l), some (.int (0 : Int32))] [] 655 (x2 (x2 (x2 u s 0 (0 : Int32)) s 1 (0 : Int32)) s 2 (0 : Int32)) w r 655 P) :
    xCall g (d + 1) mX9_begin [.ref s, .ref l] 655 u w r 655 P :=
  xCall.of plX9 (Nat.le_of_ble_eq_true rfl) rfl (TX9_begin_0_5 h_s k)
theorem TX9_begin_17_5 {g : xGT} {d : Nat} {i2 : Int32} {s l : Nat} {u : xU} {w : xW} {r : xQ} {P : xPost} (h_s : xSt s) (q_s : xSr s r) (h_l : xLd l) (q_l : xLr l r)
    (k : ((6 : Int32) ≤ i2 → xEv g (d + 1) mX9_begin 64 [some (.ref s), some (.ref l), some (.int (0 : Int32))] [] 655 u w r 655 P) ∧ (¬ ((6 : Int32) ≤ i2) → vp_in i2 6 ∧ (xEv g (d + 1) mX9_begin 17 [some (.ref s), some (.ref l), some (.int (i2 + (1 : Int32)))] [] 655 (x2 (x2 (x2 (x2 u (s + 1) i2.toNatClampNeg (0 : Int32)) (s + 2) i2.toNatClampNeg ((x2 u (s + 1) i2.toNatClampNeg (0 : Int32)) (l + 4) i2.toNatClampNeg)) (s + 3) i2.toNatClampNeg (-1 : Int32)) (s + 4) i2.toNatClampNeg (0 : Int32)) w r 655 P))) :
    xEv g (d + 1) mX9_begin 17 [some (.ref s), some (.ref l), some (.int i2)] [] 655 u w r 655 P := by
  have z_h_s := xs5 h_s
  have z_h_l := xl5 h_l
  refine xe_iload_n dX9_begin_17 rfl ?_
  refine xe_bipush (v := 6) dX9_begin_18 rfl ?_
  refine xe_icmp_ge (tgt := 62) dX9_begin_20 rfl (fun c1 => ?_) (fun c2 => ?_)
  · have k := k.1 c1
    refine xe_iconst (v := 0) dX9_begin_62 rfl ?_
    refine xe_istore_n (ls' := [some (.ref s), some (.ref l), some (.int (0 : Int32))]) dX9_begin_63 rfl (by decide) rfl ?_
    exact k
  · have k := k.2 (fun q => (c2 q))
    refine xe_aload_n dX9_begin_23 rfl ?_
    refine xe_getR (b := (s + 1)) dX9_begin_24 flX9_9 h_s.k0 (by omega) rfl q_s.f3 ?_
    refine xe_iload_n dX9_begin_27 rfl ?_
    refine xe_iconst (v := 0) dX9_begin_28 rfl ?_
    obtain ⟨b3, k⟩ := k
    refine xe_iast dX9_begin_29 h_s.k1 (by omega) b3 ?_
    refine xe_aload_n dX9_begin_30 rfl ?_
    refine xe_getR (b := (s + 2)) dX9_begin_31 flX9_15 h_s.k0 (by omega) rfl q_s.f4 ?_
    refine xe_iload_n dX9_begin_34 rfl ?_
    refine xe_aload_n dX9_begin_35 rfl ?_
    refine xe_getR (b := (l + 4)) dX9_begin_36 flX9_55 h_l.k0 (by omega) rfl q_l.1.f6 ?_
    refine xe_iload_n dX9_begin_39 rfl ?_
    refine xe_iald dX9_begin_40 h_l.k4 (by omega) b3 ?_
    refine xe_iast dX9_begin_41 h_s.k2 (by omega) b3 ?_
    refine xe_aload_n dX9_begin_42 rfl ?_
    refine xe_getR (b := (s + 3)) dX9_begin_43 flX9_18 h_s.k0 (by omega) rfl q_s.f5 ?_
    refine xe_iload_n dX9_begin_46 rfl ?_
    refine xe_iconst (v := -1) dX9_begin_47 rfl ?_
    refine xe_iast dX9_begin_48 h_s.k3 (by omega) b3 ?_
    refine xe_aload_n dX9_begin_49 rfl ?_
    refine xe_getR (b := (s + 4)) dX9_begin_50 flX9_21 h_s.k0 (by omega) rfl q_s.f6 ?_
    refine xe_iload_n dX9_begin_53 rfl ?_
    refine xe_iconst (v := 0) dX9_begin_54 rfl ?_
    refine xe_iast dX9_begin_55 h_s.k4 (by omega) b3 ?_
    refine xe_iinc (v := (i2 + (1 : Int32))) (ls' := [some (.ref s), some (.ref l), some (.int (i2 + (1 : Int32)))]) dX9_begin_56 rfl (by decide) rfl rfl ?_
    refine xe_goto (tgt := 17) dX9_begin_59 rfl ?_
    exact k
theorem TX9_begin_64_5 {g : xGT} {d : Nat} {i2 : Int32} {s l : Nat} {u : xU} {w : xW} {r : xQ} {P : xPost} (h_s : xSt s) (h_l : xLd l) (q_l : xLr l r)
    (k : ((u l 10) ≤ i2 → P none u w r) ∧ (¬ ((u l 10) ≤ i2) → vp_in i2 8 ∧ (xCall g d mX9_addLetter [.ref s, .int (u (l + 8) i2.toNatClampNeg), .int (u (l + 9) i2.toNatClampNeg), .int (u (l + 10) i2.toNatClampNeg), .int (u (l + 11) i2.toNatClampNeg)] 655 u w r 655 (fun rv7 u7 w7 r7 => ∃ v7 : Int32, rv7 = some (.int v7) ∧ w = w7 ∧ r = r7 ∧ xEv g (d + 1) mX9_begin 64 [some (.ref s), some (.ref l), some (.int (i2 + (1 : Int32)))] [] 655 u7 w r 655 P)))) :
    xEv g (d + 1) mX9_begin 64 [some (.ref s), some (.ref l), some (.int i2)] [] 655 u w r 655 P := by
  have z_h_s := xs5 h_s
  have z_h_l := xl5 h_l
  refine xe_iload_n dX9_begin_64 rfl ?_
  refine xe_aload_n dX9_begin_65 rfl ?_
  refine xe_getI dX9_begin_66 flX9_60 h_l.k0 (by omega) rfl ?_
  refine xe_icmp_ge (tgt := 107) dX9_begin_69 rfl (fun c4 => ?_) (fun c5 => ?_)
  · have k := k.1 c4
    exact xe_return dX9_begin_107 trivial k
  · have k := k.2 (fun q => (c5 q))
    refine xe_aload_n dX9_begin_72 rfl ?_
    refine xe_aload_n dX9_begin_73 rfl ?_
    refine xe_getR (b := (l + 8)) dX9_begin_74 flX9_61 h_l.k0 (by omega) rfl q_l.1.f11 ?_
    refine xe_iload_n dX9_begin_77 rfl ?_
    obtain ⟨b6, k⟩ := k
    refine xe_iald dX9_begin_78 h_l.k8 (by omega) b6 ?_
    refine xe_aload_n dX9_begin_79 rfl ?_
    refine xe_getR (b := (l + 9)) dX9_begin_80 flX9_64 h_l.k0 (by omega) rfl q_l.1.f12 ?_
    refine xe_iload_n dX9_begin_83 rfl ?_
    refine xe_iald dX9_begin_84 h_l.k9 (by omega) b6 ?_
    refine xe_aload_n dX9_begin_85 rfl ?_
    refine xe_getR (b := (l + 10)) dX9_begin_86 flX9_65 h_l.k0 (by omega) rfl q_l.1.f13 ?_
    refine xe_iload_n dX9_begin_89 rfl ?_
    refine xe_iald dX9_begin_90 h_l.k10 (by omega) b6 ?_
    refine xe_aload_n dX9_begin_91 rfl ?_
    refine xe_getR (b := (l + 11)) dX9_begin_92 flX9_66 h_l.k0 (by omega) rfl q_l.1.f14 ?_
    refine xe_iload_n dX9_begin_95 rfl ?_
    refine xe_iald dX9_begin_96 h_l.k11 (by omega) b6 ?_
    refine xe_callV (args := [.int (u (l + 8) i2.toNatClampNeg), .int (u (l + 9) i2.toNatClampNeg), .int (u (l + 10) i2.toNatClampNeg), .int (u (l + 11) i2.toNatClampNeg)]) dX9_begin_97 vlX9_67 rfl rfl (Nat.le_of_ble_eq_true rfl) h_s.k0 (by omega) rfl rfl k (Nat.le_refl _) (fun rv7 u7 w7 r7 k => ?_)
    obtain ⟨v7, rfl, rfl, rfl, k⟩ := k
    refine xe_pop dX9_begin_100 rfl ?_
    refine xe_iinc (v := (i2 + (1 : Int32))) (ls' := [some (.ref s), some (.ref l), some (.int (i2 + (1 : Int32)))]) dX9_begin_101 rfl (by decide) rfl rfl ?_
    refine xe_goto (tgt := 64) dX9_begin_104 rfl ?_
    exact k
set_option maxRecDepth 20000 in
theorem TX9_copyFrom_0_5 {g : xGT} {d : Nat} {s o : Nat} {u : xU} {w : xW} {r : xQ} {P : xPost} (h_s : xSt s) (q_s : xSr s r) (h_o : xSt o) (q_o : xSr o r)
    (k : P none (xcp (xcp (xcp (xcp (xcp (xcp (xcp (xcp (xcp (xcp (xcp (x2 (x2 (x2 u s 0 (u o 0)) s 1 ((x2 u s 0 (u o 0)) o 1)) s 2 ((x2 (x2 u s 0 (u o 0)) s 1 ((x2 u s 0 (u o 0)) o 1)) o 2)) (o + 1) (s + 1) 6) (o + 2) (s + 2) 6) (o + 3) (s + 3) 6) (o + 4) (s + 4) 6) (o + 5) (s + 5) 10) (o + 6) (s + 6) 10) (o + 7) (s + 7) 10) (o + 8) (s + 8) 10) (o + 9) (s + 9) 10) (o + 10) (s + 10) 10) (o + 11) (s + 11) 10) w r) :
    xEv g (d + 1) mX9_copyFrom 0 [some (.ref s), some (.ref o)] [] 655 u w r 655 P := by
  have z_h_s := xs5 h_s
  have z_h_o := xs5 h_o
  refine xe_aload_n dX9_copyFrom_0 rfl ?_
  refine xe_aload_n dX9_copyFrom_1 rfl ?_
  refine xe_getI dX9_copyFrom_2 flX9_45 h_o.k0 (by omega) rfl ?_
  refine xe_putI dX9_copyFrom_5 flX9_45 h_s.k0 (by omega) nf9_0 rfl ?_
  refine xe_aload_n dX9_copyFrom_8 rfl ?_
  refine xe_aload_n dX9_copyFrom_9 rfl ?_
  refine xe_getI dX9_copyFrom_10 flX9_49 h_o.k0 (by omega) rfl ?_
  refine xe_putI dX9_copyFrom_13 flX9_49 h_s.k0 (by omega) nf9_1 rfl ?_
  refine xe_aload_n dX9_copyFrom_16 rfl ?_
  refine xe_aload_n dX9_copyFrom_17 rfl ?_
  refine xe_getI dX9_copyFrom_18 flX9_52 h_o.k0 (by omega) rfl ?_
  refine xe_putI dX9_copyFrom_21 flX9_52 h_s.k0 (by omega) nf9_2 rfl ?_
  refine xe_aload_n dX9_copyFrom_24 rfl ?_
  refine xe_getR (b := (o + 1)) dX9_copyFrom_25 flX9_9 h_o.k0 (by omega) rfl q_o.f3 ?_
  refine xe_iconst (v := 0) dX9_copyFrom_28 rfl ?_
  refine xe_aload_n dX9_copyFrom_29 rfl ?_
  refine xe_getR (b := (s + 1)) dX9_copyFrom_30 flX9_9 h_s.k0 (by omega) rfl q_s.f3 ?_
  refine xe_iconst (v := 0) dX9_copyFrom_33 rfl ?_
  refine xe_bipush (v := 6) dX9_copyFrom_34 rfl ?_
  refine xe_copy (N := 6) dX9_copyFrom_36 clX9_71 h_o.k1 h_s.k1 (by omega) (by omega) rfl (by decide) (by decide) (Nat.le_of_ble_eq_true rfl) ?_
  refine xe_aload_n dX9_copyFrom_39 rfl ?_
  refine xe_getR (b := (o + 2)) dX9_copyFrom_40 flX9_15 h_o.k0 (by omega) rfl q_o.f4 ?_
  refine xe_iconst (v := 0) dX9_copyFrom_43 rfl ?_
  refine xe_aload_n dX9_copyFrom_44 rfl ?_
  refine xe_getR (b := (s + 2)) dX9_copyFrom_45 flX9_15 h_s.k0 (by omega) rfl q_s.f4 ?_
  refine xe_iconst (v := 0) dX9_copyFrom_48 rfl ?_
  refine xe_bipush (v := 6) dX9_copyFrom_49 rfl ?_
  refine xe_copy (N := 6) dX9_copyFrom_51 clX9_71 h_o.k2 h_s.k2 (by omega) (by omega) rfl (by decide) (by decide) (Nat.le_of_ble_eq_true rfl) ?_
  refine xe_aload_n dX9_copyFrom_54 rfl ?_
  refine xe_getR (b := (o + 3)) dX9_copyFrom_55 flX9_18 h_o.k0 (by omega) rfl q_o.f5 ?_
  refine xe_iconst (v := 0) dX9_copyFrom_58 rfl ?_
  refine xe_aload_n dX9_copyFrom_59 rfl ?_
  refine xe_getR (b := (s + 3)) dX9_copyFrom_60 flX9_18 h_s.k0 (by omega) rfl q_s.f5 ?_
  refine xe_iconst (v := 0) dX9_copyFrom_63 rfl ?_
  refine xe_bipush (v := 6) dX9_copyFrom_64 rfl ?_
  refine xe_copy (N := 6) dX9_copyFrom_66 clX9_71 h_o.k3 h_s.k3 (by omega) (by omega) rfl (by decide) (by decide) (Nat.le_of_ble_eq_true rfl) ?_
  refine xe_aload_n dX9_copyFrom_69 rfl ?_
  refine xe_getR (b := (o + 4)) dX9_copyFrom_70 flX9_21 h_o.k0 (by omega) rfl q_o.f6 ?_
  refine xe_iconst (v := 0) dX9_copyFrom_73 rfl ?_
  refine xe_aload_n dX9_copyFrom_74 rfl ?_
  refine xe_getR (b := (s + 4)) dX9_copyFrom_75 flX9_21 h_s.k0 (by omega) rfl q_s.f6 ?_
  refine xe_iconst (v := 0) dX9_copyFrom_78 rfl ?_
  refine xe_bipush (v := 6) dX9_copyFrom_79 rfl ?_
  refine xe_copy (N := 6) dX9_copyFrom_81 clX9_71 h_o.k4 h_s.k4 (by omega) (by omega) rfl (by decide) (by decide) (Nat.le_of_ble_eq_true rfl) ?_
  refine xe_aload_n dX9_copyFrom_84 rfl ?_
  refine xe_getR (b := (o + 5)) dX9_copyFrom_85 flX9_24 h_o.k0 (by omega) rfl q_o.f7 ?_
  refine xe_iconst (v := 0) dX9_copyFrom_88 rfl ?_
  refine xe_aload_n dX9_copyFrom_89 rfl ?_
  refine xe_getR (b := (s + 5)) dX9_copyFrom_90 flX9_24 h_s.k0 (by omega) rfl q_s.f7 ?_
  refine xe_iconst (v := 0) dX9_copyFrom_93 rfl ?_
  refine xe_bipush (v := 10) dX9_copyFrom_94 rfl ?_
  refine xe_copy (N := 10) dX9_copyFrom_96 clX9_71 h_o.k5 h_s.k5 (by omega) (by omega) rfl (by decide) (by decide) (Nat.le_of_ble_eq_true rfl) ?_
  refine xe_aload_n dX9_copyFrom_99 rfl ?_
  refine xe_getR (b := (o + 6)) dX9_copyFrom_100 flX9_27 h_o.k0 (by omega) rfl q_o.f8 ?_
  refine xe_iconst (v := 0) dX9_copyFrom_103 rfl ?_
  refine xe_aload_n dX9_copyFrom_104 rfl ?_
  refine xe_getR (b := (s + 6)) dX9_copyFrom_105 flX9_27 h_s.k0 (by omega) rfl q_s.f8 ?_
  refine xe_iconst (v := 0) dX9_copyFrom_108 rfl ?_
  refine xe_bipush (v := 10) dX9_copyFrom_109 rfl ?_
  refine xe_copy (N := 10) dX9_copyFrom_111 clX9_71 h_o.k6 h_s.k6 (by omega) (by omega) rfl (by decide) (by decide) (Nat.le_of_ble_eq_true rfl) ?_
  refine xe_aload_n dX9_copyFrom_114 rfl ?_
  refine xe_getR (b := (o + 7)) dX9_copyFrom_115 flX9_30 h_o.k0 (by omega) rfl q_o.f9 ?_
  refine xe_iconst (v := 0) dX9_copyFrom_118 rfl ?_
  refine xe_aload_n dX9_copyFrom_119 rfl ?_
  refine xe_getR (b := (s + 7)) dX9_copyFrom_120 flX9_30 h_s.k0 (by omega) rfl q_s.f9 ?_
  refine xe_iconst (v := 0) dX9_copyFrom_123 rfl ?_
  refine xe_bipush (v := 10) dX9_copyFrom_124 rfl ?_
  refine xe_copy (N := 10) dX9_copyFrom_126 clX9_71 h_o.k7 h_s.k7 (by omega) (by omega) rfl (by decide) (by decide) (Nat.le_of_ble_eq_true rfl) ?_
  refine xe_aload_n dX9_copyFrom_129 rfl ?_
  refine xe_getR (b := (o + 8)) dX9_copyFrom_130 flX9_33 h_o.k0 (by omega) rfl q_o.f10 ?_
  refine xe_iconst (v := 0) dX9_copyFrom_133 rfl ?_
  refine xe_aload_n dX9_copyFrom_134 rfl ?_
  refine xe_getR (b := (s + 8)) dX9_copyFrom_135 flX9_33 h_s.k0 (by omega) rfl q_s.f10 ?_
  refine xe_iconst (v := 0) dX9_copyFrom_138 rfl ?_
  refine xe_bipush (v := 10) dX9_copyFrom_139 rfl ?_
  refine xe_copy (N := 10) dX9_copyFrom_141 clX9_71 h_o.k8 h_s.k8 (by omega) (by omega) rfl (by decide) (by decide) (Nat.le_of_ble_eq_true rfl) ?_
  refine xe_aload_n dX9_copyFrom_144 rfl ?_
  refine xe_getR (b := (o + 9)) dX9_copyFrom_145 flX9_36 h_o.k0 (by omega) rfl q_o.f11 ?_
  refine xe_iconst (v := 0) dX9_copyFrom_148 rfl ?_
  refine xe_aload_n dX9_copyFrom_149 rfl ?_
  refine xe_getR (b := (s + 9)) dX9_copyFrom_150 flX9_36 h_s.k0 (by omega) rfl q_s.f11 ?_
  refine xe_iconst (v := 0) dX9_copyFrom_153 rfl ?_
  refine xe_bipush (v := 10) dX9_copyFrom_154 rfl ?_
  refine xe_copy (N := 10) dX9_copyFrom_156 clX9_71 h_o.k9 h_s.k9 (by omega) (by omega) rfl (by decide) (by decide) (Nat.le_of_ble_eq_true rfl) ?_
  refine xe_aload_n dX9_copyFrom_159 rfl ?_
  refine xe_getR (b := (o + 10)) dX9_copyFrom_160 flX9_39 h_o.k0 (by omega) rfl q_o.f12 ?_
  refine xe_iconst (v := 0) dX9_copyFrom_163 rfl ?_
  refine xe_aload_n dX9_copyFrom_164 rfl ?_
  refine xe_getR (b := (s + 10)) dX9_copyFrom_165 flX9_39 h_s.k0 (by omega) rfl q_s.f12 ?_
  refine xe_iconst (v := 0) dX9_copyFrom_168 rfl ?_
  refine xe_bipush (v := 10) dX9_copyFrom_169 rfl ?_
  refine xe_copy (N := 10) dX9_copyFrom_171 clX9_71 h_o.k10 h_s.k10 (by omega) (by omega) rfl (by decide) (by decide) (Nat.le_of_ble_eq_true rfl) ?_
  refine xe_aload_n dX9_copyFrom_174 rfl ?_
  refine xe_getR (b := (o + 11)) dX9_copyFrom_175 flX9_42 h_o.k0 (by omega) rfl q_o.f13 ?_
  refine xe_iconst (v := 0) dX9_copyFrom_178 rfl ?_
  refine xe_aload_n dX9_copyFrom_179 rfl ?_
  refine xe_getR (b := (s + 11)) dX9_copyFrom_180 flX9_42 h_s.k0 (by omega) rfl q_s.f13 ?_
  refine xe_iconst (v := 0) dX9_copyFrom_183 rfl ?_
  refine xe_bipush (v := 10) dX9_copyFrom_184 rfl ?_
  refine xe_copy (N := 10) dX9_copyFrom_186 clX9_71 h_o.k11 h_s.k11 (by omega) (by omega) rfl (by decide) (by decide) (Nat.le_of_ble_eq_true rfl) ?_
  exact xe_return dX9_copyFrom_189 trivial k
theorem CX9_copyFrom_5 {g : xGT} {d : Nat} {s o : Nat} {u : xU} {w : xW} {r : xQ} {P : xPost} (h_s : xSt s) (q_s : xSr s r) (h_o : xSt o) (q_o : xSr o r)
    (k : P none (xcp (xcp (xcp (xcp (xcp (xcp (xcp (xcp (xcp (xcp (xcp (x2 (x2 (x2 u s 0 (u o 0)) s 1 ((x2 u s 0 (u o 0)) o 1)) s 2 ((x2 (x2 u s 0 (u o 0)) s 1 ((x2 u s 0 (u o 0)) o 1)) o 2)) (o + 1) (s + 1) 6) (o + 2) (s + 2) 6) (o + 3) (s + 3) 6) (o + 4) (s + 4) 6) (o + 5) (s + 5) 10) (o + 6) (s + 6) 10) (o + 7) (s + 7) 10) (o + 8) (s + 8) 10) (o + 9) (s + 9) 10) (o + 10) (s + 10) 10) (o + 11) (s + 11) 10) w r) :
    xCall g (d + 1) mX9_copyFrom [.ref s, .ref o] 655 u w r 655 P :=
  xCall.of plX9 (Nat.le_of_ble_eq_true rfl) rfl (TX9_copyFrom_0_5 h_s q_s h_o q_o k)
theorem TX9_addLetter_0_5 {g : xGT} {d : Nat} {i1 i2 i3 i4 : Int32} {s : Nat} {u : xU} {w : xW} {r : xQ} {P : xPost} (h_s : xSt s) (q_s : xSr s r)
    (k : xCall g d mX11_isOneOf [.int (u s 2), .int (10 : Int32)] 655 u w r 655 (fun rv1 u1 w1 r1 => ∃ v1 : Int32, rv1 = some (.int v1) ∧ u = u1 ∧ w = w1 ∧ r = r1 ∧ (v1 = 0 → P (some (.int (-1 : Int32))) u w r) ∧ (¬ (v1 = 0) → vp_in (u s 2) 10 ∧ (P (some (.int (u s 2))) (x2 (x2 (x2 (x2 (x2 (x2 (x2 (x2 u (s + 5) (u s 2).toNatClampNeg i1) (s + 6) (u s 2).toNatClampNeg (-1 : Int32)) (s + 7) (u s 2).toNatClampNeg (-1 : Int32)) (s + 8) (u s 2).toNatClampNeg i2) (s + 9) (u s 2).toNatClampNeg i3) (s + 10) (u s 2).toNatClampNeg i4) (s + 11) (u s 2).toNatClampNeg (0 : Int32)) s 2 (((x2 (x2 (x2 (x2 (x2 (x2 (x2 u (s + 5) (u s 2).toNatClampNeg i1) (s + 6) (u s 2).toNatClampNeg (-1 : Int32)) (s + 7) (u s 2).toNatClampNeg (-1 : Int32)) (s + 8) (u s 2).toNatClampNeg i2) (s + 9) (u s 2).toNatClampNeg i3) (s + 10) (u s 2).toNatClampNeg i4) (s + 11) (u s 2).toNatClampNeg (0 : Int32)) s 2) + (1 : Int32))) w r)))) :
    xEv g (d + 1) mX9_addLetter 0 [some (.ref s), some (.int i1), some (.int i2), some (.int i3), some (.int i4), none] [] 655 u w r 655 P := by
  have z_h_s := xs5 h_s
  refine xe_aload_n dX9_addLetter_0 rfl ?_
  refine xe_getI dX9_addLetter_1 flX9_52 h_s.k0 (by omega) rfl ?_
  refine xe_istore (ls' := [some (.ref s), some (.int i1), some (.int i2), some (.int i3), some (.int i4), some (.int (u s 2))]) dX9_addLetter_4 (by decide) rfl ?_
  refine xe_iload dX9_addLetter_6 rfl ?_
  refine xe_bipush (v := 10) dX9_addLetter_8 rfl ?_
  refine xe_callSN (args := [.int (u s 2), .int (10 : Int32)]) dX9_addLetter_10 snX9_77 rfl rfl (Nat.le_of_ble_eq_true rfl) k (Nat.le_refl _) (fun rv1 u1 w1 r1 k => ?_)
  obtain ⟨v1, rfl, rfl, rfl, rfl, k⟩ := k
  refine xe_if_ne (tgt := 18) dX9_addLetter_13 rfl (fun c2 => ?_) (fun c3 => ?_)
  · have k := k.2 (fun q => (c2 q))
    refine xe_aload_n dX9_addLetter_18 rfl ?_
    refine xe_getR (b := (s + 5)) dX9_addLetter_19 flX9_24 h_s.k0 (by omega) rfl q_s.f7 ?_
    refine xe_iload dX9_addLetter_22 rfl ?_
    refine xe_iload_n dX9_addLetter_24 rfl ?_
    obtain ⟨b4, k⟩ := k
    refine xe_iast dX9_addLetter_25 h_s.k5 (by omega) b4 ?_
    refine xe_aload_n dX9_addLetter_26 rfl ?_
    refine xe_getR (b := (s + 6)) dX9_addLetter_27 flX9_27 h_s.k0 (by omega) rfl q_s.f8 ?_
    refine xe_iload dX9_addLetter_30 rfl ?_
    refine xe_iconst (v := -1) dX9_addLetter_32 rfl ?_
    refine xe_iast dX9_addLetter_33 h_s.k6 (by omega) b4 ?_
    refine xe_aload_n dX9_addLetter_34 rfl ?_
    refine xe_getR (b := (s + 7)) dX9_addLetter_35 flX9_30 h_s.k0 (by omega) rfl q_s.f9 ?_
    refine xe_iload dX9_addLetter_38 rfl ?_
    refine xe_iconst (v := -1) dX9_addLetter_40 rfl ?_
    refine xe_iast dX9_addLetter_41 h_s.k7 (by omega) b4 ?_
    refine xe_aload_n dX9_addLetter_42 rfl ?_
    refine xe_getR (b := (s + 8)) dX9_addLetter_43 flX9_33 h_s.k0 (by omega) rfl q_s.f10 ?_
    refine xe_iload dX9_addLetter_46 rfl ?_
    refine xe_iload_n dX9_addLetter_48 rfl ?_
    refine xe_iast dX9_addLetter_49 h_s.k8 (by omega) b4 ?_
    refine xe_aload_n dX9_addLetter_50 rfl ?_
    refine xe_getR (b := (s + 9)) dX9_addLetter_51 flX9_36 h_s.k0 (by omega) rfl q_s.f11 ?_
    refine xe_iload dX9_addLetter_54 rfl ?_
    refine xe_iload_n dX9_addLetter_56 rfl ?_
    refine xe_iast dX9_addLetter_57 h_s.k9 (by omega) b4 ?_
    refine xe_aload_n dX9_addLetter_58 rfl ?_
    refine xe_getR (b := (s + 10)) dX9_addLetter_59 flX9_39 h_s.k0 (by omega) rfl q_s.f12 ?_
    refine xe_iload dX9_addLetter_62 rfl ?_
    refine xe_iload dX9_addLetter_64 rfl ?_
    refine xe_iast dX9_addLetter_66 h_s.k10 (by omega) b4 ?_
    refine xe_aload_n dX9_addLetter_67 rfl ?_
    refine xe_getR (b := (s + 11)) dX9_addLetter_68 flX9_42 h_s.k0 (by omega) rfl q_s.f13 ?_
    refine xe_iload dX9_addLetter_71 rfl ?_
    refine xe_iconst (v := 0) dX9_addLetter_73 rfl ?_
    refine xe_iast dX9_addLetter_74 h_s.k11 (by omega) b4 ?_
    refine xe_aload_n dX9_addLetter_75 rfl ?_
    refine xe_dup dX9_addLetter_76 rfl ?_
    refine xe_getI dX9_addLetter_77 flX9_52 h_s.k0 (by omega) rfl ?_
    refine xe_iconst (v := 1) dX9_addLetter_80 rfl ?_
    refine xe_iadd dX9_addLetter_81 ?_
    refine xe_putI dX9_addLetter_82 flX9_52 h_s.k0 (by omega) nf9_2 rfl ?_
    refine xe_iload dX9_addLetter_85 rfl ?_
    exact xe_ireturn dX9_addLetter_87 rfl k
  · have k := k.1 c3
    refine xe_iconst (v := -1) dX9_addLetter_16 rfl ?_
    exact xe_ireturn dX9_addLetter_17 rfl k
theorem CX9_addLetter_5 {g : xGT} {d : Nat} {i1 i2 i3 i4 : Int32} {s : Nat} {u : xU} {w : xW} {r : xQ} {P : xPost} (h_s : xSt s) (q_s : xSr s r)
    (k : xCall g d mX11_isOneOf [.int (u s 2), .int (10 : Int32)] 655 u w r 655 (fun rv1 u1 w1 r1 => ∃ v1 : Int32, rv1 = some (.int v1) ∧ u = u1 ∧ w = w1 ∧ r = r1 ∧ (v1 = 0 → P (some (.int (-1 : Int32))) u w r) ∧ (¬ (v1 = 0) → vp_in (u s 2) 10 ∧ (P (some (.int (u s 2))) (x2 (x2 (x2 (x2 (x2 (x2 (x2 (x2 u (s + 5) (u s 2).toNatClampNeg i1) (s + 6) (u s 2).toNatClampNeg (-1 : Int32)) (s + 7) (u s 2).toNatClampNeg (-1 : Int32)) (s + 8) (u s 2).toNatClampNeg i2) (s + 9) (u s 2).toNatClampNeg i3) (s + 10) (u s 2).toNatClampNeg i4) (s + 11) (u s 2).toNatClampNeg (0 : Int32)) s 2 (((x2 (x2 (x2 (x2 (x2 (x2 (x2 u (s + 5) (u s 2).toNatClampNeg i1) (s + 6) (u s 2).toNatClampNeg (-1 : Int32)) (s + 7) (u s 2).toNatClampNeg (-1 : Int32)) (s + 8) (u s 2).toNatClampNeg i2) (s + 9) (u s 2).toNatClampNeg i3) (s + 10) (u s 2).toNatClampNeg i4) (s + 11) (u s 2).toNatClampNeg (0 : Int32)) s 2) + (1 : Int32))) w r)))) :
    xCall g (d + 1) mX9_addLetter [.ref s, .int i1, .int i2, .int i3, .int i4] 655 u w r 655 P :=
  xCall.of plX9 (Nat.le_of_ble_eq_true rfl) rfl (TX9_addLetter_0_5 h_s q_s k)
theorem TX11_isOneOf_0_5 {g : xGT} {d : Nat} {i0 i1 : Int32} {u : xU} {w : xW} {r : xQ} {P : xPost}
    (k : P (some (.int (xb (¬ (i0 < 0) ∧ ¬ (i1 ≤ i0))))) u w r) :
    xEv g d mX11_isOneOf 0 [some (.int i0), some (.int i1)] [] 655 u w r 655 P := by
  refine xe_iload_n dX11_isOneOf_0 rfl ?_
  have K5 : xEv g d mX11_isOneOf 14 [some (.int i0), some (.int i1)] [.int (xb (¬ (i0 < 0) ∧ ¬ (i1 ≤ i0)))] 655 u w r 655 P := by
    exact xe_ireturn dX11_isOneOf_14 (xrokZ (xb01 _)) k
  refine xe_if_lt (tgt := 13) dX11_isOneOf_1 rfl (fun c1 => ?_) (fun c2 => ?_)
  · refine xe_iconst (v := 0) dX11_isOneOf_13 rfl ?_
    exact xtop (xb_neg (show ¬ (¬ (i0 < 0) ∧ ¬ (i1 ≤ i0)) from (fun q => (q.1 c1)))) K5
  · refine xe_iload_n dX11_isOneOf_4 rfl ?_
    refine xe_iload_n dX11_isOneOf_5 rfl ?_
    refine xe_icmp_ge (tgt := 13) dX11_isOneOf_6 rfl (fun c3 => ?_) (fun c4 => ?_)
    · refine xe_iconst (v := 0) dX11_isOneOf_13 rfl ?_
      exact xtop (xb_neg (show ¬ (¬ (i0 < 0) ∧ ¬ (i1 ≤ i0)) from (fun q => (q.2 c3)))) K5
    · refine xe_iconst (v := 1) dX11_isOneOf_9 rfl ?_
      refine xe_goto (tgt := 14) dX11_isOneOf_10 rfl ?_
      exact xtop (xb_pos (show (¬ (i0 < 0) ∧ ¬ (i1 ≤ i0)) from ⟨c2, c4⟩)) K5
theorem CX11_isOneOf_5 {g : xGT} {d : Nat} {i0 i1 : Int32} {u : xU} {w : xW} {r : xQ} {P : xPost}
    (k : P (some (.int (xb (¬ (i0 < 0) ∧ ¬ (i1 ≤ i0))))) u w r) :
    xCall g d mX11_isOneOf [.int i0, .int i1] 655 u w r 655 P :=
  xCall.of plX11 (Nat.le_of_ble_eq_true rfl) rfl (TX11_isOneOf_0_5  k)
theorem xPr.use_5 {v : Int32} {u : xU} {w : xW} {r : xQ} {g : xGT} {d : Nat} {mi : xMI} {args : List Value} {P : xPost} (h : xCall g d mi args 655 u w r 655 (xPr v u w r)) (k : P (some (.int v)) u w r) : xCall g d mi args 655 u w r 655 P :=
  h.mono (fun rv u' w' r' q => by obtain ⟨rfl, rfl, rfl, rfl⟩ := q; exact k)
theorem xVd.use_5 {B : xU → Prop} {u : xU} {w : xW} {r : xQ} {g : xGT} {d : Nat} {mi : xMI} {args : List Value} {P : xPost} (h : xCall g d mi args 655 u w r 655 (xVd B w r)) (k : ∀ u', B u' → P none u' w r) : xCall g d mi args 655 u w r 655 P :=
  h.mono (fun rv u' w' r' q => by obtain ⟨rfl, hb, rfl, rfl⟩ := q; exact k u' hb)
section NX5_1
variable {g : xGT} {d : Nat} {u : xU} {w : xW} {r : xQ}
theorem K_isOneOf_5 (i c : Int32) : xCall g d mX11_isOneOf [.int i, .int c] 655 u w r 655 (xPr (xb (¬ (i < 0) ∧ ¬ (c ≤ i))) u w r) := CX11_isOneOf_5 ⟨rfl, rfl, rfl, rfl⟩
theorem L_shorten_18_5 (hr : xRf r) {P : xPost} {o v : Nat} (ho : o < 7) (hv : v < 7) {u0 : xU} {F : Nat → Nat → Int32}
    (kk : ∀ u' : xU, rF u' (xfold 7 (fun j F => gCell o v j F) F) → xSm fFar u0 u' → xEv g (d + 1) mX8_shorten 10 [some (.ref 53), some (.int (nI o)), some (.int (nI (v + 1))), none] [] 655 u' w r 655 P) :
    ∀ (n k : Nat), k + n = 7 → ∀ (u : xU), rF u (xfold k (fun j F => gCell o v j F) F) → xSm fFar u0 u →
    xEv g (d + 1) mX8_shorten 18 [some (.ref 53), some (.int (nI o)), some (.int (nI v)), some (.int (nI k))] [] 655 u w r 655 P := by
  intro n
  induction n with
  | zero =>
    intro k hk u h1 h2
    have : k = 7 := by omega
    subst this
    refine TX8_shorten_18_5 hr (brT (nI_le (a := 7) (Nat.le_refl _) (by omega)) ?_)
    rw [nI_one]
    exact kk u h1 h2
  | succ n ih =>
    intro k hk u h1 h2
    refine TX8_shorten_18_5 hr (brF (nI_ge (b := 7) (by omega) (by omega)) ⟨vpn hv (by omega), vpn (by omega) (by omega), vpn ho (by omega), ?_⟩)
    rw [nI_one, nc (by omega), nc (by omega), nc (by omega)]
    refine ih (k + 1) (by omega) _ ?_ (h2.put (by constructor <;> omega))
    rw [h1 v o hv ho, h1 o k ho (by omega), h1 v k hv (by omega)]
    exact h1.put v k _
theorem L_shorten_10_5 (hr : xRf r) {P : xPost} {o : Nat} (ho : o < 7) {u0 : xU} {F : Nat → Nat → Int32}
    (kk : ∀ u' : xU, rF u' (xfold 7 (fun a F => xfold 7 (fun j F => gCell o a j F) F) F) → xSm fFar u0 u' → xEv g (d + 1) mX8_shorten 2 [some (.ref 53), some (.int (nI (o + 1))), none, none] [] 655 u' w r 655 P) :
    ∀ (n k : Nat), k + n = 7 → ∀ (u : xU), rF u (xfold k (fun a F => xfold 7 (fun j F => gCell o a j F) F) F) → xSm fFar u0 u →
    xEv g (d + 1) mX8_shorten 10 [some (.ref 53), some (.int (nI o)), some (.int (nI k)), none] [] 655 u w r 655 P := by
  intro n
  induction n with
  | zero =>
    intro k hk u h1 h2
    have : k = 7 := by omega
    subst this
    refine TX8_shorten_10_5 (brT (nI_le (a := 7) (Nat.le_refl _) (by omega)) ?_)
    rw [nI_one]
    exact kk u h1 h2
  | succ n ih =>
    intro k hk u h1 h2
    refine TX8_shorten_10_5 (brF (nI_ge (b := 7) (by omega) (by omega)) ?_)
    exact L_shorten_18_5 hr ho (by omega) (F := xfold k (fun a F => xfold 7 (fun j F => gCell o a j F) F) F) (fun u' q1 q2 => ih (k + 1) (by omega) u' q1 (h2.tr q2)) 7 0 rfl u h1 xSm.rf
theorem L_shorten_2_5 (hr : xRf r) {P : xPost} {u0 : xU} {F : Nat → Nat → Int32} (hF : gOk F)
    (kk : ∀ u' : xU, rF u' (gFar 7 F) → xSm fFar u0 u' → P none u' w r) :
    ∀ (n k : Nat), k + n = 7 → ∀ (u : xU), rF u (gFar k F) → xSm fFar u0 u →
    xEv g (d + 1) mX8_shorten 2 [some (.ref 53), some (.int (nI k)), none, none] [] 655 u w r 655 P := by
  intro n
  induction n with
  | zero =>
    intro k hk u h1 h2
    have : k = 7 := by omega
    subst this
    exact TX8_shorten_2_5 (brT (nI_le (a := 7) (Nat.le_refl _) (by omega)) (kk u h1 h2))
  | succ n ih =>
    intro k hk u h1 h2
    refine TX8_shorten_2_5 (brF (nI_ge (b := 7) (by omega) (by omega)) ?_)
    refine L_shorten_10_5 hr (by omega) (F := gFar k F) (fun u' q1 q2 => ih (k + 1) (by omega) u' ?_ (h2.tr q2)) 7 0 rfl u h1 xSm.rf
    intro a b ha hb
    rw [q1 a b ha hb, gAll_eq (gFar_ok hF k)]
    exact if_pos ⟨ha, hb⟩
theorem K_shorten_5 (hr : xRf r) {F : Nat → Nat → Int32} (hF : gOk F) (h : rF u F) : xCall g (d + 1) mX8_shorten [.ref 53] 655 u w r 655 (xVd (fun u' => rF u' (gFar 7 F) ∧ xSm fFar u u') w r) :=
  CX8_shorten_5 (L_shorten_2_5 hr hF (fun u' h1 h2 => ⟨rfl, ⟨h1, h2⟩, rfl, rfl⟩) 7 0 rfl u h xSm.rf)
theorem K_layWay_5 (hr : xRf r) {a b : Nat} (ha : a < 7) (hb : b < 7) (x : Int32) : xCall g d mX8_layWay [.ref 53, .int (nI a), .int (nI b), .int x] 655 u w r 655 (xVd (fun u' => u' = x2 (x2 (x2 u (55 + a) b x) (63 + a) b x) 78 a (u 78 a ||| ((1 : Int32) <<< (nI b &&& 31)))) w r) := by
  refine CX8_layWay_5 hr ⟨vpn ha (by omega), vpn hb (by omega), rfl, ?_, rfl, rfl⟩
  rw [nc (by omega), nc (by omega), x2_a _ _ (by omega), x2_a _ _ (by omega)]
end NX5_1
section NX5_2
variable {g : xGT} {d : Nat} {w : xW} {r : xQ}
theorem L_findNext_5 (hr : xRf r) {P : xPost} {u : xU} {D F : Nat → Nat → Int32} (hD : gDok D) (hF : rF u F) (hD0 : rD u (gD0 D)) (hB : rB u D) {a h : Nat} (ha : a < 7) (hh : h < 7)
    (kk : P (some (.int (gNextF D F a h 7).1)) u w r) : ∀ (n k : Nat), k + n = 7 →
    xEv g d mX8_findNext 31 [some (.ref 53), some (.int (nI a)), some (.int (nI h)), some (.int (gNextF D F a h k).1), some (.int (gNextF D F a h k).2), some (.int (nI k)), none] [] 655 u w r 655 P := by
  intro n
  induction n with
  | zero =>
    intro k hk
    have : k = 7 := by omega
    subst this
    exact TX8_findNext_31_5 hr (brT (nI_le (a := 7) (Nat.le_refl _) (by omega)) kk)
  | succ n ih =>
    intro k hk
    have i := ih (k + 1) (by omega)
    refine TX8_findNext_31_5 hr (brF (nI_ge (b := 7) (by omega) (by omega)) ⟨vpn ha (by omega), vpn (by omega) (by omega), vpn hh (by omega), ?_⟩)
    rw [nc (by omega), nc (by omega), nc (by omega), hF k h (by omega) hh, hD0 a k ha (by omega), hB a ha, test_1 (by omega), bt_xset (by omega) _ (by omega)]
    rw [gNextF_s] at i
    have e0 : (decide (k < 7) && decide (¬ D a k = -1)) = true ↔ ¬ D a k < 0 := by
      rw [hD.neg, decide_eq_true (show k < 7 by omega), Bool.true_and, decide_eq_true_iff]
    rw [e0]
    by_cases hc : ¬ D a k < 0 ∧ ¬ (gNextF D F a h k).2 ≤ gD0 D a k + F k h
    · have e1 : gD0 D a k = D a k := if_neg (fun q => hc.1 ((hD.neg a k).mpr q))
      rw [e1] at hc ⊢
      rw [if_neg (fun q => q.elim hc.1 hc.2)] at i
      refine brT hc (TX8_findNext_88_5 ?_)
      rw [nI_one]
      exact i
    · refine brF hc (TX8_findNext_88_5 ?_)
      rw [if_pos] at i
      · rw [nI_one]
        exact i
      · by_cases q : D a k < 0
        · exact Or.inl q
        · have e1 : gD0 D a k = D a k := if_neg (fun z => q ((hD.neg a k).mpr z))
          rw [e1] at hc
          exact Or.inr (Classical.not_not.mp (fun z => hc ⟨q, z⟩))
theorem K_findNext_5 (hr : xRf r) {u : xU} {D F : Nat → Nat → Int32} (hD : gDok D) (hF : rF u F) (hD0 : rD u (gD0 D)) (hB : rB u D) {a h : Nat} (ha : a < 7) (hh : h < 7) :
    xCall g d mX8_findNext [.ref 53, .int (nI a), .int (nI h)] 655 u w r 655 (xPr (gNext D F 7 a h) u w r) := by
  refine CX8_findNext_5 hr ⟨fun _ => vpn ha (by omega), fun _ => vpn hh (by omega), ?_⟩
  rw [nc (by omega), nc (by omega), hF a h ha hh, nI_eq (by omega) (by omega)]
  unfold gNext
  by_cases hc : a = h ∨ ¬ F a h < 1000
  · refine brT hc ⟨by rw [if_pos hc], rfl, rfl, rfl⟩
  · refine brF hc (L_findNext_5 hr hD hF hD0 hB ha hh ⟨by rw [if_neg hc], rfl, rfl, rfl⟩ 7 0 rfl)
theorem L_lay_172_5 (hr : xRf r) {P : xPost} {u0 : xU} {D F : Nat → Nat → Int32} (hD : gDok D) (hF : rF u0 F) (hD0 : rD u0 (gD0 D)) (hB : rB u0 D) {a : Nat} (ha : a < 7)
    (kk : ∀ u' : xU, (∀ x b, (x < a + 1) → b < 7 → u' (71 + x) b = gNext D F 7 x b) → xSm fNx u0 u' → xEv g (d + 1) mX8_lay 163 [some (.ref 53), none, none, some (.int (nI (a + 1))), none, none] [] 655 u' w r 655 P) :
    ∀ (n k : Nat), k + n = 7 → ∀ u : xU, (∀ x b, (x < a ∨ (x = a ∧ b < k)) → b < 7 → u (71 + x) b = gNext D F 7 x b) → xSm fNx u0 u →
    xEv g (d + 1) mX8_lay 172 [some (.ref 53), none, none, some (.int (nI a)), some (.int (nI k)), none] [] 655 u w r 655 P := by
  intro n
  induction n with
  | zero =>
    intro k hk u h1 h2
    have : k = 7 := by omega
    subst this
    refine TX8_lay_172_5 hr (brT (nI_le (a := 7) (Nat.le_refl _) (by omega)) ?_)
    rw [nI_one]
    exact kk u (fun x b hx hb => h1 x b (by omega) hb) h2
  | succ n ih =>
    intro k hk u h1 h2
    refine TX8_lay_172_5 hr (brF (nI_ge (b := 7) (by omega) (by omega)) ⟨vpn ha (by omega), ?_⟩)
    have gF : rF u F := fun x y hx hy => (h2 _ _ (by omega)).trans (hF x y hx hy)
    have gD : rD u (gD0 D) := fun x y hx hy => (h2 _ _ (by omega)).trans (hD0 x y hx hy)
    have gB : rB u D := fun x hx => (h2 _ _ (by omega)).trans (hB x hx)
    refine xPr.use_5 (K_findNext_5 hr hD gF gD gB ha (by omega)) ⟨_, rfl, rfl, rfl, rfl, vpn (by omega) (by omega), ?_⟩
    rw [nI_one, nc (by omega), nc (by omega)]
    refine ih (k + 1) (by omega) _ (fun x b hx hb => ?_) (h2.put (by constructor <;> omega))
    by_cases q : x = a ∧ b = k
    · obtain ⟨rfl, rfl⟩ := q
      rw [x2_same]
    · rw [x2_ne _ _ (by omega)]
      exact h1 x b (by omega) hb
theorem L_lay_163_5 (hr : xRf r) {P : xPost} {u0 : xU} {D F : Nat → Nat → Int32} (hD : gDok D) (hF : rF u0 F) (hD0 : rD u0 (gD0 D)) (hB : rB u0 D)
    (kk : ∀ u' : xU, rN u' (gNext D F 7) → xSm fNx u0 u' → P none u' w r) :
    ∀ (n k : Nat), k + n = 7 → ∀ u : xU, (∀ x b, x < k → b < 7 → u (71 + x) b = gNext D F 7 x b) → xSm fNx u0 u →
    xEv g (d + 1) mX8_lay 163 [some (.ref 53), none, none, some (.int (nI k)), none, none] [] 655 u w r 655 P := by
  intro n
  induction n with
  | zero =>
    intro k hk u h1 h2
    have : k = 7 := by omega
    subst this
    exact TX8_lay_163_5 (brT (nI_le (a := 7) (Nat.le_refl _) (by omega)) (kk u (fun x b hx hb => h1 x b hx hb) h2))
  | succ n ih =>
    intro k hk u h1 h2
    refine TX8_lay_163_5 (brF (nI_ge (b := 7) (by omega) (by omega)) ?_)
    have gF : rF u F := fun x y hx hy => (h2 _ _ (by omega)).trans (hF x y hx hy)
    have gD : rD u (gD0 D) := fun x y hx hy => (h2 _ _ (by omega)).trans (hD0 x y hx hy)
    have gB : rB u D := fun x hx => (h2 _ _ (by omega)).trans (hB x hx)
    exact L_lay_172_5 hr hD gF gD gB (by omega) (fun u' q1 q2 => ih (k + 1) (by omega) u' q1 (h2.tr q2)) 7 0 rfl u (fun x b hx hb => h1 x b (by omega) hb) xSm.rf
theorem L_lay_71_5 (hr : xRf r) {P : xPost} {u0 L : xU} {l nv n : Nat} {c : Int32} (h_l : xLd l) (q_l : xLr l r) (hl : l + 14 < 55) (hL : gLandW L nv n) (hW : rW u0 l L n)
    (kk : ∀ u' : xU, rF u' (gDist L c 7 n) → rD u' (gD0 (gDays L c n)) → rB u' (gDays L c n) → rN u' (gNext (gDays L c n) (gDist L c 7 n) 7) → xSm fRo u0 u' → P none u' w r) :
    ∀ (j k : Nat), k + j = n → ∀ u : xU, rF u (gWay L c gF0 k) → rD u (gD0 (gDays L c k)) → rB u (gDays L c k) → xSm fRo u0 u →
    xEv g (d + 2) mX8_lay 71 [some (.ref 53), some (.ref l), some (.int c), some (.int (nI k)), none, none] [] 655 u w r 655 P := by
  have hn := hL.2.1
  intro j
  induction j with
  | zero =>
    intro k hk u h1 h2 h3 h4
    have : k = n := by omega
    subst this
    have hW' := hW.kept h4 hl
    refine TX8_lay_71_5 h_l q_l (brT (by rw [hW'.1]; exact nI_le (Nat.le_refl _) (by omega)) ?_)
    refine xVd.use_5 (K_shorten_5 hr (gWay_ok (c := c) hL) h1) (fun u' hu' => ⟨rfl, rfl, rfl, ?_⟩)
    obtain ⟨g1, g2⟩ := hu'
    refine L_lay_163_5 hr (gDays_ok (c := c) hL) g1 (fun a b ha hb => (g2 _ _ (by omega)).trans (h2 a b ha hb)) (fun a ha => (g2 _ _ (by omega)).trans (h3 a ha)) (fun u'' q1 q2 => ?_) 7 0 rfl u' (fun x b hx => by omega) xSm.rf
    exact kk u'' (fun a b ha hb => (q2 _ _ (by omega)).trans (g1 a b ha hb)) (fun a b ha hb => (q2 _ _ (by omega)).trans ((g2 _ _ (by omega)).trans (h2 a b ha hb))) (fun a ha => (q2 _ _ (by omega)).trans ((g2 _ _ (by omega)).trans (h3 a ha))) q1 ((h4.tr (g2.to (fun b hb => by omega))).tr (q2.to (fun b hb => by omega)))
  | succ j ih =>
    intro k hk u h1 h2 h3 h4
    have hW' := hW.kept h4 hl
    obtain ⟨a, b, ha, hb, hab, e1, e2, e3, e4⟩ := hL.2.2 k (by omega)
    have hv := hL.1
    obtain ⟨w1, w2, w3⟩ := hW'.2 k (by omega)
    have i := ih (k + 1) (by omega)
    refine TX8_lay_71_5 h_l q_l (brF (by rw [hW'.1]; exact nI_ge (by omega) (by omega)) ⟨vpn (by omega) (by omega), ?_⟩)
    rw [nc (by omega), w1, w2, w3, e1, e2]
    have ew : ∀ z, gWay L c z (k + 1) = if gOpen c k then x2 (x2 (gWay L c z k) a b (L 3 k)) b a (L 3 k) else gWay L c z k := by
      intro z
      show (if gOpen c k then _ else _) = _
      rw [e1, e2, nc (by omega), nc (by omega)]
      rfl
    by_cases ho : gOpen c k
    · refine brT ho (xPr.use_5 (K_isOneOf_5 _ _) ⟨_, rfl, rfl, rfl, rfl, brF (b7 (by omega)) (xPr.use_5 (K_isOneOf_5 _ _) ⟨_, rfl, rfl, rfl, rfl, brF (b7 (by omega)) ?_⟩)⟩)
      refine xVd.use_5 (K_layWay_5 hr (by omega) (by omega) _) (fun u1 hu1 => ⟨rfl, rfl, rfl, ?_⟩)
      have eL : u1 (l + 3) k = L 3 k := by rw [hu1, x2_a _ _ (by omega), x2_a _ _ (by omega), x2_a _ _ (by omega), w3]
      rw [eL]
      refine xVd.use_5 (K_layWay_5 hr (by omega) (by omega) _) (fun u2 hu2 => ⟨rfl, rfl, rfl, TX8_lay_151_5 ?_⟩)
      rw [nI_one]
      have s1 : xSm fRo u u1 := by rw [hu1]; exact ((xSm.rf.put (by constructor <;> omega)).put (by constructor <;> omega)).put (by constructor <;> omega)
      have s2 : xSm fRo u1 u2 := by rw [hu2]; exact ((xSm.rf.put (by constructor <;> omega)).put (by constructor <;> omega)).put (by constructor <;> omega)
      have eD : ∀ z, gWay L c z (k + 1) = x2 (x2 (gWay L c z k) a b (L 3 k)) b a (L 3 k) := fun z => by rw [ew, if_pos ho]
      have n3 : ¬ L 3 k = -1 := fun q => by rw [q, m1_toInt] at e3; omega
      refine i u2 ?_ ?_ ?_ ((h4.tr s1).tr s2)
      · rw [eD]
        have f1 : rF u1 (x2 (gWay L c gF0 k) a b (L 3 k)) := fun x y hx hy => by
          rw [hu1, x2_a _ _ (by omega), x2_a _ _ (by omega)]
          exact h1.put a b _ x y hx hy
        intro x y hx hy
        rw [hu2, x2_a _ _ (by omega), x2_a _ _ (by omega)]
        exact f1.put b a _ x y hx hy
      · have f0 : gD0 (gDays L c (k + 1)) = x2 (x2 (gD0 (gDays L c k)) a b (L 3 k)) b a (L 3 k) := by
          funext x y
          unfold gD0 gDays
          rw [eD]
          unfold x2
          by_cases q1 : x = b ∧ y = a
          · rw [if_pos q1, if_pos q1, if_neg n3]
          · rw [if_neg q1, if_neg q1]
            by_cases q2 : x = a ∧ y = b
            · rw [if_pos q2, if_pos q2, if_neg n3]
            · rw [if_neg q2, if_neg q2]
        rw [f0]
        have f1 : rD u1 (x2 (gD0 (gDays L c k)) a b (L 3 k)) := fun x y hx hy => by
          rw [hu1, x2_a _ _ (by omega)]
          have := h2.put a b (L 3 k) x y hx hy
          unfold x2 at this ⊢
          rw [← this]
          by_cases q : 63 + x = 63 + a ∧ y = b
          · rw [if_pos q, if_pos q]
          · rw [if_neg q, if_neg q, if_neg (by omega)]
        intro x y hx hy
        rw [hu2, x2_a _ _ (by omega)]
        have := f1.put b a (L 3 k) x y hx hy
        unfold x2 at this ⊢
        rw [← this]
        by_cases q : 63 + x = 63 + b ∧ y = a
        · rw [if_pos q, if_pos q]
        · rw [if_neg q, if_neg q, if_neg (by omega)]
      · intro x hx
        have hD1 : gDays L c (k + 1) = x2 (x2 (gDays L c k) a b (L 3 k)) b a (L 3 k) := eD _
        have b1 : u1 78 x = if x = a then u 78 a ||| ((1 : Int32) <<< (nI b &&& 31)) else u 78 x := by
          rw [hu1]
          by_cases q : x = a
          · subst q; rw [x2_same, if_pos rfl]
          · rw [x2_i _ _ q, x2_a _ _ (by omega), x2_a _ _ (by omega), if_neg q]
        have b2 : u2 78 x = if x = b then u1 78 b ||| ((1 : Int32) <<< (nI a &&& 31)) else u1 78 x := by
          rw [hu2]
          by_cases q : x = b
          · subst q; rw [x2_same, if_pos rfl]
          · rw [x2_i _ _ q, x2_a _ _ (by omega), x2_a _ _ (by omega), if_neg q]
        have b1b : u1 78 b = u 78 b := by
          rw [hu1, x2_i _ _ (fun q => hab q.symm), x2_a _ _ (by omega), x2_a _ _ (by omega)]
        rw [b2]
        by_cases q : x = b
        · subst q
          rw [if_pos rfl, b1b, h3 x hx]
          refine xset_one (by omega) ?_ (fun y hy => ?_)
          · rw [hD1, x2_same]; exact n3
          · rw [hD1, x2_i _ _ hy, x2_a _ _ (fun q => hab q.symm)]
        · rw [if_neg q, b1]
          by_cases q2 : x = a
          · subst q2
            rw [if_pos rfl, h3 x hx]
            refine xset_one (by omega) ?_ (fun y hy => ?_)
            · rw [hD1, x2_a _ _ hab, x2_same]; exact n3
            · rw [hD1, x2_a _ _ hab, x2_i _ _ hy]
          · rw [if_neg q2, h3 x hx]
            refine xset_congr (fun y _ => ?_)
            rw [hD1, x2_a _ _ q, x2_a _ _ q2]
    · refine brF ho (TX8_lay_151_5 ?_)
      rw [nI_one]
      have eD : ∀ z, gWay L c z (k + 1) = gWay L c z k := fun z => by rw [ew, if_neg ho]
      refine i u ?_ ?_ ?_ h4
      · rw [eD]; exact h1
      · unfold gDays; rw [eD]; exact h2
      · unfold gDays; rw [eD]; exact h3
theorem L_lay_18_5 (hr : xRf r) {P : xPost} {u0 : xU} {l : Nat} {c : Int32} {v : Nat} (hv : v < 7)
    (kk : ∀ u' : xU, (∀ a b, a < v + 1 → b < 7 → u' (55 + a) b = gF0 a b ∧ u' (63 + a) b = 0) → (∀ a, a < v + 1 → u' 78 a = 0) → xSm fRo u0 u' → xEv g (d + 1) mX8_lay 2 [some (.ref 53), some (.ref l), some (.int c), some (.int (nI (v + 1))), none, none] [] 655 u' w r 655 P) :
    ∀ (n k : Nat), k + n = 7 → ∀ u : xU, (∀ a b, (a < v ∨ (a = v ∧ b < k)) → b < 7 → u (55 + a) b = gF0 a b ∧ u (63 + a) b = 0) → (∀ a, a < v + 1 → u 78 a = 0) → xSm fRo u0 u →
    xEv g (d + 1) mX8_lay 18 [some (.ref 53), some (.ref l), some (.int c), some (.int (nI v)), some (.int (nI k)), none] [] 655 u w r 655 P := by
  intro n
  induction n with
  | zero =>
    intro k hk u h1 h2 h3
    have : k = 7 := by omega
    subst this
    refine TX8_lay_18_5 hr (brT (nI_le (a := 7) (Nat.le_refl _) (by omega)) ?_)
    rw [nI_one]
    exact kk u (fun a b ha hb => h1 a b (by omega) hb) h2 h3
  | succ n ih =>
    intro k hk u h1 h2 h3
    refine TX8_lay_18_5 hr (brF (nI_ge (b := 7) (by omega) (by omega)) ⟨vpn hv (by omega), vpn (by omega) (by omega), ?_⟩)
    rw [nI_one, nc (by omega), nc (by omega)]
    have e : (if nI v = nI k then (0 : Int32) else 1000) = gF0 v k := by
      unfold gF0
      by_cases q : v = k
      · rw [if_pos (by rw [q]), if_pos q]
      · rw [if_neg (fun z => q ((nI_eq (by omega) (by omega)).mp z)), if_neg q]
    rw [e]
    refine ih (k + 1) (by omega) _ (fun a b hab hb => ?_) (fun a ha => ?_) ((h3.put (by constructor <;> omega)).put (by constructor <;> omega))
    · by_cases q : a = v ∧ b = k
      · obtain ⟨rfl, rfl⟩ := q
        rw [x2_a _ _ (by omega), x2_same, x2_same]
        exact ⟨rfl, rfl⟩
      · rw [x2_a _ _ (show 55 + a ≠ 63 + v by omega), x2_ne _ _ (show ¬ (55 + a = 55 + v ∧ b = k) by omega), x2_ne _ _ (show ¬ (63 + a = 63 + v ∧ b = k) by omega), x2_a _ _ (show 63 + a ≠ 55 + v by omega)]
        exact h1 a b (by omega) hb
    · rw [x2_a _ _ (by omega), x2_a _ _ (by omega)]
      exact h2 a ha
theorem L_lay_2_5 (hr : xRf r) {P : xPost} {u0 : xU} {l : Nat} {c : Int32}
    (kk : ∀ u' : xU, (∀ a b, a < 7 → b < 7 → u' (55 + a) b = gF0 a b ∧ u' (63 + a) b = 0) → (∀ a, a < 7 → u' 78 a = 0) → xSm fRo u0 u' → xEv g (d + 1) mX8_lay 71 [some (.ref 53), some (.ref l), some (.int c), some (.int 0), none, none] [] 655 u' w r 655 P) :
    ∀ (n k : Nat), k + n = 7 → ∀ u : xU, (∀ a b, a < k → b < 7 → u (55 + a) b = gF0 a b ∧ u (63 + a) b = 0) → (∀ a, a < k → u 78 a = 0) → xSm fRo u0 u →
    xEv g (d + 1) mX8_lay 2 [some (.ref 53), some (.ref l), some (.int c), some (.int (nI k)), none, none] [] 655 u w r 655 P := by
  intro n
  induction n with
  | zero =>
    intro k hk u h1 h2 h3
    have : k = 7 := by omega
    subst this
    exact TX8_lay_2_5 hr (brT (nI_le (a := 7) (Nat.le_refl _) (by omega)) (kk u h1 h2 h3))
  | succ n ih =>
    intro k hk u h1 h2 h3
    refine TX8_lay_2_5 hr (brF (nI_ge (b := 7) (by omega) (by omega)) ⟨vpn (by omega) (by omega), ?_⟩)
    rw [nc (by omega)]
    refine L_lay_18_5 hr (by omega) (u0 := u0) (fun u' q1 q2 q3 => ih (k + 1) (by omega) u' q1 q2 q3) 7 0 rfl _ (fun a b hab hb => ?_) (fun a ha => ?_) (h3.put (by constructor <;> omega))
    · rw [x2_a _ _ (by omega), x2_a _ _ (by omega)]
      exact h1 a b (by omega) hb
    · by_cases q : a = k
      · subst q; rw [x2_same]
      · rw [x2_i _ _ q]
        exact h2 a (by omega)
theorem K_lay_5 (hr : xRf r) {u L : xU} {l nv n : Nat} {c : Int32} (h_l : xLd l) (q_l : xLr l r) (hl : l + 14 < 55) (hL : gLandW L nv n) (hW : rW u l L n) :
    xCall g (d + 2) mX8_lay [.ref 53, .ref l, .int c] 655 u w r 655 (xVd (fun u' => rRo u' L c nv n ∧ xSm fRo u u') w r) := by
  refine CX8_lay_5 (L_lay_2_5 hr (u0 := u) (fun u' q1 q2 q3 => ?_) 7 0 rfl u (fun a b ha => by omega) (fun a ha => by omega) xSm.rf)
  refine L_lay_71_5 hr h_l q_l hl hL (hW.kept q3 hl) (fun u'' g1 g2 g3 g4 g5 => ⟨rfl, ⟨⟨fun a b ha hb => (g1 a b ha hb).trans (gDist_7 hL a b), g2, g3, fun a b ha hb => (g4 a b ha hb).trans (gNext_7 hL a b)⟩, q3.tr g5⟩, rfl, rfl⟩) n 0 (Nat.zero_add n) u' (fun a b ha hb => (q1 a b ha hb).1) (fun a b ha hb => ?_) (fun a ha => ?_) xSm.rf
  · rw [(q1 a b ha hb).2]; exact (if_pos rfl).symm
  · rw [q2 a ha]
    refine b_ext (fun i hi => ?_)
    rw [b_0, bt_xset (by omega) _ hi]
    have : gDays L c 0 a i = -1 := rfl
    rw [this]
    simp
end NX5_2
section NX5_3
variable {g : xGT} {d : Nat} {w : xW} {r : xQ} {L : xU} {c : Int32} {l : Nat}
theorem K_copyFrom_5 {u : xU} {s o : Nat} (h_s : xSt s) (q_s : xSr s r) (h_o : xSt o) (q_o : xSr o r) (hd : s + 11 < o ∨ o + 11 < s) : xCall g (d + 1) mX9_copyFrom [.ref s, .ref o] 655 u w r 655 (xVd (fun u' => kCp u u' s o ∧ xSm (fSt s) u u') w r) := by
  refine CX9_copyFrom_5 h_s q_s h_o q_o ?_
  generalize hU : xcp _ (o + 11) (s + 11) 10 = U
  refine ⟨rfl, ⟨⟨fun k hk => ?_, fun k i h1 h2 hi => ?_, fun k i h1 h2 hi => ?_⟩, ?_⟩, rfl, rfl⟩
  · have : k = 0 ∨ k = 1 ∨ k = 2 := by omega
    rw [← hU]
    rcases this with rfl | rfl | rfl <;> simp (disch := omega) only [xcp_ne, x2_i, x2_a, x2_same]
  · have : k = 1 ∨ k = 2 ∨ k = 3 ∨ k = 4 := by omega
    rw [← hU]
    rcases this with rfl | rfl | rfl | rfl <;> simp (disch := omega) only [xcp_ne, xcp_eq, x2_i, x2_a, x2_same]
  · have : k = 5 ∨ k = 6 ∨ k = 7 ∨ k = 8 ∨ k = 9 ∨ k = 10 ∨ k = 11 := by omega
    rw [← hU]
    rcases this with rfl | rfl | rfl | rfl | rfl | rfl | rfl <;> simp (disch := omega) only [xcp_ne, xcp_eq, x2_i, x2_a, x2_same]
  · rw [← hU]
    exact ((((((((((((((xSm.rf.put ⟨by omega, by omega⟩).put ⟨by omega, by omega⟩).put ⟨by omega, by omega⟩).cp ⟨by omega, by omega⟩).cp ⟨by omega, by omega⟩).cp ⟨by omega, by omega⟩).cp ⟨by omega, by omega⟩).cp ⟨by omega, by omega⟩).cp ⟨by omega, by omega⟩).cp ⟨by omega, by omega⟩).cp ⟨by omega, by omega⟩).cp ⟨by omega, by omega⟩).cp ⟨by omega, by omega⟩).cp ⟨by omega, by omega⟩)
end NX5_3
section NX5_4
variable {g : xGT} {d : Nat} {w : xW} {r : xQ} {l : Nat} {P : xPost} {D : pD}
theorem K_beg_17_5 {u0 : xU} (hr : xRf r) (hl : l = 22 ∨ l = 37) (kk : ∀ u, (∀ b, b < 6 → u 106 b = 0 ∧ u 107 b = u (l + 4) b ∧ u 108 b = -1 ∧ u 109 b = 0) → xSm (fun b => 106 ≤ b ∧ b ≤ 109) u0 u → xEv g (d + 1) mX9_begin 64 [some (.ref 105), some (.ref l), some (.int (nI 0))] [] 655 u w r 655 P) :
    xEv g (d + 1) mX9_begin 17 [some (.ref 105), some (.ref l), some (.int (nI 0))] [] 655 u0 w r 655 P := by
  have h_l := ld_of hl
  have q_l := hr.ld hl
  refine xlp (N := 6) (Q := fun k u => (∀ b, b < k → u 106 b = 0 ∧ u 107 b = u (l + 4) b ∧ u 108 b = -1 ∧ u 109 b = 0) ∧ xSm (fun b => 106 ≤ b ∧ b ≤ 109) u0 u) (G := fun k u => xEv g (d + 1) mX9_begin 17 [some (.ref 105), some (.ref l), some (.int (nI k))] [] 655 u w r 655 P) ?_ ?_ ⟨fun b hb => absurd hb (Nat.not_lt_zero _), xSm.rf⟩
  · intro u h
    exact TX9_begin_17_5 st105 (sr105 hr) h_l q_l (brT (nI_le (a := 6) (Nat.le_refl _) (by omega)) (kk u h.1 h.2))
  · intro k u hk h ih
    refine TX9_begin_17_5 st105 (sr105 hr) h_l q_l (brF (nI_ge (b := 6) (by omega) (by omega)) ⟨vpn hk (by omega), ?_⟩)
    rw [nc (by omega), nI_one]
    refine ih _ ⟨fun b hb => ?_, (((h.2.put ⟨by omega, by omega⟩).put ⟨by omega, by omega⟩).put ⟨by omega, by omega⟩).put ⟨by omega, by omega⟩⟩
    have e4 : ∀ i, (x2 (x2 (x2 (x2 u 106 k 0) 107 k ((x2 u 106 k 0) (l + 4) k)) 108 k (-1)) 109 k 0) (l + 4) i = u (l + 4) i := fun i => by
      rw [x2_a _ _ (by omega), x2_a _ _ (by omega), x2_a _ _ (by omega), x2_a _ _ (by omega)]
    show (x2 (x2 (x2 (x2 u 106 k 0) 107 k ((x2 u 106 k 0) (l + 4) k)) 108 k (-1)) 109 k 0) 106 b = 0 ∧ (x2 (x2 (x2 (x2 u 106 k 0) 107 k ((x2 u 106 k 0) (l + 4) k)) 108 k (-1)) 109 k 0) 107 b = (x2 (x2 (x2 (x2 u 106 k 0) 107 k ((x2 u 106 k 0) (l + 4) k)) 108 k (-1)) 109 k 0) (l + 4) b ∧ (x2 (x2 (x2 (x2 u 106 k 0) 107 k ((x2 u 106 k 0) (l + 4) k)) 108 k (-1)) 109 k 0) 108 b = -1 ∧ (x2 (x2 (x2 (x2 u 106 k 0) 107 k ((x2 u 106 k 0) (l + 4) k)) 108 k (-1)) 109 k 0) 109 b = 0
    rw [e4]
    by_cases q : b = k
    · subst q
      refine ⟨?_, ?_, ?_, x2_same _ _ _ _⟩
      · rw [x2_a _ _ (by omega), x2_a _ _ (by omega), x2_a _ _ (by omega), x2_same]
      · rw [x2_a _ _ (by omega), x2_a _ _ (by omega), x2_same, x2_a _ _ (by omega)]
      · rw [x2_a _ _ (by omega), x2_same]
    · have o : ∀ a, (x2 (x2 (x2 (x2 u 106 k 0) 107 k ((x2 u 106 k 0) (l + 4) k)) 108 k (-1)) 109 k 0) a b = u a b := fun a => by
        rw [x2_ne _ _ (by omega), x2_ne _ _ (by omega), x2_ne _ _ (by omega), x2_ne _ _ (by omega)]
      rw [o, o, o, o]
      exact h.1 b (by omega)
theorem K_beg_64_5 {u0 E : xU} {nL : Nat} (hr : xRf r) (hl : l = 22 ∨ l = 37) (hn : nL ≤ 8) (hE : cLt l E nL u0) (h2 : u0 105 2 = 0)
    (kk : ∀ u, u 105 2 = nI nL → (∀ i, i < nL → u 110 i = E 0 i ∧ u 111 i = -1 ∧ u 112 i = -1 ∧ u 113 i = E 1 i ∧ u 114 i = E 2 i ∧ u 115 i = E 3 i ∧ u 116 i = 0) → xSn (fun b i => (b = 105 ∧ i = 2) ∨ (110 ≤ b ∧ b ≤ 116)) u0 u → P none u w r) :
    xEv g (d + 2) mX9_begin 64 [some (.ref 105), some (.ref l), some (.int (nI 0))] [] 655 u0 w r 655 P := by
  have h_l := ld_of hl
  have q_l := hr.ld hl
  refine xlp (N := nL) (Q := fun k u => u 105 2 = nI k ∧ (∀ i, i < k → u 110 i = E 0 i ∧ u 111 i = -1 ∧ u 112 i = -1 ∧ u 113 i = E 1 i ∧ u 114 i = E 2 i ∧ u 115 i = E 3 i ∧ u 116 i = 0) ∧ xSn (fun b i => (b = 105 ∧ i = 2) ∨ (110 ≤ b ∧ b ≤ 116)) u0 u) (G := fun k u => xEv g (d + 2) mX9_begin 64 [some (.ref 105), some (.ref l), some (.int (nI k))] [] 655 u w r 655 P) ?_ ?_ ⟨h2, fun b hb => absurd hb (Nat.not_lt_zero _), xSn.rf⟩
  · intro u h
    have e10 : u l 10 = nI nL := (h.2.2 _ _ (by omega)).trans hE.1
    refine TX9_begin_64_5 st105 h_l q_l ?_
    rw [e10]
    exact brT (nI_le (Nat.le_refl _) (by omega)) (kk u h.1 h.2.1 h.2.2)
  · intro k u hk h ih
    obtain ⟨a1, a2, a3⟩ := h
    have e10 : u l 10 = nI nL := (a3 _ _ (by omega)).trans hE.1
    obtain ⟨b1, b2, b3, b4⟩ := hE.2 k hk
    refine TX9_begin_64_5 st105 h_l q_l ?_
    rw [e10, nc (by omega), a3 (l + 8) k (by omega), a3 (l + 9) k (by omega), a3 (l + 10) k (by omega), a3 (l + 11) k (by omega), b1, b2, b3, b4, nI_one]
    refine brF (nI_ge (by omega) (by omega)) ⟨vpn (by omega) (by omega), CX9_addLetter_5 (d := d) st105 (sr105 hr) (xPr.use_5 (K_isOneOf_5 _ _) ⟨_, rfl, rfl, rfl, rfl, ?_⟩)⟩
    rw [a1]
    have in10 : ¬ xb (¬ (nI k < 0) ∧ ¬ ((10 : Int32) ≤ nI k)) = 0 := by
      rw [xb_eq0, Classical.not_not]
      exact ⟨nI_nn (by omega), nI_ge (b := 10) (by omega) (by omega)⟩
    rw [nc (by omega)]
    refine brF in10 ⟨vpn (by omega) (by omega), _, rfl, rfl, rfl, ?_⟩
    have eu : ∀ (X : xU), X = x2 (x2 (x2 (x2 (x2 (x2 (x2 u (105 + 5) k (E 0 k)) (105 + 6) k (-1)) (105 + 7) k (-1)) (105 + 8) k (E 1 k)) (105 + 9) k (E 2 k)) (105 + 10) k (E 3 k)) (105 + 11) k 0 → xEv g (d + 2) mX9_begin 64 [some (.ref 105), some (.ref l), some (.int (nI (k + 1)))] [] 655 (x2 X 105 2 (X 105 2 + 1)) w r 655 P := by
      intro X hX
      have f1 : xSn (fun b i => (110 ≤ b ∧ b ≤ 116) ∧ i = k) u X := by
        rw [hX]
        exact (((((((xSn.rf).put (by omega)).put (by omega)).put (by omega)).put (by omega)).put (by omega)).put (by omega)).put (by omega)
      have v : X 110 k = E 0 k ∧ X 111 k = -1 ∧ X 112 k = -1 ∧ X 113 k = E 1 k ∧ X 114 k = E 2 k ∧ X 115 k = E 3 k ∧ X 116 k = 0 := by
        rw [hX]
        refine ⟨?_, ?_, ?_, ?_, ?_, ?_, ?_⟩
        · rw [x2_a _ _ (by omega), x2_a _ _ (by omega), x2_a _ _ (by omega), x2_a _ _ (by omega), x2_a _ _ (by omega), x2_a _ _ (by omega)]; exact x2_same _ _ _ _
        · rw [x2_a _ _ (by omega), x2_a _ _ (by omega), x2_a _ _ (by omega), x2_a _ _ (by omega), x2_a _ _ (by omega)]; exact x2_same _ _ _ _
        · rw [x2_a _ _ (by omega), x2_a _ _ (by omega), x2_a _ _ (by omega), x2_a _ _ (by omega)]; exact x2_same _ _ _ _
        · rw [x2_a _ _ (by omega), x2_a _ _ (by omega), x2_a _ _ (by omega)]; exact x2_same _ _ _ _
        · rw [x2_a _ _ (by omega), x2_a _ _ (by omega)]; exact x2_same _ _ _ _
        · rw [x2_a _ _ (by omega)]; exact x2_same _ _ _ _
        · exact x2_same _ _ _ _
      have e1 : X 105 2 + 1 = nI (k + 1) := by rw [f1 _ _ (by omega), a1, nI_one]
      rw [e1]
      have o : ∀ a i, 110 ≤ a → (x2 X 105 2 (nI (k + 1))) a i = X a i := fun a i ha => x2_a _ _ (by omega)
      refine ih _ ⟨x2_same _ _ _ _, fun i hi => ?_, (a3.tr (f1.to (fun b i z => by omega))).put (by omega)⟩
      rw [o 110 i (by omega), o 111 i (by omega), o 112 i (by omega), o 113 i (by omega), o 114 i (by omega), o 115 i (by omega), o 116 i (by omega)]
      by_cases q : i = k
      · subst q; exact v
      · rw [f1 110 i (by omega), f1 111 i (by omega), f1 112 i (by omega), f1 113 i (by omega), f1 114 i (by omega), f1 115 i (by omega), f1 116 i (by omega)]
        exact a2 i (by omega)
    exact eu _ rfl
theorem K_begin9_5 {u E : xU} {nL : Nat} (hr : xRf r) (hl : l = 22 ∨ l = 37) (hn : nL ≤ 8) (hE : cLt l E nL u) (kk : ∀ u', sRaw l nL E u' 105 → xSm (fSt 105) u u' → P none u' w r) : xCall g (d + 2) mX9_begin [.ref 105, .ref l] 655 u w r 655 P := by
  refine CX9_begin_5 st105 ?_
  have f0 : xSm (fun b => b = 105) u (x2 (x2 (x2 u 105 0 0) 105 1 0) 105 2 0) := (((xSm.rf (F := fun b : Nat => b = 105)).put rfl).put rfl).put rfl
  have e0 : (x2 (x2 (x2 u 105 0 0) 105 1 0) 105 2 0) 105 0 = 0 ∧ (x2 (x2 (x2 u 105 0 0) 105 1 0) 105 2 0) 105 1 = 0 ∧ (x2 (x2 (x2 u 105 0 0) 105 1 0) 105 2 0) 105 2 = 0 := ⟨rfl, rfl, rfl⟩
  generalize x2 (x2 (x2 u 105 0 0) 105 1 0) 105 2 0 = u1 at f0 e0
  refine K_beg_17_5 (d := d + 1) hr hl (fun u2 x1 x2' => K_beg_64_5 (E := E) (nL := nL) hr hl hn ⟨?_, fun k hk => ?_⟩ ?_ (fun u3 y1 y2 y3 => kk u3 ⟨⟨?_, ?_, y1⟩, fun b hb => ?_, y2⟩ ?_))
  · rw [x2' _ _ (by omega), f0 _ _ (by omega)]; exact hE.1
  · rw [x2' _ _ (by omega), f0 _ _ (by omega), x2' _ _ (by omega), f0 _ _ (by omega), x2' _ _ (by omega), f0 _ _ (by omega), x2' _ _ (by omega), f0 _ _ (by omega)]; exact hE.2 k hk
  · exact (x2' _ _ (by omega)).trans e0.2.2
  · rw [y3 _ _ (by omega), x2' _ _ (by omega)]; exact e0.1
  · rw [y3 _ _ (by omega), x2' _ _ (by omega)]; exact e0.2.1
  · show u3 106 b = 0 ∧ u3 107 b = u3 (l + 4) b ∧ u3 108 b = -1 ∧ u3 109 b = 0
    rw [y3 106 b (by omega), y3 107 b (by omega), y3 108 b (by omega), y3 109 b (by omega), y3 (l + 4) b (by omega)]
    exact x1 b hb
  · intro b i hb
    have hb' : ¬ (105 ≤ b ∧ b ≤ 105 + 11) := hb
    rw [y3 b i (by omega), x2' b i (by omega), f0 b i (by omega)]
theorem K_sa_69_5 {u0 : xU} (hr : xRf r) (kk : ∀ u, (∀ i, i < 3 → u 653 i = 0) → xSm (fun b => b = 653) u0 u → P none u w r) : xEv g d mX11_startAnew 69 [some (.ref 8), some (.int (nI 0))] [] 655 u0 w r 655 P := by
  refine xlp (N := 3) (Q := fun k u => (∀ i, i < k → u 653 i = 0) ∧ xSm (fun b => b = 653) u0 u) (G := fun k u => xEv g d mX11_startAnew 69 [some (.ref 8), some (.int (nI k))] [] 655 u w r 655 P) ?_ ?_ ⟨fun b hb => absurd hb (Nat.not_lt_zero _), xSm.rf⟩
  · intro u h
    refine xe_iload_n dX11_startAnew_69 rfl (xe_iconst (v := 3) dX11_startAnew_70 rfl ?_)
    exact xe_icmp_ge (tgt := 87) dX11_startAnew_71 rfl (fun _ => xe_return dX11_startAnew_87 trivial (kk u h.1 h.2)) (fun z => absurd (nI_le (a := 3) (b := 3) (Nat.le_refl _) (by omega)) z)
  · intro k u hk h ih
    refine xe_iload_n dX11_startAnew_69 rfl (xe_iconst (v := 3) dX11_startAnew_70 rfl ?_)
    refine xe_icmp_ge (tgt := 87) dX11_startAnew_71 rfl (fun z => absurd z (nI_ge (b := 3) (by omega) (by omega))) (fun _ => ?_)
    refine xe_aload_n dX11_startAnew_74 rfl ?_
    refine xe_getR (b := 653) dX11_startAnew_75 flX11_69 kk8 (by omega) rfl (rf8_7 hr) ?_
    refine xe_iload_n dX11_startAnew_78 rfl (xe_iconst (v := 0) dX11_startAnew_79 rfl ?_)
    refine xe_zast dX11_startAnew_80 kk653 (by omega) (vpn hk (by omega)) (Or.inl rfl) ?_
    refine xe_iinc (v := nI (k + 1)) (ls' := [some (.ref 8), some (.int (nI (k + 1)))]) dX11_startAnew_81 rfl (by decide) (nI_one k) rfl ?_
    refine xe_goto (tgt := 69) dX11_startAnew_84 rfl (ih _ ⟨fun i hi => ?_, h.2.put rfl⟩)
    rw [nc (by omega)]
    by_cases q : i = k
    · rw [q, x2_same]
    · rw [x2_i _ _ q]; exact h.1 i (by omega)
theorem K_startAnew_5 {u : xU} {N : Nat} {T : Nat → Int32} (hr : xRf r) (hl : l = 22 ∨ l = 37) (ht : r 8 10 = some l) (hO : oD N T D) (hD : cD N T l D u w)
    (kk : ∀ u', bgn N T l D u' w → xSm fBe u u' → u' 611 5 = u 611 5 → P none u' w (x2 r 52 1 (some l))) : xCall g (d + 4) mX11_startAnew [.ref 8] 655 u w r 655 P := by
  obtain ⟨-, ⟨o1, o2, o3, o4⟩, -, -, -, ow, -⟩ := hO
  have h_l := ld_of hl
  refine xCall.of (ls := [some (.ref 8), none]) plX11 (Nat.le_of_ble_eq_true rfl) rfl ?_
  refine xe_aload_n dX11_startAnew_0 rfl ?_
  refine xe_getR (b := 52) dX11_startAnew_1 flX11_31 kk8 (by omega) rfl (rf8_1 hr) ?_
  refine xe_aload_n dX11_startAnew_4 rfl ?_
  refine xe_getR (b := l) dX11_startAnew_5 flX11_19 kk8 (by omega) rfl ht ?_
  refine xe_putR (b := l) dX11_startAnew_8 flX11_353 kk52 (by omega) nf0_1 rfl ?_
  have hr' : xRf (x2 r 52 1 (some l)) := hr.upd (fun b i h1 h2 h3 => x2_ne _ _ h2)
  have ht' : (x2 r 52 1 (some l)) 8 10 = some l := (x2_ne _ _ (by omega)).trans ht
  generalize x2 r 52 1 (some l) = r' at hr' ht' kk
  have q_l := hr'.ld hl
  refine xe_aload_n dX11_startAnew_11 rfl ?_
  refine xe_getR (b := 105) dX11_startAnew_12 flX11_47 kk8 (by omega) rfl (rf8_3 hr') ?_
  refine xe_aload_n dX11_startAnew_15 rfl ?_
  refine xe_getR (b := l) dX11_startAnew_16 flX11_19 kk8 (by omega) rfl ht' ?_
  refine xe_callV (args := [.ref l]) (P1 := fun rv u' w' r1 => rv = none ∧ w = w' ∧ r' = r1 ∧ (sRaw l (D.1 2) D.2.2.2.1 u' 105 ∧ xSm (fSt 105) u u')) dX11_startAnew_19 vlX11_356 rfl rfl (Nat.le_of_ble_eq_true rfl) st105.k0 (by omega) rfl rfl (K_begin9_5 (d := d + 1) hr' hl o3 hD.2.2.2.2.2.2.1 (fun u' y1 y2 => ⟨rfl, rfl, rfl, y1, y2⟩)) (Nat.le_refl _) (fun rv1 u1 w1 r1 k => ?_)
  obtain ⟨rfl, rfl, rfl, s1, f1⟩ := k
  have hD1 : cD N T l D u1 w := hD.kept (f1.n (G := fun b _ => fSt 105 b) (fun b i z => z)) (fun b i z => by
    show ¬ (105 ≤ b ∧ b ≤ 105 + 11); omega)
  refine xe_aload_n dX11_startAnew_22 rfl ?_
  refine xe_getR (b := 52) dX11_startAnew_23 flX11_31 kk8 (by omega) rfl (rf8_1 hr') ?_
  refine xe_getR (b := 53) dX11_startAnew_26 flX11_165 kk52 (by omega) rfl (rf52_0 hr') ?_
  refine xe_aload_n dX11_startAnew_29 rfl ?_
  refine xe_getR (b := l) dX11_startAnew_30 flX11_19 kk8 (by omega) rfl ht' ?_
  refine xe_aload_n dX11_startAnew_33 rfl ?_
  refine xe_getR (b := 105) dX11_startAnew_34 flX11_47 kk8 (by omega) rfl (rf8_3 hr') ?_
  refine xe_getI dX11_startAnew_37 flX11_212 st105.k0 (by omega) rfl ?_
  rw [s1.1.2.1]
  have hL : gLandW D.2.2.1 (D.1 0) (D.1 3) := ⟨o1, o4, fun k hk => by
    obtain ⟨a, b, x, h1, h2, h3, ⟨h4, h5⟩, h6, h7, h8⟩ := ow k hk
    exact ⟨a, b, h1, h2, h3, h6, h7, by rw [h8, nI_toInt (by omega)]; omega, by rw [h8, nI_toInt (by omega)]; omega⟩⟩
  refine xe_callV (args := [.ref l, .int 0]) dX11_startAnew_40 vlX11_215 rfl rfl (Nat.le_of_ble_eq_true rfl) kk53 (by omega) rfl rfl (K_lay_5 (d := d + 1) hr' (c := 0) h_l q_l (by omega) hL hD1.2.2.2.2.1) (Nat.le_refl _) (fun rv1 u2 w1 r1 k => ?_)
  obtain ⟨rfl, ⟨s2, f2⟩, rfl, rfl⟩ := k
  refine xe_aload_n dX11_startAnew_43 rfl ?_
  refine xe_getR (b := 117) dX11_startAnew_44 flX11_54 kk8 (by omega) rfl (rf8_4 hr') ?_
  refine xe_aload_n dX11_startAnew_47 rfl ?_
  refine xe_getR (b := 105) dX11_startAnew_48 flX11_47 kk8 (by omega) rfl (rf8_3 hr') ?_
  have fP : xSm (fun b => b = 117) u2 (x2 (x2 (x2 u2 117 1 0) 117 2 0) 117 3 0) := (((xSm.rf (F := fun b : Nat => b = 117)).put rfl).put rfl).put rfl
  have eP : (x2 (x2 (x2 u2 117 1 0) 117 2 0) 117 3 0) 117 1 = 0 ∧ (x2 (x2 (x2 u2 117 1 0) 117 2 0) 117 3 0) 117 2 = 0 ∧ (x2 (x2 (x2 u2 117 1 0) 117 2 0) 117 3 0) 117 3 = 0 := ⟨rfl, rfl, rfl⟩
  refine xe_callV (args := [.ref 105]) (P1 := fun rv u' w' r1 => rv = none ∧ w = w' ∧ r' = r1 ∧ (kCp (x2 (x2 (x2 u2 117 1 0) 117 2 0) 117 3 0) u' 119 105 ∧ xSm (fSt 119) (x2 (x2 (x2 u2 117 1 0) 117 2 0) 117 3 0) u')) dX11_startAnew_51 vlX11_338 rfl rfl (Nat.le_of_ble_eq_true rfl) kk117 (by omega) rfl rfl (CX6_begin_5 (d := d + 2) hr' (xVd.use_5 (K_copyFrom_5 (d := d + 1) (s := 119) (o := 105) (stAll 119 (by decide)) (hr'.2.1 119 (by decide)) st105 (sr105 hr') (Or.inr (by omega))) (fun u' y => ⟨rfl, rfl, rfl, rfl, rfl, rfl, y.1, y.2⟩))) (Nat.le_refl _) (fun rv1 u4 w1 r1 k => ?_)
  obtain ⟨rfl, rfl, rfl, s4, f4⟩ := k
  generalize x2 (x2 (x2 u2 117 1 0) 117 2 0) 117 3 0 = u3 at fP eP s4 f4
  refine xe_aload_n dX11_startAnew_54 rfl ?_
  refine xe_getR (b := 611) dX11_startAnew_55 flX11_61 kk8 (by omega) rfl (rf8_5 hr') ?_
  refine xe_iconst (v := 0) dX11_startAnew_58 rfl ?_
  refine xe_putI dX11_startAnew_59 flX11_315 kk611 (by omega) nf4_4 rfl ?_
  refine xe_aload_n dX11_startAnew_62 rfl (xe_iconst (v := 0) dX11_startAnew_63 rfl ?_)
  refine xe_putI dX11_startAnew_64 flX11_296 kk8 (by omega) nf11_9 rfl ?_
  refine xe_iconst (v := nI 0) dX11_startAnew_67 rfl ?_
  refine xe_istore_n (ls' := [some (.ref 8), some (.int (nI 0))]) dX11_startAnew_68 rfl (by decide) rfl ?_
  have f5 : xSm (fun b => b = 611 ∨ b = 8) u4 (x2 (x2 u4 611 4 0) 8 9 0) := (xSm.rf.put (Or.inl rfl)).put (Or.inr rfl)
  have e5 : (x2 (x2 u4 611 4 0) 8 9 0) 611 4 = 0 ∧ (x2 (x2 u4 611 4 0) 8 9 0) 8 9 = 0 ∧ (x2 (x2 u4 611 4 0) 8 9 0) 611 5 = u4 611 5 := ⟨rfl, rfl, rfl⟩
  generalize x2 (x2 u4 611 4 0) 8 9 0 = u5 at f5 e5
  refine K_sa_69_5 hr' (fun u6 s6 f6 => kk u6 ?_ ?_ ?_)
  · have g25 : xSm (fun b => b = 117 ∨ fSt 119 b ∨ b = 611 ∨ b = 8 ∨ b = 653) u2 u6 := (fP.to (fun b z => Or.inl z)).tr ((f4.to (fun b z => Or.inr (Or.inl z))).tr ((f5.to (fun b z => by omega)).tr (f6.to (fun b z => by omega))))
    have nf : ∀ b, ¬ b = 117 → ¬ (119 ≤ b ∧ b ≤ 130) → ¬ b = 611 → ¬ b = 8 → ¬ b = 653 → ¬ (b = 117 ∨ fSt 119 b ∨ b = 611 ∨ b = 8 ∨ b = 653) := fun b h1 h2 h3 h4 h5 z => by
      have z' : b = 117 ∨ (119 ≤ b ∧ b ≤ 119 + 11) ∨ b = 611 ∨ b = 8 ∨ b = 653 := z
      omega
    have hD6 : cD N T l D u6 w := (hD1.kept (f2.n (G := fun b _ => fRo b) (fun b i z => z)) (fun b i z => by show ¬ (55 ≤ b ∧ b < 79); omega)).kept (g25.n (G := fun b _ => b = 117 ∨ fSt 119 b ∨ b = 611 ∨ b = 8 ∨ b = 653) (fun b i z => z)) (fun b i z => nf b (by omega) (by omega) (by omega) (by omega) (by omega))
    have s2' : sRaw l (D.1 2) D.2.2.2.1 u2 105 := s1.kept f2 (fun b h1 h2 => by show ¬ (55 ≤ b ∧ b < 79); omega) (by show ¬ (55 ≤ l + 4 ∧ l + 4 < 79); omega)
    have s3 : sRaw l (D.1 2) D.2.2.2.1 u3 105 := s2'.kept fP (fun b h1 h2 => by omega) (by omega)
    have s4' : sRaw l (D.1 2) D.2.2.2.1 u4 119 := s3.copy o3 s4 (fun b => f4 _ _ (by show ¬ (119 ≤ l + 4 ∧ l + 4 ≤ 119 + 11); omega))
    refine ⟨hD6, s2'.kept g25 (fun b h1 h2 => nf b (by omega) (by omega) (by omega) (by omega) (by omega)) (nf _ (by omega) (by omega) (by omega) (by omega) (by omega)), ?_, ?_, ⟨?_, ?_, ?_⟩, ?_, ?_, s6⟩
    · exact (s4'.kept f5 (fun b h1 h2 => by omega) (by omega)).kept f6 (fun b h1 h2 => by omega) (by omega)
    · obtain ⟨r1, r2, r3, r4⟩ := s2
      refine ⟨fun a b ha hb => ?_, fun a b ha hb => ?_, fun a ha => ?_, fun a b ha hb => ?_⟩
      · rw [g25 _ _ (nf _ (by omega) (by omega) (by omega) (by omega) (by omega))]; exact r1 a b ha hb
      · rw [g25 _ _ (nf _ (by omega) (by omega) (by omega) (by omega) (by omega))]; exact r2 a b ha hb
      · rw [g25 _ _ (nf _ (by omega) (by omega) (by omega) (by omega) (by omega))]; exact r3 a ha
      · rw [g25 _ _ (nf _ (by omega) (by omega) (by omega) (by omega) (by omega))]; exact r4 a b ha hb
    · rw [f6 _ _ (by omega), f5 _ _ (by omega), f4 _ _ (by show ¬ (119 ≤ 117 ∧ 117 ≤ 119 + 11); omega)]; exact eP.1
    · rw [f6 _ _ (by omega), f5 _ _ (by omega), f4 _ _ (by show ¬ (119 ≤ 117 ∧ 117 ≤ 119 + 11); omega)]; exact eP.2.1
    · rw [f6 _ _ (by omega), f5 _ _ (by omega), f4 _ _ (by show ¬ (119 ≤ 117 ∧ 117 ≤ 119 + 11); omega)]; exact eP.2.2
    · rw [f6 _ _ (by omega)]; exact e5.1
    · rw [f6 _ _ (by omega)]; exact e5.2.1
  · exact (((((f1.to (fun b z => by have z' : 105 ≤ b ∧ b ≤ 105 + 11 := z; show b = 8 ∨ (55 ≤ b ∧ b < 79) ∨ (105 ≤ b ∧ b ≤ 116) ∨ b = 117 ∨ (119 ≤ b ∧ b ≤ 130) ∨ b = 611 ∨ b = 653; omega)).tr (f2.to (fun b z => by have z' : 55 ≤ b ∧ b < 79 := z; show b = 8 ∨ (55 ≤ b ∧ b < 79) ∨ (105 ≤ b ∧ b ≤ 116) ∨ b = 117 ∨ (119 ≤ b ∧ b ≤ 130) ∨ b = 611 ∨ b = 653; omega))).tr (fP.to (fun b z => by omega))).tr (f4.to (fun b z => by have z' : 119 ≤ b ∧ b ≤ 119 + 11 := z; show b = 8 ∨ (55 ≤ b ∧ b < 79) ∨ (105 ≤ b ∧ b ≤ 116) ∨ b = 117 ∨ (119 ≤ b ∧ b ≤ 130) ∨ b = 611 ∨ b = 653; omega))).tr (f5.to (fun b z => by omega))).tr (f6.to (fun b z => by omega))
  · rw [f6 _ _ (by omega), e5.2.2, f4 _ _ (by show ¬ (119 ≤ 611 ∧ 611 ≤ 119 + 11); omega), fP _ _ (by omega), f2 _ _ (by show ¬ (55 ≤ 611 ∧ 611 < 79); omega), f1 _ _ (by show ¬ (105 ≤ 611 ∧ 611 ≤ 105 + 11); omega)]
end NX5_4
