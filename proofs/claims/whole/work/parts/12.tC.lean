/-! FuneralPost.feed -/

theorem TX11_feed_0 {g : xGT} {d : Nat} {i1 i2 i3 i4 i5 : Int32} {u : xU} {w : xW} {r : xQ} {P : xPost} (hr : xRf r)
    (k : (((u 10 1) + (20 : Int32)) ≤ (1600 : Int32) → xCall g d mX10_putFour [.ref 10, .int i1] 698 u w r 698 (fun rv3 u3 w3 r3 => rv3 = none ∧ w = w3 ∧ r = r3 ∧ xCall g d mX10_putFour [.ref 10, .int i2] 698 u3 w r 698 (fun rv4 u4 w4 r4 => rv4 = none ∧ w = w4 ∧ r = r4 ∧ xCall g d mX10_putFour [.ref 10, .int i3] 698 u4 w r 698 (fun rv5 u5 w5 r5 => rv5 = none ∧ w = w5 ∧ r = r5 ∧ xCall g d mX10_putFour [.ref 10, .int i4] 698 u5 w r 698 (fun rv6 u6 w6 r6 => rv6 = none ∧ w = w6 ∧ r = r6 ∧ xCall g d mX10_putFour [.ref 10, .int i5] 698 u6 w r 698 (fun rv7 u7 w7 r7 => rv7 = none ∧ w = w7 ∧ r = r7 ∧ P (some (.int (u7 10 1))) u7 w r)))))) ∧ (¬ (((u 10 1) + (20 : Int32)) ≤ (1600 : Int32)) → P (some (.int (-1 : Int32))) u w r)) :
    xEv g (d + 1) mX11_feed 0 [some (.ref 8), some (.int i1), some (.int i2), some (.int i3), some (.int i4), some (.int i5), none] [] 698 u w r 698 P := by
  refine xe_aload_n dX11_feed_0 rfl ?_
  refine xe_getR (b := 9) dX11_feed_1 flX11_10 kk8 (xKK_lt kk8) rfl (rf8_0 hr) ?_
  refine xe_getR (b := 10) dX11_feed_4 flX11_80 kk9 (xKK_lt kk9) rfl (rf9_0 hr) ?_
  refine xe_astore (ls' := [some (.ref 8), some (.int i1), some (.int i2), some (.int i3), some (.int i4), some (.int i5), some (.ref 10)]) dX11_feed_7 (by decide) rfl ?_
  refine xe_aload dX11_feed_9 rfl ?_
  refine xe_getI dX11_feed_11 flX11_84 kk10 (xKK_lt kk10) rfl ?_
  refine xe_bipush (v := 20) dX11_feed_14 rfl ?_
  refine xe_iadd dX11_feed_16 ?_
  refine xe_sipush (v := 1600) dX11_feed_17 rfl ?_
  refine xe_icmp_le (tgt := 25) dX11_feed_20 rfl (fun c1 => ?_) (fun c2 => ?_)
  · have k := k.1 c1
    refine xe_aload dX11_feed_25 rfl ?_
    refine xe_iload_n dX11_feed_27 rfl ?_
    refine xe_callV (args := [.int i1]) dX11_feed_28 vlX11_90 rfl rfl (Nat.le_of_ble_eq_true rfl) kk10 (xKK_lt kk10) rfl rfl k (Nat.le_refl _) (fun rv3 u3 w3 r3 k => ?_)
    obtain ⟨rfl, rfl, rfl, k⟩ := k
    refine xe_aload dX11_feed_31 rfl ?_
    refine xe_iload_n dX11_feed_33 rfl ?_
    refine xe_callV (args := [.int i2]) dX11_feed_34 vlX11_90 rfl rfl (Nat.le_of_ble_eq_true rfl) kk10 (xKK_lt kk10) rfl rfl k (Nat.le_refl _) (fun rv4 u4 w4 r4 k => ?_)
    obtain ⟨rfl, rfl, rfl, k⟩ := k
    refine xe_aload dX11_feed_37 rfl ?_
    refine xe_iload_n dX11_feed_39 rfl ?_
    refine xe_callV (args := [.int i3]) dX11_feed_40 vlX11_90 rfl rfl (Nat.le_of_ble_eq_true rfl) kk10 (xKK_lt kk10) rfl rfl k (Nat.le_refl _) (fun rv5 u5 w5 r5 k => ?_)
    obtain ⟨rfl, rfl, rfl, k⟩ := k
    refine xe_aload dX11_feed_43 rfl ?_
    refine xe_iload dX11_feed_45 rfl ?_
    refine xe_callV (args := [.int i4]) dX11_feed_47 vlX11_90 rfl rfl (Nat.le_of_ble_eq_true rfl) kk10 (xKK_lt kk10) rfl rfl k (Nat.le_refl _) (fun rv6 u6 w6 r6 k => ?_)
    obtain ⟨rfl, rfl, rfl, k⟩ := k
    refine xe_aload dX11_feed_50 rfl ?_
    refine xe_iload dX11_feed_52 rfl ?_
    refine xe_callV (args := [.int i5]) dX11_feed_54 vlX11_90 rfl rfl (Nat.le_of_ble_eq_true rfl) kk10 (xKK_lt kk10) rfl rfl k (Nat.le_refl _) (fun rv7 u7 w7 r7 k => ?_)
    obtain ⟨rfl, rfl, rfl, k⟩ := k
    refine xe_aload dX11_feed_57 rfl ?_
    refine xe_getI dX11_feed_59 flX11_84 kk10 (xKK_lt kk10) rfl ?_
    exact xe_ireturn dX11_feed_62 rfl k
  · have k := k.2 (fun q => (c2 q))
    refine xe_iconst (v := -1) dX11_feed_23 rfl ?_
    exact xe_ireturn dX11_feed_24 rfl k

theorem CX11_feed {g : xGT} {d : Nat} {i1 i2 i3 i4 i5 : Int32} {u : xU} {w : xW} {r : xQ} {P : xPost} (hr : xRf r)
    (k : (((u 10 1) + (20 : Int32)) ≤ (1600 : Int32) → xCall g d mX10_putFour [.ref 10, .int i1] 698 u w r 698 (fun rv3 u3 w3 r3 => rv3 = none ∧ w = w3 ∧ r = r3 ∧ xCall g d mX10_putFour [.ref 10, .int i2] 698 u3 w r 698 (fun rv4 u4 w4 r4 => rv4 = none ∧ w = w4 ∧ r = r4 ∧ xCall g d mX10_putFour [.ref 10, .int i3] 698 u4 w r 698 (fun rv5 u5 w5 r5 => rv5 = none ∧ w = w5 ∧ r = r5 ∧ xCall g d mX10_putFour [.ref 10, .int i4] 698 u5 w r 698 (fun rv6 u6 w6 r6 => rv6 = none ∧ w = w6 ∧ r = r6 ∧ xCall g d mX10_putFour [.ref 10, .int i5] 698 u6 w r 698 (fun rv7 u7 w7 r7 => rv7 = none ∧ w = w7 ∧ r = r7 ∧ P (some (.int (u7 10 1))) u7 w r)))))) ∧ (¬ (((u 10 1) + (20 : Int32)) ≤ (1600 : Int32)) → P (some (.int (-1 : Int32))) u w r)) :
    xCall g (d + 1) mX11_feed [.ref 8, .int i1, .int i2, .int i3, .int i4, .int i5] 698 u w r 698 P :=
  xCall.of plX11 (Nat.le_of_ble_eq_true rfl) rfl (TX11_feed_0 hr k)

/-! FuneralPost.end -/

theorem TX11_end_0 {g : xGT} {d : Nat} {i1 : Int32} {u : xU} {w : xW} {r : xQ} {P : xPost} (hr : xRf r)
    (k : ((i1 < 0 ∨ ¬ (i1 ≤ (u 10 1))) → P (some (.int (-1 : Int32))) u w r) ∧ (¬ (i1 < 0 ∨ ¬ (i1 ≤ (u 10 1))) → P (some (.int i1)) (x2 u 10 1 i1) w r)) :
    xEv g d mX11_end 0 [some (.ref 8), some (.int i1)] [] 698 u w r 698 P := by
  refine xe_iload_n dX11_end_0 rfl ?_
  have K5 : (i1 < 0 ∨ ¬ (i1 ≤ (u 10 1))) → xEv g d mX11_end 18 [some (.ref 8), some (.int i1)] [] 698 u w r 698 P := fun c6 => by
    have k := k.1 c6
    refine xe_iconst (v := -1) dX11_end_18 rfl ?_
    exact xe_ireturn dX11_end_19 rfl k
  refine xe_if_lt (tgt := 18) dX11_end_1 rfl (fun c1 => ?_) (fun c2 => ?_)
  · exact K5 (Or.inl c1)
  · refine xe_iload_n dX11_end_4 rfl ?_
    refine xe_aload_n dX11_end_5 rfl ?_
    refine xe_getR (b := 9) dX11_end_6 flX11_10 kk8 (xKK_lt kk8) rfl (rf8_0 hr) ?_
    refine xe_getR (b := 10) dX11_end_9 flX11_80 kk9 (xKK_lt kk9) rfl (rf9_0 hr) ?_
    refine xe_getI dX11_end_12 flX11_84 kk10 (xKK_lt kk10) rfl ?_
    refine xe_icmp_le (tgt := 20) dX11_end_15 rfl (fun c3 => ?_) (fun c4 => ?_)
    · have k := k.2 (fun q => (q.elim (fun z => (c2 z)) (fun z => (z c3))))
      refine xe_aload_n dX11_end_20 rfl ?_
      refine xe_getR (b := 9) dX11_end_21 flX11_10 kk8 (xKK_lt kk8) rfl (rf8_0 hr) ?_
      refine xe_getR (b := 10) dX11_end_24 flX11_80 kk9 (xKK_lt kk9) rfl (rf9_0 hr) ?_
      refine xe_iload_n dX11_end_27 rfl ?_
      refine xe_putI dX11_end_28 flX11_84 kk10 (xKK_lt kk10) nf10_1 rfl ?_
      refine xe_iload_n dX11_end_31 rfl ?_
      exact xe_ireturn dX11_end_32 rfl k
    · exact K5 (Or.inr c4)

theorem CX11_end {g : xGT} {d : Nat} {i1 : Int32} {u : xU} {w : xW} {r : xQ} {P : xPost} (hr : xRf r)
    (k : ((i1 < 0 ∨ ¬ (i1 ≤ (u 10 1))) → P (some (.int (-1 : Int32))) u w r) ∧ (¬ (i1 < 0 ∨ ¬ (i1 ≤ (u 10 1))) → P (some (.int i1)) (x2 u 10 1 i1) w r)) :
    xCall g d mX11_end [.ref 8, .int i1] 698 u w r 698 P :=
  xCall.of plX11 (Nat.le_of_ble_eq_true rfl) rfl (TX11_end_0 hr k)

/-! FuneralPost.fault -/

theorem TX11_fault_0 {g : xGT} {d : Nat} {i1 : Int32} {u : xU} {w : xW} {r : xQ} {P : xPost} (hr : xRf r)
    (k : (i1 = 0 → P (some (.int (u 9 8))) u w r) ∧ (¬ (i1 = 0) → P (some (.int (if i1 = (1 : Int32) then (u 9 9) else (-1 : Int32)))) u w r)) :
    xEv g d mX11_fault 0 [some (.ref 8), some (.int i1)] [] 698 u w r 698 P := by
  refine xe_iload_n dX11_fault_0 rfl ?_
  refine xe_if_ne (tgt := 12) dX11_fault_1 rfl (fun c1 => ?_) (fun c2 => ?_)
  · have k := k.2 (fun q => (c1 q))
    refine xe_iload_n dX11_fault_12 rfl ?_
    refine xe_iconst (v := 1) dX11_fault_13 rfl ?_
    have K5 : xEv g d mX11_fault 28 [some (.ref 8), some (.int i1)] [.int (if i1 = (1 : Int32) then (u 9 9) else (-1 : Int32))] 698 u w r 698 P := by
      exact xe_ireturn dX11_fault_28 rfl k
    refine xe_icmp_ne (tgt := 27) dX11_fault_14 rfl (fun c3 => ?_) (fun c4 => ?_)
    · refine xe_iconst (v := -1) dX11_fault_27 rfl ?_
      exact xtop (if_neg (fun q => (c3 q))) K5
    · refine xe_aload_n dX11_fault_17 rfl ?_
      refine xe_getR (b := 9) dX11_fault_18 flX11_10 kk8 (xKK_lt kk8) rfl (rf8_0 hr) ?_
      refine xe_getI dX11_fault_21 flX11_104 kk9 (xKK_lt kk9) rfl ?_
      refine xe_goto (tgt := 28) dX11_fault_24 rfl ?_
      exact xtop (if_pos c4) K5
  · have k := k.1 c2
    refine xe_aload_n dX11_fault_4 rfl ?_
    refine xe_getR (b := 9) dX11_fault_5 flX11_10 kk8 (xKK_lt kk8) rfl (rf8_0 hr) ?_
    refine xe_getI dX11_fault_8 flX11_101 kk9 (xKK_lt kk9) rfl ?_
    exact xe_ireturn dX11_fault_11 rfl k

theorem CX11_fault {g : xGT} {d : Nat} {i1 : Int32} {u : xU} {w : xW} {r : xQ} {P : xPost} (hr : xRf r)
    (k : (i1 = 0 → P (some (.int (u 9 8))) u w r) ∧ (¬ (i1 = 0) → P (some (.int (if i1 = (1 : Int32) then (u 9 9) else (-1 : Int32)))) u w r)) :
    xCall g d mX11_fault [.ref 8, .int i1] 698 u w r 698 P :=
  xCall.of plX11 (Nat.le_of_ble_eq_true rfl) rfl (TX11_fault_0 hr k)

/-! FuneralPost.bier -/

set_option maxRecDepth 20000 in
theorem TX11_bier_0 {g : xGT} {d : Nat} {i1 i2 : Int32} {l : Nat} {u : xU} {w : xW} {r : xQ} {P : xPost} (hr : xRf r) (h_l : xLd l) (q_l : xLr l r) (hm_told : r 8 10 = some l)
    (k : xCall g d mX11_isOneOf [.int i1, .int (u l 5)] 698 u w r 698 (fun rv1 u1 w1 r1 => ∃ v1 : Int32, rv1 = some (.int v1) ∧ u = u1 ∧ w = w1 ∧ r = r1 ∧ (v1 = 0 → P (some (.int (-2 : Int32))) u w r) ∧ (¬ (v1 = 0) → vp_in i1 6 ∧ ((i2 = 0 → P (some (.int (u (105 + 1) i1.toNatClampNeg))) u w r) ∧ (i2 = 1 → P (some (.int (u (105 + 2) i1.toNatClampNeg))) u w r) ∧ (i2 = 2 → P (some (.int (if (¬ ((xb ((u (105 + 1) i1.toNatClampNeg) = (1 : Int32))) = 0) ∨ (u (105 + 1) i1.toNatClampNeg) = (2 : Int32)) then (u (105 + 3) i1.toNatClampNeg) else (-1 : Int32)))) u w r) ∧ (i2 = 3 → P (some (.int (u (105 + 4) i1.toNatClampNeg))) u w r) ∧ (i2 = 4 → P (some (.int (u (l + 5) i1.toNatClampNeg))) u w r) ∧ (i2 = 5 → ((xb ((u (105 + 1) i1.toNatClampNeg) = (1 : Int32))) = 0 → P (some (.int (0 : Int32))) u w r) ∧ (¬ ((xb ((u (105 + 1) i1.toNatClampNeg) = (1 : Int32))) = 0) → xCall g d mX0_restOf [.ref 52, .ref 105, .int i1] 698 u w r 698 (fun rv14 u14 w14 r14 => ∃ v14 : Int32, rv14 = some (.int v14) ∧ u = u14 ∧ w = w14 ∧ r = r14 ∧ P (some (.int v14)) u w r))) ∧ (¬ i2 = 0 → ¬ i2 = 1 → ¬ i2 = 2 → ¬ i2 = 3 → ¬ i2 = 4 → ¬ i2 = 5 → P (some (.int (-2 : Int32))) u w r))))) :
    xEv g (d + 1) mX11_bier 0 [some (.ref 8), some (.int i1), some (.int i2), none, none] [] 698 u w r 698 P := by
  refine xe_iload_n dX11_bier_0 rfl ?_
  refine xe_aload_n dX11_bier_1 rfl ?_
  refine xe_getR (b := l) dX11_bier_2 flX11_19 kk8 (xKK_lt kk8) rfl hm_told ?_
  refine xe_getI dX11_bier_5 flX11_107 h_l.k0 (xKK_lt h_l.k0) rfl ?_
  refine xe_callS (args := [.int i1, .int (u l 5)]) dX11_bier_8 slX11_110 rfl rfl (Nat.le_of_ble_eq_true rfl) k (Nat.le_refl _) (fun rv1 u1 w1 r1 k => ?_)
  obtain ⟨v1, rfl, rfl, rfl, rfl, k⟩ := k
  refine xe_if_ne (tgt := 17) dX11_bier_11 rfl (fun c2 => ?_) (fun c3 => ?_)
  · have k := k.2 (fun q => (c2 q))
    refine xe_aload_n dX11_bier_17 rfl ?_
    refine xe_getR (b := 105) dX11_bier_18 flX11_47 kk8 (xKK_lt kk8) rfl (rf8_3 hr) ?_
    refine xe_getR (b := (105 + 1)) dX11_bier_21 flX11_114 st105.k0 (xKK_lt st105.k0) rfl (sr105 hr).f3 ?_
    refine xe_iload_n dX11_bier_24 rfl ?_
    obtain ⟨b4, k⟩ := k
    refine xe_iald dX11_bier_25 st105.k1 (xKK_lt st105.k1) b4 ?_
    refine xe_istore_n (ls' := [some (.ref 8), some (.int i1), some (.int i2), some (.int (u (105 + 1) i1.toNatClampNeg)), none]) dX11_bier_26 rfl (by decide) rfl ?_
    refine xe_iload_n dX11_bier_27 rfl ?_
    refine xe_iconst (v := 1) dX11_bier_28 rfl ?_
    have K22 : xEv g (d + 1) mX11_bier 37 [some (.ref 8), some (.int i1), some (.int i2), some (.int (u (105 + 1) i1.toNatClampNeg)), none] [.int (xb ((u (105 + 1) i1.toNatClampNeg) = (1 : Int32)))] 698 u w r 698 P := by
      refine xe_istore (ls' := [some (.ref 8), some (.int i1), some (.int i2), some (.int (u (105 + 1) i1.toNatClampNeg)), some (.int (xb ((u (105 + 1) i1.toNatClampNeg) = (1 : Int32))))]) dX11_bier_37 (by decide) rfl ?_
      refine xe_iload_n dX11_bier_39 rfl ?_
      by_cases c15 : i2 = 0
      · have k := k.1 c15
        refine xe_tableIn (tgt := 80) dX11_bier_40 (by rw [c15]; decide) (by rw [c15]; decide) (by rw [c15]; rfl) rfl ?_
        refine xe_iload_n dX11_bier_80 rfl ?_
        exact xe_ireturn dX11_bier_81 rfl k
      by_cases c16 : i2 = 1
      · have k := k.2.1 c16
        refine xe_tableIn (tgt := 82) dX11_bier_40 (by rw [c16]; decide) (by rw [c16]; decide) (by rw [c16]; rfl) rfl ?_
        refine xe_aload_n dX11_bier_82 rfl ?_
        refine xe_getR (b := 105) dX11_bier_83 flX11_47 kk8 (xKK_lt kk8) rfl (rf8_3 hr) ?_
        refine xe_getR (b := (105 + 2)) dX11_bier_86 flX11_117 st105.k0 (xKK_lt st105.k0) rfl (sr105 hr).f4 ?_
        refine xe_iload_n dX11_bier_89 rfl ?_
        refine xe_iald dX11_bier_90 st105.k2 (xKK_lt st105.k2) b4 ?_
        exact xe_ireturn dX11_bier_91 rfl k
      by_cases c17 : i2 = 2
      · have k := k.2.2.1 c17
        refine xe_tableIn (tgt := 92) dX11_bier_40 (by rw [c17]; decide) (by rw [c17]; decide) (by rw [c17]; rfl) rfl ?_
        refine xe_iload dX11_bier_92 rfl ?_
        have K11 : xEv g (d + 1) mX11_bier 115 [some (.ref 8), some (.int i1), some (.int i2), some (.int (u (105 + 1) i1.toNatClampNeg)), some (.int (xb ((u (105 + 1) i1.toNatClampNeg) = (1 : Int32))))] [.int (if (¬ ((xb ((u (105 + 1) i1.toNatClampNeg) = (1 : Int32))) = 0) ∨ (u (105 + 1) i1.toNatClampNeg) = (2 : Int32)) then (u (105 + 3) i1.toNatClampNeg) else (-1 : Int32))] 698 u w r 698 P := by
          exact xe_ireturn dX11_bier_115 rfl k
        refine xe_if_ne (tgt := 102) dX11_bier_94 rfl (fun c7 => ?_) (fun c8 => ?_)
        · refine xe_aload_n dX11_bier_102 rfl ?_
          refine xe_getR (b := 105) dX11_bier_103 flX11_47 kk8 (xKK_lt kk8) rfl (rf8_3 hr) ?_
          refine xe_getR (b := (105 + 3)) dX11_bier_106 flX11_120 st105.k0 (xKK_lt st105.k0) rfl (sr105 hr).f5 ?_
          refine xe_iload_n dX11_bier_109 rfl ?_
          refine xe_iald dX11_bier_110 st105.k3 (xKK_lt st105.k3) b4 ?_
          refine xe_goto (tgt := 115) dX11_bier_111 rfl ?_
          exact xtop (if_pos (Or.inl c7)) K11
        · refine xe_iload_n dX11_bier_97 rfl ?_
          refine xe_iconst (v := 2) dX11_bier_98 rfl ?_
          refine xe_icmp_ne (tgt := 114) dX11_bier_99 rfl (fun c9 => ?_) (fun c10 => ?_)
          · refine xe_iconst (v := -1) dX11_bier_114 rfl ?_
            exact xtop (if_neg (fun q => (q.elim (fun z => (z c8)) (fun z => (c9 z))))) K11
          · refine xe_aload_n dX11_bier_102 rfl ?_
            refine xe_getR (b := 105) dX11_bier_103 flX11_47 kk8 (xKK_lt kk8) rfl (rf8_3 hr) ?_
            refine xe_getR (b := (105 + 3)) dX11_bier_106 flX11_120 st105.k0 (xKK_lt st105.k0) rfl (sr105 hr).f5 ?_
            refine xe_iload_n dX11_bier_109 rfl ?_
            refine xe_iald dX11_bier_110 st105.k3 (xKK_lt st105.k3) b4 ?_
            refine xe_goto (tgt := 115) dX11_bier_111 rfl ?_
            exact xtop (if_pos (Or.inr c10)) K11
      by_cases c18 : i2 = 3
      · have k := k.2.2.2.1 c18
        refine xe_tableIn (tgt := 116) dX11_bier_40 (by rw [c18]; decide) (by rw [c18]; decide) (by rw [c18]; rfl) rfl ?_
        refine xe_aload_n dX11_bier_116 rfl ?_
        refine xe_getR (b := 105) dX11_bier_117 flX11_47 kk8 (xKK_lt kk8) rfl (rf8_3 hr) ?_
        refine xe_getR (b := (105 + 4)) dX11_bier_120 flX11_123 st105.k0 (xKK_lt st105.k0) rfl (sr105 hr).f6 ?_
        refine xe_iload_n dX11_bier_123 rfl ?_
        refine xe_iald dX11_bier_124 st105.k4 (xKK_lt st105.k4) b4 ?_
        exact xe_ireturn dX11_bier_125 rfl k
      by_cases c19 : i2 = 4
      · have k := k.2.2.2.2.1 c19
        refine xe_tableIn (tgt := 126) dX11_bier_40 (by rw [c19]; decide) (by rw [c19]; decide) (by rw [c19]; rfl) rfl ?_
        refine xe_aload_n dX11_bier_126 rfl ?_
        refine xe_getR (b := l) dX11_bier_127 flX11_19 kk8 (xKK_lt kk8) rfl hm_told ?_
        refine xe_getR (b := (l + 5)) dX11_bier_130 flX11_126 h_l.k0 (xKK_lt h_l.k0) rfl q_l.1.f7 ?_
        refine xe_iload_n dX11_bier_133 rfl ?_
        refine xe_iald dX11_bier_134 h_l.k5 (xKK_lt h_l.k5) b4 ?_
        exact xe_ireturn dX11_bier_135 rfl k
      by_cases c20 : i2 = 5
      · have k := k.2.2.2.2.2.1 c20
        refine xe_tableIn (tgt := 136) dX11_bier_40 (by rw [c20]; decide) (by rw [c20]; decide) (by rw [c20]; rfl) rfl ?_
        refine xe_iload dX11_bier_136 rfl ?_
        refine xe_if_eq (tgt := 156) dX11_bier_138 rfl (fun c12 => ?_) (fun c13 => ?_)
        · have k := k.1 c12
          refine xe_iconst (v := 0) dX11_bier_156 rfl ?_
          exact xe_ireturn dX11_bier_157 rfl k
        · have k := k.2 (fun q => (c13 q))
          refine xe_aload_n dX11_bier_141 rfl ?_
          refine xe_getR (b := 52) dX11_bier_142 flX11_31 kk8 (xKK_lt kk8) rfl (rf8_1 hr) ?_
          refine xe_aload_n dX11_bier_145 rfl ?_
          refine xe_getR (b := 105) dX11_bier_146 flX11_47 kk8 (xKK_lt kk8) rfl (rf8_3 hr) ?_
          refine xe_iload_n dX11_bier_149 rfl ?_
          refine xe_callV (args := [.ref 105, .int i1]) dX11_bier_150 vlX11_129 rfl rfl (Nat.le_of_ble_eq_true rfl) kk52 (xKK_lt kk52) rfl rfl k (Nat.le_refl _) (fun rv14 u14 w14 r14 k => ?_)
          obtain ⟨v14, rfl, rfl, rfl, rfl, k⟩ := k
          refine xe_goto (tgt := 157) dX11_bier_153 rfl ?_
          exact xe_ireturn dX11_bier_157 rfl k
      have k := k.2.2.2.2.2.2 c15 c16 c17 c18 c19 c20
      have K21 : xEv g (d + 1) mX11_bier 158 [some (.ref 8), some (.int i1), some (.int i2), some (.int (u (105 + 1) i1.toNatClampNeg)), some (.int (xb ((u (105 + 1) i1.toNatClampNeg) = (1 : Int32))))] [] 698 u w r 698 P := by
        refine xe_bipush (v := -2) dX11_bier_158 rfl ?_
        exact xe_ireturn dX11_bier_160 rfl k
      by_cases hlo : i2.toInt < 0 ∨ 5 < i2.toInt
      · exact xe_tableOut (tgt := 158) dX11_bier_40 hlo rfl K21
      · exact absurd (xsw_0_5_6 c15 c16 c17 c18 c19 c20 hlo) (fun h => h)
    refine xe_icmp_ne (tgt := 36) dX11_bier_29 rfl (fun c5 => ?_) (fun c6 => ?_)
    · refine xe_iconst (v := 0) dX11_bier_36 rfl ?_
      exact xtop (xb_neg (show ¬ ((u (105 + 1) i1.toNatClampNeg) = (1 : Int32)) from (fun q => (c5 q)))) K22
    · refine xe_iconst (v := 1) dX11_bier_32 rfl ?_
      refine xe_goto (tgt := 37) dX11_bier_33 rfl ?_
      exact xtop (xb_pos (show (u (105 + 1) i1.toNatClampNeg) = (1 : Int32) from c6)) K22
  · have k := k.1 c3
    refine xe_bipush (v := -2) dX11_bier_14 rfl ?_
    exact xe_ireturn dX11_bier_16 rfl k

theorem CX11_bier {g : xGT} {d : Nat} {i1 i2 : Int32} {l : Nat} {u : xU} {w : xW} {r : xQ} {P : xPost} (hr : xRf r) (h_l : xLd l) (q_l : xLr l r) (hm_told : r 8 10 = some l)
    (k : xCall g d mX11_isOneOf [.int i1, .int (u l 5)] 698 u w r 698 (fun rv1 u1 w1 r1 => ∃ v1 : Int32, rv1 = some (.int v1) ∧ u = u1 ∧ w = w1 ∧ r = r1 ∧ (v1 = 0 → P (some (.int (-2 : Int32))) u w r) ∧ (¬ (v1 = 0) → vp_in i1 6 ∧ ((i2 = 0 → P (some (.int (u (105 + 1) i1.toNatClampNeg))) u w r) ∧ (i2 = 1 → P (some (.int (u (105 + 2) i1.toNatClampNeg))) u w r) ∧ (i2 = 2 → P (some (.int (if (¬ ((xb ((u (105 + 1) i1.toNatClampNeg) = (1 : Int32))) = 0) ∨ (u (105 + 1) i1.toNatClampNeg) = (2 : Int32)) then (u (105 + 3) i1.toNatClampNeg) else (-1 : Int32)))) u w r) ∧ (i2 = 3 → P (some (.int (u (105 + 4) i1.toNatClampNeg))) u w r) ∧ (i2 = 4 → P (some (.int (u (l + 5) i1.toNatClampNeg))) u w r) ∧ (i2 = 5 → ((xb ((u (105 + 1) i1.toNatClampNeg) = (1 : Int32))) = 0 → P (some (.int (0 : Int32))) u w r) ∧ (¬ ((xb ((u (105 + 1) i1.toNatClampNeg) = (1 : Int32))) = 0) → xCall g d mX0_restOf [.ref 52, .ref 105, .int i1] 698 u w r 698 (fun rv14 u14 w14 r14 => ∃ v14 : Int32, rv14 = some (.int v14) ∧ u = u14 ∧ w = w14 ∧ r = r14 ∧ P (some (.int v14)) u w r))) ∧ (¬ i2 = 0 → ¬ i2 = 1 → ¬ i2 = 2 → ¬ i2 = 3 → ¬ i2 = 4 → ¬ i2 = 5 → P (some (.int (-2 : Int32))) u w r))))) :
    xCall g (d + 1) mX11_bier [.ref 8, .int i1, .int i2] 698 u w r 698 P :=
  xCall.of plX11 (Nat.le_of_ble_eq_true rfl) rfl (TX11_bier_0 hr h_l q_l hm_told k)

/-! FuneralPost.letter -/

set_option maxRecDepth 20000 in
theorem TX11_letter_0 {g : xGT} {d : Nat} {i1 i2 : Int32} {u : xU} {w : xW} {r : xQ} {P : xPost} (hr : xRf r)
    (k : xCall g d mX11_isOneOf [.int i1, .int (u 105 2)] 698 u w r 698 (fun rv1 u1 w1 r1 => ∃ v1 : Int32, rv1 = some (.int v1) ∧ u = u1 ∧ w = w1 ∧ r = r1 ∧ (v1 = 0 → P (some (.int (-2 : Int32))) u w r) ∧ (¬ (v1 = 0) → (i2 = 0 → vp_in i1 10 ∧ (P (some (.int (u (105 + 5) i1.toNatClampNeg))) u w r)) ∧ (i2 = 1 → vp_in i1 10 ∧ (P (some (.int (u (105 + 6) i1.toNatClampNeg))) u w r)) ∧ (i2 = 2 → vp_in i1 10 ∧ (P (some (.int (u (105 + 7) i1.toNatClampNeg))) u w r)) ∧ (i2 = 3 → vp_in i1 10 ∧ (P (some (.int (u (105 + 8) i1.toNatClampNeg))) u w r)) ∧ (i2 = 4 → vp_in i1 10 ∧ (P (some (.int (u (105 + 9) i1.toNatClampNeg))) u w r)) ∧ (i2 = 5 → vp_in i1 10 ∧ (P (some (.int (u (105 + 10) i1.toNatClampNeg))) u w r)) ∧ (i2 = 6 → vp_in i1 10 ∧ (P (some (.int (u (105 + 11) i1.toNatClampNeg))) u w r)) ∧ (¬ i2 = 0 → ¬ i2 = 1 → ¬ i2 = 2 → ¬ i2 = 3 → ¬ i2 = 4 → ¬ i2 = 5 → ¬ i2 = 6 → P (some (.int (-2 : Int32))) u w r)))) :
    xEv g (d + 1) mX11_letter 0 [some (.ref 8), some (.int i1), some (.int i2)] [] 698 u w r 698 P := by
  refine xe_iload_n dX11_letter_0 rfl ?_
  refine xe_aload_n dX11_letter_1 rfl ?_
  refine xe_getR (b := 105) dX11_letter_2 flX11_47 kk8 (xKK_lt kk8) rfl (rf8_3 hr) ?_
  refine xe_getI dX11_letter_5 flX11_133 st105.k0 (xKK_lt st105.k0) rfl ?_
  refine xe_callS (args := [.int i1, .int (u 105 2)]) dX11_letter_8 slX11_110 rfl rfl (Nat.le_of_ble_eq_true rfl) k (Nat.le_refl _) (fun rv1 u1 w1 r1 k => ?_)
  obtain ⟨v1, rfl, rfl, rfl, rfl, k⟩ := k
  refine xe_if_ne (tgt := 17) dX11_letter_11 rfl (fun c2 => ?_) (fun c3 => ?_)
  · have k := k.2 (fun q => (c2 q))
    refine xe_iload_n dX11_letter_17 rfl ?_
    by_cases c11 : i2 = 0
    · have k := k.1 c11
      refine xe_tableIn (tgt := 60) dX11_letter_18 (by rw [c11]; decide) (by rw [c11]; decide) (by rw [c11]; rfl) rfl ?_
      refine xe_aload_n dX11_letter_60 rfl ?_
      refine xe_getR (b := 105) dX11_letter_61 flX11_47 kk8 (xKK_lt kk8) rfl (rf8_3 hr) ?_
      refine xe_getR (b := (105 + 5)) dX11_letter_64 flX11_134 st105.k0 (xKK_lt st105.k0) rfl (sr105 hr).f7 ?_
      refine xe_iload_n dX11_letter_67 rfl ?_
      obtain ⟨b4, k⟩ := k
      refine xe_iald dX11_letter_68 st105.k5 (xKK_lt st105.k5) b4 ?_
      exact xe_ireturn dX11_letter_69 rfl k
    by_cases c12 : i2 = 1
    · have k := k.2.1 c12
      refine xe_tableIn (tgt := 70) dX11_letter_18 (by rw [c12]; decide) (by rw [c12]; decide) (by rw [c12]; rfl) rfl ?_
      refine xe_aload_n dX11_letter_70 rfl ?_
      refine xe_getR (b := 105) dX11_letter_71 flX11_47 kk8 (xKK_lt kk8) rfl (rf8_3 hr) ?_
      refine xe_getR (b := (105 + 6)) dX11_letter_74 flX11_137 st105.k0 (xKK_lt st105.k0) rfl (sr105 hr).f8 ?_
      refine xe_iload_n dX11_letter_77 rfl ?_
      obtain ⟨b5, k⟩ := k
      refine xe_iald dX11_letter_78 st105.k6 (xKK_lt st105.k6) b5 ?_
      exact xe_ireturn dX11_letter_79 rfl k
    by_cases c13 : i2 = 2
    · have k := k.2.2.1 c13
      refine xe_tableIn (tgt := 80) dX11_letter_18 (by rw [c13]; decide) (by rw [c13]; decide) (by rw [c13]; rfl) rfl ?_
      refine xe_aload_n dX11_letter_80 rfl ?_
      refine xe_getR (b := 105) dX11_letter_81 flX11_47 kk8 (xKK_lt kk8) rfl (rf8_3 hr) ?_
      refine xe_getR (b := (105 + 7)) dX11_letter_84 flX11_140 st105.k0 (xKK_lt st105.k0) rfl (sr105 hr).f9 ?_
      refine xe_iload_n dX11_letter_87 rfl ?_
      obtain ⟨b6, k⟩ := k
      refine xe_iald dX11_letter_88 st105.k7 (xKK_lt st105.k7) b6 ?_
      exact xe_ireturn dX11_letter_89 rfl k
    by_cases c14 : i2 = 3
    · have k := k.2.2.2.1 c14
      refine xe_tableIn (tgt := 90) dX11_letter_18 (by rw [c14]; decide) (by rw [c14]; decide) (by rw [c14]; rfl) rfl ?_
      refine xe_aload_n dX11_letter_90 rfl ?_
      refine xe_getR (b := 105) dX11_letter_91 flX11_47 kk8 (xKK_lt kk8) rfl (rf8_3 hr) ?_
      refine xe_getR (b := (105 + 8)) dX11_letter_94 flX11_143 st105.k0 (xKK_lt st105.k0) rfl (sr105 hr).f10 ?_
      refine xe_iload_n dX11_letter_97 rfl ?_
      obtain ⟨b7, k⟩ := k
      refine xe_iald dX11_letter_98 st105.k8 (xKK_lt st105.k8) b7 ?_
      exact xe_ireturn dX11_letter_99 rfl k
    by_cases c15 : i2 = 4
    · have k := k.2.2.2.2.1 c15
      refine xe_tableIn (tgt := 100) dX11_letter_18 (by rw [c15]; decide) (by rw [c15]; decide) (by rw [c15]; rfl) rfl ?_
      refine xe_aload_n dX11_letter_100 rfl ?_
      refine xe_getR (b := 105) dX11_letter_101 flX11_47 kk8 (xKK_lt kk8) rfl (rf8_3 hr) ?_
      refine xe_getR (b := (105 + 9)) dX11_letter_104 flX11_146 st105.k0 (xKK_lt st105.k0) rfl (sr105 hr).f11 ?_
      refine xe_iload_n dX11_letter_107 rfl ?_
      obtain ⟨b8, k⟩ := k
      refine xe_iald dX11_letter_108 st105.k9 (xKK_lt st105.k9) b8 ?_
      exact xe_ireturn dX11_letter_109 rfl k
    by_cases c16 : i2 = 5
    · have k := k.2.2.2.2.2.1 c16
      refine xe_tableIn (tgt := 110) dX11_letter_18 (by rw [c16]; decide) (by rw [c16]; decide) (by rw [c16]; rfl) rfl ?_
      refine xe_aload_n dX11_letter_110 rfl ?_
      refine xe_getR (b := 105) dX11_letter_111 flX11_47 kk8 (xKK_lt kk8) rfl (rf8_3 hr) ?_
      refine xe_getR (b := (105 + 10)) dX11_letter_114 flX11_149 st105.k0 (xKK_lt st105.k0) rfl (sr105 hr).f12 ?_
      refine xe_iload_n dX11_letter_117 rfl ?_
      obtain ⟨b9, k⟩ := k
      refine xe_iald dX11_letter_118 st105.k10 (xKK_lt st105.k10) b9 ?_
      exact xe_ireturn dX11_letter_119 rfl k
    by_cases c17 : i2 = 6
    · have k := k.2.2.2.2.2.2.1 c17
      refine xe_tableIn (tgt := 120) dX11_letter_18 (by rw [c17]; decide) (by rw [c17]; decide) (by rw [c17]; rfl) rfl ?_
      refine xe_aload_n dX11_letter_120 rfl ?_
      refine xe_getR (b := 105) dX11_letter_121 flX11_47 kk8 (xKK_lt kk8) rfl (rf8_3 hr) ?_
      refine xe_getR (b := (105 + 11)) dX11_letter_124 flX11_152 st105.k0 (xKK_lt st105.k0) rfl (sr105 hr).f13 ?_
      refine xe_iload_n dX11_letter_127 rfl ?_
      obtain ⟨b10, k⟩ := k
      refine xe_iald dX11_letter_128 st105.k11 (xKK_lt st105.k11) b10 ?_
      exact xe_ireturn dX11_letter_129 rfl k
    have k := k.2.2.2.2.2.2.2 c11 c12 c13 c14 c15 c16 c17
    have K18 : xEv g (d + 1) mX11_letter 130 [some (.ref 8), some (.int i1), some (.int i2)] [] 698 u w r 698 P := by
      refine xe_bipush (v := -2) dX11_letter_130 rfl ?_
      exact xe_ireturn dX11_letter_132 rfl k
    by_cases hlo : i2.toInt < 0 ∨ 6 < i2.toInt
    · exact xe_tableOut (tgt := 130) dX11_letter_18 hlo rfl K18
    · exact absurd (xsw_0_6_7 c11 c12 c13 c14 c15 c16 c17 hlo) (fun h => h)
  · have k := k.1 c3
    refine xe_bipush (v := -2) dX11_letter_14 rfl ?_
    exact xe_ireturn dX11_letter_16 rfl k

theorem CX11_letter {g : xGT} {d : Nat} {i1 i2 : Int32} {u : xU} {w : xW} {r : xQ} {P : xPost} (hr : xRf r)
    (k : xCall g d mX11_isOneOf [.int i1, .int (u 105 2)] 698 u w r 698 (fun rv1 u1 w1 r1 => ∃ v1 : Int32, rv1 = some (.int v1) ∧ u = u1 ∧ w = w1 ∧ r = r1 ∧ (v1 = 0 → P (some (.int (-2 : Int32))) u w r) ∧ (¬ (v1 = 0) → (i2 = 0 → vp_in i1 10 ∧ (P (some (.int (u (105 + 5) i1.toNatClampNeg))) u w r)) ∧ (i2 = 1 → vp_in i1 10 ∧ (P (some (.int (u (105 + 6) i1.toNatClampNeg))) u w r)) ∧ (i2 = 2 → vp_in i1 10 ∧ (P (some (.int (u (105 + 7) i1.toNatClampNeg))) u w r)) ∧ (i2 = 3 → vp_in i1 10 ∧ (P (some (.int (u (105 + 8) i1.toNatClampNeg))) u w r)) ∧ (i2 = 4 → vp_in i1 10 ∧ (P (some (.int (u (105 + 9) i1.toNatClampNeg))) u w r)) ∧ (i2 = 5 → vp_in i1 10 ∧ (P (some (.int (u (105 + 10) i1.toNatClampNeg))) u w r)) ∧ (i2 = 6 → vp_in i1 10 ∧ (P (some (.int (u (105 + 11) i1.toNatClampNeg))) u w r)) ∧ (¬ i2 = 0 → ¬ i2 = 1 → ¬ i2 = 2 → ¬ i2 = 3 → ¬ i2 = 4 → ¬ i2 = 5 → ¬ i2 = 6 → P (some (.int (-2 : Int32))) u w r)))) :
    xCall g (d + 1) mX11_letter [.ref 8, .int i1, .int i2] 698 u w r 698 P :=
  xCall.of plX11 (Nat.le_of_ble_eq_true rfl) rfl (TX11_letter_0 hr k)

/-! FuneralPost.village -/

theorem TX11_village_0 {g : xGT} {d : Nat} {i1 i2 : Int32} {l : Nat} {u : xU} {w : xW} {r : xQ} {P : xPost} (hr : xRf r) (h_l : xLd l) (hm_told : r 8 10 = some l)
    (k : xCall g d mX11_isOneOf [.int i1, .int (u l 0)] 698 u w r 698 (fun rv1 u1 w1 r1 => ∃ v1 : Int32, rv1 = some (.int v1) ∧ u = u1 ∧ w = w1 ∧ r = r1 ∧ (v1 = 0 → P (some (.int (-1 : Int32))) u w r) ∧ (¬ (v1 = 0) → (i2 = 0 → xCall g d mX9_pileAt [.ref 105, .int i1] 698 u w r 698 (fun rv4 u4 w4 r4 => ∃ v4 : Int32, rv4 = some (.int v4) ∧ u = u4 ∧ w = w4 ∧ r = r4 ∧ P (some (.int v4)) u w r)) ∧ (i2 = 1 → xCall g d mX9_standingAt [.ref 105, .int i1] 698 u w r 698 (fun rv5 u5 w5 r5 => ∃ v5 : Int32, rv5 = some (.int v5) ∧ u = u5 ∧ w = w5 ∧ r = r5 ∧ P (some (.int v5)) u w r)) ∧ (i2 = 2 → vp_in i1 7 ∧ (P (some (.int (u 78 i1.toNatClampNeg))) u w r)) ∧ (¬ i2 = 0 → ¬ i2 = 1 → ¬ i2 = 2 → P (some (.int (-1 : Int32))) u w r)))) :
    xEv g (d + 1) mX11_village 0 [some (.ref 8), some (.int i1), some (.int i2)] [] 698 u w r 698 P := by
  refine xe_iload_n dX11_village_0 rfl ?_
  refine xe_aload_n dX11_village_1 rfl ?_
  refine xe_getR (b := l) dX11_village_2 flX11_19 kk8 (xKK_lt kk8) rfl hm_told ?_
  refine xe_getI dX11_village_5 flX11_155 h_l.k0 (xKK_lt h_l.k0) rfl ?_
  refine xe_callS (args := [.int i1, .int (u l 0)]) dX11_village_8 slX11_110 rfl rfl (Nat.le_of_ble_eq_true rfl) k (Nat.le_refl _) (fun rv1 u1 w1 r1 k => ?_)
  obtain ⟨v1, rfl, rfl, rfl, rfl, k⟩ := k
  refine xe_if_ne (tgt := 16) dX11_village_11 rfl (fun c2 => ?_) (fun c3 => ?_)
  · have k := k.2 (fun q => (c2 q))
    refine xe_iload_n dX11_village_16 rfl ?_
    by_cases c7 : i2 = 0
    · have k := k.1 c7
      refine xe_tableIn (tgt := 44) dX11_village_17 (by rw [c7]; decide) (by rw [c7]; decide) (by rw [c7]; rfl) rfl ?_
      refine xe_aload_n dX11_village_44 rfl ?_
      refine xe_getR (b := 105) dX11_village_45 flX11_47 kk8 (xKK_lt kk8) rfl (rf8_3 hr) ?_
      refine xe_iload_n dX11_village_48 rfl ?_
      refine xe_callV (args := [.int i1]) dX11_village_49 vlX11_158 rfl rfl (Nat.le_of_ble_eq_true rfl) st105.k0 (xKK_lt st105.k0) rfl rfl k (Nat.le_refl _) (fun rv4 u4 w4 r4 k => ?_)
      obtain ⟨v4, rfl, rfl, rfl, rfl, k⟩ := k
      exact xe_ireturn dX11_village_52 rfl k
    by_cases c8 : i2 = 1
    · have k := k.2.1 c8
      refine xe_tableIn (tgt := 53) dX11_village_17 (by rw [c8]; decide) (by rw [c8]; decide) (by rw [c8]; rfl) rfl ?_
      refine xe_aload_n dX11_village_53 rfl ?_
      refine xe_getR (b := 105) dX11_village_54 flX11_47 kk8 (xKK_lt kk8) rfl (rf8_3 hr) ?_
      refine xe_iload_n dX11_village_57 rfl ?_
      refine xe_callV (args := [.int i1]) dX11_village_58 vlX11_162 rfl rfl (Nat.le_of_ble_eq_true rfl) st105.k0 (xKK_lt st105.k0) rfl rfl k (Nat.le_refl _) (fun rv5 u5 w5 r5 k => ?_)
      obtain ⟨v5, rfl, rfl, rfl, rfl, k⟩ := k
      exact xe_ireturn dX11_village_61 rfl k
    by_cases c9 : i2 = 2
    · have k := k.2.2.1 c9
      refine xe_tableIn (tgt := 62) dX11_village_17 (by rw [c9]; decide) (by rw [c9]; decide) (by rw [c9]; rfl) rfl ?_
      refine xe_aload_n dX11_village_62 rfl ?_
      refine xe_getR (b := 52) dX11_village_63 flX11_31 kk8 (xKK_lt kk8) rfl (rf8_1 hr) ?_
      refine xe_getR (b := 53) dX11_village_66 flX11_165 kk52 (xKK_lt kk52) rfl (rf52_0 hr) ?_
      refine xe_getR (b := 78) dX11_village_69 flX11_169 kk53 (xKK_lt kk53) rfl (rf53_3 hr) ?_
      refine xe_iload_n dX11_village_72 rfl ?_
      obtain ⟨b6, k⟩ := k
      refine xe_iald dX11_village_73 kk78 (xKK_lt kk78) b6 ?_
      exact xe_ireturn dX11_village_74 rfl k
    have k := k.2.2.2 c7 c8 c9
    have K10 : xEv g (d + 1) mX11_village 75 [some (.ref 8), some (.int i1), some (.int i2)] [] 698 u w r 698 P := by
      refine xe_iconst (v := -1) dX11_village_75 rfl ?_
      exact xe_ireturn dX11_village_76 rfl k
    by_cases hlo : i2.toInt < 0 ∨ 2 < i2.toInt
    · exact xe_tableOut (tgt := 75) dX11_village_17 hlo rfl K10
    · exact absurd (xsw_0_2_3 c7 c8 c9 hlo) (fun h => h)
  · have k := k.1 c3
    refine xe_iconst (v := -1) dX11_village_14 rfl ?_
    exact xe_ireturn dX11_village_15 rfl k

theorem CX11_village {g : xGT} {d : Nat} {i1 i2 : Int32} {l : Nat} {u : xU} {w : xW} {r : xQ} {P : xPost} (hr : xRf r) (h_l : xLd l) (hm_told : r 8 10 = some l)
    (k : xCall g d mX11_isOneOf [.int i1, .int (u l 0)] 698 u w r 698 (fun rv1 u1 w1 r1 => ∃ v1 : Int32, rv1 = some (.int v1) ∧ u = u1 ∧ w = w1 ∧ r = r1 ∧ (v1 = 0 → P (some (.int (-1 : Int32))) u w r) ∧ (¬ (v1 = 0) → (i2 = 0 → xCall g d mX9_pileAt [.ref 105, .int i1] 698 u w r 698 (fun rv4 u4 w4 r4 => ∃ v4 : Int32, rv4 = some (.int v4) ∧ u = u4 ∧ w = w4 ∧ r = r4 ∧ P (some (.int v4)) u w r)) ∧ (i2 = 1 → xCall g d mX9_standingAt [.ref 105, .int i1] 698 u w r 698 (fun rv5 u5 w5 r5 => ∃ v5 : Int32, rv5 = some (.int v5) ∧ u = u5 ∧ w = w5 ∧ r = r5 ∧ P (some (.int v5)) u w r)) ∧ (i2 = 2 → vp_in i1 7 ∧ (P (some (.int (u 78 i1.toNatClampNeg))) u w r)) ∧ (¬ i2 = 0 → ¬ i2 = 1 → ¬ i2 = 2 → P (some (.int (-1 : Int32))) u w r)))) :
    xCall g (d + 1) mX11_village [.ref 8, .int i1, .int i2] 698 u w r 698 P :=
  xCall.of plX11 (Nat.le_of_ble_eq_true rfl) rfl (TX11_village_0 hr h_l hm_told k)

/-! FuneralPost.far -/

theorem TX11_far_0 {g : xGT} {d : Nat} {i1 i2 : Int32} {l : Nat} {u : xU} {w : xW} {r : xQ} {P : xPost} (hr : xRf r) (h_l : xLd l) (hm_told : r 8 10 = some l)
    (k : xCall g d mX11_isOneOf [.int i1, .int (u l 0)] 698 u w r 698 (fun rv1 u1 w1 r1 => ∃ v1 : Int32, rv1 = some (.int v1) ∧ u = u1 ∧ w = w1 ∧ r = r1 ∧ (v1 = 0 → P (some (.int (-1 : Int32))) u w r) ∧ (¬ (v1 = 0) → xCall g d mX11_isOneOf [.int i2, .int (u l 0)] 698 u w r 698 (fun rv4 u4 w4 r4 => ∃ v4 : Int32, rv4 = some (.int v4) ∧ u = u4 ∧ w = w4 ∧ r = r4 ∧ (v4 = 0 → P (some (.int (-1 : Int32))) u w r) ∧ (¬ (v4 = 0) → xCall g d mX8_distance [.ref 53, .int i1, .int i2] 698 u w r 698 (fun rv7 u7 w7 r7 => ∃ v7 : Int32, rv7 = some (.int v7) ∧ u = u7 ∧ w = w7 ∧ r = r7 ∧ P (some (.int v7)) u w r)))))) :
    xEv g (d + 1) mX11_far 0 [some (.ref 8), some (.int i1), some (.int i2)] [] 698 u w r 698 P := by
  refine xe_iload_n dX11_far_0 rfl ?_
  refine xe_aload_n dX11_far_1 rfl ?_
  refine xe_getR (b := l) dX11_far_2 flX11_19 kk8 (xKK_lt kk8) rfl hm_told ?_
  refine xe_getI dX11_far_5 flX11_155 h_l.k0 (xKK_lt h_l.k0) rfl ?_
  refine xe_callS (args := [.int i1, .int (u l 0)]) dX11_far_8 slX11_110 rfl rfl (Nat.le_of_ble_eq_true rfl) k (Nat.le_refl _) (fun rv1 u1 w1 r1 k => ?_)
  obtain ⟨v1, rfl, rfl, rfl, rfl, k⟩ := k
  refine xe_if_eq (tgt := 28) dX11_far_11 rfl (fun c2 => ?_) (fun c3 => ?_)
  · have k := k.1 c2
    refine xe_iconst (v := -1) dX11_far_28 rfl ?_
    exact xe_ireturn dX11_far_29 rfl k
  · have k := k.2 (fun q => (c3 q))
    refine xe_iload_n dX11_far_14 rfl ?_
    refine xe_aload_n dX11_far_15 rfl ?_
    refine xe_getR (b := l) dX11_far_16 flX11_19 kk8 (xKK_lt kk8) rfl hm_told ?_
    refine xe_getI dX11_far_19 flX11_155 h_l.k0 (xKK_lt h_l.k0) rfl ?_
    refine xe_callS (args := [.int i2, .int (u l 0)]) dX11_far_22 slX11_110 rfl rfl (Nat.le_of_ble_eq_true rfl) k (Nat.le_refl _) (fun rv4 u4 w4 r4 k => ?_)
    obtain ⟨v4, rfl, rfl, rfl, rfl, k⟩ := k
    refine xe_if_ne (tgt := 30) dX11_far_25 rfl (fun c5 => ?_) (fun c6 => ?_)
    · have k := k.2 (fun q => (c5 q))
      refine xe_aload_n dX11_far_30 rfl ?_
      refine xe_getR (b := 52) dX11_far_31 flX11_31 kk8 (xKK_lt kk8) rfl (rf8_1 hr) ?_
      refine xe_getR (b := 53) dX11_far_34 flX11_165 kk52 (xKK_lt kk52) rfl (rf52_0 hr) ?_
      refine xe_iload_n dX11_far_37 rfl ?_
      refine xe_iload_n dX11_far_38 rfl ?_
      refine xe_callV (args := [.int i1, .int i2]) dX11_far_39 vlX11_174 rfl rfl (Nat.le_of_ble_eq_true rfl) kk53 (xKK_lt kk53) rfl rfl k (Nat.le_refl _) (fun rv7 u7 w7 r7 k => ?_)
      obtain ⟨v7, rfl, rfl, rfl, rfl, k⟩ := k
      exact xe_ireturn dX11_far_42 rfl k
    · have k := k.1 c6
      refine xe_iconst (v := -1) dX11_far_28 rfl ?_
      exact xe_ireturn dX11_far_29 rfl k

theorem CX11_far {g : xGT} {d : Nat} {i1 i2 : Int32} {l : Nat} {u : xU} {w : xW} {r : xQ} {P : xPost} (hr : xRf r) (h_l : xLd l) (hm_told : r 8 10 = some l)
    (k : xCall g d mX11_isOneOf [.int i1, .int (u l 0)] 698 u w r 698 (fun rv1 u1 w1 r1 => ∃ v1 : Int32, rv1 = some (.int v1) ∧ u = u1 ∧ w = w1 ∧ r = r1 ∧ (v1 = 0 → P (some (.int (-1 : Int32))) u w r) ∧ (¬ (v1 = 0) → xCall g d mX11_isOneOf [.int i2, .int (u l 0)] 698 u w r 698 (fun rv4 u4 w4 r4 => ∃ v4 : Int32, rv4 = some (.int v4) ∧ u = u4 ∧ w = w4 ∧ r = r4 ∧ (v4 = 0 → P (some (.int (-1 : Int32))) u w r) ∧ (¬ (v4 = 0) → xCall g d mX8_distance [.ref 53, .int i1, .int i2] 698 u w r 698 (fun rv7 u7 w7 r7 => ∃ v7 : Int32, rv7 = some (.int v7) ∧ u = u7 ∧ w = w7 ∧ r = r7 ∧ P (some (.int v7)) u w r)))))) :
    xCall g (d + 1) mX11_far [.ref 8, .int i1, .int i2] 698 u w r 698 P :=
  xCall.of plX11 (Nat.le_of_ble_eq_true rfl) rfl (TX11_far_0 hr h_l hm_told k)

/-! FuneralPost.day -/

theorem TX11_day_0 {g : xGT} {d : Nat} {u : xU} {w : xW} {r : xQ} {P : xPost} (hr : xRf r)
    (k : ((u 105 0) < (300 : Int32) → xCall g d mX0_goBy [.ref 52, .ref 105] 698 u w r 698 (fun rv3 u3 w3 r3 => ∃ v3 : Int32, rv3 = some (.int v3) ∧ w = w3 ∧ r = r3 ∧ xCall g d mX6_keep [.ref 117, .ref 105] 698 u3 w r 698 (fun rv4 u4 w4 r4 => rv4 = none ∧ w = w4 ∧ r = r4 ∧ P (some (.int v3)) u4 w r))) ∧ (¬ ((u 105 0) < (300 : Int32)) → P (some (.int (-1 : Int32))) u w r)) :
    xEv g (d + 1) mX11_day 0 [some (.ref 8), none] [] 698 u w r 698 P := by
  refine xe_aload_n dX11_day_0 rfl ?_
  refine xe_getR (b := 105) dX11_day_1 flX11_47 kk8 (xKK_lt kk8) rfl (rf8_3 hr) ?_
  refine xe_getI dX11_day_4 flX11_178 st105.k0 (xKK_lt st105.k0) rfl ?_
  refine xe_sipush (v := 300) dX11_day_7 rfl ?_
  refine xe_icmp_lt (tgt := 15) dX11_day_10 rfl (fun c1 => ?_) (fun c2 => ?_)
  · have k := k.1 c1
    refine xe_aload_n dX11_day_15 rfl ?_
    refine xe_getR (b := 52) dX11_day_16 flX11_31 kk8 (xKK_lt kk8) rfl (rf8_1 hr) ?_
    refine xe_aload_n dX11_day_19 rfl ?_
    refine xe_getR (b := 105) dX11_day_20 flX11_47 kk8 (xKK_lt kk8) rfl (rf8_3 hr) ?_
    refine xe_callV (args := [.ref 105]) dX11_day_23 vlX11_181 rfl rfl (Nat.le_of_ble_eq_true rfl) kk52 (xKK_lt kk52) rfl rfl k (Nat.le_refl _) (fun rv3 u3 w3 r3 k => ?_)
    obtain ⟨v3, rfl, rfl, rfl, k⟩ := k
    refine xe_istore_n (ls' := [some (.ref 8), some (.int v3)]) dX11_day_26 rfl (by decide) rfl ?_
    refine xe_aload_n dX11_day_27 rfl ?_
    refine xe_getR (b := 117) dX11_day_28 flX11_54 kk8 (xKK_lt kk8) rfl (rf8_4 hr) ?_
    refine xe_aload_n dX11_day_31 rfl ?_
    refine xe_getR (b := 105) dX11_day_32 flX11_47 kk8 (xKK_lt kk8) rfl (rf8_3 hr) ?_
    refine xe_callV (args := [.ref 105]) dX11_day_35 vlX11_185 rfl rfl (Nat.le_of_ble_eq_true rfl) kk117 (xKK_lt kk117) rfl rfl k (Nat.le_refl _) (fun rv4 u4 w4 r4 k => ?_)
    obtain ⟨rfl, rfl, rfl, k⟩ := k
    refine xe_iload_n dX11_day_38 rfl ?_
    exact xe_ireturn dX11_day_39 rfl k
  · have k := k.2 (fun q => (c2 q))
    refine xe_iconst (v := -1) dX11_day_13 rfl ?_
    exact xe_ireturn dX11_day_14 rfl k

theorem CX11_day {g : xGT} {d : Nat} {u : xU} {w : xW} {r : xQ} {P : xPost} (hr : xRf r)
    (k : ((u 105 0) < (300 : Int32) → xCall g d mX0_goBy [.ref 52, .ref 105] 698 u w r 698 (fun rv3 u3 w3 r3 => ∃ v3 : Int32, rv3 = some (.int v3) ∧ w = w3 ∧ r = r3 ∧ xCall g d mX6_keep [.ref 117, .ref 105] 698 u3 w r 698 (fun rv4 u4 w4 r4 => rv4 = none ∧ w = w4 ∧ r = r4 ∧ P (some (.int v3)) u4 w r))) ∧ (¬ ((u 105 0) < (300 : Int32)) → P (some (.int (-1 : Int32))) u w r)) :
    xCall g (d + 1) mX11_day [.ref 8] 698 u w r 698 P :=
  xCall.of plX11 (Nat.le_of_ble_eq_true rfl) rfl (TX11_day_0 hr k)

/-! FuneralPost.post -/

theorem TX11_post_0 {g : xGT} {d : Nat} {i1 i2 : Int32} {u : xU} {w : xW} {r : xQ} {P : xPost} (hr : xRf r)
    (k : ((10 : Int32) ≤ (u 105 2) → P (some (.int (-1 : Int32))) u w r) ∧ (¬ ((10 : Int32) ≤ (u 105 2)) → xCall g d mX11_areTwoVillages [.ref 8, .int i1, .int i2] 698 u w r 698 (fun rv3 u3 w3 r3 => ∃ v3 : Int32, rv3 = some (.int v3) ∧ u = u3 ∧ w = w3 ∧ r = r3 ∧ (v3 = 0 → P (some (.int (-1 : Int32))) u w r) ∧ (¬ (v3 = 0) → xCall g d mX9_addLetter [.ref 105, .int i1, .int i2, .int (200 : Int32), .int (1 : Int32)] 698 u w r 698 (fun rv6 u6 w6 r6 => ∃ v6 : Int32, rv6 = some (.int v6) ∧ w = w6 ∧ r = r6 ∧ xCall g d mX6_keep [.ref 117, .ref 105] 698 u6 w r 698 (fun rv7 u7 w7 r7 => rv7 = none ∧ w = w7 ∧ r = r7 ∧ P (some (.int v6)) u7 w r)))))) :
    xEv g (d + 1) mX11_post 0 [some (.ref 8), some (.int i1), some (.int i2), none] [] 698 u w r 698 P := by
  refine xe_aload_n dX11_post_0 rfl ?_
  refine xe_getR (b := 105) dX11_post_1 flX11_47 kk8 (xKK_lt kk8) rfl (rf8_3 hr) ?_
  refine xe_getI dX11_post_4 flX11_133 st105.k0 (xKK_lt st105.k0) rfl ?_
  refine xe_bipush (v := 10) dX11_post_7 rfl ?_
  refine xe_icmp_ge (tgt := 21) dX11_post_9 rfl (fun c1 => ?_) (fun c2 => ?_)
  · have k := k.1 c1
    refine xe_iconst (v := -1) dX11_post_21 rfl ?_
    exact xe_ireturn dX11_post_22 rfl k
  · have k := k.2 (fun q => (c2 q))
    refine xe_aload_n dX11_post_12 rfl ?_
    refine xe_iload_n dX11_post_13 rfl ?_
    refine xe_iload_n dX11_post_14 rfl ?_
    refine xe_callV (args := [.int i1, .int i2]) dX11_post_15 vlX11_189 rfl rfl (Nat.le_of_ble_eq_true rfl) kk8 (xKK_lt kk8) rfl rfl k (Nat.le_refl _) (fun rv3 u3 w3 r3 k => ?_)
    obtain ⟨v3, rfl, rfl, rfl, rfl, k⟩ := k
    refine xe_if_ne (tgt := 23) dX11_post_18 rfl (fun c4 => ?_) (fun c5 => ?_)
    · have k := k.2 (fun q => (c4 q))
      refine xe_aload_n dX11_post_23 rfl ?_
      refine xe_getR (b := 105) dX11_post_24 flX11_47 kk8 (xKK_lt kk8) rfl (rf8_3 hr) ?_
      refine xe_iload_n dX11_post_27 rfl ?_
      refine xe_iload_n dX11_post_28 rfl ?_
      refine xe_sipush (v := 200) dX11_post_29 rfl ?_
      refine xe_iconst (v := 1) dX11_post_32 rfl ?_
      refine xe_callV (args := [.int i1, .int i2, .int (200 : Int32), .int (1 : Int32)]) dX11_post_33 vlX11_192 rfl rfl (Nat.le_of_ble_eq_true rfl) st105.k0 (xKK_lt st105.k0) rfl rfl k (Nat.le_refl _) (fun rv6 u6 w6 r6 k => ?_)
      obtain ⟨v6, rfl, rfl, rfl, k⟩ := k
      refine xe_istore_n (ls' := [some (.ref 8), some (.int i1), some (.int i2), some (.int v6)]) dX11_post_36 rfl (by decide) rfl ?_
      refine xe_aload_n dX11_post_37 rfl ?_
      refine xe_getR (b := 117) dX11_post_38 flX11_54 kk8 (xKK_lt kk8) rfl (rf8_4 hr) ?_
      refine xe_aload_n dX11_post_41 rfl ?_
      refine xe_getR (b := 105) dX11_post_42 flX11_47 kk8 (xKK_lt kk8) rfl (rf8_3 hr) ?_
      refine xe_callV (args := [.ref 105]) dX11_post_45 vlX11_185 rfl rfl (Nat.le_of_ble_eq_true rfl) kk117 (xKK_lt kk117) rfl rfl k (Nat.le_refl _) (fun rv7 u7 w7 r7 k => ?_)
      obtain ⟨rfl, rfl, rfl, k⟩ := k
      refine xe_iload_n dX11_post_48 rfl ?_
      exact xe_ireturn dX11_post_49 rfl k
    · have k := k.1 c5
      refine xe_iconst (v := -1) dX11_post_21 rfl ?_
      exact xe_ireturn dX11_post_22 rfl k

theorem CX11_post {g : xGT} {d : Nat} {i1 i2 : Int32} {u : xU} {w : xW} {r : xQ} {P : xPost} (hr : xRf r)
    (k : ((10 : Int32) ≤ (u 105 2) → P (some (.int (-1 : Int32))) u w r) ∧ (¬ ((10 : Int32) ≤ (u 105 2)) → xCall g d mX11_areTwoVillages [.ref 8, .int i1, .int i2] 698 u w r 698 (fun rv3 u3 w3 r3 => ∃ v3 : Int32, rv3 = some (.int v3) ∧ u = u3 ∧ w = w3 ∧ r = r3 ∧ (v3 = 0 → P (some (.int (-1 : Int32))) u w r) ∧ (¬ (v3 = 0) → xCall g d mX9_addLetter [.ref 105, .int i1, .int i2, .int (200 : Int32), .int (1 : Int32)] 698 u w r 698 (fun rv6 u6 w6 r6 => ∃ v6 : Int32, rv6 = some (.int v6) ∧ w = w6 ∧ r = r6 ∧ xCall g d mX6_keep [.ref 117, .ref 105] 698 u6 w r 698 (fun rv7 u7 w7 r7 => rv7 = none ∧ w = w7 ∧ r = r7 ∧ P (some (.int v6)) u7 w r)))))) :
    xCall g (d + 1) mX11_post [.ref 8, .int i1, .int i2] 698 u w r 698 P :=
  xCall.of plX11 (Nat.le_of_ble_eq_true rfl) rfl (TX11_post_0 hr k)

/-! FuneralPost.hand -/

set_option maxRecDepth 20000 in
theorem TX11_hand_0 {g : xGT} {d : Nat} {i1 i2 : Int32} {l : Nat} {u : xU} {w : xW} {r : xQ} {P : xPost} (hr : xRf r) (h_l : xLd l) (q_l : xLr l r) (hm_told : r 8 10 = some l)
    (k : xCall g d mX11_isOneOf [.int i1, .int (u 105 2)] 698 u w r 698 (fun rv1 u1 w1 r1 => ∃ v1 : Int32, rv1 = some (.int v1) ∧ u = u1 ∧ w = w1 ∧ r = r1 ∧ (v1 = 0 → P (some (.int (0 : Int32))) u w r) ∧ (¬ (v1 = 0) → xCall g d mX11_isOneOf [.int i2, .int (u l 5)] 698 u w r 698 (fun rv4 u4 w4 r4 => ∃ v4 : Int32, rv4 = some (.int v4) ∧ u = u4 ∧ w = w4 ∧ r = r4 ∧ (v4 = 0 → P (some (.int (0 : Int32))) u w r) ∧ (¬ (v4 = 0) → vp_in i1 10 ∧ (((u (105 + 5) i1.toNatClampNeg) = (-1 : Int32) → P (some (.int (0 : Int32))) u w r) ∧ (¬ ((u (105 + 5) i1.toNatClampNeg) = (-1 : Int32)) → xCall g d mX9_standsIn [.ref 105, .int i2] 698 u w r 698 (fun rv10 u10 w10 r10 => ∃ v10 : Int32, rv10 = some (.int v10) ∧ u = u10 ∧ w = w10 ∧ r = r10 ∧ (v10 = (u (105 + 5) i1.toNatClampNeg) → vp_in i2 6) ∧ (((¬ (v10 = (u (105 + 5) i1.toNatClampNeg)) ∨ ¬ ((u (105 + 4) i2.toNatClampNeg) < (u (l + 7) i2.toNatClampNeg))) → P (some (.int (0 : Int32))) u w r) ∧ (¬ (¬ (v10 = (u (105 + 5) i1.toNatClampNeg)) ∨ ¬ ((u (105 + 4) i2.toNatClampNeg) < (u (l + 7) i2.toNatClampNeg))) → xCall g d mX9_putInBier [.ref 105, .int i1, .int i2] 698 u w r 698 (fun rv16 u16 w16 r16 => rv16 = none ∧ w = w16 ∧ r = r16 ∧ xCall g d mX6_keep [.ref 117, .ref 105] 698 u16 w r 698 (fun rv17 u17 w17 r17 => rv17 = none ∧ w = w17 ∧ r = r17 ∧ P (some (.int (1 : Int32))) u17 w r)))))))))))) :
    xEv g (d + 1) mX11_hand 0 [some (.ref 8), some (.int i1), some (.int i2), none] [] 698 u w r 698 P := by
  refine xe_iload_n dX11_hand_0 rfl ?_
  refine xe_aload_n dX11_hand_1 rfl ?_
  refine xe_getR (b := 105) dX11_hand_2 flX11_47 kk8 (xKK_lt kk8) rfl (rf8_3 hr) ?_
  refine xe_getI dX11_hand_5 flX11_133 st105.k0 (xKK_lt st105.k0) rfl ?_
  refine xe_callS (args := [.int i1, .int (u 105 2)]) dX11_hand_8 slX11_110 rfl rfl (Nat.le_of_ble_eq_true rfl) k (Nat.le_refl _) (fun rv1 u1 w1 r1 k => ?_)
  obtain ⟨v1, rfl, rfl, rfl, rfl, k⟩ := k
  refine xe_if_eq (tgt := 28) dX11_hand_11 rfl (fun c2 => ?_) (fun c3 => ?_)
  · have k := k.1 c2
    refine xe_iconst (v := 0) dX11_hand_28 rfl ?_
    exact xe_ireturn dX11_hand_29 (xrokZ (Or.inl rfl)) k
  · have k := k.2 (fun q => (c3 q))
    refine xe_iload_n dX11_hand_14 rfl ?_
    refine xe_aload_n dX11_hand_15 rfl ?_
    refine xe_getR (b := l) dX11_hand_16 flX11_19 kk8 (xKK_lt kk8) rfl hm_told ?_
    refine xe_getI dX11_hand_19 flX11_107 h_l.k0 (xKK_lt h_l.k0) rfl ?_
    refine xe_callS (args := [.int i2, .int (u l 5)]) dX11_hand_22 slX11_110 rfl rfl (Nat.le_of_ble_eq_true rfl) k (Nat.le_refl _) (fun rv4 u4 w4 r4 k => ?_)
    obtain ⟨v4, rfl, rfl, rfl, rfl, k⟩ := k
    refine xe_if_ne (tgt := 30) dX11_hand_25 rfl (fun c5 => ?_) (fun c6 => ?_)
    · have k := k.2 (fun q => (c5 q))
      refine xe_aload_n dX11_hand_30 rfl ?_
      refine xe_getR (b := 105) dX11_hand_31 flX11_47 kk8 (xKK_lt kk8) rfl (rf8_3 hr) ?_
      refine xe_getR (b := (105 + 5)) dX11_hand_34 flX11_134 st105.k0 (xKK_lt st105.k0) rfl (sr105 hr).f7 ?_
      refine xe_iload_n dX11_hand_37 rfl ?_
      obtain ⟨b7, k⟩ := k
      refine xe_iald dX11_hand_38 st105.k5 (xKK_lt st105.k5) b7 ?_
      refine xe_istore_n (ls' := [some (.ref 8), some (.int i1), some (.int i2), some (.int (u (105 + 5) i1.toNatClampNeg))]) dX11_hand_39 rfl (by decide) rfl ?_
      refine xe_iload_n dX11_hand_40 rfl ?_
      refine xe_iconst (v := -1) dX11_hand_41 rfl ?_
      refine xe_icmp_eq (tgt := 78) dX11_hand_42 rfl (fun c8 => ?_) (fun c9 => ?_)
      · have k := k.1 c8
        refine xe_iconst (v := 0) dX11_hand_78 rfl ?_
        exact xe_ireturn dX11_hand_79 (xrokZ (Or.inl rfl)) k
      · have k := k.2 (fun q => (c9 q))
        refine xe_aload_n dX11_hand_45 rfl ?_
        refine xe_getR (b := 105) dX11_hand_46 flX11_47 kk8 (xKK_lt kk8) rfl (rf8_3 hr) ?_
        refine xe_iload_n dX11_hand_49 rfl ?_
        refine xe_callV (args := [.int i2]) dX11_hand_50 vlX11_196 rfl rfl (Nat.le_of_ble_eq_true rfl) st105.k0 (xKK_lt st105.k0) rfl rfl k (Nat.le_refl _) (fun rv10 u10 w10 r10 k => ?_)
        obtain ⟨v10, rfl, rfl, rfl, rfl, k⟩ := k
        refine xe_iload_n dX11_hand_53 rfl ?_
        obtain ⟨b13, k⟩ := k
        have K18 : (¬ (v10 = (u (105 + 5) i1.toNatClampNeg)) ∨ ¬ ((u (105 + 4) i2.toNatClampNeg) < (u (l + 7) i2.toNatClampNeg))) → xEv g (d + 1) mX11_hand 78 [some (.ref 8), some (.int i1), some (.int i2), some (.int (u (105 + 5) i1.toNatClampNeg))] [] 698 u w r 698 P := fun c19 => by
          have k := k.1 c19
          refine xe_iconst (v := 0) dX11_hand_78 rfl ?_
          exact xe_ireturn dX11_hand_79 (xrokZ (Or.inl rfl)) k
        refine xe_icmp_ne (tgt := 78) dX11_hand_54 rfl (fun c11 => ?_) (fun c12 => ?_)
        · exact K18 (Or.inl c11)
        · refine xe_aload_n dX11_hand_57 rfl ?_
          refine xe_getR (b := 105) dX11_hand_58 flX11_47 kk8 (xKK_lt kk8) rfl (rf8_3 hr) ?_
          refine xe_getR (b := (105 + 4)) dX11_hand_61 flX11_123 st105.k0 (xKK_lt st105.k0) rfl (sr105 hr).f6 ?_
          refine xe_iload_n dX11_hand_64 rfl ?_
          refine xe_iald dX11_hand_65 st105.k4 (xKK_lt st105.k4) (b13 c12) ?_
          refine xe_aload_n dX11_hand_66 rfl ?_
          refine xe_getR (b := l) dX11_hand_67 flX11_19 kk8 (xKK_lt kk8) rfl hm_told ?_
          refine xe_getR (b := (l + 7)) dX11_hand_70 flX11_199 h_l.k0 (xKK_lt h_l.k0) rfl q_l.1.f9 ?_
          refine xe_iload_n dX11_hand_73 rfl ?_
          refine xe_iald dX11_hand_74 h_l.k7 (xKK_lt h_l.k7) (b13 c12) ?_
          refine xe_icmp_lt (tgt := 80) dX11_hand_75 rfl (fun c14 => ?_) (fun c15 => ?_)
          · have k := k.2 (fun q => (q.elim (fun z => (z c12)) (fun z => (z c14))))
            refine xe_aload_n dX11_hand_80 rfl ?_
            refine xe_getR (b := 105) dX11_hand_81 flX11_47 kk8 (xKK_lt kk8) rfl (rf8_3 hr) ?_
            refine xe_iload_n dX11_hand_84 rfl ?_
            refine xe_iload_n dX11_hand_85 rfl ?_
            refine xe_callV (args := [.int i1, .int i2]) dX11_hand_86 vlX11_202 rfl rfl (Nat.le_of_ble_eq_true rfl) st105.k0 (xKK_lt st105.k0) rfl rfl k (Nat.le_refl _) (fun rv16 u16 w16 r16 k => ?_)
            obtain ⟨rfl, rfl, rfl, k⟩ := k
            refine xe_aload_n dX11_hand_89 rfl ?_
            refine xe_getR (b := 117) dX11_hand_90 flX11_54 kk8 (xKK_lt kk8) rfl (rf8_4 hr) ?_
            refine xe_aload_n dX11_hand_93 rfl ?_
            refine xe_getR (b := 105) dX11_hand_94 flX11_47 kk8 (xKK_lt kk8) rfl (rf8_3 hr) ?_
            refine xe_callV (args := [.ref 105]) dX11_hand_97 vlX11_185 rfl rfl (Nat.le_of_ble_eq_true rfl) kk117 (xKK_lt kk117) rfl rfl k (Nat.le_refl _) (fun rv17 u17 w17 r17 k => ?_)
            obtain ⟨rfl, rfl, rfl, k⟩ := k
            refine xe_iconst (v := 1) dX11_hand_100 rfl ?_
            exact xe_ireturn dX11_hand_101 (xrokZ (Or.inr rfl)) k
          · exact K18 (Or.inr c15)
    · have k := k.1 c6
      refine xe_iconst (v := 0) dX11_hand_28 rfl ?_
      exact xe_ireturn dX11_hand_29 (xrokZ (Or.inl rfl)) k

theorem CX11_hand {g : xGT} {d : Nat} {i1 i2 : Int32} {l : Nat} {u : xU} {w : xW} {r : xQ} {P : xPost} (hr : xRf r) (h_l : xLd l) (q_l : xLr l r) (hm_told : r 8 10 = some l)
    (k : xCall g d mX11_isOneOf [.int i1, .int (u 105 2)] 698 u w r 698 (fun rv1 u1 w1 r1 => ∃ v1 : Int32, rv1 = some (.int v1) ∧ u = u1 ∧ w = w1 ∧ r = r1 ∧ (v1 = 0 → P (some (.int (0 : Int32))) u w r) ∧ (¬ (v1 = 0) → xCall g d mX11_isOneOf [.int i2, .int (u l 5)] 698 u w r 698 (fun rv4 u4 w4 r4 => ∃ v4 : Int32, rv4 = some (.int v4) ∧ u = u4 ∧ w = w4 ∧ r = r4 ∧ (v4 = 0 → P (some (.int (0 : Int32))) u w r) ∧ (¬ (v4 = 0) → vp_in i1 10 ∧ (((u (105 + 5) i1.toNatClampNeg) = (-1 : Int32) → P (some (.int (0 : Int32))) u w r) ∧ (¬ ((u (105 + 5) i1.toNatClampNeg) = (-1 : Int32)) → xCall g d mX9_standsIn [.ref 105, .int i2] 698 u w r 698 (fun rv10 u10 w10 r10 => ∃ v10 : Int32, rv10 = some (.int v10) ∧ u = u10 ∧ w = w10 ∧ r = r10 ∧ (v10 = (u (105 + 5) i1.toNatClampNeg) → vp_in i2 6) ∧ (((¬ (v10 = (u (105 + 5) i1.toNatClampNeg)) ∨ ¬ ((u (105 + 4) i2.toNatClampNeg) < (u (l + 7) i2.toNatClampNeg))) → P (some (.int (0 : Int32))) u w r) ∧ (¬ (¬ (v10 = (u (105 + 5) i1.toNatClampNeg)) ∨ ¬ ((u (105 + 4) i2.toNatClampNeg) < (u (l + 7) i2.toNatClampNeg))) → xCall g d mX9_putInBier [.ref 105, .int i1, .int i2] 698 u w r 698 (fun rv16 u16 w16 r16 => rv16 = none ∧ w = w16 ∧ r = r16 ∧ xCall g d mX6_keep [.ref 117, .ref 105] 698 u16 w r 698 (fun rv17 u17 w17 r17 => rv17 = none ∧ w = w17 ∧ r = r17 ∧ P (some (.int (1 : Int32))) u17 w r)))))))))))) :
    xCall g (d + 1) mX11_hand [.ref 8, .int i1, .int i2] 698 u w r 698 P :=
  xCall.of plX11 (Nat.le_of_ble_eq_true rfl) rfl (TX11_hand_0 hr h_l q_l hm_told k)

/-! FuneralPost.take -/

theorem TX11_take_0 {g : xGT} {d : Nat} {i1 : Int32} {u : xU} {w : xW} {r : xQ} {P : xPost} (hr : xRf r)
    (k : xCall g d mX11_isOneOf [.int i1, .int (u 105 2)] 698 u w r 698 (fun rv1 u1 w1 r1 => ∃ v1 : Int32, rv1 = some (.int v1) ∧ u = u1 ∧ w = w1 ∧ r = r1 ∧ (v1 = 0 → P (some (.int (-1 : Int32))) u w r) ∧ (¬ (v1 = 0) → vp_in i1 10 ∧ (xCall g d mX9_standsIn [.ref 105, .int (u (105 + 6) i1.toNatClampNeg)] 698 u w r 698 (fun rv5 u5 w5 r5 => ∃ v5 : Int32, rv5 = some (.int v5) ∧ u = u5 ∧ w = w5 ∧ r = r5 ∧ (v5 = (-1 : Int32) → P (some (.int (-1 : Int32))) u w r) ∧ (¬ (v5 = (-1 : Int32)) → xCall g d mX9_putInPile [.ref 105, .int i1, .int v5] 698 u w r 698 (fun rv8 u8 w8 r8 => rv8 = none ∧ w = w8 ∧ r = r8 ∧ xCall g d mX6_keep [.ref 117, .ref 105] 698 u8 w r 698 (fun rv9 u9 w9 r9 => rv9 = none ∧ w = w9 ∧ r = r9 ∧ P (some (.int (u (105 + 6) i1.toNatClampNeg))) u9 w r)))))))) :
    xEv g (d + 1) mX11_take 0 [some (.ref 8), some (.int i1), none, none] [] 698 u w r 698 P := by
  refine xe_iload_n dX11_take_0 rfl ?_
  refine xe_aload_n dX11_take_1 rfl ?_
  refine xe_getR (b := 105) dX11_take_2 flX11_47 kk8 (xKK_lt kk8) rfl (rf8_3 hr) ?_
  refine xe_getI dX11_take_5 flX11_133 st105.k0 (xKK_lt st105.k0) rfl ?_
  refine xe_callS (args := [.int i1, .int (u 105 2)]) dX11_take_8 slX11_110 rfl rfl (Nat.le_of_ble_eq_true rfl) k (Nat.le_refl _) (fun rv1 u1 w1 r1 k => ?_)
  obtain ⟨v1, rfl, rfl, rfl, rfl, k⟩ := k
  refine xe_if_ne (tgt := 16) dX11_take_11 rfl (fun c2 => ?_) (fun c3 => ?_)
  · have k := k.2 (fun q => (c2 q))
    refine xe_aload_n dX11_take_16 rfl ?_
    refine xe_getR (b := 105) dX11_take_17 flX11_47 kk8 (xKK_lt kk8) rfl (rf8_3 hr) ?_
    refine xe_getR (b := (105 + 6)) dX11_take_20 flX11_137 st105.k0 (xKK_lt st105.k0) rfl (sr105 hr).f8 ?_
    refine xe_iload_n dX11_take_23 rfl ?_
    obtain ⟨b4, k⟩ := k
    refine xe_iald dX11_take_24 st105.k6 (xKK_lt st105.k6) b4 ?_
    refine xe_istore_n (ls' := [some (.ref 8), some (.int i1), some (.int (u (105 + 6) i1.toNatClampNeg)), none]) dX11_take_25 rfl (by decide) rfl ?_
    refine xe_aload_n dX11_take_26 rfl ?_
    refine xe_getR (b := 105) dX11_take_27 flX11_47 kk8 (xKK_lt kk8) rfl (rf8_3 hr) ?_
    refine xe_iload_n dX11_take_30 rfl ?_
    refine xe_callV (args := [.int (u (105 + 6) i1.toNatClampNeg)]) dX11_take_31 vlX11_196 rfl rfl (Nat.le_of_ble_eq_true rfl) st105.k0 (xKK_lt st105.k0) rfl rfl k (Nat.le_refl _) (fun rv5 u5 w5 r5 k => ?_)
    obtain ⟨v5, rfl, rfl, rfl, rfl, k⟩ := k
    refine xe_istore_n (ls' := [some (.ref 8), some (.int i1), some (.int (u (105 + 6) i1.toNatClampNeg)), some (.int v5)]) dX11_take_34 rfl (by decide) rfl ?_
    refine xe_iload_n dX11_take_35 rfl ?_
    refine xe_iconst (v := -1) dX11_take_36 rfl ?_
    refine xe_icmp_ne (tgt := 42) dX11_take_37 rfl (fun c6 => ?_) (fun c7 => ?_)
    · have k := k.2 (fun q => (c6 q))
      refine xe_aload_n dX11_take_42 rfl ?_
      refine xe_getR (b := 105) dX11_take_43 flX11_47 kk8 (xKK_lt kk8) rfl (rf8_3 hr) ?_
      refine xe_iload_n dX11_take_46 rfl ?_
      refine xe_iload_n dX11_take_47 rfl ?_
      refine xe_callV (args := [.int i1, .int v5]) dX11_take_48 vlX11_206 rfl rfl (Nat.le_of_ble_eq_true rfl) st105.k0 (xKK_lt st105.k0) rfl rfl k (Nat.le_refl _) (fun rv8 u8 w8 r8 k => ?_)
      obtain ⟨rfl, rfl, rfl, k⟩ := k
      refine xe_aload_n dX11_take_51 rfl ?_
      refine xe_getR (b := 117) dX11_take_52 flX11_54 kk8 (xKK_lt kk8) rfl (rf8_4 hr) ?_
      refine xe_aload_n dX11_take_55 rfl ?_
      refine xe_getR (b := 105) dX11_take_56 flX11_47 kk8 (xKK_lt kk8) rfl (rf8_3 hr) ?_
      refine xe_callV (args := [.ref 105]) dX11_take_59 vlX11_185 rfl rfl (Nat.le_of_ble_eq_true rfl) kk117 (xKK_lt kk117) rfl rfl k (Nat.le_refl _) (fun rv9 u9 w9 r9 k => ?_)
      obtain ⟨rfl, rfl, rfl, k⟩ := k
      refine xe_iload_n dX11_take_62 rfl ?_
      exact xe_ireturn dX11_take_63 rfl k
    · have k := k.1 c7
      refine xe_iconst (v := -1) dX11_take_40 rfl ?_
      exact xe_ireturn dX11_take_41 rfl k
  · have k := k.1 c3
    refine xe_iconst (v := -1) dX11_take_14 rfl ?_
    exact xe_ireturn dX11_take_15 rfl k

theorem CX11_take {g : xGT} {d : Nat} {i1 : Int32} {u : xU} {w : xW} {r : xQ} {P : xPost} (hr : xRf r)
    (k : xCall g d mX11_isOneOf [.int i1, .int (u 105 2)] 698 u w r 698 (fun rv1 u1 w1 r1 => ∃ v1 : Int32, rv1 = some (.int v1) ∧ u = u1 ∧ w = w1 ∧ r = r1 ∧ (v1 = 0 → P (some (.int (-1 : Int32))) u w r) ∧ (¬ (v1 = 0) → vp_in i1 10 ∧ (xCall g d mX9_standsIn [.ref 105, .int (u (105 + 6) i1.toNatClampNeg)] 698 u w r 698 (fun rv5 u5 w5 r5 => ∃ v5 : Int32, rv5 = some (.int v5) ∧ u = u5 ∧ w = w5 ∧ r = r5 ∧ (v5 = (-1 : Int32) → P (some (.int (-1 : Int32))) u w r) ∧ (¬ (v5 = (-1 : Int32)) → xCall g d mX9_putInPile [.ref 105, .int i1, .int v5] 698 u w r 698 (fun rv8 u8 w8 r8 => rv8 = none ∧ w = w8 ∧ r = r8 ∧ xCall g d mX6_keep [.ref 117, .ref 105] 698 u8 w r 698 (fun rv9 u9 w9 r9 => rv9 = none ∧ w = w9 ∧ r = r9 ∧ P (some (.int (u (105 + 6) i1.toNatClampNeg))) u9 w r)))))))) :
    xCall g (d + 1) mX11_take [.ref 8, .int i1] 698 u w r 698 P :=
  xCall.of plX11 (Nat.le_of_ble_eq_true rfl) rfl (TX11_take_0 hr k)

/-! FuneralPost.close -/

theorem TX11_close_0 {g : xGT} {d : Nat} {i1 : Int32} {l : Nat} {u : xU} {w : xW} {r : xQ} {P : xPost} (hr : xRf r) (h_l : xLd l) (hm_told : r 8 10 = some l)
    (k : xCall g d mX11_isOneOf [.int i1, .int (u l 1)] 698 u w r 698 (fun rv1 u1 w1 r1 => ∃ v1 : Int32, rv1 = some (.int v1) ∧ u = u1 ∧ w = w1 ∧ r = r1 ∧ (v1 = 0 → P (some (.int (-1 : Int32))) u w r) ∧ (¬ (v1 = 0) → xCall g d mX8_lay [.ref 53, .ref l, .int ((u 105 1) ^^^ ((1 : Int32) <<< (i1 &&& 31)))] 698 (x2 u 105 1 ((u 105 1) ^^^ ((1 : Int32) <<< (i1 &&& 31)))) w r 698 (fun rv4 u4 w4 r4 => rv4 = none ∧ w = w4 ∧ r = r4 ∧ xCall g d mX6_keep [.ref 117, .ref 105] 698 u4 w r 698 (fun rv5 u5 w5 r5 => rv5 = none ∧ w = w5 ∧ r = r5 ∧ P (some (.int (((u5 105 1) >>> (i1 &&& 31)) &&& (1 : Int32)))) u5 w r))))) :
    xEv g (d + 1) mX11_close 0 [some (.ref 8), some (.int i1)] [] 698 u w r 698 P := by
  refine xe_iload_n dX11_close_0 rfl ?_
  refine xe_aload_n dX11_close_1 rfl ?_
  refine xe_getR (b := l) dX11_close_2 flX11_19 kk8 (xKK_lt kk8) rfl hm_told ?_
  refine xe_getI dX11_close_5 flX11_209 h_l.k0 (xKK_lt h_l.k0) rfl ?_
  refine xe_callS (args := [.int i1, .int (u l 1)]) dX11_close_8 slX11_110 rfl rfl (Nat.le_of_ble_eq_true rfl) k (Nat.le_refl _) (fun rv1 u1 w1 r1 k => ?_)
  obtain ⟨v1, rfl, rfl, rfl, rfl, k⟩ := k
  refine xe_if_ne (tgt := 16) dX11_close_11 rfl (fun c2 => ?_) (fun c3 => ?_)
  · have k := k.2 (fun q => (c2 q))
    refine xe_aload_n dX11_close_16 rfl ?_
    refine xe_getR (b := 105) dX11_close_17 flX11_47 kk8 (xKK_lt kk8) rfl (rf8_3 hr) ?_
    refine xe_dup dX11_close_20 rfl ?_
    refine xe_getI dX11_close_21 flX11_212 st105.k0 (xKK_lt st105.k0) rfl ?_
    refine xe_iconst (v := 1) dX11_close_24 rfl ?_
    refine xe_iload_n dX11_close_25 rfl ?_
    refine xe_ishl dX11_close_26 ?_
    refine xe_ixor dX11_close_27 ?_
    refine xe_putI dX11_close_28 flX11_212 st105.k0 (xKK_lt st105.k0) nf9_1 rfl ?_
    refine xe_aload_n dX11_close_31 rfl ?_
    refine xe_getR (b := 52) dX11_close_32 flX11_31 kk8 (xKK_lt kk8) rfl (rf8_1 hr) ?_
    refine xe_getR (b := 53) dX11_close_35 flX11_165 kk52 (xKK_lt kk52) rfl (rf52_0 hr) ?_
    refine xe_aload_n dX11_close_38 rfl ?_
    refine xe_getR (b := l) dX11_close_39 flX11_19 kk8 (xKK_lt kk8) rfl hm_told ?_
    refine xe_aload_n dX11_close_42 rfl ?_
    refine xe_getR (b := 105) dX11_close_43 flX11_47 kk8 (xKK_lt kk8) rfl (rf8_3 hr) ?_
    refine xe_getI dX11_close_46 flX11_212 st105.k0 (xKK_lt st105.k0) rfl ?_
    refine xe_callV (args := [.ref l, .int ((u 105 1) ^^^ ((1 : Int32) <<< (i1 &&& 31)))]) dX11_close_49 vlX11_215 rfl rfl (Nat.le_of_ble_eq_true rfl) kk53 (xKK_lt kk53) rfl rfl k (Nat.le_refl _) (fun rv4 u4 w4 r4 k => ?_)
    obtain ⟨rfl, rfl, rfl, k⟩ := k
    refine xe_aload_n dX11_close_52 rfl ?_
    refine xe_getR (b := 117) dX11_close_53 flX11_54 kk8 (xKK_lt kk8) rfl (rf8_4 hr) ?_
    refine xe_aload_n dX11_close_56 rfl ?_
    refine xe_getR (b := 105) dX11_close_57 flX11_47 kk8 (xKK_lt kk8) rfl (rf8_3 hr) ?_
    refine xe_callV (args := [.ref 105]) dX11_close_60 vlX11_185 rfl rfl (Nat.le_of_ble_eq_true rfl) kk117 (xKK_lt kk117) rfl rfl k (Nat.le_refl _) (fun rv5 u5 w5 r5 k => ?_)
    obtain ⟨rfl, rfl, rfl, k⟩ := k
    refine xe_aload_n dX11_close_63 rfl ?_
    refine xe_getR (b := 105) dX11_close_64 flX11_47 kk8 (xKK_lt kk8) rfl (rf8_3 hr) ?_
    refine xe_getI dX11_close_67 flX11_212 st105.k0 (xKK_lt st105.k0) rfl ?_
    refine xe_iload_n dX11_close_70 rfl ?_
    refine xe_ishr dX11_close_71 ?_
    refine xe_iconst (v := 1) dX11_close_72 rfl ?_
    refine xe_iand dX11_close_73 ?_
    exact xe_ireturn dX11_close_74 rfl k
  · have k := k.1 c3
    refine xe_iconst (v := -1) dX11_close_14 rfl ?_
    exact xe_ireturn dX11_close_15 rfl k

theorem CX11_close {g : xGT} {d : Nat} {i1 : Int32} {l : Nat} {u : xU} {w : xW} {r : xQ} {P : xPost} (hr : xRf r) (h_l : xLd l) (hm_told : r 8 10 = some l)
    (k : xCall g d mX11_isOneOf [.int i1, .int (u l 1)] 698 u w r 698 (fun rv1 u1 w1 r1 => ∃ v1 : Int32, rv1 = some (.int v1) ∧ u = u1 ∧ w = w1 ∧ r = r1 ∧ (v1 = 0 → P (some (.int (-1 : Int32))) u w r) ∧ (¬ (v1 = 0) → xCall g d mX8_lay [.ref 53, .ref l, .int ((u 105 1) ^^^ ((1 : Int32) <<< (i1 &&& 31)))] 698 (x2 u 105 1 ((u 105 1) ^^^ ((1 : Int32) <<< (i1 &&& 31)))) w r 698 (fun rv4 u4 w4 r4 => rv4 = none ∧ w = w4 ∧ r = r4 ∧ xCall g d mX6_keep [.ref 117, .ref 105] 698 u4 w r 698 (fun rv5 u5 w5 r5 => rv5 = none ∧ w = w5 ∧ r = r5 ∧ P (some (.int (((u5 105 1) >>> (i1 &&& 31)) &&& (1 : Int32)))) u5 w r))))) :
    xCall g (d + 1) mX11_close [.ref 8, .int i1] 698 u w r 698 P :=
  xCall.of plX11 (Nat.le_of_ble_eq_true rfl) rfl (TX11_close_0 hr h_l hm_told k)

/-! FuneralPost.undo -/

theorem TX11_undo_0 {g : xGT} {d : Nat} {u : xU} {w : xW} {r : xQ} {P : xPost} (hr : xRf r)
    (k : xCall g d mX6_undoable [.ref 117] 698 u w r 698 (fun rv1 u1 w1 r1 => ∃ v1 : Int32, rv1 = some (.int v1) ∧ u = u1 ∧ w = w1 ∧ r = r1 ∧ (v1 = 0 → P (some (.int (0 : Int32))) u w r) ∧ (¬ (v1 = 0) → xCall g d mX6_stepBack [.ref 117] 698 u w r 698 (fun rv4 u4 w4 r4 => ∃ s4 : Nat, rv4 = some (.ref s4) ∧ w = w4 ∧ r = r4 ∧ (xSt s4 ∧ xSr s4 r) ∧ xCall g d mX11_goOnFrom [.ref 8, .ref s4] 698 u4 w r 698 (fun rv5 u5 w5 r5 => rv5 = none ∧ w = w5 ∧ r = r5 ∧ P (some (.int (1 : Int32))) u5 w r))))) :
    xEv g (d + 1) mX11_undo 0 [some (.ref 8)] [] 698 u w r 698 P := by
  refine xe_aload_n dX11_undo_0 rfl ?_
  refine xe_getR (b := 117) dX11_undo_1 flX11_54 kk8 (xKK_lt kk8) rfl (rf8_4 hr) ?_
  refine xe_callV (args := []) dX11_undo_4 vlX11_219 rfl rfl (Nat.le_of_ble_eq_true rfl) kk117 (xKK_lt kk117) rfl rfl k (Nat.le_refl _) (fun rv1 u1 w1 r1 k => ?_)
  obtain ⟨v1, rfl, rfl, rfl, rfl, k⟩ := k
  refine xe_if_ne (tgt := 12) dX11_undo_7 rfl (fun c2 => ?_) (fun c3 => ?_)
  · have k := k.2 (fun q => (c2 q))
    refine xe_aload_n dX11_undo_12 rfl ?_
    refine xe_aload_n dX11_undo_13 rfl ?_
    refine xe_getR (b := 117) dX11_undo_14 flX11_54 kk8 (xKK_lt kk8) rfl (rf8_4 hr) ?_
    refine xe_callV (args := []) dX11_undo_17 vlX11_223 rfl rfl (Nat.le_of_ble_eq_true rfl) kk117 (xKK_lt kk117) rfl rfl k (Nat.le_refl _) (fun rv4 u4 w4 r4 k => ?_)
    obtain ⟨s4, rfl, rfl, rfl, ⟨h4, q4⟩, k⟩ := k
    refine xe_callV (args := [.ref s4]) dX11_undo_20 vlX11_227 rfl rfl (Nat.le_of_ble_eq_true rfl) kk8 (xKK_lt kk8) rfl rfl k (Nat.le_refl _) (fun rv5 u5 w5 r5 k => ?_)
    obtain ⟨rfl, rfl, rfl, k⟩ := k
    refine xe_iconst (v := 1) dX11_undo_23 rfl ?_
    exact xe_ireturn dX11_undo_24 (xrokZ (Or.inr rfl)) k
  · have k := k.1 c3
    refine xe_iconst (v := 0) dX11_undo_10 rfl ?_
    exact xe_ireturn dX11_undo_11 (xrokZ (Or.inl rfl)) k

theorem CX11_undo {g : xGT} {d : Nat} {u : xU} {w : xW} {r : xQ} {P : xPost} (hr : xRf r)
    (k : xCall g d mX6_undoable [.ref 117] 698 u w r 698 (fun rv1 u1 w1 r1 => ∃ v1 : Int32, rv1 = some (.int v1) ∧ u = u1 ∧ w = w1 ∧ r = r1 ∧ (v1 = 0 → P (some (.int (0 : Int32))) u w r) ∧ (¬ (v1 = 0) → xCall g d mX6_stepBack [.ref 117] 698 u w r 698 (fun rv4 u4 w4 r4 => ∃ s4 : Nat, rv4 = some (.ref s4) ∧ w = w4 ∧ r = r4 ∧ (xSt s4 ∧ xSr s4 r) ∧ xCall g d mX11_goOnFrom [.ref 8, .ref s4] 698 u4 w r 698 (fun rv5 u5 w5 r5 => rv5 = none ∧ w = w5 ∧ r = r5 ∧ P (some (.int (1 : Int32))) u5 w r))))) :
    xCall g (d + 1) mX11_undo [.ref 8] 698 u w r 698 P :=
  xCall.of plX11 (Nat.le_of_ble_eq_true rfl) rfl (TX11_undo_0 hr k)

/-! FuneralPost.redo -/

theorem TX11_redo_0 {g : xGT} {d : Nat} {u : xU} {w : xW} {r : xQ} {P : xPost} (hr : xRf r)
    (k : xCall g d mX6_redoable [.ref 117] 698 u w r 698 (fun rv1 u1 w1 r1 => ∃ v1 : Int32, rv1 = some (.int v1) ∧ u = u1 ∧ w = w1 ∧ r = r1 ∧ (v1 = 0 → P (some (.int (0 : Int32))) u w r) ∧ (¬ (v1 = 0) → xCall g d mX6_stepOn [.ref 117] 698 u w r 698 (fun rv4 u4 w4 r4 => ∃ s4 : Nat, rv4 = some (.ref s4) ∧ w = w4 ∧ r = r4 ∧ (xSt s4 ∧ xSr s4 r) ∧ xCall g d mX11_goOnFrom [.ref 8, .ref s4] 698 u4 w r 698 (fun rv5 u5 w5 r5 => rv5 = none ∧ w = w5 ∧ r = r5 ∧ P (some (.int (1 : Int32))) u5 w r))))) :
    xEv g (d + 1) mX11_redo 0 [some (.ref 8)] [] 698 u w r 698 P := by
  refine xe_aload_n dX11_redo_0 rfl ?_
  refine xe_getR (b := 117) dX11_redo_1 flX11_54 kk8 (xKK_lt kk8) rfl (rf8_4 hr) ?_
  refine xe_callV (args := []) dX11_redo_4 vlX11_230 rfl rfl (Nat.le_of_ble_eq_true rfl) kk117 (xKK_lt kk117) rfl rfl k (Nat.le_refl _) (fun rv1 u1 w1 r1 k => ?_)
  obtain ⟨v1, rfl, rfl, rfl, rfl, k⟩ := k
  refine xe_if_ne (tgt := 12) dX11_redo_7 rfl (fun c2 => ?_) (fun c3 => ?_)
  · have k := k.2 (fun q => (c2 q))
    refine xe_aload_n dX11_redo_12 rfl ?_
    refine xe_aload_n dX11_redo_13 rfl ?_
    refine xe_getR (b := 117) dX11_redo_14 flX11_54 kk8 (xKK_lt kk8) rfl (rf8_4 hr) ?_
    refine xe_callV (args := []) dX11_redo_17 vlX11_233 rfl rfl (Nat.le_of_ble_eq_true rfl) kk117 (xKK_lt kk117) rfl rfl k (Nat.le_refl _) (fun rv4 u4 w4 r4 k => ?_)
    obtain ⟨s4, rfl, rfl, rfl, ⟨h4, q4⟩, k⟩ := k
    refine xe_callV (args := [.ref s4]) dX11_redo_20 vlX11_227 rfl rfl (Nat.le_of_ble_eq_true rfl) kk8 (xKK_lt kk8) rfl rfl k (Nat.le_refl _) (fun rv5 u5 w5 r5 k => ?_)
    obtain ⟨rfl, rfl, rfl, k⟩ := k
    refine xe_iconst (v := 1) dX11_redo_23 rfl ?_
    exact xe_ireturn dX11_redo_24 (xrokZ (Or.inr rfl)) k
  · have k := k.1 c3
    refine xe_iconst (v := 0) dX11_redo_10 rfl ?_
    exact xe_ireturn dX11_redo_11 (xrokZ (Or.inl rfl)) k

theorem CX11_redo {g : xGT} {d : Nat} {u : xU} {w : xW} {r : xQ} {P : xPost} (hr : xRf r)
    (k : xCall g d mX6_redoable [.ref 117] 698 u w r 698 (fun rv1 u1 w1 r1 => ∃ v1 : Int32, rv1 = some (.int v1) ∧ u = u1 ∧ w = w1 ∧ r = r1 ∧ (v1 = 0 → P (some (.int (0 : Int32))) u w r) ∧ (¬ (v1 = 0) → xCall g d mX6_stepOn [.ref 117] 698 u w r 698 (fun rv4 u4 w4 r4 => ∃ s4 : Nat, rv4 = some (.ref s4) ∧ w = w4 ∧ r = r4 ∧ (xSt s4 ∧ xSr s4 r) ∧ xCall g d mX11_goOnFrom [.ref 8, .ref s4] 698 u4 w r 698 (fun rv5 u5 w5 r5 => rv5 = none ∧ w = w5 ∧ r = r5 ∧ P (some (.int (1 : Int32))) u5 w r))))) :
    xCall g (d + 1) mX11_redo [.ref 8] 698 u w r 698 P :=
  xCall.of plX11 (Nat.le_of_ble_eq_true rfl) rfl (TX11_redo_0 hr k)

/-! FuneralPost.comes -/

theorem TX11_comes_0 {g : xGT} {d : Nat} {i1 : Int32} {u : xU} {w : xW} {r : xQ} {P : xPost} (hr : xRf r)
    (k : xCall g d mX11_isOneOf [.int i1, .int (u 105 2)] 698 u w r 698 (fun rv1 u1 w1 r1 => ∃ v1 : Int32, rv1 = some (.int v1) ∧ u = u1 ∧ w = w1 ∧ r = r1 ∧ (v1 = 0 → P (some (.int (-1 : Int32))) u w r) ∧ (¬ (v1 = 0) → xCall g d mX3_runOut [.ref 79, .ref 105] 698 u w r 698 (fun rv4 u4 w4 r4 => rv4 = some (.ref 80) ∧ w = w4 ∧ r = r4 ∧ vp_in i1 10 ∧ (P (some (.int (u4 (80 + 7) i1.toNatClampNeg))) u4 w r))))) :
    xEv g (d + 1) mX11_comes 0 [some (.ref 8), some (.int i1)] [] 698 u w r 698 P := by
  refine xe_iload_n dX11_comes_0 rfl ?_
  refine xe_aload_n dX11_comes_1 rfl ?_
  refine xe_getR (b := 105) dX11_comes_2 flX11_47 kk8 (xKK_lt kk8) rfl (rf8_3 hr) ?_
  refine xe_getI dX11_comes_5 flX11_133 st105.k0 (xKK_lt st105.k0) rfl ?_
  refine xe_callS (args := [.int i1, .int (u 105 2)]) dX11_comes_8 slX11_110 rfl rfl (Nat.le_of_ble_eq_true rfl) k (Nat.le_refl _) (fun rv1 u1 w1 r1 k => ?_)
  obtain ⟨v1, rfl, rfl, rfl, rfl, k⟩ := k
  refine xe_if_ne (tgt := 16) dX11_comes_11 rfl (fun c2 => ?_) (fun c3 => ?_)
  · have k := k.2 (fun q => (c2 q))
    refine xe_aload_n dX11_comes_16 rfl ?_
    refine xe_getR (b := 79) dX11_comes_17 flX11_40 kk8 (xKK_lt kk8) rfl (rf8_2 hr) ?_
    refine xe_aload_n dX11_comes_20 rfl ?_
    refine xe_getR (b := 105) dX11_comes_21 flX11_47 kk8 (xKK_lt kk8) rfl (rf8_3 hr) ?_
    refine xe_callV (args := [.ref 105]) dX11_comes_24 vlX11_236 rfl rfl (Nat.le_of_ble_eq_true rfl) kk79 (xKK_lt kk79) rfl rfl k (Nat.le_refl _) (fun rv4 u4 w4 r4 k => ?_)
    obtain ⟨rfl, rfl, rfl, k⟩ := k
    refine xe_getR (b := (80 + 7)) dX11_comes_27 flX11_140 st80.k0 (xKK_lt st80.k0) rfl (sr80 hr).f9 ?_
    refine xe_iload_n dX11_comes_30 rfl ?_
    obtain ⟨b5, k⟩ := k
    refine xe_iald dX11_comes_31 st80.k7 (xKK_lt st80.k7) b5 ?_
    exact xe_ireturn dX11_comes_32 rfl k
  · have k := k.1 c3
    refine xe_iconst (v := -1) dX11_comes_14 rfl ?_
    exact xe_ireturn dX11_comes_15 rfl k

theorem CX11_comes {g : xGT} {d : Nat} {i1 : Int32} {u : xU} {w : xW} {r : xQ} {P : xPost} (hr : xRf r)
    (k : xCall g d mX11_isOneOf [.int i1, .int (u 105 2)] 698 u w r 698 (fun rv1 u1 w1 r1 => ∃ v1 : Int32, rv1 = some (.int v1) ∧ u = u1 ∧ w = w1 ∧ r = r1 ∧ (v1 = 0 → P (some (.int (-1 : Int32))) u w r) ∧ (¬ (v1 = 0) → xCall g d mX3_runOut [.ref 79, .ref 105] 698 u w r 698 (fun rv4 u4 w4 r4 => rv4 = some (.ref 80) ∧ w = w4 ∧ r = r4 ∧ vp_in i1 10 ∧ (P (some (.int (u4 (80 + 7) i1.toNatClampNeg))) u4 w r))))) :
    xCall g (d + 1) mX11_comes [.ref 8, .int i1] 698 u w r 698 P :=
  xCall.of plX11 (Nat.le_of_ble_eq_true rfl) rfl (TX11_comes_0 hr k)

/-! FuneralPost.late -/

theorem TX11_late_0 {g : xGT} {d : Nat} {u : xU} {w : xW} {r : xQ} {P : xPost} (hr : xRf r)
    (k : xCall g d mX3_runOut [.ref 79, .ref 105] 698 u w r 698 (fun rv1 u1 w1 r1 => rv1 = some (.ref 80) ∧ w = w1 ∧ r = r1 ∧ xEv g (d + 1) mX11_late 16 [none, some (.ref 80), some (.int (0 : Int32)), some (.int (0 : Int32))] [] 698 u1 w r 698 P)) :
    xEv g (d + 1) mX11_late 0 [some (.ref 8), none, none, none] [] 698 u w r 698 P := by
  refine xe_aload_n dX11_late_0 rfl ?_
  refine xe_getR (b := 79) dX11_late_1 flX11_40 kk8 (xKK_lt kk8) rfl (rf8_2 hr) ?_
  refine xe_aload_n dX11_late_4 rfl ?_
  refine xe_getR (b := 105) dX11_late_5 flX11_47 kk8 (xKK_lt kk8) rfl (rf8_3 hr) ?_
  refine xe_callV (args := [.ref 105]) dX11_late_8 vlX11_236 rfl rfl (Nat.le_of_ble_eq_true rfl) kk79 (xKK_lt kk79) rfl rfl k (Nat.le_refl _) (fun rv1 u1 w1 r1 k => ?_)
  obtain ⟨rfl, rfl, rfl, k⟩ := k
  refine xe_astore_n (ls' := [some (.ref 8), some (.ref 80), none, none]) dX11_late_11 rfl (by decide) rfl ?_
  refine xe_iconst (v := 0) dX11_late_12 rfl ?_
  refine xe_istore_n (ls' := [some (.ref 8), some (.ref 80), some (.int (0 : Int32)), none]) dX11_late_13 rfl (by decide) rfl ?_
  refine xe_iconst (v := 0) dX11_late_14 rfl ?_
  refine xe_istore_n (ls' := [some (.ref 8), some (.ref 80), some (.int (0 : Int32)), some (.int (0 : Int32))]) dX11_late_15 rfl (by decide) rfl ?_
  exact xEv.fewer (ls' := [none, some (.ref 80), some (.int (0 : Int32)), some (.int (0 : Int32))]) k (xfw_get (xfw_n (xfw_s (xfw_s (xfw_s (xfw_nil _))))))

theorem CX11_late {g : xGT} {d : Nat} {u : xU} {w : xW} {r : xQ} {P : xPost} (hr : xRf r)
    (k : xCall g d mX3_runOut [.ref 79, .ref 105] 698 u w r 698 (fun rv1 u1 w1 r1 => rv1 = some (.ref 80) ∧ w = w1 ∧ r = r1 ∧ xEv g (d + 1) mX11_late 16 [none, some (.ref 80), some (.int (0 : Int32)), some (.int (0 : Int32))] [] 698 u1 w r 698 P)) :
    xCall g (d + 1) mX11_late [.ref 8] 698 u w r 698 P :=
  xCall.of plX11 (Nat.le_of_ble_eq_true rfl) rfl (TX11_late_0 hr k)

theorem TX11_late_16 {g : xGT} {d : Nat} {i2 i3 : Int32} {u : xU} {w : xW} {r : xQ} {P : xPost}
    (k : ((u 80 2) ≤ i3 → P (some (.int i2)) u w r) ∧ (¬ ((u 80 2) ≤ i3) → xCall g d mX9_isInTime [.ref 80, .int i3] 698 u w r 698 (fun rv4 u4 w4 r4 => ∃ v4 : Int32, rv4 = some (.int v4) ∧ u = u4 ∧ w = w4 ∧ r = r4 ∧ (v4 = 0 → xEv g (d + 1) mX11_late 38 [none, some (.ref 80), some (.int (i2 ||| ((1 : Int32) <<< (i3 &&& 31)))), some (.int i3)] [] 698 u w r 698 P) ∧ (¬ (v4 = 0) → xEv g (d + 1) mX11_late 38 [none, some (.ref 80), some (.int i2), some (.int i3)] [] 698 u w r 698 P)))) :
    xEv g (d + 1) mX11_late 16 [none, some (.ref 80), some (.int i2), some (.int i3)] [] 698 u w r 698 P := by
  refine xe_iload_n dX11_late_16 rfl ?_
  refine xe_aload_n dX11_late_17 rfl ?_
  refine xe_getI dX11_late_18 flX11_133 st80.k0 (xKK_lt st80.k0) rfl ?_
  refine xe_icmp_ge (tgt := 44) dX11_late_21 rfl (fun c2 => ?_) (fun c3 => ?_)
  · have k := k.1 c2
    refine xe_iload_n dX11_late_44 rfl ?_
    exact xe_ireturn dX11_late_45 rfl k
  · have k := k.2 (fun q => (c3 q))
    refine xe_aload_n dX11_late_24 rfl ?_
    refine xe_iload_n dX11_late_25 rfl ?_
    refine xe_callV (args := [.int i3]) dX11_late_26 vlX11_240 rfl rfl (Nat.le_of_ble_eq_true rfl) st80.k0 (xKK_lt st80.k0) rfl rfl k (Nat.le_refl _) (fun rv4 u4 w4 r4 k => ?_)
    obtain ⟨v4, rfl, rfl, rfl, rfl, k⟩ := k
    refine xe_if_ne (tgt := 38) dX11_late_29 rfl (fun c5 => ?_) (fun c6 => ?_)
    · have k := k.2 (fun q => (c5 q))
      exact k
    · have k := k.1 c6
      refine xe_iload_n dX11_late_32 rfl ?_
      refine xe_iconst (v := 1) dX11_late_33 rfl ?_
      refine xe_iload_n dX11_late_34 rfl ?_
      refine xe_ishl dX11_late_35 ?_
      refine xe_ior dX11_late_36 ?_
      refine xe_istore_n (ls' := [none, some (.ref 80), some (.int (i2 ||| ((1 : Int32) <<< (i3 &&& 31)))), some (.int i3)]) dX11_late_37 rfl (by decide) rfl ?_
      exact k

theorem TX11_late_38 {g : xGT} {d : Nat} {i2 i3 : Int32} {u : xU} {w : xW} {r : xQ} {P : xPost}
    (k : xEv g (d + 1) mX11_late 16 [none, some (.ref 80), some (.int i2), some (.int (i3 + (1 : Int32)))] [] 698 u w r 698 P) :
    xEv g (d + 1) mX11_late 38 [none, some (.ref 80), some (.int i2), some (.int i3)] [] 698 u w r 698 P := by
  refine xe_iinc (v := (i3 + (1 : Int32))) (ls' := [none, some (.ref 80), some (.int i2), some (.int (i3 + (1 : Int32)))]) dX11_late_38 rfl (by decide) rfl rfl ?_
  refine xe_goto (tgt := 16) dX11_late_41 rfl ?_
  exact k

/-! FuneralPost.worth -/

theorem TX11_worth_0 {g : xGT} {d : Nat} {u : xU} {w : xW} {r : xQ} {P : xPost} (hr : xRf r)
    (k : xCall g d mX3_runOut [.ref 79, .ref 105] 698 u w r 698 (fun rv1 u1 w1 r1 => rv1 = some (.ref 80) ∧ w = w1 ∧ r = r1 ∧ xEv g (d + 1) mX11_worth 16 [none, some (.ref 80), some (.int (0 : Int32)), some (.int (0 : Int32))] [] 698 u1 w r 698 P)) :
    xEv g (d + 1) mX11_worth 0 [some (.ref 8), none, none, none] [] 698 u w r 698 P := by
  refine xe_aload_n dX11_worth_0 rfl ?_
  refine xe_getR (b := 79) dX11_worth_1 flX11_40 kk8 (xKK_lt kk8) rfl (rf8_2 hr) ?_
  refine xe_aload_n dX11_worth_4 rfl ?_
  refine xe_getR (b := 105) dX11_worth_5 flX11_47 kk8 (xKK_lt kk8) rfl (rf8_3 hr) ?_
  refine xe_callV (args := [.ref 105]) dX11_worth_8 vlX11_236 rfl rfl (Nat.le_of_ble_eq_true rfl) kk79 (xKK_lt kk79) rfl rfl k (Nat.le_refl _) (fun rv1 u1 w1 r1 k => ?_)
  obtain ⟨rfl, rfl, rfl, k⟩ := k
  refine xe_astore_n (ls' := [some (.ref 8), some (.ref 80), none, none]) dX11_worth_11 rfl (by decide) rfl ?_
  refine xe_iconst (v := 0) dX11_worth_12 rfl ?_
  refine xe_istore_n (ls' := [some (.ref 8), some (.ref 80), some (.int (0 : Int32)), none]) dX11_worth_13 rfl (by decide) rfl ?_
  refine xe_iconst (v := 0) dX11_worth_14 rfl ?_
  refine xe_istore_n (ls' := [some (.ref 8), some (.ref 80), some (.int (0 : Int32)), some (.int (0 : Int32))]) dX11_worth_15 rfl (by decide) rfl ?_
  exact xEv.fewer (ls' := [none, some (.ref 80), some (.int (0 : Int32)), some (.int (0 : Int32))]) k (xfw_get (xfw_n (xfw_s (xfw_s (xfw_s (xfw_nil _))))))

theorem CX11_worth {g : xGT} {d : Nat} {u : xU} {w : xW} {r : xQ} {P : xPost} (hr : xRf r)
    (k : xCall g d mX3_runOut [.ref 79, .ref 105] 698 u w r 698 (fun rv1 u1 w1 r1 => rv1 = some (.ref 80) ∧ w = w1 ∧ r = r1 ∧ xEv g (d + 1) mX11_worth 16 [none, some (.ref 80), some (.int (0 : Int32)), some (.int (0 : Int32))] [] 698 u1 w r 698 P)) :
    xCall g (d + 1) mX11_worth [.ref 8] 698 u w r 698 P :=
  xCall.of plX11 (Nat.le_of_ble_eq_true rfl) rfl (TX11_worth_0 hr k)

theorem TX11_worth_16 {g : xGT} {d : Nat} {i2 i3 : Int32} {u : xU} {w : xW} {r : xQ} {P : xPost} (hr : xRf r)
    (k : ((u 80 2) ≤ i3 → P (some (.int i2)) u w r) ∧ (¬ ((u 80 2) ≤ i3) → xCall g d mX9_isInTime [.ref 80, .int i3] 698 u w r 698 (fun rv4 u4 w4 r4 => ∃ v4 : Int32, rv4 = some (.int v4) ∧ u = u4 ∧ w = w4 ∧ r = r4 ∧ (v4 = 0 → xEv g (d + 1) mX11_worth 41 [none, some (.ref 80), some (.int i2), some (.int i3)] [] 698 u w r 698 P) ∧ (¬ (v4 = 0) → vp_in i3 10 ∧ (xEv g (d + 1) mX11_worth 41 [none, some (.ref 80), some (.int (i2 + (u (80 + 10) i3.toNatClampNeg))), some (.int i3)] [] 698 u w r 698 P))))) :
    xEv g (d + 1) mX11_worth 16 [none, some (.ref 80), some (.int i2), some (.int i3)] [] 698 u w r 698 P := by
  refine xe_iload_n dX11_worth_16 rfl ?_
  refine xe_aload_n dX11_worth_17 rfl ?_
  refine xe_getI dX11_worth_18 flX11_133 st80.k0 (xKK_lt st80.k0) rfl ?_
  refine xe_icmp_ge (tgt := 47) dX11_worth_21 rfl (fun c2 => ?_) (fun c3 => ?_)
  · have k := k.1 c2
    refine xe_iload_n dX11_worth_47 rfl ?_
    exact xe_ireturn dX11_worth_48 rfl k
  · have k := k.2 (fun q => (c3 q))
    refine xe_aload_n dX11_worth_24 rfl ?_
    refine xe_iload_n dX11_worth_25 rfl ?_
    refine xe_callV (args := [.int i3]) dX11_worth_26 vlX11_240 rfl rfl (Nat.le_of_ble_eq_true rfl) st80.k0 (xKK_lt st80.k0) rfl rfl k (Nat.le_refl _) (fun rv4 u4 w4 r4 k => ?_)
    obtain ⟨v4, rfl, rfl, rfl, rfl, k⟩ := k
    refine xe_if_eq (tgt := 41) dX11_worth_29 rfl (fun c5 => ?_) (fun c6 => ?_)
    · have k := k.1 c5
      exact k
    · have k := k.2 (fun q => (c6 q))
      refine xe_iload_n dX11_worth_32 rfl ?_
      refine xe_aload_n dX11_worth_33 rfl ?_
      refine xe_getR (b := (80 + 10)) dX11_worth_34 flX11_149 st80.k0 (xKK_lt st80.k0) rfl (sr80 hr).f12 ?_
      refine xe_iload_n dX11_worth_37 rfl ?_
      obtain ⟨b7, k⟩ := k
      refine xe_iald dX11_worth_38 st80.k10 (xKK_lt st80.k10) b7 ?_
      refine xe_iadd dX11_worth_39 ?_
      refine xe_istore_n (ls' := [none, some (.ref 80), some (.int (i2 + (u (80 + 10) i3.toNatClampNeg))), some (.int i3)]) dX11_worth_40 rfl (by decide) rfl ?_
      exact k

theorem TX11_worth_41 {g : xGT} {d : Nat} {i2 i3 : Int32} {u : xU} {w : xW} {r : xQ} {P : xPost}
    (k : xEv g (d + 1) mX11_worth 16 [none, some (.ref 80), some (.int i2), some (.int (i3 + (1 : Int32)))] [] 698 u w r 698 P) :
    xEv g (d + 1) mX11_worth 41 [none, some (.ref 80), some (.int i2), some (.int i3)] [] 698 u w r 698 P := by
  refine xe_iinc (v := (i3 + (1 : Int32))) (ls' := [none, some (.ref 80), some (.int i2), some (.int (i3 + (1 : Int32)))]) dX11_worth_41 rfl (by decide) rfl rfl ?_
  refine xe_goto (tgt := 16) dX11_worth_44 rfl ?_
  exact k

/-! FuneralPost.stuck -/

theorem TX11_stuck_0 {g : xGT} {d : Nat} {u : xU} {w : xW} {r : xQ} {P : xPost} (hr : xRf r)
    (k : xCall g d mX3_runOut [.ref 79, .ref 105] 698 u w r 698 (fun rv1 u1 w1 r1 => rv1 = some (.ref 80) ∧ w = w1 ∧ r = r1 ∧ xEv g (d + 1) mX11_stuck 16 [some (.ref 8), some (.ref 80), some (.int (0 : Int32)), some (.int (0 : Int32)), none] [] 698 u1 w r 698 P)) :
    xEv g (d + 1) mX11_stuck 0 [some (.ref 8), none, none, none, none] [] 698 u w r 698 P := by
  refine xe_aload_n dX11_stuck_0 rfl ?_
  refine xe_getR (b := 79) dX11_stuck_1 flX11_40 kk8 (xKK_lt kk8) rfl (rf8_2 hr) ?_
  refine xe_aload_n dX11_stuck_4 rfl ?_
  refine xe_getR (b := 105) dX11_stuck_5 flX11_47 kk8 (xKK_lt kk8) rfl (rf8_3 hr) ?_
  refine xe_callV (args := [.ref 105]) dX11_stuck_8 vlX11_236 rfl rfl (Nat.le_of_ble_eq_true rfl) kk79 (xKK_lt kk79) rfl rfl k (Nat.le_refl _) (fun rv1 u1 w1 r1 k => ?_)
  obtain ⟨rfl, rfl, rfl, k⟩ := k
  refine xe_astore_n (ls' := [some (.ref 8), some (.ref 80), none, none, none]) dX11_stuck_11 rfl (by decide) rfl ?_
  refine xe_iconst (v := 0) dX11_stuck_12 rfl ?_
  refine xe_istore_n (ls' := [some (.ref 8), some (.ref 80), some (.int (0 : Int32)), none, none]) dX11_stuck_13 rfl (by decide) rfl ?_
  refine xe_iconst (v := 0) dX11_stuck_14 rfl ?_
  refine xe_istore_n (ls' := [some (.ref 8), some (.ref 80), some (.int (0 : Int32)), some (.int (0 : Int32)), none]) dX11_stuck_15 rfl (by decide) rfl ?_
  exact k

theorem CX11_stuck {g : xGT} {d : Nat} {u : xU} {w : xW} {r : xQ} {P : xPost} (hr : xRf r)
    (k : xCall g d mX3_runOut [.ref 79, .ref 105] 698 u w r 698 (fun rv1 u1 w1 r1 => rv1 = some (.ref 80) ∧ w = w1 ∧ r = r1 ∧ xEv g (d + 1) mX11_stuck 16 [some (.ref 8), some (.ref 80), some (.int (0 : Int32)), some (.int (0 : Int32)), none] [] 698 u1 w r 698 P)) :
    xCall g (d + 1) mX11_stuck [.ref 8] 698 u w r 698 P :=
  xCall.of plX11 (Nat.le_of_ble_eq_true rfl) rfl (TX11_stuck_0 hr k)

theorem TX11_stuck_16 {g : xGT} {d : Nat} {i2 i3 : Int32} {u : xU} {w : xW} {r : xQ} {P : xPost} (hr : xRf r)
    (k : ((u 105 2) ≤ i3 → P (some (.int i2)) u w r) ∧ (¬ ((u 105 2) ≤ i3) → vp_in i3 10 ∧ (((¬ ((u (105 + 5) i3.toNatClampNeg) = (-1 : Int32)) ∧ ¬ ((xb ((u (80 + 7) i3.toNatClampNeg) = (-1 : Int32) ∧ (u (80 + 11) i3.toNatClampNeg) = (u (105 + 11) i3.toNatClampNeg))) = 0)) → xEv g (d + 1) mX11_stuck 86 [some (.ref 8), some (.ref 80), some (.int (i2 ||| ((1 : Int32) <<< (i3 &&& 31)))), some (.int i3), none] [] 698 u w r 698 P) ∧ (¬ (¬ ((u (105 + 5) i3.toNatClampNeg) = (-1 : Int32)) ∧ ¬ ((xb ((u (80 + 7) i3.toNatClampNeg) = (-1 : Int32) ∧ (u (80 + 11) i3.toNatClampNeg) = (u (105 + 11) i3.toNatClampNeg))) = 0)) → xEv g (d + 1) mX11_stuck 86 [some (.ref 8), some (.ref 80), some (.int i2), some (.int i3), none] [] 698 u w r 698 P)))) :
    xEv g (d + 1) mX11_stuck 16 [some (.ref 8), some (.ref 80), some (.int i2), some (.int i3), none] [] 698 u w r 698 P := by
  refine xe_iload_n dX11_stuck_16 rfl ?_
  refine xe_aload_n dX11_stuck_17 rfl ?_
  refine xe_getR (b := 105) dX11_stuck_18 flX11_47 kk8 (xKK_lt kk8) rfl (rf8_3 hr) ?_
  refine xe_getI dX11_stuck_21 flX11_133 st105.k0 (xKK_lt st105.k0) rfl ?_
  refine xe_icmp_ge (tgt := 92) dX11_stuck_24 rfl (fun c2 => ?_) (fun c3 => ?_)
  · have k := k.1 c2
    refine xe_iload_n dX11_stuck_92 rfl ?_
    exact xe_ireturn dX11_stuck_93 rfl k
  · have k := k.2 (fun q => (c3 q))
    refine xe_aload_n dX11_stuck_27 rfl ?_
    refine xe_getR (b := (80 + 7)) dX11_stuck_28 flX11_140 st80.k0 (xKK_lt st80.k0) rfl (sr80 hr).f9 ?_
    refine xe_iload_n dX11_stuck_31 rfl ?_
    obtain ⟨b4, k⟩ := k
    refine xe_iald dX11_stuck_32 st80.k7 (xKK_lt st80.k7) b4 ?_
    refine xe_iconst (v := -1) dX11_stuck_33 rfl ?_
    have K15 : xEv g (d + 1) mX11_stuck 60 [some (.ref 8), some (.ref 80), some (.int i2), some (.int i3), none] [.int (xb ((u (80 + 7) i3.toNatClampNeg) = (-1 : Int32) ∧ (u (80 + 11) i3.toNatClampNeg) = (u (105 + 11) i3.toNatClampNeg)))] 698 u w r 698 P := by
      refine xe_istore (ls' := [some (.ref 8), some (.ref 80), some (.int i2), some (.int i3), some (.int (xb ((u (80 + 7) i3.toNatClampNeg) = (-1 : Int32) ∧ (u (80 + 11) i3.toNatClampNeg) = (u (105 + 11) i3.toNatClampNeg))))]) dX11_stuck_60 (by decide) rfl ?_
      refine xe_aload_n dX11_stuck_62 rfl ?_
      refine xe_getR (b := 105) dX11_stuck_63 flX11_47 kk8 (xKK_lt kk8) rfl (rf8_3 hr) ?_
      refine xe_getR (b := (105 + 5)) dX11_stuck_66 flX11_134 st105.k0 (xKK_lt st105.k0) rfl (sr105 hr).f7 ?_
      refine xe_iload_n dX11_stuck_69 rfl ?_
      refine xe_iald dX11_stuck_70 st105.k5 (xKK_lt st105.k5) b4 ?_
      refine xe_iconst (v := -1) dX11_stuck_71 rfl ?_
      have K13 : ¬ (¬ ((u (105 + 5) i3.toNatClampNeg) = (-1 : Int32)) ∧ ¬ ((xb ((u (80 + 7) i3.toNatClampNeg) = (-1 : Int32) ∧ (u (80 + 11) i3.toNatClampNeg) = (u (105 + 11) i3.toNatClampNeg))) = 0)) → xEv g (d + 1) mX11_stuck 86 [some (.ref 8), some (.ref 80), some (.int i2), some (.int i3), some (.int (xb ((u (80 + 7) i3.toNatClampNeg) = (-1 : Int32) ∧ (u (80 + 11) i3.toNatClampNeg) = (u (105 + 11) i3.toNatClampNeg))))] [] 698 u w r 698 P := fun c14 => by
        have k := k.2 c14
        exact xEv.fewer (ls' := [some (.ref 8), some (.ref 80), some (.int i2), some (.int i3), none]) k (xfw_get (xfw_s (xfw_s (xfw_s (xfw_s (xfw_n (xfw_nil _)))))))
      refine xe_icmp_eq (tgt := 86) dX11_stuck_72 rfl (fun c9 => ?_) (fun c10 => ?_)
      · exact K13 (fun q => (q.1 c9))
      · refine xe_iload dX11_stuck_75 rfl ?_
        refine xe_if_eq (tgt := 86) dX11_stuck_77 rfl (fun c11 => ?_) (fun c12 => ?_)
        · exact K13 (fun q => (q.2 c11))
        · have k := k.1 ⟨c10, c12⟩
          refine xe_iload_n dX11_stuck_80 rfl ?_
          refine xe_iconst (v := 1) dX11_stuck_81 rfl ?_
          refine xe_iload_n dX11_stuck_82 rfl ?_
          refine xe_ishl dX11_stuck_83 ?_
          refine xe_ior dX11_stuck_84 ?_
          refine xe_istore_n (ls' := [some (.ref 8), some (.ref 80), some (.int (i2 ||| ((1 : Int32) <<< (i3 &&& 31)))), some (.int i3), some (.int (xb ((u (80 + 7) i3.toNatClampNeg) = (-1 : Int32) ∧ (u (80 + 11) i3.toNatClampNeg) = (u (105 + 11) i3.toNatClampNeg))))]) dX11_stuck_85 rfl (by decide) rfl ?_
          exact xEv.fewer (ls' := [some (.ref 8), some (.ref 80), some (.int (i2 ||| ((1 : Int32) <<< (i3 &&& 31)))), some (.int i3), none]) k (xfw_get (xfw_s (xfw_s (xfw_s (xfw_s (xfw_n (xfw_nil _)))))))
    refine xe_icmp_ne (tgt := 59) dX11_stuck_34 rfl (fun c5 => ?_) (fun c6 => ?_)
    · refine xe_iconst (v := 0) dX11_stuck_59 rfl ?_
      exact xtop (xb_neg (show ¬ ((u (80 + 7) i3.toNatClampNeg) = (-1 : Int32) ∧ (u (80 + 11) i3.toNatClampNeg) = (u (105 + 11) i3.toNatClampNeg)) from (fun q => (c5 q.1)))) K15
    · refine xe_aload_n dX11_stuck_37 rfl ?_
      refine xe_getR (b := (80 + 11)) dX11_stuck_38 flX11_152 st80.k0 (xKK_lt st80.k0) rfl (sr80 hr).f13 ?_
      refine xe_iload_n dX11_stuck_41 rfl ?_
      refine xe_iald dX11_stuck_42 st80.k11 (xKK_lt st80.k11) b4 ?_
      refine xe_aload_n dX11_stuck_43 rfl ?_
      refine xe_getR (b := 105) dX11_stuck_44 flX11_47 kk8 (xKK_lt kk8) rfl (rf8_3 hr) ?_
      refine xe_getR (b := (105 + 11)) dX11_stuck_47 flX11_152 st105.k0 (xKK_lt st105.k0) rfl (sr105 hr).f13 ?_
      refine xe_iload_n dX11_stuck_50 rfl ?_
      refine xe_iald dX11_stuck_51 st105.k11 (xKK_lt st105.k11) b4 ?_
      refine xe_icmp_ne (tgt := 59) dX11_stuck_52 rfl (fun c7 => ?_) (fun c8 => ?_)
      · refine xe_iconst (v := 0) dX11_stuck_59 rfl ?_
        exact xtop (xb_neg (show ¬ ((u (80 + 7) i3.toNatClampNeg) = (-1 : Int32) ∧ (u (80 + 11) i3.toNatClampNeg) = (u (105 + 11) i3.toNatClampNeg)) from (fun q => (c7 q.2)))) K15
      · refine xe_iconst (v := 1) dX11_stuck_55 rfl ?_
        refine xe_goto (tgt := 60) dX11_stuck_56 rfl ?_
        exact xtop (xb_pos (show ((u (80 + 7) i3.toNatClampNeg) = (-1 : Int32) ∧ (u (80 + 11) i3.toNatClampNeg) = (u (105 + 11) i3.toNatClampNeg)) from ⟨c6, c8⟩)) K15

theorem TX11_stuck_86 {g : xGT} {d : Nat} {i2 i3 : Int32} {u : xU} {w : xW} {r : xQ} {P : xPost}
    (k : xEv g (d + 1) mX11_stuck 16 [some (.ref 8), some (.ref 80), some (.int i2), some (.int (i3 + (1 : Int32))), none] [] 698 u w r 698 P) :
    xEv g (d + 1) mX11_stuck 86 [some (.ref 8), some (.ref 80), some (.int i2), some (.int i3), none] [] 698 u w r 698 P := by
  refine xe_iinc (v := (i3 + (1 : Int32))) (ls' := [some (.ref 8), some (.ref 80), some (.int i2), some (.int (i3 + (1 : Int32))), none]) dX11_stuck_86 rfl (by decide) rfl rfl ?_
  refine xe_goto (tgt := 16) dX11_stuck_89 rfl ?_
  exact k

/-! FuneralPost.meets -/

theorem TX11_meets_0 {g : xGT} {d : Nat} {i1 i2 i3 : Int32} {u : xU} {w : xW} {r : xQ} {P : xPost} (hr : xRf r)
    (k : xCall g d mX11_areTwoBiers [.ref 8, .int i1, .int i2] 698 u w r 698 (fun rv1 u1 w1 r1 => ∃ v1 : Int32, rv1 = some (.int v1) ∧ u = u1 ∧ w = w1 ∧ r = r1 ∧ (v1 = 0 → P (some (.int (-1 : Int32))) u w r) ∧ (¬ (v1 = 0) → xCall g d mX3_findMeeting [.ref 79, .ref 105, .int i1, .int i2] 698 u w r 698 (fun rv4 u4 w4 r4 => ∃ v4 : Int32, rv4 = some (.int v4) ∧ w = w4 ∧ r = r4 ∧ (v4 = 0 → P (some (.int (-1 : Int32))) u4 w r) ∧ (¬ (v4 = 0) → (i3 = 0 → P (some (.int (u4 79 7))) u4 w r) ∧ (¬ (i3 = 0) → P (some (.int (if i3 = (1 : Int32) then (u4 79 8) else (-1 : Int32)))) u4 w r)))))) :
    xEv g (d + 1) mX11_meets 0 [some (.ref 8), some (.int i1), some (.int i2), some (.int i3)] [] 698 u w r 698 P := by
  refine xe_aload_n dX11_meets_0 rfl ?_
  refine xe_iload_n dX11_meets_1 rfl ?_
  refine xe_iload_n dX11_meets_2 rfl ?_
  refine xe_callV (args := [.int i1, .int i2]) dX11_meets_3 vlX11_244 rfl rfl (Nat.le_of_ble_eq_true rfl) kk8 (xKK_lt kk8) rfl rfl k (Nat.le_refl _) (fun rv1 u1 w1 r1 k => ?_)
  obtain ⟨v1, rfl, rfl, rfl, rfl, k⟩ := k
  refine xe_if_eq (tgt := 25) dX11_meets_6 rfl (fun c2 => ?_) (fun c3 => ?_)
  · have k := k.1 c2
    refine xe_iconst (v := -1) dX11_meets_25 rfl ?_
    exact xe_ireturn dX11_meets_26 rfl k
  · have k := k.2 (fun q => (c3 q))
    refine xe_aload_n dX11_meets_9 rfl ?_
    refine xe_getR (b := 79) dX11_meets_10 flX11_40 kk8 (xKK_lt kk8) rfl (rf8_2 hr) ?_
    refine xe_aload_n dX11_meets_13 rfl ?_
    refine xe_getR (b := 105) dX11_meets_14 flX11_47 kk8 (xKK_lt kk8) rfl (rf8_3 hr) ?_
    refine xe_iload_n dX11_meets_17 rfl ?_
    refine xe_iload_n dX11_meets_18 rfl ?_
    refine xe_callV (args := [.ref 105, .int i1, .int i2]) dX11_meets_19 vlX11_247 rfl rfl (Nat.le_of_ble_eq_true rfl) kk79 (xKK_lt kk79) rfl rfl k (Nat.le_refl _) (fun rv4 u4 w4 r4 k => ?_)
    obtain ⟨v4, rfl, rfl, rfl, k⟩ := k
    refine xe_if_ne (tgt := 27) dX11_meets_22 rfl (fun c5 => ?_) (fun c6 => ?_)
    · have k := k.2 (fun q => (c5 q))
      refine xe_iload_n dX11_meets_27 rfl ?_
      refine xe_if_ne (tgt := 39) dX11_meets_28 rfl (fun c7 => ?_) (fun c8 => ?_)
      · have k := k.2 (fun q => (c7 q))
        refine xe_iload_n dX11_meets_39 rfl ?_
        refine xe_iconst (v := 1) dX11_meets_40 rfl ?_
        have K11 : xEv g (d + 1) mX11_meets 55 [some (.ref 8), some (.int i1), some (.int i2), some (.int i3)] [.int (if i3 = (1 : Int32) then (u4 79 8) else (-1 : Int32))] 698 u4 w r 698 P := by
          exact xe_ireturn dX11_meets_55 rfl k
        refine xe_icmp_ne (tgt := 54) dX11_meets_41 rfl (fun c9 => ?_) (fun c10 => ?_)
        · refine xe_iconst (v := -1) dX11_meets_54 rfl ?_
          exact xtop (if_neg (fun q => (c9 q))) K11
        · refine xe_aload_n dX11_meets_44 rfl ?_
          refine xe_getR (b := 79) dX11_meets_45 flX11_40 kk8 (xKK_lt kk8) rfl (rf8_2 hr) ?_
          refine xe_getI dX11_meets_48 flX11_254 kk79 (xKK_lt kk79) rfl ?_
          refine xe_goto (tgt := 55) dX11_meets_51 rfl ?_
          exact xtop (if_pos c10) K11
      · have k := k.1 c8
        refine xe_aload_n dX11_meets_31 rfl ?_
        refine xe_getR (b := 79) dX11_meets_32 flX11_40 kk8 (xKK_lt kk8) rfl (rf8_2 hr) ?_
        refine xe_getI dX11_meets_35 flX11_251 kk79 (xKK_lt kk79) rfl ?_
        exact xe_ireturn dX11_meets_38 rfl k
    · have k := k.1 c6
      refine xe_iconst (v := -1) dX11_meets_25 rfl ?_
      exact xe_ireturn dX11_meets_26 rfl k

theorem CX11_meets {g : xGT} {d : Nat} {i1 i2 i3 : Int32} {u : xU} {w : xW} {r : xQ} {P : xPost} (hr : xRf r)
    (k : xCall g d mX11_areTwoBiers [.ref 8, .int i1, .int i2] 698 u w r 698 (fun rv1 u1 w1 r1 => ∃ v1 : Int32, rv1 = some (.int v1) ∧ u = u1 ∧ w = w1 ∧ r = r1 ∧ (v1 = 0 → P (some (.int (-1 : Int32))) u w r) ∧ (¬ (v1 = 0) → xCall g d mX3_findMeeting [.ref 79, .ref 105, .int i1, .int i2] 698 u w r 698 (fun rv4 u4 w4 r4 => ∃ v4 : Int32, rv4 = some (.int v4) ∧ w = w4 ∧ r = r4 ∧ (v4 = 0 → P (some (.int (-1 : Int32))) u4 w r) ∧ (¬ (v4 = 0) → (i3 = 0 → P (some (.int (u4 79 7))) u4 w r) ∧ (¬ (i3 = 0) → P (some (.int (if i3 = (1 : Int32) then (u4 79 8) else (-1 : Int32)))) u4 w r)))))) :
    xCall g (d + 1) mX11_meets [.ref 8, .int i1, .int i2, .int i3] 698 u w r 698 P :=
  xCall.of plX11 (Nat.le_of_ble_eq_true rfl) rfl (TX11_meets_0 hr k)

/-! FuneralPost.buried -/

theorem TX11_buried_0 {g : xGT} {d : Nat} {i1 : Int32} {l : Nat} {u : xU} {w : xW} {r : xQ} {P : xPost} (hr : xRf r) (h_l : xLd l) (hm_told : r 8 10 = some l)
    (k : xCall g d mX11_isOneOf [.int i1, .int (u l 5)] 698 u w r 698 (fun rv1 u1 w1 r1 => ∃ v1 : Int32, rv1 = some (.int v1) ∧ u = u1 ∧ w = w1 ∧ r = r1 ∧ (v1 = 0 → P (some (.int (-1 : Int32))) u w r) ∧ (¬ (v1 = 0) → vp_in i1 6 ∧ (((u (105 + 1) i1.toNatClampNeg) = (3 : Int32) → P (some (.int (u 105 0))) u w r) ∧ (¬ ((u (105 + 1) i1.toNatClampNeg) = (3 : Int32)) → xCall g d mX3_runOut [.ref 79, .ref 105] 698 u w r 698 (fun rv7 u7 w7 r7 => rv7 = some (.ref 80) ∧ w = w7 ∧ r = r7 ∧ P (some (.int (if (u7 (80 + 1) i1.toNatClampNeg) = (3 : Int32) then (u7 (80 + 3) i1.toNatClampNeg) else (-1 : Int32)))) u7 w r)))))) :
    xEv g (d + 1) mX11_buried 0 [some (.ref 8), some (.int i1), none] [] 698 u w r 698 P := by
  refine xe_iload_n dX11_buried_0 rfl ?_
  refine xe_aload_n dX11_buried_1 rfl ?_
  refine xe_getR (b := l) dX11_buried_2 flX11_19 kk8 (xKK_lt kk8) rfl hm_told ?_
  refine xe_getI dX11_buried_5 flX11_107 h_l.k0 (xKK_lt h_l.k0) rfl ?_
  refine xe_callS (args := [.int i1, .int (u l 5)]) dX11_buried_8 slX11_110 rfl rfl (Nat.le_of_ble_eq_true rfl) k (Nat.le_refl _) (fun rv1 u1 w1 r1 k => ?_)
  obtain ⟨v1, rfl, rfl, rfl, rfl, k⟩ := k
  refine xe_if_ne (tgt := 16) dX11_buried_11 rfl (fun c2 => ?_) (fun c3 => ?_)
  · have k := k.2 (fun q => (c2 q))
    refine xe_aload_n dX11_buried_16 rfl ?_
    refine xe_getR (b := 105) dX11_buried_17 flX11_47 kk8 (xKK_lt kk8) rfl (rf8_3 hr) ?_
    refine xe_getR (b := (105 + 1)) dX11_buried_20 flX11_114 st105.k0 (xKK_lt st105.k0) rfl (sr105 hr).f3 ?_
    refine xe_iload_n dX11_buried_23 rfl ?_
    obtain ⟨b4, k⟩ := k
    refine xe_iald dX11_buried_24 st105.k1 (xKK_lt st105.k1) b4 ?_
    refine xe_iconst (v := 3) dX11_buried_25 rfl ?_
    refine xe_icmp_ne (tgt := 37) dX11_buried_26 rfl (fun c5 => ?_) (fun c6 => ?_)
    · have k := k.2 (fun q => (c5 q))
      refine xe_aload_n dX11_buried_37 rfl ?_
      refine xe_getR (b := 79) dX11_buried_38 flX11_40 kk8 (xKK_lt kk8) rfl (rf8_2 hr) ?_
      refine xe_aload_n dX11_buried_41 rfl ?_
      refine xe_getR (b := 105) dX11_buried_42 flX11_47 kk8 (xKK_lt kk8) rfl (rf8_3 hr) ?_
      refine xe_callV (args := [.ref 105]) dX11_buried_45 vlX11_236 rfl rfl (Nat.le_of_ble_eq_true rfl) kk79 (xKK_lt kk79) rfl rfl k (Nat.le_refl _) (fun rv7 u7 w7 r7 k => ?_)
      obtain ⟨rfl, rfl, rfl, k⟩ := k
      refine xe_astore_n (ls' := [some (.ref 8), some (.int i1), some (.ref 80)]) dX11_buried_48 rfl (by decide) rfl ?_
      refine xe_aload_n dX11_buried_49 rfl ?_
      refine xe_getR (b := (80 + 1)) dX11_buried_50 flX11_114 st80.k0 (xKK_lt st80.k0) rfl (sr80 hr).f3 ?_
      refine xe_iload_n dX11_buried_53 rfl ?_
      refine xe_iald dX11_buried_54 st80.k1 (xKK_lt st80.k1) b4 ?_
      refine xe_iconst (v := 3) dX11_buried_55 rfl ?_
      have K10 : xEv g (d + 1) mX11_buried 69 [some (.ref 8), some (.int i1), some (.ref 80)] [.int (if (u7 (80 + 1) i1.toNatClampNeg) = (3 : Int32) then (u7 (80 + 3) i1.toNatClampNeg) else (-1 : Int32))] 698 u7 w r 698 P := by
        exact xe_ireturn dX11_buried_69 rfl k
      refine xe_icmp_ne (tgt := 68) dX11_buried_56 rfl (fun c8 => ?_) (fun c9 => ?_)
      · refine xe_iconst (v := -1) dX11_buried_68 rfl ?_
        exact xtop (if_neg (fun q => (c8 q))) K10
      · refine xe_aload_n dX11_buried_59 rfl ?_
        refine xe_getR (b := (80 + 3)) dX11_buried_60 flX11_120 st80.k0 (xKK_lt st80.k0) rfl (sr80 hr).f5 ?_
        refine xe_iload_n dX11_buried_63 rfl ?_
        refine xe_iald dX11_buried_64 st80.k3 (xKK_lt st80.k3) b4 ?_
        refine xe_goto (tgt := 69) dX11_buried_65 rfl ?_
        exact xtop (if_pos c9) K10
    · have k := k.1 c6
      refine xe_aload_n dX11_buried_29 rfl ?_
      refine xe_getR (b := 105) dX11_buried_30 flX11_47 kk8 (xKK_lt kk8) rfl (rf8_3 hr) ?_
      refine xe_getI dX11_buried_33 flX11_178 st105.k0 (xKK_lt st105.k0) rfl ?_
      exact xe_ireturn dX11_buried_36 rfl k
  · have k := k.1 c3
    refine xe_iconst (v := -1) dX11_buried_14 rfl ?_
    exact xe_ireturn dX11_buried_15 rfl k

theorem CX11_buried {g : xGT} {d : Nat} {i1 : Int32} {l : Nat} {u : xU} {w : xW} {r : xQ} {P : xPost} (hr : xRf r) (h_l : xLd l) (hm_told : r 8 10 = some l)
    (k : xCall g d mX11_isOneOf [.int i1, .int (u l 5)] 698 u w r 698 (fun rv1 u1 w1 r1 => ∃ v1 : Int32, rv1 = some (.int v1) ∧ u = u1 ∧ w = w1 ∧ r = r1 ∧ (v1 = 0 → P (some (.int (-1 : Int32))) u w r) ∧ (¬ (v1 = 0) → vp_in i1 6 ∧ (((u (105 + 1) i1.toNatClampNeg) = (3 : Int32) → P (some (.int (u 105 0))) u w r) ∧ (¬ ((u (105 + 1) i1.toNatClampNeg) = (3 : Int32)) → xCall g d mX3_runOut [.ref 79, .ref 105] 698 u w r 698 (fun rv7 u7 w7 r7 => rv7 = some (.ref 80) ∧ w = w7 ∧ r = r7 ∧ P (some (.int (if (u7 (80 + 1) i1.toNatClampNeg) = (3 : Int32) then (u7 (80 + 3) i1.toNatClampNeg) else (-1 : Int32)))) u7 w r)))))) :
    xCall g (d + 1) mX11_buried [.ref 8, .int i1] 698 u w r 698 P :=
  xCall.of plX11 (Nat.le_of_ble_eq_true rfl) rfl (TX11_buried_0 hr h_l hm_told k)

/-! FuneralPost.swap -/

theorem TX11_swap_0 {g : xGT} {d : Nat} {i1 i2 i3 : Int32} {u : xU} {w : xW} {r : xQ} {P : xPost} (hr : xRf r)
    (k : xCall g d mX11_areTwoBiers [.ref 8, .int i1, .int i2] 698 u w r 698 (fun rv1 u1 w1 r1 => ∃ v1 : Int32, rv1 = some (.int v1) ∧ u = u1 ∧ w = w1 ∧ r = r1 ∧ (v1 = 0 → P (some (.int (-1 : Int32))) u w r) ∧ (¬ (v1 = 0) → xCall g d mX9_standsIn [.ref 105, .int i1] 698 u w r 698 (fun rv4 u4 w4 r4 => ∃ v4 : Int32, rv4 = some (.int v4) ∧ u = u4 ∧ w = w4 ∧ r = r4 ∧ (v4 = (-1 : Int32) → P (some (.int (-1 : Int32))) u w r) ∧ (¬ (v4 = (-1 : Int32)) → xCall g d mX9_standsIn [.ref 105, .int i2] 698 u w r 698 (fun rv7 u7 w7 r7 => ∃ v7 : Int32, rv7 = some (.int v7) ∧ u = u7 ∧ w = w7 ∧ r = r7 ∧ (v7 = v4 → xCall g d mX3_findSwap [.ref 79, .ref 105, .int i1, .int i2] 698 u w r 698 (fun rv10 u10 w10 r10 => rv10 = none ∧ w = w10 ∧ r = r10 ∧ (i3 = 0 → P (some (.int (u10 79 11))) u10 w r) ∧ (i3 = 1 → P (some (.int (u10 79 12))) u10 w r) ∧ (i3 = 2 → P (some (.int (u10 79 13))) u10 w r) ∧ (¬ i3 = 0 → ¬ i3 = 1 → ¬ i3 = 2 → P (some (.int (-1 : Int32))) u10 w r))) ∧ (¬ (v7 = v4) → P (some (.int (-1 : Int32))) u w r))))))) :
    xEv g (d + 1) mX11_swap 0 [some (.ref 8), some (.int i1), some (.int i2), some (.int i3), none] [] 698 u w r 698 P := by
  refine xe_aload_n dX11_swap_0 rfl ?_
  refine xe_iload_n dX11_swap_1 rfl ?_
  refine xe_iload_n dX11_swap_2 rfl ?_
  refine xe_callV (args := [.int i1, .int i2]) dX11_swap_3 vlX11_244 rfl rfl (Nat.le_of_ble_eq_true rfl) kk8 (xKK_lt kk8) rfl rfl k (Nat.le_refl _) (fun rv1 u1 w1 r1 k => ?_)
  obtain ⟨v1, rfl, rfl, rfl, rfl, k⟩ := k
  refine xe_if_ne (tgt := 11) dX11_swap_6 rfl (fun c2 => ?_) (fun c3 => ?_)
  · have k := k.2 (fun q => (c2 q))
    refine xe_aload_n dX11_swap_11 rfl ?_
    refine xe_getR (b := 105) dX11_swap_12 flX11_47 kk8 (xKK_lt kk8) rfl (rf8_3 hr) ?_
    refine xe_iload_n dX11_swap_15 rfl ?_
    refine xe_callV (args := [.int i1]) dX11_swap_16 vlX11_196 rfl rfl (Nat.le_of_ble_eq_true rfl) st105.k0 (xKK_lt st105.k0) rfl rfl k (Nat.le_refl _) (fun rv4 u4 w4 r4 k => ?_)
    obtain ⟨v4, rfl, rfl, rfl, rfl, k⟩ := k
    refine xe_istore (ls' := [some (.ref 8), some (.int i1), some (.int i2), some (.int i3), some (.int v4)]) dX11_swap_19 (by decide) rfl ?_
    refine xe_iload dX11_swap_21 rfl ?_
    refine xe_iconst (v := -1) dX11_swap_23 rfl ?_
    refine xe_icmp_eq (tgt := 40) dX11_swap_24 rfl (fun c5 => ?_) (fun c6 => ?_)
    · have k := k.1 c5
      refine xe_iconst (v := -1) dX11_swap_40 rfl ?_
      exact xe_ireturn dX11_swap_41 rfl k
    · have k := k.2 (fun q => (c6 q))
      refine xe_aload_n dX11_swap_27 rfl ?_
      refine xe_getR (b := 105) dX11_swap_28 flX11_47 kk8 (xKK_lt kk8) rfl (rf8_3 hr) ?_
      refine xe_iload_n dX11_swap_31 rfl ?_
      refine xe_callV (args := [.int i2]) dX11_swap_32 vlX11_196 rfl rfl (Nat.le_of_ble_eq_true rfl) st105.k0 (xKK_lt st105.k0) rfl rfl k (Nat.le_refl _) (fun rv7 u7 w7 r7 k => ?_)
      obtain ⟨v7, rfl, rfl, rfl, rfl, k⟩ := k
      refine xe_iload dX11_swap_35 rfl ?_
      refine xe_icmp_eq (tgt := 42) dX11_swap_37 rfl (fun c8 => ?_) (fun c9 => ?_)
      · have k := k.1 c8
        refine xe_aload_n dX11_swap_42 rfl ?_
        refine xe_getR (b := 79) dX11_swap_43 flX11_40 kk8 (xKK_lt kk8) rfl (rf8_2 hr) ?_
        refine xe_aload_n dX11_swap_46 rfl ?_
        refine xe_getR (b := 105) dX11_swap_47 flX11_47 kk8 (xKK_lt kk8) rfl (rf8_3 hr) ?_
        refine xe_iload_n dX11_swap_50 rfl ?_
        refine xe_iload_n dX11_swap_51 rfl ?_
        refine xe_callV (args := [.ref 105, .int i1, .int i2]) dX11_swap_52 vlX11_257 rfl rfl (Nat.le_of_ble_eq_true rfl) kk79 (xKK_lt kk79) rfl rfl k (Nat.le_refl _) (fun rv10 u10 w10 r10 k => ?_)
        obtain ⟨rfl, rfl, rfl, k⟩ := k
        refine xe_iload_n dX11_swap_55 rfl ?_
        by_cases c11 : i3 = 0
        · have k := k.1 c11
          refine xe_tableIn (tgt := 84) dX11_swap_56 (by rw [c11]; decide) (by rw [c11]; decide) (by rw [c11]; rfl) rfl ?_
          refine xe_aload_n dX11_swap_84 rfl ?_
          refine xe_getR (b := 79) dX11_swap_85 flX11_40 kk8 (xKK_lt kk8) rfl (rf8_2 hr) ?_
          refine xe_getI dX11_swap_88 flX11_261 kk79 (xKK_lt kk79) rfl ?_
          exact xe_ireturn dX11_swap_91 rfl k
        by_cases c12 : i3 = 1
        · have k := k.2.1 c12
          refine xe_tableIn (tgt := 92) dX11_swap_56 (by rw [c12]; decide) (by rw [c12]; decide) (by rw [c12]; rfl) rfl ?_
          refine xe_aload_n dX11_swap_92 rfl ?_
          refine xe_getR (b := 79) dX11_swap_93 flX11_40 kk8 (xKK_lt kk8) rfl (rf8_2 hr) ?_
          refine xe_getI dX11_swap_96 flX11_264 kk79 (xKK_lt kk79) rfl ?_
          exact xe_ireturn dX11_swap_99 rfl k
        by_cases c13 : i3 = 2
        · have k := k.2.2.1 c13
          refine xe_tableIn (tgt := 100) dX11_swap_56 (by rw [c13]; decide) (by rw [c13]; decide) (by rw [c13]; rfl) rfl ?_
          refine xe_aload_n dX11_swap_100 rfl ?_
          refine xe_getR (b := 79) dX11_swap_101 flX11_40 kk8 (xKK_lt kk8) rfl (rf8_2 hr) ?_
          refine xe_getI dX11_swap_104 flX11_267 kk79 (xKK_lt kk79) rfl ?_
          exact xe_ireturn dX11_swap_107 rfl k
        have k := k.2.2.2 c11 c12 c13
        have K14 : xEv g (d + 1) mX11_swap 108 [some (.ref 8), some (.int i1), some (.int i2), some (.int i3), some (.int v4)] [] 698 u10 w r 698 P := by
          refine xe_iconst (v := -1) dX11_swap_108 rfl ?_
          exact xe_ireturn dX11_swap_109 rfl k
        by_cases hlo : i3.toInt < 0 ∨ 2 < i3.toInt
        · exact xe_tableOut (tgt := 108) dX11_swap_56 hlo rfl K14
        · exact absurd (xsw_0_2_3 c11 c12 c13 hlo) (fun h => h)
      · have k := k.2 (fun q => (c9 q))
        refine xe_iconst (v := -1) dX11_swap_40 rfl ?_
        exact xe_ireturn dX11_swap_41 rfl k
  · have k := k.1 c3
    refine xe_iconst (v := -1) dX11_swap_9 rfl ?_
    exact xe_ireturn dX11_swap_10 rfl k

theorem CX11_swap {g : xGT} {d : Nat} {i1 i2 i3 : Int32} {u : xU} {w : xW} {r : xQ} {P : xPost} (hr : xRf r)
    (k : xCall g d mX11_areTwoBiers [.ref 8, .int i1, .int i2] 698 u w r 698 (fun rv1 u1 w1 r1 => ∃ v1 : Int32, rv1 = some (.int v1) ∧ u = u1 ∧ w = w1 ∧ r = r1 ∧ (v1 = 0 → P (some (.int (-1 : Int32))) u w r) ∧ (¬ (v1 = 0) → xCall g d mX9_standsIn [.ref 105, .int i1] 698 u w r 698 (fun rv4 u4 w4 r4 => ∃ v4 : Int32, rv4 = some (.int v4) ∧ u = u4 ∧ w = w4 ∧ r = r4 ∧ (v4 = (-1 : Int32) → P (some (.int (-1 : Int32))) u w r) ∧ (¬ (v4 = (-1 : Int32)) → xCall g d mX9_standsIn [.ref 105, .int i2] 698 u w r 698 (fun rv7 u7 w7 r7 => ∃ v7 : Int32, rv7 = some (.int v7) ∧ u = u7 ∧ w = w7 ∧ r = r7 ∧ (v7 = v4 → xCall g d mX3_findSwap [.ref 79, .ref 105, .int i1, .int i2] 698 u w r 698 (fun rv10 u10 w10 r10 => rv10 = none ∧ w = w10 ∧ r = r10 ∧ (i3 = 0 → P (some (.int (u10 79 11))) u10 w r) ∧ (i3 = 1 → P (some (.int (u10 79 12))) u10 w r) ∧ (i3 = 2 → P (some (.int (u10 79 13))) u10 w r) ∧ (¬ i3 = 0 → ¬ i3 = 1 → ¬ i3 = 2 → P (some (.int (-1 : Int32))) u10 w r))) ∧ (¬ (v7 = v4) → P (some (.int (-1 : Int32))) u w r))))))) :
    xCall g (d + 1) mX11_swap [.ref 8, .int i1, .int i2, .int i3] 698 u w r 698 P :=
  xCall.of plX11 (Nat.le_of_ble_eq_true rfl) rfl (TX11_swap_0 hr k)

/-! FuneralPost.cover -/

theorem TX11_cover_0 {g : xGT} {d : Nat} {i1 i2 : Int32} {l : Nat} {u : xU} {w : xW} {r : xQ} {P : xPost} (h_l : xLd l) (hm_told : r 8 10 = some l)
    (k : ((i1 < 0 ∨ ¬ (i1 < ((1 : Int32) <<< ((u l 0) &&& 31)))) → P (some (.int (-1 : Int32))) u w r) ∧ (¬ (i1 < 0 ∨ ¬ (i1 < ((1 : Int32) <<< ((u l 0) &&& 31)))) → xEv g (d + 1) mX11_cover 28 [some (.ref 8), some (.int i1), some (.int i2), some (.int (-1 : Int32)), some (.int (7 : Int32)), some (.int (0 : Int32)), none] [] 698 u w r 698 P)) :
    xEv g (d + 1) mX11_cover 0 [some (.ref 8), some (.int i1), some (.int i2), none, none, none, none] [] 698 u w r 698 P := by
  refine xe_iload_n dX11_cover_0 rfl ?_
  have K5 : (i1 < 0 ∨ ¬ (i1 < ((1 : Int32) <<< ((u l 0) &&& 31)))) → xEv g (d + 1) mX11_cover 17 [some (.ref 8), some (.int i1), some (.int i2), none, none, none, none] [] 698 u w r 698 P := fun c6 => by
    have k := k.1 c6
    refine xe_iconst (v := -1) dX11_cover_17 rfl ?_
    exact xe_ireturn dX11_cover_18 rfl k
  refine xe_if_lt (tgt := 17) dX11_cover_1 rfl (fun c1 => ?_) (fun c2 => ?_)
  · exact K5 (Or.inl c1)
  · refine xe_iload_n dX11_cover_4 rfl ?_
    refine xe_iconst (v := 1) dX11_cover_5 rfl ?_
    refine xe_aload_n dX11_cover_6 rfl ?_
    refine xe_getR (b := l) dX11_cover_7 flX11_19 kk8 (xKK_lt kk8) rfl hm_told ?_
    refine xe_getI dX11_cover_10 flX11_155 h_l.k0 (xKK_lt h_l.k0) rfl ?_
    refine xe_ishl dX11_cover_13 ?_
    refine xe_icmp_lt (tgt := 19) dX11_cover_14 rfl (fun c3 => ?_) (fun c4 => ?_)
    · have k := k.2 (fun q => (q.elim (fun z => (c2 z)) (fun z => (z c3))))
      refine xe_iconst (v := -1) dX11_cover_19 rfl ?_
      refine xe_istore_n (ls' := [some (.ref 8), some (.int i1), some (.int i2), some (.int (-1 : Int32)), none, none, none]) dX11_cover_20 rfl (by decide) rfl ?_
      refine xe_bipush (v := 7) dX11_cover_21 rfl ?_
      refine xe_istore (ls' := [some (.ref 8), some (.int i1), some (.int i2), some (.int (-1 : Int32)), some (.int (7 : Int32)), none, none]) dX11_cover_23 (by decide) rfl ?_
      refine xe_iconst (v := 0) dX11_cover_25 rfl ?_
      refine xe_istore (ls' := [some (.ref 8), some (.int i1), some (.int i2), some (.int (-1 : Int32)), some (.int (7 : Int32)), some (.int (0 : Int32)), none]) dX11_cover_26 (by decide) rfl ?_
      exact k
    · exact K5 (Or.inr c4)

theorem CX11_cover {g : xGT} {d : Nat} {i1 i2 : Int32} {l : Nat} {u : xU} {w : xW} {r : xQ} {P : xPost} (h_l : xLd l) (hm_told : r 8 10 = some l)
    (k : ((i1 < 0 ∨ ¬ (i1 < ((1 : Int32) <<< ((u l 0) &&& 31)))) → P (some (.int (-1 : Int32))) u w r) ∧ (¬ (i1 < 0 ∨ ¬ (i1 < ((1 : Int32) <<< ((u l 0) &&& 31)))) → xEv g (d + 1) mX11_cover 28 [some (.ref 8), some (.int i1), some (.int i2), some (.int (-1 : Int32)), some (.int (7 : Int32)), some (.int (0 : Int32)), none] [] 698 u w r 698 P)) :
    xCall g (d + 1) mX11_cover [.ref 8, .int i1, .int i2] 698 u w r 698 P :=
  xCall.of plX11 (Nat.le_of_ble_eq_true rfl) rfl (TX11_cover_0 h_l hm_told k)

theorem TX11_cover_28 {g : xGT} {d : Nat} {i1 i2 i3 i4 i5 : Int32} {l : Nat} {u : xU} {w : xW} {r : xQ} {P : xPost} (h_l : xLd l) (hm_told : r 8 10 = some l)
    (k : (((1 : Int32) <<< ((u l 5) &&& 31)) ≤ i5 → xCall g d mX11_countOrSet [.int i3, .int i2] 698 u w r 698 (fun rv9 u9 w9 r9 => ∃ v9 : Int32, rv9 = some (.int v9) ∧ u = u9 ∧ w = w9 ∧ r = r9 ∧ P (some (.int v9)) u w r)) ∧ (¬ (((1 : Int32) <<< ((u l 5) &&& 31)) ≤ i5) → xCall g d mJ6_bitCount_0f7a4 [.int i5] 698 u w r 698 (fun rv10 u10 w10 r10 => ∃ v10 : Int32, rv10 = some (.int v10) ∧ u = u10 ∧ w = w10 ∧ r = r10 ∧ (i4 ≤ v10 → xEv g (d + 1) mX11_cover 76 [some (.ref 8), some (.int i1), some (.int i2), some (.int i3), some (.int i4), some (.int i5), none] [] 698 u w r 698 P) ∧ (¬ (i4 ≤ v10) → xCall g d mX11_passedBy [.ref 8, .int i5] 698 u w r 698 (fun rv13 u13 w13 r13 => ∃ v13 : Int32, rv13 = some (.int v13) ∧ u = u13 ∧ w = w13 ∧ r = r13 ∧ ((i1 &&& (v13 ^^^ (-1 : Int32))) = 0 → xEv g (d + 1) mX11_cover 76 [some (.ref 8), some (.int i1), some (.int i2), some (.int i5), some (.int v10), some (.int i5), none] [] 698 u w r 698 P) ∧ (¬ ((i1 &&& (v13 ^^^ (-1 : Int32))) = 0) → xEv g (d + 1) mX11_cover 76 [some (.ref 8), some (.int i1), some (.int i2), some (.int i3), some (.int i4), some (.int i5), none] [] 698 u w r 698 P)))))) :
    xEv g (d + 1) mX11_cover 28 [some (.ref 8), some (.int i1), some (.int i2), some (.int i3), some (.int i4), some (.int i5), none] [] 698 u w r 698 P := by
  refine xe_iload dX11_cover_28 rfl ?_
  refine xe_iconst (v := 1) dX11_cover_30 rfl ?_
  refine xe_aload_n dX11_cover_31 rfl ?_
  refine xe_getR (b := l) dX11_cover_32 flX11_19 kk8 (xKK_lt kk8) rfl hm_told ?_
  refine xe_getI dX11_cover_35 flX11_107 h_l.k0 (xKK_lt h_l.k0) rfl ?_
  refine xe_ishl dX11_cover_38 ?_
  refine xe_icmp_ge (tgt := 82) dX11_cover_39 rfl (fun c7 => ?_) (fun c8 => ?_)
  · have k := k.1 c7
    refine xe_iload_n dX11_cover_82 rfl ?_
    refine xe_iload_n dX11_cover_83 rfl ?_
    refine xe_callS (args := [.int i3, .int i2]) dX11_cover_84 slX11_278 rfl rfl (Nat.le_of_ble_eq_true rfl) k (Nat.le_refl _) (fun rv9 u9 w9 r9 k => ?_)
    obtain ⟨v9, rfl, rfl, rfl, rfl, k⟩ := k
    exact xe_ireturn dX11_cover_87 rfl k
  · have k := k.2 (fun q => (c8 q))
    refine xe_iload dX11_cover_42 rfl ?_
    refine xe_callS (args := [.int i5]) dX11_cover_44 slX11_270 rfl rfl (Nat.le_of_ble_eq_true rfl) k (Nat.le_refl _) (fun rv10 u10 w10 r10 k => ?_)
    obtain ⟨v10, rfl, rfl, rfl, rfl, k⟩ := k
    refine xe_istore (ls' := [some (.ref 8), some (.int i1), some (.int i2), some (.int i3), some (.int i4), some (.int i5), some (.int v10)]) dX11_cover_47 (by decide) rfl ?_
    refine xe_iload dX11_cover_49 rfl ?_
    refine xe_iload dX11_cover_51 rfl ?_
    refine xe_icmp_ge (tgt := 76) dX11_cover_53 rfl (fun c11 => ?_) (fun c12 => ?_)
    · have k := k.1 c11
      exact xEv.fewer (ls' := [some (.ref 8), some (.int i1), some (.int i2), some (.int i3), some (.int i4), some (.int i5), none]) k (xfw_get (xfw_s (xfw_s (xfw_s (xfw_s (xfw_s (xfw_s (xfw_n (xfw_nil _)))))))))
    · have k := k.2 (fun q => (c12 q))
      refine xe_iload_n dX11_cover_56 rfl ?_
      refine xe_aload_n dX11_cover_57 rfl ?_
      refine xe_iload dX11_cover_58 rfl ?_
      refine xe_callV (args := [.int i5]) dX11_cover_60 vlX11_275 rfl rfl (Nat.le_of_ble_eq_true rfl) kk8 (xKK_lt kk8) rfl rfl k (Nat.le_refl _) (fun rv13 u13 w13 r13 k => ?_)
      obtain ⟨v13, rfl, rfl, rfl, rfl, k⟩ := k
      refine xe_iconst (v := -1) dX11_cover_63 rfl ?_
      refine xe_ixor dX11_cover_64 ?_
      refine xe_iand dX11_cover_65 ?_
      refine xe_if_ne (tgt := 76) dX11_cover_66 rfl (fun c14 => ?_) (fun c15 => ?_)
      · have k := k.2 (fun q => (c14 q))
        exact xEv.fewer (ls' := [some (.ref 8), some (.int i1), some (.int i2), some (.int i3), some (.int i4), some (.int i5), none]) k (xfw_get (xfw_s (xfw_s (xfw_s (xfw_s (xfw_s (xfw_s (xfw_n (xfw_nil _)))))))))
      · have k := k.1 c15
        refine xe_iload dX11_cover_69 rfl ?_
        refine xe_istore_n (ls' := [some (.ref 8), some (.int i1), some (.int i2), some (.int i5), some (.int i4), some (.int i5), some (.int v10)]) dX11_cover_71 rfl (by decide) rfl ?_
        refine xe_iload dX11_cover_72 rfl ?_
        refine xe_istore (ls' := [some (.ref 8), some (.int i1), some (.int i2), some (.int i5), some (.int v10), some (.int i5), some (.int v10)]) dX11_cover_74 (by decide) rfl ?_
        exact xEv.fewer (ls' := [some (.ref 8), some (.int i1), some (.int i2), some (.int i5), some (.int v10), some (.int i5), none]) k (xfw_get (xfw_s (xfw_s (xfw_s (xfw_s (xfw_s (xfw_s (xfw_n (xfw_nil _)))))))))

theorem TX11_cover_76 {g : xGT} {d : Nat} {i1 i2 i3 i4 i5 : Int32} {u : xU} {w : xW} {r : xQ} {P : xPost}
    (k : xEv g (d + 1) mX11_cover 28 [some (.ref 8), some (.int i1), some (.int i2), some (.int i3), some (.int i4), some (.int (i5 + (1 : Int32))), none] [] 698 u w r 698 P) :
    xEv g (d + 1) mX11_cover 76 [some (.ref 8), some (.int i1), some (.int i2), some (.int i3), some (.int i4), some (.int i5), none] [] 698 u w r 698 P := by
  refine xe_iinc (v := (i5 + (1 : Int32))) (ls' := [some (.ref 8), some (.int i1), some (.int i2), some (.int i3), some (.int i4), some (.int (i5 + (1 : Int32))), none]) dX11_cover_76 rfl (by decide) rfl rfl ?_
  refine xe_goto (tgt := 28) dX11_cover_79 rfl ?_
  exact k

/-! FuneralPost.soon -/

theorem TX11_soon_0 {g : xGT} {d : Nat} {i1 i2 : Int32} {l : Nat} {u : xU} {w : xW} {r : xQ} {P : xPost} (hr : xRf r) (h_l : xLd l) (hm_told : r 8 10 = some l)
    (k : xCall g d mX11_isOneOf [.int i1, .int (u l 0)] 698 u w r 698 (fun rv1 u1 w1 r1 => ∃ v1 : Int32, rv1 = some (.int v1) ∧ u = u1 ∧ w = w1 ∧ r = r1 ∧ (v1 = 0 → P (some (.int (-1 : Int32))) u w r) ∧ (¬ (v1 = 0) → xCall g d mX11_isOneOf [.int i2, .int (u l 0)] 698 u w r 698 (fun rv4 u4 w4 r4 => ∃ v4 : Int32, rv4 = some (.int v4) ∧ u = u4 ∧ w = w4 ∧ r = r4 ∧ (v4 = 0 → P (some (.int (-1 : Int32))) u w r) ∧ (¬ (v4 = 0) → xCall g d mX3_spread [.ref 79, .ref 105, .int i1] 698 u w r 698 (fun rv7 u7 w7 r7 => rv7 = none ∧ w = w7 ∧ r = r7 ∧ vp_in i2 7 ∧ (P (some (.int (u7 92 i2.toNatClampNeg))) u7 w r))))))) :
    xEv g (d + 1) mX11_soon 0 [some (.ref 8), some (.int i1), some (.int i2)] [] 698 u w r 698 P := by
  refine xe_iload_n dX11_soon_0 rfl ?_
  refine xe_aload_n dX11_soon_1 rfl ?_
  refine xe_getR (b := l) dX11_soon_2 flX11_19 kk8 (xKK_lt kk8) rfl hm_told ?_
  refine xe_getI dX11_soon_5 flX11_155 h_l.k0 (xKK_lt h_l.k0) rfl ?_
  refine xe_callS (args := [.int i1, .int (u l 0)]) dX11_soon_8 slX11_110 rfl rfl (Nat.le_of_ble_eq_true rfl) k (Nat.le_refl _) (fun rv1 u1 w1 r1 k => ?_)
  obtain ⟨v1, rfl, rfl, rfl, rfl, k⟩ := k
  refine xe_if_eq (tgt := 28) dX11_soon_11 rfl (fun c2 => ?_) (fun c3 => ?_)
  · have k := k.1 c2
    refine xe_iconst (v := -1) dX11_soon_28 rfl ?_
    exact xe_ireturn dX11_soon_29 rfl k
  · have k := k.2 (fun q => (c3 q))
    refine xe_iload_n dX11_soon_14 rfl ?_
    refine xe_aload_n dX11_soon_15 rfl ?_
    refine xe_getR (b := l) dX11_soon_16 flX11_19 kk8 (xKK_lt kk8) rfl hm_told ?_
    refine xe_getI dX11_soon_19 flX11_155 h_l.k0 (xKK_lt h_l.k0) rfl ?_
    refine xe_callS (args := [.int i2, .int (u l 0)]) dX11_soon_22 slX11_110 rfl rfl (Nat.le_of_ble_eq_true rfl) k (Nat.le_refl _) (fun rv4 u4 w4 r4 k => ?_)
    obtain ⟨v4, rfl, rfl, rfl, rfl, k⟩ := k
    refine xe_if_ne (tgt := 30) dX11_soon_25 rfl (fun c5 => ?_) (fun c6 => ?_)
    · have k := k.2 (fun q => (c5 q))
      refine xe_aload_n dX11_soon_30 rfl ?_
      refine xe_getR (b := 79) dX11_soon_31 flX11_40 kk8 (xKK_lt kk8) rfl (rf8_2 hr) ?_
      refine xe_aload_n dX11_soon_34 rfl ?_
      refine xe_getR (b := 105) dX11_soon_35 flX11_47 kk8 (xKK_lt kk8) rfl (rf8_3 hr) ?_
      refine xe_iload_n dX11_soon_38 rfl ?_
      refine xe_callV (args := [.ref 105, .int i1]) dX11_soon_39 vlX11_281 rfl rfl (Nat.le_of_ble_eq_true rfl) kk79 (xKK_lt kk79) rfl rfl k (Nat.le_refl _) (fun rv7 u7 w7 r7 k => ?_)
      obtain ⟨rfl, rfl, rfl, k⟩ := k
      refine xe_aload_n dX11_soon_42 rfl ?_
      refine xe_getR (b := 79) dX11_soon_43 flX11_40 kk8 (xKK_lt kk8) rfl (rf8_2 hr) ?_
      refine xe_getR (b := 92) dX11_soon_46 flX11_285 kk79 (xKK_lt kk79) rfl (rf79_2 hr) ?_
      refine xe_iload_n dX11_soon_49 rfl ?_
      obtain ⟨b8, k⟩ := k
      refine xe_iald dX11_soon_50 kk92 (xKK_lt kk92) b8 ?_
      exact xe_ireturn dX11_soon_51 rfl k
    · have k := k.1 c6
      refine xe_iconst (v := -1) dX11_soon_28 rfl ?_
      exact xe_ireturn dX11_soon_29 rfl k

theorem CX11_soon {g : xGT} {d : Nat} {i1 i2 : Int32} {l : Nat} {u : xU} {w : xW} {r : xQ} {P : xPost} (hr : xRf r) (h_l : xLd l) (hm_told : r 8 10 = some l)
    (k : xCall g d mX11_isOneOf [.int i1, .int (u l 0)] 698 u w r 698 (fun rv1 u1 w1 r1 => ∃ v1 : Int32, rv1 = some (.int v1) ∧ u = u1 ∧ w = w1 ∧ r = r1 ∧ (v1 = 0 → P (some (.int (-1 : Int32))) u w r) ∧ (¬ (v1 = 0) → xCall g d mX11_isOneOf [.int i2, .int (u l 0)] 698 u w r 698 (fun rv4 u4 w4 r4 => ∃ v4 : Int32, rv4 = some (.int v4) ∧ u = u4 ∧ w = w4 ∧ r = r4 ∧ (v4 = 0 → P (some (.int (-1 : Int32))) u w r) ∧ (¬ (v4 = 0) → xCall g d mX3_spread [.ref 79, .ref 105, .int i1] 698 u w r 698 (fun rv7 u7 w7 r7 => rv7 = none ∧ w = w7 ∧ r = r7 ∧ vp_in i2 7 ∧ (P (some (.int (u7 92 i2.toNatClampNeg))) u7 w r))))))) :
    xCall g (d + 1) mX11_soon [.ref 8, .int i1, .int i2] 698 u w r 698 P :=
  xCall.of plX11 (Nat.le_of_ble_eq_true rfl) rfl (TX11_soon_0 hr h_l hm_told k)

/-! FuneralPost.heard -/

theorem TX11_heard_0 {g : xGT} {d : Nat} {i1 : Int32} {l : Nat} {u : xU} {w : xW} {r : xQ} {P : xPost} (hr : xRf r) (h_l : xLd l) (hm_told : r 8 10 = some l)
    (k : xCall g d mX11_isOneOf [.int i1, .int (u l 0)] 698 u w r 698 (fun rv1 u1 w1 r1 => ∃ v1 : Int32, rv1 = some (.int v1) ∧ u = u1 ∧ w = w1 ∧ r = r1 ∧ (v1 = 0 → P (some (.int (-1 : Int32))) u w r) ∧ (¬ (v1 = 0) → xCall g d mX3_spread [.ref 79, .ref 105, .int i1] 698 u w r 698 (fun rv4 u4 w4 r4 => rv4 = none ∧ w = w4 ∧ r = r4 ∧ xEv g (d + 1) mX11_heard 32 [some (.ref 8), none, some (.int (-1 : Int32)), some (.int (0 : Int32))] [] 698 u4 w r 698 P)))) :
    xEv g (d + 1) mX11_heard 0 [some (.ref 8), some (.int i1), none, none] [] 698 u w r 698 P := by
  refine xe_iload_n dX11_heard_0 rfl ?_
  refine xe_aload_n dX11_heard_1 rfl ?_
  refine xe_getR (b := l) dX11_heard_2 flX11_19 kk8 (xKK_lt kk8) rfl hm_told ?_
  refine xe_getI dX11_heard_5 flX11_155 h_l.k0 (xKK_lt h_l.k0) rfl ?_
  refine xe_callS (args := [.int i1, .int (u l 0)]) dX11_heard_8 slX11_110 rfl rfl (Nat.le_of_ble_eq_true rfl) k (Nat.le_refl _) (fun rv1 u1 w1 r1 k => ?_)
  obtain ⟨v1, rfl, rfl, rfl, rfl, k⟩ := k
  refine xe_if_ne (tgt := 16) dX11_heard_11 rfl (fun c2 => ?_) (fun c3 => ?_)
  · have k := k.2 (fun q => (c2 q))
    refine xe_aload_n dX11_heard_16 rfl ?_
    refine xe_getR (b := 79) dX11_heard_17 flX11_40 kk8 (xKK_lt kk8) rfl (rf8_2 hr) ?_
    refine xe_aload_n dX11_heard_20 rfl ?_
    refine xe_getR (b := 105) dX11_heard_21 flX11_47 kk8 (xKK_lt kk8) rfl (rf8_3 hr) ?_
    refine xe_iload_n dX11_heard_24 rfl ?_
    refine xe_callV (args := [.ref 105, .int i1]) dX11_heard_25 vlX11_281 rfl rfl (Nat.le_of_ble_eq_true rfl) kk79 (xKK_lt kk79) rfl rfl k (Nat.le_refl _) (fun rv4 u4 w4 r4 k => ?_)
    obtain ⟨rfl, rfl, rfl, k⟩ := k
    refine xe_iconst (v := -1) dX11_heard_28 rfl ?_
    refine xe_istore_n (ls' := [some (.ref 8), some (.int i1), some (.int (-1 : Int32)), none]) dX11_heard_29 rfl (by decide) rfl ?_
    refine xe_iconst (v := 0) dX11_heard_30 rfl ?_
    refine xe_istore_n (ls' := [some (.ref 8), some (.int i1), some (.int (-1 : Int32)), some (.int (0 : Int32))]) dX11_heard_31 rfl (by decide) rfl ?_
    exact xEv.fewer (ls' := [some (.ref 8), none, some (.int (-1 : Int32)), some (.int (0 : Int32))]) k (xfw_get (xfw_s (xfw_n (xfw_s (xfw_s (xfw_nil _))))))
  · have k := k.1 c3
    refine xe_iconst (v := -1) dX11_heard_14 rfl ?_
    exact xe_ireturn dX11_heard_15 rfl k

theorem CX11_heard {g : xGT} {d : Nat} {i1 : Int32} {l : Nat} {u : xU} {w : xW} {r : xQ} {P : xPost} (hr : xRf r) (h_l : xLd l) (hm_told : r 8 10 = some l)
    (k : xCall g d mX11_isOneOf [.int i1, .int (u l 0)] 698 u w r 698 (fun rv1 u1 w1 r1 => ∃ v1 : Int32, rv1 = some (.int v1) ∧ u = u1 ∧ w = w1 ∧ r = r1 ∧ (v1 = 0 → P (some (.int (-1 : Int32))) u w r) ∧ (¬ (v1 = 0) → xCall g d mX3_spread [.ref 79, .ref 105, .int i1] 698 u w r 698 (fun rv4 u4 w4 r4 => rv4 = none ∧ w = w4 ∧ r = r4 ∧ xEv g (d + 1) mX11_heard 32 [some (.ref 8), none, some (.int (-1 : Int32)), some (.int (0 : Int32))] [] 698 u4 w r 698 P)))) :
    xCall g (d + 1) mX11_heard [.ref 8, .int i1] 698 u w r 698 P :=
  xCall.of plX11 (Nat.le_of_ble_eq_true rfl) rfl (TX11_heard_0 hr h_l hm_told k)

theorem TX11_heard_32 {g : xGT} {d : Nat} {i2 i3 : Int32} {l : Nat} {u : xU} {w : xW} {r : xQ} {P : xPost} (hr : xRf r) (h_l : xLd l) (hm_told : r 8 10 = some l)
    (k : ((u l 0) ≤ i3 → P (some (.int i2)) u w r) ∧ (¬ ((u l 0) ≤ i3) → vp_in i3 7 ∧ (xEv g (d + 1) mX11_heard 32 [some (.ref 8), none, some (.int (if i2 < (u 92 i3.toNatClampNeg) then (u 92 i3.toNatClampNeg) else i2)), some (.int (i3 + (1 : Int32)))] [] 698 u w r 698 P))) :
    xEv g (d + 1) mX11_heard 32 [some (.ref 8), none, some (.int i2), some (.int i3)] [] 698 u w r 698 P := by
  refine xe_iload_n dX11_heard_32 rfl ?_
  refine xe_aload_n dX11_heard_33 rfl ?_
  refine xe_getR (b := l) dX11_heard_34 flX11_19 kk8 (xKK_lt kk8) rfl hm_told ?_
  refine xe_getI dX11_heard_37 flX11_155 h_l.k0 (xKK_lt h_l.k0) rfl ?_
  refine xe_icmp_ge (tgt := 63) dX11_heard_40 rfl (fun c5 => ?_) (fun c6 => ?_)
  · have k := k.1 c5
    refine xe_iload_n dX11_heard_63 rfl ?_
    exact xe_ireturn dX11_heard_64 rfl k
  · have k := k.2 (fun q => (c6 q))
    refine xe_iload_n dX11_heard_43 rfl ?_
    refine xe_aload_n dX11_heard_44 rfl ?_
    refine xe_getR (b := 79) dX11_heard_45 flX11_40 kk8 (xKK_lt kk8) rfl (rf8_2 hr) ?_
    refine xe_getR (b := 92) dX11_heard_48 flX11_285 kk79 (xKK_lt kk79) rfl (rf79_2 hr) ?_
    refine xe_iload_n dX11_heard_51 rfl ?_
    obtain ⟨b7, k⟩ := k
    refine xe_iald dX11_heard_52 kk92 (xKK_lt kk92) b7 ?_
    refine xe_mmax dX11_heard_53 mlX11_288 (Nat.le_of_ble_eq_true rfl) ?_
    refine xe_istore_n (ls' := [some (.ref 8), none, some (.int (if i2 < (u 92 i3.toNatClampNeg) then (u 92 i3.toNatClampNeg) else i2)), some (.int i3)]) dX11_heard_56 rfl (by decide) rfl ?_
    refine xe_iinc (v := (i3 + (1 : Int32))) (ls' := [some (.ref 8), none, some (.int (if i2 < (u 92 i3.toNatClampNeg) then (u 92 i3.toNatClampNeg) else i2)), some (.int (i3 + (1 : Int32)))]) dX11_heard_57 rfl (by decide) rfl rfl ?_
    refine xe_goto (tgt := 32) dX11_heard_60 rfl ?_
    exact k

/-! FuneralPost.deaf -/

theorem TX11_deaf_0 {g : xGT} {d : Nat} {i1 : Int32} {l : Nat} {u : xU} {w : xW} {r : xQ} {P : xPost} (hr : xRf r) (h_l : xLd l) (hm_told : r 8 10 = some l)
    (k : xCall g d mX11_isOneOf [.int i1, .int (u l 0)] 698 u w r 698 (fun rv1 u1 w1 r1 => ∃ v1 : Int32, rv1 = some (.int v1) ∧ u = u1 ∧ w = w1 ∧ r = r1 ∧ (v1 = 0 → P (some (.int (-1 : Int32))) u w r) ∧ (¬ (v1 = 0) → xCall g d mX3_spread [.ref 79, .ref 105, .int i1] 698 u w r 698 (fun rv4 u4 w4 r4 => rv4 = none ∧ w = w4 ∧ r = r4 ∧ xEv g (d + 1) mX11_deaf 32 [some (.ref 8), none, some (.int (0 : Int32)), some (.int (0 : Int32))] [] 698 u4 w r 698 P)))) :
    xEv g (d + 1) mX11_deaf 0 [some (.ref 8), some (.int i1), none, none] [] 698 u w r 698 P := by
  refine xe_iload_n dX11_deaf_0 rfl ?_
  refine xe_aload_n dX11_deaf_1 rfl ?_
  refine xe_getR (b := l) dX11_deaf_2 flX11_19 kk8 (xKK_lt kk8) rfl hm_told ?_
  refine xe_getI dX11_deaf_5 flX11_155 h_l.k0 (xKK_lt h_l.k0) rfl ?_
  refine xe_callS (args := [.int i1, .int (u l 0)]) dX11_deaf_8 slX11_110 rfl rfl (Nat.le_of_ble_eq_true rfl) k (Nat.le_refl _) (fun rv1 u1 w1 r1 k => ?_)
  obtain ⟨v1, rfl, rfl, rfl, rfl, k⟩ := k
  refine xe_if_ne (tgt := 16) dX11_deaf_11 rfl (fun c2 => ?_) (fun c3 => ?_)
  · have k := k.2 (fun q => (c2 q))
    refine xe_aload_n dX11_deaf_16 rfl ?_
    refine xe_getR (b := 79) dX11_deaf_17 flX11_40 kk8 (xKK_lt kk8) rfl (rf8_2 hr) ?_
    refine xe_aload_n dX11_deaf_20 rfl ?_
    refine xe_getR (b := 105) dX11_deaf_21 flX11_47 kk8 (xKK_lt kk8) rfl (rf8_3 hr) ?_
    refine xe_iload_n dX11_deaf_24 rfl ?_
    refine xe_callV (args := [.ref 105, .int i1]) dX11_deaf_25 vlX11_281 rfl rfl (Nat.le_of_ble_eq_true rfl) kk79 (xKK_lt kk79) rfl rfl k (Nat.le_refl _) (fun rv4 u4 w4 r4 k => ?_)
    obtain ⟨rfl, rfl, rfl, k⟩ := k
    refine xe_iconst (v := 0) dX11_deaf_28 rfl ?_
    refine xe_istore_n (ls' := [some (.ref 8), some (.int i1), some (.int (0 : Int32)), none]) dX11_deaf_29 rfl (by decide) rfl ?_
    refine xe_iconst (v := 0) dX11_deaf_30 rfl ?_
    refine xe_istore_n (ls' := [some (.ref 8), some (.int i1), some (.int (0 : Int32)), some (.int (0 : Int32))]) dX11_deaf_31 rfl (by decide) rfl ?_
    exact xEv.fewer (ls' := [some (.ref 8), none, some (.int (0 : Int32)), some (.int (0 : Int32))]) k (xfw_get (xfw_s (xfw_n (xfw_s (xfw_s (xfw_nil _))))))
  · have k := k.1 c3
    refine xe_iconst (v := -1) dX11_deaf_14 rfl ?_
    exact xe_ireturn dX11_deaf_15 rfl k

theorem CX11_deaf {g : xGT} {d : Nat} {i1 : Int32} {l : Nat} {u : xU} {w : xW} {r : xQ} {P : xPost} (hr : xRf r) (h_l : xLd l) (hm_told : r 8 10 = some l)
    (k : xCall g d mX11_isOneOf [.int i1, .int (u l 0)] 698 u w r 698 (fun rv1 u1 w1 r1 => ∃ v1 : Int32, rv1 = some (.int v1) ∧ u = u1 ∧ w = w1 ∧ r = r1 ∧ (v1 = 0 → P (some (.int (-1 : Int32))) u w r) ∧ (¬ (v1 = 0) → xCall g d mX3_spread [.ref 79, .ref 105, .int i1] 698 u w r 698 (fun rv4 u4 w4 r4 => rv4 = none ∧ w = w4 ∧ r = r4 ∧ xEv g (d + 1) mX11_deaf 32 [some (.ref 8), none, some (.int (0 : Int32)), some (.int (0 : Int32))] [] 698 u4 w r 698 P)))) :
    xCall g (d + 1) mX11_deaf [.ref 8, .int i1] 698 u w r 698 P :=
  xCall.of plX11 (Nat.le_of_ble_eq_true rfl) rfl (TX11_deaf_0 hr h_l hm_told k)

theorem TX11_deaf_32 {g : xGT} {d : Nat} {i2 i3 : Int32} {l : Nat} {u : xU} {w : xW} {r : xQ} {P : xPost} (hr : xRf r) (h_l : xLd l) (hm_told : r 8 10 = some l)
    (k : ((u l 0) ≤ i3 → P (some (.int i2)) u w r) ∧ (¬ ((u l 0) ≤ i3) → vp_in i3 7 ∧ (((u 92 i3.toNatClampNeg) = (-1 : Int32) → xEv g (d + 1) mX11_deaf 62 [some (.ref 8), none, some (.int (i2 ||| ((1 : Int32) <<< (i3 &&& 31)))), some (.int i3)] [] 698 u w r 698 P) ∧ (¬ ((u 92 i3.toNatClampNeg) = (-1 : Int32)) → xEv g (d + 1) mX11_deaf 62 [some (.ref 8), none, some (.int i2), some (.int i3)] [] 698 u w r 698 P)))) :
    xEv g (d + 1) mX11_deaf 32 [some (.ref 8), none, some (.int i2), some (.int i3)] [] 698 u w r 698 P := by
  refine xe_iload_n dX11_deaf_32 rfl ?_
  refine xe_aload_n dX11_deaf_33 rfl ?_
  refine xe_getR (b := l) dX11_deaf_34 flX11_19 kk8 (xKK_lt kk8) rfl hm_told ?_
  refine xe_getI dX11_deaf_37 flX11_155 h_l.k0 (xKK_lt h_l.k0) rfl ?_
  refine xe_icmp_ge (tgt := 68) dX11_deaf_40 rfl (fun c5 => ?_) (fun c6 => ?_)
  · have k := k.1 c5
    refine xe_iload_n dX11_deaf_68 rfl ?_
    exact xe_ireturn dX11_deaf_69 rfl k
  · have k := k.2 (fun q => (c6 q))
    refine xe_aload_n dX11_deaf_43 rfl ?_
    refine xe_getR (b := 79) dX11_deaf_44 flX11_40 kk8 (xKK_lt kk8) rfl (rf8_2 hr) ?_
    refine xe_getR (b := 92) dX11_deaf_47 flX11_285 kk79 (xKK_lt kk79) rfl (rf79_2 hr) ?_
    refine xe_iload_n dX11_deaf_50 rfl ?_
    obtain ⟨b7, k⟩ := k
    refine xe_iald dX11_deaf_51 kk92 (xKK_lt kk92) b7 ?_
    refine xe_iconst (v := -1) dX11_deaf_52 rfl ?_
    refine xe_icmp_ne (tgt := 62) dX11_deaf_53 rfl (fun c8 => ?_) (fun c9 => ?_)
    · have k := k.2 (fun q => (c8 q))
      exact k
    · have k := k.1 c9
      refine xe_iload_n dX11_deaf_56 rfl ?_
      refine xe_iconst (v := 1) dX11_deaf_57 rfl ?_
      refine xe_iload_n dX11_deaf_58 rfl ?_
      refine xe_ishl dX11_deaf_59 ?_
      refine xe_ior dX11_deaf_60 ?_
      refine xe_istore_n (ls' := [some (.ref 8), none, some (.int (i2 ||| ((1 : Int32) <<< (i3 &&& 31)))), some (.int i3)]) dX11_deaf_61 rfl (by decide) rfl ?_
      exact k

theorem TX11_deaf_62 {g : xGT} {d : Nat} {i2 i3 : Int32} {u : xU} {w : xW} {r : xQ} {P : xPost}
    (k : xEv g (d + 1) mX11_deaf 32 [some (.ref 8), none, some (.int i2), some (.int (i3 + (1 : Int32)))] [] 698 u w r 698 P) :
    xEv g (d + 1) mX11_deaf 62 [some (.ref 8), none, some (.int i2), some (.int i3)] [] 698 u w r 698 P := by
  refine xe_iinc (v := (i3 + (1 : Int32))) (ls' := [some (.ref 8), none, some (.int i2), some (.int (i3 + (1 : Int32)))]) dX11_deaf_62 rfl (by decide) rfl rfl ?_
  refine xe_goto (tgt := 32) dX11_deaf_65 rfl ?_
  exact k

/-! FuneralPost.bars -/

theorem TX11_bars_0 {g : xGT} {d : Nat} {i1 i2 i3 : Int32} {u : xU} {w : xW} {r : xQ} {P : xPost}
    (k : xCall g d mX11_areTwoVillages [.ref 8, .int i1, .int i2] 698 u w r 698 (fun rv1 u1 w1 r1 => ∃ v1 : Int32, rv1 = some (.int v1) ∧ u = u1 ∧ w = w1 ∧ r = r1 ∧ (v1 = 0 → P (some (.int (-1 : Int32))) u w r) ∧ (¬ (v1 = 0) → xEv g (d + 1) mX11_bars 20 [some (.ref 8), some (.int i1), some (.int i2), some (.int i3), some (.int (-1 : Int32)), some (.int (4 : Int32)), some (.int (0 : Int32)), none] [] 698 u w r 698 P))) :
    xEv g (d + 1) mX11_bars 0 [some (.ref 8), some (.int i1), some (.int i2), some (.int i3), none, none, none, none] [] 698 u w r 698 P := by
  refine xe_aload_n dX11_bars_0 rfl ?_
  refine xe_iload_n dX11_bars_1 rfl ?_
  refine xe_iload_n dX11_bars_2 rfl ?_
  refine xe_callV (args := [.int i1, .int i2]) dX11_bars_3 vlX11_189 rfl rfl (Nat.le_of_ble_eq_true rfl) kk8 (xKK_lt kk8) rfl rfl k (Nat.le_refl _) (fun rv1 u1 w1 r1 k => ?_)
  obtain ⟨v1, rfl, rfl, rfl, rfl, k⟩ := k
  refine xe_if_ne (tgt := 11) dX11_bars_6 rfl (fun c2 => ?_) (fun c3 => ?_)
  · have k := k.2 (fun q => (c2 q))
    refine xe_iconst (v := -1) dX11_bars_11 rfl ?_
    refine xe_istore (ls' := [some (.ref 8), some (.int i1), some (.int i2), some (.int i3), some (.int (-1 : Int32)), none, none, none]) dX11_bars_12 (by decide) rfl ?_
    refine xe_iconst (v := 4) dX11_bars_14 rfl ?_
    refine xe_istore (ls' := [some (.ref 8), some (.int i1), some (.int i2), some (.int i3), some (.int (-1 : Int32)), some (.int (4 : Int32)), none, none]) dX11_bars_15 (by decide) rfl ?_
    refine xe_iconst (v := 0) dX11_bars_17 rfl ?_
    refine xe_istore (ls' := [some (.ref 8), some (.int i1), some (.int i2), some (.int i3), some (.int (-1 : Int32)), some (.int (4 : Int32)), some (.int (0 : Int32)), none]) dX11_bars_18 (by decide) rfl ?_
    exact k
  · have k := k.1 c3
    refine xe_iconst (v := -1) dX11_bars_9 rfl ?_
    exact xe_ireturn dX11_bars_10 rfl k

theorem CX11_bars {g : xGT} {d : Nat} {i1 i2 i3 : Int32} {u : xU} {w : xW} {r : xQ} {P : xPost}
    (k : xCall g d mX11_areTwoVillages [.ref 8, .int i1, .int i2] 698 u w r 698 (fun rv1 u1 w1 r1 => ∃ v1 : Int32, rv1 = some (.int v1) ∧ u = u1 ∧ w = w1 ∧ r = r1 ∧ (v1 = 0 → P (some (.int (-1 : Int32))) u w r) ∧ (¬ (v1 = 0) → xEv g (d + 1) mX11_bars 20 [some (.ref 8), some (.int i1), some (.int i2), some (.int i3), some (.int (-1 : Int32)), some (.int (4 : Int32)), some (.int (0 : Int32)), none] [] 698 u w r 698 P))) :
    xCall g (d + 1) mX11_bars [.ref 8, .int i1, .int i2, .int i3] 698 u w r 698 P :=
  xCall.of plX11 (Nat.le_of_ble_eq_true rfl) rfl (TX11_bars_0  k)

theorem TX11_bars_20 {g : xGT} {d : Nat} {i1 i2 i3 i4 i5 i6 : Int32} {l : Nat} {u : xU} {w : xW} {r : xQ} {P : xPost} (hr : xRf r) (h_l : xLd l) (hm_told : r 8 10 = some l)
    (k : (((1 : Int32) <<< ((u l 1) &&& 31)) ≤ i6 → xCall g d mX11_countOrSet [.int i4, .int i3] 698 u w r 698 (fun rv6 u6 w6 r6 => ∃ v6 : Int32, rv6 = some (.int v6) ∧ u = u6 ∧ w = w6 ∧ r = r6 ∧ P (some (.int v6)) u w r)) ∧ (¬ (((1 : Int32) <<< ((u l 1) &&& 31)) ≤ i6) → xCall g d mJ6_bitCount_0f7a4 [.int i6] 698 u w r 698 (fun rv7 u7 w7 r7 => ∃ v7 : Int32, rv7 = some (.int v7) ∧ u = u7 ∧ w = w7 ∧ r = r7 ∧ ((¬ (i5 ≤ v7) ∧ (i6 &&& (u 105 1)) = 0) → xCall g d mX2_reachedFrom [.ref l, .int i1, .int ((u 105 1) ||| i6)] 698 u w r 698 (fun rv12 u12 w12 r12 => ∃ v12 : Int32, rv12 = some (.int v12) ∧ u = u12 ∧ w = w12 ∧ r = r12 ∧ (((v12 >>> (i2 &&& 31)) &&& (1 : Int32)) = 0 → xEv g (d + 1) mX11_bars 94 [some (.ref 8), some (.int i1), some (.int i2), some (.int i3), some (.int i6), some (.int v7), some (.int i6), none] [] 698 u w r 698 P) ∧ (¬ (((v12 >>> (i2 &&& 31)) &&& (1 : Int32)) = 0) → xEv g (d + 1) mX11_bars 94 [some (.ref 8), some (.int i1), some (.int i2), some (.int i3), some (.int i4), some (.int i5), some (.int i6), none] [] 698 u w r 698 P))) ∧ (¬ (¬ (i5 ≤ v7) ∧ (i6 &&& (u 105 1)) = 0) → xEv g (d + 1) mX11_bars 94 [some (.ref 8), some (.int i1), some (.int i2), some (.int i3), some (.int i4), some (.int i5), some (.int i6), none] [] 698 u w r 698 P)))) :
    xEv g (d + 1) mX11_bars 20 [some (.ref 8), some (.int i1), some (.int i2), some (.int i3), some (.int i4), some (.int i5), some (.int i6), none] [] 698 u w r 698 P := by
  refine xe_iload dX11_bars_20 rfl ?_
  refine xe_iconst (v := 1) dX11_bars_22 rfl ?_
  refine xe_aload_n dX11_bars_23 rfl ?_
  refine xe_getR (b := l) dX11_bars_24 flX11_19 kk8 (xKK_lt kk8) rfl hm_told ?_
  refine xe_getI dX11_bars_27 flX11_209 h_l.k0 (xKK_lt h_l.k0) rfl ?_
  refine xe_ishl dX11_bars_30 ?_
  refine xe_icmp_ge (tgt := 100) dX11_bars_31 rfl (fun c4 => ?_) (fun c5 => ?_)
  · have k := k.1 c4
    refine xe_iload dX11_bars_100 rfl ?_
    refine xe_iload_n dX11_bars_102 rfl ?_
    refine xe_callS (args := [.int i4, .int i3]) dX11_bars_103 slX11_278 rfl rfl (Nat.le_of_ble_eq_true rfl) k (Nat.le_refl _) (fun rv6 u6 w6 r6 k => ?_)
    obtain ⟨v6, rfl, rfl, rfl, rfl, k⟩ := k
    exact xe_ireturn dX11_bars_106 rfl k
  · have k := k.2 (fun q => (c5 q))
    refine xe_iload dX11_bars_34 rfl ?_
    refine xe_callS (args := [.int i6]) dX11_bars_36 slX11_270 rfl rfl (Nat.le_of_ble_eq_true rfl) k (Nat.le_refl _) (fun rv7 u7 w7 r7 k => ?_)
    obtain ⟨v7, rfl, rfl, rfl, rfl, k⟩ := k
    refine xe_istore (ls' := [some (.ref 8), some (.int i1), some (.int i2), some (.int i3), some (.int i4), some (.int i5), some (.int i6), some (.int v7)]) dX11_bars_39 (by decide) rfl ?_
    refine xe_iload dX11_bars_41 rfl ?_
    refine xe_iload dX11_bars_43 rfl ?_
    have K15 : ¬ (¬ (i5 ≤ v7) ∧ (i6 &&& (u 105 1)) = 0) → xEv g (d + 1) mX11_bars 94 [some (.ref 8), some (.int i1), some (.int i2), some (.int i3), some (.int i4), some (.int i5), some (.int i6), some (.int v7)] [] 698 u w r 698 P := fun c16 => by
      have k := k.2 c16
      exact xEv.fewer (ls' := [some (.ref 8), some (.int i1), some (.int i2), some (.int i3), some (.int i4), some (.int i5), some (.int i6), none]) k (xfw_get (xfw_s (xfw_s (xfw_s (xfw_s (xfw_s (xfw_s (xfw_s (xfw_n (xfw_nil _))))))))))
    refine xe_icmp_ge (tgt := 94) dX11_bars_45 rfl (fun c8 => ?_) (fun c9 => ?_)
    · exact K15 (fun q => (q.1 c8))
    · refine xe_iload dX11_bars_48 rfl ?_
      refine xe_aload_n dX11_bars_50 rfl ?_
      refine xe_getR (b := 105) dX11_bars_51 flX11_47 kk8 (xKK_lt kk8) rfl (rf8_3 hr) ?_
      refine xe_getI dX11_bars_54 flX11_212 st105.k0 (xKK_lt st105.k0) rfl ?_
      refine xe_iand dX11_bars_57 ?_
      refine xe_if_ne (tgt := 94) dX11_bars_58 rfl (fun c10 => ?_) (fun c11 => ?_)
      · exact K15 (fun q => (c10 q.2))
      · have k := k.1 ⟨c9, c11⟩
        refine xe_aload_n dX11_bars_61 rfl ?_
        refine xe_getR (b := l) dX11_bars_62 flX11_19 kk8 (xKK_lt kk8) rfl hm_told ?_
        refine xe_iload_n dX11_bars_65 rfl ?_
        refine xe_aload_n dX11_bars_66 rfl ?_
        refine xe_getR (b := 105) dX11_bars_67 flX11_47 kk8 (xKK_lt kk8) rfl (rf8_3 hr) ?_
        refine xe_getI dX11_bars_70 flX11_212 st105.k0 (xKK_lt st105.k0) rfl ?_
        refine xe_iload dX11_bars_73 rfl ?_
        refine xe_ior dX11_bars_75 ?_
        refine xe_callV (args := [.int i1, .int ((u 105 1) ||| i6)]) dX11_bars_76 vlX11_293 rfl rfl (Nat.le_of_ble_eq_true rfl) h_l.k0 (xKK_lt h_l.k0) rfl rfl k (Nat.le_refl _) (fun rv12 u12 w12 r12 k => ?_)
        obtain ⟨v12, rfl, rfl, rfl, rfl, k⟩ := k
        refine xe_iload_n dX11_bars_79 rfl ?_
        refine xe_ishr dX11_bars_80 ?_
        refine xe_iconst (v := 1) dX11_bars_81 rfl ?_
        refine xe_iand dX11_bars_82 ?_
        refine xe_if_ne (tgt := 94) dX11_bars_83 rfl (fun c13 => ?_) (fun c14 => ?_)
        · have k := k.2 (fun q => (c13 q))
          exact xEv.fewer (ls' := [some (.ref 8), some (.int i1), some (.int i2), some (.int i3), some (.int i4), some (.int i5), some (.int i6), none]) k (xfw_get (xfw_s (xfw_s (xfw_s (xfw_s (xfw_s (xfw_s (xfw_s (xfw_n (xfw_nil _))))))))))
        · have k := k.1 c14
          refine xe_iload dX11_bars_86 rfl ?_
          refine xe_istore (ls' := [some (.ref 8), some (.int i1), some (.int i2), some (.int i3), some (.int i6), some (.int i5), some (.int i6), some (.int v7)]) dX11_bars_88 (by decide) rfl ?_
          refine xe_iload dX11_bars_90 rfl ?_
          refine xe_istore (ls' := [some (.ref 8), some (.int i1), some (.int i2), some (.int i3), some (.int i6), some (.int v7), some (.int i6), some (.int v7)]) dX11_bars_92 (by decide) rfl ?_
          exact xEv.fewer (ls' := [some (.ref 8), some (.int i1), some (.int i2), some (.int i3), some (.int i6), some (.int v7), some (.int i6), none]) k (xfw_get (xfw_s (xfw_s (xfw_s (xfw_s (xfw_s (xfw_s (xfw_s (xfw_n (xfw_nil _))))))))))

theorem TX11_bars_94 {g : xGT} {d : Nat} {i1 i2 i3 i4 i5 i6 : Int32} {u : xU} {w : xW} {r : xQ} {P : xPost}
    (k : xEv g (d + 1) mX11_bars 20 [some (.ref 8), some (.int i1), some (.int i2), some (.int i3), some (.int i4), some (.int i5), some (.int (i6 + (1 : Int32))), none] [] 698 u w r 698 P) :
    xEv g (d + 1) mX11_bars 94 [some (.ref 8), some (.int i1), some (.int i2), some (.int i3), some (.int i4), some (.int i5), some (.int i6), none] [] 698 u w r 698 P := by
  refine xe_iinc (v := (i6 + (1 : Int32))) (ls' := [some (.ref 8), some (.int i1), some (.int i2), some (.int i3), some (.int i4), some (.int i5), some (.int (i6 + (1 : Int32))), none]) dX11_bars_94 rfl (by decide) rfl rfl ?_
  refine xe_goto (tgt := 20) dX11_bars_97 rfl ?_
  exact k

/-! FuneralPost.trace -/

theorem TX11_trace_0 {g : xGT} {d : Nat} {i1 i2 : Int32} {u : xU} {w : xW} {r : xQ} {P : xPost} (hr : xRf r)
    (k : xCall g d mX11_areTwoVillages [.ref 8, .int i1, .int i2] 698 (x2 u 8 9 (0 : Int32)) w r 698 (fun rv1 u1 w1 r1 => ∃ v1 : Int32, rv1 = some (.int v1) ∧ (x2 u 8 9 (0 : Int32)) = u1 ∧ w = w1 ∧ r = r1 ∧ (v1 = 0 → P (some (.int (-1 : Int32))) (x2 u 8 9 (0 : Int32)) w r) ∧ (¬ (v1 = 0) → xCall g d mX3_follow [.ref 79, .ref 105, .int i1, .int i2] 698 (x2 u 8 9 (0 : Int32)) w r 698 (fun rv4 u4 w4 r4 => ∃ v4 : Int32, rv4 = some (.int v4) ∧ w = w4 ∧ r = r4 ∧ (v4 = (-1 : Int32) → P (some (.int v4)) u4 w r) ∧ (¬ (v4 = (-1 : Int32)) → P (some (.int v4)) (x2 (xcp u4 93 654 300) 8 9 (u4 79 4)) w r))))) :
    xEv g (d + 1) mX11_trace 0 [some (.ref 8), some (.int i1), some (.int i2), none] [] 698 u w r 698 P := by
  refine xe_aload_n dX11_trace_0 rfl ?_
  refine xe_iconst (v := 0) dX11_trace_1 rfl ?_
  refine xe_putI dX11_trace_2 flX11_296 kk8 (xKK_lt kk8) nf11_9 rfl ?_
  refine xe_aload_n dX11_trace_5 rfl ?_
  refine xe_iload_n dX11_trace_6 rfl ?_
  refine xe_iload_n dX11_trace_7 rfl ?_
  refine xe_callV (args := [.int i1, .int i2]) dX11_trace_8 vlX11_189 rfl rfl (Nat.le_of_ble_eq_true rfl) kk8 (xKK_lt kk8) rfl rfl k (Nat.le_refl _) (fun rv1 u1 w1 r1 k => ?_)
  obtain ⟨v1, rfl, rfl, rfl, rfl, k⟩ := k
  refine xe_if_ne (tgt := 16) dX11_trace_11 rfl (fun c2 => ?_) (fun c3 => ?_)
  · have k := k.2 (fun q => (c2 q))
    refine xe_aload_n dX11_trace_16 rfl ?_
    refine xe_getR (b := 79) dX11_trace_17 flX11_40 kk8 (xKK_lt kk8) rfl (rf8_2 hr) ?_
    refine xe_aload_n dX11_trace_20 rfl ?_
    refine xe_getR (b := 105) dX11_trace_21 flX11_47 kk8 (xKK_lt kk8) rfl (rf8_3 hr) ?_
    refine xe_iload_n dX11_trace_24 rfl ?_
    refine xe_iload_n dX11_trace_25 rfl ?_
    refine xe_callV (args := [.ref 105, .int i1, .int i2]) dX11_trace_26 vlX11_299 rfl rfl (Nat.le_of_ble_eq_true rfl) kk79 (xKK_lt kk79) rfl rfl k (Nat.le_refl _) (fun rv4 u4 w4 r4 k => ?_)
    obtain ⟨v4, rfl, rfl, rfl, k⟩ := k
    refine xe_istore_n (ls' := [some (.ref 8), some (.int i1), some (.int i2), some (.int v4)]) dX11_trace_29 rfl (by decide) rfl ?_
    refine xe_iload_n dX11_trace_30 rfl ?_
    refine xe_iconst (v := -1) dX11_trace_31 rfl ?_
    refine xe_icmp_eq (tgt := 67) dX11_trace_32 rfl (fun c5 => ?_) (fun c6 => ?_)
    · have k := k.1 c5
      refine xe_iload_n dX11_trace_67 rfl ?_
      exact xe_ireturn dX11_trace_68 rfl k
    · have k := k.2 (fun q => (c6 q))
      refine xe_aload_n dX11_trace_35 rfl ?_
      refine xe_getR (b := 79) dX11_trace_36 flX11_40 kk8 (xKK_lt kk8) rfl (rf8_2 hr) ?_
      refine xe_getR (b := 93) dX11_trace_39 flX11_303 kk79 (xKK_lt kk79) rfl (rf79_3 hr) ?_
      refine xe_iconst (v := 0) dX11_trace_42 rfl ?_
      refine xe_aload_n dX11_trace_43 rfl ?_
      refine xe_getR (b := 654) dX11_trace_44 flX11_73 kk8 (xKK_lt kk8) rfl (rf8_8 hr) ?_
      refine xe_iconst (v := 0) dX11_trace_47 rfl ?_
      refine xe_aload_n dX11_trace_48 rfl ?_
      refine xe_getR (b := 654) dX11_trace_49 flX11_73 kk8 (xKK_lt kk8) rfl (rf8_8 hr) ?_
      refine xe_alen (v := (300 : Int32)) dX11_trace_52 kk654 (xKK_lt kk654) (by simp) rfl ?_
      refine xe_copy (N := 300) dX11_trace_53 clX11_306 kk93 kk654 (xKK_lt kk93) (xKK_lt kk654) rfl (by decide) (by decide) (Nat.le_of_ble_eq_true rfl) ?_
      refine xe_aload_n dX11_trace_56 rfl ?_
      refine xe_aload_n dX11_trace_57 rfl ?_
      refine xe_getR (b := 79) dX11_trace_58 flX11_40 kk8 (xKK_lt kk8) rfl (rf8_2 hr) ?_
      refine xe_getI dX11_trace_61 flX11_312 kk79 (xKK_lt kk79) rfl ?_
      refine xe_putI dX11_trace_64 flX11_296 kk8 (xKK_lt kk8) nf11_9 rfl ?_
      refine xe_iload_n dX11_trace_67 rfl ?_
      exact xe_ireturn dX11_trace_68 rfl k
  · have k := k.1 c3
    refine xe_iconst (v := -1) dX11_trace_14 rfl ?_
    exact xe_ireturn dX11_trace_15 rfl k

theorem CX11_trace {g : xGT} {d : Nat} {i1 i2 : Int32} {u : xU} {w : xW} {r : xQ} {P : xPost} (hr : xRf r)
    (k : xCall g d mX11_areTwoVillages [.ref 8, .int i1, .int i2] 698 (x2 u 8 9 (0 : Int32)) w r 698 (fun rv1 u1 w1 r1 => ∃ v1 : Int32, rv1 = some (.int v1) ∧ (x2 u 8 9 (0 : Int32)) = u1 ∧ w = w1 ∧ r = r1 ∧ (v1 = 0 → P (some (.int (-1 : Int32))) (x2 u 8 9 (0 : Int32)) w r) ∧ (¬ (v1 = 0) → xCall g d mX3_follow [.ref 79, .ref 105, .int i1, .int i2] 698 (x2 u 8 9 (0 : Int32)) w r 698 (fun rv4 u4 w4 r4 => ∃ v4 : Int32, rv4 = some (.int v4) ∧ w = w4 ∧ r = r4 ∧ (v4 = (-1 : Int32) → P (some (.int v4)) u4 w r) ∧ (¬ (v4 = (-1 : Int32)) → P (some (.int v4)) (x2 (xcp u4 93 654 300) 8 9 (u4 79 4)) w r))))) :
    xCall g (d + 1) mX11_trace [.ref 8, .int i1, .int i2] 698 u w r 698 P :=
  xCall.of plX11 (Nat.le_of_ble_eq_true rfl) rfl (TX11_trace_0 hr k)

/-! FuneralPost.lies -/

theorem TX11_lies_0 {g : xGT} {d : Nat} {i1 : Int32} {u : xU} {w : xW} {r : xQ} {P : xPost} (hr : xRf r)
    (k : xCall g d mX11_isOneOf [.int i1, .int (u 8 9)] 698 u w r 698 (fun rv1 u1 w1 r1 => ∃ v1 : Int32, rv1 = some (.int v1) ∧ u = u1 ∧ w = w1 ∧ r = r1 ∧ (¬ (v1 = 0) → vp_in i1 300) ∧ (P (some (.int (if v1 = 0 then (-1 : Int32) else (u 654 i1.toNatClampNeg)))) u w r))) :
    xEv g (d + 1) mX11_lies 0 [some (.ref 8), some (.int i1)] [] 698 u w r 698 P := by
  refine xe_iload_n dX11_lies_0 rfl ?_
  refine xe_aload_n dX11_lies_1 rfl ?_
  refine xe_getI dX11_lies_2 flX11_296 kk8 (xKK_lt kk8) rfl ?_
  refine xe_callS (args := [.int i1, .int (u 8 9)]) dX11_lies_5 slX11_110 rfl rfl (Nat.le_of_ble_eq_true rfl) k (Nat.le_refl _) (fun rv1 u1 w1 r1 k => ?_)
  obtain ⟨v1, rfl, rfl, rfl, rfl, k⟩ := k
  obtain ⟨b4, k⟩ := k
  have K5 : xEv g (d + 1) mX11_lies 21 [some (.ref 8), some (.int i1)] [.int (if v1 = 0 then (-1 : Int32) else (u 654 i1.toNatClampNeg))] 698 u w r 698 P := by
    exact xe_ireturn dX11_lies_21 rfl k
  refine xe_if_eq (tgt := 20) dX11_lies_8 rfl (fun c2 => ?_) (fun c3 => ?_)
  · refine xe_iconst (v := -1) dX11_lies_20 rfl ?_
    exact xtop (if_pos c2) K5
  · refine xe_aload_n dX11_lies_11 rfl ?_
    refine xe_getR (b := 654) dX11_lies_12 flX11_73 kk8 (xKK_lt kk8) rfl (rf8_8 hr) ?_
    refine xe_iload_n dX11_lies_15 rfl ?_
    refine xe_iald dX11_lies_16 kk654 (xKK_lt kk654) (b4 (fun q => (c3 q))) ?_
    refine xe_goto (tgt := 21) dX11_lies_17 rfl ?_
    exact xtop (if_neg (fun q => (c3 q))) K5

theorem CX11_lies {g : xGT} {d : Nat} {i1 : Int32} {u : xU} {w : xW} {r : xQ} {P : xPost} (hr : xRf r)
    (k : xCall g d mX11_isOneOf [.int i1, .int (u 8 9)] 698 u w r 698 (fun rv1 u1 w1 r1 => ∃ v1 : Int32, rv1 = some (.int v1) ∧ u = u1 ∧ w = w1 ∧ r = r1 ∧ (¬ (v1 = 0) → vp_in i1 300) ∧ (P (some (.int (if v1 = 0 then (-1 : Int32) else (u 654 i1.toNatClampNeg)))) u w r))) :
    xCall g (d + 1) mX11_lies [.ref 8, .int i1] 698 u w r 698 P :=
  xCall.of plX11 (Nat.le_of_ble_eq_true rfl) rfl (TX11_lies_0 hr k)

/-! FuneralPost.had -/

theorem TX11_had_0 {g : xGT} {d : Nat} {i1 i2 : Int32} {l : Nat} {u : xU} {w : xW} {r : xQ} {P : xPost} (hr : xRf r) (h_l : xLd l) (hm_told : r 8 10 = some l)
    (k : xCall g d mX11_isOneOf [.int i1, .int (u l 5)] 698 u w r 698 (fun rv1 u1 w1 r1 => ∃ v1 : Int32, rv1 = some (.int v1) ∧ u = u1 ∧ w = w1 ∧ r = r1 ∧ ((v1 = 0 ∨ ¬ ((u 611 4) < (30 : Int32))) → P (some (.int (-1 : Int32))) u w r) ∧ (¬ (v1 = 0 ∨ ¬ ((u 611 4) < (30 : Int32))) → xCall g d mX4_tell [.ref 611, .int i1, .int i2] 698 u w r 698 (fun rv6 u6 w6 r6 => ∃ v6 : Int32, rv6 = some (.int v6) ∧ w = w6 ∧ r = r6 ∧ P (some (.int v6)) u6 w r)))) :
    xEv g (d + 1) mX11_had 0 [some (.ref 8), some (.int i1), some (.int i2)] [] 698 u w r 698 P := by
  refine xe_iload_n dX11_had_0 rfl ?_
  refine xe_aload_n dX11_had_1 rfl ?_
  refine xe_getR (b := l) dX11_had_2 flX11_19 kk8 (xKK_lt kk8) rfl hm_told ?_
  refine xe_getI dX11_had_5 flX11_107 h_l.k0 (xKK_lt h_l.k0) rfl ?_
  refine xe_callS (args := [.int i1, .int (u l 5)]) dX11_had_8 slX11_110 rfl rfl (Nat.le_of_ble_eq_true rfl) k (Nat.le_refl _) (fun rv1 u1 w1 r1 k => ?_)
  obtain ⟨v1, rfl, rfl, rfl, rfl, k⟩ := k
  have K7 : (v1 = 0 ∨ ¬ ((u 611 4) < (30 : Int32))) → xEv g (d + 1) mX11_had 26 [some (.ref 8), some (.int i1), some (.int i2)] [] 698 u w r 698 P := fun c8 => by
    have k := k.1 c8
    refine xe_iconst (v := -1) dX11_had_26 rfl ?_
    exact xe_ireturn dX11_had_27 rfl k
  refine xe_if_eq (tgt := 26) dX11_had_11 rfl (fun c2 => ?_) (fun c3 => ?_)
  · exact K7 (Or.inl c2)
  · refine xe_aload_n dX11_had_14 rfl ?_
    refine xe_getR (b := 611) dX11_had_15 flX11_61 kk8 (xKK_lt kk8) rfl (rf8_5 hr) ?_
    refine xe_getI dX11_had_18 flX11_315 kk611 (xKK_lt kk611) rfl ?_
    refine xe_bipush (v := 30) dX11_had_21 rfl ?_
    refine xe_icmp_lt (tgt := 28) dX11_had_23 rfl (fun c4 => ?_) (fun c5 => ?_)
    · have k := k.2 (fun q => (q.elim (fun z => (c3 z)) (fun z => (z c4))))
      refine xe_aload_n dX11_had_28 rfl ?_
      refine xe_getR (b := 611) dX11_had_29 flX11_61 kk8 (xKK_lt kk8) rfl (rf8_5 hr) ?_
      refine xe_iload_n dX11_had_32 rfl ?_
      refine xe_iload_n dX11_had_33 rfl ?_
      refine xe_callV (args := [.int i1, .int i2]) dX11_had_34 vlX11_318 rfl rfl (Nat.le_of_ble_eq_true rfl) kk611 (xKK_lt kk611) rfl rfl k (Nat.le_refl _) (fun rv6 u6 w6 r6 k => ?_)
      obtain ⟨v6, rfl, rfl, rfl, k⟩ := k
      exact xe_ireturn dX11_had_37 rfl k
    · exact K7 (Or.inr c5)

theorem CX11_had {g : xGT} {d : Nat} {i1 i2 : Int32} {l : Nat} {u : xU} {w : xW} {r : xQ} {P : xPost} (hr : xRf r) (h_l : xLd l) (hm_told : r 8 10 = some l)
    (k : xCall g d mX11_isOneOf [.int i1, .int (u l 5)] 698 u w r 698 (fun rv1 u1 w1 r1 => ∃ v1 : Int32, rv1 = some (.int v1) ∧ u = u1 ∧ w = w1 ∧ r = r1 ∧ ((v1 = 0 ∨ ¬ ((u 611 4) < (30 : Int32))) → P (some (.int (-1 : Int32))) u w r) ∧ (¬ (v1 = 0 ∨ ¬ ((u 611 4) < (30 : Int32))) → xCall g d mX4_tell [.ref 611, .int i1, .int i2] 698 u w r 698 (fun rv6 u6 w6 r6 => ∃ v6 : Int32, rv6 = some (.int v6) ∧ w = w6 ∧ r = r6 ∧ P (some (.int v6)) u6 w r)))) :
    xCall g (d + 1) mX11_had [.ref 8, .int i1, .int i2] 698 u w r 698 P :=
  xCall.of plX11 (Nat.le_of_ble_eq_true rfl) rfl (TX11_had_0 hr h_l hm_told k)

/-! FuneralPost.untell -/

theorem TX11_untell_0 {g : xGT} {d : Nat} {i1 : Int32} {u : xU} {w : xW} {r : xQ} {P : xPost} (hr : xRf r)
    (k : xCall g d mX4_forget [.ref 611, .int i1] 698 u w r 698 (fun rv1 u1 w1 r1 => ∃ v1 : Int32, rv1 = some (.int v1) ∧ w = w1 ∧ r = r1 ∧ (v1 = 0 ∨ v1 = 1) ∧ (P (some (.int v1)) u1 w r))) :
    xEv g (d + 1) mX11_untell 0 [some (.ref 8), some (.int i1)] [] 698 u w r 698 P := by
  refine xe_aload_n dX11_untell_0 rfl ?_
  refine xe_getR (b := 611) dX11_untell_1 flX11_61 kk8 (xKK_lt kk8) rfl (rf8_5 hr) ?_
  refine xe_iload_n dX11_untell_4 rfl ?_
  refine xe_callV (args := [.int i1]) dX11_untell_5 vlX11_322 rfl rfl (Nat.le_of_ble_eq_true rfl) kk611 (xKK_lt kk611) rfl rfl k (Nat.le_refl _) (fun rv1 u1 w1 r1 k => ?_)
  obtain ⟨v1, rfl, rfl, rfl, k⟩ := k
  obtain ⟨z2, k⟩ := k
  exact xe_ireturn dX11_untell_8 (xrokZ z2) k

theorem CX11_untell {g : xGT} {d : Nat} {i1 : Int32} {u : xU} {w : xW} {r : xQ} {P : xPost} (hr : xRf r)
    (k : xCall g d mX4_forget [.ref 611, .int i1] 698 u w r 698 (fun rv1 u1 w1 r1 => ∃ v1 : Int32, rv1 = some (.int v1) ∧ w = w1 ∧ r = r1 ∧ (v1 = 0 ∨ v1 = 1) ∧ (P (some (.int v1)) u1 w r))) :
    xCall g (d + 1) mX11_untell [.ref 8, .int i1] 698 u w r 698 P :=
  xCall.of plX11 (Nat.le_of_ble_eq_true rfl) rfl (TX11_untell_0 hr k)

/-! FuneralPost.later -/

theorem TX11_later_0 {g : xGT} {d : Nat} {i1 : Int32} {u : xU} {w : xW} {r : xQ} {P : xPost} (hr : xRf r)
    (k : ((i1 < 0 ∨ ((1000 : Int32) < i1 ∨ ¬ (((u 611 5) + i1) ≤ (100000 : Int32)))) → P (some (.int (-1 : Int32))) u w r) ∧ (¬ (i1 < 0 ∨ ((1000 : Int32) < i1 ∨ ¬ (((u 611 5) + i1) ≤ (100000 : Int32)))) → P (some (.int ((u 611 5) + i1))) (x2 u 611 5 ((u 611 5) + i1)) w r)) :
    xEv g d mX11_later 0 [some (.ref 8), some (.int i1)] [] 698 u w r 698 P := by
  refine xe_iload_n dX11_later_0 rfl ?_
  have K7 : (i1 < 0 ∨ ((1000 : Int32) < i1 ∨ ¬ (((u 611 5) + i1) ≤ (100000 : Int32)))) → xEv g d mX11_later 26 [some (.ref 8), some (.int i1)] [] 698 u w r 698 P := fun c8 => by
    have k := k.1 c8
    refine xe_iconst (v := -1) dX11_later_26 rfl ?_
    exact xe_ireturn dX11_later_27 rfl k
  refine xe_if_lt (tgt := 26) dX11_later_1 rfl (fun c1 => ?_) (fun c2 => ?_)
  · exact K7 (Or.inl c1)
  · refine xe_iload_n dX11_later_4 rfl ?_
    refine xe_sipush (v := 1000) dX11_later_5 rfl ?_
    refine xe_icmp_gt (tgt := 26) dX11_later_8 rfl (fun c3 => ?_) (fun c4 => ?_)
    · exact K7 (Or.inr (Or.inl c3))
    · refine xe_aload_n dX11_later_11 rfl ?_
      refine xe_getR (b := 611) dX11_later_12 flX11_61 kk8 (xKK_lt kk8) rfl (rf8_5 hr) ?_
      refine xe_getI dX11_later_15 flX11_325 kk611 (xKK_lt kk611) rfl ?_
      refine xe_iload_n dX11_later_18 rfl ?_
      refine xe_iadd dX11_later_19 ?_
      refine xe_ldcw (v := 100000) dX11_later_20 (xT_at 1315 (by decide +kernel) (by decide +kernel)) ?_
      refine xe_icmp_le (tgt := 28) dX11_later_23 rfl (fun c5 => ?_) (fun c6 => ?_)
      · have k := k.2 (fun q => (q.elim (fun z => (c2 z)) (fun z => (z.elim (fun z => (c4 z)) (fun z => (z c5))))))
        refine xe_aload_n dX11_later_28 rfl ?_
        refine xe_getR (b := 611) dX11_later_29 flX11_61 kk8 (xKK_lt kk8) rfl (rf8_5 hr) ?_
        refine xe_dup dX11_later_32 rfl ?_
        refine xe_getI dX11_later_33 flX11_325 kk611 (xKK_lt kk611) rfl ?_
        refine xe_iload_n dX11_later_36 rfl ?_
        refine xe_iadd dX11_later_37 ?_
        refine xe_putI dX11_later_38 flX11_325 kk611 (xKK_lt kk611) nf4_5 rfl ?_
        refine xe_aload_n dX11_later_41 rfl ?_
        refine xe_getR (b := 611) dX11_later_42 flX11_61 kk8 (xKK_lt kk8) rfl (rf8_5 hr) ?_
        refine xe_getI dX11_later_45 flX11_325 kk611 (xKK_lt kk611) rfl ?_
        exact xe_ireturn dX11_later_48 rfl k
      · exact K7 (Or.inr (Or.inr c6))

theorem CX11_later {g : xGT} {d : Nat} {i1 : Int32} {u : xU} {w : xW} {r : xQ} {P : xPost} (hr : xRf r)
    (k : ((i1 < 0 ∨ ((1000 : Int32) < i1 ∨ ¬ (((u 611 5) + i1) ≤ (100000 : Int32)))) → P (some (.int (-1 : Int32))) u w r) ∧ (¬ (i1 < 0 ∨ ((1000 : Int32) < i1 ∨ ¬ (((u 611 5) + i1) ≤ (100000 : Int32)))) → P (some (.int ((u 611 5) + i1))) (x2 u 611 5 ((u 611 5) + i1)) w r)) :
    xCall g d mX11_later [.ref 8, .int i1] 698 u w r 698 P :=
  xCall.of plX11 (Nat.le_of_ble_eq_true rfl) rfl (TX11_later_0 hr k)

/-! FuneralPost.fit -/

theorem TX11_fit_0 {g : xGT} {d : Nat} {i1 i2 : Int32} {l : Nat} {u : xU} {w : xW} {r : xQ} {P : xPost} (h_l : xLd l) (hm_told : r 8 10 = some l)
    (k : xCall g d mX11_isOneOf [.int i1, .int (u l 0)] 698 u w r 698 (fun rv1 u1 w1 r1 => ∃ v1 : Int32, rv1 = some (.int v1) ∧ u = u1 ∧ w = w1 ∧ r = r1 ∧ (v1 = 0 → P (some (.int (-1 : Int32))) u w r) ∧ (¬ (v1 = 0) → xCall g d mX11_fitting [.ref 8, .int i1, .int i2] 698 u w r 698 (fun rv4 u4 w4 r4 => ∃ v4 : Int32, rv4 = some (.int v4) ∧ w = w4 ∧ r = r4 ∧ P (some (.int v4)) u4 w r)))) :
    xEv g (d + 1) mX11_fit 0 [some (.ref 8), some (.int i1), some (.int i2)] [] 698 u w r 698 P := by
  refine xe_iload_n dX11_fit_0 rfl ?_
  refine xe_aload_n dX11_fit_1 rfl ?_
  refine xe_getR (b := l) dX11_fit_2 flX11_19 kk8 (xKK_lt kk8) rfl hm_told ?_
  refine xe_getI dX11_fit_5 flX11_155 h_l.k0 (xKK_lt h_l.k0) rfl ?_
  refine xe_callS (args := [.int i1, .int (u l 0)]) dX11_fit_8 slX11_110 rfl rfl (Nat.le_of_ble_eq_true rfl) k (Nat.le_refl _) (fun rv1 u1 w1 r1 k => ?_)
  obtain ⟨v1, rfl, rfl, rfl, rfl, k⟩ := k
  refine xe_if_eq (tgt := 23) dX11_fit_11 rfl (fun c2 => ?_) (fun c3 => ?_)
  · have k := k.1 c2
    refine xe_iconst (v := -1) dX11_fit_23 rfl ?_
    exact xe_ireturn dX11_fit_24 rfl k
  · have k := k.2 (fun q => (c3 q))
    refine xe_aload_n dX11_fit_14 rfl ?_
    refine xe_iload_n dX11_fit_15 rfl ?_
    refine xe_iload_n dX11_fit_16 rfl ?_
    refine xe_callV (args := [.int i1, .int i2]) dX11_fit_17 vlX11_329 rfl rfl (Nat.le_of_ble_eq_true rfl) kk8 (xKK_lt kk8) rfl rfl k (Nat.le_refl _) (fun rv4 u4 w4 r4 k => ?_)
    obtain ⟨v4, rfl, rfl, rfl, k⟩ := k
    refine xe_goto (tgt := 24) dX11_fit_20 rfl ?_
    exact xe_ireturn dX11_fit_24 rfl k

theorem CX11_fit {g : xGT} {d : Nat} {i1 i2 : Int32} {l : Nat} {u : xU} {w : xW} {r : xQ} {P : xPost} (h_l : xLd l) (hm_told : r 8 10 = some l)
    (k : xCall g d mX11_isOneOf [.int i1, .int (u l 0)] 698 u w r 698 (fun rv1 u1 w1 r1 => ∃ v1 : Int32, rv1 = some (.int v1) ∧ u = u1 ∧ w = w1 ∧ r = r1 ∧ (v1 = 0 → P (some (.int (-1 : Int32))) u w r) ∧ (¬ (v1 = 0) → xCall g d mX11_fitting [.ref 8, .int i1, .int i2] 698 u w r 698 (fun rv4 u4 w4 r4 => ∃ v4 : Int32, rv4 = some (.int v4) ∧ w = w4 ∧ r = r4 ∧ P (some (.int v4)) u4 w r)))) :
    xCall g (d + 1) mX11_fit [.ref 8, .int i1, .int i2] 698 u w r 698 P :=
  xCall.of plX11 (Nat.le_of_ble_eq_true rfl) rfl (TX11_fit_0 h_l hm_told k)

/-! FuneralPost.ask -/

theorem TX11_ask_0 {g : xGT} {d : Nat} {i1 i2 i3 : Int32} {l : Nat} {u : xU} {w : xW} {r : xQ} {P : xPost} (h_l : xLd l) (hm_told : r 8 10 = some l)
    (k : xCall g d mX11_isOneOf [.int i1, .int (u l 0)] 698 u w r 698 (fun rv1 u1 w1 r1 => ∃ v1 : Int32, rv1 = some (.int v1) ∧ u = u1 ∧ w = w1 ∧ r = r1 ∧ (v1 = 0 → P (some (.int (-1 : Int32))) u w r) ∧ (¬ (v1 = 0) → xCall g d mX11_fitting [.ref 8, .int i1, .int i3] 698 u w r 698 (fun rv4 u4 w4 r4 => ∃ v4 : Int32, rv4 = some (.int v4) ∧ w = w4 ∧ r = r4 ∧ (v4 = 0 → P (some (.int (-1 : Int32))) u4 w r) ∧ (¬ (v4 = 0) → xEv g (d + 1) mX11_ask 41 [some (.ref 8), none, some (.int i2), none, some (.int v4), some (.int (-1 : Int32)), some (.int (8 : Int32)), some (.int (0 : Int32)), none, none] [] 698 u4 w r 698 P))))) :
    xEv g (d + 1) mX11_ask 0 [some (.ref 8), some (.int i1), some (.int i2), some (.int i3), none, none, none, none, none, none] [] 698 u w r 698 P := by
  refine xe_iload_n dX11_ask_0 rfl ?_
  refine xe_aload_n dX11_ask_1 rfl ?_
  refine xe_getR (b := l) dX11_ask_2 flX11_19 kk8 (xKK_lt kk8) rfl hm_told ?_
  refine xe_getI dX11_ask_5 flX11_155 h_l.k0 (xKK_lt h_l.k0) rfl ?_
  refine xe_callS (args := [.int i1, .int (u l 0)]) dX11_ask_8 slX11_110 rfl rfl (Nat.le_of_ble_eq_true rfl) k (Nat.le_refl _) (fun rv1 u1 w1 r1 k => ?_)
  obtain ⟨v1, rfl, rfl, rfl, rfl, k⟩ := k
  refine xe_if_ne (tgt := 16) dX11_ask_11 rfl (fun c2 => ?_) (fun c3 => ?_)
  · have k := k.2 (fun q => (c2 q))
    refine xe_aload_n dX11_ask_16 rfl ?_
    refine xe_iload_n dX11_ask_17 rfl ?_
    refine xe_iload_n dX11_ask_18 rfl ?_
    refine xe_callV (args := [.int i1, .int i3]) dX11_ask_19 vlX11_329 rfl rfl (Nat.le_of_ble_eq_true rfl) kk8 (xKK_lt kk8) rfl rfl k (Nat.le_refl _) (fun rv4 u4 w4 r4 k => ?_)
    obtain ⟨v4, rfl, rfl, rfl, k⟩ := k
    refine xe_istore (ls' := [some (.ref 8), some (.int i1), some (.int i2), some (.int i3), some (.int v4), none, none, none, none, none]) dX11_ask_22 (by decide) rfl ?_
    refine xe_iload dX11_ask_24 rfl ?_
    refine xe_if_ne (tgt := 31) dX11_ask_26 rfl (fun c5 => ?_) (fun c6 => ?_)
    · have k := k.2 (fun q => (c5 q))
      refine xe_iconst (v := -1) dX11_ask_31 rfl ?_
      refine xe_istore (ls' := [some (.ref 8), some (.int i1), some (.int i2), some (.int i3), some (.int v4), some (.int (-1 : Int32)), none, none, none, none]) dX11_ask_32 (by decide) rfl ?_
      refine xe_bipush (v := 8) dX11_ask_34 rfl ?_
      refine xe_istore (ls' := [some (.ref 8), some (.int i1), some (.int i2), some (.int i3), some (.int v4), some (.int (-1 : Int32)), some (.int (8 : Int32)), none, none, none]) dX11_ask_36 (by decide) rfl ?_
      refine xe_iconst (v := 0) dX11_ask_38 rfl ?_
      refine xe_istore (ls' := [some (.ref 8), some (.int i1), some (.int i2), some (.int i3), some (.int v4), some (.int (-1 : Int32)), some (.int (8 : Int32)), some (.int (0 : Int32)), none, none]) dX11_ask_39 (by decide) rfl ?_
      exact xEv.fewer (ls' := [some (.ref 8), none, some (.int i2), none, some (.int v4), some (.int (-1 : Int32)), some (.int (8 : Int32)), some (.int (0 : Int32)), none, none]) k (xfw_get (xfw_s (xfw_n (xfw_s (xfw_n (xfw_s (xfw_s (xfw_s (xfw_s (xfw_n (xfw_n (xfw_nil _))))))))))))
    · have k := k.1 c6
      refine xe_iconst (v := -1) dX11_ask_29 rfl ?_
      exact xe_ireturn dX11_ask_30 rfl k
  · have k := k.1 c3
    refine xe_iconst (v := -1) dX11_ask_14 rfl ?_
    exact xe_ireturn dX11_ask_15 rfl k

theorem CX11_ask {g : xGT} {d : Nat} {i1 i2 i3 : Int32} {l : Nat} {u : xU} {w : xW} {r : xQ} {P : xPost} (h_l : xLd l) (hm_told : r 8 10 = some l)
    (k : xCall g d mX11_isOneOf [.int i1, .int (u l 0)] 698 u w r 698 (fun rv1 u1 w1 r1 => ∃ v1 : Int32, rv1 = some (.int v1) ∧ u = u1 ∧ w = w1 ∧ r = r1 ∧ (v1 = 0 → P (some (.int (-1 : Int32))) u w r) ∧ (¬ (v1 = 0) → xCall g d mX11_fitting [.ref 8, .int i1, .int i3] 698 u w r 698 (fun rv4 u4 w4 r4 => ∃ v4 : Int32, rv4 = some (.int v4) ∧ w = w4 ∧ r = r4 ∧ (v4 = 0 → P (some (.int (-1 : Int32))) u4 w r) ∧ (¬ (v4 = 0) → xEv g (d + 1) mX11_ask 41 [some (.ref 8), none, some (.int i2), none, some (.int v4), some (.int (-1 : Int32)), some (.int (8 : Int32)), some (.int (0 : Int32)), none, none] [] 698 u4 w r 698 P))))) :
    xCall g (d + 1) mX11_ask [.ref 8, .int i1, .int i2, .int i3] 698 u w r 698 P :=
  xCall.of plX11 (Nat.le_of_ble_eq_true rfl) rfl (TX11_ask_0 h_l hm_told k)

theorem TX11_ask_41 {g : xGT} {d : Nat} {i2 i4 i5 i6 i7 : Int32} {l : Nat} {u : xU} {w : xW} {r : xQ} {P : xPost} (hr : xRf r) (h_l : xLd l) (hm_told : r 8 10 = some l)
    (k : ((u l 5) ≤ i7 → ((i5 = (-1 : Int32) ∨ i2 = 0) → P (some (.int i5)) u w r) ∧ (¬ (i5 = (-1 : Int32) ∨ i2 = 0) → P (some (.int (if i2 = (1 : Int32) then i6 else (-1 : Int32)))) u w r)) ∧ (¬ ((u l 5) ≤ i7) → xCall g d mX3_countHandedInto [.ref 79, .int i7, .int i4] 698 u w r 698 (fun rv18 u18 w18 r18 => ∃ v18 : Int32, rv18 = some (.int v18) ∧ u = u18 ∧ w = w18 ∧ r = r18 ∧ xCall g d mJ6_bitCount_0f7a4 [.int i4] 698 u w r 698 (fun rv19 u19 w19 r19 => ∃ v19 : Int32, rv19 = some (.int v19) ∧ u = u19 ∧ w = w19 ∧ r = r19 ∧ (i6 ≤ (if v18 < (v19 - v18) then (v19 - v18) else v18) → xEv g (d + 1) mX11_ask 96 [some (.ref 8), none, some (.int i2), none, some (.int i4), some (.int i5), some (.int i6), some (.int i7), none, none] [] 698 u w r 698 P) ∧ (¬ (i6 ≤ (if v18 < (v19 - v18) then (v19 - v18) else v18)) → xEv g (d + 1) mX11_ask 96 [some (.ref 8), none, some (.int i2), none, some (.int i4), some (.int i7), some (.int (if v18 < (v19 - v18) then (v19 - v18) else v18)), some (.int i7), none, none] [] 698 u w r 698 P))))) :
    xEv g (d + 1) mX11_ask 41 [some (.ref 8), none, some (.int i2), none, some (.int i4), some (.int i5), some (.int i6), some (.int i7), none, none] [] 698 u w r 698 P := by
  refine xe_iload dX11_ask_41 rfl ?_
  refine xe_aload_n dX11_ask_43 rfl ?_
  refine xe_getR (b := l) dX11_ask_44 flX11_19 kk8 (xKK_lt kk8) rfl hm_told ?_
  refine xe_getI dX11_ask_47 flX11_107 h_l.k0 (xKK_lt h_l.k0) rfl ?_
  refine xe_icmp_ge (tgt := 102) dX11_ask_50 rfl (fun c7 => ?_) (fun c8 => ?_)
  · have k := k.1 c7
    refine xe_iload dX11_ask_102 rfl ?_
    refine xe_iconst (v := -1) dX11_ask_104 rfl ?_
    have K16 : (i5 = (-1 : Int32) ∨ i2 = 0) → xEv g (d + 1) mX11_ask 112 [some (.ref 8), none, some (.int i2), none, some (.int i4), some (.int i5), some (.int i6), some (.int i7), none, none] [] 698 u w r 698 P := fun c17 => by
      have k := k.1 c17
      refine xe_iload dX11_ask_112 rfl ?_
      exact xe_ireturn dX11_ask_114 rfl k
    refine xe_icmp_eq (tgt := 112) dX11_ask_105 rfl (fun c9 => ?_) (fun c10 => ?_)
    · exact K16 (Or.inl c9)
    · refine xe_iload_n dX11_ask_108 rfl ?_
      refine xe_if_ne (tgt := 115) dX11_ask_109 rfl (fun c11 => ?_) (fun c12 => ?_)
      · have k := k.2 (fun q => (q.elim (fun z => (c10 z)) (fun z => (c11 z))))
        refine xe_iload_n dX11_ask_115 rfl ?_
        refine xe_iconst (v := 1) dX11_ask_116 rfl ?_
        have K15 : xEv g (d + 1) mX11_ask 126 [some (.ref 8), none, some (.int i2), none, some (.int i4), some (.int i5), some (.int i6), some (.int i7), none, none] [.int (if i2 = (1 : Int32) then i6 else (-1 : Int32))] 698 u w r 698 P := by
          exact xe_ireturn dX11_ask_126 rfl k
        refine xe_icmp_ne (tgt := 125) dX11_ask_117 rfl (fun c13 => ?_) (fun c14 => ?_)
        · refine xe_iconst (v := -1) dX11_ask_125 rfl ?_
          exact xtop (if_neg (fun q => (c13 q))) K15
        · refine xe_iload dX11_ask_120 rfl ?_
          refine xe_goto (tgt := 126) dX11_ask_122 rfl ?_
          exact xtop (if_pos c14) K15
      · exact K16 (Or.inr c12)
  · have k := k.2 (fun q => (c8 q))
    refine xe_aload_n dX11_ask_53 rfl ?_
    refine xe_getR (b := 79) dX11_ask_54 flX11_40 kk8 (xKK_lt kk8) rfl (rf8_2 hr) ?_
    refine xe_iload dX11_ask_57 rfl ?_
    refine xe_iload dX11_ask_59 rfl ?_
    refine xe_callV (args := [.int i7, .int i4]) dX11_ask_61 vlX11_332 rfl rfl (Nat.le_of_ble_eq_true rfl) kk79 (xKK_lt kk79) rfl rfl k (Nat.le_refl _) (fun rv18 u18 w18 r18 k => ?_)
    obtain ⟨v18, rfl, rfl, rfl, rfl, k⟩ := k
    refine xe_istore (ls' := [some (.ref 8), none, some (.int i2), none, some (.int i4), some (.int i5), some (.int i6), some (.int i7), some (.int v18), none]) dX11_ask_64 (by decide) rfl ?_
    refine xe_iload dX11_ask_66 rfl ?_
    refine xe_iload dX11_ask_68 rfl ?_
    refine xe_callS (args := [.int i4]) dX11_ask_70 slX11_270 rfl rfl (Nat.le_of_ble_eq_true rfl) k (Nat.le_refl _) (fun rv19 u19 w19 r19 k => ?_)
    obtain ⟨v19, rfl, rfl, rfl, rfl, k⟩ := k
    refine xe_iload dX11_ask_73 rfl ?_
    refine xe_isub dX11_ask_75 ?_
    refine xe_mmax dX11_ask_76 mlX11_288 (Nat.le_of_ble_eq_true rfl) ?_
    refine xe_istore (ls' := [some (.ref 8), none, some (.int i2), none, some (.int i4), some (.int i5), some (.int i6), some (.int i7), some (.int v18), some (.int (if v18 < (v19 - v18) then (v19 - v18) else v18))]) dX11_ask_79 (by decide) rfl ?_
    refine xe_iload dX11_ask_81 rfl ?_
    refine xe_iload dX11_ask_83 rfl ?_
    refine xe_icmp_ge (tgt := 96) dX11_ask_85 rfl (fun c20 => ?_) (fun c21 => ?_)
    · have k := k.1 c20
      exact xEv.fewer (ls' := [some (.ref 8), none, some (.int i2), none, some (.int i4), some (.int i5), some (.int i6), some (.int i7), none, none]) k (xfw_get (xfw_s (xfw_n (xfw_s (xfw_n (xfw_s (xfw_s (xfw_s (xfw_s (xfw_n (xfw_n (xfw_nil _))))))))))))
    · have k := k.2 (fun q => (c21 q))
      refine xe_iload dX11_ask_88 rfl ?_
      refine xe_istore (ls' := [some (.ref 8), none, some (.int i2), none, some (.int i4), some (.int i7), some (.int i6), some (.int i7), some (.int v18), some (.int (if v18 < (v19 - v18) then (v19 - v18) else v18))]) dX11_ask_90 (by decide) rfl ?_
      refine xe_iload dX11_ask_92 rfl ?_
      refine xe_istore (ls' := [some (.ref 8), none, some (.int i2), none, some (.int i4), some (.int i7), some (.int (if v18 < (v19 - v18) then (v19 - v18) else v18)), some (.int i7), some (.int v18), some (.int (if v18 < (v19 - v18) then (v19 - v18) else v18))]) dX11_ask_94 (by decide) rfl ?_
      exact xEv.fewer (ls' := [some (.ref 8), none, some (.int i2), none, some (.int i4), some (.int i7), some (.int (if v18 < (v19 - v18) then (v19 - v18) else v18)), some (.int i7), none, none]) k (xfw_get (xfw_s (xfw_n (xfw_s (xfw_n (xfw_s (xfw_s (xfw_s (xfw_s (xfw_n (xfw_n (xfw_nil _))))))))))))

theorem TX11_ask_96 {g : xGT} {d : Nat} {i2 i4 i5 i6 i7 : Int32} {u : xU} {w : xW} {r : xQ} {P : xPost}
    (k : xEv g (d + 1) mX11_ask 41 [some (.ref 8), none, some (.int i2), none, some (.int i4), some (.int i5), some (.int i6), some (.int (i7 + (1 : Int32))), none, none] [] 698 u w r 698 P) :
    xEv g (d + 1) mX11_ask 96 [some (.ref 8), none, some (.int i2), none, some (.int i4), some (.int i5), some (.int i6), some (.int i7), none, none] [] 698 u w r 698 P := by
  refine xe_iinc (v := (i7 + (1 : Int32))) (ls' := [some (.ref 8), none, some (.int i2), none, some (.int i4), some (.int i5), some (.int i6), some (.int (i7 + (1 : Int32))), none, none]) dX11_ask_96 rfl (by decide) rfl rfl ?_
  refine xe_goto (tgt := 41) dX11_ask_99 rfl ?_
  exact k

/-! FuneralPost.image -/

theorem TX11_image_0 {g : xGT} {d : Nat} {i1 : Int32} {u : xU} {w : xW} {r : xQ} {P : xPost} (hr : xRf r)
    (k : xCall g d mX11_isOneOf [.int i1, .int (3 : Int32)] 698 u w r 698 (fun rv1 u1 w1 r1 => ∃ v1 : Int32, rv1 = some (.int v1) ∧ u = u1 ∧ w = w1 ∧ r = r1 ∧ (v1 = 0 → P (some (.int (-1 : Int32))) u w r) ∧ (¬ (v1 = 0) → vp_in i1 3 ∧ (xCall g d mX9_copyFrom [.ref (617 + 12 * i1.toNatClampNeg), .ref 105] 698 u w r 698 (fun rv5 u5 w5 r5 => rv5 = none ∧ w = w5 ∧ r = r5 ∧ P (some (.int (u5 105 0))) (x2 u5 653 i1.toNatClampNeg (1 : Int32)) w r))))) :
    xEv g (d + 1) mX11_image 0 [some (.ref 8), some (.int i1)] [] 698 u w r 698 P := by
  refine xe_iload_n dX11_image_0 rfl ?_
  refine xe_iconst (v := 3) dX11_image_1 rfl ?_
  refine xe_callS (args := [.int i1, .int (3 : Int32)]) dX11_image_2 slX11_110 rfl rfl (Nat.le_of_ble_eq_true rfl) k (Nat.le_refl _) (fun rv1 u1 w1 r1 k => ?_)
  obtain ⟨v1, rfl, rfl, rfl, rfl, k⟩ := k
  refine xe_if_ne (tgt := 10) dX11_image_5 rfl (fun c2 => ?_) (fun c3 => ?_)
  · have k := k.2 (fun q => (c2 q))
    refine xe_aload_n dX11_image_10 rfl ?_
    refine xe_getR (b := 616) dX11_image_11 flX11_65 kk8 (xKK_lt kk8) rfl (rf8_6 hr) ?_
    refine xe_iload_n dX11_image_14 rfl ?_
    obtain ⟨b4, k⟩ := k
    refine xe_aald dX11_image_15 kk616 (xKK_lt kk616) (by simp) b4 (rr616 hr b4) ?_
    refine xe_aload_n dX11_image_16 rfl ?_
    refine xe_getR (b := 105) dX11_image_17 flX11_47 kk8 (xKK_lt kk8) rfl (rf8_3 hr) ?_
    refine xe_callV (args := [.ref 105]) dX11_image_20 vlX11_335 rfl rfl (Nat.le_of_ble_eq_true rfl) (ss616 b4).k0 (xKK_lt (ss616 b4).k0) rfl rfl k (Nat.le_refl _) (fun rv5 u5 w5 r5 k => ?_)
    obtain ⟨rfl, rfl, rfl, k⟩ := k
    refine xe_aload_n dX11_image_23 rfl ?_
    refine xe_getR (b := 653) dX11_image_24 flX11_69 kk8 (xKK_lt kk8) rfl (rf8_7 hr) ?_
    refine xe_iload_n dX11_image_27 rfl ?_
    refine xe_iconst (v := 1) dX11_image_28 rfl ?_
    refine xe_zast dX11_image_29 kk653 (xKK_lt kk653) b4 (Or.inr rfl) ?_
    refine xe_aload_n dX11_image_30 rfl ?_
    refine xe_getR (b := 105) dX11_image_31 flX11_47 kk8 (xKK_lt kk8) rfl (rf8_3 hr) ?_
    refine xe_getI dX11_image_34 flX11_178 st105.k0 (xKK_lt st105.k0) rfl ?_
    exact xe_ireturn dX11_image_37 rfl k
  · have k := k.1 c3
    refine xe_iconst (v := -1) dX11_image_8 rfl ?_
    exact xe_ireturn dX11_image_9 rfl k

theorem CX11_image {g : xGT} {d : Nat} {i1 : Int32} {u : xU} {w : xW} {r : xQ} {P : xPost} (hr : xRf r)
    (k : xCall g d mX11_isOneOf [.int i1, .int (3 : Int32)] 698 u w r 698 (fun rv1 u1 w1 r1 => ∃ v1 : Int32, rv1 = some (.int v1) ∧ u = u1 ∧ w = w1 ∧ r = r1 ∧ (v1 = 0 → P (some (.int (-1 : Int32))) u w r) ∧ (¬ (v1 = 0) → vp_in i1 3 ∧ (xCall g d mX9_copyFrom [.ref (617 + 12 * i1.toNatClampNeg), .ref 105] 698 u w r 698 (fun rv5 u5 w5 r5 => rv5 = none ∧ w = w5 ∧ r = r5 ∧ P (some (.int (u5 105 0))) (x2 u5 653 i1.toNatClampNeg (1 : Int32)) w r))))) :
    xCall g (d + 1) mX11_image [.ref 8, .int i1] 698 u w r 698 P :=
  xCall.of plX11 (Nat.le_of_ble_eq_true rfl) rfl (TX11_image_0 hr k)

/-! FuneralPost.back -/

theorem TX11_back_0 {g : xGT} {d : Nat} {i1 : Int32} {u : xU} {w : xW} {r : xQ} {P : xPost} (hr : xRf r)
    (k : xCall g d mX11_isOneOf [.int i1, .int (3 : Int32)] 698 u w r 698 (fun rv1 u1 w1 r1 => ∃ v1 : Int32, rv1 = some (.int v1) ∧ u = u1 ∧ w = w1 ∧ r = r1 ∧ (¬ (v1 = 0) → vp_in i1 3) ∧ (((v1 = 0 ∨ (u 653 i1.toNatClampNeg) = 0) → P (some (.int (-1 : Int32))) u w r) ∧ (¬ (v1 = 0 ∨ (u 653 i1.toNatClampNeg) = 0) → vp_in i1 3 ∧ (xCall g d mX11_goOnFrom [.ref 8, .ref (617 + 12 * i1.toNatClampNeg)] 698 u w r 698 (fun rv8 u8 w8 r8 => rv8 = none ∧ w = w8 ∧ r = r8 ∧ xCall g d mX6_begin [.ref 117, .ref 105] 698 u8 w r 698 (fun rv9 u9 w9 r9 => rv9 = none ∧ w = w9 ∧ r = r9 ∧ P (some (.int (u9 105 0))) u9 w r))))))) :
    xEv g (d + 1) mX11_back 0 [some (.ref 8), some (.int i1)] [] 698 u w r 698 P := by
  refine xe_iload_n dX11_back_0 rfl ?_
  refine xe_iconst (v := 3) dX11_back_1 rfl ?_
  refine xe_callS (args := [.int i1, .int (3 : Int32)]) dX11_back_2 slX11_110 rfl rfl (Nat.le_of_ble_eq_true rfl) k (Nat.le_refl _) (fun rv1 u1 w1 r1 k => ?_)
  obtain ⟨v1, rfl, rfl, rfl, rfl, k⟩ := k
  obtain ⟨b4, k⟩ := k
  have K10 : (v1 = 0 ∨ (u 653 i1.toNatClampNeg) = 0) → xEv g (d + 1) mX11_back 17 [some (.ref 8), some (.int i1)] [] 698 u w r 698 P := fun c11 => by
    have k := k.1 c11
    refine xe_iconst (v := -1) dX11_back_17 rfl ?_
    exact xe_ireturn dX11_back_18 rfl k
  refine xe_if_eq (tgt := 17) dX11_back_5 rfl (fun c2 => ?_) (fun c3 => ?_)
  · exact K10 (Or.inl c2)
  · refine xe_aload_n dX11_back_8 rfl ?_
    refine xe_getR (b := 653) dX11_back_9 flX11_69 kk8 (xKK_lt kk8) rfl (rf8_7 hr) ?_
    refine xe_iload_n dX11_back_12 rfl ?_
    refine xe_zald dX11_back_13 kk653 (xKK_lt kk653) (b4 c3) ?_
    refine xe_if_ne (tgt := 19) dX11_back_14 rfl (fun c5 => ?_) (fun c6 => ?_)
    · have k := k.2 (fun q => (q.elim (fun z => (c3 z)) (fun z => (c5 z))))
      refine xe_aload_n dX11_back_19 rfl ?_
      refine xe_aload_n dX11_back_20 rfl ?_
      refine xe_getR (b := 616) dX11_back_21 flX11_65 kk8 (xKK_lt kk8) rfl (rf8_6 hr) ?_
      refine xe_iload_n dX11_back_24 rfl ?_
      obtain ⟨b7, k⟩ := k
      refine xe_aald dX11_back_25 kk616 (xKK_lt kk616) (by simp) b7 (rr616 hr b7) ?_
      refine xe_callV (args := [.ref (617 + 12 * i1.toNatClampNeg)]) dX11_back_26 vlX11_227 rfl rfl (Nat.le_of_ble_eq_true rfl) kk8 (xKK_lt kk8) rfl rfl k (Nat.le_refl _) (fun rv8 u8 w8 r8 k => ?_)
      obtain ⟨rfl, rfl, rfl, k⟩ := k
      refine xe_aload_n dX11_back_29 rfl ?_
      refine xe_getR (b := 117) dX11_back_30 flX11_54 kk8 (xKK_lt kk8) rfl (rf8_4 hr) ?_
      refine xe_aload_n dX11_back_33 rfl ?_
      refine xe_getR (b := 105) dX11_back_34 flX11_47 kk8 (xKK_lt kk8) rfl (rf8_3 hr) ?_
      refine xe_callV (args := [.ref 105]) dX11_back_37 vlX11_338 rfl rfl (Nat.le_of_ble_eq_true rfl) kk117 (xKK_lt kk117) rfl rfl k (Nat.le_refl _) (fun rv9 u9 w9 r9 k => ?_)
      obtain ⟨rfl, rfl, rfl, k⟩ := k
      refine xe_aload_n dX11_back_40 rfl ?_
      refine xe_getR (b := 105) dX11_back_41 flX11_47 kk8 (xKK_lt kk8) rfl (rf8_3 hr) ?_
      refine xe_getI dX11_back_44 flX11_178 st105.k0 (xKK_lt st105.k0) rfl ?_
      exact xe_ireturn dX11_back_47 rfl k
    · exact K10 (Or.inr c6)

theorem CX11_back {g : xGT} {d : Nat} {i1 : Int32} {u : xU} {w : xW} {r : xQ} {P : xPost} (hr : xRf r)
    (k : xCall g d mX11_isOneOf [.int i1, .int (3 : Int32)] 698 u w r 698 (fun rv1 u1 w1 r1 => ∃ v1 : Int32, rv1 = some (.int v1) ∧ u = u1 ∧ w = w1 ∧ r = r1 ∧ (¬ (v1 = 0) → vp_in i1 3) ∧ (((v1 = 0 ∨ (u 653 i1.toNatClampNeg) = 0) → P (some (.int (-1 : Int32))) u w r) ∧ (¬ (v1 = 0 ∨ (u 653 i1.toNatClampNeg) = 0) → vp_in i1 3 ∧ (xCall g d mX11_goOnFrom [.ref 8, .ref (617 + 12 * i1.toNatClampNeg)] 698 u w r 698 (fun rv8 u8 w8 r8 => rv8 = none ∧ w = w8 ∧ r = r8 ∧ xCall g d mX6_begin [.ref 117, .ref 105] 698 u8 w r 698 (fun rv9 u9 w9 r9 => rv9 = none ∧ w = w9 ∧ r = r9 ∧ P (some (.int (u9 105 0))) u9 w r))))))) :
    xCall g (d + 1) mX11_back [.ref 8, .int i1] 698 u w r 698 P :=
  xCall.of plX11 (Nat.le_of_ble_eq_true rfl) rfl (TX11_back_0 hr k)

/-! FuneralPost.about -/

set_option maxRecDepth 20000 in
theorem TX11_about_0 {g : xGT} {d : Nat} {i1 : Int32} {l : Nat} {u : xU} {w : xW} {r : xQ} {P : xPost} (hr : xRf r) (h_l : xLd l) (q_l : xLr l r) (hm_told : r 8 10 = some l)
    (k : (i1 = 0 → P (some (.int (u 105 2))) u w r) ∧ (i1 = 1 → P (some (.int (u l 0))) u w r) ∧ (i1 = 2 → P (some (.int (u l 1))) u w r) ∧ (i1 = 3 → P (some (.int (u l 5))) u w r) ∧ (i1 = 4 → P (some (.int (u 105 0))) u w r) ∧ (i1 = 5 → P (some (.int (u 105 1))) u w r) ∧ (i1 = 6 → xCall g d mX9_lettersHome [.ref 105] 698 u w r 698 (fun rv1 u1 w1 r1 => ∃ v1 : Int32, rv1 = some (.int v1) ∧ u = u1 ∧ w = w1 ∧ r = r1 ∧ P (some (.int v1)) u w r)) ∧ (i1 = 7 → xCall g d mX6_undoable [.ref 117] 698 u w r 698 (fun rv2 u2 w2 r2 => ∃ v2 : Int32, rv2 = some (.int v2) ∧ u = u2 ∧ w = w2 ∧ r = r2 ∧ P (some (.int v2)) u w r)) ∧ (i1 = 8 → xCall g d mX6_redoable [.ref 117] 698 u w r 698 (fun rv3 u3 w3 r3 => ∃ v3 : Int32, rv3 = some (.int v3) ∧ u = u3 ∧ w = w3 ∧ r = r3 ∧ P (some (.int v3)) u w r)) ∧ (i1 = 9 → P (some (.int (u 611 4))) u w r) ∧ (i1 = 10 → P (some (.int (u 611 5))) u w r) ∧ (i1 = 11 → P (some (.int (u 10 1))) u w r) ∧ (i1 = 12 → P (some (.int (u (l + 12) 3))) u w r) ∧ (i1 = 13 → P (some (.int (u 8 9))) u w r) ∧ (¬ i1 = 0 → ¬ i1 = 1 → ¬ i1 = 2 → ¬ i1 = 3 → ¬ i1 = 4 → ¬ i1 = 5 → ¬ i1 = 6 → ¬ i1 = 7 → ¬ i1 = 8 → ¬ i1 = 9 → ¬ i1 = 10 → ¬ i1 = 11 → ¬ i1 = 12 → ¬ i1 = 13 → P (some (.int (-1 : Int32))) u w r)) :
    xEv g (d + 1) mX11_about 0 [some (.ref 8), some (.int i1)] [] 698 u w r 698 P := by
  refine xe_iload_n dX11_about_0 rfl ?_
  by_cases c4 : i1 = 0
  · have k := k.1 c4
    refine xe_tableIn (tgt := 72) dX11_about_1 (by rw [c4]; decide) (by rw [c4]; decide) (by rw [c4]; rfl) rfl ?_
    refine xe_aload_n dX11_about_72 rfl ?_
    refine xe_getR (b := 105) dX11_about_73 flX11_47 kk8 (xKK_lt kk8) rfl (rf8_3 hr) ?_
    refine xe_getI dX11_about_76 flX11_133 st105.k0 (xKK_lt st105.k0) rfl ?_
    exact xe_ireturn dX11_about_79 rfl k
  by_cases c5 : i1 = 1
  · have k := k.2.1 c5
    refine xe_tableIn (tgt := 80) dX11_about_1 (by rw [c5]; decide) (by rw [c5]; decide) (by rw [c5]; rfl) rfl ?_
    refine xe_aload_n dX11_about_80 rfl ?_
    refine xe_getR (b := l) dX11_about_81 flX11_19 kk8 (xKK_lt kk8) rfl hm_told ?_
    refine xe_getI dX11_about_84 flX11_155 h_l.k0 (xKK_lt h_l.k0) rfl ?_
    exact xe_ireturn dX11_about_87 rfl k
  by_cases c6 : i1 = 2
  · have k := k.2.2.1 c6
    refine xe_tableIn (tgt := 88) dX11_about_1 (by rw [c6]; decide) (by rw [c6]; decide) (by rw [c6]; rfl) rfl ?_
    refine xe_aload_n dX11_about_88 rfl ?_
    refine xe_getR (b := l) dX11_about_89 flX11_19 kk8 (xKK_lt kk8) rfl hm_told ?_
    refine xe_getI dX11_about_92 flX11_209 h_l.k0 (xKK_lt h_l.k0) rfl ?_
    exact xe_ireturn dX11_about_95 rfl k
  by_cases c7 : i1 = 3
  · have k := k.2.2.2.1 c7
    refine xe_tableIn (tgt := 96) dX11_about_1 (by rw [c7]; decide) (by rw [c7]; decide) (by rw [c7]; rfl) rfl ?_
    refine xe_aload_n dX11_about_96 rfl ?_
    refine xe_getR (b := l) dX11_about_97 flX11_19 kk8 (xKK_lt kk8) rfl hm_told ?_
    refine xe_getI dX11_about_100 flX11_107 h_l.k0 (xKK_lt h_l.k0) rfl ?_
    exact xe_ireturn dX11_about_103 rfl k
  by_cases c8 : i1 = 4
  · have k := k.2.2.2.2.1 c8
    refine xe_tableIn (tgt := 104) dX11_about_1 (by rw [c8]; decide) (by rw [c8]; decide) (by rw [c8]; rfl) rfl ?_
    refine xe_aload_n dX11_about_104 rfl ?_
    refine xe_getR (b := 105) dX11_about_105 flX11_47 kk8 (xKK_lt kk8) rfl (rf8_3 hr) ?_
    refine xe_getI dX11_about_108 flX11_178 st105.k0 (xKK_lt st105.k0) rfl ?_
    exact xe_ireturn dX11_about_111 rfl k
  by_cases c9 : i1 = 5
  · have k := k.2.2.2.2.2.1 c9
    refine xe_tableIn (tgt := 112) dX11_about_1 (by rw [c9]; decide) (by rw [c9]; decide) (by rw [c9]; rfl) rfl ?_
    refine xe_aload_n dX11_about_112 rfl ?_
    refine xe_getR (b := 105) dX11_about_113 flX11_47 kk8 (xKK_lt kk8) rfl (rf8_3 hr) ?_
    refine xe_getI dX11_about_116 flX11_212 st105.k0 (xKK_lt st105.k0) rfl ?_
    exact xe_ireturn dX11_about_119 rfl k
  by_cases c10 : i1 = 6
  · have k := k.2.2.2.2.2.2.1 c10
    refine xe_tableIn (tgt := 120) dX11_about_1 (by rw [c10]; decide) (by rw [c10]; decide) (by rw [c10]; rfl) rfl ?_
    refine xe_aload_n dX11_about_120 rfl ?_
    refine xe_getR (b := 105) dX11_about_121 flX11_47 kk8 (xKK_lt kk8) rfl (rf8_3 hr) ?_
    refine xe_callV (args := []) dX11_about_124 vlX11_341 rfl rfl (Nat.le_of_ble_eq_true rfl) st105.k0 (xKK_lt st105.k0) rfl rfl k (Nat.le_refl _) (fun rv1 u1 w1 r1 k => ?_)
    obtain ⟨v1, rfl, rfl, rfl, rfl, k⟩ := k
    exact xe_ireturn dX11_about_127 rfl k
  by_cases c11 : i1 = 7
  · have k := k.2.2.2.2.2.2.2.1 c11
    refine xe_tableIn (tgt := 128) dX11_about_1 (by rw [c11]; decide) (by rw [c11]; decide) (by rw [c11]; rfl) rfl ?_
    refine xe_aload_n dX11_about_128 rfl ?_
    refine xe_getR (b := 117) dX11_about_129 flX11_54 kk8 (xKK_lt kk8) rfl (rf8_4 hr) ?_
    refine xe_callV (args := []) dX11_about_132 vlX11_219 rfl rfl (Nat.le_of_ble_eq_true rfl) kk117 (xKK_lt kk117) rfl rfl k (Nat.le_refl _) (fun rv2 u2 w2 r2 k => ?_)
    obtain ⟨v2, rfl, rfl, rfl, rfl, k⟩ := k
    exact xe_ireturn dX11_about_135 rfl k
  by_cases c12 : i1 = 8
  · have k := k.2.2.2.2.2.2.2.2.1 c12
    refine xe_tableIn (tgt := 136) dX11_about_1 (by rw [c12]; decide) (by rw [c12]; decide) (by rw [c12]; rfl) rfl ?_
    refine xe_aload_n dX11_about_136 rfl ?_
    refine xe_getR (b := 117) dX11_about_137 flX11_54 kk8 (xKK_lt kk8) rfl (rf8_4 hr) ?_
    refine xe_callV (args := []) dX11_about_140 vlX11_230 rfl rfl (Nat.le_of_ble_eq_true rfl) kk117 (xKK_lt kk117) rfl rfl k (Nat.le_refl _) (fun rv3 u3 w3 r3 k => ?_)
    obtain ⟨v3, rfl, rfl, rfl, rfl, k⟩ := k
    exact xe_ireturn dX11_about_143 rfl k
  by_cases c13 : i1 = 9
  · have k := k.2.2.2.2.2.2.2.2.2.1 c13
    refine xe_tableIn (tgt := 144) dX11_about_1 (by rw [c13]; decide) (by rw [c13]; decide) (by rw [c13]; rfl) rfl ?_
    refine xe_aload_n dX11_about_144 rfl ?_
    refine xe_getR (b := 611) dX11_about_145 flX11_61 kk8 (xKK_lt kk8) rfl (rf8_5 hr) ?_
    refine xe_getI dX11_about_148 flX11_315 kk611 (xKK_lt kk611) rfl ?_
    exact xe_ireturn dX11_about_151 rfl k
  by_cases c14 : i1 = 10
  · have k := k.2.2.2.2.2.2.2.2.2.2.1 c14
    refine xe_tableIn (tgt := 152) dX11_about_1 (by rw [c14]; decide) (by rw [c14]; decide) (by rw [c14]; rfl) rfl ?_
    refine xe_aload_n dX11_about_152 rfl ?_
    refine xe_getR (b := 611) dX11_about_153 flX11_61 kk8 (xKK_lt kk8) rfl (rf8_5 hr) ?_
    refine xe_getI dX11_about_156 flX11_325 kk611 (xKK_lt kk611) rfl ?_
    exact xe_ireturn dX11_about_159 rfl k
  by_cases c15 : i1 = 11
  · have k := k.2.2.2.2.2.2.2.2.2.2.2.1 c15
    refine xe_tableIn (tgt := 160) dX11_about_1 (by rw [c15]; decide) (by rw [c15]; decide) (by rw [c15]; rfl) rfl ?_
    refine xe_aload_n dX11_about_160 rfl ?_
    refine xe_getR (b := 9) dX11_about_161 flX11_10 kk8 (xKK_lt kk8) rfl (rf8_0 hr) ?_
    refine xe_getR (b := 10) dX11_about_164 flX11_80 kk9 (xKK_lt kk9) rfl (rf9_0 hr) ?_
    refine xe_getI dX11_about_167 flX11_84 kk10 (xKK_lt kk10) rfl ?_
    exact xe_ireturn dX11_about_170 rfl k
  by_cases c16 : i1 = 12
  · have k := k.2.2.2.2.2.2.2.2.2.2.2.2.1 c16
    refine xe_tableIn (tgt := 171) dX11_about_1 (by rw [c16]; decide) (by rw [c16]; decide) (by rw [c16]; rfl) rfl ?_
    refine xe_aload_n dX11_about_171 rfl ?_
    refine xe_getR (b := l) dX11_about_172 flX11_19 kk8 (xKK_lt kk8) rfl hm_told ?_
    refine xe_getR (b := (l + 12)) dX11_about_175 flX11_344 h_l.k0 (xKK_lt h_l.k0) rfl q_l.1.f17 ?_
    refine xe_getI dX11_about_178 flX11_348 h_l.fm.k0 (xKK_lt h_l.fm.k0) rfl ?_
    exact xe_ireturn dX11_about_181 rfl k
  by_cases c17 : i1 = 13
  · have k := k.2.2.2.2.2.2.2.2.2.2.2.2.2.1 c17
    refine xe_tableIn (tgt := 182) dX11_about_1 (by rw [c17]; decide) (by rw [c17]; decide) (by rw [c17]; rfl) rfl ?_
    refine xe_aload_n dX11_about_182 rfl ?_
    refine xe_getI dX11_about_183 flX11_296 kk8 (xKK_lt kk8) rfl ?_
    exact xe_ireturn dX11_about_186 rfl k
  have k := k.2.2.2.2.2.2.2.2.2.2.2.2.2.2 c4 c5 c6 c7 c8 c9 c10 c11 c12 c13 c14 c15 c16 c17
  have K18 : xEv g (d + 1) mX11_about 187 [some (.ref 8), some (.int i1)] [] 698 u w r 698 P := by
    refine xe_iconst (v := -1) dX11_about_187 rfl ?_
    exact xe_ireturn dX11_about_188 rfl k
  by_cases hlo : i1.toInt < 0 ∨ 13 < i1.toInt
  · exact xe_tableOut (tgt := 187) dX11_about_1 hlo rfl K18
  · exact absurd (xsw_0_13_14 c4 c5 c6 c7 c8 c9 c10 c11 c12 c13 c14 c15 c16 c17 hlo) (fun h => h)

theorem CX11_about {g : xGT} {d : Nat} {i1 : Int32} {l : Nat} {u : xU} {w : xW} {r : xQ} {P : xPost} (hr : xRf r) (h_l : xLd l) (q_l : xLr l r) (hm_told : r 8 10 = some l)
    (k : (i1 = 0 → P (some (.int (u 105 2))) u w r) ∧ (i1 = 1 → P (some (.int (u l 0))) u w r) ∧ (i1 = 2 → P (some (.int (u l 1))) u w r) ∧ (i1 = 3 → P (some (.int (u l 5))) u w r) ∧ (i1 = 4 → P (some (.int (u 105 0))) u w r) ∧ (i1 = 5 → P (some (.int (u 105 1))) u w r) ∧ (i1 = 6 → xCall g d mX9_lettersHome [.ref 105] 698 u w r 698 (fun rv1 u1 w1 r1 => ∃ v1 : Int32, rv1 = some (.int v1) ∧ u = u1 ∧ w = w1 ∧ r = r1 ∧ P (some (.int v1)) u w r)) ∧ (i1 = 7 → xCall g d mX6_undoable [.ref 117] 698 u w r 698 (fun rv2 u2 w2 r2 => ∃ v2 : Int32, rv2 = some (.int v2) ∧ u = u2 ∧ w = w2 ∧ r = r2 ∧ P (some (.int v2)) u w r)) ∧ (i1 = 8 → xCall g d mX6_redoable [.ref 117] 698 u w r 698 (fun rv3 u3 w3 r3 => ∃ v3 : Int32, rv3 = some (.int v3) ∧ u = u3 ∧ w = w3 ∧ r = r3 ∧ P (some (.int v3)) u w r)) ∧ (i1 = 9 → P (some (.int (u 611 4))) u w r) ∧ (i1 = 10 → P (some (.int (u 611 5))) u w r) ∧ (i1 = 11 → P (some (.int (u 10 1))) u w r) ∧ (i1 = 12 → P (some (.int (u (l + 12) 3))) u w r) ∧ (i1 = 13 → P (some (.int (u 8 9))) u w r) ∧ (¬ i1 = 0 → ¬ i1 = 1 → ¬ i1 = 2 → ¬ i1 = 3 → ¬ i1 = 4 → ¬ i1 = 5 → ¬ i1 = 6 → ¬ i1 = 7 → ¬ i1 = 8 → ¬ i1 = 9 → ¬ i1 = 10 → ¬ i1 = 11 → ¬ i1 = 12 → ¬ i1 = 13 → P (some (.int (-1 : Int32))) u w r)) :
    xCall g (d + 1) mX11_about [.ref 8, .int i1] 698 u w r 698 P :=
  xCall.of plX11 (Nat.le_of_ble_eq_true rfl) rfl (TX11_about_0 hr h_l q_l hm_told k)

/-! FuneralPost.isOneOf -/

theorem TX11_isOneOf_0 {g : xGT} {d : Nat} {i0 i1 : Int32} {u : xU} {w : xW} {r : xQ} {P : xPost}
    (k : P (some (.int (xb (¬ (i0 < 0) ∧ ¬ (i1 ≤ i0))))) u w r) :
    xEv g d mX11_isOneOf 0 [some (.int i0), some (.int i1)] [] 698 u w r 698 P := by
  refine xe_iload_n dX11_isOneOf_0 rfl ?_
  have K5 : xEv g d mX11_isOneOf 14 [some (.int i0), some (.int i1)] [.int (xb (¬ (i0 < 0) ∧ ¬ (i1 ≤ i0)))] 698 u w r 698 P := by
    exact xe_ireturn dX11_isOneOf_14 (xrokZ (xb01 _)) k
  refine xe_if_lt (tgt := 13) dX11_isOneOf_1 rfl (fun c1 => ?_) (fun c2 => ?_)
  · refine xe_iconst (v := 0) dX11_isOneOf_13 rfl ?_
    exact xtop (xb_neg (show ¬ (¬ (i0 < 0) ∧ ¬ (i1 ≤ i0)) from (fun q => (q.1 c1)))) K5
  · refine xe_iload_n dX11_isOneOf_4 rfl ?_
    refine xe_iload_n dX11_isOneOf_5 rfl ?_
    refine xe_icmp_ge (tgt := 13) dX11_isOneOf_6 rfl (fun c3 => ?_) (fun c4 => ?_)
    · refine xe_iconst (v := 0) dX11_isOneOf_13 rfl ?_
      exact xtop (xb_neg (show ¬ (¬ (i0 < 0) ∧ ¬ (i1 ≤ i0)) from (fun q => (q.2 c3)))) K5
    · refine xe_iconst (v := 1) dX11_isOneOf_9 rfl ?_
      refine xe_goto (tgt := 14) dX11_isOneOf_10 rfl ?_
      exact xtop (xb_pos (show (¬ (i0 < 0) ∧ ¬ (i1 ≤ i0)) from ⟨c2, c4⟩)) K5

theorem CX11_isOneOf {g : xGT} {d : Nat} {i0 i1 : Int32} {u : xU} {w : xW} {r : xQ} {P : xPost}
    (k : P (some (.int (xb (¬ (i0 < 0) ∧ ¬ (i1 ≤ i0))))) u w r) :
    xCall g d mX11_isOneOf [.int i0, .int i1] 698 u w r 698 P :=
  xCall.of plX11 (Nat.le_of_ble_eq_true rfl) rfl (TX11_isOneOf_0  k)

/-! FuneralPost.cell -/

theorem TX11_cell_0 {g : xGT} {d : Nat} {i1 : Int32} {a n_a : Nat} {u : xU} {w : xW} {r : xQ} {P : xPost} (h_a : xKK a = some (.inr (.int, n_a)))
    (k : ((¬ (i1 < 0) ∧ ¬ ((Int32.ofNat n_a) ≤ i1)) → vp_in i1 n_a) ∧ (P (some (.int (if (¬ (i1 < 0) ∧ ¬ ((Int32.ofNat n_a) ≤ i1)) then (u a i1.toNatClampNeg) else (-1 : Int32)))) u w r)) :
    xEv g d mX11_cell 0 [some (.ref a), some (.int i1)] [] 698 u w r 698 P := by
  refine xe_iload_n dX11_cell_0 rfl ?_
  obtain ⟨b5, k⟩ := k
  have K6 : xEv g d mX11_cell 17 [some (.ref a), some (.int i1)] [.int (if (¬ (i1 < 0) ∧ ¬ ((Int32.ofNat n_a) ≤ i1)) then (u a i1.toNatClampNeg) else (-1 : Int32))] 698 u w r 698 P := by
    exact xe_ireturn dX11_cell_17 rfl k
  refine xe_if_lt (tgt := 16) dX11_cell_1 rfl (fun c1 => ?_) (fun c2 => ?_)
  · refine xe_iconst (v := -1) dX11_cell_16 rfl ?_
    exact xtop (if_neg (fun q => (q.1 c1))) K6
  · refine xe_iload_n dX11_cell_4 rfl ?_
    refine xe_aload_n dX11_cell_5 rfl ?_
    refine xe_alen (v := (Int32.ofNat n_a)) dX11_cell_6 h_a (xKK_lt h_a) (by simp) rfl ?_
    refine xe_icmp_ge (tgt := 16) dX11_cell_7 rfl (fun c3 => ?_) (fun c4 => ?_)
    · refine xe_iconst (v := -1) dX11_cell_16 rfl ?_
      exact xtop (if_neg (fun q => (q.2 c3))) K6
    · refine xe_aload_n dX11_cell_10 rfl ?_
      refine xe_iload_n dX11_cell_11 rfl ?_
      refine xe_iald dX11_cell_12 h_a (xKK_lt h_a) (b5 ⟨c2, c4⟩) ?_
      refine xe_goto (tgt := 17) dX11_cell_13 rfl ?_
      exact xtop (if_pos ⟨c2, c4⟩) K6

theorem CX11_cell {g : xGT} {d : Nat} {i1 : Int32} {a n_a : Nat} {u : xU} {w : xW} {r : xQ} {P : xPost} (h_a : xKK a = some (.inr (.int, n_a)))
    (k : ((¬ (i1 < 0) ∧ ¬ ((Int32.ofNat n_a) ≤ i1)) → vp_in i1 n_a) ∧ (P (some (.int (if (¬ (i1 < 0) ∧ ¬ ((Int32.ofNat n_a) ≤ i1)) then (u a i1.toNatClampNeg) else (-1 : Int32)))) u w r)) :
    xCall g d mX11_cell [.ref a, .int i1] 698 u w r 698 P :=
  xCall.of plX11 (Nat.le_of_ble_eq_true rfl) rfl (TX11_cell_0 h_a k)

/-! FuneralPost.countOrSet -/

theorem TX11_countOrSet_0 {g : xGT} {d : Nat} {i0 i1 : Int32} {u : xU} {w : xW} {r : xQ} {P : xPost}
    (k : ((i0 = (-1 : Int32) ∨ i1 = (1 : Int32)) → P (some (.int i0)) u w r) ∧ (¬ (i0 = (-1 : Int32) ∨ i1 = (1 : Int32)) → (i1 = 0 → xCall g d mJ6_bitCount_0f7a4 [.int i0] 698 u w r 698 (fun rv7 u7 w7 r7 => ∃ v7 : Int32, rv7 = some (.int v7) ∧ u = u7 ∧ w = w7 ∧ r = r7 ∧ P (some (.int v7)) u w r)) ∧ (¬ (i1 = 0) → P (some (.int (-1 : Int32))) u w r))) :
    xEv g (d + 1) mX11_countOrSet 0 [some (.int i0), some (.int i1)] [] 698 u w r 698 P := by
  refine xe_iload_n dX11_countOrSet_0 rfl ?_
  refine xe_iconst (v := -1) dX11_countOrSet_1 rfl ?_
  have K8 : (i0 = (-1 : Int32) ∨ i1 = (1 : Int32)) → xEv g (d + 1) mX11_countOrSet 10 [some (.int i0), some (.int i1)] [] 698 u w r 698 P := fun c9 => by
    have k := k.1 c9
    refine xe_iload_n dX11_countOrSet_10 rfl ?_
    exact xe_ireturn dX11_countOrSet_11 rfl k
  refine xe_icmp_eq (tgt := 10) dX11_countOrSet_2 rfl (fun c1 => ?_) (fun c2 => ?_)
  · exact K8 (Or.inl c1)
  · refine xe_iload_n dX11_countOrSet_5 rfl ?_
    refine xe_iconst (v := 1) dX11_countOrSet_6 rfl ?_
    refine xe_icmp_ne (tgt := 12) dX11_countOrSet_7 rfl (fun c3 => ?_) (fun c4 => ?_)
    · have k := k.2 (fun q => (q.elim (fun z => (c2 z)) (fun z => (c3 z))))
      refine xe_iload_n dX11_countOrSet_12 rfl ?_
      refine xe_if_ne (tgt := 23) dX11_countOrSet_13 rfl (fun c5 => ?_) (fun c6 => ?_)
      · have k := k.2 (fun q => (c5 q))
        refine xe_iconst (v := -1) dX11_countOrSet_23 rfl ?_
        exact xe_ireturn dX11_countOrSet_24 rfl k
      · have k := k.1 c6
        refine xe_iload_n dX11_countOrSet_16 rfl ?_
        refine xe_callS (args := [.int i0]) dX11_countOrSet_17 slX11_270 rfl rfl (Nat.le_of_ble_eq_true rfl) k (Nat.le_refl _) (fun rv7 u7 w7 r7 k => ?_)
        obtain ⟨v7, rfl, rfl, rfl, rfl, k⟩ := k
        refine xe_goto (tgt := 24) dX11_countOrSet_20 rfl ?_
        exact xe_ireturn dX11_countOrSet_24 rfl k
    · exact K8 (Or.inr c4)

theorem CX11_countOrSet {g : xGT} {d : Nat} {i0 i1 : Int32} {u : xU} {w : xW} {r : xQ} {P : xPost}
    (k : ((i0 = (-1 : Int32) ∨ i1 = (1 : Int32)) → P (some (.int i0)) u w r) ∧ (¬ (i0 = (-1 : Int32) ∨ i1 = (1 : Int32)) → (i1 = 0 → xCall g d mJ6_bitCount_0f7a4 [.int i0] 698 u w r 698 (fun rv7 u7 w7 r7 => ∃ v7 : Int32, rv7 = some (.int v7) ∧ u = u7 ∧ w = w7 ∧ r = r7 ∧ P (some (.int v7)) u w r)) ∧ (¬ (i1 = 0) → P (some (.int (-1 : Int32))) u w r))) :
    xCall g (d + 1) mX11_countOrSet [.int i0, .int i1] 698 u w r 698 P :=
  xCall.of plX11 (Nat.le_of_ble_eq_true rfl) rfl (TX11_countOrSet_0  k)

/-! FuneralPost.areTwoVillages -/

theorem TX11_areTwoVillages_0 {g : xGT} {d : Nat} {i1 i2 : Int32} {l : Nat} {u : xU} {w : xW} {r : xQ} {P : xPost} (h_l : xLd l) (hm_told : r 8 10 = some l)
    (k : xCall g d mX11_isOneOf [.int i1, .int (u l 0)] 698 u w r 698 (fun rv1 u1 w1 r1 => ∃ v1 : Int32, rv1 = some (.int v1) ∧ u = u1 ∧ w = w1 ∧ r = r1 ∧ (v1 = 0 → P (some (.int (0 : Int32))) u w r) ∧ (¬ (v1 = 0) → xCall g d mX11_isOneOf [.int i2, .int (u l 0)] 698 u w r 698 (fun rv4 u4 w4 r4 => ∃ v4 : Int32, rv4 = some (.int v4) ∧ u = u4 ∧ w = w4 ∧ r = r4 ∧ ((¬ (v4 = 0) ∧ ¬ (i1 = i2)) → P (some (.int (1 : Int32))) u w r) ∧ (¬ (¬ (v4 = 0) ∧ ¬ (i1 = i2)) → P (some (.int (0 : Int32))) u w r))))) :
    xEv g (d + 1) mX11_areTwoVillages 0 [some (.ref 8), some (.int i1), some (.int i2)] [] 698 u w r 698 P := by
  refine xe_iload_n dX11_areTwoVillages_0 rfl ?_
  refine xe_aload_n dX11_areTwoVillages_1 rfl ?_
  refine xe_getR (b := l) dX11_areTwoVillages_2 flX11_19 kk8 (xKK_lt kk8) rfl hm_told ?_
  refine xe_getI dX11_areTwoVillages_5 flX11_155 h_l.k0 (xKK_lt h_l.k0) rfl ?_
  refine xe_callS (args := [.int i1, .int (u l 0)]) dX11_areTwoVillages_8 slX11_110 rfl rfl (Nat.le_of_ble_eq_true rfl) k (Nat.le_refl _) (fun rv1 u1 w1 r1 k => ?_)
  obtain ⟨v1, rfl, rfl, rfl, rfl, k⟩ := k
  refine xe_if_eq (tgt := 37) dX11_areTwoVillages_11 rfl (fun c2 => ?_) (fun c3 => ?_)
  · have k := k.1 c2
    refine xe_iconst (v := 0) dX11_areTwoVillages_37 rfl ?_
    exact xe_ireturn dX11_areTwoVillages_38 (xrokZ (Or.inl rfl)) k
  · have k := k.2 (fun q => (c3 q))
    refine xe_iload_n dX11_areTwoVillages_14 rfl ?_
    refine xe_aload_n dX11_areTwoVillages_15 rfl ?_
    refine xe_getR (b := l) dX11_areTwoVillages_16 flX11_19 kk8 (xKK_lt kk8) rfl hm_told ?_
    refine xe_getI dX11_areTwoVillages_19 flX11_155 h_l.k0 (xKK_lt h_l.k0) rfl ?_
    refine xe_callS (args := [.int i2, .int (u l 0)]) dX11_areTwoVillages_22 slX11_110 rfl rfl (Nat.le_of_ble_eq_true rfl) k (Nat.le_refl _) (fun rv4 u4 w4 r4 k => ?_)
    obtain ⟨v4, rfl, rfl, rfl, rfl, k⟩ := k
    have K9 : ¬ (¬ (v4 = 0) ∧ ¬ (i1 = i2)) → xEv g (d + 1) mX11_areTwoVillages 37 [some (.ref 8), some (.int i1), some (.int i2)] [] 698 u w r 698 P := fun c10 => by
      have k := k.2 c10
      refine xe_iconst (v := 0) dX11_areTwoVillages_37 rfl ?_
      exact xe_ireturn dX11_areTwoVillages_38 (xrokZ (Or.inl rfl)) k
    refine xe_if_eq (tgt := 37) dX11_areTwoVillages_25 rfl (fun c5 => ?_) (fun c6 => ?_)
    · exact K9 (fun q => (q.1 c5))
    · refine xe_iload_n dX11_areTwoVillages_28 rfl ?_
      refine xe_iload_n dX11_areTwoVillages_29 rfl ?_
      refine xe_icmp_eq (tgt := 37) dX11_areTwoVillages_30 rfl (fun c7 => ?_) (fun c8 => ?_)
      · exact K9 (fun q => (q.2 c7))
      · have k := k.1 ⟨c6, c8⟩
        refine xe_iconst (v := 1) dX11_areTwoVillages_33 rfl ?_
        refine xe_goto (tgt := 38) dX11_areTwoVillages_34 rfl ?_
        exact xe_ireturn dX11_areTwoVillages_38 (xrokZ (Or.inr rfl)) k

theorem CX11_areTwoVillages {g : xGT} {d : Nat} {i1 i2 : Int32} {l : Nat} {u : xU} {w : xW} {r : xQ} {P : xPost} (h_l : xLd l) (hm_told : r 8 10 = some l)
    (k : xCall g d mX11_isOneOf [.int i1, .int (u l 0)] 698 u w r 698 (fun rv1 u1 w1 r1 => ∃ v1 : Int32, rv1 = some (.int v1) ∧ u = u1 ∧ w = w1 ∧ r = r1 ∧ (v1 = 0 → P (some (.int (0 : Int32))) u w r) ∧ (¬ (v1 = 0) → xCall g d mX11_isOneOf [.int i2, .int (u l 0)] 698 u w r 698 (fun rv4 u4 w4 r4 => ∃ v4 : Int32, rv4 = some (.int v4) ∧ u = u4 ∧ w = w4 ∧ r = r4 ∧ ((¬ (v4 = 0) ∧ ¬ (i1 = i2)) → P (some (.int (1 : Int32))) u w r) ∧ (¬ (¬ (v4 = 0) ∧ ¬ (i1 = i2)) → P (some (.int (0 : Int32))) u w r))))) :
    xCall g (d + 1) mX11_areTwoVillages [.ref 8, .int i1, .int i2] 698 u w r 698 P :=
  xCall.of plX11 (Nat.le_of_ble_eq_true rfl) rfl (TX11_areTwoVillages_0 h_l hm_told k)

/-! FuneralPost.areTwoBiers -/

theorem TX11_areTwoBiers_0 {g : xGT} {d : Nat} {i1 i2 : Int32} {l : Nat} {u : xU} {w : xW} {r : xQ} {P : xPost} (h_l : xLd l) (hm_told : r 8 10 = some l)
    (k : xCall g d mX11_isOneOf [.int i1, .int (u l 5)] 698 u w r 698 (fun rv1 u1 w1 r1 => ∃ v1 : Int32, rv1 = some (.int v1) ∧ u = u1 ∧ w = w1 ∧ r = r1 ∧ (v1 = 0 → P (some (.int (0 : Int32))) u w r) ∧ (¬ (v1 = 0) → xCall g d mX11_isOneOf [.int i2, .int (u l 5)] 698 u w r 698 (fun rv4 u4 w4 r4 => ∃ v4 : Int32, rv4 = some (.int v4) ∧ u = u4 ∧ w = w4 ∧ r = r4 ∧ ((¬ (v4 = 0) ∧ ¬ (i1 = i2)) → P (some (.int (1 : Int32))) u w r) ∧ (¬ (¬ (v4 = 0) ∧ ¬ (i1 = i2)) → P (some (.int (0 : Int32))) u w r))))) :
    xEv g (d + 1) mX11_areTwoBiers 0 [some (.ref 8), some (.int i1), some (.int i2)] [] 698 u w r 698 P := by
  refine xe_iload_n dX11_areTwoBiers_0 rfl ?_
  refine xe_aload_n dX11_areTwoBiers_1 rfl ?_
  refine xe_getR (b := l) dX11_areTwoBiers_2 flX11_19 kk8 (xKK_lt kk8) rfl hm_told ?_
  refine xe_getI dX11_areTwoBiers_5 flX11_107 h_l.k0 (xKK_lt h_l.k0) rfl ?_
  refine xe_callS (args := [.int i1, .int (u l 5)]) dX11_areTwoBiers_8 slX11_110 rfl rfl (Nat.le_of_ble_eq_true rfl) k (Nat.le_refl _) (fun rv1 u1 w1 r1 k => ?_)
  obtain ⟨v1, rfl, rfl, rfl, rfl, k⟩ := k
  refine xe_if_eq (tgt := 37) dX11_areTwoBiers_11 rfl (fun c2 => ?_) (fun c3 => ?_)
  · have k := k.1 c2
    refine xe_iconst (v := 0) dX11_areTwoBiers_37 rfl ?_
    exact xe_ireturn dX11_areTwoBiers_38 (xrokZ (Or.inl rfl)) k
  · have k := k.2 (fun q => (c3 q))
    refine xe_iload_n dX11_areTwoBiers_14 rfl ?_
    refine xe_aload_n dX11_areTwoBiers_15 rfl ?_
    refine xe_getR (b := l) dX11_areTwoBiers_16 flX11_19 kk8 (xKK_lt kk8) rfl hm_told ?_
    refine xe_getI dX11_areTwoBiers_19 flX11_107 h_l.k0 (xKK_lt h_l.k0) rfl ?_
    refine xe_callS (args := [.int i2, .int (u l 5)]) dX11_areTwoBiers_22 slX11_110 rfl rfl (Nat.le_of_ble_eq_true rfl) k (Nat.le_refl _) (fun rv4 u4 w4 r4 k => ?_)
    obtain ⟨v4, rfl, rfl, rfl, rfl, k⟩ := k
    have K9 : ¬ (¬ (v4 = 0) ∧ ¬ (i1 = i2)) → xEv g (d + 1) mX11_areTwoBiers 37 [some (.ref 8), some (.int i1), some (.int i2)] [] 698 u w r 698 P := fun c10 => by
      have k := k.2 c10
      refine xe_iconst (v := 0) dX11_areTwoBiers_37 rfl ?_
      exact xe_ireturn dX11_areTwoBiers_38 (xrokZ (Or.inl rfl)) k
    refine xe_if_eq (tgt := 37) dX11_areTwoBiers_25 rfl (fun c5 => ?_) (fun c6 => ?_)
    · exact K9 (fun q => (q.1 c5))
    · refine xe_iload_n dX11_areTwoBiers_28 rfl ?_
      refine xe_iload_n dX11_areTwoBiers_29 rfl ?_
      refine xe_icmp_eq (tgt := 37) dX11_areTwoBiers_30 rfl (fun c7 => ?_) (fun c8 => ?_)
      · exact K9 (fun q => (q.2 c7))
      · have k := k.1 ⟨c6, c8⟩
        refine xe_iconst (v := 1) dX11_areTwoBiers_33 rfl ?_
        refine xe_goto (tgt := 38) dX11_areTwoBiers_34 rfl ?_
        exact xe_ireturn dX11_areTwoBiers_38 (xrokZ (Or.inr rfl)) k

theorem CX11_areTwoBiers {g : xGT} {d : Nat} {i1 i2 : Int32} {l : Nat} {u : xU} {w : xW} {r : xQ} {P : xPost} (h_l : xLd l) (hm_told : r 8 10 = some l)
    (k : xCall g d mX11_isOneOf [.int i1, .int (u l 5)] 698 u w r 698 (fun rv1 u1 w1 r1 => ∃ v1 : Int32, rv1 = some (.int v1) ∧ u = u1 ∧ w = w1 ∧ r = r1 ∧ (v1 = 0 → P (some (.int (0 : Int32))) u w r) ∧ (¬ (v1 = 0) → xCall g d mX11_isOneOf [.int i2, .int (u l 5)] 698 u w r 698 (fun rv4 u4 w4 r4 => ∃ v4 : Int32, rv4 = some (.int v4) ∧ u = u4 ∧ w = w4 ∧ r = r4 ∧ ((¬ (v4 = 0) ∧ ¬ (i1 = i2)) → P (some (.int (1 : Int32))) u w r) ∧ (¬ (¬ (v4 = 0) ∧ ¬ (i1 = i2)) → P (some (.int (0 : Int32))) u w r))))) :
    xCall g (d + 1) mX11_areTwoBiers [.ref 8, .int i1, .int i2] 698 u w r 698 P :=
  xCall.of plX11 (Nat.le_of_ble_eq_true rfl) rfl (TX11_areTwoBiers_0 h_l hm_told k)

/-! FuneralPost.goOnFrom -/

theorem TX11_goOnFrom_0 {g : xGT} {d : Nat} {s l : Nat} {u : xU} {w : xW} {r : xQ} {P : xPost} (hr : xRf r) (hm_told : r 8 10 = some l)
    (k : xCall g d mX9_copyFrom [.ref 105, .ref s] 698 u w r 698 (fun rv1 u1 w1 r1 => rv1 = none ∧ w = w1 ∧ r = r1 ∧ xCall g d mX8_lay [.ref 53, .ref l, .int (u1 105 1)] 698 u1 w r 698 (fun rv2 u2 w2 r2 => rv2 = none ∧ w = w2 ∧ r = r2 ∧ P none u2 w r))) :
    xEv g (d + 1) mX11_goOnFrom 0 [some (.ref 8), some (.ref s)] [] 698 u w r 698 P := by
  refine xe_aload_n dX11_goOnFrom_0 rfl ?_
  refine xe_getR (b := 105) dX11_goOnFrom_1 flX11_47 kk8 (xKK_lt kk8) rfl (rf8_3 hr) ?_
  refine xe_aload_n dX11_goOnFrom_4 rfl ?_
  refine xe_callV (args := [.ref s]) dX11_goOnFrom_5 vlX11_335 rfl rfl (Nat.le_of_ble_eq_true rfl) st105.k0 (xKK_lt st105.k0) rfl rfl k (Nat.le_refl _) (fun rv1 u1 w1 r1 k => ?_)
  obtain ⟨rfl, rfl, rfl, k⟩ := k
  refine xe_aload_n dX11_goOnFrom_8 rfl ?_
  refine xe_getR (b := 52) dX11_goOnFrom_9 flX11_31 kk8 (xKK_lt kk8) rfl (rf8_1 hr) ?_
  refine xe_getR (b := 53) dX11_goOnFrom_12 flX11_165 kk52 (xKK_lt kk52) rfl (rf52_0 hr) ?_
  refine xe_aload_n dX11_goOnFrom_15 rfl ?_
  refine xe_getR (b := l) dX11_goOnFrom_16 flX11_19 kk8 (xKK_lt kk8) rfl hm_told ?_
  refine xe_aload_n dX11_goOnFrom_19 rfl ?_
  refine xe_getR (b := 105) dX11_goOnFrom_20 flX11_47 kk8 (xKK_lt kk8) rfl (rf8_3 hr) ?_
  refine xe_getI dX11_goOnFrom_23 flX11_212 st105.k0 (xKK_lt st105.k0) rfl ?_
  refine xe_callV (args := [.ref l, .int (u1 105 1)]) dX11_goOnFrom_26 vlX11_215 rfl rfl (Nat.le_of_ble_eq_true rfl) kk53 (xKK_lt kk53) rfl rfl k (Nat.le_refl _) (fun rv2 u2 w2 r2 k => ?_)
  obtain ⟨rfl, rfl, rfl, k⟩ := k
  exact xe_return dX11_goOnFrom_29 trivial k

theorem CX11_goOnFrom {g : xGT} {d : Nat} {s l : Nat} {u : xU} {w : xW} {r : xQ} {P : xPost} (hr : xRf r) (hm_told : r 8 10 = some l)
    (k : xCall g d mX9_copyFrom [.ref 105, .ref s] 698 u w r 698 (fun rv1 u1 w1 r1 => rv1 = none ∧ w = w1 ∧ r = r1 ∧ xCall g d mX8_lay [.ref 53, .ref l, .int (u1 105 1)] 698 u1 w r 698 (fun rv2 u2 w2 r2 => rv2 = none ∧ w = w2 ∧ r = r2 ∧ P none u2 w r))) :
    xCall g (d + 1) mX11_goOnFrom [.ref 8, .ref s] 698 u w r 698 P :=
  xCall.of plX11 (Nat.le_of_ble_eq_true rfl) rfl (TX11_goOnFrom_0 hr hm_told k)

/-! FuneralPost.passedBy -/

theorem TX11_passedBy_0 {g : xGT} {d : Nat} {i1 : Int32} {u : xU} {w : xW} {r : xQ} {P : xPost}
    (k : xEv g (d + 1) mX11_passedBy 4 [some (.ref 8), some (.int i1), some (.int (0 : Int32)), some (.int (0 : Int32))] [] 698 u w r 698 P) :
    xEv g (d + 1) mX11_passedBy 0 [some (.ref 8), some (.int i1), none, none] [] 698 u w r 698 P := by
  refine xe_iconst (v := 0) dX11_passedBy_0 rfl ?_
  refine xe_istore_n (ls' := [some (.ref 8), some (.int i1), some (.int (0 : Int32)), none]) dX11_passedBy_1 rfl (by decide) rfl ?_
  refine xe_iconst (v := 0) dX11_passedBy_2 rfl ?_
  refine xe_istore_n (ls' := [some (.ref 8), some (.int i1), some (.int (0 : Int32)), some (.int (0 : Int32))]) dX11_passedBy_3 rfl (by decide) rfl ?_
  exact k

theorem CX11_passedBy {g : xGT} {d : Nat} {i1 : Int32} {u : xU} {w : xW} {r : xQ} {P : xPost}
    (k : xEv g (d + 1) mX11_passedBy 4 [some (.ref 8), some (.int i1), some (.int (0 : Int32)), some (.int (0 : Int32))] [] 698 u w r 698 P) :
    xCall g (d + 1) mX11_passedBy [.ref 8, .int i1] 698 u w r 698 P :=
  xCall.of plX11 (Nat.le_of_ble_eq_true rfl) rfl (TX11_passedBy_0  k)

theorem TX11_passedBy_4 {g : xGT} {d : Nat} {i1 i2 i3 : Int32} {l : Nat} {u : xU} {w : xW} {r : xQ} {P : xPost} (hr : xRf r) (h_l : xLd l) (hm_told : r 8 10 = some l)
    (k : ((u l 5) ≤ i3 → P (some (.int i2)) u w r) ∧ (¬ ((u l 5) ≤ i3) → (((i1 >>> (i3 &&& 31)) &&& (1 : Int32)) = (1 : Int32) → xCall g d mX0_restOf [.ref 52, .ref 105, .int i3] 698 u w r 698 (fun rv5 u5 w5 r5 => ∃ v5 : Int32, rv5 = some (.int v5) ∧ u = u5 ∧ w = w5 ∧ r = r5 ∧ xEv g (d + 1) mX11_passedBy 39 [some (.ref 8), some (.int i1), some (.int (i2 ||| v5)), some (.int i3)] [] 698 u w r 698 P)) ∧ (¬ (((i1 >>> (i3 &&& 31)) &&& (1 : Int32)) = (1 : Int32)) → xEv g (d + 1) mX11_passedBy 39 [some (.ref 8), some (.int i1), some (.int i2), some (.int i3)] [] 698 u w r 698 P))) :
    xEv g (d + 1) mX11_passedBy 4 [some (.ref 8), some (.int i1), some (.int i2), some (.int i3)] [] 698 u w r 698 P := by
  refine xe_iload_n dX11_passedBy_4 rfl ?_
  refine xe_aload_n dX11_passedBy_5 rfl ?_
  refine xe_getR (b := l) dX11_passedBy_6 flX11_19 kk8 (xKK_lt kk8) rfl hm_told ?_
  refine xe_getI dX11_passedBy_9 flX11_107 h_l.k0 (xKK_lt h_l.k0) rfl ?_
  refine xe_icmp_ge (tgt := 45) dX11_passedBy_12 rfl (fun c1 => ?_) (fun c2 => ?_)
  · have k := k.1 c1
    refine xe_iload_n dX11_passedBy_45 rfl ?_
    exact xe_ireturn dX11_passedBy_46 rfl k
  · have k := k.2 (fun q => (c2 q))
    refine xe_iload_n dX11_passedBy_15 rfl ?_
    refine xe_iload_n dX11_passedBy_16 rfl ?_
    refine xe_ishr dX11_passedBy_17 ?_
    refine xe_iconst (v := 1) dX11_passedBy_18 rfl ?_
    refine xe_iand dX11_passedBy_19 ?_
    refine xe_iconst (v := 1) dX11_passedBy_20 rfl ?_
    refine xe_icmp_ne (tgt := 39) dX11_passedBy_21 rfl (fun c3 => ?_) (fun c4 => ?_)
    · have k := k.2 (fun q => (c3 q))
      exact k
    · have k := k.1 c4
      refine xe_iload_n dX11_passedBy_24 rfl ?_
      refine xe_aload_n dX11_passedBy_25 rfl ?_
      refine xe_getR (b := 52) dX11_passedBy_26 flX11_31 kk8 (xKK_lt kk8) rfl (rf8_1 hr) ?_
      refine xe_aload_n dX11_passedBy_29 rfl ?_
      refine xe_getR (b := 105) dX11_passedBy_30 flX11_47 kk8 (xKK_lt kk8) rfl (rf8_3 hr) ?_
      refine xe_iload_n dX11_passedBy_33 rfl ?_
      refine xe_callV (args := [.ref 105, .int i3]) dX11_passedBy_34 vlX11_129 rfl rfl (Nat.le_of_ble_eq_true rfl) kk52 (xKK_lt kk52) rfl rfl k (Nat.le_refl _) (fun rv5 u5 w5 r5 k => ?_)
      obtain ⟨v5, rfl, rfl, rfl, rfl, k⟩ := k
      refine xe_ior dX11_passedBy_37 ?_
      refine xe_istore_n (ls' := [some (.ref 8), some (.int i1), some (.int (i2 ||| v5)), some (.int i3)]) dX11_passedBy_38 rfl (by decide) rfl ?_
      exact k

theorem TX11_passedBy_39 {g : xGT} {d : Nat} {i1 i2 i3 : Int32} {u : xU} {w : xW} {r : xQ} {P : xPost}
    (k : xEv g (d + 1) mX11_passedBy 4 [some (.ref 8), some (.int i1), some (.int i2), some (.int (i3 + (1 : Int32)))] [] 698 u w r 698 P) :
    xEv g (d + 1) mX11_passedBy 39 [some (.ref 8), some (.int i1), some (.int i2), some (.int i3)] [] 698 u w r 698 P := by
  refine xe_iinc (v := (i3 + (1 : Int32))) (ls' := [some (.ref 8), some (.int i1), some (.int i2), some (.int (i3 + (1 : Int32)))]) dX11_passedBy_39 rfl (by decide) rfl rfl ?_
  refine xe_goto (tgt := 4) dX11_passedBy_42 rfl ?_
  exact k

/-! FuneralPost.fitting -/

theorem TX11_fitting_0 {g : xGT} {d : Nat} {i1 i2 : Int32} {u : xU} {w : xW} {r : xQ} {P : xPost} (hr : xRf r)
    (k : xCall g d mX4_biersThat [.ref 611, .int (1 : Int32), .int i2] 698 u w r 698 (fun rv1 u1 w1 r1 => ∃ v1 : Int32, rv1 = some (.int v1) ∧ u = u1 ∧ w = w1 ∧ r = r1 ∧ xCall g d mX4_biersThat [.ref 611, .int (0 : Int32), .int i2] 698 u w r 698 (fun rv2 u2 w2 r2 => ∃ v2 : Int32, rv2 = some (.int v2) ∧ u = u2 ∧ w = w2 ∧ r = r2 ∧ xEv g (d + 1) mX11_fitting 27 [some (.ref 8), some (.int i1), none, some (.int v1), some (.int v2), some (.int (0 : Int32)), some (.int (0 : Int32)), none] [] 698 u w r 698 P))) :
    xEv g (d + 1) mX11_fitting 0 [some (.ref 8), some (.int i1), some (.int i2), none, none, none, none, none] [] 698 u w r 698 P := by
  refine xe_aload_n dX11_fitting_0 rfl ?_
  refine xe_getR (b := 611) dX11_fitting_1 flX11_61 kk8 (xKK_lt kk8) rfl (rf8_5 hr) ?_
  refine xe_iconst (v := 1) dX11_fitting_4 rfl ?_
  refine xe_iload_n dX11_fitting_5 rfl ?_
  refine xe_callV (args := [.int (1 : Int32), .int i2]) dX11_fitting_6 vlX11_358 rfl rfl (Nat.le_of_ble_eq_true rfl) kk611 (xKK_lt kk611) rfl rfl k (Nat.le_refl _) (fun rv1 u1 w1 r1 k => ?_)
  obtain ⟨v1, rfl, rfl, rfl, rfl, k⟩ := k
  refine xe_istore_n (ls' := [some (.ref 8), some (.int i1), some (.int i2), some (.int v1), none, none, none, none]) dX11_fitting_9 rfl (by decide) rfl ?_
  refine xe_aload_n dX11_fitting_10 rfl ?_
  refine xe_getR (b := 611) dX11_fitting_11 flX11_61 kk8 (xKK_lt kk8) rfl (rf8_5 hr) ?_
  refine xe_iconst (v := 0) dX11_fitting_14 rfl ?_
  refine xe_iload_n dX11_fitting_15 rfl ?_
  refine xe_callV (args := [.int (0 : Int32), .int i2]) dX11_fitting_16 vlX11_358 rfl rfl (Nat.le_of_ble_eq_true rfl) kk611 (xKK_lt kk611) rfl rfl k (Nat.le_refl _) (fun rv2 u2 w2 r2 k => ?_)
  obtain ⟨v2, rfl, rfl, rfl, rfl, k⟩ := k
  refine xe_istore (ls' := [some (.ref 8), some (.int i1), some (.int i2), some (.int v1), some (.int v2), none, none, none]) dX11_fitting_19 (by decide) rfl ?_
  refine xe_iconst (v := 0) dX11_fitting_21 rfl ?_
  refine xe_istore (ls' := [some (.ref 8), some (.int i1), some (.int i2), some (.int v1), some (.int v2), some (.int (0 : Int32)), none, none]) dX11_fitting_22 (by decide) rfl ?_
  refine xe_iconst (v := 0) dX11_fitting_24 rfl ?_
  refine xe_istore (ls' := [some (.ref 8), some (.int i1), some (.int i2), some (.int v1), some (.int v2), some (.int (0 : Int32)), some (.int (0 : Int32)), none]) dX11_fitting_25 (by decide) rfl ?_
  exact xEv.fewer (ls' := [some (.ref 8), some (.int i1), none, some (.int v1), some (.int v2), some (.int (0 : Int32)), some (.int (0 : Int32)), none]) k (xfw_get (xfw_s (xfw_s (xfw_n (xfw_s (xfw_s (xfw_s (xfw_s (xfw_n (xfw_nil _))))))))))

theorem CX11_fitting {g : xGT} {d : Nat} {i1 i2 : Int32} {u : xU} {w : xW} {r : xQ} {P : xPost} (hr : xRf r)
    (k : xCall g d mX4_biersThat [.ref 611, .int (1 : Int32), .int i2] 698 u w r 698 (fun rv1 u1 w1 r1 => ∃ v1 : Int32, rv1 = some (.int v1) ∧ u = u1 ∧ w = w1 ∧ r = r1 ∧ xCall g d mX4_biersThat [.ref 611, .int (0 : Int32), .int i2] 698 u w r 698 (fun rv2 u2 w2 r2 => ∃ v2 : Int32, rv2 = some (.int v2) ∧ u = u2 ∧ w = w2 ∧ r = r2 ∧ xEv g (d + 1) mX11_fitting 27 [some (.ref 8), some (.int i1), none, some (.int v1), some (.int v2), some (.int (0 : Int32)), some (.int (0 : Int32)), none] [] 698 u w r 698 P))) :
    xCall g (d + 1) mX11_fitting [.ref 8, .int i1, .int i2] 698 u w r 698 P :=
  xCall.of plX11 (Nat.le_of_ble_eq_true rfl) rfl (TX11_fitting_0 hr k)

theorem TX11_fitting_27 {g : xGT} {d : Nat} {i1 i3 i4 i5 i6 : Int32} {l : Nat} {u : xU} {w : xW} {r : xQ} {P : xPost} (hr : xRf r) (h_l : xLd l) (hm_told : r 8 10 = some l)
    (k : ((u l 0) ≤ i6 → P (some (.int i5)) u w r) ∧ (¬ ((u l 0) ≤ i6) → (i6 = i1 → xEv g (d + 1) mX11_fitting 106 [some (.ref 8), some (.int i1), none, some (.int i3), some (.int i4), some (.int i5), some (.int i6), none] [] 698 u w r 698 P) ∧ (¬ (i6 = i1) → xCall g d mX3_follow [.ref 79, .ref 105, .int i6, .int i1] 698 u w r 698 (fun rv7 u7 w7 r7 => ∃ v7 : Int32, rv7 = some (.int v7) ∧ w = w7 ∧ r = r7 ∧ vp_in i6 7 ∧ (((((u7 79 5) &&& i3) = i3 ∧ ((u7 79 5) &&& i4) = 0) → xEv g (d + 1) mX11_fitting 106 [some (.ref 8), some (.int i1), none, some (.int i3), some (.int i4), some (.int (i5 ||| ((1 : Int32) <<< (i6 &&& 31)))), some (.int i6), none] [] 698 (x2 u7 94 i6.toNatClampNeg (u7 79 5)) w r 698 P) ∧ (¬ (((u7 79 5) &&& i3) = i3 ∧ ((u7 79 5) &&& i4) = 0) → xEv g (d + 1) mX11_fitting 106 [some (.ref 8), some (.int i1), none, some (.int i3), some (.int i4), some (.int i5), some (.int i6), none] [] 698 (x2 u7 94 i6.toNatClampNeg (u7 79 5)) w r 698 P)))))) :
    xEv g (d + 1) mX11_fitting 27 [some (.ref 8), some (.int i1), none, some (.int i3), some (.int i4), some (.int i5), some (.int i6), none] [] 698 u w r 698 P := by
  refine xe_iload dX11_fitting_27 rfl ?_
  refine xe_aload_n dX11_fitting_29 rfl ?_
  refine xe_getR (b := l) dX11_fitting_30 flX11_19 kk8 (xKK_lt kk8) rfl hm_told ?_
  refine xe_getI dX11_fitting_33 flX11_155 h_l.k0 (xKK_lt h_l.k0) rfl ?_
  refine xe_icmp_ge (tgt := 112) dX11_fitting_36 rfl (fun c3 => ?_) (fun c4 => ?_)
  · have k := k.1 c3
    refine xe_iload dX11_fitting_112 rfl ?_
    exact xe_ireturn dX11_fitting_114 rfl k
  · have k := k.2 (fun q => (c4 q))
    refine xe_iload dX11_fitting_39 rfl ?_
    refine xe_iload_n dX11_fitting_41 rfl ?_
    refine xe_icmp_eq (tgt := 106) dX11_fitting_42 rfl (fun c5 => ?_) (fun c6 => ?_)
    · have k := k.1 c5
      exact k
    · have k := k.2 (fun q => (c6 q))
      refine xe_aload_n dX11_fitting_45 rfl ?_
      refine xe_getR (b := 79) dX11_fitting_46 flX11_40 kk8 (xKK_lt kk8) rfl (rf8_2 hr) ?_
      refine xe_aload_n dX11_fitting_49 rfl ?_
      refine xe_getR (b := 105) dX11_fitting_50 flX11_47 kk8 (xKK_lt kk8) rfl (rf8_3 hr) ?_
      refine xe_iload dX11_fitting_53 rfl ?_
      refine xe_iload_n dX11_fitting_55 rfl ?_
      refine xe_callV (args := [.ref 105, .int i6, .int i1]) dX11_fitting_56 vlX11_299 rfl rfl (Nat.le_of_ble_eq_true rfl) kk79 (xKK_lt kk79) rfl rfl k (Nat.le_refl _) (fun rv7 u7 w7 r7 k => ?_)
      obtain ⟨v7, rfl, rfl, rfl, k⟩ := k
      refine xe_pop dX11_fitting_59 rfl ?_
      refine xe_aload_n dX11_fitting_60 rfl ?_
      refine xe_getR (b := 79) dX11_fitting_61 flX11_40 kk8 (xKK_lt kk8) rfl (rf8_2 hr) ?_
      refine xe_getI dX11_fitting_64 flX11_362 kk79 (xKK_lt kk79) rfl ?_
      refine xe_istore (ls' := [some (.ref 8), some (.int i1), none, some (.int i3), some (.int i4), some (.int i5), some (.int i6), some (.int (u7 79 5))]) dX11_fitting_67 (by decide) rfl ?_
      refine xe_aload_n dX11_fitting_69 rfl ?_
      refine xe_getR (b := 79) dX11_fitting_70 flX11_40 kk8 (xKK_lt kk8) rfl (rf8_2 hr) ?_
      refine xe_getR (b := 94) dX11_fitting_73 flX11_365 kk79 (xKK_lt kk79) rfl (rf79_6 hr) ?_
      refine xe_iload dX11_fitting_76 rfl ?_
      refine xe_iload dX11_fitting_78 rfl ?_
      obtain ⟨b8, k⟩ := k
      refine xe_iast dX11_fitting_80 kk94 (xKK_lt kk94) b8 ?_
      refine xe_iload dX11_fitting_81 rfl ?_
      refine xe_iload_n dX11_fitting_83 rfl ?_
      refine xe_iand dX11_fitting_84 ?_
      refine xe_iload_n dX11_fitting_85 rfl ?_
      have K13 : ¬ (((u7 79 5) &&& i3) = i3 ∧ ((u7 79 5) &&& i4) = 0) → xEv g (d + 1) mX11_fitting 106 [some (.ref 8), some (.int i1), none, some (.int i3), some (.int i4), some (.int i5), some (.int i6), some (.int (u7 79 5))] [] 698 (x2 u7 94 i6.toNatClampNeg (u7 79 5)) w r 698 P := fun c14 => by
        have k := k.2 c14
        exact xEv.fewer (ls' := [some (.ref 8), some (.int i1), none, some (.int i3), some (.int i4), some (.int i5), some (.int i6), none]) k (xfw_get (xfw_s (xfw_s (xfw_n (xfw_s (xfw_s (xfw_s (xfw_s (xfw_n (xfw_nil _))))))))))
      refine xe_icmp_ne (tgt := 106) dX11_fitting_86 rfl (fun c9 => ?_) (fun c10 => ?_)
      · exact K13 (fun q => (c9 q.1))
      · refine xe_iload dX11_fitting_89 rfl ?_
        refine xe_iload dX11_fitting_91 rfl ?_
        refine xe_iand dX11_fitting_93 ?_
        refine xe_if_ne (tgt := 106) dX11_fitting_94 rfl (fun c11 => ?_) (fun c12 => ?_)
        · exact K13 (fun q => (c11 q.2))
        · have k := k.1 ⟨c10, c12⟩
          refine xe_iload dX11_fitting_97 rfl ?_
          refine xe_iconst (v := 1) dX11_fitting_99 rfl ?_
          refine xe_iload dX11_fitting_100 rfl ?_
          refine xe_ishl dX11_fitting_102 ?_
          refine xe_ior dX11_fitting_103 ?_
          refine xe_istore (ls' := [some (.ref 8), some (.int i1), none, some (.int i3), some (.int i4), some (.int (i5 ||| ((1 : Int32) <<< (i6 &&& 31)))), some (.int i6), some (.int (u7 79 5))]) dX11_fitting_104 (by decide) rfl ?_
          exact xEv.fewer (ls' := [some (.ref 8), some (.int i1), none, some (.int i3), some (.int i4), some (.int (i5 ||| ((1 : Int32) <<< (i6 &&& 31)))), some (.int i6), none]) k (xfw_get (xfw_s (xfw_s (xfw_n (xfw_s (xfw_s (xfw_s (xfw_s (xfw_n (xfw_nil _))))))))))

theorem TX11_fitting_106 {g : xGT} {d : Nat} {i1 i3 i4 i5 i6 : Int32} {u : xU} {w : xW} {r : xQ} {P : xPost}
    (k : xEv g (d + 1) mX11_fitting 27 [some (.ref 8), some (.int i1), none, some (.int i3), some (.int i4), some (.int i5), some (.int (i6 + (1 : Int32))), none] [] 698 u w r 698 P) :
    xEv g (d + 1) mX11_fitting 106 [some (.ref 8), some (.int i1), none, some (.int i3), some (.int i4), some (.int i5), some (.int i6), none] [] 698 u w r 698 P := by
  refine xe_iinc (v := (i6 + (1 : Int32))) (ls' := [some (.ref 8), some (.int i1), none, some (.int i3), some (.int i4), some (.int i5), some (.int (i6 + (1 : Int32))), none]) dX11_fitting_106 rfl (by decide) rfl rfl ?_
  refine xe_goto (tgt := 27) dX11_fitting_109 rfl ?_
  exact k

/-! Look.runOut -/

theorem TX3_runOut_0 {g : xGT} {d : Nat} {s : Nat} {u : xU} {w : xW} {r : xQ} {P : xPost} (hr : xRf r)
    (k : xCall g d mX9_copyFrom [.ref 80, .ref s] 698 u w r 698 (fun rv1 u1 w1 r1 => rv1 = none ∧ w = w1 ∧ r = r1 ∧ xEv g (d + 1) mX3_runOut 10 [some (.ref 79), none, some (.int (0 : Int32))] [] 698 u1 w r 698 P)) :
    xEv g (d + 1) mX3_runOut 0 [some (.ref 79), some (.ref s), none] [] 698 u w r 698 P := by
  refine xe_aload_n dX3_runOut_0 rfl ?_
  refine xe_getR (b := 80) dX3_runOut_1 flX3_12 kk79 (xKK_lt kk79) rfl (rf79_1 hr) ?_
  refine xe_aload_n dX3_runOut_4 rfl ?_
  refine xe_callV (args := [.ref s]) dX3_runOut_5 vlX3_40 rfl rfl (Nat.le_of_ble_eq_true rfl) st80.k0 (xKK_lt st80.k0) rfl rfl k (Nat.le_refl _) (fun rv1 u1 w1 r1 k => ?_)
  obtain ⟨rfl, rfl, rfl, k⟩ := k
  refine xe_iconst (v := 0) dX3_runOut_8 rfl ?_
  refine xe_istore_n (ls' := [some (.ref 79), some (.ref s), some (.int (0 : Int32))]) dX3_runOut_9 rfl (by decide) rfl ?_
  exact xEv.fewer (ls' := [some (.ref 79), none, some (.int (0 : Int32))]) k (xfw_get (xfw_s (xfw_n (xfw_s (xfw_nil _)))))

theorem CX3_runOut {g : xGT} {d : Nat} {s : Nat} {u : xU} {w : xW} {r : xQ} {P : xPost} (hr : xRf r)
    (k : xCall g d mX9_copyFrom [.ref 80, .ref s] 698 u w r 698 (fun rv1 u1 w1 r1 => rv1 = none ∧ w = w1 ∧ r = r1 ∧ xEv g (d + 1) mX3_runOut 10 [some (.ref 79), none, some (.int (0 : Int32))] [] 698 u1 w r 698 P)) :
    xCall g (d + 1) mX3_runOut [.ref 79, .ref s] 698 u w r 698 P :=
  xCall.of plX3 (Nat.le_of_ble_eq_true rfl) rfl (TX3_runOut_0 hr k)

theorem TX3_runOut_10 {g : xGT} {d : Nat} {i2 : Int32} {u : xU} {w : xW} {r : xQ} {P : xPost} (hr : xRf r)
    (k : ((¬ ((300 : Int32) ≤ i2) ∧ ¬ ((300 : Int32) ≤ (u 80 0))) → xCall g d mX0_goBy [.ref 52, .ref 80] 698 u w r 698 (fun rv6 u6 w6 r6 => ∃ v6 : Int32, rv6 = some (.int v6) ∧ w = w6 ∧ r = r6 ∧ xCall g d mX0_isStill [.ref 52, .ref 80] 698 u6 w r 698 (fun rv7 u7 w7 r7 => ∃ v7 : Int32, rv7 = some (.int v7) ∧ u6 = u7 ∧ w = w7 ∧ r = r7 ∧ (v7 = 0 → xEv g (d + 1) mX3_runOut 10 [some (.ref 79), none, some (.int (i2 + (1 : Int32)))] [] 698 u6 w r 698 P) ∧ (¬ (v7 = 0) → P (some (.ref 80)) u6 w r)))) ∧ (¬ (¬ ((300 : Int32) ≤ i2) ∧ ¬ ((300 : Int32) ≤ (u 80 0))) → P (some (.ref 80)) u w r)) :
    xEv g (d + 1) mX3_runOut 10 [some (.ref 79), none, some (.int i2)] [] 698 u w r 698 P := by
  refine xe_iload_n dX3_runOut_10 rfl ?_
  refine xe_sipush (v := 300) dX3_runOut_11 rfl ?_
  have K10 : ¬ (¬ ((300 : Int32) ≤ i2) ∧ ¬ ((300 : Int32) ≤ (u 80 0))) → xEv g (d + 1) mX3_runOut 65 [some (.ref 79), none, some (.int i2)] [] 698 u w r 698 P := fun c11 => by
    have k := k.2 c11
    refine xe_aload_n dX3_runOut_65 rfl ?_
    refine xe_getR (b := 80) dX3_runOut_66 flX3_12 kk79 (xKK_lt kk79) rfl (rf79_1 hr) ?_
    exact xe_areturn dX3_runOut_69 trivial k
  refine xe_icmp_ge (tgt := 65) dX3_runOut_14 rfl (fun c2 => ?_) (fun c3 => ?_)
  · exact K10 (fun q => (q.1 c2))
  · refine xe_aload_n dX3_runOut_17 rfl ?_
    refine xe_getR (b := 80) dX3_runOut_18 flX3_12 kk79 (xKK_lt kk79) rfl (rf79_1 hr) ?_
    refine xe_getI dX3_runOut_21 flX3_44 st80.k0 (xKK_lt st80.k0) rfl ?_
    refine xe_sipush (v := 300) dX3_runOut_24 rfl ?_
    refine xe_icmp_ge (tgt := 65) dX3_runOut_27 rfl (fun c4 => ?_) (fun c5 => ?_)
    · exact K10 (fun q => (q.2 c4))
    · have k := k.1 ⟨c3, c5⟩
      refine xe_aload_n dX3_runOut_30 rfl ?_
      refine xe_getR (b := 52) dX3_runOut_31 flX3_36 kk79 (xKK_lt kk79) rfl (rf79_0 hr) ?_
      refine xe_aload_n dX3_runOut_34 rfl ?_
      refine xe_getR (b := 80) dX3_runOut_35 flX3_12 kk79 (xKK_lt kk79) rfl (rf79_1 hr) ?_
      refine xe_callV (args := [.ref 80]) dX3_runOut_38 vlX3_48 rfl rfl (Nat.le_of_ble_eq_true rfl) kk52 (xKK_lt kk52) rfl rfl k (Nat.le_refl _) (fun rv6 u6 w6 r6 k => ?_)
      obtain ⟨v6, rfl, rfl, rfl, k⟩ := k
      refine xe_pop dX3_runOut_41 rfl ?_
      refine xe_aload_n dX3_runOut_42 rfl ?_
      refine xe_getR (b := 52) dX3_runOut_43 flX3_36 kk79 (xKK_lt kk79) rfl (rf79_0 hr) ?_
      refine xe_aload_n dX3_runOut_46 rfl ?_
      refine xe_getR (b := 80) dX3_runOut_47 flX3_12 kk79 (xKK_lt kk79) rfl (rf79_1 hr) ?_
      refine xe_callV (args := [.ref 80]) dX3_runOut_50 vlX3_54 rfl rfl (Nat.le_of_ble_eq_true rfl) kk52 (xKK_lt kk52) rfl rfl k (Nat.le_refl _) (fun rv7 u7 w7 r7 k => ?_)
      obtain ⟨v7, rfl, rfl, rfl, rfl, k⟩ := k
      refine xe_if_eq (tgt := 59) dX3_runOut_53 rfl (fun c8 => ?_) (fun c9 => ?_)
      · have k := k.1 c8
        refine xe_iinc (v := (i2 + (1 : Int32))) (ls' := [some (.ref 79), none, some (.int (i2 + (1 : Int32)))]) dX3_runOut_59 rfl (by decide) rfl rfl ?_
        refine xe_goto (tgt := 10) dX3_runOut_62 rfl ?_
        exact k
      · have k := k.2 (fun q => (c9 q))
        refine xe_goto (tgt := 65) dX3_runOut_56 rfl ?_
        refine xe_aload_n dX3_runOut_65 rfl ?_
        refine xe_getR (b := 80) dX3_runOut_66 flX3_12 kk79 (xKK_lt kk79) rfl (rf79_1 hr) ?_
        exact xe_areturn dX3_runOut_69 trivial k

/-! Look.follow -/

theorem TX3_follow_0 {g : xGT} {d : Nat} {i2 i3 : Int32} {s : Nat} {u : xU} {w : xW} {r : xQ} {P : xPost} (hr : xRf r)
    (k : xCall g d mX9_copyFrom [.ref 80, .ref s] 698 u w r 698 (fun rv1 u1 w1 r1 => rv1 = none ∧ w = w1 ∧ r = r1 ∧ xCall g d mX9_leaveOneLetter [.ref 80, .int i2, .int i3] 698 u1 w r 698 (fun rv2 u2 w2 r2 => rv2 = none ∧ w = w2 ∧ r = r2 ∧ xEv g (d + 1) mX3_follow 30 [some (.ref 79), none, none, none, some (.int (0 : Int32))] [] 698 (x2 (x2 u2 79 4 (0 : Int32)) 79 5 (0 : Int32)) w r 698 P))) :
    xEv g (d + 1) mX3_follow 0 [some (.ref 79), some (.ref s), some (.int i2), some (.int i3), none] [] 698 u w r 698 P := by
  refine xe_aload_n dX3_follow_0 rfl ?_
  refine xe_getR (b := 80) dX3_follow_1 flX3_12 kk79 (xKK_lt kk79) rfl (rf79_1 hr) ?_
  refine xe_aload_n dX3_follow_4 rfl ?_
  refine xe_callV (args := [.ref s]) dX3_follow_5 vlX3_40 rfl rfl (Nat.le_of_ble_eq_true rfl) st80.k0 (xKK_lt st80.k0) rfl rfl k (Nat.le_refl _) (fun rv1 u1 w1 r1 k => ?_)
  obtain ⟨rfl, rfl, rfl, k⟩ := k
  refine xe_aload_n dX3_follow_8 rfl ?_
  refine xe_getR (b := 80) dX3_follow_9 flX3_12 kk79 (xKK_lt kk79) rfl (rf79_1 hr) ?_
  refine xe_iload_n dX3_follow_12 rfl ?_
  refine xe_iload_n dX3_follow_13 rfl ?_
  refine xe_callV (args := [.int i2, .int i3]) dX3_follow_14 vlX3_58 rfl rfl (Nat.le_of_ble_eq_true rfl) st80.k0 (xKK_lt st80.k0) rfl rfl k (Nat.le_refl _) (fun rv2 u2 w2 r2 k => ?_)
  obtain ⟨rfl, rfl, rfl, k⟩ := k
  refine xe_aload_n dX3_follow_17 rfl ?_
  refine xe_iconst (v := 0) dX3_follow_18 rfl ?_
  refine xe_putI dX3_follow_19 flX3_62 kk79 (xKK_lt kk79) nf3_4 rfl ?_
  refine xe_aload_n dX3_follow_22 rfl ?_
  refine xe_iconst (v := 0) dX3_follow_23 rfl ?_
  refine xe_putI dX3_follow_24 flX3_65 kk79 (xKK_lt kk79) nf3_5 rfl ?_
  refine xe_iconst (v := 0) dX3_follow_27 rfl ?_
  refine xe_istore (ls' := [some (.ref 79), some (.ref s), some (.int i2), some (.int i3), some (.int (0 : Int32))]) dX3_follow_28 (by decide) rfl ?_
  exact xEv.fewer (ls' := [some (.ref 79), none, none, none, some (.int (0 : Int32))]) k (xfw_get (xfw_s (xfw_n (xfw_n (xfw_n (xfw_s (xfw_nil _)))))))

theorem CX3_follow {g : xGT} {d : Nat} {i2 i3 : Int32} {s : Nat} {u : xU} {w : xW} {r : xQ} {P : xPost} (hr : xRf r)
    (k : xCall g d mX9_copyFrom [.ref 80, .ref s] 698 u w r 698 (fun rv1 u1 w1 r1 => rv1 = none ∧ w = w1 ∧ r = r1 ∧ xCall g d mX9_leaveOneLetter [.ref 80, .int i2, .int i3] 698 u1 w r 698 (fun rv2 u2 w2 r2 => rv2 = none ∧ w = w2 ∧ r = r2 ∧ xEv g (d + 1) mX3_follow 30 [some (.ref 79), none, none, none, some (.int (0 : Int32))] [] 698 (x2 (x2 u2 79 4 (0 : Int32)) 79 5 (0 : Int32)) w r 698 P))) :
    xCall g (d + 1) mX3_follow [.ref 79, .ref s, .int i2, .int i3] 698 u w r 698 P :=
  xCall.of plX3 (Nat.le_of_ble_eq_true rfl) rfl (TX3_follow_0 hr k)

theorem TX3_follow_30 {g : xGT} {d : Nat} {i4 : Int32} {u : xU} {w : xW} {r : xQ} {P : xPost} (hr : xRf r)
    (k : ((¬ ((300 : Int32) ≤ i4) ∧ ¬ ((300 : Int32) ≤ (u 80 0))) → xCall g d mX0_goBy [.ref 52, .ref 80] 698 u w r 698 (fun rv7 u7 w7 r7 => ∃ v7 : Int32, rv7 = some (.int v7) ∧ w = w7 ∧ r = r7 ∧ ((u7 (80 + 11) 0) ≤ (u7 79 4) → xEv g (d + 1) mX3_follow 92 [some (.ref 79), none, none, none, some (.int i4)] [] 698 u7 w r 698 P) ∧ (¬ ((u7 (80 + 11) 0) ≤ (u7 79 4)) → xCall g d mX3_noteBier [.ref 79, .int (u7 (80 + 6) 0)] 698 u7 w r 698 (fun rv10 u10 w10 r10 => rv10 = none ∧ w = w10 ∧ r = r10 ∧ xEv g (d + 1) mX3_follow 92 [some (.ref 79), none, none, none, some (.int i4)] [] 698 u10 w r 698 P)))) ∧ (¬ (¬ ((300 : Int32) ≤ i4) ∧ ¬ ((300 : Int32) ≤ (u 80 0))) → xEv g (d + 1) mX3_follow 128 [some (.ref 79), none, none, none, none] [] 698 u w r 698 P)) :
    xEv g (d + 1) mX3_follow 30 [some (.ref 79), none, none, none, some (.int i4)] [] 698 u w r 698 P := by
  refine xe_iload dX3_follow_30 rfl ?_
  refine xe_sipush (v := 300) dX3_follow_32 rfl ?_
  have K11 : ¬ (¬ ((300 : Int32) ≤ i4) ∧ ¬ ((300 : Int32) ≤ (u 80 0))) → xEv g (d + 1) mX3_follow 128 [some (.ref 79), none, none, none, some (.int i4)] [] 698 u w r 698 P := fun c12 => by
    have k := k.2 c12
    exact xEv.fewer (ls' := [some (.ref 79), none, none, none, none]) k (xfw_get (xfw_s (xfw_n (xfw_n (xfw_n (xfw_n (xfw_nil _)))))))
  refine xe_icmp_ge (tgt := 128) dX3_follow_35 rfl (fun c3 => ?_) (fun c4 => ?_)
  · exact K11 (fun q => (q.1 c3))
  · refine xe_aload_n dX3_follow_38 rfl ?_
    refine xe_getR (b := 80) dX3_follow_39 flX3_12 kk79 (xKK_lt kk79) rfl (rf79_1 hr) ?_
    refine xe_getI dX3_follow_42 flX3_44 st80.k0 (xKK_lt st80.k0) rfl ?_
    refine xe_sipush (v := 300) dX3_follow_45 rfl ?_
    refine xe_icmp_ge (tgt := 128) dX3_follow_48 rfl (fun c5 => ?_) (fun c6 => ?_)
    · exact K11 (fun q => (q.2 c5))
    · have k := k.1 ⟨c4, c6⟩
      refine xe_aload_n dX3_follow_51 rfl ?_
      refine xe_getR (b := 52) dX3_follow_52 flX3_36 kk79 (xKK_lt kk79) rfl (rf79_0 hr) ?_
      refine xe_aload_n dX3_follow_55 rfl ?_
      refine xe_getR (b := 80) dX3_follow_56 flX3_12 kk79 (xKK_lt kk79) rfl (rf79_1 hr) ?_
      refine xe_callV (args := [.ref 80]) dX3_follow_59 vlX3_48 rfl rfl (Nat.le_of_ble_eq_true rfl) kk52 (xKK_lt kk52) rfl rfl k (Nat.le_refl _) (fun rv7 u7 w7 r7 k => ?_)
      obtain ⟨v7, rfl, rfl, rfl, k⟩ := k
      refine xe_pop dX3_follow_62 rfl ?_
      refine xe_aload_n dX3_follow_63 rfl ?_
      refine xe_getR (b := 80) dX3_follow_64 flX3_12 kk79 (xKK_lt kk79) rfl (rf79_1 hr) ?_
      refine xe_getR (b := (80 + 11)) dX3_follow_67 flX3_68 st80.k0 (xKK_lt st80.k0) rfl (sr80 hr).f13 ?_
      refine xe_iconst (v := 0) dX3_follow_70 rfl ?_
      refine xe_iald dX3_follow_71 st80.k11 (xKK_lt st80.k11) (show ¬ ((0 : Int32) < 0 ∨ 10 ≤ (0 : Int32).toNatClampNeg) from by decide) ?_
      refine xe_aload_n dX3_follow_72 rfl ?_
      refine xe_getI dX3_follow_73 flX3_62 kk79 (xKK_lt kk79) rfl ?_
      refine xe_icmp_le (tgt := 92) dX3_follow_76 rfl (fun c8 => ?_) (fun c9 => ?_)
      · have k := k.1 c8
        exact k
      · have k := k.2 (fun q => (c9 q))
        refine xe_aload_n dX3_follow_79 rfl ?_
        refine xe_aload_n dX3_follow_80 rfl ?_
        refine xe_getR (b := 80) dX3_follow_81 flX3_12 kk79 (xKK_lt kk79) rfl (rf79_1 hr) ?_
        refine xe_getR (b := (80 + 6)) dX3_follow_84 flX3_71 st80.k0 (xKK_lt st80.k0) rfl (sr80 hr).f8 ?_
        refine xe_iconst (v := 0) dX3_follow_87 rfl ?_
        refine xe_iald dX3_follow_88 st80.k6 (xKK_lt st80.k6) (show ¬ ((0 : Int32) < 0 ∨ 10 ≤ (0 : Int32).toNatClampNeg) from by decide) ?_
        refine xe_callV (args := [.int (u7 (80 + 6) 0)]) dX3_follow_89 vlX3_74 rfl rfl (Nat.le_of_ble_eq_true rfl) kk79 (xKK_lt kk79) rfl rfl k (Nat.le_refl _) (fun rv10 u10 w10 r10 k => ?_)
        obtain ⟨rfl, rfl, rfl, k⟩ := k
        exact k

theorem TX3_follow_92 {g : xGT} {d : Nat} {i4 : Int32} {u : xU} {w : xW} {r : xQ} {P : xPost} (hr : xRf r)
    (k : ((u (80 + 7) 0) = (-1 : Int32) → xCall g d mX0_isStill [.ref 52, .ref 80] 698 u w r 698 (fun rv15 u15 w15 r15 => ∃ v15 : Int32, rv15 = some (.int v15) ∧ u = u15 ∧ w = w15 ∧ r = r15 ∧ (v15 = 0 → xEv g (d + 1) mX3_follow 30 [some (.ref 79), none, none, none, some (.int (i4 + (1 : Int32)))] [] 698 u w r 698 P) ∧ (¬ (v15 = 0) → xEv g (d + 1) mX3_follow 128 [some (.ref 79), none, none, none, none] [] 698 u w r 698 P))) ∧ (¬ ((u (80 + 7) 0) = (-1 : Int32)) → xEv g (d + 1) mX3_follow 128 [some (.ref 79), none, none, none, none] [] 698 u w r 698 P)) :
    xEv g (d + 1) mX3_follow 92 [some (.ref 79), none, none, none, some (.int i4)] [] 698 u w r 698 P := by
  refine xe_aload_n dX3_follow_92 rfl ?_
  refine xe_getR (b := 80) dX3_follow_93 flX3_12 kk79 (xKK_lt kk79) rfl (rf79_1 hr) ?_
  refine xe_getR (b := (80 + 7)) dX3_follow_96 flX3_78 st80.k0 (xKK_lt st80.k0) rfl (sr80 hr).f9 ?_
  refine xe_iconst (v := 0) dX3_follow_99 rfl ?_
  refine xe_iald dX3_follow_100 st80.k7 (xKK_lt st80.k7) (show ¬ ((0 : Int32) < 0 ∨ 10 ≤ (0 : Int32).toNatClampNeg) from by decide) ?_
  refine xe_iconst (v := -1) dX3_follow_101 rfl ?_
  refine xe_icmp_ne (tgt := 128) dX3_follow_102 rfl (fun c13 => ?_) (fun c14 => ?_)
  · have k := k.2 (fun q => (c13 q))
    exact xEv.fewer (ls' := [some (.ref 79), none, none, none, none]) k (xfw_get (xfw_s (xfw_n (xfw_n (xfw_n (xfw_n (xfw_nil _)))))))
  · have k := k.1 c14
    refine xe_aload_n dX3_follow_105 rfl ?_
    refine xe_getR (b := 52) dX3_follow_106 flX3_36 kk79 (xKK_lt kk79) rfl (rf79_0 hr) ?_
    refine xe_aload_n dX3_follow_109 rfl ?_
    refine xe_getR (b := 80) dX3_follow_110 flX3_12 kk79 (xKK_lt kk79) rfl (rf79_1 hr) ?_
    refine xe_callV (args := [.ref 80]) dX3_follow_113 vlX3_54 rfl rfl (Nat.le_of_ble_eq_true rfl) kk52 (xKK_lt kk52) rfl rfl k (Nat.le_refl _) (fun rv15 u15 w15 r15 k => ?_)
    obtain ⟨v15, rfl, rfl, rfl, rfl, k⟩ := k
    refine xe_if_eq (tgt := 122) dX3_follow_116 rfl (fun c16 => ?_) (fun c17 => ?_)
    · have k := k.1 c16
      refine xe_iinc (v := (i4 + (1 : Int32))) (ls' := [some (.ref 79), none, none, none, some (.int (i4 + (1 : Int32)))]) dX3_follow_122 rfl (by decide) rfl rfl ?_
      refine xe_goto (tgt := 30) dX3_follow_125 rfl ?_
      exact k
    · have k := k.2 (fun q => (c17 q))
      refine xe_goto (tgt := 128) dX3_follow_119 rfl ?_
      exact xEv.fewer (ls' := [some (.ref 79), none, none, none, none]) k (xfw_get (xfw_s (xfw_n (xfw_n (xfw_n (xfw_n (xfw_nil _)))))))

theorem TX3_follow_128 {g : xGT} {d : Nat} {u : xU} {w : xW} {r : xQ} {P : xPost} (hr : xRf r)
    (k : P (some (.int (u (80 + 7) 0))) u w r) :
    xEv g (d + 1) mX3_follow 128 [some (.ref 79), none, none, none, none] [] 698 u w r 698 P := by
  refine xe_aload_n dX3_follow_128 rfl ?_
  refine xe_getR (b := 80) dX3_follow_129 flX3_12 kk79 (xKK_lt kk79) rfl (rf79_1 hr) ?_
  refine xe_getR (b := (80 + 7)) dX3_follow_132 flX3_78 st80.k0 (xKK_lt st80.k0) rfl (sr80 hr).f9 ?_
  refine xe_iconst (v := 0) dX3_follow_135 rfl ?_
  refine xe_iald dX3_follow_136 st80.k7 (xKK_lt st80.k7) (show ¬ ((0 : Int32) < 0 ∨ 10 ≤ (0 : Int32).toNatClampNeg) from by decide) ?_
  exact xe_ireturn dX3_follow_137 rfl k

/-! Look.countHandedInto -/

theorem TX3_countHandedInto_0 {g : xGT} {d : Nat} {i1 i2 : Int32} {u : xU} {w : xW} {r : xQ} {P : xPost}
    (k : xEv g d mX3_countHandedInto 5 [some (.ref 79), some (.int i1), some (.int i2), some (.int (0 : Int32)), some (.int (0 : Int32))] [] 698 u w r 698 P) :
    xEv g d mX3_countHandedInto 0 [some (.ref 79), some (.int i1), some (.int i2), none, none] [] 698 u w r 698 P := by
  refine xe_iconst (v := 0) dX3_countHandedInto_0 rfl ?_
  refine xe_istore_n (ls' := [some (.ref 79), some (.int i1), some (.int i2), some (.int (0 : Int32)), none]) dX3_countHandedInto_1 rfl (by decide) rfl ?_
  refine xe_iconst (v := 0) dX3_countHandedInto_2 rfl ?_
  refine xe_istore (ls' := [some (.ref 79), some (.int i1), some (.int i2), some (.int (0 : Int32)), some (.int (0 : Int32))]) dX3_countHandedInto_3 (by decide) rfl ?_
  exact k

theorem CX3_countHandedInto {g : xGT} {d : Nat} {i1 i2 : Int32} {u : xU} {w : xW} {r : xQ} {P : xPost}
    (k : xEv g d mX3_countHandedInto 5 [some (.ref 79), some (.int i1), some (.int i2), some (.int (0 : Int32)), some (.int (0 : Int32))] [] 698 u w r 698 P) :
    xCall g d mX3_countHandedInto [.ref 79, .int i1, .int i2] 698 u w r 698 P :=
  xCall.of plX3 (Nat.le_of_ble_eq_true rfl) rfl (TX3_countHandedInto_0  k)

theorem TX3_countHandedInto_5 {g : xGT} {d : Nat} {i1 i2 i3 i4 : Int32} {u : xU} {w : xW} {r : xQ} {P : xPost} (hr : xRf r)
    (k : ((7 : Int32) ≤ i4 → P (some (.int i3)) u w r) ∧ (¬ ((7 : Int32) ≤ i4) → (((i2 >>> (i4 &&& 31)) &&& (1 : Int32)) = (1 : Int32) → vp_in i4 7) ∧ (((((i2 >>> (i4 &&& 31)) &&& (1 : Int32)) = (1 : Int32) ∧ (((u 94 i4.toNatClampNeg) >>> (i1 &&& 31)) &&& (1 : Int32)) = (1 : Int32)) → xEv g d mX3_countHandedInto 40 [some (.ref 79), some (.int i1), some (.int i2), some (.int (i3 + (1 : Int32))), some (.int i4)] [] 698 u w r 698 P) ∧ (¬ (((i2 >>> (i4 &&& 31)) &&& (1 : Int32)) = (1 : Int32) ∧ (((u 94 i4.toNatClampNeg) >>> (i1 &&& 31)) &&& (1 : Int32)) = (1 : Int32)) → xEv g d mX3_countHandedInto 40 [some (.ref 79), some (.int i1), some (.int i2), some (.int i3), some (.int i4)] [] 698 u w r 698 P)))) :
    xEv g d mX3_countHandedInto 5 [some (.ref 79), some (.int i1), some (.int i2), some (.int i3), some (.int i4)] [] 698 u w r 698 P := by
  refine xe_iload dX3_countHandedInto_5 rfl ?_
  refine xe_bipush (v := 7) dX3_countHandedInto_7 rfl ?_
  refine xe_icmp_ge (tgt := 46) dX3_countHandedInto_9 rfl (fun c1 => ?_) (fun c2 => ?_)
  · have k := k.1 c1
    refine xe_iload_n dX3_countHandedInto_46 rfl ?_
    exact xe_ireturn dX3_countHandedInto_47 rfl k
  · have k := k.2 (fun q => (c2 q))
    refine xe_iload_n dX3_countHandedInto_12 rfl ?_
    refine xe_iload dX3_countHandedInto_13 rfl ?_
    refine xe_ishr dX3_countHandedInto_15 ?_
    refine xe_iconst (v := 1) dX3_countHandedInto_16 rfl ?_
    refine xe_iand dX3_countHandedInto_17 ?_
    refine xe_iconst (v := 1) dX3_countHandedInto_18 rfl ?_
    obtain ⟨b5, k⟩ := k
    have K8 : ¬ (((i2 >>> (i4 &&& 31)) &&& (1 : Int32)) = (1 : Int32) ∧ (((u 94 i4.toNatClampNeg) >>> (i1 &&& 31)) &&& (1 : Int32)) = (1 : Int32)) → xEv g d mX3_countHandedInto 40 [some (.ref 79), some (.int i1), some (.int i2), some (.int i3), some (.int i4)] [] 698 u w r 698 P := fun c9 => by
      have k := k.2 c9
      exact k
    refine xe_icmp_ne (tgt := 40) dX3_countHandedInto_19 rfl (fun c3 => ?_) (fun c4 => ?_)
    · exact K8 (fun q => (c3 q.1))
    · refine xe_aload_n dX3_countHandedInto_22 rfl ?_
      refine xe_getR (b := 94) dX3_countHandedInto_23 flX3_25 kk79 (xKK_lt kk79) rfl (rf79_6 hr) ?_
      refine xe_iload dX3_countHandedInto_26 rfl ?_
      refine xe_iald dX3_countHandedInto_28 kk94 (xKK_lt kk94) (b5 c4) ?_
      refine xe_iload_n dX3_countHandedInto_29 rfl ?_
      refine xe_ishr dX3_countHandedInto_30 ?_
      refine xe_iconst (v := 1) dX3_countHandedInto_31 rfl ?_
      refine xe_iand dX3_countHandedInto_32 ?_
      refine xe_iconst (v := 1) dX3_countHandedInto_33 rfl ?_
      refine xe_icmp_ne (tgt := 40) dX3_countHandedInto_34 rfl (fun c6 => ?_) (fun c7 => ?_)
      · exact K8 (fun q => (c6 q.2))
      · have k := k.1 ⟨c4, c7⟩
        refine xe_iinc (v := (i3 + (1 : Int32))) (ls' := [some (.ref 79), some (.int i1), some (.int i2), some (.int (i3 + (1 : Int32))), some (.int i4)]) dX3_countHandedInto_37 rfl (by decide) rfl rfl ?_
        exact k

theorem TX3_countHandedInto_40 {g : xGT} {d : Nat} {i1 i2 i3 i4 : Int32} {u : xU} {w : xW} {r : xQ} {P : xPost}
    (k : xEv g d mX3_countHandedInto 5 [some (.ref 79), some (.int i1), some (.int i2), some (.int i3), some (.int (i4 + (1 : Int32)))] [] 698 u w r 698 P) :
    xEv g d mX3_countHandedInto 40 [some (.ref 79), some (.int i1), some (.int i2), some (.int i3), some (.int i4)] [] 698 u w r 698 P := by
  refine xe_iinc (v := (i4 + (1 : Int32))) (ls' := [some (.ref 79), some (.int i1), some (.int i2), some (.int i3), some (.int (i4 + (1 : Int32)))]) dX3_countHandedInto_40 rfl (by decide) rfl rfl ?_
  refine xe_goto (tgt := 5) dX3_countHandedInto_43 rfl ?_
  exact k

/-! Look.findMeeting -/

theorem TX3_findMeeting_0 {g : xGT} {d : Nat} {i2 i3 : Int32} {s : Nat} {u : xU} {w : xW} {r : xQ} {P : xPost} (hr : xRf r)
    (k : xCall g d mX9_copyFrom [.ref 80, .ref s] 698 u w r 698 (fun rv1 u1 w1 r1 => rv1 = none ∧ w = w1 ∧ r = r1 ∧ xEv g (d + 1) mX3_findMeeting 11 [some (.ref 79), none, some (.int i2), some (.int i3), some (.int (0 : Int32)), none] [] 698 u1 w r 698 P)) :
    xEv g (d + 1) mX3_findMeeting 0 [some (.ref 79), some (.ref s), some (.int i2), some (.int i3), none, none] [] 698 u w r 698 P := by
  refine xe_aload_n dX3_findMeeting_0 rfl ?_
  refine xe_getR (b := 80) dX3_findMeeting_1 flX3_12 kk79 (xKK_lt kk79) rfl (rf79_1 hr) ?_
  refine xe_aload_n dX3_findMeeting_4 rfl ?_
  refine xe_callV (args := [.ref s]) dX3_findMeeting_5 vlX3_40 rfl rfl (Nat.le_of_ble_eq_true rfl) st80.k0 (xKK_lt st80.k0) rfl rfl k (Nat.le_refl _) (fun rv1 u1 w1 r1 k => ?_)
  obtain ⟨rfl, rfl, rfl, k⟩ := k
  refine xe_iconst (v := 0) dX3_findMeeting_8 rfl ?_
  refine xe_istore (ls' := [some (.ref 79), some (.ref s), some (.int i2), some (.int i3), some (.int (0 : Int32)), none]) dX3_findMeeting_9 (by decide) rfl ?_
  exact xEv.fewer (ls' := [some (.ref 79), none, some (.int i2), some (.int i3), some (.int (0 : Int32)), none]) k (xfw_get (xfw_s (xfw_n (xfw_s (xfw_s (xfw_s (xfw_n (xfw_nil _))))))))

theorem CX3_findMeeting {g : xGT} {d : Nat} {i2 i3 : Int32} {s : Nat} {u : xU} {w : xW} {r : xQ} {P : xPost} (hr : xRf r)
    (k : xCall g d mX9_copyFrom [.ref 80, .ref s] 698 u w r 698 (fun rv1 u1 w1 r1 => rv1 = none ∧ w = w1 ∧ r = r1 ∧ xEv g (d + 1) mX3_findMeeting 11 [some (.ref 79), none, some (.int i2), some (.int i3), some (.int (0 : Int32)), none] [] 698 u1 w r 698 P)) :
    xCall g (d + 1) mX3_findMeeting [.ref 79, .ref s, .int i2, .int i3] 698 u w r 698 P :=
  xCall.of plX3 (Nat.le_of_ble_eq_true rfl) rfl (TX3_findMeeting_0 hr k)

theorem TX3_findMeeting_11 {g : xGT} {d : Nat} {i2 i3 i4 : Int32} {u : xU} {w : xW} {r : xQ} {P : xPost} (hr : xRf r)
    (k : ((¬ ((300 : Int32) ≤ i4) ∧ ¬ ((300 : Int32) ≤ (u 80 0))) → xCall g d mX0_arrive [.ref 52, .ref 80] 698 u w r 698 (fun rv6 u6 w6 r6 => rv6 = none ∧ w = w6 ∧ r = r6 ∧ xCall g d mX9_standsIn [.ref 80, .int i2] 698 u6 w r 698 (fun rv7 u7 w7 r7 => ∃ v7 : Int32, rv7 = some (.int v7) ∧ u6 = u7 ∧ w = w7 ∧ r = r7 ∧ (v7 = (-1 : Int32) → xEv g (d + 1) mX3_findMeeting 91 [some (.ref 79), none, some (.int i2), some (.int i3), some (.int i4), none] [] 698 u6 w r 698 P) ∧ (¬ (v7 = (-1 : Int32)) → xCall g d mX9_standsIn [.ref 80, .int i3] 698 u6 w r 698 (fun rv10 u10 w10 r10 => ∃ v10 : Int32, rv10 = some (.int v10) ∧ u6 = u10 ∧ w = w10 ∧ r = r10 ∧ (v10 = v7 → P (some (.int (1 : Int32))) (x2 (x2 u6 79 7 (u6 80 0)) 79 8 v7) w r) ∧ (¬ (v10 = v7) → xEv g (d + 1) mX3_findMeeting 91 [some (.ref 79), none, some (.int i2), some (.int i3), some (.int i4), none] [] 698 u6 w r 698 P)))))) ∧ (¬ (¬ ((300 : Int32) ≤ i4) ∧ ¬ ((300 : Int32) ≤ (u 80 0))) → P (some (.int (0 : Int32))) u w r)) :
    xEv g (d + 1) mX3_findMeeting 11 [some (.ref 79), none, some (.int i2), some (.int i3), some (.int i4), none] [] 698 u w r 698 P := by
  refine xe_iload dX3_findMeeting_11 rfl ?_
  refine xe_sipush (v := 300) dX3_findMeeting_13 rfl ?_
  have K13 : ¬ (¬ ((300 : Int32) ≤ i4) ∧ ¬ ((300 : Int32) ≤ (u 80 0))) → xEv g (d + 1) mX3_findMeeting 125 [some (.ref 79), none, some (.int i2), some (.int i3), some (.int i4), none] [] 698 u w r 698 P := fun c14 => by
    have k := k.2 c14
    refine xe_iconst (v := 0) dX3_findMeeting_125 rfl ?_
    exact xe_ireturn dX3_findMeeting_126 (xrokZ (Or.inl rfl)) k
  refine xe_icmp_ge (tgt := 125) dX3_findMeeting_16 rfl (fun c2 => ?_) (fun c3 => ?_)
  · exact K13 (fun q => (q.1 c2))
  · refine xe_aload_n dX3_findMeeting_19 rfl ?_
    refine xe_getR (b := 80) dX3_findMeeting_20 flX3_12 kk79 (xKK_lt kk79) rfl (rf79_1 hr) ?_
    refine xe_getI dX3_findMeeting_23 flX3_44 st80.k0 (xKK_lt st80.k0) rfl ?_
    refine xe_sipush (v := 300) dX3_findMeeting_26 rfl ?_
    refine xe_icmp_ge (tgt := 125) dX3_findMeeting_29 rfl (fun c4 => ?_) (fun c5 => ?_)
    · exact K13 (fun q => (q.2 c4))
    · have k := k.1 ⟨c3, c5⟩
      refine xe_aload_n dX3_findMeeting_32 rfl ?_
      refine xe_getR (b := 52) dX3_findMeeting_33 flX3_36 kk79 (xKK_lt kk79) rfl (rf79_0 hr) ?_
      refine xe_aload_n dX3_findMeeting_36 rfl ?_
      refine xe_getR (b := 80) dX3_findMeeting_37 flX3_12 kk79 (xKK_lt kk79) rfl (rf79_1 hr) ?_
      refine xe_callV (args := [.ref 80]) dX3_findMeeting_40 vlX3_81 rfl rfl (Nat.le_of_ble_eq_true rfl) kk52 (xKK_lt kk52) rfl rfl k (Nat.le_refl _) (fun rv6 u6 w6 r6 k => ?_)
      obtain ⟨rfl, rfl, rfl, k⟩ := k
      refine xe_aload_n dX3_findMeeting_43 rfl ?_
      refine xe_getR (b := 80) dX3_findMeeting_44 flX3_12 kk79 (xKK_lt kk79) rfl (rf79_1 hr) ?_
      refine xe_iload_n dX3_findMeeting_47 rfl ?_
      refine xe_callV (args := [.int i2]) dX3_findMeeting_48 vlX3_84 rfl rfl (Nat.le_of_ble_eq_true rfl) st80.k0 (xKK_lt st80.k0) rfl rfl k (Nat.le_refl _) (fun rv7 u7 w7 r7 k => ?_)
      obtain ⟨v7, rfl, rfl, rfl, rfl, k⟩ := k
      refine xe_istore (ls' := [some (.ref 79), none, some (.int i2), some (.int i3), some (.int i4), some (.int v7)]) dX3_findMeeting_51 (by decide) rfl ?_
      refine xe_iload dX3_findMeeting_53 rfl ?_
      refine xe_iconst (v := -1) dX3_findMeeting_55 rfl ?_
      refine xe_icmp_eq (tgt := 91) dX3_findMeeting_56 rfl (fun c8 => ?_) (fun c9 => ?_)
      · have k := k.1 c8
        exact xEv.fewer (ls' := [some (.ref 79), none, some (.int i2), some (.int i3), some (.int i4), none]) k (xfw_get (xfw_s (xfw_n (xfw_s (xfw_s (xfw_s (xfw_n (xfw_nil _))))))))
      · have k := k.2 (fun q => (c9 q))
        refine xe_aload_n dX3_findMeeting_59 rfl ?_
        refine xe_getR (b := 80) dX3_findMeeting_60 flX3_12 kk79 (xKK_lt kk79) rfl (rf79_1 hr) ?_
        refine xe_iload_n dX3_findMeeting_63 rfl ?_
        refine xe_callV (args := [.int i3]) dX3_findMeeting_64 vlX3_84 rfl rfl (Nat.le_of_ble_eq_true rfl) st80.k0 (xKK_lt st80.k0) rfl rfl k (Nat.le_refl _) (fun rv10 u10 w10 r10 k => ?_)
        obtain ⟨v10, rfl, rfl, rfl, rfl, k⟩ := k
        refine xe_iload dX3_findMeeting_67 rfl ?_
        refine xe_icmp_ne (tgt := 91) dX3_findMeeting_69 rfl (fun c11 => ?_) (fun c12 => ?_)
        · have k := k.2 (fun q => (c11 q))
          exact xEv.fewer (ls' := [some (.ref 79), none, some (.int i2), some (.int i3), some (.int i4), none]) k (xfw_get (xfw_s (xfw_n (xfw_s (xfw_s (xfw_s (xfw_n (xfw_nil _))))))))
        · have k := k.1 c12
          refine xe_aload_n dX3_findMeeting_72 rfl ?_
          refine xe_aload_n dX3_findMeeting_73 rfl ?_
          refine xe_getR (b := 80) dX3_findMeeting_74 flX3_12 kk79 (xKK_lt kk79) rfl (rf79_1 hr) ?_
          refine xe_getI dX3_findMeeting_77 flX3_44 st80.k0 (xKK_lt st80.k0) rfl ?_
          refine xe_putI dX3_findMeeting_80 flX3_88 kk79 (xKK_lt kk79) nf3_7 rfl ?_
          refine xe_aload_n dX3_findMeeting_83 rfl ?_
          refine xe_iload dX3_findMeeting_84 rfl ?_
          refine xe_putI dX3_findMeeting_86 flX3_91 kk79 (xKK_lt kk79) nf3_8 rfl ?_
          refine xe_iconst (v := 1) dX3_findMeeting_89 rfl ?_
          exact xe_ireturn dX3_findMeeting_90 (xrokZ (Or.inr rfl)) k

theorem TX3_findMeeting_91 {g : xGT} {d : Nat} {i2 i3 i4 : Int32} {u : xU} {w : xW} {r : xQ} {P : xPost} (hr : xRf r)
    (k : xCall g d mX0_depart [.ref 52, .ref 80] 698 u w r 698 (fun rv15 u15 w15 r15 => rv15 = none ∧ w = w15 ∧ r = r15 ∧ xCall g d mX0_isStill [.ref 52, .ref 80] 698 u15 w r 698 (fun rv16 u16 w16 r16 => ∃ v16 : Int32, rv16 = some (.int v16) ∧ u15 = u16 ∧ w = w16 ∧ r = r16 ∧ (v16 = 0 → xEv g (d + 1) mX3_findMeeting 11 [some (.ref 79), none, some (.int i2), some (.int i3), some (.int (i4 + (1 : Int32))), none] [] 698 u15 w r 698 P) ∧ (¬ (v16 = 0) → P (some (.int (0 : Int32))) u15 w r)))) :
    xEv g (d + 1) mX3_findMeeting 91 [some (.ref 79), none, some (.int i2), some (.int i3), some (.int i4), none] [] 698 u w r 698 P := by
  refine xe_aload_n dX3_findMeeting_91 rfl ?_
  refine xe_getR (b := 52) dX3_findMeeting_92 flX3_36 kk79 (xKK_lt kk79) rfl (rf79_0 hr) ?_
  refine xe_aload_n dX3_findMeeting_95 rfl ?_
  refine xe_getR (b := 80) dX3_findMeeting_96 flX3_12 kk79 (xKK_lt kk79) rfl (rf79_1 hr) ?_
  refine xe_callV (args := [.ref 80]) dX3_findMeeting_99 vlX3_94 rfl rfl (Nat.le_of_ble_eq_true rfl) kk52 (xKK_lt kk52) rfl rfl k (Nat.le_refl _) (fun rv15 u15 w15 r15 k => ?_)
  obtain ⟨rfl, rfl, rfl, k⟩ := k
  refine xe_aload_n dX3_findMeeting_102 rfl ?_
  refine xe_getR (b := 52) dX3_findMeeting_103 flX3_36 kk79 (xKK_lt kk79) rfl (rf79_0 hr) ?_
  refine xe_aload_n dX3_findMeeting_106 rfl ?_
  refine xe_getR (b := 80) dX3_findMeeting_107 flX3_12 kk79 (xKK_lt kk79) rfl (rf79_1 hr) ?_
  refine xe_callV (args := [.ref 80]) dX3_findMeeting_110 vlX3_54 rfl rfl (Nat.le_of_ble_eq_true rfl) kk52 (xKK_lt kk52) rfl rfl k (Nat.le_refl _) (fun rv16 u16 w16 r16 k => ?_)
  obtain ⟨v16, rfl, rfl, rfl, rfl, k⟩ := k
  refine xe_if_eq (tgt := 119) dX3_findMeeting_113 rfl (fun c17 => ?_) (fun c18 => ?_)
  · have k := k.1 c17
    refine xe_iinc (v := (i4 + (1 : Int32))) (ls' := [some (.ref 79), none, some (.int i2), some (.int i3), some (.int (i4 + (1 : Int32))), none]) dX3_findMeeting_119 rfl (by decide) rfl rfl ?_
    refine xe_goto (tgt := 11) dX3_findMeeting_122 rfl ?_
    exact k
  · have k := k.2 (fun q => (c18 q))
    refine xe_goto (tgt := 125) dX3_findMeeting_116 rfl ?_
    refine xe_iconst (v := 0) dX3_findMeeting_125 rfl ?_
    exact xe_ireturn dX3_findMeeting_126 (xrokZ (Or.inl rfl)) k

/-! Look.spread -/

theorem TX3_spread_0 {g : xGT} {d : Nat} {i2 : Int32} {s : Nat} {u : xU} {w : xW} {r : xQ} {P : xPost}
    (k : xEv g (d + 1) mX3_spread 2 [some (.ref 79), some (.ref s), some (.int i2), some (.int (0 : Int32)), none] [] 698 u w r 698 P) :
    xEv g (d + 1) mX3_spread 0 [some (.ref 79), some (.ref s), some (.int i2), none, none] [] 698 u w r 698 P := by
  refine xe_iconst (v := 0) dX3_spread_0 rfl ?_
  refine xe_istore_n (ls' := [some (.ref 79), some (.ref s), some (.int i2), some (.int (0 : Int32)), none]) dX3_spread_1 rfl (by decide) rfl ?_
  exact k

theorem CX3_spread {g : xGT} {d : Nat} {i2 : Int32} {s : Nat} {u : xU} {w : xW} {r : xQ} {P : xPost}
    (k : xEv g (d + 1) mX3_spread 2 [some (.ref 79), some (.ref s), some (.int i2), some (.int (0 : Int32)), none] [] 698 u w r 698 P) :
    xCall g (d + 1) mX3_spread [.ref 79, .ref s, .int i2] 698 u w r 698 P :=
  xCall.of plX3 (Nat.le_of_ble_eq_true rfl) rfl (TX3_spread_0  k)

theorem TX3_spread_2 {g : xGT} {d : Nat} {i2 i3 : Int32} {s : Nat} {u : xU} {w : xW} {r : xQ} {P : xPost} (hr : xRf r) (h_s : xSt s)
    (k : ((7 : Int32) ≤ i3 → xCall g d mX11_isOneOf [.int i2, .int (7 : Int32)] 698 u w r 698 (fun rv3 u3 w3 r3 => ∃ v3 : Int32, rv3 = some (.int v3) ∧ u = u3 ∧ w = w3 ∧ r = r3 ∧ (v3 = 0 → xEv g (d + 1) mX3_spread 40 [some (.ref 79), some (.ref s), none, none, none] [] 698 u w r 698 P) ∧ (¬ (v3 = 0) → vp_in i2 7 ∧ (xEv g (d + 1) mX3_spread 40 [some (.ref 79), some (.ref s), none, none, none] [] 698 (x2 u 92 i2.toNatClampNeg (u s 0)) w r 698 P)))) ∧ (¬ ((7 : Int32) ≤ i3) → vp_in i3 7 ∧ (xEv g (d + 1) mX3_spread 2 [some (.ref 79), some (.ref s), some (.int i2), some (.int (i3 + (1 : Int32))), none] [] 698 (x2 u 92 i3.toNatClampNeg (-1 : Int32)) w r 698 P))) :
    xEv g (d + 1) mX3_spread 2 [some (.ref 79), some (.ref s), some (.int i2), some (.int i3), none] [] 698 u w r 698 P := by
  refine xe_iload_n dX3_spread_2 rfl ?_
  refine xe_bipush (v := 7) dX3_spread_3 rfl ?_
  refine xe_icmp_ge (tgt := 21) dX3_spread_5 rfl (fun c1 => ?_) (fun c2 => ?_)
  · have k := k.1 c1
    refine xe_iload_n dX3_spread_21 rfl ?_
    refine xe_bipush (v := 7) dX3_spread_22 rfl ?_
    refine xe_callSN (args := [.int i2, .int (7 : Int32)]) dX3_spread_24 snX3_97 rfl rfl (Nat.le_of_ble_eq_true rfl) k (Nat.le_refl _) (fun rv3 u3 w3 r3 k => ?_)
    obtain ⟨v3, rfl, rfl, rfl, rfl, k⟩ := k
    refine xe_if_eq (tgt := 40) dX3_spread_27 rfl (fun c4 => ?_) (fun c5 => ?_)
    · have k := k.1 c4
      exact xEv.fewer (ls' := [some (.ref 79), some (.ref s), none, none, none]) k (xfw_get (xfw_s (xfw_s (xfw_n (xfw_n (xfw_n (xfw_nil _)))))))
    · have k := k.2 (fun q => (c5 q))
      refine xe_aload_n dX3_spread_30 rfl ?_
      refine xe_getR (b := 92) dX3_spread_31 flX3_18 kk79 (xKK_lt kk79) rfl (rf79_2 hr) ?_
      refine xe_iload_n dX3_spread_34 rfl ?_
      refine xe_aload_n dX3_spread_35 rfl ?_
      refine xe_getI dX3_spread_36 flX3_44 h_s.k0 (xKK_lt h_s.k0) rfl ?_
      obtain ⟨b6, k⟩ := k
      refine xe_iast dX3_spread_39 kk92 (xKK_lt kk92) b6 ?_
      exact xEv.fewer (ls' := [some (.ref 79), some (.ref s), none, none, none]) k (xfw_get (xfw_s (xfw_s (xfw_n (xfw_n (xfw_n (xfw_nil _)))))))
  · have k := k.2 (fun q => (c2 q))
    refine xe_aload_n dX3_spread_8 rfl ?_
    refine xe_getR (b := 92) dX3_spread_9 flX3_18 kk79 (xKK_lt kk79) rfl (rf79_2 hr) ?_
    refine xe_iload_n dX3_spread_12 rfl ?_
    refine xe_iconst (v := -1) dX3_spread_13 rfl ?_
    obtain ⟨b7, k⟩ := k
    refine xe_iast dX3_spread_14 kk92 (xKK_lt kk92) b7 ?_
    refine xe_iinc (v := (i3 + (1 : Int32))) (ls' := [some (.ref 79), some (.ref s), some (.int i2), some (.int (i3 + (1 : Int32))), none]) dX3_spread_15 rfl (by decide) rfl rfl ?_
    refine xe_goto (tgt := 2) dX3_spread_18 rfl ?_
    exact k

theorem TX3_spread_40 {g : xGT} {d : Nat} {s : Nat} {u : xU} {w : xW} {r : xQ} {P : xPost} (hr : xRf r)
    (k : xCall g d mX9_copyFrom [.ref 80, .ref s] 698 u w r 698 (fun rv8 u8 w8 r8 => rv8 = none ∧ w = w8 ∧ r = r8 ∧ xEv g (d + 1) mX3_spread 53 [some (.ref 79), none, none, some (.int (0 : Int32)), some (.int (0 : Int32))] [] 698 u8 w r 698 P)) :
    xEv g (d + 1) mX3_spread 40 [some (.ref 79), some (.ref s), none, none, none] [] 698 u w r 698 P := by
  refine xe_aload_n dX3_spread_40 rfl ?_
  refine xe_getR (b := 80) dX3_spread_41 flX3_12 kk79 (xKK_lt kk79) rfl (rf79_1 hr) ?_
  refine xe_aload_n dX3_spread_44 rfl ?_
  refine xe_callV (args := [.ref s]) dX3_spread_45 vlX3_40 rfl rfl (Nat.le_of_ble_eq_true rfl) st80.k0 (xKK_lt st80.k0) rfl rfl k (Nat.le_refl _) (fun rv8 u8 w8 r8 k => ?_)
  obtain ⟨rfl, rfl, rfl, k⟩ := k
  refine xe_iconst (v := 0) dX3_spread_48 rfl ?_
  refine xe_istore_n (ls' := [some (.ref 79), some (.ref s), none, some (.int (0 : Int32)), none]) dX3_spread_49 rfl (by decide) rfl ?_
  refine xe_iconst (v := 0) dX3_spread_50 rfl ?_
  refine xe_istore (ls' := [some (.ref 79), some (.ref s), none, some (.int (0 : Int32)), some (.int (0 : Int32))]) dX3_spread_51 (by decide) rfl ?_
  exact xEv.fewer (ls' := [some (.ref 79), none, none, some (.int (0 : Int32)), some (.int (0 : Int32))]) k (xfw_get (xfw_s (xfw_n (xfw_n (xfw_s (xfw_s (xfw_nil _)))))))

theorem TX3_spread_53 {g : xGT} {d : Nat} {i3 i4 : Int32} {u : xU} {w : xW} {r : xQ} {P : xPost} (hr : xRf r)
    (k : ((¬ ((300 : Int32) ≤ i4) ∧ ¬ ((300 : Int32) ≤ (u 80 0))) → xCall g d mX0_arrive [.ref 52, .ref 80] 698 u w r 698 (fun rv13 u13 w13 r13 => rv13 = none ∧ w = w13 ∧ r = r13 ∧ xCall g d mX3_layDown [.ref 79, .int i3] 698 u13 w r 698 (fun rv14 u14 w14 r14 => rv14 = none ∧ w = w14 ∧ r = r14 ∧ xCall g d mX3_takeUp [.ref 79] 698 u14 w r 698 (fun rv15 u15 w15 r15 => ∃ v15 : Int32, rv15 = some (.int v15) ∧ u14 = u15 ∧ w = w15 ∧ r = r15 ∧ xCall g d mX0_depart [.ref 52, .ref 80] 698 u14 w r 698 (fun rv16 u16 w16 r16 => rv16 = none ∧ w = w16 ∧ r = r16 ∧ xCall g d mX0_isStill [.ref 52, .ref 80] 698 u16 w r 698 (fun rv17 u17 w17 r17 => ∃ v17 : Int32, rv17 = some (.int v17) ∧ u16 = u17 ∧ w = w17 ∧ r = r17 ∧ (v17 = 0 → xEv g (d + 1) mX3_spread 53 [some (.ref 79), none, none, some (.int (i3 ||| v15)), some (.int (i4 + (1 : Int32)))] [] 698 u16 w r 698 P) ∧ (¬ (v17 = 0) → P none u16 w r))))))) ∧ (¬ (¬ ((300 : Int32) ≤ i4) ∧ ¬ ((300 : Int32) ≤ (u 80 0))) → P none u w r)) :
    xEv g (d + 1) mX3_spread 53 [some (.ref 79), none, none, some (.int i3), some (.int i4)] [] 698 u w r 698 P := by
  refine xe_iload dX3_spread_53 rfl ?_
  refine xe_sipush (v := 300) dX3_spread_55 rfl ?_
  have K20 : ¬ (¬ ((300 : Int32) ≤ i4) ∧ ¬ ((300 : Int32) ≤ (u 80 0))) → xEv g (d + 1) mX3_spread 131 [some (.ref 79), none, none, some (.int i3), some (.int i4)] [] 698 u w r 698 P := fun c21 => by
    have k := k.2 c21
    exact xe_return dX3_spread_131 trivial k
  refine xe_icmp_ge (tgt := 131) dX3_spread_58 rfl (fun c9 => ?_) (fun c10 => ?_)
  · exact K20 (fun q => (q.1 c9))
  · refine xe_aload_n dX3_spread_61 rfl ?_
    refine xe_getR (b := 80) dX3_spread_62 flX3_12 kk79 (xKK_lt kk79) rfl (rf79_1 hr) ?_
    refine xe_getI dX3_spread_65 flX3_44 st80.k0 (xKK_lt st80.k0) rfl ?_
    refine xe_sipush (v := 300) dX3_spread_68 rfl ?_
    refine xe_icmp_ge (tgt := 131) dX3_spread_71 rfl (fun c11 => ?_) (fun c12 => ?_)
    · exact K20 (fun q => (q.2 c11))
    · have k := k.1 ⟨c10, c12⟩
      refine xe_aload_n dX3_spread_74 rfl ?_
      refine xe_getR (b := 52) dX3_spread_75 flX3_36 kk79 (xKK_lt kk79) rfl (rf79_0 hr) ?_
      refine xe_aload_n dX3_spread_78 rfl ?_
      refine xe_getR (b := 80) dX3_spread_79 flX3_12 kk79 (xKK_lt kk79) rfl (rf79_1 hr) ?_
      refine xe_callV (args := [.ref 80]) dX3_spread_82 vlX3_81 rfl rfl (Nat.le_of_ble_eq_true rfl) kk52 (xKK_lt kk52) rfl rfl k (Nat.le_refl _) (fun rv13 u13 w13 r13 k => ?_)
      obtain ⟨rfl, rfl, rfl, k⟩ := k
      refine xe_aload_n dX3_spread_85 rfl ?_
      refine xe_iload_n dX3_spread_86 rfl ?_
      refine xe_callV (args := [.int i3]) dX3_spread_87 vlX3_101 rfl rfl (Nat.le_of_ble_eq_true rfl) kk79 (xKK_lt kk79) rfl rfl k (Nat.le_refl _) (fun rv14 u14 w14 r14 k => ?_)
      obtain ⟨rfl, rfl, rfl, k⟩ := k
      refine xe_iload_n dX3_spread_90 rfl ?_
      refine xe_aload_n dX3_spread_91 rfl ?_
      refine xe_callV (args := []) dX3_spread_92 vlX3_104 rfl rfl (Nat.le_of_ble_eq_true rfl) kk79 (xKK_lt kk79) rfl rfl k (Nat.le_refl _) (fun rv15 u15 w15 r15 k => ?_)
      obtain ⟨v15, rfl, rfl, rfl, rfl, k⟩ := k
      refine xe_ior dX3_spread_95 ?_
      refine xe_istore_n (ls' := [some (.ref 79), none, none, some (.int (i3 ||| v15)), some (.int i4)]) dX3_spread_96 rfl (by decide) rfl ?_
      refine xe_aload_n dX3_spread_97 rfl ?_
      refine xe_getR (b := 52) dX3_spread_98 flX3_36 kk79 (xKK_lt kk79) rfl (rf79_0 hr) ?_
      refine xe_aload_n dX3_spread_101 rfl ?_
      refine xe_getR (b := 80) dX3_spread_102 flX3_12 kk79 (xKK_lt kk79) rfl (rf79_1 hr) ?_
      refine xe_callV (args := [.ref 80]) dX3_spread_105 vlX3_94 rfl rfl (Nat.le_of_ble_eq_true rfl) kk52 (xKK_lt kk52) rfl rfl k (Nat.le_refl _) (fun rv16 u16 w16 r16 k => ?_)
      obtain ⟨rfl, rfl, rfl, k⟩ := k
      refine xe_aload_n dX3_spread_108 rfl ?_
      refine xe_getR (b := 52) dX3_spread_109 flX3_36 kk79 (xKK_lt kk79) rfl (rf79_0 hr) ?_
      refine xe_aload_n dX3_spread_112 rfl ?_
      refine xe_getR (b := 80) dX3_spread_113 flX3_12 kk79 (xKK_lt kk79) rfl (rf79_1 hr) ?_
      refine xe_callV (args := [.ref 80]) dX3_spread_116 vlX3_54 rfl rfl (Nat.le_of_ble_eq_true rfl) kk52 (xKK_lt kk52) rfl rfl k (Nat.le_refl _) (fun rv17 u17 w17 r17 k => ?_)
      obtain ⟨v17, rfl, rfl, rfl, rfl, k⟩ := k
      refine xe_if_eq (tgt := 125) dX3_spread_119 rfl (fun c18 => ?_) (fun c19 => ?_)
      · have k := k.1 c18
        refine xe_iinc (v := (i4 + (1 : Int32))) (ls' := [some (.ref 79), none, none, some (.int (i3 ||| v15)), some (.int (i4 + (1 : Int32)))]) dX3_spread_125 rfl (by decide) rfl rfl ?_
        refine xe_goto (tgt := 53) dX3_spread_128 rfl ?_
        exact k
      · have k := k.2 (fun q => (c19 q))
        refine xe_goto (tgt := 131) dX3_spread_122 rfl ?_
        exact xe_return dX3_spread_131 trivial k

/-! Look.findSwap -/

set_option maxRecDepth 20000 in
theorem TX3_findSwap_0 {g : xGT} {d : Nat} {i2 i3 : Int32} {s l : Nat} {u : xU} {w : xW} {r : xQ} {P : xPost} (hr : xRf r) (h_s : xSt s) (h_l : xLd l) (q_l : xLr l r) (hm_course : r 52 1 = some l)
    (k : xCall g d mX9_lettersIn [.ref s, .int i2] 698 u w r 698 (fun rv1 u1 w1 r1 => ∃ v1 : Int32, rv1 = some (.int v1) ∧ u = u1 ∧ w = w1 ∧ r = r1 ∧ xCall g d mX9_lettersIn [.ref s, .int i3] 698 u w r 698 (fun rv2 u2 w2 r2 => ∃ v2 : Int32, rv2 = some (.int v2) ∧ u = u2 ∧ w = w2 ∧ r = r2 ∧ xCall g d mX3_watch [.ref 79, .ref s] 698 u w r 698 (fun rv3 u3 w3 r3 => rv3 = none ∧ w = w3 ∧ r = r3 ∧ xCall g d mX3_weigh [.ref 79, .ref s, .int i2, .ref (103 + 0)] 698 u3 w r 698 (fun rv4 u4 w4 r4 => rv4 = none ∧ w = w4 ∧ r = r4 ∧ xCall g d mX3_weigh [.ref 79, .ref s, .int i3, .ref (103 + 1)] 698 u4 w r 698 (fun rv5 u5 w5 r5 => rv5 = none ∧ w = w5 ∧ r = r5 ∧ xCall g d mX11_cell [.ref (l + 7), .int i2] 698 u5 w r 698 (fun rv6 u6 w6 r6 => ∃ v6 : Int32, rv6 = some (.int v6) ∧ u5 = u6 ∧ w = w6 ∧ r = r6 ∧ xCall g d mX11_cell [.ref (l + 7), .int i3] 698 u5 w r 698 (fun rv7 u7 w7 r7 => ∃ v7 : Int32, rv7 = some (.int v7) ∧ u5 = u7 ∧ w = w7 ∧ r = r7 ∧ xEv g (d + 1) mX3_findSwap 82 [some (.ref 79), none, none, none, some (.int (v1 ||| v2)), some (.int v6), some (.int v7), some (.int (0 : Int32)), none, none, none] [] 698 (x2 u5 79 11 (-1 : Int32)) w r 698 P)))))))) :
    xEv g (d + 1) mX3_findSwap 0 [some (.ref 79), some (.ref s), some (.int i2), some (.int i3), none, none, none, none, none, none, none] [] 698 u w r 698 P := by
  refine xe_aload_n dX3_findSwap_0 rfl ?_
  refine xe_iload_n dX3_findSwap_1 rfl ?_
  refine xe_callV (args := [.int i2]) dX3_findSwap_2 vlX3_108 rfl rfl (Nat.le_of_ble_eq_true rfl) h_s.k0 (xKK_lt h_s.k0) rfl rfl k (Nat.le_refl _) (fun rv1 u1 w1 r1 k => ?_)
  obtain ⟨v1, rfl, rfl, rfl, rfl, k⟩ := k
  refine xe_aload_n dX3_findSwap_5 rfl ?_
  refine xe_iload_n dX3_findSwap_6 rfl ?_
  refine xe_callV (args := [.int i3]) dX3_findSwap_7 vlX3_108 rfl rfl (Nat.le_of_ble_eq_true rfl) h_s.k0 (xKK_lt h_s.k0) rfl rfl k (Nat.le_refl _) (fun rv2 u2 w2 r2 k => ?_)
  obtain ⟨v2, rfl, rfl, rfl, rfl, k⟩ := k
  refine xe_ior dX3_findSwap_10 ?_
  refine xe_istore (ls' := [some (.ref 79), some (.ref s), some (.int i2), some (.int i3), some (.int (v1 ||| v2)), none, none, none, none, none, none]) dX3_findSwap_11 (by decide) rfl ?_
  refine xe_aload_n dX3_findSwap_13 rfl ?_
  refine xe_aload_n dX3_findSwap_14 rfl ?_
  refine xe_callV (args := [.ref s]) dX3_findSwap_15 vlX3_111 rfl rfl (Nat.le_of_ble_eq_true rfl) kk79 (xKK_lt kk79) rfl rfl k (Nat.le_refl _) (fun rv3 u3 w3 r3 k => ?_)
  obtain ⟨rfl, rfl, rfl, k⟩ := k
  refine xe_aload_n dX3_findSwap_18 rfl ?_
  refine xe_aload_n dX3_findSwap_19 rfl ?_
  refine xe_iload_n dX3_findSwap_20 rfl ?_
  refine xe_aload_n dX3_findSwap_21 rfl ?_
  refine xe_getR (b := 102) dX3_findSwap_22 flX3_33 kk79 (xKK_lt kk79) rfl (rf79_10 hr) ?_
  refine xe_iconst (v := 0) dX3_findSwap_25 rfl ?_
  refine xe_aald dX3_findSwap_26 kk102 (xKK_lt kk102) (by simp) (show ¬ ((0 : Int32) < 0 ∨ 2 ≤ (0 : Int32).toNatClampNeg) from by decide) (rr102 hr (show ¬ ((0 : Int32) < 0 ∨ 2 ≤ (0 : Int32).toNatClampNeg) from by decide)) ?_
  refine xe_callV (args := [.ref s, .int i2, .ref (103 + 0)]) dX3_findSwap_27 vlX3_114 rfl rfl (Nat.le_of_ble_eq_true rfl) kk79 (xKK_lt kk79) rfl rfl k (Nat.le_refl _) (fun rv4 u4 w4 r4 k => ?_)
  obtain ⟨rfl, rfl, rfl, k⟩ := k
  refine xe_aload_n dX3_findSwap_30 rfl ?_
  refine xe_aload_n dX3_findSwap_31 rfl ?_
  refine xe_iload_n dX3_findSwap_32 rfl ?_
  refine xe_aload_n dX3_findSwap_33 rfl ?_
  refine xe_getR (b := 102) dX3_findSwap_34 flX3_33 kk79 (xKK_lt kk79) rfl (rf79_10 hr) ?_
  refine xe_iconst (v := 1) dX3_findSwap_37 rfl ?_
  refine xe_aald dX3_findSwap_38 kk102 (xKK_lt kk102) (by simp) (show ¬ ((1 : Int32) < 0 ∨ 2 ≤ (1 : Int32).toNatClampNeg) from by decide) (rr102 hr (show ¬ ((1 : Int32) < 0 ∨ 2 ≤ (1 : Int32).toNatClampNeg) from by decide)) ?_
  refine xe_callV (args := [.ref s, .int i3, .ref (103 + 1)]) dX3_findSwap_39 vlX3_114 rfl rfl (Nat.le_of_ble_eq_true rfl) kk79 (xKK_lt kk79) rfl rfl k (Nat.le_refl _) (fun rv5 u5 w5 r5 k => ?_)
  obtain ⟨rfl, rfl, rfl, k⟩ := k
  refine xe_aload_n dX3_findSwap_42 rfl ?_
  refine xe_getR (b := 52) dX3_findSwap_43 flX3_36 kk79 (xKK_lt kk79) rfl (rf79_0 hr) ?_
  refine xe_getR (b := l) dX3_findSwap_46 flX3_118 kk52 (xKK_lt kk52) rfl hm_course ?_
  refine xe_getR (b := (l + 7)) dX3_findSwap_49 flX3_122 h_l.k0 (xKK_lt h_l.k0) rfl q_l.1.f9 ?_
  refine xe_iload_n dX3_findSwap_52 rfl ?_
  refine xe_callSN (args := [.ref (l + 7), .int i2]) dX3_findSwap_53 snX3_127 rfl rfl (Nat.le_of_ble_eq_true rfl) k (Nat.le_refl _) (fun rv6 u6 w6 r6 k => ?_)
  obtain ⟨v6, rfl, rfl, rfl, rfl, k⟩ := k
  refine xe_istore (ls' := [some (.ref 79), some (.ref s), some (.int i2), some (.int i3), some (.int (v1 ||| v2)), some (.int v6), none, none, none, none, none]) dX3_findSwap_56 (by decide) rfl ?_
  refine xe_aload_n dX3_findSwap_58 rfl ?_
  refine xe_getR (b := 52) dX3_findSwap_59 flX3_36 kk79 (xKK_lt kk79) rfl (rf79_0 hr) ?_
  refine xe_getR (b := l) dX3_findSwap_62 flX3_118 kk52 (xKK_lt kk52) rfl hm_course ?_
  refine xe_getR (b := (l + 7)) dX3_findSwap_65 flX3_122 h_l.k0 (xKK_lt h_l.k0) rfl q_l.1.f9 ?_
  refine xe_iload_n dX3_findSwap_68 rfl ?_
  refine xe_callSN (args := [.ref (l + 7), .int i3]) dX3_findSwap_69 snX3_127 rfl rfl (Nat.le_of_ble_eq_true rfl) k (Nat.le_refl _) (fun rv7 u7 w7 r7 k => ?_)
  obtain ⟨v7, rfl, rfl, rfl, rfl, k⟩ := k
  refine xe_istore (ls' := [some (.ref 79), some (.ref s), some (.int i2), some (.int i3), some (.int (v1 ||| v2)), some (.int v6), some (.int v7), none, none, none, none]) dX3_findSwap_72 (by decide) rfl ?_
  refine xe_aload_n dX3_findSwap_74 rfl ?_
  refine xe_iconst (v := -1) dX3_findSwap_75 rfl ?_
  refine xe_putI dX3_findSwap_76 flX3_131 kk79 (xKK_lt kk79) nf3_11 rfl ?_
  refine xe_iconst (v := 0) dX3_findSwap_79 rfl ?_
  refine xe_istore (ls' := [some (.ref 79), some (.ref s), some (.int i2), some (.int i3), some (.int (v1 ||| v2)), some (.int v6), some (.int v7), some (.int (0 : Int32)), none, none, none]) dX3_findSwap_80 (by decide) rfl ?_
  exact xEv.fewer (ls' := [some (.ref 79), none, none, none, some (.int (v1 ||| v2)), some (.int v6), some (.int v7), some (.int (0 : Int32)), none, none, none]) k (xfw_get (xfw_s (xfw_n (xfw_n (xfw_n (xfw_s (xfw_s (xfw_s (xfw_s (xfw_n (xfw_n (xfw_n (xfw_nil _)))))))))))))

theorem CX3_findSwap {g : xGT} {d : Nat} {i2 i3 : Int32} {s l : Nat} {u : xU} {w : xW} {r : xQ} {P : xPost} (hr : xRf r) (h_s : xSt s) (h_l : xLd l) (q_l : xLr l r) (hm_course : r 52 1 = some l)
    (k : xCall g d mX9_lettersIn [.ref s, .int i2] 698 u w r 698 (fun rv1 u1 w1 r1 => ∃ v1 : Int32, rv1 = some (.int v1) ∧ u = u1 ∧ w = w1 ∧ r = r1 ∧ xCall g d mX9_lettersIn [.ref s, .int i3] 698 u w r 698 (fun rv2 u2 w2 r2 => ∃ v2 : Int32, rv2 = some (.int v2) ∧ u = u2 ∧ w = w2 ∧ r = r2 ∧ xCall g d mX3_watch [.ref 79, .ref s] 698 u w r 698 (fun rv3 u3 w3 r3 => rv3 = none ∧ w = w3 ∧ r = r3 ∧ xCall g d mX3_weigh [.ref 79, .ref s, .int i2, .ref (103 + 0)] 698 u3 w r 698 (fun rv4 u4 w4 r4 => rv4 = none ∧ w = w4 ∧ r = r4 ∧ xCall g d mX3_weigh [.ref 79, .ref s, .int i3, .ref (103 + 1)] 698 u4 w r 698 (fun rv5 u5 w5 r5 => rv5 = none ∧ w = w5 ∧ r = r5 ∧ xCall g d mX11_cell [.ref (l + 7), .int i2] 698 u5 w r 698 (fun rv6 u6 w6 r6 => ∃ v6 : Int32, rv6 = some (.int v6) ∧ u5 = u6 ∧ w = w6 ∧ r = r6 ∧ xCall g d mX11_cell [.ref (l + 7), .int i3] 698 u5 w r 698 (fun rv7 u7 w7 r7 => ∃ v7 : Int32, rv7 = some (.int v7) ∧ u5 = u7 ∧ w = w7 ∧ r = r7 ∧ xEv g (d + 1) mX3_findSwap 82 [some (.ref 79), none, none, none, some (.int (v1 ||| v2)), some (.int v6), some (.int v7), some (.int (0 : Int32)), none, none, none] [] 698 (x2 u5 79 11 (-1 : Int32)) w r 698 P)))))))) :
    xCall g (d + 1) mX3_findSwap [.ref 79, .ref s, .int i2, .int i3] 698 u w r 698 P :=
  xCall.of plX3 (Nat.le_of_ble_eq_true rfl) rfl (TX3_findSwap_0 hr h_s h_l q_l hm_course k)

theorem TX3_findSwap_82 {g : xGT} {d : Nat} {i4 i5 i6 i7 : Int32} {u : xU} {w : xW} {r : xQ} {P : xPost}
    (k : (i4 < i7 → P none u w r) ∧ (¬ (i4 < i7) → xCall g d mJ6_bitCount_0f7a4 [.int i7] 698 u w r 698 (fun rv10 u10 w10 r10 => ∃ v10 : Int32, rv10 = some (.int v10) ∧ u = u10 ∧ w = w10 ∧ r = r10 ∧ (i5 < v10 → xEv g (d + 1) mX3_findSwap 122 [some (.ref 79), none, none, none, some (.int i4), some (.int i5), some (.int i6), some (.int i7), some (.int (i4 &&& (i7 ^^^ (-1 : Int32)))), none, none] [] 698 u w r 698 P) ∧ (¬ (i5 < v10) → xCall g d mJ6_bitCount_0f7a4 [.int (i4 &&& (i7 ^^^ (-1 : Int32)))] 698 u w r 698 (fun rv13 u13 w13 r13 => ∃ v13 : Int32, rv13 = some (.int v13) ∧ u = u13 ∧ w = w13 ∧ r = r13 ∧ (i6 < v13 → xEv g (d + 1) mX3_findSwap 122 [some (.ref 79), none, none, none, some (.int i4), some (.int i5), some (.int i6), some (.int i7), some (.int (i4 &&& (i7 ^^^ (-1 : Int32)))), none, none] [] 698 u w r 698 P) ∧ (¬ (i6 < v13) → xEv g (d + 1) mX3_findSwap 123 [some (.ref 79), none, none, none, some (.int i4), some (.int i5), some (.int i6), some (.int i7), some (.int (i4 &&& (i7 ^^^ (-1 : Int32)))), none, none] [.int (1 : Int32)] 698 u w r 698 P)))))) :
    xEv g (d + 1) mX3_findSwap 82 [some (.ref 79), none, none, none, some (.int i4), some (.int i5), some (.int i6), some (.int i7), none, none, none] [] 698 u w r 698 P := by
  refine xe_iload dX3_findSwap_82 rfl ?_
  refine xe_iload dX3_findSwap_84 rfl ?_
  refine xe_icmp_gt (tgt := 198) dX3_findSwap_86 rfl (fun c8 => ?_) (fun c9 => ?_)
  · have k := k.1 c8
    exact xe_return dX3_findSwap_198 trivial k
  · have k := k.2 (fun q => (c9 q))
    refine xe_iload dX3_findSwap_89 rfl ?_
    refine xe_iload dX3_findSwap_91 rfl ?_
    refine xe_iconst (v := -1) dX3_findSwap_93 rfl ?_
    refine xe_ixor dX3_findSwap_94 ?_
    refine xe_iand dX3_findSwap_95 ?_
    refine xe_istore (ls' := [some (.ref 79), none, none, none, some (.int i4), some (.int i5), some (.int i6), some (.int i7), some (.int (i4 &&& (i7 ^^^ (-1 : Int32)))), none, none]) dX3_findSwap_96 (by decide) rfl ?_
    refine xe_iload dX3_findSwap_98 rfl ?_
    refine xe_callS (args := [.int i7]) dX3_findSwap_100 slX3_134 rfl rfl (Nat.le_of_ble_eq_true rfl) k (Nat.le_refl _) (fun rv10 u10 w10 r10 k => ?_)
    obtain ⟨v10, rfl, rfl, rfl, rfl, k⟩ := k
    refine xe_iload dX3_findSwap_103 rfl ?_
    refine xe_icmp_gt (tgt := 122) dX3_findSwap_105 rfl (fun c11 => ?_) (fun c12 => ?_)
    · have k := k.1 c11
      exact k
    · have k := k.2 (fun q => (c12 q))
      refine xe_iload dX3_findSwap_108 rfl ?_
      refine xe_callS (args := [.int (i4 &&& (i7 ^^^ (-1 : Int32)))]) dX3_findSwap_110 slX3_134 rfl rfl (Nat.le_of_ble_eq_true rfl) k (Nat.le_refl _) (fun rv13 u13 w13 r13 k => ?_)
      obtain ⟨v13, rfl, rfl, rfl, rfl, k⟩ := k
      refine xe_iload dX3_findSwap_113 rfl ?_
      refine xe_icmp_gt (tgt := 122) dX3_findSwap_115 rfl (fun c14 => ?_) (fun c15 => ?_)
      · have k := k.1 c14
        exact k
      · have k := k.2 (fun q => (c15 q))
        refine xe_iconst (v := 1) dX3_findSwap_118 rfl ?_
        refine xe_goto (tgt := 123) dX3_findSwap_119 rfl ?_
        exact k

theorem TX3_findSwap_122 {g : xGT} {d : Nat} {i4 i5 i6 i7 i8 : Int32} {u : xU} {w : xW} {r : xQ} {P : xPost}
    (k : xEv g (d + 1) mX3_findSwap 123 [some (.ref 79), none, none, none, some (.int i4), some (.int i5), some (.int i6), some (.int i7), some (.int i8), none, none] [.int (0 : Int32)] 698 u w r 698 P) :
    xEv g (d + 1) mX3_findSwap 122 [some (.ref 79), none, none, none, some (.int i4), some (.int i5), some (.int i6), some (.int i7), some (.int i8), none, none] [] 698 u w r 698 P := by
  refine xe_iconst (v := 0) dX3_findSwap_122 rfl ?_
  exact k

theorem TX3_findSwap_123 {g : xGT} {d : Nat} {i4 i5 i6 i7 i8 z0 : Int32} {u : xU} {w : xW} {r : xQ} {P : xPost} (hr : xRf r)
    (k : (((i7 &&& (i4 ^^^ (-1 : Int32))) = 0 ∧ ¬ (z0 = 0)) → xCall g d mX3_sum [.ref (103 + 0), .int i7] 698 u w r 698 (fun rv20 u20 w20 r20 => ∃ v20 : Int32, rv20 = some (.int v20) ∧ u = u20 ∧ w = w20 ∧ r = r20 ∧ xCall g d mX3_sum [.ref (103 + 1), .int i8] 698 u w r 698 (fun rv21 u21 w21 r21 => ∃ v21 : Int32, rv21 = some (.int v21) ∧ u = u21 ∧ w = w21 ∧ r = r21 ∧ ((v20 + v21) ≤ (u 79 11) → xEv g (d + 1) mX3_findSwap 192 [some (.ref 79), none, none, none, some (.int i4), some (.int i5), some (.int i6), some (.int i7), none, none, none] [] 698 u w r 698 P) ∧ (¬ ((v20 + v21) ≤ (u 79 11)) → xEv g (d + 1) mX3_findSwap 192 [some (.ref 79), none, none, none, some (.int i4), some (.int i5), some (.int i6), some (.int i7), none, none, none] [] 698 (x2 (x2 (x2 u 79 11 (v20 + v21)) 79 12 i7) 79 13 i8) w r 698 P)))) ∧ (¬ ((i7 &&& (i4 ^^^ (-1 : Int32))) = 0 ∧ ¬ (z0 = 0)) → xEv g (d + 1) mX3_findSwap 192 [some (.ref 79), none, none, none, some (.int i4), some (.int i5), some (.int i6), some (.int i7), none, none, none] [] 698 u w r 698 P)) :
    xEv g (d + 1) mX3_findSwap 123 [some (.ref 79), none, none, none, some (.int i4), some (.int i5), some (.int i6), some (.int i7), some (.int i8), none, none] [.int z0] 698 u w r 698 P := by
  refine xe_istore (ls' := [some (.ref 79), none, none, none, some (.int i4), some (.int i5), some (.int i6), some (.int i7), some (.int i8), some (.int z0), none]) dX3_findSwap_123 (by decide) rfl ?_
  refine xe_iload dX3_findSwap_125 rfl ?_
  refine xe_iload dX3_findSwap_127 rfl ?_
  refine xe_iconst (v := -1) dX3_findSwap_129 rfl ?_
  refine xe_ixor dX3_findSwap_130 ?_
  refine xe_iand dX3_findSwap_131 ?_
  have K24 : ¬ ((i7 &&& (i4 ^^^ (-1 : Int32))) = 0 ∧ ¬ (z0 = 0)) → xEv g (d + 1) mX3_findSwap 192 [some (.ref 79), none, none, none, some (.int i4), some (.int i5), some (.int i6), some (.int i7), some (.int i8), some (.int z0), none] [] 698 u w r 698 P := fun c25 => by
    have k := k.2 c25
    exact xEv.fewer (ls' := [some (.ref 79), none, none, none, some (.int i4), some (.int i5), some (.int i6), some (.int i7), none, none, none]) k (xfw_get (xfw_s (xfw_n (xfw_n (xfw_n (xfw_s (xfw_s (xfw_s (xfw_s (xfw_n (xfw_n (xfw_n (xfw_nil _)))))))))))))
  refine xe_if_ne (tgt := 192) dX3_findSwap_132 rfl (fun c16 => ?_) (fun c17 => ?_)
  · exact K24 (fun q => (c16 q.1))
  · refine xe_iload dX3_findSwap_135 rfl ?_
    refine xe_if_eq (tgt := 192) dX3_findSwap_137 rfl (fun c18 => ?_) (fun c19 => ?_)
    · exact K24 (fun q => (q.2 c18))
    · have k := k.1 ⟨c17, c19⟩
      refine xe_aload_n dX3_findSwap_140 rfl ?_
      refine xe_getR (b := 102) dX3_findSwap_141 flX3_33 kk79 (xKK_lt kk79) rfl (rf79_10 hr) ?_
      refine xe_iconst (v := 0) dX3_findSwap_144 rfl ?_
      refine xe_aald dX3_findSwap_145 kk102 (xKK_lt kk102) (by simp) (show ¬ ((0 : Int32) < 0 ∨ 2 ≤ (0 : Int32).toNatClampNeg) from by decide) (rr102 hr (show ¬ ((0 : Int32) < 0 ∨ 2 ≤ (0 : Int32).toNatClampNeg) from by decide)) ?_
      refine xe_iload dX3_findSwap_146 rfl ?_
      refine xe_callS (args := [.ref (103 + 0), .int i7]) dX3_findSwap_148 slX3_139 rfl rfl (Nat.le_of_ble_eq_true rfl) k (Nat.le_refl _) (fun rv20 u20 w20 r20 k => ?_)
      obtain ⟨v20, rfl, rfl, rfl, rfl, k⟩ := k
      refine xe_aload_n dX3_findSwap_151 rfl ?_
      refine xe_getR (b := 102) dX3_findSwap_152 flX3_33 kk79 (xKK_lt kk79) rfl (rf79_10 hr) ?_
      refine xe_iconst (v := 1) dX3_findSwap_155 rfl ?_
      refine xe_aald dX3_findSwap_156 kk102 (xKK_lt kk102) (by simp) (show ¬ ((1 : Int32) < 0 ∨ 2 ≤ (1 : Int32).toNatClampNeg) from by decide) (rr102 hr (show ¬ ((1 : Int32) < 0 ∨ 2 ≤ (1 : Int32).toNatClampNeg) from by decide)) ?_
      refine xe_iload dX3_findSwap_157 rfl ?_
      refine xe_callS (args := [.ref (103 + 1), .int i8]) dX3_findSwap_159 slX3_139 rfl rfl (Nat.le_of_ble_eq_true rfl) k (Nat.le_refl _) (fun rv21 u21 w21 r21 k => ?_)
      obtain ⟨v21, rfl, rfl, rfl, rfl, k⟩ := k
      refine xe_iadd dX3_findSwap_162 ?_
      refine xe_istore (ls' := [some (.ref 79), none, none, none, some (.int i4), some (.int i5), some (.int i6), some (.int i7), some (.int i8), some (.int z0), some (.int (v20 + v21))]) dX3_findSwap_163 (by decide) rfl ?_
      refine xe_iload dX3_findSwap_165 rfl ?_
      refine xe_aload_n dX3_findSwap_167 rfl ?_
      refine xe_getI dX3_findSwap_168 flX3_131 kk79 (xKK_lt kk79) rfl ?_
      refine xe_icmp_le (tgt := 192) dX3_findSwap_171 rfl (fun c22 => ?_) (fun c23 => ?_)
      · have k := k.1 c22
        exact xEv.fewer (ls' := [some (.ref 79), none, none, none, some (.int i4), some (.int i5), some (.int i6), some (.int i7), none, none, none]) k (xfw_get (xfw_s (xfw_n (xfw_n (xfw_n (xfw_s (xfw_s (xfw_s (xfw_s (xfw_n (xfw_n (xfw_n (xfw_nil _)))))))))))))
      · have k := k.2 (fun q => (c23 q))
        refine xe_aload_n dX3_findSwap_174 rfl ?_
        refine xe_iload dX3_findSwap_175 rfl ?_
        refine xe_putI dX3_findSwap_177 flX3_131 kk79 (xKK_lt kk79) nf3_11 rfl ?_
        refine xe_aload_n dX3_findSwap_180 rfl ?_
        refine xe_iload dX3_findSwap_181 rfl ?_
        refine xe_putI dX3_findSwap_183 flX3_142 kk79 (xKK_lt kk79) nf3_12 rfl ?_
        refine xe_aload_n dX3_findSwap_186 rfl ?_
        refine xe_iload dX3_findSwap_187 rfl ?_
        refine xe_putI dX3_findSwap_189 flX3_145 kk79 (xKK_lt kk79) nf3_13 rfl ?_
        exact xEv.fewer (ls' := [some (.ref 79), none, none, none, some (.int i4), some (.int i5), some (.int i6), some (.int i7), none, none, none]) k (xfw_get (xfw_s (xfw_n (xfw_n (xfw_n (xfw_s (xfw_s (xfw_s (xfw_s (xfw_n (xfw_n (xfw_n (xfw_nil _)))))))))))))

theorem TX3_findSwap_192 {g : xGT} {d : Nat} {i4 i5 i6 i7 : Int32} {u : xU} {w : xW} {r : xQ} {P : xPost}
    (k : xEv g (d + 1) mX3_findSwap 82 [some (.ref 79), none, none, none, some (.int i4), some (.int i5), some (.int i6), some (.int (i7 + (1 : Int32))), none, none, none] [] 698 u w r 698 P) :
    xEv g (d + 1) mX3_findSwap 192 [some (.ref 79), none, none, none, some (.int i4), some (.int i5), some (.int i6), some (.int i7), none, none, none] [] 698 u w r 698 P := by
  refine xe_iinc (v := (i7 + (1 : Int32))) (ls' := [some (.ref 79), none, none, none, some (.int i4), some (.int i5), some (.int i6), some (.int (i7 + (1 : Int32))), none, none, none]) dX3_findSwap_192 rfl (by decide) rfl rfl ?_
  refine xe_goto (tgt := 82) dX3_findSwap_195 rfl ?_
  exact k

/-! Look.noteBier -/

theorem TX3_noteBier_0 {g : xGT} {d : Nat} {i1 : Int32} {u : xU} {w : xW} {r : xQ} {P : xPost} (hr : xRf r)
    (k : xCall g d mX11_isOneOf [.int (u 79 4), .int (300 : Int32)] 698 u w r 698 (fun rv1 u1 w1 r1 => ∃ v1 : Int32, rv1 = some (.int v1) ∧ u = u1 ∧ w = w1 ∧ r = r1 ∧ (v1 = 0 → P none u w r) ∧ (¬ (v1 = 0) → xCall g d mX11_isOneOf [.int i1, .int (6 : Int32)] 698 u w r 698 (fun rv4 u4 w4 r4 => ∃ v4 : Int32, rv4 = some (.int v4) ∧ u = u4 ∧ w = w4 ∧ r = r4 ∧ (v4 = 0 → P none u w r) ∧ (¬ (v4 = 0) → vp_in (u 79 4) 300 ∧ (P none (x2 (x2 (x2 u 93 (u 79 4).toNatClampNeg i1) 79 4 ((u 79 4) + (1 : Int32))) 79 5 ((u 79 5) ||| ((1 : Int32) <<< (i1 &&& 31)))) w r)))))) :
    xEv g (d + 1) mX3_noteBier 0 [some (.ref 79), some (.int i1)] [] 698 u w r 698 P := by
  refine xe_aload_n dX3_noteBier_0 rfl ?_
  refine xe_getI dX3_noteBier_1 flX3_62 kk79 (xKK_lt kk79) rfl ?_
  refine xe_aload_n dX3_noteBier_4 rfl ?_
  refine xe_getR (b := 93) dX3_noteBier_5 flX3_22 kk79 (xKK_lt kk79) rfl (rf79_3 hr) ?_
  refine xe_alen (v := (300 : Int32)) dX3_noteBier_8 kk93 (xKK_lt kk93) (by simp) rfl ?_
  refine xe_callSN (args := [.int (u 79 4), .int (300 : Int32)]) dX3_noteBier_9 snX3_97 rfl rfl (Nat.le_of_ble_eq_true rfl) k (Nat.le_refl _) (fun rv1 u1 w1 r1 k => ?_)
  obtain ⟨v1, rfl, rfl, rfl, rfl, k⟩ := k
  refine xe_if_eq (tgt := 56) dX3_noteBier_12 rfl (fun c2 => ?_) (fun c3 => ?_)
  · have k := k.1 c2
    exact xe_return dX3_noteBier_56 trivial k
  · have k := k.2 (fun q => (c3 q))
    refine xe_iload_n dX3_noteBier_15 rfl ?_
    refine xe_bipush (v := 6) dX3_noteBier_16 rfl ?_
    refine xe_callSN (args := [.int i1, .int (6 : Int32)]) dX3_noteBier_18 snX3_97 rfl rfl (Nat.le_of_ble_eq_true rfl) k (Nat.le_refl _) (fun rv4 u4 w4 r4 k => ?_)
    obtain ⟨v4, rfl, rfl, rfl, rfl, k⟩ := k
    refine xe_if_eq (tgt := 56) dX3_noteBier_21 rfl (fun c5 => ?_) (fun c6 => ?_)
    · have k := k.1 c5
      exact xe_return dX3_noteBier_56 trivial k
    · have k := k.2 (fun q => (c6 q))
      refine xe_aload_n dX3_noteBier_24 rfl ?_
      refine xe_getR (b := 93) dX3_noteBier_25 flX3_22 kk79 (xKK_lt kk79) rfl (rf79_3 hr) ?_
      refine xe_aload_n dX3_noteBier_28 rfl ?_
      refine xe_getI dX3_noteBier_29 flX3_62 kk79 (xKK_lt kk79) rfl ?_
      refine xe_iload_n dX3_noteBier_32 rfl ?_
      obtain ⟨b7, k⟩ := k
      refine xe_iast dX3_noteBier_33 kk93 (xKK_lt kk93) b7 ?_
      refine xe_aload_n dX3_noteBier_34 rfl ?_
      refine xe_dup dX3_noteBier_35 rfl ?_
      refine xe_getI dX3_noteBier_36 flX3_62 kk79 (xKK_lt kk79) rfl ?_
      refine xe_iconst (v := 1) dX3_noteBier_39 rfl ?_
      refine xe_iadd dX3_noteBier_40 ?_
      refine xe_putI dX3_noteBier_41 flX3_62 kk79 (xKK_lt kk79) nf3_4 rfl ?_
      refine xe_aload_n dX3_noteBier_44 rfl ?_
      refine xe_dup dX3_noteBier_45 rfl ?_
      refine xe_getI dX3_noteBier_46 flX3_65 kk79 (xKK_lt kk79) rfl ?_
      refine xe_iconst (v := 1) dX3_noteBier_49 rfl ?_
      refine xe_iload_n dX3_noteBier_50 rfl ?_
      refine xe_ishl dX3_noteBier_51 ?_
      refine xe_ior dX3_noteBier_52 ?_
      refine xe_putI dX3_noteBier_53 flX3_65 kk79 (xKK_lt kk79) nf3_5 rfl ?_
      exact xe_return dX3_noteBier_56 trivial k

theorem CX3_noteBier {g : xGT} {d : Nat} {i1 : Int32} {u : xU} {w : xW} {r : xQ} {P : xPost} (hr : xRf r)
    (k : xCall g d mX11_isOneOf [.int (u 79 4), .int (300 : Int32)] 698 u w r 698 (fun rv1 u1 w1 r1 => ∃ v1 : Int32, rv1 = some (.int v1) ∧ u = u1 ∧ w = w1 ∧ r = r1 ∧ (v1 = 0 → P none u w r) ∧ (¬ (v1 = 0) → xCall g d mX11_isOneOf [.int i1, .int (6 : Int32)] 698 u w r 698 (fun rv4 u4 w4 r4 => ∃ v4 : Int32, rv4 = some (.int v4) ∧ u = u4 ∧ w = w4 ∧ r = r4 ∧ (v4 = 0 → P none u w r) ∧ (¬ (v4 = 0) → vp_in (u 79 4) 300 ∧ (P none (x2 (x2 (x2 u 93 (u 79 4).toNatClampNeg i1) 79 4 ((u 79 4) + (1 : Int32))) 79 5 ((u 79 5) ||| ((1 : Int32) <<< (i1 &&& 31)))) w r)))))) :
    xCall g (d + 1) mX3_noteBier [.ref 79, .int i1] 698 u w r 698 P :=
  xCall.of plX3 (Nat.le_of_ble_eq_true rfl) rfl (TX3_noteBier_0 hr k)

/-! Look.layDown -/

theorem TX3_layDown_0 {g : xGT} {d : Nat} {i1 : Int32} {u : xU} {w : xW} {r : xQ} {P : xPost}
    (k : xEv g (d + 1) mX3_layDown 2 [some (.ref 79), some (.int i1), some (.int (0 : Int32)), none, none, none] [] 698 u w r 698 P) :
    xEv g (d + 1) mX3_layDown 0 [some (.ref 79), some (.int i1), none, none, none, none] [] 698 u w r 698 P := by
  refine xe_iconst (v := 0) dX3_layDown_0 rfl ?_
  refine xe_istore_n (ls' := [some (.ref 79), some (.int i1), some (.int (0 : Int32)), none, none, none]) dX3_layDown_1 rfl (by decide) rfl ?_
  exact k

theorem CX3_layDown {g : xGT} {d : Nat} {i1 : Int32} {u : xU} {w : xW} {r : xQ} {P : xPost}
    (k : xEv g (d + 1) mX3_layDown 2 [some (.ref 79), some (.int i1), some (.int (0 : Int32)), none, none, none] [] 698 u w r 698 P) :
    xCall g (d + 1) mX3_layDown [.ref 79, .int i1] 698 u w r 698 P :=
  xCall.of plX3 (Nat.le_of_ble_eq_true rfl) rfl (TX3_layDown_0  k)

set_option maxRecDepth 20000 in
theorem TX3_layDown_2 {g : xGT} {d : Nat} {i1 i2 : Int32} {u : xU} {w : xW} {r : xQ} {P : xPost} (hr : xRf r)
    (k : ((6 : Int32) ≤ i2 → P none u w r) ∧ (¬ ((6 : Int32) ≤ i2) → vp_in i2 6 ∧ (((xb (((i1 >>> (i2 &&& 31)) &&& (1 : Int32)) = (1 : Int32) ∧ ¬ ((xb ((u (80 + 1) i2.toNatClampNeg) = (1 : Int32) ∨ (u (80 + 1) i2.toNatClampNeg) = (3 : Int32))) = 0))) = 0 → xEv g (d + 1) mX3_layDown 111 [some (.ref 79), some (.int i1), some (.int i2), none, none, none] [] 698 u w r 698 P) ∧ (¬ ((xb (((i1 >>> (i2 &&& 31)) &&& (1 : Int32)) = (1 : Int32) ∧ ¬ ((xb ((u (80 + 1) i2.toNatClampNeg) = (1 : Int32) ∨ (u (80 + 1) i2.toNatClampNeg) = (3 : Int32))) = 0))) = 0) → xCall g d mX11_isOneOf [.int (u (80 + 2) i2.toNatClampNeg), .int (7 : Int32)] 698 u w r 698 (fun rv14 u14 w14 r14 => ∃ v14 : Int32, rv14 = some (.int v14) ∧ u = u14 ∧ w = w14 ∧ r = r14 ∧ (¬ (v14 = 0) → vp_in (u (80 + 2) i2.toNatClampNeg) 7) ∧ (((¬ (v14 = 0) ∧ (u 92 (u (80 + 2) i2.toNatClampNeg).toNatClampNeg) = (-1 : Int32)) → vp_in (u (80 + 2) i2.toNatClampNeg) 7 ∧ (xEv g (d + 1) mX3_layDown 111 [some (.ref 79), some (.int i1), some (.int i2), none, none, none] [] 698 (x2 u 92 (u (80 + 2) i2.toNatClampNeg).toNatClampNeg (u 80 0)) w r 698 P)) ∧ (¬ (¬ (v14 = 0) ∧ (u 92 (u (80 + 2) i2.toNatClampNeg).toNatClampNeg) = (-1 : Int32)) → xEv g (d + 1) mX3_layDown 111 [some (.ref 79), some (.int i1), some (.int i2), none, none, none] [] 698 u w r 698 P))))))) :
    xEv g (d + 1) mX3_layDown 2 [some (.ref 79), some (.int i1), some (.int i2), none, none, none] [] 698 u w r 698 P := by
  refine xe_iload_n dX3_layDown_2 rfl ?_
  refine xe_bipush (v := 6) dX3_layDown_3 rfl ?_
  refine xe_icmp_ge (tgt := 117) dX3_layDown_5 rfl (fun c1 => ?_) (fun c2 => ?_)
  · have k := k.1 c1
    exact xe_return dX3_layDown_117 trivial k
  · have k := k.2 (fun q => (c2 q))
    refine xe_aload_n dX3_layDown_8 rfl ?_
    refine xe_getR (b := 80) dX3_layDown_9 flX3_12 kk79 (xKK_lt kk79) rfl (rf79_1 hr) ?_
    refine xe_getR (b := (80 + 1)) dX3_layDown_12 flX3_148 st80.k0 (xKK_lt st80.k0) rfl (sr80 hr).f3 ?_
    refine xe_iload_n dX3_layDown_15 rfl ?_
    obtain ⟨b3, k⟩ := k
    refine xe_iald dX3_layDown_16 st80.k1 (xKK_lt st80.k1) b3 ?_
    refine xe_iconst (v := 1) dX3_layDown_17 rfl ?_
    have K24 : xEv g (d + 1) mX3_layDown 39 [some (.ref 79), some (.int i1), some (.int i2), none, none, none] [.int (xb ((u (80 + 1) i2.toNatClampNeg) = (1 : Int32) ∨ (u (80 + 1) i2.toNatClampNeg) = (3 : Int32)))] 698 u w r 698 P := by
      refine xe_istore_n (ls' := [some (.ref 79), some (.int i1), some (.int i2), some (.int (xb ((u (80 + 1) i2.toNatClampNeg) = (1 : Int32) ∨ (u (80 + 1) i2.toNatClampNeg) = (3 : Int32)))), none, none]) dX3_layDown_39 rfl (by decide) rfl ?_
      refine xe_aload_n dX3_layDown_40 rfl ?_
      refine xe_getR (b := 80) dX3_layDown_41 flX3_12 kk79 (xKK_lt kk79) rfl (rf79_1 hr) ?_
      refine xe_getR (b := (80 + 2)) dX3_layDown_44 flX3_151 st80.k0 (xKK_lt st80.k0) rfl (sr80 hr).f4 ?_
      refine xe_iload_n dX3_layDown_47 rfl ?_
      refine xe_iald dX3_layDown_48 st80.k2 (xKK_lt st80.k2) b3 ?_
      refine xe_istore (ls' := [some (.ref 79), some (.int i1), some (.int i2), some (.int (xb ((u (80 + 1) i2.toNatClampNeg) = (1 : Int32) ∨ (u (80 + 1) i2.toNatClampNeg) = (3 : Int32)))), some (.int (u (80 + 2) i2.toNatClampNeg)), none]) dX3_layDown_49 (by decide) rfl ?_
      refine xe_iload_n dX3_layDown_51 rfl ?_
      refine xe_iload_n dX3_layDown_52 rfl ?_
      refine xe_ishr dX3_layDown_53 ?_
      refine xe_iconst (v := 1) dX3_layDown_54 rfl ?_
      refine xe_iand dX3_layDown_55 ?_
      refine xe_iconst (v := 1) dX3_layDown_56 rfl ?_
      have K23 : xEv g (d + 1) mX3_layDown 69 [some (.ref 79), some (.int i1), some (.int i2), some (.int (xb ((u (80 + 1) i2.toNatClampNeg) = (1 : Int32) ∨ (u (80 + 1) i2.toNatClampNeg) = (3 : Int32)))), some (.int (u (80 + 2) i2.toNatClampNeg)), none] [.int (xb (((i1 >>> (i2 &&& 31)) &&& (1 : Int32)) = (1 : Int32) ∧ ¬ ((xb ((u (80 + 1) i2.toNatClampNeg) = (1 : Int32) ∨ (u (80 + 1) i2.toNatClampNeg) = (3 : Int32))) = 0)))] 698 u w r 698 P := by
        refine xe_istore (ls' := [some (.ref 79), some (.int i1), some (.int i2), some (.int (xb ((u (80 + 1) i2.toNatClampNeg) = (1 : Int32) ∨ (u (80 + 1) i2.toNatClampNeg) = (3 : Int32)))), some (.int (u (80 + 2) i2.toNatClampNeg)), some (.int (xb (((i1 >>> (i2 &&& 31)) &&& (1 : Int32)) = (1 : Int32) ∧ ¬ ((xb ((u (80 + 1) i2.toNatClampNeg) = (1 : Int32) ∨ (u (80 + 1) i2.toNatClampNeg) = (3 : Int32))) = 0))))]) dX3_layDown_69 (by decide) rfl ?_
        refine xe_iload dX3_layDown_71 rfl ?_
        refine xe_if_eq (tgt := 111) dX3_layDown_73 rfl (fun c12 => ?_) (fun c13 => ?_)
        · have k := k.1 c12
          exact xEv.fewer (ls' := [some (.ref 79), some (.int i1), some (.int i2), none, none, none]) k (xfw_get (xfw_s (xfw_s (xfw_s (xfw_n (xfw_n (xfw_n (xfw_nil _))))))))
        · have k := k.2 (fun q => (c13 q))
          refine xe_iload dX3_layDown_76 rfl ?_
          refine xe_bipush (v := 7) dX3_layDown_78 rfl ?_
          refine xe_callSN (args := [.int (u (80 + 2) i2.toNatClampNeg), .int (7 : Int32)]) dX3_layDown_80 snX3_97 rfl rfl (Nat.le_of_ble_eq_true rfl) k (Nat.le_refl _) (fun rv14 u14 w14 r14 k => ?_)
          obtain ⟨v14, rfl, rfl, rfl, rfl, k⟩ := k
          obtain ⟨b17, k⟩ := k
          have K21 : ¬ (¬ (v14 = 0) ∧ (u 92 (u (80 + 2) i2.toNatClampNeg).toNatClampNeg) = (-1 : Int32)) → xEv g (d + 1) mX3_layDown 111 [some (.ref 79), some (.int i1), some (.int i2), some (.int (xb ((u (80 + 1) i2.toNatClampNeg) = (1 : Int32) ∨ (u (80 + 1) i2.toNatClampNeg) = (3 : Int32)))), some (.int (u (80 + 2) i2.toNatClampNeg)), some (.int (xb (((i1 >>> (i2 &&& 31)) &&& (1 : Int32)) = (1 : Int32) ∧ ¬ ((xb ((u (80 + 1) i2.toNatClampNeg) = (1 : Int32) ∨ (u (80 + 1) i2.toNatClampNeg) = (3 : Int32))) = 0))))] [] 698 u w r 698 P := fun c22 => by
            have k := k.2 c22
            exact xEv.fewer (ls' := [some (.ref 79), some (.int i1), some (.int i2), none, none, none]) k (xfw_get (xfw_s (xfw_s (xfw_s (xfw_n (xfw_n (xfw_n (xfw_nil _))))))))
          refine xe_if_eq (tgt := 111) dX3_layDown_83 rfl (fun c15 => ?_) (fun c16 => ?_)
          · exact K21 (fun q => (q.1 c15))
          · refine xe_aload_n dX3_layDown_86 rfl ?_
            refine xe_getR (b := 92) dX3_layDown_87 flX3_18 kk79 (xKK_lt kk79) rfl (rf79_2 hr) ?_
            refine xe_iload dX3_layDown_90 rfl ?_
            refine xe_iald dX3_layDown_92 kk92 (xKK_lt kk92) (b17 c16) ?_
            refine xe_iconst (v := -1) dX3_layDown_93 rfl ?_
            refine xe_icmp_ne (tgt := 111) dX3_layDown_94 rfl (fun c18 => ?_) (fun c19 => ?_)
            · exact K21 (fun q => (c18 q.2))
            · have k := k.1 ⟨c16, c19⟩
              refine xe_aload_n dX3_layDown_97 rfl ?_
              refine xe_getR (b := 92) dX3_layDown_98 flX3_18 kk79 (xKK_lt kk79) rfl (rf79_2 hr) ?_
              refine xe_iload dX3_layDown_101 rfl ?_
              refine xe_aload_n dX3_layDown_103 rfl ?_
              refine xe_getR (b := 80) dX3_layDown_104 flX3_12 kk79 (xKK_lt kk79) rfl (rf79_1 hr) ?_
              refine xe_getI dX3_layDown_107 flX3_44 st80.k0 (xKK_lt st80.k0) rfl ?_
              obtain ⟨b20, k⟩ := k
              refine xe_iast dX3_layDown_110 kk92 (xKK_lt kk92) b20 ?_
              exact xEv.fewer (ls' := [some (.ref 79), some (.int i1), some (.int i2), none, none, none]) k (xfw_get (xfw_s (xfw_s (xfw_s (xfw_n (xfw_n (xfw_n (xfw_nil _))))))))
      refine xe_icmp_ne (tgt := 68) dX3_layDown_57 rfl (fun c8 => ?_) (fun c9 => ?_)
      · refine xe_iconst (v := 0) dX3_layDown_68 rfl ?_
        exact xtop (xb_neg (show ¬ (((i1 >>> (i2 &&& 31)) &&& (1 : Int32)) = (1 : Int32) ∧ ¬ ((xb ((u (80 + 1) i2.toNatClampNeg) = (1 : Int32) ∨ (u (80 + 1) i2.toNatClampNeg) = (3 : Int32))) = 0)) from (fun q => (c8 q.1)))) K23
      · refine xe_iload_n dX3_layDown_60 rfl ?_
        refine xe_if_eq (tgt := 68) dX3_layDown_61 rfl (fun c10 => ?_) (fun c11 => ?_)
        · refine xe_iconst (v := 0) dX3_layDown_68 rfl ?_
          exact xtop (xb_neg (show ¬ (((i1 >>> (i2 &&& 31)) &&& (1 : Int32)) = (1 : Int32) ∧ ¬ ((xb ((u (80 + 1) i2.toNatClampNeg) = (1 : Int32) ∨ (u (80 + 1) i2.toNatClampNeg) = (3 : Int32))) = 0)) from (fun q => (q.2 c10)))) K23
        · refine xe_iconst (v := 1) dX3_layDown_64 rfl ?_
          refine xe_goto (tgt := 69) dX3_layDown_65 rfl ?_
          exact xtop (xb_pos (show (((i1 >>> (i2 &&& 31)) &&& (1 : Int32)) = (1 : Int32) ∧ ¬ ((xb ((u (80 + 1) i2.toNatClampNeg) = (1 : Int32) ∨ (u (80 + 1) i2.toNatClampNeg) = (3 : Int32))) = 0)) from ⟨c9, c11⟩)) K23
    refine xe_icmp_eq (tgt := 34) dX3_layDown_18 rfl (fun c4 => ?_) (fun c5 => ?_)
    · refine xe_iconst (v := 1) dX3_layDown_34 rfl ?_
      refine xe_goto (tgt := 39) dX3_layDown_35 rfl ?_
      exact xtop (xb_pos (show ((u (80 + 1) i2.toNatClampNeg) = (1 : Int32) ∨ (u (80 + 1) i2.toNatClampNeg) = (3 : Int32)) from (Or.inl c4))) K24
    · refine xe_aload_n dX3_layDown_21 rfl ?_
      refine xe_getR (b := 80) dX3_layDown_22 flX3_12 kk79 (xKK_lt kk79) rfl (rf79_1 hr) ?_
      refine xe_getR (b := (80 + 1)) dX3_layDown_25 flX3_148 st80.k0 (xKK_lt st80.k0) rfl (sr80 hr).f3 ?_
      refine xe_iload_n dX3_layDown_28 rfl ?_
      refine xe_iald dX3_layDown_29 st80.k1 (xKK_lt st80.k1) b3 ?_
      refine xe_iconst (v := 3) dX3_layDown_30 rfl ?_
      refine xe_icmp_ne (tgt := 38) dX3_layDown_31 rfl (fun c6 => ?_) (fun c7 => ?_)
      · refine xe_iconst (v := 0) dX3_layDown_38 rfl ?_
        exact xtop (xb_neg (show ¬ ((u (80 + 1) i2.toNatClampNeg) = (1 : Int32) ∨ (u (80 + 1) i2.toNatClampNeg) = (3 : Int32)) from (fun q => (q.elim (fun z => (c5 z)) (fun z => (c6 z)))))) K24
      · refine xe_iconst (v := 1) dX3_layDown_34 rfl ?_
        refine xe_goto (tgt := 39) dX3_layDown_35 rfl ?_
        exact xtop (xb_pos (show ((u (80 + 1) i2.toNatClampNeg) = (1 : Int32) ∨ (u (80 + 1) i2.toNatClampNeg) = (3 : Int32)) from (Or.inr c7))) K24

theorem TX3_layDown_111 {g : xGT} {d : Nat} {i1 i2 : Int32} {u : xU} {w : xW} {r : xQ} {P : xPost}
    (k : xEv g (d + 1) mX3_layDown 2 [some (.ref 79), some (.int i1), some (.int (i2 + (1 : Int32))), none, none, none] [] 698 u w r 698 P) :
    xEv g (d + 1) mX3_layDown 111 [some (.ref 79), some (.int i1), some (.int i2), none, none, none] [] 698 u w r 698 P := by
  refine xe_iinc (v := (i2 + (1 : Int32))) (ls' := [some (.ref 79), some (.int i1), some (.int (i2 + (1 : Int32))), none, none, none]) dX3_layDown_111 rfl (by decide) rfl rfl ?_
  refine xe_goto (tgt := 2) dX3_layDown_114 rfl ?_
  exact k

/-! Look.takeUp -/

theorem TX3_takeUp_0 {g : xGT} {d : Nat} {u : xU} {w : xW} {r : xQ} {P : xPost}
    (k : xEv g (d + 1) mX3_takeUp 4 [some (.ref 79), some (.int (0 : Int32)), some (.int (0 : Int32))] [] 698 u w r 698 P) :
    xEv g (d + 1) mX3_takeUp 0 [some (.ref 79), none, none] [] 698 u w r 698 P := by
  refine xe_iconst (v := 0) dX3_takeUp_0 rfl ?_
  refine xe_istore_n (ls' := [some (.ref 79), some (.int (0 : Int32)), none]) dX3_takeUp_1 rfl (by decide) rfl ?_
  refine xe_iconst (v := 0) dX3_takeUp_2 rfl ?_
  refine xe_istore_n (ls' := [some (.ref 79), some (.int (0 : Int32)), some (.int (0 : Int32))]) dX3_takeUp_3 rfl (by decide) rfl ?_
  exact k

theorem CX3_takeUp {g : xGT} {d : Nat} {u : xU} {w : xW} {r : xQ} {P : xPost}
    (k : xEv g (d + 1) mX3_takeUp 4 [some (.ref 79), some (.int (0 : Int32)), some (.int (0 : Int32))] [] 698 u w r 698 P) :
    xCall g (d + 1) mX3_takeUp [.ref 79] 698 u w r 698 P :=
  xCall.of plX3 (Nat.le_of_ble_eq_true rfl) rfl (TX3_takeUp_0  k)

theorem TX3_takeUp_4 {g : xGT} {d : Nat} {i1 i2 : Int32} {u : xU} {w : xW} {r : xQ} {P : xPost} (hr : xRf r)
    (k : ((6 : Int32) ≤ i2 → P (some (.int i1)) u w r) ∧ (¬ ((6 : Int32) ≤ i2) → xCall g d mX9_standsIn [.ref 80, .int i2] 698 u w r 698 (fun rv3 u3 w3 r3 => ∃ v3 : Int32, rv3 = some (.int v3) ∧ u = u3 ∧ w = w3 ∧ r = r3 ∧ xCall g d mX11_cell [.ref 92, .int v3] 698 u w r 698 (fun rv4 u4 w4 r4 => ∃ v4 : Int32, rv4 = some (.int v4) ∧ u = u4 ∧ w = w4 ∧ r = r4 ∧ (v4 = (-1 : Int32) → xEv g (d + 1) mX3_takeUp 35 [some (.ref 79), some (.int i1), some (.int i2)] [] 698 u w r 698 P) ∧ (¬ (v4 = (-1 : Int32)) → xEv g (d + 1) mX3_takeUp 35 [some (.ref 79), some (.int (i1 ||| ((1 : Int32) <<< (i2 &&& 31)))), some (.int i2)] [] 698 u w r 698 P))))) :
    xEv g (d + 1) mX3_takeUp 4 [some (.ref 79), some (.int i1), some (.int i2)] [] 698 u w r 698 P := by
  refine xe_iload_n dX3_takeUp_4 rfl ?_
  refine xe_bipush (v := 6) dX3_takeUp_5 rfl ?_
  refine xe_icmp_ge (tgt := 41) dX3_takeUp_7 rfl (fun c1 => ?_) (fun c2 => ?_)
  · have k := k.1 c1
    refine xe_iload_n dX3_takeUp_41 rfl ?_
    exact xe_ireturn dX3_takeUp_42 rfl k
  · have k := k.2 (fun q => (c2 q))
    refine xe_aload_n dX3_takeUp_10 rfl ?_
    refine xe_getR (b := 92) dX3_takeUp_11 flX3_18 kk79 (xKK_lt kk79) rfl (rf79_2 hr) ?_
    refine xe_aload_n dX3_takeUp_14 rfl ?_
    refine xe_getR (b := 80) dX3_takeUp_15 flX3_12 kk79 (xKK_lt kk79) rfl (rf79_1 hr) ?_
    refine xe_iload_n dX3_takeUp_18 rfl ?_
    refine xe_callV (args := [.int i2]) dX3_takeUp_19 vlX3_84 rfl rfl (Nat.le_of_ble_eq_true rfl) st80.k0 (xKK_lt st80.k0) rfl rfl k (Nat.le_refl _) (fun rv3 u3 w3 r3 k => ?_)
    obtain ⟨v3, rfl, rfl, rfl, rfl, k⟩ := k
    refine xe_callSN (args := [.ref 92, .int v3]) dX3_takeUp_22 snX3_127 rfl rfl (Nat.le_of_ble_eq_true rfl) k (Nat.le_refl _) (fun rv4 u4 w4 r4 k => ?_)
    obtain ⟨v4, rfl, rfl, rfl, rfl, k⟩ := k
    refine xe_iconst (v := -1) dX3_takeUp_25 rfl ?_
    refine xe_icmp_eq (tgt := 35) dX3_takeUp_26 rfl (fun c5 => ?_) (fun c6 => ?_)
    · have k := k.1 c5
      exact k
    · have k := k.2 (fun q => (c6 q))
      refine xe_iload_n dX3_takeUp_29 rfl ?_
      refine xe_iconst (v := 1) dX3_takeUp_30 rfl ?_
      refine xe_iload_n dX3_takeUp_31 rfl ?_
      refine xe_ishl dX3_takeUp_32 ?_
      refine xe_ior dX3_takeUp_33 ?_
      refine xe_istore_n (ls' := [some (.ref 79), some (.int (i1 ||| ((1 : Int32) <<< (i2 &&& 31)))), some (.int i2)]) dX3_takeUp_34 rfl (by decide) rfl ?_
      exact k

theorem TX3_takeUp_35 {g : xGT} {d : Nat} {i1 i2 : Int32} {u : xU} {w : xW} {r : xQ} {P : xPost}
    (k : xEv g (d + 1) mX3_takeUp 4 [some (.ref 79), some (.int i1), some (.int (i2 + (1 : Int32)))] [] 698 u w r 698 P) :
    xEv g (d + 1) mX3_takeUp 35 [some (.ref 79), some (.int i1), some (.int i2)] [] 698 u w r 698 P := by
  refine xe_iinc (v := (i2 + (1 : Int32))) (ls' := [some (.ref 79), some (.int i1), some (.int (i2 + (1 : Int32)))]) dX3_takeUp_35 rfl (by decide) rfl rfl ?_
  refine xe_goto (tgt := 4) dX3_takeUp_38 rfl ?_
  exact k

/-! Look.watch -/

theorem TX3_watch_0 {g : xGT} {d : Nat} {s : Nat} {u : xU} {w : xW} {r : xQ} {P : xPost}
    (k : xEv g (d + 1) mX3_watch 2 [some (.ref 79), some (.ref s), some (.int (0 : Int32)), none] [] 698 u w r 698 P) :
    xEv g (d + 1) mX3_watch 0 [some (.ref 79), some (.ref s), none, none] [] 698 u w r 698 P := by
  refine xe_iconst (v := 0) dX3_watch_0 rfl ?_
  refine xe_istore_n (ls' := [some (.ref 79), some (.ref s), some (.int (0 : Int32)), none]) dX3_watch_1 rfl (by decide) rfl ?_
  exact k

theorem CX3_watch {g : xGT} {d : Nat} {s : Nat} {u : xU} {w : xW} {r : xQ} {P : xPost}
    (k : xEv g (d + 1) mX3_watch 2 [some (.ref 79), some (.ref s), some (.int (0 : Int32)), none] [] 698 u w r 698 P) :
    xCall g (d + 1) mX3_watch [.ref 79, .ref s] 698 u w r 698 P :=
  xCall.of plX3 (Nat.le_of_ble_eq_true rfl) rfl (TX3_watch_0  k)

theorem TX3_watch_2 {g : xGT} {d : Nat} {i2 : Int32} {s : Nat} {u : xU} {w : xW} {r : xQ} {P : xPost} (hr : xRf r)
    (k : ((6 : Int32) ≤ i2 → xCall g d mX9_copyFrom [.ref 80, .ref s] 698 u w r 698 (fun rv3 u3 w3 r3 => rv3 = none ∧ w = w3 ∧ r = r3 ∧ xEv g (d + 1) mX3_watch 47 [some (.ref 79), none, some (.int (0 : Int32)), none] [] 698 u3 w r 698 P)) ∧ (¬ ((6 : Int32) ≤ i2) → xEv g (d + 1) mX3_watch 10 [some (.ref 79), some (.ref s), some (.int i2), some (.int (0 : Int32))] [] 698 u w r 698 P)) :
    xEv g (d + 1) mX3_watch 2 [some (.ref 79), some (.ref s), some (.int i2), none] [] 698 u w r 698 P := by
  refine xe_iload_n dX3_watch_2 rfl ?_
  refine xe_bipush (v := 6) dX3_watch_3 rfl ?_
  refine xe_icmp_ge (tgt := 37) dX3_watch_5 rfl (fun c1 => ?_) (fun c2 => ?_)
  · have k := k.1 c1
    refine xe_aload_n dX3_watch_37 rfl ?_
    refine xe_getR (b := 80) dX3_watch_38 flX3_12 kk79 (xKK_lt kk79) rfl (rf79_1 hr) ?_
    refine xe_aload_n dX3_watch_41 rfl ?_
    refine xe_callV (args := [.ref s]) dX3_watch_42 vlX3_40 rfl rfl (Nat.le_of_ble_eq_true rfl) st80.k0 (xKK_lt st80.k0) rfl rfl k (Nat.le_refl _) (fun rv3 u3 w3 r3 k => ?_)
    obtain ⟨rfl, rfl, rfl, k⟩ := k
    refine xe_iconst (v := 0) dX3_watch_45 rfl ?_
    refine xe_istore_n (ls' := [some (.ref 79), some (.ref s), some (.int (0 : Int32)), none]) dX3_watch_46 rfl (by decide) rfl ?_
    exact xEv.fewer (ls' := [some (.ref 79), none, some (.int (0 : Int32)), none]) k (xfw_get (xfw_s (xfw_n (xfw_s (xfw_n (xfw_nil _))))))
  · have k := k.2 (fun q => (c2 q))
    refine xe_iconst (v := 0) dX3_watch_8 rfl ?_
    refine xe_istore_n (ls' := [some (.ref 79), some (.ref s), some (.int i2), some (.int (0 : Int32))]) dX3_watch_9 rfl (by decide) rfl ?_
    exact k

theorem TX3_watch_47 {g : xGT} {d : Nat} {i2 : Int32} {u : xU} {w : xW} {r : xQ} {P : xPost} (hr : xRf r)
    (k : ((¬ ((300 : Int32) ≤ i2) ∧ ¬ ((300 : Int32) ≤ (u 80 0))) → xCall g d mX0_arrive [.ref 52, .ref 80] 698 u w r 698 (fun rv8 u8 w8 r8 => rv8 = none ∧ w = w8 ∧ r = r8 ∧ xCall g d mX3_noteStanding [.ref 79] 698 u8 w r 698 (fun rv9 u9 w9 r9 => rv9 = none ∧ w = w9 ∧ r = r9 ∧ xCall g d mX0_depart [.ref 52, .ref 80] 698 u9 w r 698 (fun rv10 u10 w10 r10 => rv10 = none ∧ w = w10 ∧ r = r10 ∧ xCall g d mX0_isStill [.ref 52, .ref 80] 698 u10 w r 698 (fun rv11 u11 w11 r11 => ∃ v11 : Int32, rv11 = some (.int v11) ∧ u10 = u11 ∧ w = w11 ∧ r = r11 ∧ (v11 = 0 → xEv g (d + 1) mX3_watch 47 [some (.ref 79), none, some (.int (i2 + (1 : Int32))), none] [] 698 u10 w r 698 P) ∧ (¬ (v11 = 0) → P none u10 w r)))))) ∧ (¬ (¬ ((300 : Int32) ≤ i2) ∧ ¬ ((300 : Int32) ≤ (u 80 0))) → P none u w r)) :
    xEv g (d + 1) mX3_watch 47 [some (.ref 79), none, some (.int i2), none] [] 698 u w r 698 P := by
  refine xe_iload_n dX3_watch_47 rfl ?_
  refine xe_sipush (v := 300) dX3_watch_48 rfl ?_
  have K14 : ¬ (¬ ((300 : Int32) ≤ i2) ∧ ¬ ((300 : Int32) ≤ (u 80 0))) → xEv g (d + 1) mX3_watch 116 [some (.ref 79), none, some (.int i2), none] [] 698 u w r 698 P := fun c15 => by
    have k := k.2 c15
    exact xe_return dX3_watch_116 trivial k
  refine xe_icmp_ge (tgt := 116) dX3_watch_51 rfl (fun c4 => ?_) (fun c5 => ?_)
  · exact K14 (fun q => (q.1 c4))
  · refine xe_aload_n dX3_watch_54 rfl ?_
    refine xe_getR (b := 80) dX3_watch_55 flX3_12 kk79 (xKK_lt kk79) rfl (rf79_1 hr) ?_
    refine xe_getI dX3_watch_58 flX3_44 st80.k0 (xKK_lt st80.k0) rfl ?_
    refine xe_sipush (v := 300) dX3_watch_61 rfl ?_
    refine xe_icmp_ge (tgt := 116) dX3_watch_64 rfl (fun c6 => ?_) (fun c7 => ?_)
    · exact K14 (fun q => (q.2 c6))
    · have k := k.1 ⟨c5, c7⟩
      refine xe_aload_n dX3_watch_67 rfl ?_
      refine xe_getR (b := 52) dX3_watch_68 flX3_36 kk79 (xKK_lt kk79) rfl (rf79_0 hr) ?_
      refine xe_aload_n dX3_watch_71 rfl ?_
      refine xe_getR (b := 80) dX3_watch_72 flX3_12 kk79 (xKK_lt kk79) rfl (rf79_1 hr) ?_
      refine xe_callV (args := [.ref 80]) dX3_watch_75 vlX3_81 rfl rfl (Nat.le_of_ble_eq_true rfl) kk52 (xKK_lt kk52) rfl rfl k (Nat.le_refl _) (fun rv8 u8 w8 r8 k => ?_)
      obtain ⟨rfl, rfl, rfl, k⟩ := k
      refine xe_aload_n dX3_watch_78 rfl ?_
      refine xe_callV (args := []) dX3_watch_79 vlX3_154 rfl rfl (Nat.le_of_ble_eq_true rfl) kk79 (xKK_lt kk79) rfl rfl k (Nat.le_refl _) (fun rv9 u9 w9 r9 k => ?_)
      obtain ⟨rfl, rfl, rfl, k⟩ := k
      refine xe_aload_n dX3_watch_82 rfl ?_
      refine xe_getR (b := 52) dX3_watch_83 flX3_36 kk79 (xKK_lt kk79) rfl (rf79_0 hr) ?_
      refine xe_aload_n dX3_watch_86 rfl ?_
      refine xe_getR (b := 80) dX3_watch_87 flX3_12 kk79 (xKK_lt kk79) rfl (rf79_1 hr) ?_
      refine xe_callV (args := [.ref 80]) dX3_watch_90 vlX3_94 rfl rfl (Nat.le_of_ble_eq_true rfl) kk52 (xKK_lt kk52) rfl rfl k (Nat.le_refl _) (fun rv10 u10 w10 r10 k => ?_)
      obtain ⟨rfl, rfl, rfl, k⟩ := k
      refine xe_aload_n dX3_watch_93 rfl ?_
      refine xe_getR (b := 52) dX3_watch_94 flX3_36 kk79 (xKK_lt kk79) rfl (rf79_0 hr) ?_
      refine xe_aload_n dX3_watch_97 rfl ?_
      refine xe_getR (b := 80) dX3_watch_98 flX3_12 kk79 (xKK_lt kk79) rfl (rf79_1 hr) ?_
      refine xe_callV (args := [.ref 80]) dX3_watch_101 vlX3_54 rfl rfl (Nat.le_of_ble_eq_true rfl) kk52 (xKK_lt kk52) rfl rfl k (Nat.le_refl _) (fun rv11 u11 w11 r11 k => ?_)
      obtain ⟨v11, rfl, rfl, rfl, rfl, k⟩ := k
      refine xe_if_eq (tgt := 110) dX3_watch_104 rfl (fun c12 => ?_) (fun c13 => ?_)
      · have k := k.1 c12
        refine xe_iinc (v := (i2 + (1 : Int32))) (ls' := [some (.ref 79), none, some (.int (i2 + (1 : Int32))), none]) dX3_watch_110 rfl (by decide) rfl rfl ?_
        refine xe_goto (tgt := 47) dX3_watch_113 rfl ?_
        exact k
      · have k := k.2 (fun q => (c13 q))
        refine xe_goto (tgt := 116) dX3_watch_107 rfl ?_
        exact xe_return dX3_watch_116 trivial k

theorem TX3_watch_10 {g : xGT} {d : Nat} {i2 i3 : Int32} {s : Nat} {u : xU} {w : xW} {r : xQ} {P : xPost} (hr : xRf r)
    (k : ((7 : Int32) ≤ i3 → xEv g (d + 1) mX3_watch 2 [some (.ref 79), some (.ref s), some (.int (i2 + (1 : Int32))), none] [] 698 u w r 698 P) ∧ (¬ ((7 : Int32) ≤ i3) → vp_in i2 6 ∧ (vp_in i3 7 ∧ (xEv g (d + 1) mX3_watch 10 [some (.ref 79), some (.ref s), some (.int i2), some (.int (i3 + (1 : Int32)))] [] 698 (x2 u (96 + i2.toNatClampNeg) i3.toNatClampNeg (-1 : Int32)) w r 698 P)))) :
    xEv g (d + 1) mX3_watch 10 [some (.ref 79), some (.ref s), some (.int i2), some (.int i3)] [] 698 u w r 698 P := by
  refine xe_iload_n dX3_watch_10 rfl ?_
  refine xe_bipush (v := 7) dX3_watch_11 rfl ?_
  refine xe_icmp_ge (tgt := 31) dX3_watch_13 rfl (fun c16 => ?_) (fun c17 => ?_)
  · have k := k.1 c16
    refine xe_iinc (v := (i2 + (1 : Int32))) (ls' := [some (.ref 79), some (.ref s), some (.int (i2 + (1 : Int32))), some (.int i3)]) dX3_watch_31 rfl (by decide) rfl rfl ?_
    refine xe_goto (tgt := 2) dX3_watch_34 rfl ?_
    exact xEv.fewer (ls' := [some (.ref 79), some (.ref s), some (.int (i2 + (1 : Int32))), none]) k (xfw_get (xfw_s (xfw_s (xfw_s (xfw_n (xfw_nil _))))))
  · have k := k.2 (fun q => (c17 q))
    refine xe_aload_n dX3_watch_16 rfl ?_
    refine xe_getR (b := 95) dX3_watch_17 flX3_30 kk79 (xKK_lt kk79) rfl (rf79_9 hr) ?_
    refine xe_iload_n dX3_watch_20 rfl ?_
    obtain ⟨b18, k⟩ := k
    refine xe_aald dX3_watch_21 kk95 (xKK_lt kk95) (by simp) b18 (rr95 hr b18) ?_
    refine xe_iload_n dX3_watch_22 rfl ?_
    refine xe_iconst (v := -1) dX3_watch_23 rfl ?_
    obtain ⟨b19, k⟩ := k
    refine xe_iast dX3_watch_24 (kr95 (i := i2) b18) (xKK_lt (kr95 (i := i2) b18)) b19 ?_
    refine xe_iinc (v := (i3 + (1 : Int32))) (ls' := [some (.ref 79), some (.ref s), some (.int i2), some (.int (i3 + (1 : Int32)))]) dX3_watch_25 rfl (by decide) rfl rfl ?_
    refine xe_goto (tgt := 10) dX3_watch_28 rfl ?_
    exact k

/-! Look.noteStanding -/

theorem TX3_noteStanding_0 {g : xGT} {d : Nat} {u : xU} {w : xW} {r : xQ} {P : xPost}
    (k : xEv g (d + 1) mX3_noteStanding 2 [some (.ref 79), some (.int (0 : Int32)), none, none] [] 698 u w r 698 P) :
    xEv g (d + 1) mX3_noteStanding 0 [some (.ref 79), none, none, none] [] 698 u w r 698 P := by
  refine xe_iconst (v := 0) dX3_noteStanding_0 rfl ?_
  refine xe_istore_n (ls' := [some (.ref 79), some (.int (0 : Int32)), none, none]) dX3_noteStanding_1 rfl (by decide) rfl ?_
  exact k

theorem CX3_noteStanding {g : xGT} {d : Nat} {u : xU} {w : xW} {r : xQ} {P : xPost}
    (k : xEv g (d + 1) mX3_noteStanding 2 [some (.ref 79), some (.int (0 : Int32)), none, none] [] 698 u w r 698 P) :
    xCall g (d + 1) mX3_noteStanding [.ref 79] 698 u w r 698 P :=
  xCall.of plX3 (Nat.le_of_ble_eq_true rfl) rfl (TX3_noteStanding_0  k)

set_option maxRecDepth 20000 in
theorem TX3_noteStanding_2 {g : xGT} {d : Nat} {i1 : Int32} {u : xU} {w : xW} {r : xQ} {P : xPost} (hr : xRf r)
    (k : ((6 : Int32) ≤ i1 → P none u w r) ∧ (¬ ((6 : Int32) ≤ i1) → vp_in i1 6 ∧ (((xb ((u (80 + 1) i1.toNatClampNeg) = (1 : Int32) ∨ (u (80 + 1) i1.toNatClampNeg) = (3 : Int32))) = 0 → xEv g (d + 1) mX3_noteStanding 90 [some (.ref 79), some (.int i1), none, none] [] 698 u w r 698 P) ∧ (¬ ((xb ((u (80 + 1) i1.toNatClampNeg) = (1 : Int32) ∨ (u (80 + 1) i1.toNatClampNeg) = (3 : Int32))) = 0) → xCall g d mX11_isOneOf [.int (u (80 + 2) i1.toNatClampNeg), .int (7 : Int32)] 698 u w r 698 (fun rv10 u10 w10 r10 => ∃ v10 : Int32, rv10 = some (.int v10) ∧ u = u10 ∧ w = w10 ∧ r = r10 ∧ (¬ (v10 = 0) → vp_in (u (80 + 2) i1.toNatClampNeg) 7) ∧ (((¬ (v10 = 0) ∧ (u (96 + i1.toNatClampNeg) (u (80 + 2) i1.toNatClampNeg).toNatClampNeg) = (-1 : Int32)) → vp_in (u (80 + 2) i1.toNatClampNeg) 7 ∧ (xEv g (d + 1) mX3_noteStanding 90 [some (.ref 79), some (.int i1), none, none] [] 698 (x2 u (96 + i1.toNatClampNeg) (u (80 + 2) i1.toNatClampNeg).toNatClampNeg (u 80 0)) w r 698 P)) ∧ (¬ (¬ (v10 = 0) ∧ (u (96 + i1.toNatClampNeg) (u (80 + 2) i1.toNatClampNeg).toNatClampNeg) = (-1 : Int32)) → xEv g (d + 1) mX3_noteStanding 90 [some (.ref 79), some (.int i1), none, none] [] 698 u w r 698 P))))))) :
    xEv g (d + 1) mX3_noteStanding 2 [some (.ref 79), some (.int i1), none, none] [] 698 u w r 698 P := by
  refine xe_iload_n dX3_noteStanding_2 rfl ?_
  refine xe_bipush (v := 6) dX3_noteStanding_3 rfl ?_
  refine xe_icmp_ge (tgt := 96) dX3_noteStanding_5 rfl (fun c1 => ?_) (fun c2 => ?_)
  · have k := k.1 c1
    exact xe_return dX3_noteStanding_96 trivial k
  · have k := k.2 (fun q => (c2 q))
    refine xe_aload_n dX3_noteStanding_8 rfl ?_
    refine xe_getR (b := 80) dX3_noteStanding_9 flX3_12 kk79 (xKK_lt kk79) rfl (rf79_1 hr) ?_
    refine xe_getR (b := (80 + 1)) dX3_noteStanding_12 flX3_148 st80.k0 (xKK_lt st80.k0) rfl (sr80 hr).f3 ?_
    refine xe_iload_n dX3_noteStanding_15 rfl ?_
    obtain ⟨b3, k⟩ := k
    refine xe_iald dX3_noteStanding_16 st80.k1 (xKK_lt st80.k1) b3 ?_
    refine xe_iconst (v := 1) dX3_noteStanding_17 rfl ?_
    have K19 : xEv g (d + 1) mX3_noteStanding 39 [some (.ref 79), some (.int i1), none, none] [.int (xb ((u (80 + 1) i1.toNatClampNeg) = (1 : Int32) ∨ (u (80 + 1) i1.toNatClampNeg) = (3 : Int32)))] 698 u w r 698 P := by
      refine xe_istore_n (ls' := [some (.ref 79), some (.int i1), some (.int (xb ((u (80 + 1) i1.toNatClampNeg) = (1 : Int32) ∨ (u (80 + 1) i1.toNatClampNeg) = (3 : Int32)))), none]) dX3_noteStanding_39 rfl (by decide) rfl ?_
      refine xe_aload_n dX3_noteStanding_40 rfl ?_
      refine xe_getR (b := 80) dX3_noteStanding_41 flX3_12 kk79 (xKK_lt kk79) rfl (rf79_1 hr) ?_
      refine xe_getR (b := (80 + 2)) dX3_noteStanding_44 flX3_151 st80.k0 (xKK_lt st80.k0) rfl (sr80 hr).f4 ?_
      refine xe_iload_n dX3_noteStanding_47 rfl ?_
      refine xe_iald dX3_noteStanding_48 st80.k2 (xKK_lt st80.k2) b3 ?_
      refine xe_istore_n (ls' := [some (.ref 79), some (.int i1), some (.int (xb ((u (80 + 1) i1.toNatClampNeg) = (1 : Int32) ∨ (u (80 + 1) i1.toNatClampNeg) = (3 : Int32)))), some (.int (u (80 + 2) i1.toNatClampNeg))]) dX3_noteStanding_49 rfl (by decide) rfl ?_
      refine xe_iload_n dX3_noteStanding_50 rfl ?_
      refine xe_if_eq (tgt := 90) dX3_noteStanding_51 rfl (fun c8 => ?_) (fun c9 => ?_)
      · have k := k.1 c8
        exact xEv.fewer (ls' := [some (.ref 79), some (.int i1), none, none]) k (xfw_get (xfw_s (xfw_s (xfw_n (xfw_n (xfw_nil _))))))
      · have k := k.2 (fun q => (c9 q))
        refine xe_iload_n dX3_noteStanding_54 rfl ?_
        refine xe_bipush (v := 7) dX3_noteStanding_55 rfl ?_
        refine xe_callSN (args := [.int (u (80 + 2) i1.toNatClampNeg), .int (7 : Int32)]) dX3_noteStanding_57 snX3_97 rfl rfl (Nat.le_of_ble_eq_true rfl) k (Nat.le_refl _) (fun rv10 u10 w10 r10 k => ?_)
        obtain ⟨v10, rfl, rfl, rfl, rfl, k⟩ := k
        obtain ⟨b13, k⟩ := k
        have K17 : ¬ (¬ (v10 = 0) ∧ (u (96 + i1.toNatClampNeg) (u (80 + 2) i1.toNatClampNeg).toNatClampNeg) = (-1 : Int32)) → xEv g (d + 1) mX3_noteStanding 90 [some (.ref 79), some (.int i1), some (.int (xb ((u (80 + 1) i1.toNatClampNeg) = (1 : Int32) ∨ (u (80 + 1) i1.toNatClampNeg) = (3 : Int32)))), some (.int (u (80 + 2) i1.toNatClampNeg))] [] 698 u w r 698 P := fun c18 => by
          have k := k.2 c18
          exact xEv.fewer (ls' := [some (.ref 79), some (.int i1), none, none]) k (xfw_get (xfw_s (xfw_s (xfw_n (xfw_n (xfw_nil _))))))
        refine xe_if_eq (tgt := 90) dX3_noteStanding_60 rfl (fun c11 => ?_) (fun c12 => ?_)
        · exact K17 (fun q => (q.1 c11))
        · refine xe_aload_n dX3_noteStanding_63 rfl ?_
          refine xe_getR (b := 95) dX3_noteStanding_64 flX3_30 kk79 (xKK_lt kk79) rfl (rf79_9 hr) ?_
          refine xe_iload_n dX3_noteStanding_67 rfl ?_
          refine xe_aald dX3_noteStanding_68 kk95 (xKK_lt kk95) (by simp) b3 (rr95 hr b3) ?_
          refine xe_iload_n dX3_noteStanding_69 rfl ?_
          refine xe_iald dX3_noteStanding_70 (kr95 (i := i1) b3) (xKK_lt (kr95 (i := i1) b3)) (b13 c12) ?_
          refine xe_iconst (v := -1) dX3_noteStanding_71 rfl ?_
          refine xe_icmp_ne (tgt := 90) dX3_noteStanding_72 rfl (fun c14 => ?_) (fun c15 => ?_)
          · exact K17 (fun q => (c14 q.2))
          · have k := k.1 ⟨c12, c15⟩
            refine xe_aload_n dX3_noteStanding_75 rfl ?_
            refine xe_getR (b := 95) dX3_noteStanding_76 flX3_30 kk79 (xKK_lt kk79) rfl (rf79_9 hr) ?_
            refine xe_iload_n dX3_noteStanding_79 rfl ?_
            refine xe_aald dX3_noteStanding_80 kk95 (xKK_lt kk95) (by simp) b3 (rr95 hr b3) ?_
            refine xe_iload_n dX3_noteStanding_81 rfl ?_
            refine xe_aload_n dX3_noteStanding_82 rfl ?_
            refine xe_getR (b := 80) dX3_noteStanding_83 flX3_12 kk79 (xKK_lt kk79) rfl (rf79_1 hr) ?_
            refine xe_getI dX3_noteStanding_86 flX3_44 st80.k0 (xKK_lt st80.k0) rfl ?_
            obtain ⟨b16, k⟩ := k
            refine xe_iast dX3_noteStanding_89 (kr95 (i := i1) b3) (xKK_lt (kr95 (i := i1) b3)) b16 ?_
            exact xEv.fewer (ls' := [some (.ref 79), some (.int i1), none, none]) k (xfw_get (xfw_s (xfw_s (xfw_n (xfw_n (xfw_nil _))))))
    refine xe_icmp_eq (tgt := 34) dX3_noteStanding_18 rfl (fun c4 => ?_) (fun c5 => ?_)
    · refine xe_iconst (v := 1) dX3_noteStanding_34 rfl ?_
      refine xe_goto (tgt := 39) dX3_noteStanding_35 rfl ?_
      exact xtop (xb_pos (show ((u (80 + 1) i1.toNatClampNeg) = (1 : Int32) ∨ (u (80 + 1) i1.toNatClampNeg) = (3 : Int32)) from (Or.inl c4))) K19
    · refine xe_aload_n dX3_noteStanding_21 rfl ?_
      refine xe_getR (b := 80) dX3_noteStanding_22 flX3_12 kk79 (xKK_lt kk79) rfl (rf79_1 hr) ?_
      refine xe_getR (b := (80 + 1)) dX3_noteStanding_25 flX3_148 st80.k0 (xKK_lt st80.k0) rfl (sr80 hr).f3 ?_
      refine xe_iload_n dX3_noteStanding_28 rfl ?_
      refine xe_iald dX3_noteStanding_29 st80.k1 (xKK_lt st80.k1) b3 ?_
      refine xe_iconst (v := 3) dX3_noteStanding_30 rfl ?_
      refine xe_icmp_ne (tgt := 38) dX3_noteStanding_31 rfl (fun c6 => ?_) (fun c7 => ?_)
      · refine xe_iconst (v := 0) dX3_noteStanding_38 rfl ?_
        exact xtop (xb_neg (show ¬ ((u (80 + 1) i1.toNatClampNeg) = (1 : Int32) ∨ (u (80 + 1) i1.toNatClampNeg) = (3 : Int32)) from (fun q => (q.elim (fun z => (c5 z)) (fun z => (c6 z)))))) K19
      · refine xe_iconst (v := 1) dX3_noteStanding_34 rfl ?_
        refine xe_goto (tgt := 39) dX3_noteStanding_35 rfl ?_
        exact xtop (xb_pos (show ((u (80 + 1) i1.toNatClampNeg) = (1 : Int32) ∨ (u (80 + 1) i1.toNatClampNeg) = (3 : Int32)) from (Or.inr c7))) K19

theorem TX3_noteStanding_90 {g : xGT} {d : Nat} {i1 : Int32} {u : xU} {w : xW} {r : xQ} {P : xPost}
    (k : xEv g (d + 1) mX3_noteStanding 2 [some (.ref 79), some (.int (i1 + (1 : Int32))), none, none] [] 698 u w r 698 P) :
    xEv g (d + 1) mX3_noteStanding 90 [some (.ref 79), some (.int i1), none, none] [] 698 u w r 698 P := by
  refine xe_iinc (v := (i1 + (1 : Int32))) (ls' := [some (.ref 79), some (.int (i1 + (1 : Int32))), none, none]) dX3_noteStanding_90 rfl (by decide) rfl rfl ?_
  refine xe_goto (tgt := 2) dX3_noteStanding_93 rfl ?_
  exact k

/-! Look.weigh -/

theorem TX3_weigh_0 {g : xGT} {d : Nat} {i2 : Int32} {s a : Nat} {u : xU} {w : xW} {r : xQ} {P : xPost}
    (k : xEv g (d + 1) mX3_weigh 3 [some (.ref 79), some (.ref s), some (.int i2), some (.ref a), some (.int (0 : Int32)), none] [] 698 u w r 698 P) :
    xEv g (d + 1) mX3_weigh 0 [some (.ref 79), some (.ref s), some (.int i2), some (.ref a), none, none] [] 698 u w r 698 P := by
  refine xe_iconst (v := 0) dX3_weigh_0 rfl ?_
  refine xe_istore (ls' := [some (.ref 79), some (.ref s), some (.int i2), some (.ref a), some (.int (0 : Int32)), none]) dX3_weigh_1 (by decide) rfl ?_
  exact k

theorem CX3_weigh {g : xGT} {d : Nat} {i2 : Int32} {s a : Nat} {u : xU} {w : xW} {r : xQ} {P : xPost}
    (k : xEv g (d + 1) mX3_weigh 3 [some (.ref 79), some (.ref s), some (.int i2), some (.ref a), some (.int (0 : Int32)), none] [] 698 u w r 698 P) :
    xCall g (d + 1) mX3_weigh [.ref 79, .ref s, .int i2, .ref a] 698 u w r 698 P :=
  xCall.of plX3 (Nat.le_of_ble_eq_true rfl) rfl (TX3_weigh_0  k)

theorem TX3_weigh_3 {g : xGT} {d : Nat} {i2 i4 : Int32} {s a n_a : Nat} {u : xU} {w : xW} {r : xQ} {P : xPost} (hr : xRf r) (h_s : xSt s) (q_s : xSr s r) (h_a : xKK a = some (.inr (.int, n_a)))
    (k : ((¬ ((Int32.ofNat n_a) ≤ i4) ∧ ¬ ((u s 2) ≤ i4)) → xCall g d mX11_isOneOf [.int i2, .int (6 : Int32)] 698 u w r 698 (fun rv5 u5 w5 r5 => ∃ v5 : Int32, rv5 = some (.int v5) ∧ u = u5 ∧ w = w5 ∧ r = r5 ∧ (v5 = 0 → xEv g (d + 1) mX3_weigh 48 [some (.ref 79), some (.ref s), some (.int i2), some (.ref a), some (.int i4), none] [.int (-1 : Int32)] 698 u w r 698 P) ∧ (¬ (v5 = 0) → vp_in i2 6 ∧ (vp_in i4 10 ∧ (xCall g d mX11_cell [.ref (96 + i2.toNatClampNeg), .int (u (s + 8) i4.toNatClampNeg)] 698 u w r 698 (fun rv10 u10 w10 r10 => ∃ v10 : Int32, rv10 = some (.int v10) ∧ u = u10 ∧ w = w10 ∧ r = r10 ∧ xEv g (d + 1) mX3_weigh 48 [some (.ref 79), some (.ref s), some (.int i2), some (.ref a), some (.int i4), none] [.int v10] 698 u w r 698 P)))))) ∧ (¬ (¬ ((Int32.ofNat n_a) ≤ i4) ∧ ¬ ((u s 2) ≤ i4)) → P none u w r)) :
    xEv g (d + 1) mX3_weigh 3 [some (.ref 79), some (.ref s), some (.int i2), some (.ref a), some (.int i4), none] [] 698 u w r 698 P := by
  refine xe_iload dX3_weigh_3 rfl ?_
  refine xe_aload_n dX3_weigh_5 rfl ?_
  refine xe_alen (v := (Int32.ofNat n_a)) dX3_weigh_6 h_a (xKK_lt h_a) (by simp) rfl ?_
  have K11 : ¬ (¬ ((Int32.ofNat n_a) ≤ i4) ∧ ¬ ((u s 2) ≤ i4)) → xEv g (d + 1) mX3_weigh 89 [some (.ref 79), some (.ref s), some (.int i2), some (.ref a), some (.int i4), none] [] 698 u w r 698 P := fun c12 => by
    have k := k.2 c12
    exact xe_return dX3_weigh_89 trivial k
  refine xe_icmp_ge (tgt := 89) dX3_weigh_7 rfl (fun c1 => ?_) (fun c2 => ?_)
  · exact K11 (fun q => (q.1 c1))
  · refine xe_iload dX3_weigh_10 rfl ?_
    refine xe_aload_n dX3_weigh_12 rfl ?_
    refine xe_getI dX3_weigh_13 flX3_157 h_s.k0 (xKK_lt h_s.k0) rfl ?_
    refine xe_icmp_ge (tgt := 89) dX3_weigh_16 rfl (fun c3 => ?_) (fun c4 => ?_)
    · exact K11 (fun q => (q.2 c3))
    · have k := k.1 ⟨c2, c4⟩
      refine xe_iload_n dX3_weigh_19 rfl ?_
      refine xe_bipush (v := 6) dX3_weigh_20 rfl ?_
      refine xe_callSN (args := [.int i2, .int (6 : Int32)]) dX3_weigh_22 snX3_97 rfl rfl (Nat.le_of_ble_eq_true rfl) k (Nat.le_refl _) (fun rv5 u5 w5 r5 k => ?_)
      obtain ⟨v5, rfl, rfl, rfl, rfl, k⟩ := k
      refine xe_if_eq (tgt := 47) dX3_weigh_25 rfl (fun c6 => ?_) (fun c7 => ?_)
      · have k := k.1 c6
        refine xe_iconst (v := -1) dX3_weigh_47 rfl ?_
        exact k
      · have k := k.2 (fun q => (c7 q))
        refine xe_aload_n dX3_weigh_28 rfl ?_
        refine xe_getR (b := 95) dX3_weigh_29 flX3_30 kk79 (xKK_lt kk79) rfl (rf79_9 hr) ?_
        refine xe_iload_n dX3_weigh_32 rfl ?_
        obtain ⟨b8, k⟩ := k
        refine xe_aald dX3_weigh_33 kk95 (xKK_lt kk95) (by simp) b8 (rr95 hr b8) ?_
        refine xe_aload_n dX3_weigh_34 rfl ?_
        refine xe_getR (b := (s + 8)) dX3_weigh_35 flX3_160 h_s.k0 (xKK_lt h_s.k0) rfl q_s.f10 ?_
        refine xe_iload dX3_weigh_38 rfl ?_
        obtain ⟨b9, k⟩ := k
        refine xe_iald dX3_weigh_40 h_s.k8 (xKK_lt h_s.k8) b9 ?_
        refine xe_callSN (args := [.ref (96 + i2.toNatClampNeg), .int (u (s + 8) i4.toNatClampNeg)]) dX3_weigh_41 snX3_127 rfl rfl (Nat.le_of_ble_eq_true rfl) k (Nat.le_refl _) (fun rv10 u10 w10 r10 k => ?_)
        obtain ⟨v10, rfl, rfl, rfl, rfl, k⟩ := k
        refine xe_goto (tgt := 48) dX3_weigh_44 rfl ?_
        exact k

theorem TX3_weigh_48 {g : xGT} {d : Nat} {i2 i4 z0 : Int32} {s a n_a : Nat} {u : xU} {w : xW} {r : xQ} {P : xPost} (h_s : xSt s) (q_s : xSr s r) (h_a : xKK a = some (.inr (.int, n_a)))
    (k : (¬ (z0 = (-1 : Int32)) → vp_in i4 10) ∧ (((¬ (z0 = (-1 : Int32)) ∧ ¬ ((u (s + 9) i4.toNatClampNeg) < z0)) → vp_in i4 10) ∧ (vp_in i4 n_a ∧ (xEv g (d + 1) mX3_weigh 3 [some (.ref 79), some (.ref s), some (.int i2), some (.ref a), some (.int (i4 + (1 : Int32))), none] [] 698 (x2 u a i4.toNatClampNeg (if (¬ (z0 = (-1 : Int32)) ∧ ¬ ((u (s + 9) i4.toNatClampNeg) < z0)) then (u (s + 10) i4.toNatClampNeg) else (0 : Int32))) w r 698 P)))) :
    xEv g (d + 1) mX3_weigh 48 [some (.ref 79), some (.ref s), some (.int i2), some (.ref a), some (.int i4), none] [.int z0] 698 u w r 698 P := by
  refine xe_istore (ls' := [some (.ref 79), some (.ref s), some (.int i2), some (.ref a), some (.int i4), some (.int z0)]) dX3_weigh_48 (by decide) rfl ?_
  refine xe_aload_n dX3_weigh_50 rfl ?_
  refine xe_iload dX3_weigh_51 rfl ?_
  refine xe_iload dX3_weigh_53 rfl ?_
  refine xe_iconst (v := -1) dX3_weigh_55 rfl ?_
  obtain ⟨b15, k⟩ := k
  obtain ⟨b18, k⟩ := k
  have K20 : xEv g (d + 1) mX3_weigh 82 [some (.ref 79), some (.ref s), some (.int i2), some (.ref a), some (.int i4), some (.int z0)] [.int (if (¬ (z0 = (-1 : Int32)) ∧ ¬ ((u (s + 9) i4.toNatClampNeg) < z0)) then (u (s + 10) i4.toNatClampNeg) else (0 : Int32)), .int i4, .ref a] 698 u w r 698 P := by
    obtain ⟨b19, k⟩ := k
    refine xe_iast dX3_weigh_82 h_a (xKK_lt h_a) b19 ?_
    refine xe_iinc (v := (i4 + (1 : Int32))) (ls' := [some (.ref 79), some (.ref s), some (.int i2), some (.ref a), some (.int (i4 + (1 : Int32))), some (.int z0)]) dX3_weigh_83 rfl (by decide) rfl rfl ?_
    refine xe_goto (tgt := 3) dX3_weigh_86 rfl ?_
    exact xEv.fewer (ls' := [some (.ref 79), some (.ref s), some (.int i2), some (.ref a), some (.int (i4 + (1 : Int32))), none]) k (xfw_get (xfw_s (xfw_s (xfw_s (xfw_s (xfw_s (xfw_n (xfw_nil _))))))))
  refine xe_icmp_eq (tgt := 81) dX3_weigh_56 rfl (fun c13 => ?_) (fun c14 => ?_)
  · refine xe_iconst (v := 0) dX3_weigh_81 rfl ?_
    exact xtop (if_neg (fun q => (q.1 c13))) K20
  · refine xe_iload dX3_weigh_59 rfl ?_
    refine xe_aload_n dX3_weigh_61 rfl ?_
    refine xe_getR (b := (s + 9)) dX3_weigh_62 flX3_163 h_s.k0 (xKK_lt h_s.k0) rfl q_s.f11 ?_
    refine xe_iload dX3_weigh_65 rfl ?_
    refine xe_iald dX3_weigh_67 h_s.k9 (xKK_lt h_s.k9) (b15 c14) ?_
    refine xe_icmp_gt (tgt := 81) dX3_weigh_68 rfl (fun c16 => ?_) (fun c17 => ?_)
    · refine xe_iconst (v := 0) dX3_weigh_81 rfl ?_
      exact xtop (if_neg (fun q => (q.2 c16))) K20
    · refine xe_aload_n dX3_weigh_71 rfl ?_
      refine xe_getR (b := (s + 10)) dX3_weigh_72 flX3_166 h_s.k0 (xKK_lt h_s.k0) rfl q_s.f12 ?_
      refine xe_iload dX3_weigh_75 rfl ?_
      refine xe_iald dX3_weigh_77 h_s.k10 (xKK_lt h_s.k10) (b18 ⟨c14, c17⟩) ?_
      refine xe_goto (tgt := 82) dX3_weigh_78 rfl ?_
      exact xtop (if_pos ⟨c14, c17⟩) K20

/-! Look.sum -/

theorem TX3_sum_0 {g : xGT} {d : Nat} {i1 : Int32} {a : Nat} {u : xU} {w : xW} {r : xQ} {P : xPost}
    (k : xEv g d mX3_sum 4 [some (.ref a), some (.int i1), some (.int (0 : Int32)), some (.int (0 : Int32))] [] 698 u w r 698 P) :
    xEv g d mX3_sum 0 [some (.ref a), some (.int i1), none, none] [] 698 u w r 698 P := by
  refine xe_iconst (v := 0) dX3_sum_0 rfl ?_
  refine xe_istore_n (ls' := [some (.ref a), some (.int i1), some (.int (0 : Int32)), none]) dX3_sum_1 rfl (by decide) rfl ?_
  refine xe_iconst (v := 0) dX3_sum_2 rfl ?_
  refine xe_istore_n (ls' := [some (.ref a), some (.int i1), some (.int (0 : Int32)), some (.int (0 : Int32))]) dX3_sum_3 rfl (by decide) rfl ?_
  exact k

theorem CX3_sum {g : xGT} {d : Nat} {i1 : Int32} {a : Nat} {u : xU} {w : xW} {r : xQ} {P : xPost}
    (k : xEv g d mX3_sum 4 [some (.ref a), some (.int i1), some (.int (0 : Int32)), some (.int (0 : Int32))] [] 698 u w r 698 P) :
    xCall g d mX3_sum [.ref a, .int i1] 698 u w r 698 P :=
  xCall.of plX3 (Nat.le_of_ble_eq_true rfl) rfl (TX3_sum_0  k)

theorem TX3_sum_4 {g : xGT} {d : Nat} {i1 i2 i3 : Int32} {a n_a : Nat} {u : xU} {w : xW} {r : xQ} {P : xPost} (h_a : xKK a = some (.inr (.int, n_a)))
    (k : ((Int32.ofNat n_a) ≤ i3 → P (some (.int i2)) u w r) ∧ (¬ ((Int32.ofNat n_a) ≤ i3) → (((i1 >>> (i3 &&& 31)) &&& (1 : Int32)) = (1 : Int32) → vp_in i3 n_a ∧ (xEv g d mX3_sum 25 [some (.ref a), some (.int i1), some (.int (i2 + (u a i3.toNatClampNeg))), some (.int i3)] [] 698 u w r 698 P)) ∧ (¬ (((i1 >>> (i3 &&& 31)) &&& (1 : Int32)) = (1 : Int32)) → xEv g d mX3_sum 25 [some (.ref a), some (.int i1), some (.int i2), some (.int i3)] [] 698 u w r 698 P))) :
    xEv g d mX3_sum 4 [some (.ref a), some (.int i1), some (.int i2), some (.int i3)] [] 698 u w r 698 P := by
  refine xe_iload_n dX3_sum_4 rfl ?_
  refine xe_aload_n dX3_sum_5 rfl ?_
  refine xe_alen (v := (Int32.ofNat n_a)) dX3_sum_6 h_a (xKK_lt h_a) (by simp) rfl ?_
  refine xe_icmp_ge (tgt := 31) dX3_sum_7 rfl (fun c1 => ?_) (fun c2 => ?_)
  · have k := k.1 c1
    refine xe_iload_n dX3_sum_31 rfl ?_
    exact xe_ireturn dX3_sum_32 rfl k
  · have k := k.2 (fun q => (c2 q))
    refine xe_iload_n dX3_sum_10 rfl ?_
    refine xe_iload_n dX3_sum_11 rfl ?_
    refine xe_ishr dX3_sum_12 ?_
    refine xe_iconst (v := 1) dX3_sum_13 rfl ?_
    refine xe_iand dX3_sum_14 ?_
    refine xe_iconst (v := 1) dX3_sum_15 rfl ?_
    refine xe_icmp_ne (tgt := 25) dX3_sum_16 rfl (fun c3 => ?_) (fun c4 => ?_)
    · have k := k.2 (fun q => (c3 q))
      exact k
    · have k := k.1 c4
      refine xe_iload_n dX3_sum_19 rfl ?_
      refine xe_aload_n dX3_sum_20 rfl ?_
      refine xe_iload_n dX3_sum_21 rfl ?_
      obtain ⟨b5, k⟩ := k
      refine xe_iald dX3_sum_22 h_a (xKK_lt h_a) b5 ?_
      refine xe_iadd dX3_sum_23 ?_
      refine xe_istore_n (ls' := [some (.ref a), some (.int i1), some (.int (i2 + (u a i3.toNatClampNeg))), some (.int i3)]) dX3_sum_24 rfl (by decide) rfl ?_
      exact k

theorem TX3_sum_25 {g : xGT} {d : Nat} {i1 i2 i3 : Int32} {a : Nat} {u : xU} {w : xW} {r : xQ} {P : xPost}
    (k : xEv g d mX3_sum 4 [some (.ref a), some (.int i1), some (.int i2), some (.int (i3 + (1 : Int32)))] [] 698 u w r 698 P) :
    xEv g d mX3_sum 25 [some (.ref a), some (.int i1), some (.int i2), some (.int i3)] [] 698 u w r 698 P := by
  refine xe_iinc (v := (i3 + (1 : Int32))) (ls' := [some (.ref a), some (.int i1), some (.int i2), some (.int (i3 + (1 : Int32)))]) dX3_sum_25 rfl (by decide) rfl rfl ?_
  refine xe_goto (tgt := 4) dX3_sum_28 rfl ?_
  exact k
