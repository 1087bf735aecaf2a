theorem CX12_keep {g : xGT} {d : Nat} {u : xU} {w : xW} {r : xQ} {P : xPost}
    (k : xEv g d mX12_keep 2 [some (.ref 655), some (.int (0 : Int32))] [] 698 u w r 698 P) :
    xCall g d mX12_keep [.ref 655] 698 u w r 698 P :=
  xCall.of plX12 (Nat.le_of_ble_eq_true rfl) rfl (TX12_keep_0  k)

theorem TX12_keep_2 {g : xGT} {d : Nat} {i1 : Int32} {u : xU} {w : xW} {r : xQ} {P : xPost} (hr : xRf r)
    (k : ((91 : Int32) ≤ i1 → P none u w r) ∧ (¬ ((91 : Int32) ≤ i1) → vp_in i1 92 ∧ (xEv g d mX12_keep 2 [some (.ref 655), some (.int (i1 + (1 : Int32)))] [] 698 (x2 u 683 i1.toNatClampNeg (u 684 i1.toNatClampNeg)) w r 698 P))) :
    xEv g d mX12_keep 2 [some (.ref 655), some (.int i1)] [] 698 u w r 698 P := by
  refine xe_iload_n dX12_keep_2 rfl ?_
  refine xe_bipush (v := 91) dX12_keep_3 rfl ?_
  refine xe_icmp_ge (tgt := 26) dX12_keep_5 rfl (fun c1 => ?_) (fun c2 => ?_)
  · have k := k.1 c1
    exact xe_return dX12_keep_26 trivial k
  · have k := k.2 (fun q => (c2 q))
    refine xe_aload_n dX12_keep_8 rfl ?_
    refine xe_getR (b := 683) dX12_keep_9 flX12_99 kk655 (xKK_lt kk655) rfl (rf655_57 hr) ?_
    refine xe_iload_n dX12_keep_12 rfl ?_
    refine xe_aload_n dX12_keep_13 rfl ?_
    refine xe_getR (b := 684) dX12_keep_14 flX12_102 kk655 (xKK_lt kk655) rfl (rf655_58 hr) ?_
    refine xe_iload_n dX12_keep_17 rfl ?_
    obtain ⟨b3, k⟩ := k
    refine xe_iald dX12_keep_18 kk684 (xKK_lt kk684) b3 ?_
    refine xe_iast dX12_keep_19 kk683 (xKK_lt kk683) b3 ?_
    refine xe_iinc (v := (i1 + (1 : Int32))) (ls' := [some (.ref 655), some (.int (i1 + (1 : Int32)))]) dX12_keep_20 rfl (by decide) rfl rfl ?_
    refine xe_goto (tgt := 2) dX12_keep_23 rfl ?_
    exact k

/-! FuneralPostModel.day -/

theorem TX12_day_0 {g : xGT} {d : Nat} {u : xU} {w : xW} {r : xQ} {P : xPost} (hr : xRf r)
    (k : ((u 683 90) < (300 : Int32) → xCall g d mX12_act [.ref 655] 698 u w r 698 (fun rv3 u3 w3 r3 => rv3 = none ∧ w = w3 ∧ r = r3 ∧ xCall g d mX12_load [.ref 655] 698 u3 w r 698 (fun rv4 u4 w4 r4 => rv4 = none ∧ w = w4 ∧ r = r4 ∧ xCall g d mX12_goDay [.ref 655] 698 u4 w r 698 (fun rv5 u5 w5 r5 => ∃ v5 : Int32, rv5 = some (.int v5) ∧ w = w5 ∧ r = r5 ∧ xCall g d mX12_keep [.ref 655] 698 u5 w r 698 (fun rv6 u6 w6 r6 => rv6 = none ∧ w = w6 ∧ r = r6 ∧ P (some (.int v5)) u6 w r))))) ∧ (¬ ((u 683 90) < (300 : Int32)) → P (some (.int (-1 : Int32))) u w r)) :
    xEv g (d + 1) mX12_day 0 [some (.ref 655), none] [] 698 u w r 698 P := by
  refine xe_aload_n dX12_day_0 rfl ?_
  refine xe_getR (b := 683) dX12_day_1 flX12_99 kk655 (xKK_lt kk655) rfl (rf655_57 hr) ?_
  refine xe_bipush (v := 90) dX12_day_4 rfl ?_
  refine xe_iald dX12_day_6 kk683 (xKK_lt kk683) (show ¬ ((90 : Int32) < 0 ∨ 92 ≤ (90 : Int32).toNatClampNeg) from by decide) ?_
  refine xe_sipush (v := 300) dX12_day_7 rfl ?_
  refine xe_icmp_lt (tgt := 15) dX12_day_10 rfl (fun c1 => ?_) (fun c2 => ?_)
  · have k := k.1 c1
    refine xe_aload_n dX12_day_15 rfl ?_
    refine xe_callV (args := []) dX12_day_16 vlX12_514 rfl rfl (Nat.le_of_ble_eq_true rfl) kk655 (xKK_lt kk655) rfl rfl k (Nat.le_refl _) (fun rv3 u3 w3 r3 k => ?_)
    obtain ⟨rfl, rfl, rfl, k⟩ := k
    refine xe_aload_n dX12_day_19 rfl ?_
    refine xe_callV (args := []) dX12_day_20 vlX12_496 rfl rfl (Nat.le_of_ble_eq_true rfl) kk655 (xKK_lt kk655) rfl rfl k (Nat.le_refl _) (fun rv4 u4 w4 r4 k => ?_)
    obtain ⟨rfl, rfl, rfl, k⟩ := k
    refine xe_aload_n dX12_day_23 rfl ?_
    refine xe_callV (args := []) dX12_day_24 vlX12_517 rfl rfl (Nat.le_of_ble_eq_true rfl) kk655 (xKK_lt kk655) rfl rfl k (Nat.le_refl _) (fun rv5 u5 w5 r5 k => ?_)
    obtain ⟨v5, rfl, rfl, rfl, k⟩ := k
    refine xe_istore_n (ls' := [some (.ref 655), some (.int v5)]) dX12_day_27 rfl (by decide) rfl ?_
    refine xe_aload_n dX12_day_28 rfl ?_
    refine xe_callV (args := []) dX12_day_29 vlX12_520 rfl rfl (Nat.le_of_ble_eq_true rfl) kk655 (xKK_lt kk655) rfl rfl k (Nat.le_refl _) (fun rv6 u6 w6 r6 k => ?_)
    obtain ⟨rfl, rfl, rfl, k⟩ := k
    refine xe_iload_n dX12_day_32 rfl ?_
    exact xe_ireturn dX12_day_33 rfl k
  · have k := k.2 (fun q => (c2 q))
    refine xe_iconst (v := -1) dX12_day_13 rfl ?_
    exact xe_ireturn dX12_day_14 rfl k

theorem CX12_day {g : xGT} {d : Nat} {u : xU} {w : xW} {r : xQ} {P : xPost} (hr : xRf r)
    (k : ((u 683 90) < (300 : Int32) → xCall g d mX12_act [.ref 655] 698 u w r 698 (fun rv3 u3 w3 r3 => rv3 = none ∧ w = w3 ∧ r = r3 ∧ xCall g d mX12_load [.ref 655] 698 u3 w r 698 (fun rv4 u4 w4 r4 => rv4 = none ∧ w = w4 ∧ r = r4 ∧ xCall g d mX12_goDay [.ref 655] 698 u4 w r 698 (fun rv5 u5 w5 r5 => ∃ v5 : Int32, rv5 = some (.int v5) ∧ w = w5 ∧ r = r5 ∧ xCall g d mX12_keep [.ref 655] 698 u5 w r 698 (fun rv6 u6 w6 r6 => rv6 = none ∧ w = w6 ∧ r = r6 ∧ P (some (.int v5)) u6 w r))))) ∧ (¬ ((u 683 90) < (300 : Int32)) → P (some (.int (-1 : Int32))) u w r)) :
    xCall g (d + 1) mX12_day [.ref 655] 698 u w r 698 P :=
  xCall.of plX12 (Nat.le_of_ble_eq_true rfl) rfl (TX12_day_0 hr k)

/-! FuneralPostModel.post -/

theorem TX12_post_0 {g : xGT} {d : Nat} {i1 i2 : Int32} {u : xU} {w : xW} {r : xQ} {P : xPost} (hr : xRf r)
    (k : xCall g d mX12_isVillage [.ref 655, .int i1] 698 u w r 698 (fun rv1 u1 w1 r1 => ∃ v1 : Int32, rv1 = some (.int v1) ∧ u = u1 ∧ w = w1 ∧ r = r1 ∧ (v1 = 0 → P (some (.int (-1 : Int32))) u w r) ∧ (¬ (v1 = 0) → xCall g d mX12_isVillage [.ref 655, .int i2] 698 u w r 698 (fun rv4 u4 w4 r4 => ∃ v4 : Int32, rv4 = some (.int v4) ∧ u = u4 ∧ w = w4 ∧ r = r4 ∧ ((v4 = 0 ∨ (i1 = i2 ∨ (u 683 88) = (10 : Int32))) → P (some (.int (-1 : Int32))) u w r) ∧ (¬ (v4 = 0 ∨ (i1 = i2 ∨ (u 683 88) = (10 : Int32))) → xCall g d mX12_act [.ref 655] 698 u w r 698 (fun rv11 u11 w11 r11 => rv11 = none ∧ w = w11 ∧ r = r11 ∧ xCall g d mX12_layLetter [.ref 655, .int (u11 683 88), .int i1, .int i2, .int (200 : Int32), .int (1 : Int32)] 698 u11 w r 698 (fun rv12 u12 w12 r12 => rv12 = none ∧ w = w12 ∧ r = r12 ∧ P (some (.int (((u12 683 88) + (1 : Int32)) - (1 : Int32)))) (x2 u12 683 88 ((u12 683 88) + (1 : Int32))) w r))))))) :
    xEv g (d + 1) mX12_post 0 [some (.ref 655), some (.int i1), some (.int i2)] [] 698 u w r 698 P := by
  refine xe_aload_n dX12_post_0 rfl ?_
  refine xe_iload_n dX12_post_1 rfl ?_
  refine xe_callV (args := [.int i1]) dX12_post_2 vlX12_502 rfl rfl (Nat.le_of_ble_eq_true rfl) kk655 (xKK_lt kk655) rfl rfl k (Nat.le_refl _) (fun rv1 u1 w1 r1 k => ?_)
  obtain ⟨v1, rfl, rfl, rfl, rfl, k⟩ := k
  refine xe_if_eq (tgt := 33) dX12_post_5 rfl (fun c2 => ?_) (fun c3 => ?_)
  · have k := k.1 c2
    refine xe_iconst (v := -1) dX12_post_33 rfl ?_
    exact xe_ireturn dX12_post_34 rfl k
  · have k := k.2 (fun q => (c3 q))
    refine xe_aload_n dX12_post_8 rfl ?_
    refine xe_iload_n dX12_post_9 rfl ?_
    refine xe_callV (args := [.int i2]) dX12_post_10 vlX12_502 rfl rfl (Nat.le_of_ble_eq_true rfl) kk655 (xKK_lt kk655) rfl rfl k (Nat.le_refl _) (fun rv4 u4 w4 r4 k => ?_)
    obtain ⟨v4, rfl, rfl, rfl, rfl, k⟩ := k
    have K13 : (v4 = 0 ∨ (i1 = i2 ∨ (u 683 88) = (10 : Int32))) → xEv g (d + 1) mX12_post 33 [some (.ref 655), some (.int i1), some (.int i2)] [] 698 u w r 698 P := fun c14 => by
      have k := k.1 c14
      refine xe_iconst (v := -1) dX12_post_33 rfl ?_
      exact xe_ireturn dX12_post_34 rfl k
    refine xe_if_eq (tgt := 33) dX12_post_13 rfl (fun c5 => ?_) (fun c6 => ?_)
    · exact K13 (Or.inl c5)
    · refine xe_iload_n dX12_post_16 rfl ?_
      refine xe_iload_n dX12_post_17 rfl ?_
      refine xe_icmp_eq (tgt := 33) dX12_post_18 rfl (fun c7 => ?_) (fun c8 => ?_)
      · exact K13 (Or.inr (Or.inl c7))
      · refine xe_aload_n dX12_post_21 rfl ?_
        refine xe_getR (b := 683) dX12_post_22 flX12_99 kk655 (xKK_lt kk655) rfl (rf655_57 hr) ?_
        refine xe_bipush (v := 88) dX12_post_25 rfl ?_
        refine xe_iald dX12_post_27 kk683 (xKK_lt kk683) (show ¬ ((88 : Int32) < 0 ∨ 92 ≤ (88 : Int32).toNatClampNeg) from by decide) ?_
        refine xe_bipush (v := 10) dX12_post_28 rfl ?_
        refine xe_icmp_ne (tgt := 35) dX12_post_30 rfl (fun c9 => ?_) (fun c10 => ?_)
        · have k := k.2 (fun q => (q.elim (fun z => (c6 z)) (fun z => (z.elim (fun z => (c8 z)) (fun z => (c9 z))))))
          refine xe_aload_n dX12_post_35 rfl ?_
          refine xe_callV (args := []) dX12_post_36 vlX12_514 rfl rfl (Nat.le_of_ble_eq_true rfl) kk655 (xKK_lt kk655) rfl rfl k (Nat.le_refl _) (fun rv11 u11 w11 r11 k => ?_)
          obtain ⟨rfl, rfl, rfl, k⟩ := k
          refine xe_aload_n dX12_post_39 rfl ?_
          refine xe_aload_n dX12_post_40 rfl ?_
          refine xe_getR (b := 683) dX12_post_41 flX12_99 kk655 (xKK_lt kk655) rfl (rf655_57 hr) ?_
          refine xe_bipush (v := 88) dX12_post_44 rfl ?_
          refine xe_iald dX12_post_46 kk683 (xKK_lt kk683) (show ¬ ((88 : Int32) < 0 ∨ 92 ≤ (88 : Int32).toNatClampNeg) from by decide) ?_
          refine xe_iload_n dX12_post_47 rfl ?_
          refine xe_iload_n dX12_post_48 rfl ?_
          refine xe_sipush (v := 200) dX12_post_49 rfl ?_
          refine xe_iconst (v := 1) dX12_post_52 rfl ?_
          refine xe_callV (args := [.int (u11 683 88), .int i1, .int i2, .int (200 : Int32), .int (1 : Int32)]) dX12_post_53 vlX12_410 rfl rfl (Nat.le_of_ble_eq_true rfl) kk655 (xKK_lt kk655) rfl rfl k (Nat.le_refl _) (fun rv12 u12 w12 r12 k => ?_)
          obtain ⟨rfl, rfl, rfl, k⟩ := k
          refine xe_aload_n dX12_post_56 rfl ?_
          refine xe_getR (b := 683) dX12_post_57 flX12_99 kk655 (xKK_lt kk655) rfl (rf655_57 hr) ?_
          refine xe_bipush (v := 88) dX12_post_60 rfl ?_
          refine xe_dup2 dX12_post_62 rfl rfl ?_
          refine xe_iald dX12_post_63 kk683 (xKK_lt kk683) (show ¬ ((88 : Int32) < 0 ∨ 92 ≤ (88 : Int32).toNatClampNeg) from by decide) ?_
          refine xe_iconst (v := 1) dX12_post_64 rfl ?_
          refine xe_iadd dX12_post_65 ?_
          refine xe_iast dX12_post_66 kk683 (xKK_lt kk683) (show ¬ ((88 : Int32) < 0 ∨ 92 ≤ (88 : Int32).toNatClampNeg) from by decide) ?_
          refine xe_aload_n dX12_post_67 rfl ?_
          refine xe_getR (b := 683) dX12_post_68 flX12_99 kk655 (xKK_lt kk655) rfl (rf655_57 hr) ?_
          refine xe_bipush (v := 88) dX12_post_71 rfl ?_
          refine xe_iald dX12_post_73 kk683 (xKK_lt kk683) (show ¬ ((88 : Int32) < 0 ∨ 92 ≤ (88 : Int32).toNatClampNeg) from by decide) ?_
          refine xe_iconst (v := 1) dX12_post_74 rfl ?_
          refine xe_isub dX12_post_75 ?_
          exact xe_ireturn dX12_post_76 rfl k
        · exact K13 (Or.inr (Or.inr c10))

theorem CX12_post {g : xGT} {d : Nat} {i1 i2 : Int32} {u : xU} {w : xW} {r : xQ} {P : xPost} (hr : xRf r)
    (k : xCall g d mX12_isVillage [.ref 655, .int i1] 698 u w r 698 (fun rv1 u1 w1 r1 => ∃ v1 : Int32, rv1 = some (.int v1) ∧ u = u1 ∧ w = w1 ∧ r = r1 ∧ (v1 = 0 → P (some (.int (-1 : Int32))) u w r) ∧ (¬ (v1 = 0) → xCall g d mX12_isVillage [.ref 655, .int i2] 698 u w r 698 (fun rv4 u4 w4 r4 => ∃ v4 : Int32, rv4 = some (.int v4) ∧ u = u4 ∧ w = w4 ∧ r = r4 ∧ ((v4 = 0 ∨ (i1 = i2 ∨ (u 683 88) = (10 : Int32))) → P (some (.int (-1 : Int32))) u w r) ∧ (¬ (v4 = 0 ∨ (i1 = i2 ∨ (u 683 88) = (10 : Int32))) → xCall g d mX12_act [.ref 655] 698 u w r 698 (fun rv11 u11 w11 r11 => rv11 = none ∧ w = w11 ∧ r = r11 ∧ xCall g d mX12_layLetter [.ref 655, .int (u11 683 88), .int i1, .int i2, .int (200 : Int32), .int (1 : Int32)] 698 u11 w r 698 (fun rv12 u12 w12 r12 => rv12 = none ∧ w = w12 ∧ r = r12 ∧ P (some (.int (((u12 683 88) + (1 : Int32)) - (1 : Int32)))) (x2 u12 683 88 ((u12 683 88) + (1 : Int32))) w r))))))) :
    xCall g (d + 1) mX12_post [.ref 655, .int i1, .int i2] 698 u w r 698 P :=
  xCall.of plX12 (Nat.le_of_ble_eq_true rfl) rfl (TX12_post_0 hr k)

/-! FuneralPostModel.hand -/

set_option maxRecDepth 20000 in
theorem TX12_hand_0 {g : xGT} {d : Nat} {i1 i2 : Int32} {u : xU} {w : xW} {r : xQ} {P : xPost} (hr : xRf r)
    (k : xCall g d mX12_isPosted [.ref 655, .int i1] 698 u w r 698 (fun rv1 u1 w1 r1 => ∃ v1 : Int32, rv1 = some (.int v1) ∧ u = u1 ∧ w = w1 ∧ r = r1 ∧ (v1 = 0 → P (some (.int (0 : Int32))) u w r) ∧ (¬ (v1 = 0) → xCall g d mX12_isBier [.ref 655, .int i2] 698 u w r 698 (fun rv4 u4 w4 r4 => ∃ v4 : Int32, rv4 = some (.int v4) ∧ u = u4 ∧ w = w4 ∧ r = r4 ∧ (¬ (v4 = 0) → vp_in ((18 : Int32) + i1) 92) ∧ (((v4 = 0 ∨ ¬ (0 ≤ (u 683 ((18 : Int32) + i1).toNatClampNeg))) → P (some (.int (0 : Int32))) u w r) ∧ (¬ (v4 = 0 ∨ ¬ (0 ≤ (u 683 ((18 : Int32) + i1).toNatClampNeg))) → xCall g d mX12_load [.ref 655] 698 u w r 698 (fun rv10 u10 w10 r10 => rv10 = none ∧ w = w10 ∧ r = r10 ∧ vp_in ((18 : Int32) + i1) 92 ∧ (xCall g d mX12_standsAt [.ref 655, .int i2, .int (u10 684 ((18 : Int32) + i1).toNatClampNeg)] 698 u10 w r 698 (fun rv12 u12 w12 r12 => ∃ v12 : Int32, rv12 = some (.int v12) ∧ u10 = u12 ∧ w = w12 ∧ r = r12 ∧ (v12 = 0 → P (some (.int (0 : Int32))) u10 w r) ∧ (¬ (v12 = 0) → xCall g d mX12_lettersIn [.ref 655, .int i2] 698 u10 w r 698 (fun rv15 u15 w15 r15 => ∃ v15 : Int32, rv15 = some (.int v15) ∧ u10 = u15 ∧ w = w15 ∧ r = r15 ∧ vp_in i2 6 ∧ ((v15 = (u10 678 i2.toNatClampNeg) → P (some (.int (0 : Int32))) u10 w r) ∧ (¬ (v15 = (u10 678 i2.toNatClampNeg)) → xCall g d mX12_act [.ref 655] 698 u10 w r 698 (fun rv19 u19 w19 r19 => rv19 = none ∧ w = w19 ∧ r = r19 ∧ xCall g d mX12_putInto [.ref 655, .int i1, .int i2] 698 u19 w r 698 (fun rv20 u20 w20 r20 => rv20 = none ∧ w = w20 ∧ r = r20 ∧ xCall g d mX12_keep [.ref 655] 698 u20 w r 698 (fun rv21 u21 w21 r21 => rv21 = none ∧ w = w21 ∧ r = r21 ∧ P (some (.int (1 : Int32))) u21 w r)))))))))))))))) :
    xEv g (d + 1) mX12_hand 0 [some (.ref 655), some (.int i1), some (.int i2)] [] 698 u w r 698 P := by
  refine xe_aload_n dX12_hand_0 rfl ?_
  refine xe_iload_n dX12_hand_1 rfl ?_
  refine xe_callV (args := [.int i1]) dX12_hand_2 vlX12_499 rfl rfl (Nat.le_of_ble_eq_true rfl) kk655 (xKK_lt kk655) rfl rfl k (Nat.le_refl _) (fun rv1 u1 w1 r1 k => ?_)
  obtain ⟨v1, rfl, rfl, rfl, rfl, k⟩ := k
  refine xe_if_eq (tgt := 28) dX12_hand_5 rfl (fun c2 => ?_) (fun c3 => ?_)
  · have k := k.1 c2
    refine xe_iconst (v := 0) dX12_hand_28 rfl ?_
    exact xe_ireturn dX12_hand_29 (xrokZ (Or.inl rfl)) k
  · have k := k.2 (fun q => (c3 q))
    refine xe_aload_n dX12_hand_8 rfl ?_
    refine xe_iload_n dX12_hand_9 rfl ?_
    refine xe_callV (args := [.int i2]) dX12_hand_10 vlX12_493 rfl rfl (Nat.le_of_ble_eq_true rfl) kk655 (xKK_lt kk655) rfl rfl k (Nat.le_refl _) (fun rv4 u4 w4 r4 k => ?_)
    obtain ⟨v4, rfl, rfl, rfl, rfl, k⟩ := k
    obtain ⟨b7, k⟩ := k
    have K22 : (v4 = 0 ∨ ¬ (0 ≤ (u 683 ((18 : Int32) + i1).toNatClampNeg))) → xEv g (d + 1) mX12_hand 28 [some (.ref 655), some (.int i1), some (.int i2)] [] 698 u w r 698 P := fun c23 => by
      have k := k.1 c23
      refine xe_iconst (v := 0) dX12_hand_28 rfl ?_
      exact xe_ireturn dX12_hand_29 (xrokZ (Or.inl rfl)) k
    refine xe_if_eq (tgt := 28) dX12_hand_13 rfl (fun c5 => ?_) (fun c6 => ?_)
    · exact K22 (Or.inl c5)
    · refine xe_aload_n dX12_hand_16 rfl ?_
      refine xe_getR (b := 683) dX12_hand_17 flX12_99 kk655 (xKK_lt kk655) rfl (rf655_57 hr) ?_
      refine xe_bipush (v := 18) dX12_hand_20 rfl ?_
      refine xe_iload_n dX12_hand_22 rfl ?_
      refine xe_iadd dX12_hand_23 ?_
      refine xe_iald dX12_hand_24 kk683 (xKK_lt kk683) (b7 c6) ?_
      refine xe_if_ge (tgt := 30) dX12_hand_25 rfl (fun c8 => ?_) (fun c9 => ?_)
      · have k := k.2 (fun q => (q.elim (fun z => (c6 z)) (fun z => (z c8))))
        refine xe_aload_n dX12_hand_30 rfl ?_
        refine xe_callV (args := []) dX12_hand_31 vlX12_496 rfl rfl (Nat.le_of_ble_eq_true rfl) kk655 (xKK_lt kk655) rfl rfl k (Nat.le_refl _) (fun rv10 u10 w10 r10 k => ?_)
        obtain ⟨rfl, rfl, rfl, k⟩ := k
        refine xe_aload_n dX12_hand_34 rfl ?_
        refine xe_iload_n dX12_hand_35 rfl ?_
        refine xe_aload_n dX12_hand_36 rfl ?_
        refine xe_getR (b := 684) dX12_hand_37 flX12_102 kk655 (xKK_lt kk655) rfl (rf655_58 hr) ?_
        refine xe_bipush (v := 18) dX12_hand_40 rfl ?_
        refine xe_iload_n dX12_hand_42 rfl ?_
        refine xe_iadd dX12_hand_43 ?_
        obtain ⟨b11, k⟩ := k
        refine xe_iald dX12_hand_44 kk684 (xKK_lt kk684) b11 ?_
        refine xe_callV (args := [.int i2, .int (u10 684 ((18 : Int32) + i1).toNatClampNeg)]) dX12_hand_45 vlX12_469 rfl rfl (Nat.le_of_ble_eq_true rfl) kk655 (xKK_lt kk655) rfl rfl k (Nat.le_refl _) (fun rv12 u12 w12 r12 k => ?_)
        obtain ⟨v12, rfl, rfl, rfl, rfl, k⟩ := k
        refine xe_if_eq (tgt := 65) dX12_hand_48 rfl (fun c13 => ?_) (fun c14 => ?_)
        · have k := k.1 c13
          refine xe_iconst (v := 0) dX12_hand_65 rfl ?_
          exact xe_ireturn dX12_hand_66 (xrokZ (Or.inl rfl)) k
        · have k := k.2 (fun q => (c14 q))
          refine xe_aload_n dX12_hand_51 rfl ?_
          refine xe_iload_n dX12_hand_52 rfl ?_
          refine xe_callV (args := [.int i2]) dX12_hand_53 vlX12_472 rfl rfl (Nat.le_of_ble_eq_true rfl) kk655 (xKK_lt kk655) rfl rfl k (Nat.le_refl _) (fun rv15 u15 w15 r15 k => ?_)
          obtain ⟨v15, rfl, rfl, rfl, rfl, k⟩ := k
          refine xe_aload_n dX12_hand_56 rfl ?_
          refine xe_getR (b := 678) dX12_hand_57 flX12_81 kk655 (xKK_lt kk655) rfl (rf655_38 hr) ?_
          refine xe_iload_n dX12_hand_60 rfl ?_
          obtain ⟨b16, k⟩ := k
          refine xe_iald dX12_hand_61 kk678 (xKK_lt kk678) b16 ?_
          refine xe_icmp_ne (tgt := 67) dX12_hand_62 rfl (fun c17 => ?_) (fun c18 => ?_)
          · have k := k.2 (fun q => (c17 q))
            refine xe_aload_n dX12_hand_67 rfl ?_
            refine xe_callV (args := []) dX12_hand_68 vlX12_514 rfl rfl (Nat.le_of_ble_eq_true rfl) kk655 (xKK_lt kk655) rfl rfl k (Nat.le_refl _) (fun rv19 u19 w19 r19 k => ?_)
            obtain ⟨rfl, rfl, rfl, k⟩ := k
            refine xe_aload_n dX12_hand_71 rfl ?_
            refine xe_iload_n dX12_hand_72 rfl ?_
            refine xe_iload_n dX12_hand_73 rfl ?_
            refine xe_callV (args := [.int i1, .int i2]) dX12_hand_74 vlX12_475 rfl rfl (Nat.le_of_ble_eq_true rfl) kk655 (xKK_lt kk655) rfl rfl k (Nat.le_refl _) (fun rv20 u20 w20 r20 k => ?_)
            obtain ⟨rfl, rfl, rfl, k⟩ := k
            refine xe_aload_n dX12_hand_77 rfl ?_
            refine xe_callV (args := []) dX12_hand_78 vlX12_520 rfl rfl (Nat.le_of_ble_eq_true rfl) kk655 (xKK_lt kk655) rfl rfl k (Nat.le_refl _) (fun rv21 u21 w21 r21 k => ?_)
            obtain ⟨rfl, rfl, rfl, k⟩ := k
            refine xe_iconst (v := 1) dX12_hand_81 rfl ?_
            exact xe_ireturn dX12_hand_82 (xrokZ (Or.inr rfl)) k
          · have k := k.1 c18
            refine xe_iconst (v := 0) dX12_hand_65 rfl ?_
            exact xe_ireturn dX12_hand_66 (xrokZ (Or.inl rfl)) k
      · exact K22 (Or.inr c9)

theorem CX12_hand {g : xGT} {d : Nat} {i1 i2 : Int32} {u : xU} {w : xW} {r : xQ} {P : xPost} (hr : xRf r)
    (k : xCall g d mX12_isPosted [.ref 655, .int i1] 698 u w r 698 (fun rv1 u1 w1 r1 => ∃ v1 : Int32, rv1 = some (.int v1) ∧ u = u1 ∧ w = w1 ∧ r = r1 ∧ (v1 = 0 → P (some (.int (0 : Int32))) u w r) ∧ (¬ (v1 = 0) → xCall g d mX12_isBier [.ref 655, .int i2] 698 u w r 698 (fun rv4 u4 w4 r4 => ∃ v4 : Int32, rv4 = some (.int v4) ∧ u = u4 ∧ w = w4 ∧ r = r4 ∧ (¬ (v4 = 0) → vp_in ((18 : Int32) + i1) 92) ∧ (((v4 = 0 ∨ ¬ (0 ≤ (u 683 ((18 : Int32) + i1).toNatClampNeg))) → P (some (.int (0 : Int32))) u w r) ∧ (¬ (v4 = 0 ∨ ¬ (0 ≤ (u 683 ((18 : Int32) + i1).toNatClampNeg))) → xCall g d mX12_load [.ref 655] 698 u w r 698 (fun rv10 u10 w10 r10 => rv10 = none ∧ w = w10 ∧ r = r10 ∧ vp_in ((18 : Int32) + i1) 92 ∧ (xCall g d mX12_standsAt [.ref 655, .int i2, .int (u10 684 ((18 : Int32) + i1).toNatClampNeg)] 698 u10 w r 698 (fun rv12 u12 w12 r12 => ∃ v12 : Int32, rv12 = some (.int v12) ∧ u10 = u12 ∧ w = w12 ∧ r = r12 ∧ (v12 = 0 → P (some (.int (0 : Int32))) u10 w r) ∧ (¬ (v12 = 0) → xCall g d mX12_lettersIn [.ref 655, .int i2] 698 u10 w r 698 (fun rv15 u15 w15 r15 => ∃ v15 : Int32, rv15 = some (.int v15) ∧ u10 = u15 ∧ w = w15 ∧ r = r15 ∧ vp_in i2 6 ∧ ((v15 = (u10 678 i2.toNatClampNeg) → P (some (.int (0 : Int32))) u10 w r) ∧ (¬ (v15 = (u10 678 i2.toNatClampNeg)) → xCall g d mX12_act [.ref 655] 698 u10 w r 698 (fun rv19 u19 w19 r19 => rv19 = none ∧ w = w19 ∧ r = r19 ∧ xCall g d mX12_putInto [.ref 655, .int i1, .int i2] 698 u19 w r 698 (fun rv20 u20 w20 r20 => rv20 = none ∧ w = w20 ∧ r = r20 ∧ xCall g d mX12_keep [.ref 655] 698 u20 w r 698 (fun rv21 u21 w21 r21 => rv21 = none ∧ w = w21 ∧ r = r21 ∧ P (some (.int (1 : Int32))) u21 w r)))))))))))))))) :
    xCall g (d + 1) mX12_hand [.ref 655, .int i1, .int i2] 698 u w r 698 P :=
  xCall.of plX12 (Nat.le_of_ble_eq_true rfl) rfl (TX12_hand_0 hr k)

/-! FuneralPostModel.take -/

theorem TX12_take_0 {g : xGT} {d : Nat} {i1 : Int32} {u : xU} {w : xW} {r : xQ} {P : xPost} (hr : xRf r)
    (k : xCall g d mX12_isPosted [.ref 655, .int i1] 698 u w r 698 (fun rv1 u1 w1 r1 => ∃ v1 : Int32, rv1 = some (.int v1) ∧ u = u1 ∧ w = w1 ∧ r = r1 ∧ (¬ (v1 = 0) → vp_in ((28 : Int32) + i1) 92) ∧ ((¬ (v1 = 0) → ¬ ((u 683 ((28 : Int32) + i1).toNatClampNeg) < 0) → vp_in (u 683 ((28 : Int32) + i1).toNatClampNeg) 92) ∧ (((v1 = 0 ∨ ((u 683 ((28 : Int32) + i1).toNatClampNeg) < 0 ∨ ¬ ((u 683 (u 683 ((28 : Int32) + i1).toNatClampNeg).toNatClampNeg) = (1 : Int32)))) → P (some (.int (-1 : Int32))) u w r) ∧ (¬ (v1 = 0 ∨ ((u 683 ((28 : Int32) + i1).toNatClampNeg) < 0 ∨ ¬ ((u 683 (u 683 ((28 : Int32) + i1).toNatClampNeg).toNatClampNeg) = (1 : Int32)))) → xCall g d mX12_act [.ref 655] 698 u w r 698 (fun rv10 u10 w10 r10 => rv10 = none ∧ w = w10 ∧ r = r10 ∧ vp_in ((28 : Int32) + i1) 92 ∧ (vp_in ((6 : Int32) + (u10 683 ((28 : Int32) + i1).toNatClampNeg)) 92 ∧ (vp_in ((18 : Int32) + i1) 92 ∧ (P (some (.int (u10 683 ((28 : Int32) + i1).toNatClampNeg))) (x2 (x2 u10 683 ((28 : Int32) + i1).toNatClampNeg (-1 : Int32)) 683 ((18 : Int32) + i1).toNatClampNeg ((x2 u10 683 ((28 : Int32) + i1).toNatClampNeg (-1 : Int32)) 683 ((6 : Int32) + (u10 683 ((28 : Int32) + i1).toNatClampNeg)).toNatClampNeg)) w r))))))))) :
    xEv g (d + 1) mX12_take 0 [some (.ref 655), some (.int i1), none] [] 698 u w r 698 P := by
  refine xe_aload_n dX12_take_0 rfl ?_
  refine xe_iload_n dX12_take_1 rfl ?_
  refine xe_callV (args := [.int i1]) dX12_take_2 vlX12_499 rfl rfl (Nat.le_of_ble_eq_true rfl) kk655 (xKK_lt kk655) rfl rfl k (Nat.le_refl _) (fun rv1 u1 w1 r1 k => ?_)
  obtain ⟨v1, rfl, rfl, rfl, rfl, k⟩ := k
  obtain ⟨b4, k⟩ := k
  obtain ⟨b7, k⟩ := k
  have K14 : (v1 = 0 ∨ ((u 683 ((28 : Int32) + i1).toNatClampNeg) < 0 ∨ ¬ ((u 683 (u 683 ((28 : Int32) + i1).toNatClampNeg).toNatClampNeg) = (1 : Int32)))) → xEv g (d + 1) mX12_take 38 [some (.ref 655), some (.int i1), none] [] 698 u w r 698 P := fun c15 => by
    have k := k.1 c15
    refine xe_iconst (v := -1) dX12_take_38 rfl ?_
    exact xe_ireturn dX12_take_39 rfl k
  refine xe_if_eq (tgt := 38) dX12_take_5 rfl (fun c2 => ?_) (fun c3 => ?_)
  · exact K14 (Or.inl c2)
  · refine xe_aload_n dX12_take_8 rfl ?_
    refine xe_getR (b := 683) dX12_take_9 flX12_99 kk655 (xKK_lt kk655) rfl (rf655_57 hr) ?_
    refine xe_bipush (v := 28) dX12_take_12 rfl ?_
    refine xe_iload_n dX12_take_14 rfl ?_
    refine xe_iadd dX12_take_15 ?_
    refine xe_iald dX12_take_16 kk683 (xKK_lt kk683) (b4 c3) ?_
    refine xe_if_lt (tgt := 38) dX12_take_17 rfl (fun c5 => ?_) (fun c6 => ?_)
    · exact K14 (Or.inr (Or.inl c5))
    · refine xe_aload_n dX12_take_20 rfl ?_
      refine xe_getR (b := 683) dX12_take_21 flX12_99 kk655 (xKK_lt kk655) rfl (rf655_57 hr) ?_
      refine xe_aload_n dX12_take_24 rfl ?_
      refine xe_getR (b := 683) dX12_take_25 flX12_99 kk655 (xKK_lt kk655) rfl (rf655_57 hr) ?_
      refine xe_bipush (v := 28) dX12_take_28 rfl ?_
      refine xe_iload_n dX12_take_30 rfl ?_
      refine xe_iadd dX12_take_31 ?_
      refine xe_iald dX12_take_32 kk683 (xKK_lt kk683) (b4 c3) ?_
      refine xe_iald dX12_take_33 kk683 (xKK_lt kk683) (b7 c3 c6) ?_
      refine xe_iconst (v := 1) dX12_take_34 rfl ?_
      refine xe_icmp_eq (tgt := 40) dX12_take_35 rfl (fun c8 => ?_) (fun c9 => ?_)
      · have k := k.2 (fun q => (q.elim (fun z => (c3 z)) (fun z => (z.elim (fun z => (c6 z)) (fun z => (z c8))))))
        refine xe_aload_n dX12_take_40 rfl ?_
        refine xe_callV (args := []) dX12_take_41 vlX12_514 rfl rfl (Nat.le_of_ble_eq_true rfl) kk655 (xKK_lt kk655) rfl rfl k (Nat.le_refl _) (fun rv10 u10 w10 r10 k => ?_)
        obtain ⟨rfl, rfl, rfl, k⟩ := k
        refine xe_aload_n dX12_take_44 rfl ?_
        refine xe_getR (b := 683) dX12_take_45 flX12_99 kk655 (xKK_lt kk655) rfl (rf655_57 hr) ?_
        refine xe_bipush (v := 28) dX12_take_48 rfl ?_
        refine xe_iload_n dX12_take_50 rfl ?_
        refine xe_iadd dX12_take_51 ?_
        obtain ⟨b11, k⟩ := k
        refine xe_iald dX12_take_52 kk683 (xKK_lt kk683) b11 ?_
        refine xe_istore_n (ls' := [some (.ref 655), some (.int i1), some (.int (u10 683 ((28 : Int32) + i1).toNatClampNeg))]) dX12_take_53 rfl (by decide) rfl ?_
        refine xe_aload_n dX12_take_54 rfl ?_
        refine xe_getR (b := 683) dX12_take_55 flX12_99 kk655 (xKK_lt kk655) rfl (rf655_57 hr) ?_
        refine xe_bipush (v := 28) dX12_take_58 rfl ?_
        refine xe_iload_n dX12_take_60 rfl ?_
        refine xe_iadd dX12_take_61 ?_
        refine xe_iconst (v := -1) dX12_take_62 rfl ?_
        refine xe_iast dX12_take_63 kk683 (xKK_lt kk683) b11 ?_
        refine xe_aload_n dX12_take_64 rfl ?_
        refine xe_getR (b := 683) dX12_take_65 flX12_99 kk655 (xKK_lt kk655) rfl (rf655_57 hr) ?_
        refine xe_bipush (v := 18) dX12_take_68 rfl ?_
        refine xe_iload_n dX12_take_70 rfl ?_
        refine xe_iadd dX12_take_71 ?_
        refine xe_aload_n dX12_take_72 rfl ?_
        refine xe_getR (b := 683) dX12_take_73 flX12_99 kk655 (xKK_lt kk655) rfl (rf655_57 hr) ?_
        refine xe_bipush (v := 6) dX12_take_76 rfl ?_
        refine xe_iload_n dX12_take_78 rfl ?_
        refine xe_iadd dX12_take_79 ?_
        obtain ⟨b12, k⟩ := k
        refine xe_iald dX12_take_80 kk683 (xKK_lt kk683) b12 ?_
        obtain ⟨b13, k⟩ := k
        refine xe_iast dX12_take_81 kk683 (xKK_lt kk683) b13 ?_
        refine xe_iload_n dX12_take_82 rfl ?_
        exact xe_ireturn dX12_take_83 rfl k
      · exact K14 (Or.inr (Or.inr c9))

theorem CX12_take {g : xGT} {d : Nat} {i1 : Int32} {u : xU} {w : xW} {r : xQ} {P : xPost} (hr : xRf r)
    (k : xCall g d mX12_isPosted [.ref 655, .int i1] 698 u w r 698 (fun rv1 u1 w1 r1 => ∃ v1 : Int32, rv1 = some (.int v1) ∧ u = u1 ∧ w = w1 ∧ r = r1 ∧ (¬ (v1 = 0) → vp_in ((28 : Int32) + i1) 92) ∧ ((¬ (v1 = 0) → ¬ ((u 683 ((28 : Int32) + i1).toNatClampNeg) < 0) → vp_in (u 683 ((28 : Int32) + i1).toNatClampNeg) 92) ∧ (((v1 = 0 ∨ ((u 683 ((28 : Int32) + i1).toNatClampNeg) < 0 ∨ ¬ ((u 683 (u 683 ((28 : Int32) + i1).toNatClampNeg).toNatClampNeg) = (1 : Int32)))) → P (some (.int (-1 : Int32))) u w r) ∧ (¬ (v1 = 0 ∨ ((u 683 ((28 : Int32) + i1).toNatClampNeg) < 0 ∨ ¬ ((u 683 (u 683 ((28 : Int32) + i1).toNatClampNeg).toNatClampNeg) = (1 : Int32)))) → xCall g d mX12_act [.ref 655] 698 u w r 698 (fun rv10 u10 w10 r10 => rv10 = none ∧ w = w10 ∧ r = r10 ∧ vp_in ((28 : Int32) + i1) 92 ∧ (vp_in ((6 : Int32) + (u10 683 ((28 : Int32) + i1).toNatClampNeg)) 92 ∧ (vp_in ((18 : Int32) + i1) 92 ∧ (P (some (.int (u10 683 ((28 : Int32) + i1).toNatClampNeg))) (x2 (x2 u10 683 ((28 : Int32) + i1).toNatClampNeg (-1 : Int32)) 683 ((18 : Int32) + i1).toNatClampNeg ((x2 u10 683 ((28 : Int32) + i1).toNatClampNeg (-1 : Int32)) 683 ((6 : Int32) + (u10 683 ((28 : Int32) + i1).toNatClampNeg)).toNatClampNeg)) w r))))))))) :
    xCall g (d + 1) mX12_take [.ref 655, .int i1] 698 u w r 698 P :=
  xCall.of plX12 (Nat.le_of_ble_eq_true rfl) rfl (TX12_take_0 hr k)

/-! FuneralPostModel.close -/

theorem TX12_close_0 {g : xGT} {d : Nat} {i1 : Int32} {u : xU} {w : xW} {r : xQ} {P : xPost} (hr : xRf r)
    (k : xCall g d mX12_isIn [.int i1, .int (0 : Int32), .int ((u 655 50) - (1 : Int32))] 698 u w r 698 (fun rv1 u1 w1 r1 => ∃ v1 : Int32, rv1 = some (.int v1) ∧ u = u1 ∧ w = w1 ∧ r = r1 ∧ (v1 = 0 → P (some (.int (-1 : Int32))) u w r) ∧ (¬ (v1 = 0) → xCall g d mX12_act [.ref 655] 698 u w r 698 (fun rv4 u4 w4 r4 => rv4 = none ∧ w = w4 ∧ r = r4 ∧ P (some (.int ((((u4 683 89) ^^^ ((1 : Int32) <<< (i1 &&& 31))) >>> (i1 &&& 31)) &&& (1 : Int32)))) (x2 u4 683 89 ((u4 683 89) ^^^ ((1 : Int32) <<< (i1 &&& 31)))) w r)))) :
    xEv g (d + 1) mX12_close 0 [some (.ref 655), some (.int i1)] [] 698 u w r 698 P := by
  refine xe_iload_n dX12_close_0 rfl ?_
  refine xe_iconst (v := 0) dX12_close_1 rfl ?_
  refine xe_aload_n dX12_close_2 rfl ?_
  refine xe_getI dX12_close_3 flX12_398 kk655 (xKK_lt kk655) rfl ?_
  refine xe_iconst (v := 1) dX12_close_6 rfl ?_
  refine xe_isub dX12_close_7 ?_
  refine xe_callS (args := [.int i1, .int (0 : Int32), .int ((u 655 50) - (1 : Int32))]) dX12_close_8 slX12_426 rfl rfl (Nat.le_of_ble_eq_true rfl) k (Nat.le_refl _) (fun rv1 u1 w1 r1 k => ?_)
  obtain ⟨v1, rfl, rfl, rfl, rfl, k⟩ := k
  refine xe_if_ne (tgt := 16) dX12_close_11 rfl (fun c2 => ?_) (fun c3 => ?_)
  · have k := k.2 (fun q => (c2 q))
    refine xe_aload_n dX12_close_16 rfl ?_
    refine xe_callV (args := []) dX12_close_17 vlX12_514 rfl rfl (Nat.le_of_ble_eq_true rfl) kk655 (xKK_lt kk655) rfl rfl k (Nat.le_refl _) (fun rv4 u4 w4 r4 k => ?_)
    obtain ⟨rfl, rfl, rfl, k⟩ := k
    refine xe_aload_n dX12_close_20 rfl ?_
    refine xe_getR (b := 683) dX12_close_21 flX12_99 kk655 (xKK_lt kk655) rfl (rf655_57 hr) ?_
    refine xe_bipush (v := 89) dX12_close_24 rfl ?_
    refine xe_dup2 dX12_close_26 rfl rfl ?_
    refine xe_iald dX12_close_27 kk683 (xKK_lt kk683) (show ¬ ((89 : Int32) < 0 ∨ 92 ≤ (89 : Int32).toNatClampNeg) from by decide) ?_
    refine xe_iconst (v := 1) dX12_close_28 rfl ?_
    refine xe_iload_n dX12_close_29 rfl ?_
    refine xe_ishl dX12_close_30 ?_
    refine xe_ixor dX12_close_31 ?_
    refine xe_iast dX12_close_32 kk683 (xKK_lt kk683) (show ¬ ((89 : Int32) < 0 ∨ 92 ≤ (89 : Int32).toNatClampNeg) from by decide) ?_
    refine xe_aload_n dX12_close_33 rfl ?_
    refine xe_getR (b := 683) dX12_close_34 flX12_99 kk655 (xKK_lt kk655) rfl (rf655_57 hr) ?_
    refine xe_bipush (v := 89) dX12_close_37 rfl ?_
    refine xe_iald dX12_close_39 kk683 (xKK_lt kk683) (show ¬ ((89 : Int32) < 0 ∨ 92 ≤ (89 : Int32).toNatClampNeg) from by decide) ?_
    refine xe_iload_n dX12_close_40 rfl ?_
    refine xe_ishr dX12_close_41 ?_
    refine xe_iconst (v := 1) dX12_close_42 rfl ?_
    refine xe_iand dX12_close_43 ?_
    exact xe_ireturn dX12_close_44 rfl k
  · have k := k.1 c3
    refine xe_iconst (v := -1) dX12_close_14 rfl ?_
    exact xe_ireturn dX12_close_15 rfl k

theorem CX12_close {g : xGT} {d : Nat} {i1 : Int32} {u : xU} {w : xW} {r : xQ} {P : xPost} (hr : xRf r)
    (k : xCall g d mX12_isIn [.int i1, .int (0 : Int32), .int ((u 655 50) - (1 : Int32))] 698 u w r 698 (fun rv1 u1 w1 r1 => ∃ v1 : Int32, rv1 = some (.int v1) ∧ u = u1 ∧ w = w1 ∧ r = r1 ∧ (v1 = 0 → P (some (.int (-1 : Int32))) u w r) ∧ (¬ (v1 = 0) → xCall g d mX12_act [.ref 655] 698 u w r 698 (fun rv4 u4 w4 r4 => rv4 = none ∧ w = w4 ∧ r = r4 ∧ P (some (.int ((((u4 683 89) ^^^ ((1 : Int32) <<< (i1 &&& 31))) >>> (i1 &&& 31)) &&& (1 : Int32)))) (x2 u4 683 89 ((u4 683 89) ^^^ ((1 : Int32) <<< (i1 &&& 31)))) w r)))) :
    xCall g (d + 1) mX12_close [.ref 655, .int i1] 698 u w r 698 P :=
  xCall.of plX12 (Nat.le_of_ble_eq_true rfl) rfl (TX12_close_0 hr k)

/-! FuneralPostModel.undo -/

theorem TX12_undo_0 {g : xGT} {d : Nat} {u : xU} {w : xW} {r : xQ} {P : xPost}
    (k : ((u 655 63) = 0 → P (some (.int (0 : Int32))) u w r) ∧ (¬ ((u 655 63) = 0) → xCall g d mX12_exchange [.ref 655, .int ((92 : Int32) * ((u 655 63) - (1 : Int32)))] 698 (x2 (x2 u 655 63 ((u 655 63) - (1 : Int32))) 655 64 ((u 655 64) + (1 : Int32))) w r 698 (fun rv3 u3 w3 r3 => rv3 = none ∧ w = w3 ∧ r = r3 ∧ P (some (.int (1 : Int32))) u3 w r))) :
    xEv g (d + 1) mX12_undo 0 [some (.ref 655)] [] 698 u w r 698 P := by
  refine xe_aload_n dX12_undo_0 rfl ?_
  refine xe_getI dX12_undo_1 flX12_414 kk655 (xKK_lt kk655) rfl ?_
  refine xe_if_ne (tgt := 9) dX12_undo_4 rfl (fun c1 => ?_) (fun c2 => ?_)
  · have k := k.2 (fun q => (c1 q))
    refine xe_aload_n dX12_undo_9 rfl ?_
    refine xe_dup dX12_undo_10 rfl ?_
    refine xe_getI dX12_undo_11 flX12_414 kk655 (xKK_lt kk655) rfl ?_
    refine xe_iconst (v := 1) dX12_undo_14 rfl ?_
    refine xe_isub dX12_undo_15 ?_
    refine xe_putI dX12_undo_16 flX12_414 kk655 (xKK_lt kk655) nf12_63 rfl ?_
    refine xe_aload_n dX12_undo_19 rfl ?_
    refine xe_dup dX12_undo_20 rfl ?_
    refine xe_getI dX12_undo_21 flX12_417 kk655 (xKK_lt kk655) rfl ?_
    refine xe_iconst (v := 1) dX12_undo_24 rfl ?_
    refine xe_iadd dX12_undo_25 ?_
    refine xe_putI dX12_undo_26 flX12_417 kk655 (xKK_lt kk655) nf12_64 rfl ?_
    refine xe_aload_n dX12_undo_29 rfl ?_
    refine xe_bipush (v := 92) dX12_undo_30 rfl ?_
    refine xe_aload_n dX12_undo_32 rfl ?_
    refine xe_getI dX12_undo_33 flX12_414 kk655 (xKK_lt kk655) rfl ?_
    refine xe_imul dX12_undo_36 ?_
    refine xe_callV (args := [.int ((92 : Int32) * ((u 655 63) - (1 : Int32)))]) dX12_undo_37 vlX12_523 rfl rfl (Nat.le_of_ble_eq_true rfl) kk655 (xKK_lt kk655) rfl rfl k (Nat.le_refl _) (fun rv3 u3 w3 r3 k => ?_)
    obtain ⟨rfl, rfl, rfl, k⟩ := k
    refine xe_iconst (v := 1) dX12_undo_40 rfl ?_
    exact xe_ireturn dX12_undo_41 (xrokZ (Or.inr rfl)) k
  · have k := k.1 c2
    refine xe_iconst (v := 0) dX12_undo_7 rfl ?_
    exact xe_ireturn dX12_undo_8 (xrokZ (Or.inl rfl)) k

theorem CX12_undo {g : xGT} {d : Nat} {u : xU} {w : xW} {r : xQ} {P : xPost}
    (k : ((u 655 63) = 0 → P (some (.int (0 : Int32))) u w r) ∧ (¬ ((u 655 63) = 0) → xCall g d mX12_exchange [.ref 655, .int ((92 : Int32) * ((u 655 63) - (1 : Int32)))] 698 (x2 (x2 u 655 63 ((u 655 63) - (1 : Int32))) 655 64 ((u 655 64) + (1 : Int32))) w r 698 (fun rv3 u3 w3 r3 => rv3 = none ∧ w = w3 ∧ r = r3 ∧ P (some (.int (1 : Int32))) u3 w r))) :
    xCall g (d + 1) mX12_undo [.ref 655] 698 u w r 698 P :=
  xCall.of plX12 (Nat.le_of_ble_eq_true rfl) rfl (TX12_undo_0  k)

/-! FuneralPostModel.redo -/

theorem TX12_redo_0 {g : xGT} {d : Nat} {u : xU} {w : xW} {r : xQ} {P : xPost}
    (k : ((u 655 64) = 0 → P (some (.int (0 : Int32))) u w r) ∧ (¬ ((u 655 64) = 0) → xCall g d mX12_exchange [.ref 655, .int ((92 : Int32) * (u 655 63))] 698 u w r 698 (fun rv3 u3 w3 r3 => rv3 = none ∧ w = w3 ∧ r = r3 ∧ P (some (.int (1 : Int32))) (x2 (x2 u3 655 63 ((u3 655 63) + (1 : Int32))) 655 64 ((u3 655 64) - (1 : Int32))) w r))) :
    xEv g (d + 1) mX12_redo 0 [some (.ref 655)] [] 698 u w r 698 P := by
  refine xe_aload_n dX12_redo_0 rfl ?_
  refine xe_getI dX12_redo_1 flX12_417 kk655 (xKK_lt kk655) rfl ?_
  refine xe_if_ne (tgt := 9) dX12_redo_4 rfl (fun c1 => ?_) (fun c2 => ?_)
  · have k := k.2 (fun q => (c1 q))
    refine xe_aload_n dX12_redo_9 rfl ?_
    refine xe_bipush (v := 92) dX12_redo_10 rfl ?_
    refine xe_aload_n dX12_redo_12 rfl ?_
    refine xe_getI dX12_redo_13 flX12_414 kk655 (xKK_lt kk655) rfl ?_
    refine xe_imul dX12_redo_16 ?_
    refine xe_callV (args := [.int ((92 : Int32) * (u 655 63))]) dX12_redo_17 vlX12_523 rfl rfl (Nat.le_of_ble_eq_true rfl) kk655 (xKK_lt kk655) rfl rfl k (Nat.le_refl _) (fun rv3 u3 w3 r3 k => ?_)
    obtain ⟨rfl, rfl, rfl, k⟩ := k
    refine xe_aload_n dX12_redo_20 rfl ?_
    refine xe_dup dX12_redo_21 rfl ?_
    refine xe_getI dX12_redo_22 flX12_414 kk655 (xKK_lt kk655) rfl ?_
    refine xe_iconst (v := 1) dX12_redo_25 rfl ?_
    refine xe_iadd dX12_redo_26 ?_
    refine xe_putI dX12_redo_27 flX12_414 kk655 (xKK_lt kk655) nf12_63 rfl ?_
    refine xe_aload_n dX12_redo_30 rfl ?_
    refine xe_dup dX12_redo_31 rfl ?_
    refine xe_getI dX12_redo_32 flX12_417 kk655 (xKK_lt kk655) rfl ?_
    refine xe_iconst (v := 1) dX12_redo_35 rfl ?_
    refine xe_isub dX12_redo_36 ?_
    refine xe_putI dX12_redo_37 flX12_417 kk655 (xKK_lt kk655) nf12_64 rfl ?_
    refine xe_iconst (v := 1) dX12_redo_40 rfl ?_
    exact xe_ireturn dX12_redo_41 (xrokZ (Or.inr rfl)) k
  · have k := k.1 c2
    refine xe_iconst (v := 0) dX12_redo_7 rfl ?_
    exact xe_ireturn dX12_redo_8 (xrokZ (Or.inl rfl)) k

theorem CX12_redo {g : xGT} {d : Nat} {u : xU} {w : xW} {r : xQ} {P : xPost}
    (k : ((u 655 64) = 0 → P (some (.int (0 : Int32))) u w r) ∧ (¬ ((u 655 64) = 0) → xCall g d mX12_exchange [.ref 655, .int ((92 : Int32) * (u 655 63))] 698 u w r 698 (fun rv3 u3 w3 r3 => rv3 = none ∧ w = w3 ∧ r = r3 ∧ P (some (.int (1 : Int32))) (x2 (x2 u3 655 63 ((u3 655 63) + (1 : Int32))) 655 64 ((u3 655 64) - (1 : Int32))) w r))) :
    xCall g (d + 1) mX12_redo [.ref 655] 698 u w r 698 P :=
  xCall.of plX12 (Nat.le_of_ble_eq_true rfl) rfl (TX12_redo_0  k)

/-! FuneralPostModel.goToEnd -/

theorem TX12_goToEnd_0 {g : xGT} {d : Nat} {u : xU} {w : xW} {r : xQ} {P : xPost}
    (k : xCall g d mX12_load [.ref 655] 698 u w r 698 (fun rv1 u1 w1 r1 => rv1 = none ∧ w = w1 ∧ r = r1 ∧ xEv g (d + 1) mX12_goToEnd 4 [some (.ref 655)] [] 698 u1 w r 698 P)) :
    xEv g (d + 1) mX12_goToEnd 0 [some (.ref 655)] [] 698 u w r 698 P := by
  refine xe_aload_n dX12_goToEnd_0 rfl ?_
  refine xe_callV (args := []) dX12_goToEnd_1 vlX12_496 rfl rfl (Nat.le_of_ble_eq_true rfl) kk655 (xKK_lt kk655) rfl rfl k (Nat.le_refl _) (fun rv1 u1 w1 r1 k => ?_)
  obtain ⟨rfl, rfl, rfl, k⟩ := k
  exact k

theorem CX12_goToEnd {g : xGT} {d : Nat} {u : xU} {w : xW} {r : xQ} {P : xPost}
    (k : xCall g d mX12_load [.ref 655] 698 u w r 698 (fun rv1 u1 w1 r1 => rv1 = none ∧ w = w1 ∧ r = r1 ∧ xEv g (d + 1) mX12_goToEnd 4 [some (.ref 655)] [] 698 u1 w r 698 P)) :
    xCall g (d + 1) mX12_goToEnd [.ref 655] 698 u w r 698 P :=
  xCall.of plX12 (Nat.le_of_ble_eq_true rfl) rfl (TX12_goToEnd_0  k)

theorem TX12_goToEnd_4 {g : xGT} {d : Nat} {u : xU} {w : xW} {r : xQ} {P : xPost} (hr : xRf r)
    (k : ((300 : Int32) ≤ (u 684 90) → P none u w r) ∧ (¬ ((300 : Int32) ≤ (u 684 90)) → xCall g d mX12_goDay [.ref 655] 698 u w r 698 (fun rv4 u4 w4 r4 => ∃ v4 : Int32, rv4 = some (.int v4) ∧ w = w4 ∧ r = r4 ∧ xEv g (d + 1) mX12_goToEnd 4 [some (.ref 655)] [] 698 u4 w r 698 P))) :
    xEv g (d + 1) mX12_goToEnd 4 [some (.ref 655)] [] 698 u w r 698 P := by
  refine xe_aload_n dX12_goToEnd_4 rfl ?_
  refine xe_getR (b := 684) dX12_goToEnd_5 flX12_102 kk655 (xKK_lt kk655) rfl (rf655_58 hr) ?_
  refine xe_bipush (v := 90) dX12_goToEnd_8 rfl ?_
  refine xe_iald dX12_goToEnd_10 kk684 (xKK_lt kk684) (show ¬ ((90 : Int32) < 0 ∨ 92 ≤ (90 : Int32).toNatClampNeg) from by decide) ?_
  refine xe_sipush (v := 300) dX12_goToEnd_11 rfl ?_
  refine xe_icmp_ge (tgt := 25) dX12_goToEnd_14 rfl (fun c2 => ?_) (fun c3 => ?_)
  · have k := k.1 c2
    exact xe_return dX12_goToEnd_25 trivial k
  · have k := k.2 (fun q => (c3 q))
    refine xe_aload_n dX12_goToEnd_17 rfl ?_
    refine xe_callV (args := []) dX12_goToEnd_18 vlX12_517 rfl rfl (Nat.le_of_ble_eq_true rfl) kk655 (xKK_lt kk655) rfl rfl k (Nat.le_refl _) (fun rv4 u4 w4 r4 k => ?_)
    obtain ⟨v4, rfl, rfl, rfl, k⟩ := k
    refine xe_pop dX12_goToEnd_21 rfl ?_
    refine xe_goto (tgt := 4) dX12_goToEnd_22 rfl ?_
    exact k

/-! FuneralPostModel.comes -/

theorem TX12_comes_0 {g : xGT} {d : Nat} {i1 : Int32} {u : xU} {w : xW} {r : xQ} {P : xPost} (hr : xRf r)
    (k : xCall g d mX12_isPosted [.ref 655, .int i1] 698 u w r 698 (fun rv1 u1 w1 r1 => ∃ v1 : Int32, rv1 = some (.int v1) ∧ u = u1 ∧ w = w1 ∧ r = r1 ∧ (v1 = 0 → P (some (.int (-1 : Int32))) u w r) ∧ (¬ (v1 = 0) → xCall g d mX12_goToEnd [.ref 655] 698 u w r 698 (fun rv4 u4 w4 r4 => rv4 = none ∧ w = w4 ∧ r = r4 ∧ vp_in ((38 : Int32) + i1) 92 ∧ (P (some (.int (u4 684 ((38 : Int32) + i1).toNatClampNeg))) u4 w r))))) :
    xEv g (d + 1) mX12_comes 0 [some (.ref 655), some (.int i1)] [] 698 u w r 698 P := by
  refine xe_aload_n dX12_comes_0 rfl ?_
  refine xe_iload_n dX12_comes_1 rfl ?_
  refine xe_callV (args := [.int i1]) dX12_comes_2 vlX12_499 rfl rfl (Nat.le_of_ble_eq_true rfl) kk655 (xKK_lt kk655) rfl rfl k (Nat.le_refl _) (fun rv1 u1 w1 r1 k => ?_)
  obtain ⟨v1, rfl, rfl, rfl, rfl, k⟩ := k
  refine xe_if_ne (tgt := 10) dX12_comes_5 rfl (fun c2 => ?_) (fun c3 => ?_)
  · have k := k.2 (fun q => (c2 q))
    refine xe_aload_n dX12_comes_10 rfl ?_
    refine xe_callV (args := []) dX12_comes_11 vlX12_526 rfl rfl (Nat.le_of_ble_eq_true rfl) kk655 (xKK_lt kk655) rfl rfl k (Nat.le_refl _) (fun rv4 u4 w4 r4 k => ?_)
    obtain ⟨rfl, rfl, rfl, k⟩ := k
    refine xe_aload_n dX12_comes_14 rfl ?_
    refine xe_getR (b := 684) dX12_comes_15 flX12_102 kk655 (xKK_lt kk655) rfl (rf655_58 hr) ?_
    refine xe_bipush (v := 38) dX12_comes_18 rfl ?_
    refine xe_iload_n dX12_comes_20 rfl ?_
    refine xe_iadd dX12_comes_21 ?_
    obtain ⟨b5, k⟩ := k
    refine xe_iald dX12_comes_22 kk684 (xKK_lt kk684) b5 ?_
    exact xe_ireturn dX12_comes_23 rfl k
  · have k := k.1 c3
    refine xe_iconst (v := -1) dX12_comes_8 rfl ?_
    exact xe_ireturn dX12_comes_9 rfl k

theorem CX12_comes {g : xGT} {d : Nat} {i1 : Int32} {u : xU} {w : xW} {r : xQ} {P : xPost} (hr : xRf r)
    (k : xCall g d mX12_isPosted [.ref 655, .int i1] 698 u w r 698 (fun rv1 u1 w1 r1 => ∃ v1 : Int32, rv1 = some (.int v1) ∧ u = u1 ∧ w = w1 ∧ r = r1 ∧ (v1 = 0 → P (some (.int (-1 : Int32))) u w r) ∧ (¬ (v1 = 0) → xCall g d mX12_goToEnd [.ref 655] 698 u w r 698 (fun rv4 u4 w4 r4 => rv4 = none ∧ w = w4 ∧ r = r4 ∧ vp_in ((38 : Int32) + i1) 92 ∧ (P (some (.int (u4 684 ((38 : Int32) + i1).toNatClampNeg))) u4 w r))))) :
    xCall g (d + 1) mX12_comes [.ref 655, .int i1] 698 u w r 698 P :=
  xCall.of plX12 (Nat.le_of_ble_eq_true rfl) rfl (TX12_comes_0 hr k)

/-! FuneralPostModel.isInTime -/

theorem TX12_isInTime_0 {g : xGT} {d : Nat} {i1 : Int32} {u : xU} {w : xW} {r : xQ} {P : xPost} (hr : xRf r)
    (k : vp_in ((38 : Int32) + i1) 92 ∧ ((¬ ((u 684 ((38 : Int32) + i1).toNatClampNeg) < 0) → vp_in ((68 : Int32) + i1) 92) ∧ (P (some (.int (xb (¬ ((u 684 ((38 : Int32) + i1).toNatClampNeg) < 0) ∧ ¬ ((u 684 ((68 : Int32) + i1).toNatClampNeg) < (u 684 ((38 : Int32) + i1).toNatClampNeg)))))) u w r))) :
    xEv g d mX12_isInTime 0 [some (.ref 655), some (.int i1)] [] 698 u w r 698 P := by
  refine xe_aload_n dX12_isInTime_0 rfl ?_
  refine xe_getR (b := 684) dX12_isInTime_1 flX12_102 kk655 (xKK_lt kk655) rfl (rf655_58 hr) ?_
  refine xe_bipush (v := 38) dX12_isInTime_4 rfl ?_
  refine xe_iload_n dX12_isInTime_6 rfl ?_
  refine xe_iadd dX12_isInTime_7 ?_
  obtain ⟨b1, k⟩ := k
  refine xe_iald dX12_isInTime_8 kk684 (xKK_lt kk684) b1 ?_
  obtain ⟨b4, k⟩ := k
  have K7 : xEv g d mX12_isInTime 38 [some (.ref 655), some (.int i1)] [.int (xb (¬ ((u 684 ((38 : Int32) + i1).toNatClampNeg) < 0) ∧ ¬ ((u 684 ((68 : Int32) + i1).toNatClampNeg) < (u 684 ((38 : Int32) + i1).toNatClampNeg))))] 698 u w r 698 P := by
    exact xe_ireturn dX12_isInTime_38 (xrokZ (xb01 _)) k
  refine xe_if_lt (tgt := 37) dX12_isInTime_9 rfl (fun c2 => ?_) (fun c3 => ?_)
  · refine xe_iconst (v := 0) dX12_isInTime_37 rfl ?_
    exact xtop (xb_neg (show ¬ (¬ ((u 684 ((38 : Int32) + i1).toNatClampNeg) < 0) ∧ ¬ ((u 684 ((68 : Int32) + i1).toNatClampNeg) < (u 684 ((38 : Int32) + i1).toNatClampNeg))) from (fun q => (q.1 c2)))) K7
  · refine xe_aload_n dX12_isInTime_12 rfl ?_
    refine xe_getR (b := 684) dX12_isInTime_13 flX12_102 kk655 (xKK_lt kk655) rfl (rf655_58 hr) ?_
    refine xe_bipush (v := 38) dX12_isInTime_16 rfl ?_
    refine xe_iload_n dX12_isInTime_18 rfl ?_
    refine xe_iadd dX12_isInTime_19 ?_
    refine xe_iald dX12_isInTime_20 kk684 (xKK_lt kk684) b1 ?_
    refine xe_aload_n dX12_isInTime_21 rfl ?_
    refine xe_getR (b := 684) dX12_isInTime_22 flX12_102 kk655 (xKK_lt kk655) rfl (rf655_58 hr) ?_
    refine xe_bipush (v := 68) dX12_isInTime_25 rfl ?_
    refine xe_iload_n dX12_isInTime_27 rfl ?_
    refine xe_iadd dX12_isInTime_28 ?_
    refine xe_iald dX12_isInTime_29 kk684 (xKK_lt kk684) (b4 c3) ?_
    refine xe_icmp_gt (tgt := 37) dX12_isInTime_30 rfl (fun c5 => ?_) (fun c6 => ?_)
    · refine xe_iconst (v := 0) dX12_isInTime_37 rfl ?_
      exact xtop (xb_neg (show ¬ (¬ ((u 684 ((38 : Int32) + i1).toNatClampNeg) < 0) ∧ ¬ ((u 684 ((68 : Int32) + i1).toNatClampNeg) < (u 684 ((38 : Int32) + i1).toNatClampNeg))) from (fun q => (q.2 c5)))) K7
    · refine xe_iconst (v := 1) dX12_isInTime_33 rfl ?_
      refine xe_goto (tgt := 38) dX12_isInTime_34 rfl ?_
      exact xtop (xb_pos (show (¬ ((u 684 ((38 : Int32) + i1).toNatClampNeg) < 0) ∧ ¬ ((u 684 ((68 : Int32) + i1).toNatClampNeg) < (u 684 ((38 : Int32) + i1).toNatClampNeg))) from ⟨c3, c6⟩)) K7

theorem CX12_isInTime {g : xGT} {d : Nat} {i1 : Int32} {u : xU} {w : xW} {r : xQ} {P : xPost} (hr : xRf r)
    (k : vp_in ((38 : Int32) + i1) 92 ∧ ((¬ ((u 684 ((38 : Int32) + i1).toNatClampNeg) < 0) → vp_in ((68 : Int32) + i1) 92) ∧ (P (some (.int (xb (¬ ((u 684 ((38 : Int32) + i1).toNatClampNeg) < 0) ∧ ¬ ((u 684 ((68 : Int32) + i1).toNatClampNeg) < (u 684 ((38 : Int32) + i1).toNatClampNeg)))))) u w r))) :
    xCall g d mX12_isInTime [.ref 655, .int i1] 698 u w r 698 P :=
  xCall.of plX12 (Nat.le_of_ble_eq_true rfl) rfl (TX12_isInTime_0 hr k)

/-! FuneralPostModel.late -/

theorem TX12_late_0 {g : xGT} {d : Nat} {u : xU} {w : xW} {r : xQ} {P : xPost}
    (k : xCall g d mX12_goToEnd [.ref 655] 698 u w r 698 (fun rv1 u1 w1 r1 => rv1 = none ∧ w = w1 ∧ r = r1 ∧ xEv g (d + 1) mX12_late 8 [some (.ref 655), some (.int (0 : Int32)), some (.int (0 : Int32))] [] 698 u1 w r 698 P)) :
    xEv g (d + 1) mX12_late 0 [some (.ref 655), none, none] [] 698 u w r 698 P := by
  refine xe_aload_n dX12_late_0 rfl ?_
  refine xe_callV (args := []) dX12_late_1 vlX12_526 rfl rfl (Nat.le_of_ble_eq_true rfl) kk655 (xKK_lt kk655) rfl rfl k (Nat.le_refl _) (fun rv1 u1 w1 r1 k => ?_)
  obtain ⟨rfl, rfl, rfl, k⟩ := k
  refine xe_iconst (v := 0) dX12_late_4 rfl ?_
  refine xe_istore_n (ls' := [some (.ref 655), some (.int (0 : Int32)), none]) dX12_late_5 rfl (by decide) rfl ?_
  refine xe_iconst (v := 0) dX12_late_6 rfl ?_
  refine xe_istore_n (ls' := [some (.ref 655), some (.int (0 : Int32)), some (.int (0 : Int32))]) dX12_late_7 rfl (by decide) rfl ?_
  exact k

theorem CX12_late {g : xGT} {d : Nat} {u : xU} {w : xW} {r : xQ} {P : xPost}
    (k : xCall g d mX12_goToEnd [.ref 655] 698 u w r 698 (fun rv1 u1 w1 r1 => rv1 = none ∧ w = w1 ∧ r = r1 ∧ xEv g (d + 1) mX12_late 8 [some (.ref 655), some (.int (0 : Int32)), some (.int (0 : Int32))] [] 698 u1 w r 698 P)) :
    xCall g (d + 1) mX12_late [.ref 655] 698 u w r 698 P :=
  xCall.of plX12 (Nat.le_of_ble_eq_true rfl) rfl (TX12_late_0  k)

theorem TX12_late_8 {g : xGT} {d : Nat} {i1 i2 : Int32} {u : xU} {w : xW} {r : xQ} {P : xPost} (hr : xRf r)
    (k : ((u 684 88) ≤ i2 → P (some (.int i1)) u w r) ∧ (¬ ((u 684 88) ≤ i2) → xCall g d mX12_isInTime [.ref 655, .int i2] 698 u w r 698 (fun rv4 u4 w4 r4 => ∃ v4 : Int32, rv4 = some (.int v4) ∧ u = u4 ∧ w = w4 ∧ r = r4 ∧ xCall g d mX12_truth [.int (xb (v4 = 0))] 698 u w r 698 (fun rv7 u7 w7 r7 => ∃ v7 : Int32, rv7 = some (.int v7) ∧ u = u7 ∧ w = w7 ∧ r = r7 ∧ xEv g (d + 1) mX12_late 8 [some (.ref 655), some (.int (i1 ||| (v7 <<< (i2 &&& 31)))), some (.int (i2 + (1 : Int32)))] [] 698 u w r 698 P)))) :
    xEv g (d + 1) mX12_late 8 [some (.ref 655), some (.int i1), some (.int i2)] [] 698 u w r 698 P := by
  refine xe_iload_n dX12_late_8 rfl ?_
  refine xe_aload_n dX12_late_9 rfl ?_
  refine xe_getR (b := 684) dX12_late_10 flX12_102 kk655 (xKK_lt kk655) rfl (rf655_58 hr) ?_
  refine xe_bipush (v := 88) dX12_late_13 rfl ?_
  refine xe_iald dX12_late_15 kk684 (xKK_lt kk684) (show ¬ ((88 : Int32) < 0 ∨ 92 ≤ (88 : Int32).toNatClampNeg) from by decide) ?_
  refine xe_icmp_ge (tgt := 46) dX12_late_16 rfl (fun c2 => ?_) (fun c3 => ?_)
  · have k := k.1 c2
    refine xe_iload_n dX12_late_46 rfl ?_
    exact xe_ireturn dX12_late_47 rfl k
  · have k := k.2 (fun q => (c3 q))
    refine xe_iload_n dX12_late_19 rfl ?_
    refine xe_aload_n dX12_late_20 rfl ?_
    refine xe_iload_n dX12_late_21 rfl ?_
    refine xe_callV (args := [.int i2]) dX12_late_22 vlX12_529 rfl rfl (Nat.le_of_ble_eq_true rfl) kk655 (xKK_lt kk655) rfl rfl k (Nat.le_refl _) (fun rv4 u4 w4 r4 k => ?_)
    obtain ⟨v4, rfl, rfl, rfl, rfl, k⟩ := k
    have K8 : xEv g (d + 1) mX12_late 33 [some (.ref 655), some (.int i1), some (.int i2)] [.int (xb (v4 = 0)), .int i1] 698 u w r 698 P := by
      refine xe_callS (args := [.int (xb (v4 = 0))]) dX12_late_33 slX12_317 rfl rfl (Nat.le_of_ble_eq_true rfl) k (Nat.le_refl _) (fun rv7 u7 w7 r7 k => ?_)
      obtain ⟨v7, rfl, rfl, rfl, rfl, k⟩ := k
      refine xe_iload_n dX12_late_36 rfl ?_
      refine xe_ishl dX12_late_37 ?_
      refine xe_ior dX12_late_38 ?_
      refine xe_istore_n (ls' := [some (.ref 655), some (.int (i1 ||| (v7 <<< (i2 &&& 31)))), some (.int i2)]) dX12_late_39 rfl (by decide) rfl ?_
      refine xe_iinc (v := (i2 + (1 : Int32))) (ls' := [some (.ref 655), some (.int (i1 ||| (v7 <<< (i2 &&& 31)))), some (.int (i2 + (1 : Int32)))]) dX12_late_40 rfl (by decide) rfl rfl ?_
      refine xe_goto (tgt := 8) dX12_late_43 rfl ?_
      exact k
    refine xe_if_ne (tgt := 32) dX12_late_25 rfl (fun c5 => ?_) (fun c6 => ?_)
    · refine xe_iconst (v := 0) dX12_late_32 rfl ?_
      exact xtop (xb_neg (show ¬ (v4 = 0) from (fun q => (c5 q)))) K8
    · refine xe_iconst (v := 1) dX12_late_28 rfl ?_
      refine xe_goto (tgt := 33) dX12_late_29 rfl ?_
      exact xtop (xb_pos (show v4 = 0 from c6)) K8

/-! FuneralPostModel.worth -/

theorem TX12_worth_0 {g : xGT} {d : Nat} {u : xU} {w : xW} {r : xQ} {P : xPost}
    (k : xCall g d mX12_goToEnd [.ref 655] 698 u w r 698 (fun rv1 u1 w1 r1 => rv1 = none ∧ w = w1 ∧ r = r1 ∧ xEv g (d + 1) mX12_worth 8 [some (.ref 655), some (.int (0 : Int32)), some (.int (0 : Int32))] [] 698 u1 w r 698 P)) :
    xEv g (d + 1) mX12_worth 0 [some (.ref 655), none, none] [] 698 u w r 698 P := by
  refine xe_aload_n dX12_worth_0 rfl ?_
  refine xe_callV (args := []) dX12_worth_1 vlX12_526 rfl rfl (Nat.le_of_ble_eq_true rfl) kk655 (xKK_lt kk655) rfl rfl k (Nat.le_refl _) (fun rv1 u1 w1 r1 k => ?_)
  obtain ⟨rfl, rfl, rfl, k⟩ := k
  refine xe_iconst (v := 0) dX12_worth_4 rfl ?_
  refine xe_istore_n (ls' := [some (.ref 655), some (.int (0 : Int32)), none]) dX12_worth_5 rfl (by decide) rfl ?_
  refine xe_iconst (v := 0) dX12_worth_6 rfl ?_
  refine xe_istore_n (ls' := [some (.ref 655), some (.int (0 : Int32)), some (.int (0 : Int32))]) dX12_worth_7 rfl (by decide) rfl ?_
  exact k

theorem CX12_worth {g : xGT} {d : Nat} {u : xU} {w : xW} {r : xQ} {P : xPost}
    (k : xCall g d mX12_goToEnd [.ref 655] 698 u w r 698 (fun rv1 u1 w1 r1 => rv1 = none ∧ w = w1 ∧ r = r1 ∧ xEv g (d + 1) mX12_worth 8 [some (.ref 655), some (.int (0 : Int32)), some (.int (0 : Int32))] [] 698 u1 w r 698 P)) :
    xCall g (d + 1) mX12_worth [.ref 655] 698 u w r 698 P :=
  xCall.of plX12 (Nat.le_of_ble_eq_true rfl) rfl (TX12_worth_0  k)

theorem TX12_worth_8 {g : xGT} {d : Nat} {i1 i2 : Int32} {u : xU} {w : xW} {r : xQ} {P : xPost} (hr : xRf r)
    (k : ((u 684 88) ≤ i2 → P (some (.int i1)) u w r) ∧ (¬ ((u 684 88) ≤ i2) → xCall g d mX12_isInTime [.ref 655, .int i2] 698 u w r 698 (fun rv4 u4 w4 r4 => ∃ v4 : Int32, rv4 = some (.int v4) ∧ u = u4 ∧ w = w4 ∧ r = r4 ∧ (¬ (v4 = 0) → vp_in ((78 : Int32) + i2) 92) ∧ (xEv g (d + 1) mX12_worth 8 [some (.ref 655), some (.int (i1 + (if v4 = 0 then (0 : Int32) else (u 684 ((78 : Int32) + i2).toNatClampNeg)))), some (.int (i2 + (1 : Int32)))] [] 698 u w r 698 P)))) :
    xEv g (d + 1) mX12_worth 8 [some (.ref 655), some (.int i1), some (.int i2)] [] 698 u w r 698 P := by
  refine xe_iload_n dX12_worth_8 rfl ?_
  refine xe_aload_n dX12_worth_9 rfl ?_
  refine xe_getR (b := 684) dX12_worth_10 flX12_102 kk655 (xKK_lt kk655) rfl (rf655_58 hr) ?_
  refine xe_bipush (v := 88) dX12_worth_13 rfl ?_
  refine xe_iald dX12_worth_15 kk684 (xKK_lt kk684) (show ¬ ((88 : Int32) < 0 ∨ 92 ≤ (88 : Int32).toNatClampNeg) from by decide) ?_
  refine xe_icmp_ge (tgt := 49) dX12_worth_16 rfl (fun c2 => ?_) (fun c3 => ?_)
  · have k := k.1 c2
    refine xe_iload_n dX12_worth_49 rfl ?_
    exact xe_ireturn dX12_worth_50 rfl k
  · have k := k.2 (fun q => (c3 q))
    refine xe_iload_n dX12_worth_19 rfl ?_
    refine xe_aload_n dX12_worth_20 rfl ?_
    refine xe_iload_n dX12_worth_21 rfl ?_
    refine xe_callV (args := [.int i2]) dX12_worth_22 vlX12_529 rfl rfl (Nat.le_of_ble_eq_true rfl) kk655 (xKK_lt kk655) rfl rfl k (Nat.le_refl _) (fun rv4 u4 w4 r4 k => ?_)
    obtain ⟨v4, rfl, rfl, rfl, rfl, k⟩ := k
    obtain ⟨b7, k⟩ := k
    have K8 : xEv g (d + 1) mX12_worth 41 [some (.ref 655), some (.int i1), some (.int i2)] [.int (if v4 = 0 then (0 : Int32) else (u 684 ((78 : Int32) + i2).toNatClampNeg)), .int i1] 698 u w r 698 P := by
      refine xe_iadd dX12_worth_41 ?_
      refine xe_istore_n (ls' := [some (.ref 655), some (.int (i1 + (if v4 = 0 then (0 : Int32) else (u 684 ((78 : Int32) + i2).toNatClampNeg)))), some (.int i2)]) dX12_worth_42 rfl (by decide) rfl ?_
      refine xe_iinc (v := (i2 + (1 : Int32))) (ls' := [some (.ref 655), some (.int (i1 + (if v4 = 0 then (0 : Int32) else (u 684 ((78 : Int32) + i2).toNatClampNeg)))), some (.int (i2 + (1 : Int32)))]) dX12_worth_43 rfl (by decide) rfl rfl ?_
      refine xe_goto (tgt := 8) dX12_worth_46 rfl ?_
      exact k
    refine xe_if_eq (tgt := 40) dX12_worth_25 rfl (fun c5 => ?_) (fun c6 => ?_)
    · refine xe_iconst (v := 0) dX12_worth_40 rfl ?_
      exact xtop (if_pos c5) K8
    · refine xe_aload_n dX12_worth_28 rfl ?_
      refine xe_getR (b := 684) dX12_worth_29 flX12_102 kk655 (xKK_lt kk655) rfl (rf655_58 hr) ?_
      refine xe_bipush (v := 78) dX12_worth_32 rfl ?_
      refine xe_iload_n dX12_worth_34 rfl ?_
      refine xe_iadd dX12_worth_35 ?_
      refine xe_iald dX12_worth_36 kk684 (xKK_lt kk684) (b7 (fun q => (c6 q))) ?_
      refine xe_goto (tgt := 41) dX12_worth_37 rfl ?_
      exact xtop (if_neg (fun q => (c6 q))) K8

/-! FuneralPostModel.stuck -/

theorem TX12_stuck_0 {g : xGT} {d : Nat} {u : xU} {w : xW} {r : xQ} {P : xPost}
    (k : xCall g d mX12_goToEnd [.ref 655] 698 u w r 698 (fun rv1 u1 w1 r1 => rv1 = none ∧ w = w1 ∧ r = r1 ∧ xEv g (d + 1) mX12_stuck 8 [some (.ref 655), some (.int (0 : Int32)), some (.int (0 : Int32))] [] 698 u1 w r 698 P)) :
    xEv g (d + 1) mX12_stuck 0 [some (.ref 655), none, none] [] 698 u w r 698 P := by
  refine xe_aload_n dX12_stuck_0 rfl ?_
  refine xe_callV (args := []) dX12_stuck_1 vlX12_526 rfl rfl (Nat.le_of_ble_eq_true rfl) kk655 (xKK_lt kk655) rfl rfl k (Nat.le_refl _) (fun rv1 u1 w1 r1 k => ?_)
  obtain ⟨rfl, rfl, rfl, k⟩ := k
  refine xe_iconst (v := 0) dX12_stuck_4 rfl ?_
  refine xe_istore_n (ls' := [some (.ref 655), some (.int (0 : Int32)), none]) dX12_stuck_5 rfl (by decide) rfl ?_
  refine xe_iconst (v := 0) dX12_stuck_6 rfl ?_
  refine xe_istore_n (ls' := [some (.ref 655), some (.int (0 : Int32)), some (.int (0 : Int32))]) dX12_stuck_7 rfl (by decide) rfl ?_
  exact k

theorem CX12_stuck {g : xGT} {d : Nat} {u : xU} {w : xW} {r : xQ} {P : xPost}
    (k : xCall g d mX12_goToEnd [.ref 655] 698 u w r 698 (fun rv1 u1 w1 r1 => rv1 = none ∧ w = w1 ∧ r = r1 ∧ xEv g (d + 1) mX12_stuck 8 [some (.ref 655), some (.int (0 : Int32)), some (.int (0 : Int32))] [] 698 u1 w r 698 P)) :
    xCall g (d + 1) mX12_stuck [.ref 655] 698 u w r 698 P :=
  xCall.of plX12 (Nat.le_of_ble_eq_true rfl) rfl (TX12_stuck_0  k)

set_option maxRecDepth 20000 in
theorem TX12_stuck_8 {g : xGT} {d : Nat} {i1 i2 : Int32} {u : xU} {w : xW} {r : xQ} {P : xPost} (hr : xRf r)
    (k : ((u 684 88) ≤ i2 → P (some (.int i1)) u w r) ∧ (¬ ((u 684 88) ≤ i2) → vp_in ((18 : Int32) + i2) 92 ∧ ((¬ ((u 683 ((18 : Int32) + i2).toNatClampNeg) < 0) → (u 684 ((18 : Int32) + i2).toNatClampNeg) = (u 683 ((18 : Int32) + i2).toNatClampNeg) → vp_in ((48 : Int32) + i2) 92) ∧ (xCall g d mX12_truth [.int (xb (¬ ((u 683 ((18 : Int32) + i2).toNatClampNeg) < 0) ∧ ((u 684 ((18 : Int32) + i2).toNatClampNeg) = (u 683 ((18 : Int32) + i2).toNatClampNeg) ∧ (u 684 ((48 : Int32) + i2).toNatClampNeg) = (u 683 ((48 : Int32) + i2).toNatClampNeg))))] 698 u w r 698 (fun rv12 u12 w12 r12 => ∃ v12 : Int32, rv12 = some (.int v12) ∧ u = u12 ∧ w = w12 ∧ r = r12 ∧ xEv g (d + 1) mX12_stuck 8 [some (.ref 655), some (.int (i1 ||| (v12 <<< (i2 &&& 31)))), some (.int (i2 + (1 : Int32)))] [] 698 u w r 698 P))))) :
    xEv g (d + 1) mX12_stuck 8 [some (.ref 655), some (.int i1), some (.int i2)] [] 698 u w r 698 P := by
  refine xe_iload_n dX12_stuck_8 rfl ?_
  refine xe_aload_n dX12_stuck_9 rfl ?_
  refine xe_getR (b := 684) dX12_stuck_10 flX12_102 kk655 (xKK_lt kk655) rfl (rf655_58 hr) ?_
  refine xe_bipush (v := 88) dX12_stuck_13 rfl ?_
  refine xe_iald dX12_stuck_15 kk684 (xKK_lt kk684) (show ¬ ((88 : Int32) < 0 ∨ 92 ≤ (88 : Int32).toNatClampNeg) from by decide) ?_
  refine xe_icmp_ge (tgt := 92) dX12_stuck_16 rfl (fun c2 => ?_) (fun c3 => ?_)
  · have k := k.1 c2
    refine xe_iload_n dX12_stuck_92 rfl ?_
    exact xe_ireturn dX12_stuck_93 rfl k
  · have k := k.2 (fun q => (c3 q))
    refine xe_iload_n dX12_stuck_19 rfl ?_
    refine xe_aload_n dX12_stuck_20 rfl ?_
    refine xe_getR (b := 683) dX12_stuck_21 flX12_99 kk655 (xKK_lt kk655) rfl (rf655_57 hr) ?_
    refine xe_bipush (v := 18) dX12_stuck_24 rfl ?_
    refine xe_iload_n dX12_stuck_26 rfl ?_
    refine xe_iadd dX12_stuck_27 ?_
    obtain ⟨b4, k⟩ := k
    refine xe_iald dX12_stuck_28 kk683 (xKK_lt kk683) b4 ?_
    obtain ⟨b9, k⟩ := k
    have K13 : xEv g (d + 1) mX12_stuck 79 [some (.ref 655), some (.int i1), some (.int i2)] [.int (xb (¬ ((u 683 ((18 : Int32) + i2).toNatClampNeg) < 0) ∧ ((u 684 ((18 : Int32) + i2).toNatClampNeg) = (u 683 ((18 : Int32) + i2).toNatClampNeg) ∧ (u 684 ((48 : Int32) + i2).toNatClampNeg) = (u 683 ((48 : Int32) + i2).toNatClampNeg)))), .int i1] 698 u w r 698 P := by
      refine xe_callS (args := [.int (xb (¬ ((u 683 ((18 : Int32) + i2).toNatClampNeg) < 0) ∧ ((u 684 ((18 : Int32) + i2).toNatClampNeg) = (u 683 ((18 : Int32) + i2).toNatClampNeg) ∧ (u 684 ((48 : Int32) + i2).toNatClampNeg) = (u 683 ((48 : Int32) + i2).toNatClampNeg))))]) dX12_stuck_79 slX12_317 rfl rfl (Nat.le_of_ble_eq_true rfl) k (Nat.le_refl _) (fun rv12 u12 w12 r12 k => ?_)
      obtain ⟨v12, rfl, rfl, rfl, rfl, k⟩ := k
      refine xe_iload_n dX12_stuck_82 rfl ?_
      refine xe_ishl dX12_stuck_83 ?_
      refine xe_ior dX12_stuck_84 ?_
      refine xe_istore_n (ls' := [some (.ref 655), some (.int (i1 ||| (v12 <<< (i2 &&& 31)))), some (.int i2)]) dX12_stuck_85 rfl (by decide) rfl ?_
      refine xe_iinc (v := (i2 + (1 : Int32))) (ls' := [some (.ref 655), some (.int (i1 ||| (v12 <<< (i2 &&& 31)))), some (.int (i2 + (1 : Int32)))]) dX12_stuck_86 rfl (by decide) rfl rfl ?_
      refine xe_goto (tgt := 8) dX12_stuck_89 rfl ?_
      exact k
    refine xe_if_lt (tgt := 78) dX12_stuck_29 rfl (fun c5 => ?_) (fun c6 => ?_)
    · refine xe_iconst (v := 0) dX12_stuck_78 rfl ?_
      exact xtop (xb_neg (show ¬ (¬ ((u 683 ((18 : Int32) + i2).toNatClampNeg) < 0) ∧ ((u 684 ((18 : Int32) + i2).toNatClampNeg) = (u 683 ((18 : Int32) + i2).toNatClampNeg) ∧ (u 684 ((48 : Int32) + i2).toNatClampNeg) = (u 683 ((48 : Int32) + i2).toNatClampNeg))) from (fun q => (q.1 c5)))) K13
    · refine xe_aload_n dX12_stuck_32 rfl ?_
      refine xe_getR (b := 684) dX12_stuck_33 flX12_102 kk655 (xKK_lt kk655) rfl (rf655_58 hr) ?_
      refine xe_bipush (v := 18) dX12_stuck_36 rfl ?_
      refine xe_iload_n dX12_stuck_38 rfl ?_
      refine xe_iadd dX12_stuck_39 ?_
      refine xe_iald dX12_stuck_40 kk684 (xKK_lt kk684) b4 ?_
      refine xe_aload_n dX12_stuck_41 rfl ?_
      refine xe_getR (b := 683) dX12_stuck_42 flX12_99 kk655 (xKK_lt kk655) rfl (rf655_57 hr) ?_
      refine xe_bipush (v := 18) dX12_stuck_45 rfl ?_
      refine xe_iload_n dX12_stuck_47 rfl ?_
      refine xe_iadd dX12_stuck_48 ?_
      refine xe_iald dX12_stuck_49 kk683 (xKK_lt kk683) b4 ?_
      refine xe_icmp_ne (tgt := 78) dX12_stuck_50 rfl (fun c7 => ?_) (fun c8 => ?_)
      · refine xe_iconst (v := 0) dX12_stuck_78 rfl ?_
        exact xtop (xb_neg (show ¬ (¬ ((u 683 ((18 : Int32) + i2).toNatClampNeg) < 0) ∧ ((u 684 ((18 : Int32) + i2).toNatClampNeg) = (u 683 ((18 : Int32) + i2).toNatClampNeg) ∧ (u 684 ((48 : Int32) + i2).toNatClampNeg) = (u 683 ((48 : Int32) + i2).toNatClampNeg))) from (fun q => (c7 q.2.1)))) K13
      · refine xe_aload_n dX12_stuck_53 rfl ?_
        refine xe_getR (b := 684) dX12_stuck_54 flX12_102 kk655 (xKK_lt kk655) rfl (rf655_58 hr) ?_
        refine xe_bipush (v := 48) dX12_stuck_57 rfl ?_
        refine xe_iload_n dX12_stuck_59 rfl ?_
        refine xe_iadd dX12_stuck_60 ?_
        refine xe_iald dX12_stuck_61 kk684 (xKK_lt kk684) (b9 c6 c8) ?_
        refine xe_aload_n dX12_stuck_62 rfl ?_
        refine xe_getR (b := 683) dX12_stuck_63 flX12_99 kk655 (xKK_lt kk655) rfl (rf655_57 hr) ?_
        refine xe_bipush (v := 48) dX12_stuck_66 rfl ?_
        refine xe_iload_n dX12_stuck_68 rfl ?_
        refine xe_iadd dX12_stuck_69 ?_
        refine xe_iald dX12_stuck_70 kk683 (xKK_lt kk683) (b9 c6 c8) ?_
        refine xe_icmp_ne (tgt := 78) dX12_stuck_71 rfl (fun c10 => ?_) (fun c11 => ?_)
        · refine xe_iconst (v := 0) dX12_stuck_78 rfl ?_
          exact xtop (xb_neg (show ¬ (¬ ((u 683 ((18 : Int32) + i2).toNatClampNeg) < 0) ∧ ((u 684 ((18 : Int32) + i2).toNatClampNeg) = (u 683 ((18 : Int32) + i2).toNatClampNeg) ∧ (u 684 ((48 : Int32) + i2).toNatClampNeg) = (u 683 ((48 : Int32) + i2).toNatClampNeg))) from (fun q => (c10 q.2.2)))) K13
        · refine xe_iconst (v := 1) dX12_stuck_74 rfl ?_
          refine xe_goto (tgt := 79) dX12_stuck_75 rfl ?_
          exact xtop (xb_pos (show (¬ ((u 683 ((18 : Int32) + i2).toNatClampNeg) < 0) ∧ ((u 684 ((18 : Int32) + i2).toNatClampNeg) = (u 683 ((18 : Int32) + i2).toNatClampNeg) ∧ (u 684 ((48 : Int32) + i2).toNatClampNeg) = (u 683 ((48 : Int32) + i2).toNatClampNeg))) from ⟨c6, ⟨c8, c11⟩⟩)) K13

/-! FuneralPostModel.meets -/

theorem TX12_meets_0 {g : xGT} {d : Nat} {i1 i2 i3 : Int32} {u : xU} {w : xW} {r : xQ} {P : xPost}
    (k : xCall g d mX12_isBier [.ref 655, .int i1] 698 u w r 698 (fun rv1 u1 w1 r1 => ∃ v1 : Int32, rv1 = some (.int v1) ∧ u = u1 ∧ w = w1 ∧ r = r1 ∧ (v1 = 0 → P (some (.int (-1 : Int32))) u w r) ∧ (¬ (v1 = 0) → xCall g d mX12_isBier [.ref 655, .int i2] 698 u w r 698 (fun rv4 u4 w4 r4 => ∃ v4 : Int32, rv4 = some (.int v4) ∧ u = u4 ∧ w = w4 ∧ r = r4 ∧ ((¬ (v4 = 0) ∧ ¬ (i1 = i2)) → xCall g d mX12_isIn [.int i3, .int (0 : Int32), .int (1 : Int32)] 698 u w r 698 (fun rv9 u9 w9 r9 => ∃ v9 : Int32, rv9 = some (.int v9) ∧ u = u9 ∧ w = w9 ∧ r = r9 ∧ (v9 = 0 → P (some (.int (-1 : Int32))) u w r) ∧ (¬ (v9 = 0) → xCall g d mX12_load [.ref 655] 698 u w r 698 (fun rv12 u12 w12 r12 => rv12 = none ∧ w = w12 ∧ r = r12 ∧ xEv g (d + 1) mX12_meets 36 [some (.ref 655), some (.int i1), some (.int i2), some (.int i3)] [] 698 u12 w r 698 P)))) ∧ (¬ (¬ (v4 = 0) ∧ ¬ (i1 = i2)) → P (some (.int (-1 : Int32))) u w r))))) :
    xEv g (d + 1) mX12_meets 0 [some (.ref 655), some (.int i1), some (.int i2), some (.int i3)] [] 698 u w r 698 P := by
  refine xe_aload_n dX12_meets_0 rfl ?_
  refine xe_iload_n dX12_meets_1 rfl ?_
  refine xe_callV (args := [.int i1]) dX12_meets_2 vlX12_493 rfl rfl (Nat.le_of_ble_eq_true rfl) kk655 (xKK_lt kk655) rfl rfl k (Nat.le_refl _) (fun rv1 u1 w1 r1 k => ?_)
  obtain ⟨v1, rfl, rfl, rfl, rfl, k⟩ := k
  refine xe_if_eq (tgt := 30) dX12_meets_5 rfl (fun c2 => ?_) (fun c3 => ?_)
  · have k := k.1 c2
    refine xe_iconst (v := -1) dX12_meets_30 rfl ?_
    exact xe_ireturn dX12_meets_31 rfl k
  · have k := k.2 (fun q => (c3 q))
    refine xe_aload_n dX12_meets_8 rfl ?_
    refine xe_iload_n dX12_meets_9 rfl ?_
    refine xe_callV (args := [.int i2]) dX12_meets_10 vlX12_493 rfl rfl (Nat.le_of_ble_eq_true rfl) kk655 (xKK_lt kk655) rfl rfl k (Nat.le_refl _) (fun rv4 u4 w4 r4 k => ?_)
    obtain ⟨v4, rfl, rfl, rfl, rfl, k⟩ := k
    have K13 : ¬ (¬ (v4 = 0) ∧ ¬ (i1 = i2)) → xEv g (d + 1) mX12_meets 30 [some (.ref 655), some (.int i1), some (.int i2), some (.int i3)] [] 698 u w r 698 P := fun c14 => by
      have k := k.2 c14
      refine xe_iconst (v := -1) dX12_meets_30 rfl ?_
      exact xe_ireturn dX12_meets_31 rfl k
    refine xe_if_eq (tgt := 30) dX12_meets_13 rfl (fun c5 => ?_) (fun c6 => ?_)
    · exact K13 (fun q => (q.1 c5))
    · refine xe_iload_n dX12_meets_16 rfl ?_
      refine xe_iload_n dX12_meets_17 rfl ?_
      refine xe_icmp_eq (tgt := 30) dX12_meets_18 rfl (fun c7 => ?_) (fun c8 => ?_)
      · exact K13 (fun q => (q.2 c7))
      · have k := k.1 ⟨c6, c8⟩
        refine xe_iload_n dX12_meets_21 rfl ?_
        refine xe_iconst (v := 0) dX12_meets_22 rfl ?_
        refine xe_iconst (v := 1) dX12_meets_23 rfl ?_
        refine xe_callS (args := [.int i3, .int (0 : Int32), .int (1 : Int32)]) dX12_meets_24 slX12_426 rfl rfl (Nat.le_of_ble_eq_true rfl) k (Nat.le_refl _) (fun rv9 u9 w9 r9 k => ?_)
        obtain ⟨v9, rfl, rfl, rfl, rfl, k⟩ := k
        refine xe_if_ne (tgt := 32) dX12_meets_27 rfl (fun c10 => ?_) (fun c11 => ?_)
        · have k := k.2 (fun q => (c10 q))
          refine xe_aload_n dX12_meets_32 rfl ?_
          refine xe_callV (args := []) dX12_meets_33 vlX12_496 rfl rfl (Nat.le_of_ble_eq_true rfl) kk655 (xKK_lt kk655) rfl rfl k (Nat.le_refl _) (fun rv12 u12 w12 r12 k => ?_)
          obtain ⟨rfl, rfl, rfl, k⟩ := k
          exact k
        · have k := k.1 c11
          refine xe_iconst (v := -1) dX12_meets_30 rfl ?_
          exact xe_ireturn dX12_meets_31 rfl k

theorem CX12_meets {g : xGT} {d : Nat} {i1 i2 i3 : Int32} {u : xU} {w : xW} {r : xQ} {P : xPost}
    (k : xCall g d mX12_isBier [.ref 655, .int i1] 698 u w r 698 (fun rv1 u1 w1 r1 => ∃ v1 : Int32, rv1 = some (.int v1) ∧ u = u1 ∧ w = w1 ∧ r = r1 ∧ (v1 = 0 → P (some (.int (-1 : Int32))) u w r) ∧ (¬ (v1 = 0) → xCall g d mX12_isBier [.ref 655, .int i2] 698 u w r 698 (fun rv4 u4 w4 r4 => ∃ v4 : Int32, rv4 = some (.int v4) ∧ u = u4 ∧ w = w4 ∧ r = r4 ∧ ((¬ (v4 = 0) ∧ ¬ (i1 = i2)) → xCall g d mX12_isIn [.int i3, .int (0 : Int32), .int (1 : Int32)] 698 u w r 698 (fun rv9 u9 w9 r9 => ∃ v9 : Int32, rv9 = some (.int v9) ∧ u = u9 ∧ w = w9 ∧ r = r9 ∧ (v9 = 0 → P (some (.int (-1 : Int32))) u w r) ∧ (¬ (v9 = 0) → xCall g d mX12_load [.ref 655] 698 u w r 698 (fun rv12 u12 w12 r12 => rv12 = none ∧ w = w12 ∧ r = r12 ∧ xEv g (d + 1) mX12_meets 36 [some (.ref 655), some (.int i1), some (.int i2), some (.int i3)] [] 698 u12 w r 698 P)))) ∧ (¬ (¬ (v4 = 0) ∧ ¬ (i1 = i2)) → P (some (.int (-1 : Int32))) u w r))))) :
    xCall g (d + 1) mX12_meets [.ref 655, .int i1, .int i2, .int i3] 698 u w r 698 P :=
  xCall.of plX12 (Nat.le_of_ble_eq_true rfl) rfl (TX12_meets_0  k)

theorem TX12_meets_36 {g : xGT} {d : Nat} {i1 i2 i3 : Int32} {u : xU} {w : xW} {r : xQ} {P : xPost} (hr : xRf r)
    (k : ((300 : Int32) ≤ (u 684 90) → P (some (.int (-1 : Int32))) u w r) ∧ (¬ ((300 : Int32) ≤ (u 684 90)) → xCall g d mX12_stepOne [.ref 655] 698 u w r 698 (fun rv17 u17 w17 r17 => rv17 = none ∧ w = w17 ∧ r = r17 ∧ vp_in i1 92 ∧ (((u17 684 i1.toNatClampNeg) = (1 : Int32) → vp_in ((6 : Int32) + i1) 92 ∧ (xCall g d mX12_standsAt [.ref 655, .int i2, .int (u17 684 ((6 : Int32) + i1).toNatClampNeg)] 698 u17 w r 698 (fun rv22 u22 w22 r22 => ∃ v22 : Int32, rv22 = some (.int v22) ∧ u17 = u22 ∧ w = w22 ∧ r = r22 ∧ (v22 = 0 → xEv g (d + 1) mX12_meets 104 [some (.ref 655), some (.int i1), some (.int i2), some (.int i3)] [] 698 u17 w r 698 P) ∧ (¬ (v22 = 0) → P (some (.int (if i3 = 0 then (u17 684 90) else (u17 684 ((6 : Int32) + i1).toNatClampNeg)))) u17 w r)))) ∧ (¬ ((u17 684 i1.toNatClampNeg) = (1 : Int32)) → xEv g (d + 1) mX12_meets 104 [some (.ref 655), some (.int i1), some (.int i2), some (.int i3)] [] 698 u17 w r 698 P))))) :
    xEv g (d + 1) mX12_meets 36 [some (.ref 655), some (.int i1), some (.int i2), some (.int i3)] [] 698 u w r 698 P := by
  refine xe_aload_n dX12_meets_36 rfl ?_
  refine xe_getR (b := 684) dX12_meets_37 flX12_102 kk655 (xKK_lt kk655) rfl (rf655_58 hr) ?_
  refine xe_bipush (v := 90) dX12_meets_40 rfl ?_
  refine xe_iald dX12_meets_42 kk684 (xKK_lt kk684) (show ¬ ((90 : Int32) < 0 ∨ 92 ≤ (90 : Int32).toNatClampNeg) from by decide) ?_
  refine xe_sipush (v := 300) dX12_meets_43 rfl ?_
  refine xe_icmp_ge (tgt := 111) dX12_meets_46 rfl (fun c15 => ?_) (fun c16 => ?_)
  · have k := k.1 c15
    refine xe_iconst (v := -1) dX12_meets_111 rfl ?_
    exact xe_ireturn dX12_meets_112 rfl k
  · have k := k.2 (fun q => (c16 q))
    refine xe_aload_n dX12_meets_49 rfl ?_
    refine xe_callV (args := []) dX12_meets_50 vlX12_481 rfl rfl (Nat.le_of_ble_eq_true rfl) kk655 (xKK_lt kk655) rfl rfl k (Nat.le_refl _) (fun rv17 u17 w17 r17 k => ?_)
    obtain ⟨rfl, rfl, rfl, k⟩ := k
    refine xe_aload_n dX12_meets_53 rfl ?_
    refine xe_getR (b := 684) dX12_meets_54 flX12_102 kk655 (xKK_lt kk655) rfl (rf655_58 hr) ?_
    refine xe_iload_n dX12_meets_57 rfl ?_
    obtain ⟨b18, k⟩ := k
    refine xe_iald dX12_meets_58 kk684 (xKK_lt kk684) b18 ?_
    refine xe_iconst (v := 1) dX12_meets_59 rfl ?_
    refine xe_icmp_ne (tgt := 104) dX12_meets_60 rfl (fun c19 => ?_) (fun c20 => ?_)
    · have k := k.2 (fun q => (c19 q))
      exact k
    · have k := k.1 c20
      refine xe_aload_n dX12_meets_63 rfl ?_
      refine xe_iload_n dX12_meets_64 rfl ?_
      refine xe_aload_n dX12_meets_65 rfl ?_
      refine xe_getR (b := 684) dX12_meets_66 flX12_102 kk655 (xKK_lt kk655) rfl (rf655_58 hr) ?_
      refine xe_bipush (v := 6) dX12_meets_69 rfl ?_
      refine xe_iload_n dX12_meets_71 rfl ?_
      refine xe_iadd dX12_meets_72 ?_
      obtain ⟨b21, k⟩ := k
      refine xe_iald dX12_meets_73 kk684 (xKK_lt kk684) b21 ?_
      refine xe_callV (args := [.int i2, .int (u17 684 ((6 : Int32) + i1).toNatClampNeg)]) dX12_meets_74 vlX12_469 rfl rfl (Nat.le_of_ble_eq_true rfl) kk655 (xKK_lt kk655) rfl rfl k (Nat.le_refl _) (fun rv22 u22 w22 r22 k => ?_)
      obtain ⟨v22, rfl, rfl, rfl, rfl, k⟩ := k
      refine xe_if_eq (tgt := 104) dX12_meets_77 rfl (fun c23 => ?_) (fun c24 => ?_)
      · have k := k.1 c23
        exact k
      · have k := k.2 (fun q => (c24 q))
        refine xe_iload_n dX12_meets_80 rfl ?_
        have K27 : xEv g (d + 1) mX12_meets 103 [some (.ref 655), some (.int i1), some (.int i2), some (.int i3)] [.int (if i3 = 0 then (u17 684 90) else (u17 684 ((6 : Int32) + i1).toNatClampNeg))] 698 u17 w r 698 P := by
          exact xe_ireturn dX12_meets_103 rfl k
        refine xe_if_ne (tgt := 94) dX12_meets_81 rfl (fun c25 => ?_) (fun c26 => ?_)
        · refine xe_aload_n dX12_meets_94 rfl ?_
          refine xe_getR (b := 684) dX12_meets_95 flX12_102 kk655 (xKK_lt kk655) rfl (rf655_58 hr) ?_
          refine xe_bipush (v := 6) dX12_meets_98 rfl ?_
          refine xe_iload_n dX12_meets_100 rfl ?_
          refine xe_iadd dX12_meets_101 ?_
          refine xe_iald dX12_meets_102 kk684 (xKK_lt kk684) b21 ?_
          exact xtop (if_neg (fun q => (c25 q))) K27
        · refine xe_aload_n dX12_meets_84 rfl ?_
          refine xe_getR (b := 684) dX12_meets_85 flX12_102 kk655 (xKK_lt kk655) rfl (rf655_58 hr) ?_
          refine xe_bipush (v := 90) dX12_meets_88 rfl ?_
          refine xe_iald dX12_meets_90 kk684 (xKK_lt kk684) (show ¬ ((90 : Int32) < 0 ∨ 92 ≤ (90 : Int32).toNatClampNeg) from by decide) ?_
          refine xe_goto (tgt := 103) dX12_meets_91 rfl ?_
          exact xtop (if_pos c26) K27

theorem TX12_meets_104 {g : xGT} {d : Nat} {i1 i2 i3 : Int32} {u : xU} {w : xW} {r : xQ} {P : xPost}
    (k : xCall g d mX12_stepFour [.ref 655] 698 u w r 698 (fun rv28 u28 w28 r28 => rv28 = none ∧ w = w28 ∧ r = r28 ∧ xEv g (d + 1) mX12_meets 36 [some (.ref 655), some (.int i1), some (.int i2), some (.int i3)] [] 698 u28 w r 698 P)) :
    xEv g (d + 1) mX12_meets 104 [some (.ref 655), some (.int i1), some (.int i2), some (.int i3)] [] 698 u w r 698 P := by
  refine xe_aload_n dX12_meets_104 rfl ?_
  refine xe_callV (args := []) dX12_meets_105 vlX12_490 rfl rfl (Nat.le_of_ble_eq_true rfl) kk655 (xKK_lt kk655) rfl rfl k (Nat.le_refl _) (fun rv28 u28 w28 r28 k => ?_)
  obtain ⟨rfl, rfl, rfl, k⟩ := k
  refine xe_goto (tgt := 36) dX12_meets_108 rfl ?_
  exact k

/-! FuneralPostModel.buried -/

theorem TX12_buried_0 {g : xGT} {d : Nat} {i1 : Int32} {u : xU} {w : xW} {r : xQ} {P : xPost} (hr : xRf r)
    (k : xCall g d mX12_isBier [.ref 655, .int i1] 698 u w r 698 (fun rv1 u1 w1 r1 => ∃ v1 : Int32, rv1 = some (.int v1) ∧ u = u1 ∧ w = w1 ∧ r = r1 ∧ (v1 = 0 → P (some (.int (-1 : Int32))) u w r) ∧ (¬ (v1 = 0) → xCall g d mX12_load [.ref 655] 698 u w r 698 (fun rv4 u4 w4 r4 => rv4 = none ∧ w = w4 ∧ r = r4 ∧ vp_in i1 92 ∧ (((u4 684 i1.toNatClampNeg) = (3 : Int32) → P (some (.int (u4 684 90))) u4 w r) ∧ (¬ ((u4 684 i1.toNatClampNeg) = (3 : Int32)) → xEv g (d + 1) mX12_buried 32 [some (.ref 655), some (.int i1)] [] 698 u4 w r 698 P)))))) :
    xEv g (d + 1) mX12_buried 0 [some (.ref 655), some (.int i1)] [] 698 u w r 698 P := by
  refine xe_aload_n dX12_buried_0 rfl ?_
  refine xe_iload_n dX12_buried_1 rfl ?_
  refine xe_callV (args := [.int i1]) dX12_buried_2 vlX12_493 rfl rfl (Nat.le_of_ble_eq_true rfl) kk655 (xKK_lt kk655) rfl rfl k (Nat.le_refl _) (fun rv1 u1 w1 r1 k => ?_)
  obtain ⟨v1, rfl, rfl, rfl, rfl, k⟩ := k
  refine xe_if_ne (tgt := 10) dX12_buried_5 rfl (fun c2 => ?_) (fun c3 => ?_)
  · have k := k.2 (fun q => (c2 q))
    refine xe_aload_n dX12_buried_10 rfl ?_
    refine xe_callV (args := []) dX12_buried_11 vlX12_496 rfl rfl (Nat.le_of_ble_eq_true rfl) kk655 (xKK_lt kk655) rfl rfl k (Nat.le_refl _) (fun rv4 u4 w4 r4 k => ?_)
    obtain ⟨rfl, rfl, rfl, k⟩ := k
    refine xe_aload_n dX12_buried_14 rfl ?_
    refine xe_getR (b := 684) dX12_buried_15 flX12_102 kk655 (xKK_lt kk655) rfl (rf655_58 hr) ?_
    refine xe_iload_n dX12_buried_18 rfl ?_
    obtain ⟨b5, k⟩ := k
    refine xe_iald dX12_buried_19 kk684 (xKK_lt kk684) b5 ?_
    refine xe_iconst (v := 3) dX12_buried_20 rfl ?_
    refine xe_icmp_ne (tgt := 32) dX12_buried_21 rfl (fun c6 => ?_) (fun c7 => ?_)
    · have k := k.2 (fun q => (c6 q))
      exact k
    · have k := k.1 c7
      refine xe_aload_n dX12_buried_24 rfl ?_
      refine xe_getR (b := 684) dX12_buried_25 flX12_102 kk655 (xKK_lt kk655) rfl (rf655_58 hr) ?_
      refine xe_bipush (v := 90) dX12_buried_28 rfl ?_
      refine xe_iald dX12_buried_30 kk684 (xKK_lt kk684) (show ¬ ((90 : Int32) < 0 ∨ 92 ≤ (90 : Int32).toNatClampNeg) from by decide) ?_
      exact xe_ireturn dX12_buried_31 rfl k
  · have k := k.1 c3
    refine xe_iconst (v := -1) dX12_buried_8 rfl ?_
    exact xe_ireturn dX12_buried_9 rfl k

theorem CX12_buried {g : xGT} {d : Nat} {i1 : Int32} {u : xU} {w : xW} {r : xQ} {P : xPost} (hr : xRf r)
    (k : xCall g d mX12_isBier [.ref 655, .int i1] 698 u w r 698 (fun rv1 u1 w1 r1 => ∃ v1 : Int32, rv1 = some (.int v1) ∧ u = u1 ∧ w = w1 ∧ r = r1 ∧ (v1 = 0 → P (some (.int (-1 : Int32))) u w r) ∧ (¬ (v1 = 0) → xCall g d mX12_load [.ref 655] 698 u w r 698 (fun rv4 u4 w4 r4 => rv4 = none ∧ w = w4 ∧ r = r4 ∧ vp_in i1 92 ∧ (((u4 684 i1.toNatClampNeg) = (3 : Int32) → P (some (.int (u4 684 90))) u4 w r) ∧ (¬ ((u4 684 i1.toNatClampNeg) = (3 : Int32)) → xEv g (d + 1) mX12_buried 32 [some (.ref 655), some (.int i1)] [] 698 u4 w r 698 P)))))) :
    xCall g (d + 1) mX12_buried [.ref 655, .int i1] 698 u w r 698 P :=
  xCall.of plX12 (Nat.le_of_ble_eq_true rfl) rfl (TX12_buried_0 hr k)

theorem TX12_buried_32 {g : xGT} {d : Nat} {i1 : Int32} {u : xU} {w : xW} {r : xQ} {P : xPost} (hr : xRf r)
    (k : ((300 : Int32) ≤ (u 684 90) → P (some (.int (-1 : Int32))) u w r) ∧ (¬ ((300 : Int32) ≤ (u 684 90)) → xCall g d mX12_stepOne [.ref 655] 698 u w r 698 (fun rv10 u10 w10 r10 => rv10 = none ∧ w = w10 ∧ r = r10 ∧ vp_in i1 92 ∧ (((u10 684 i1.toNatClampNeg) = (3 : Int32) → P (some (.int (u10 684 90))) u10 w r) ∧ (¬ ((u10 684 i1.toNatClampNeg) = (3 : Int32)) → xCall g d mX12_stepFour [.ref 655] 698 u10 w r 698 (fun rv14 u14 w14 r14 => rv14 = none ∧ w = w14 ∧ r = r14 ∧ xEv g (d + 1) mX12_buried 32 [some (.ref 655), some (.int i1)] [] 698 u14 w r 698 P)))))) :
    xEv g (d + 1) mX12_buried 32 [some (.ref 655), some (.int i1)] [] 698 u w r 698 P := by
  refine xe_aload_n dX12_buried_32 rfl ?_
  refine xe_getR (b := 684) dX12_buried_33 flX12_102 kk655 (xKK_lt kk655) rfl (rf655_58 hr) ?_
  refine xe_bipush (v := 90) dX12_buried_36 rfl ?_
  refine xe_iald dX12_buried_38 kk684 (xKK_lt kk684) (show ¬ ((90 : Int32) < 0 ∨ 92 ≤ (90 : Int32).toNatClampNeg) from by decide) ?_
  refine xe_sipush (v := 300) dX12_buried_39 rfl ?_
  refine xe_icmp_ge (tgt := 74) dX12_buried_42 rfl (fun c8 => ?_) (fun c9 => ?_)
  · have k := k.1 c8
    refine xe_iconst (v := -1) dX12_buried_74 rfl ?_
    exact xe_ireturn dX12_buried_75 rfl k
  · have k := k.2 (fun q => (c9 q))
    refine xe_aload_n dX12_buried_45 rfl ?_
    refine xe_callV (args := []) dX12_buried_46 vlX12_481 rfl rfl (Nat.le_of_ble_eq_true rfl) kk655 (xKK_lt kk655) rfl rfl k (Nat.le_refl _) (fun rv10 u10 w10 r10 k => ?_)
    obtain ⟨rfl, rfl, rfl, k⟩ := k
    refine xe_aload_n dX12_buried_49 rfl ?_
    refine xe_getR (b := 684) dX12_buried_50 flX12_102 kk655 (xKK_lt kk655) rfl (rf655_58 hr) ?_
    refine xe_iload_n dX12_buried_53 rfl ?_
    obtain ⟨b11, k⟩ := k
    refine xe_iald dX12_buried_54 kk684 (xKK_lt kk684) b11 ?_
    refine xe_iconst (v := 3) dX12_buried_55 rfl ?_
    refine xe_icmp_ne (tgt := 67) dX12_buried_56 rfl (fun c12 => ?_) (fun c13 => ?_)
    · have k := k.2 (fun q => (c12 q))
      refine xe_aload_n dX12_buried_67 rfl ?_
      refine xe_callV (args := []) dX12_buried_68 vlX12_490 rfl rfl (Nat.le_of_ble_eq_true rfl) kk655 (xKK_lt kk655) rfl rfl k (Nat.le_refl _) (fun rv14 u14 w14 r14 k => ?_)
      obtain ⟨rfl, rfl, rfl, k⟩ := k
      refine xe_goto (tgt := 32) dX12_buried_71 rfl ?_
      exact k
    · have k := k.1 c13
      refine xe_aload_n dX12_buried_59 rfl ?_
      refine xe_getR (b := 684) dX12_buried_60 flX12_102 kk655 (xKK_lt kk655) rfl (rf655_58 hr) ?_
      refine xe_bipush (v := 90) dX12_buried_63 rfl ?_
      refine xe_iald dX12_buried_65 kk684 (xKK_lt kk684) (show ¬ ((90 : Int32) < 0 ∨ 92 ≤ (90 : Int32).toNatClampNeg) from by decide) ?_
      exact xe_ireturn dX12_buried_66 rfl k

/-! FuneralPostModel.layStood -/

theorem TX12_layStood_0 {g : xGT} {d : Nat} {u : xU} {w : xW} {r : xQ} {P : xPost}
    (k : xCall g d mX12_load [.ref 655] 698 u w r 698 (fun rv1 u1 w1 r1 => rv1 = none ∧ w = w1 ∧ r = r1 ∧ xEv g (d + 1) mX12_layStood 6 [some (.ref 655), some (.int (0 : Int32))] [] 698 u1 w r 698 P)) :
    xEv g (d + 1) mX12_layStood 0 [some (.ref 655), none] [] 698 u w r 698 P := by
  refine xe_aload_n dX12_layStood_0 rfl ?_
  refine xe_callV (args := []) dX12_layStood_1 vlX12_496 rfl rfl (Nat.le_of_ble_eq_true rfl) kk655 (xKK_lt kk655) rfl rfl k (Nat.le_refl _) (fun rv1 u1 w1 r1 k => ?_)
  obtain ⟨rfl, rfl, rfl, k⟩ := k
  refine xe_iconst (v := 0) dX12_layStood_4 rfl ?_
  refine xe_istore_n (ls' := [some (.ref 655), some (.int (0 : Int32))]) dX12_layStood_5 rfl (by decide) rfl ?_
  exact k

theorem CX12_layStood {g : xGT} {d : Nat} {u : xU} {w : xW} {r : xQ} {P : xPost}
    (k : xCall g d mX12_load [.ref 655] 698 u w r 698 (fun rv1 u1 w1 r1 => rv1 = none ∧ w = w1 ∧ r = r1 ∧ xEv g (d + 1) mX12_layStood 6 [some (.ref 655), some (.int (0 : Int32))] [] 698 u1 w r 698 P)) :
    xCall g (d + 1) mX12_layStood [.ref 655] 698 u w r 698 P :=
  xCall.of plX12 (Nat.le_of_ble_eq_true rfl) rfl (TX12_layStood_0  k)

theorem TX12_layStood_6 {g : xGT} {d : Nat} {i1 : Int32} {u : xU} {w : xW} {r : xQ} {P : xPost} (hr : xRf r)
    (k : ((42 : Int32) ≤ i1 → xEv g (d + 1) mX12_layStood 29 [some (.ref 655), some (.int (0 : Int32))] [] 698 u w r 698 P) ∧ (¬ ((42 : Int32) ≤ i1) → vp_in i1 42 ∧ (xEv g (d + 1) mX12_layStood 6 [some (.ref 655), some (.int (i1 + (1 : Int32)))] [] 698 (x2 u 688 i1.toNatClampNeg (300 : Int32)) w r 698 P))) :
    xEv g (d + 1) mX12_layStood 6 [some (.ref 655), some (.int i1)] [] 698 u w r 698 P := by
  refine xe_iload_n dX12_layStood_6 rfl ?_
  refine xe_bipush (v := 42) dX12_layStood_7 rfl ?_
  refine xe_icmp_ge (tgt := 27) dX12_layStood_9 rfl (fun c2 => ?_) (fun c3 => ?_)
  · have k := k.1 c2
    refine xe_iconst (v := 0) dX12_layStood_27 rfl ?_
    refine xe_istore_n (ls' := [some (.ref 655), some (.int (0 : Int32))]) dX12_layStood_28 rfl (by decide) rfl ?_
    exact k
  · have k := k.2 (fun q => (c3 q))
    refine xe_aload_n dX12_layStood_12 rfl ?_
    refine xe_getR (b := 688) dX12_layStood_13 flX12_114 kk655 (xKK_lt kk655) rfl (rf655_65 hr) ?_
    refine xe_iload_n dX12_layStood_16 rfl ?_
    refine xe_sipush (v := 300) dX12_layStood_17 rfl ?_
    obtain ⟨b4, k⟩ := k
    refine xe_iast dX12_layStood_20 kk688 (xKK_lt kk688) b4 ?_
    refine xe_iinc (v := (i1 + (1 : Int32))) (ls' := [some (.ref 655), some (.int (i1 + (1 : Int32)))]) dX12_layStood_21 rfl (by decide) rfl rfl ?_
    refine xe_goto (tgt := 6) dX12_layStood_24 rfl ?_
    exact k

theorem TX12_layStood_29 {g : xGT} {d : Nat} {i1 : Int32} {u : xU} {w : xW} {r : xQ} {P : xPost} (hr : xRf r)
    (k : ((u 655 51) ≤ i1 → xEv g (d + 1) mX12_layStood 79 [some (.ref 655), none] [] 698 u w r 698 P) ∧ (¬ ((u 655 51) ≤ i1) → vp_in i1 92 ∧ (((u 684 i1.toNatClampNeg) = (1 : Int32) → vp_in ((6 : Int32) + i1) 92 ∧ (vp_in (((7 : Int32) * i1) + (u 684 ((6 : Int32) + i1).toNatClampNeg)) 42 ∧ (xEv g (d + 1) mX12_layStood 73 [some (.ref 655), some (.int i1)] [] 698 (x2 u 688 (((7 : Int32) * i1) + (u 684 ((6 : Int32) + i1).toNatClampNeg)).toNatClampNeg (u 684 90)) w r 698 P))) ∧ (¬ ((u 684 i1.toNatClampNeg) = (1 : Int32)) → xEv g (d + 1) mX12_layStood 73 [some (.ref 655), some (.int i1)] [] 698 u w r 698 P)))) :
    xEv g (d + 1) mX12_layStood 29 [some (.ref 655), some (.int i1)] [] 698 u w r 698 P := by
  refine xe_iload_n dX12_layStood_29 rfl ?_
  refine xe_aload_n dX12_layStood_30 rfl ?_
  refine xe_getI dX12_layStood_31 flX12_401 kk655 (xKK_lt kk655) rfl ?_
  refine xe_icmp_ge (tgt := 79) dX12_layStood_34 rfl (fun c5 => ?_) (fun c6 => ?_)
  · have k := k.1 c5
    exact xEv.fewer (ls' := [some (.ref 655), none]) k (xfw_get (xfw_s (xfw_n (xfw_nil _))))
  · have k := k.2 (fun q => (c6 q))
    refine xe_aload_n dX12_layStood_37 rfl ?_
    refine xe_getR (b := 684) dX12_layStood_38 flX12_102 kk655 (xKK_lt kk655) rfl (rf655_58 hr) ?_
    refine xe_iload_n dX12_layStood_41 rfl ?_
    obtain ⟨b7, k⟩ := k
    refine xe_iald dX12_layStood_42 kk684 (xKK_lt kk684) b7 ?_
    refine xe_iconst (v := 1) dX12_layStood_43 rfl ?_
    refine xe_icmp_ne (tgt := 73) dX12_layStood_44 rfl (fun c8 => ?_) (fun c9 => ?_)
    · have k := k.2 (fun q => (c8 q))
      exact k
    · have k := k.1 c9
      refine xe_aload_n dX12_layStood_47 rfl ?_
      refine xe_getR (b := 688) dX12_layStood_48 flX12_114 kk655 (xKK_lt kk655) rfl (rf655_65 hr) ?_
      refine xe_bipush (v := 7) dX12_layStood_51 rfl ?_
      refine xe_iload_n dX12_layStood_53 rfl ?_
      refine xe_imul dX12_layStood_54 ?_
      refine xe_aload_n dX12_layStood_55 rfl ?_
      refine xe_getR (b := 684) dX12_layStood_56 flX12_102 kk655 (xKK_lt kk655) rfl (rf655_58 hr) ?_
      refine xe_bipush (v := 6) dX12_layStood_59 rfl ?_
      refine xe_iload_n dX12_layStood_61 rfl ?_
      refine xe_iadd dX12_layStood_62 ?_
      obtain ⟨b10, k⟩ := k
      refine xe_iald dX12_layStood_63 kk684 (xKK_lt kk684) b10 ?_
      refine xe_iadd dX12_layStood_64 ?_
      refine xe_aload_n dX12_layStood_65 rfl ?_
      refine xe_getR (b := 684) dX12_layStood_66 flX12_102 kk655 (xKK_lt kk655) rfl (rf655_58 hr) ?_
      refine xe_bipush (v := 90) dX12_layStood_69 rfl ?_
      refine xe_iald dX12_layStood_71 kk684 (xKK_lt kk684) (show ¬ ((90 : Int32) < 0 ∨ 92 ≤ (90 : Int32).toNatClampNeg) from by decide) ?_
      obtain ⟨b11, k⟩ := k
      refine xe_iast dX12_layStood_72 kk688 (xKK_lt kk688) b11 ?_
      exact k

theorem TX12_layStood_79 {g : xGT} {d : Nat} {u : xU} {w : xW} {r : xQ} {P : xPost} (hr : xRf r)
    (k : ((300 : Int32) ≤ (u 684 90) → P none u w r) ∧ (¬ ((300 : Int32) ≤ (u 684 90)) → xCall g d mX12_stepOne [.ref 655] 698 u w r 698 (fun rv14 u14 w14 r14 => rv14 = none ∧ w = w14 ∧ r = r14 ∧ xEv g (d + 1) mX12_layStood 98 [some (.ref 655), some (.int (0 : Int32))] [] 698 u14 w r 698 P))) :
    xEv g (d + 1) mX12_layStood 79 [some (.ref 655), none] [] 698 u w r 698 P := by
  refine xe_aload_n dX12_layStood_79 rfl ?_
  refine xe_getR (b := 684) dX12_layStood_80 flX12_102 kk655 (xKK_lt kk655) rfl (rf655_58 hr) ?_
  refine xe_bipush (v := 90) dX12_layStood_83 rfl ?_
  refine xe_iald dX12_layStood_85 kk684 (xKK_lt kk684) (show ¬ ((90 : Int32) < 0 ∨ 92 ≤ (90 : Int32).toNatClampNeg) from by decide) ?_
  refine xe_sipush (v := 300) dX12_layStood_86 rfl ?_
  refine xe_icmp_ge (tgt := 190) dX12_layStood_89 rfl (fun c12 => ?_) (fun c13 => ?_)
  · have k := k.1 c12
    exact xe_return dX12_layStood_190 trivial k
  · have k := k.2 (fun q => (c13 q))
    refine xe_aload_n dX12_layStood_92 rfl ?_
    refine xe_callV (args := []) dX12_layStood_93 vlX12_481 rfl rfl (Nat.le_of_ble_eq_true rfl) kk655 (xKK_lt kk655) rfl rfl k (Nat.le_refl _) (fun rv14 u14 w14 r14 k => ?_)
    obtain ⟨rfl, rfl, rfl, k⟩ := k
    refine xe_iconst (v := 0) dX12_layStood_96 rfl ?_
    refine xe_istore_n (ls' := [some (.ref 655), some (.int (0 : Int32))]) dX12_layStood_97 rfl (by decide) rfl ?_
    exact k

theorem TX12_layStood_73 {g : xGT} {d : Nat} {i1 : Int32} {u : xU} {w : xW} {r : xQ} {P : xPost}
    (k : xEv g (d + 1) mX12_layStood 29 [some (.ref 655), some (.int (i1 + (1 : Int32)))] [] 698 u w r 698 P) :
    xEv g (d + 1) mX12_layStood 73 [some (.ref 655), some (.int i1)] [] 698 u w r 698 P := by
  refine xe_iinc (v := (i1 + (1 : Int32))) (ls' := [some (.ref 655), some (.int (i1 + (1 : Int32)))]) dX12_layStood_73 rfl (by decide) rfl rfl ?_
  refine xe_goto (tgt := 29) dX12_layStood_76 rfl ?_
  exact k

set_option maxRecDepth 20000 in
theorem TX12_layStood_98 {g : xGT} {d : Nat} {i1 : Int32} {u : xU} {w : xW} {r : xQ} {P : xPost} (hr : xRf r)
    (k : ((u 655 51) ≤ i1 → xCall g d mX12_stepFour [.ref 655] 698 u w r 698 (fun rv17 u17 w17 r17 => rv17 = none ∧ w = w17 ∧ r = r17 ∧ xEv g (d + 1) mX12_layStood 79 [some (.ref 655), none] [] 698 u17 w r 698 P)) ∧ (¬ ((u 655 51) ≤ i1) → vp_in i1 92 ∧ (((u 684 i1.toNatClampNeg) = (1 : Int32) → vp_in ((6 : Int32) + i1) 92) ∧ (((u 684 i1.toNatClampNeg) = (1 : Int32) → vp_in (((7 : Int32) * i1) + (u 684 ((6 : Int32) + i1).toNatClampNeg)) 42) ∧ ((¬ ((u 684 i1.toNatClampNeg) = (1 : Int32)) → (u 684 i1.toNatClampNeg) = (3 : Int32) → vp_in ((6 : Int32) + i1) 92) ∧ ((¬ ((u 684 i1.toNatClampNeg) = (1 : Int32)) → (u 684 i1.toNatClampNeg) = (3 : Int32) → vp_in (((7 : Int32) * i1) + (u 684 ((6 : Int32) + i1).toNatClampNeg)) 42) ∧ (((((u 684 i1.toNatClampNeg) = (1 : Int32) ∧ (u 688 (((7 : Int32) * i1) + (u 684 ((6 : Int32) + i1).toNatClampNeg)).toNatClampNeg) = (300 : Int32)) ∨ (¬ ((u 684 i1.toNatClampNeg) = (1 : Int32)) ∧ ((u 684 i1.toNatClampNeg) = (3 : Int32) ∧ (u 688 (((7 : Int32) * i1) + (u 684 ((6 : Int32) + i1).toNatClampNeg)).toNatClampNeg) = (300 : Int32)))) → vp_in ((6 : Int32) + i1) 92 ∧ (vp_in (((7 : Int32) * i1) + (u 684 ((6 : Int32) + i1).toNatClampNeg)) 42 ∧ (xEv g (d + 1) mX12_layStood 177 [some (.ref 655), some (.int i1)] [] 698 (x2 u 688 (((7 : Int32) * i1) + (u 684 ((6 : Int32) + i1).toNatClampNeg)).toNatClampNeg (u 684 90)) w r 698 P))) ∧ (¬ (((u 684 i1.toNatClampNeg) = (1 : Int32) ∧ (u 688 (((7 : Int32) * i1) + (u 684 ((6 : Int32) + i1).toNatClampNeg)).toNatClampNeg) = (300 : Int32)) ∨ (¬ ((u 684 i1.toNatClampNeg) = (1 : Int32)) ∧ ((u 684 i1.toNatClampNeg) = (3 : Int32) ∧ (u 688 (((7 : Int32) * i1) + (u 684 ((6 : Int32) + i1).toNatClampNeg)).toNatClampNeg) = (300 : Int32)))) → xEv g (d + 1) mX12_layStood 177 [some (.ref 655), some (.int i1)] [] 698 u w r 698 P)))))))) :
    xEv g (d + 1) mX12_layStood 98 [some (.ref 655), some (.int i1)] [] 698 u w r 698 P := by
  refine xe_iload_n dX12_layStood_98 rfl ?_
  refine xe_aload_n dX12_layStood_99 rfl ?_
  refine xe_getI dX12_layStood_100 flX12_401 kk655 (xKK_lt kk655) rfl ?_
  refine xe_icmp_ge (tgt := 183) dX12_layStood_103 rfl (fun c15 => ?_) (fun c16 => ?_)
  · have k := k.1 c15
    refine xe_aload_n dX12_layStood_183 rfl ?_
    refine xe_callV (args := []) dX12_layStood_184 vlX12_490 rfl rfl (Nat.le_of_ble_eq_true rfl) kk655 (xKK_lt kk655) rfl rfl k (Nat.le_refl _) (fun rv17 u17 w17 r17 k => ?_)
    obtain ⟨rfl, rfl, rfl, k⟩ := k
    refine xe_goto (tgt := 79) dX12_layStood_187 rfl ?_
    exact xEv.fewer (ls' := [some (.ref 655), none]) k (xfw_get (xfw_s (xfw_n (xfw_nil _))))
  · have k := k.2 (fun q => (c16 q))
    refine xe_aload_n dX12_layStood_106 rfl ?_
    refine xe_getR (b := 684) dX12_layStood_107 flX12_102 kk655 (xKK_lt kk655) rfl (rf655_58 hr) ?_
    refine xe_iload_n dX12_layStood_110 rfl ?_
    obtain ⟨b18, k⟩ := k
    refine xe_iald dX12_layStood_111 kk684 (xKK_lt kk684) b18 ?_
    refine xe_iconst (v := 1) dX12_layStood_112 rfl ?_
    obtain ⟨b20, k⟩ := k
    obtain ⟨b21, k⟩ := k
    obtain ⟨b27, k⟩ := k
    obtain ⟨b28, k⟩ := k
    have K33 : (((u 684 i1.toNatClampNeg) = (1 : Int32) ∧ (u 688 (((7 : Int32) * i1) + (u 684 ((6 : Int32) + i1).toNatClampNeg)).toNatClampNeg) = (300 : Int32)) ∨ (¬ ((u 684 i1.toNatClampNeg) = (1 : Int32)) ∧ ((u 684 i1.toNatClampNeg) = (3 : Int32) ∧ (u 688 (((7 : Int32) * i1) + (u 684 ((6 : Int32) + i1).toNatClampNeg)).toNatClampNeg) = (300 : Int32)))) → xEv g (d + 1) mX12_layStood 151 [some (.ref 655), some (.int i1)] [] 698 u w r 698 P := fun c34 => by
      have k := k.1 c34
      refine xe_aload_n dX12_layStood_151 rfl ?_
      refine xe_getR (b := 688) dX12_layStood_152 flX12_114 kk655 (xKK_lt kk655) rfl (rf655_65 hr) ?_
      refine xe_bipush (v := 7) dX12_layStood_155 rfl ?_
      refine xe_iload_n dX12_layStood_157 rfl ?_
      refine xe_imul dX12_layStood_158 ?_
      refine xe_aload_n dX12_layStood_159 rfl ?_
      refine xe_getR (b := 684) dX12_layStood_160 flX12_102 kk655 (xKK_lt kk655) rfl (rf655_58 hr) ?_
      refine xe_bipush (v := 6) dX12_layStood_163 rfl ?_
      refine xe_iload_n dX12_layStood_165 rfl ?_
      refine xe_iadd dX12_layStood_166 ?_
      obtain ⟨b31, k⟩ := k
      refine xe_iald dX12_layStood_167 kk684 (xKK_lt kk684) b31 ?_
      refine xe_iadd dX12_layStood_168 ?_
      refine xe_aload_n dX12_layStood_169 rfl ?_
      refine xe_getR (b := 684) dX12_layStood_170 flX12_102 kk655 (xKK_lt kk655) rfl (rf655_58 hr) ?_
      refine xe_bipush (v := 90) dX12_layStood_173 rfl ?_
      refine xe_iald dX12_layStood_175 kk684 (xKK_lt kk684) (show ¬ ((90 : Int32) < 0 ∨ 92 ≤ (90 : Int32).toNatClampNeg) from by decide) ?_
      obtain ⟨b32, k⟩ := k
      refine xe_iast dX12_layStood_176 kk688 (xKK_lt kk688) b32 ?_
      exact k
    have K35 : ¬ (((u 684 i1.toNatClampNeg) = (1 : Int32) ∧ (u 688 (((7 : Int32) * i1) + (u 684 ((6 : Int32) + i1).toNatClampNeg)).toNatClampNeg) = (300 : Int32)) ∨ (¬ ((u 684 i1.toNatClampNeg) = (1 : Int32)) ∧ ((u 684 i1.toNatClampNeg) = (3 : Int32) ∧ (u 688 (((7 : Int32) * i1) + (u 684 ((6 : Int32) + i1).toNatClampNeg)).toNatClampNeg) = (300 : Int32)))) → xEv g (d + 1) mX12_layStood 177 [some (.ref 655), some (.int i1)] [] 698 u w r 698 P := fun c36 => by
      have k := k.2 c36
      exact k
    refine xe_icmp_eq (tgt := 126) dX12_layStood_113 rfl (fun c19 => ?_) (fun c24 => ?_)
    · refine xe_aload_n dX12_layStood_126 rfl ?_
      refine xe_getR (b := 688) dX12_layStood_127 flX12_114 kk655 (xKK_lt kk655) rfl (rf655_65 hr) ?_
      refine xe_bipush (v := 7) dX12_layStood_130 rfl ?_
      refine xe_iload_n dX12_layStood_132 rfl ?_
      refine xe_imul dX12_layStood_133 ?_
      refine xe_aload_n dX12_layStood_134 rfl ?_
      refine xe_getR (b := 684) dX12_layStood_135 flX12_102 kk655 (xKK_lt kk655) rfl (rf655_58 hr) ?_
      refine xe_bipush (v := 6) dX12_layStood_138 rfl ?_
      refine xe_iload_n dX12_layStood_140 rfl ?_
      refine xe_iadd dX12_layStood_141 ?_
      refine xe_iald dX12_layStood_142 kk684 (xKK_lt kk684) (b20 c19) ?_
      refine xe_iadd dX12_layStood_143 ?_
      refine xe_iald dX12_layStood_144 kk688 (xKK_lt kk688) (b21 c19) ?_
      refine xe_sipush (v := 300) dX12_layStood_145 rfl ?_
      refine xe_icmp_ne (tgt := 177) dX12_layStood_148 rfl (fun c22 => ?_) (fun c23 => ?_)
      · exact K35 (fun q => (q.elim (fun z => (c22 z.2)) (fun z => (z.1 c19))))
      · exact K33 (Or.inl ⟨c19, c23⟩)
    · refine xe_aload_n dX12_layStood_116 rfl ?_
      refine xe_getR (b := 684) dX12_layStood_117 flX12_102 kk655 (xKK_lt kk655) rfl (rf655_58 hr) ?_
      refine xe_iload_n dX12_layStood_120 rfl ?_
      refine xe_iald dX12_layStood_121 kk684 (xKK_lt kk684) b18 ?_
      refine xe_iconst (v := 3) dX12_layStood_122 rfl ?_
      refine xe_icmp_ne (tgt := 177) dX12_layStood_123 rfl (fun c25 => ?_) (fun c26 => ?_)
      · exact K35 (fun q => (q.elim (fun z => (c24 z.1)) (fun z => (c25 z.2.1))))
      · refine xe_aload_n dX12_layStood_126 rfl ?_
        refine xe_getR (b := 688) dX12_layStood_127 flX12_114 kk655 (xKK_lt kk655) rfl (rf655_65 hr) ?_
        refine xe_bipush (v := 7) dX12_layStood_130 rfl ?_
        refine xe_iload_n dX12_layStood_132 rfl ?_
        refine xe_imul dX12_layStood_133 ?_
        refine xe_aload_n dX12_layStood_134 rfl ?_
        refine xe_getR (b := 684) dX12_layStood_135 flX12_102 kk655 (xKK_lt kk655) rfl (rf655_58 hr) ?_
        refine xe_bipush (v := 6) dX12_layStood_138 rfl ?_
        refine xe_iload_n dX12_layStood_140 rfl ?_
        refine xe_iadd dX12_layStood_141 ?_
        refine xe_iald dX12_layStood_142 kk684 (xKK_lt kk684) (b27 c24 c26) ?_
        refine xe_iadd dX12_layStood_143 ?_
        refine xe_iald dX12_layStood_144 kk688 (xKK_lt kk688) (b28 c24 c26) ?_
        refine xe_sipush (v := 300) dX12_layStood_145 rfl ?_
        refine xe_icmp_ne (tgt := 177) dX12_layStood_148 rfl (fun c29 => ?_) (fun c30 => ?_)
        · exact K35 (fun q => (q.elim (fun z => (c24 z.1)) (fun z => (c29 z.2.2))))
        · exact K33 (Or.inr ⟨c24, ⟨c26, c30⟩⟩)

theorem TX12_layStood_177 {g : xGT} {d : Nat} {i1 : Int32} {u : xU} {w : xW} {r : xQ} {P : xPost}
    (k : xEv g (d + 1) mX12_layStood 98 [some (.ref 655), some (.int (i1 + (1 : Int32)))] [] 698 u w r 698 P) :
    xEv g (d + 1) mX12_layStood 177 [some (.ref 655), some (.int i1)] [] 698 u w r 698 P := by
  refine xe_iinc (v := (i1 + (1 : Int32))) (ls' := [some (.ref 655), some (.int (i1 + (1 : Int32)))]) dX12_layStood_177 rfl (by decide) rfl rfl ?_
  refine xe_goto (tgt := 98) dX12_layStood_180 rfl ?_
  exact k

/-! FuneralPostModel.worthBy -/

theorem TX12_worthBy_0 {g : xGT} {d : Nat} {i1 i2 : Int32} {u : xU} {w : xW} {r : xQ} {P : xPost}
    (k : xEv g d mX12_worthBy 5 [some (.ref 655), some (.int i1), some (.int i2), some (.int (0 : Int32)), some (.int (0 : Int32)), none] [] 698 u w r 698 P) :
    xEv g d mX12_worthBy 0 [some (.ref 655), some (.int i1), some (.int i2), none, none, none] [] 698 u w r 698 P := by
  refine xe_iconst (v := 0) dX12_worthBy_0 rfl ?_
  refine xe_istore_n (ls' := [some (.ref 655), some (.int i1), some (.int i2), some (.int (0 : Int32)), none, none]) dX12_worthBy_1 rfl (by decide) rfl ?_
  refine xe_iconst (v := 0) dX12_worthBy_2 rfl ?_
  refine xe_istore (ls' := [some (.ref 655), some (.int i1), some (.int i2), some (.int (0 : Int32)), some (.int (0 : Int32)), none]) dX12_worthBy_3 (by decide) rfl ?_
  exact k

theorem CX12_worthBy {g : xGT} {d : Nat} {i1 i2 : Int32} {u : xU} {w : xW} {r : xQ} {P : xPost}
    (k : xEv g d mX12_worthBy 5 [some (.ref 655), some (.int i1), some (.int i2), some (.int (0 : Int32)), some (.int (0 : Int32)), none] [] 698 u w r 698 P) :
    xCall g d mX12_worthBy [.ref 655, .int i1, .int i2] 698 u w r 698 P :=
  xCall.of plX12 (Nat.le_of_ble_eq_true rfl) rfl (TX12_worthBy_0  k)

set_option maxRecDepth 20000 in
theorem TX12_worthBy_5 {g : xGT} {d : Nat} {i1 i2 i3 i4 : Int32} {u : xU} {w : xW} {r : xQ} {P : xPost} (hr : xRf r)
    (k : ((u 683 88) ≤ i4 → P (some (.int i3)) u w r) ∧ (¬ ((u 683 88) ≤ i4) → vp_in ((58 : Int32) + i4) 92 ∧ (vp_in (((7 : Int32) * i2) + (u 683 ((58 : Int32) + i4).toNatClampNeg)) 42 ∧ ((((i1 >>> (i4 &&& 31)) &&& (1 : Int32)) = (1 : Int32) → ¬ ((300 : Int32) ≤ (u 688 (((7 : Int32) * i2) + (u 683 ((58 : Int32) + i4).toNatClampNeg)).toNatClampNeg)) → vp_in ((68 : Int32) + i4) 92) ∧ (((((i1 >>> (i4 &&& 31)) &&& (1 : Int32)) = (1 : Int32) ∧ (¬ ((300 : Int32) ≤ (u 688 (((7 : Int32) * i2) + (u 683 ((58 : Int32) + i4).toNatClampNeg)).toNatClampNeg)) ∧ ¬ ((u 683 ((68 : Int32) + i4).toNatClampNeg) < (u 688 (((7 : Int32) * i2) + (u 683 ((58 : Int32) + i4).toNatClampNeg)).toNatClampNeg)))) → vp_in ((78 : Int32) + i4) 92 ∧ (xEv g d mX12_worthBy 85 [some (.ref 655), some (.int i1), some (.int i2), some (.int (i3 + (u 683 ((78 : Int32) + i4).toNatClampNeg))), some (.int i4), none] [] 698 u w r 698 P)) ∧ (¬ (((i1 >>> (i4 &&& 31)) &&& (1 : Int32)) = (1 : Int32) ∧ (¬ ((300 : Int32) ≤ (u 688 (((7 : Int32) * i2) + (u 683 ((58 : Int32) + i4).toNatClampNeg)).toNatClampNeg)) ∧ ¬ ((u 683 ((68 : Int32) + i4).toNatClampNeg) < (u 688 (((7 : Int32) * i2) + (u 683 ((58 : Int32) + i4).toNatClampNeg)).toNatClampNeg)))) → xEv g d mX12_worthBy 85 [some (.ref 655), some (.int i1), some (.int i2), some (.int i3), some (.int i4), none] [] 698 u w r 698 P)))))) :
    xEv g d mX12_worthBy 5 [some (.ref 655), some (.int i1), some (.int i2), some (.int i3), some (.int i4), none] [] 698 u w r 698 P := by
  refine xe_iload dX12_worthBy_5 rfl ?_
  refine xe_aload_n dX12_worthBy_7 rfl ?_
  refine xe_getR (b := 683) dX12_worthBy_8 flX12_99 kk655 (xKK_lt kk655) rfl (rf655_57 hr) ?_
  refine xe_bipush (v := 88) dX12_worthBy_11 rfl ?_
  refine xe_iald dX12_worthBy_13 kk683 (xKK_lt kk683) (show ¬ ((88 : Int32) < 0 ∨ 92 ≤ (88 : Int32).toNatClampNeg) from by decide) ?_
  refine xe_icmp_ge (tgt := 91) dX12_worthBy_14 rfl (fun c1 => ?_) (fun c2 => ?_)
  · have k := k.1 c1
    refine xe_iload_n dX12_worthBy_91 rfl ?_
    exact xe_ireturn dX12_worthBy_92 rfl k
  · have k := k.2 (fun q => (c2 q))
    refine xe_aload_n dX12_worthBy_17 rfl ?_
    refine xe_getR (b := 688) dX12_worthBy_18 flX12_114 kk655 (xKK_lt kk655) rfl (rf655_65 hr) ?_
    refine xe_bipush (v := 7) dX12_worthBy_21 rfl ?_
    refine xe_iload_n dX12_worthBy_23 rfl ?_
    refine xe_imul dX12_worthBy_24 ?_
    refine xe_aload_n dX12_worthBy_25 rfl ?_
    refine xe_getR (b := 683) dX12_worthBy_26 flX12_99 kk655 (xKK_lt kk655) rfl (rf655_57 hr) ?_
    refine xe_bipush (v := 58) dX12_worthBy_29 rfl ?_
    refine xe_iload dX12_worthBy_31 rfl ?_
    refine xe_iadd dX12_worthBy_33 ?_
    obtain ⟨b3, k⟩ := k
    refine xe_iald dX12_worthBy_34 kk683 (xKK_lt kk683) b3 ?_
    refine xe_iadd dX12_worthBy_35 ?_
    obtain ⟨b4, k⟩ := k
    refine xe_iald dX12_worthBy_36 kk688 (xKK_lt kk688) b4 ?_
    refine xe_istore (ls' := [some (.ref 655), some (.int i1), some (.int i2), some (.int i3), some (.int i4), some (.int (u 688 (((7 : Int32) * i2) + (u 683 ((58 : Int32) + i4).toNatClampNeg)).toNatClampNeg))]) dX12_worthBy_37 (by decide) rfl ?_
    refine xe_iload_n dX12_worthBy_39 rfl ?_
    refine xe_iload dX12_worthBy_40 rfl ?_
    refine xe_ishr dX12_worthBy_42 ?_
    refine xe_iconst (v := 1) dX12_worthBy_43 rfl ?_
    refine xe_iand dX12_worthBy_44 ?_
    refine xe_iconst (v := 1) dX12_worthBy_45 rfl ?_
    obtain ⟨b9, k⟩ := k
    have K13 : ¬ (((i1 >>> (i4 &&& 31)) &&& (1 : Int32)) = (1 : Int32) ∧ (¬ ((300 : Int32) ≤ (u 688 (((7 : Int32) * i2) + (u 683 ((58 : Int32) + i4).toNatClampNeg)).toNatClampNeg)) ∧ ¬ ((u 683 ((68 : Int32) + i4).toNatClampNeg) < (u 688 (((7 : Int32) * i2) + (u 683 ((58 : Int32) + i4).toNatClampNeg)).toNatClampNeg)))) → xEv g d mX12_worthBy 85 [some (.ref 655), some (.int i1), some (.int i2), some (.int i3), some (.int i4), some (.int (u 688 (((7 : Int32) * i2) + (u 683 ((58 : Int32) + i4).toNatClampNeg)).toNatClampNeg))] [] 698 u w r 698 P := fun c14 => by
      have k := k.2 c14
      exact xEv.fewer (ls' := [some (.ref 655), some (.int i1), some (.int i2), some (.int i3), some (.int i4), none]) k (xfw_get (xfw_s (xfw_s (xfw_s (xfw_s (xfw_s (xfw_n (xfw_nil _))))))))
    refine xe_icmp_ne (tgt := 85) dX12_worthBy_46 rfl (fun c5 => ?_) (fun c6 => ?_)
    · exact K13 (fun q => (c5 q.1))
    · refine xe_iload dX12_worthBy_49 rfl ?_
      refine xe_sipush (v := 300) dX12_worthBy_51 rfl ?_
      refine xe_icmp_ge (tgt := 85) dX12_worthBy_54 rfl (fun c7 => ?_) (fun c8 => ?_)
      · exact K13 (fun q => (q.2.1 c7))
      · refine xe_iload dX12_worthBy_57 rfl ?_
        refine xe_aload_n dX12_worthBy_59 rfl ?_
        refine xe_getR (b := 683) dX12_worthBy_60 flX12_99 kk655 (xKK_lt kk655) rfl (rf655_57 hr) ?_
        refine xe_bipush (v := 68) dX12_worthBy_63 rfl ?_
        refine xe_iload dX12_worthBy_65 rfl ?_
        refine xe_iadd dX12_worthBy_67 ?_
        refine xe_iald dX12_worthBy_68 kk683 (xKK_lt kk683) (b9 c6 c8) ?_
        refine xe_icmp_gt (tgt := 85) dX12_worthBy_69 rfl (fun c10 => ?_) (fun c11 => ?_)
        · exact K13 (fun q => (q.2.2 c10))
        · have k := k.1 ⟨c6, ⟨c8, c11⟩⟩
          refine xe_iload_n dX12_worthBy_72 rfl ?_
          refine xe_aload_n dX12_worthBy_73 rfl ?_
          refine xe_getR (b := 683) dX12_worthBy_74 flX12_99 kk655 (xKK_lt kk655) rfl (rf655_57 hr) ?_
          refine xe_bipush (v := 78) dX12_worthBy_77 rfl ?_
          refine xe_iload dX12_worthBy_79 rfl ?_
          refine xe_iadd dX12_worthBy_81 ?_
          obtain ⟨b12, k⟩ := k
          refine xe_iald dX12_worthBy_82 kk683 (xKK_lt kk683) b12 ?_
          refine xe_iadd dX12_worthBy_83 ?_
          refine xe_istore_n (ls' := [some (.ref 655), some (.int i1), some (.int i2), some (.int (i3 + (u 683 ((78 : Int32) + i4).toNatClampNeg))), some (.int i4), some (.int (u 688 (((7 : Int32) * i2) + (u 683 ((58 : Int32) + i4).toNatClampNeg)).toNatClampNeg))]) dX12_worthBy_84 rfl (by decide) rfl ?_
          exact xEv.fewer (ls' := [some (.ref 655), some (.int i1), some (.int i2), some (.int (i3 + (u 683 ((78 : Int32) + i4).toNatClampNeg))), some (.int i4), none]) k (xfw_get (xfw_s (xfw_s (xfw_s (xfw_s (xfw_s (xfw_n (xfw_nil _))))))))

theorem TX12_worthBy_85 {g : xGT} {d : Nat} {i1 i2 i3 i4 : Int32} {u : xU} {w : xW} {r : xQ} {P : xPost}
    (k : xEv g d mX12_worthBy 5 [some (.ref 655), some (.int i1), some (.int i2), some (.int i3), some (.int (i4 + (1 : Int32))), none] [] 698 u w r 698 P) :
    xEv g d mX12_worthBy 85 [some (.ref 655), some (.int i1), some (.int i2), some (.int i3), some (.int i4), none] [] 698 u w r 698 P := by
  refine xe_iinc (v := (i4 + (1 : Int32))) (ls' := [some (.ref 655), some (.int i1), some (.int i2), some (.int i3), some (.int (i4 + (1 : Int32))), none]) dX12_worthBy_85 rfl (by decide) rfl rfl ?_
  refine xe_goto (tgt := 5) dX12_worthBy_88 rfl ?_
  exact k

/-! FuneralPostModel.members -/

theorem TX12_members_0 {g : xGT} {d : Nat} {i0 : Int32} {u : xU} {w : xW} {r : xQ} {P : xPost}
    (k : xEv g d mX12_members 4 [some (.int i0), some (.int (0 : Int32)), some (.int (0 : Int32))] [] 698 u w r 698 P) :
    xEv g d mX12_members 0 [some (.int i0), none, none] [] 698 u w r 698 P := by
  refine xe_iconst (v := 0) dX12_members_0 rfl ?_
  refine xe_istore_n (ls' := [some (.int i0), some (.int (0 : Int32)), none]) dX12_members_1 rfl (by decide) rfl ?_
  refine xe_iconst (v := 0) dX12_members_2 rfl ?_
  refine xe_istore_n (ls' := [some (.int i0), some (.int (0 : Int32)), some (.int (0 : Int32))]) dX12_members_3 rfl (by decide) rfl ?_
  exact k

theorem CX12_members {g : xGT} {d : Nat} {i0 : Int32} {u : xU} {w : xW} {r : xQ} {P : xPost}
    (k : xEv g d mX12_members 4 [some (.int i0), some (.int (0 : Int32)), some (.int (0 : Int32))] [] 698 u w r 698 P) :
    xCall g d mX12_members [.int i0] 698 u w r 698 P :=
  xCall.of plX12 (Nat.le_of_ble_eq_true rfl) rfl (TX12_members_0  k)

theorem TX12_members_4 {g : xGT} {d : Nat} {i0 i1 i2 : Int32} {u : xU} {w : xW} {r : xQ} {P : xPost}
    (k : ((12 : Int32) ≤ i2 → P (some (.int i1)) u w r) ∧ (¬ ((12 : Int32) ≤ i2) → xEv g d mX12_members 4 [some (.int i0), some (.int (i1 + ((i0 >>> (i2 &&& 31)) &&& (1 : Int32)))), some (.int (i2 + (1 : Int32)))] [] 698 u w r 698 P)) :
    xEv g d mX12_members 4 [some (.int i0), some (.int i1), some (.int i2)] [] 698 u w r 698 P := by
  refine xe_iload_n dX12_members_4 rfl ?_
  refine xe_bipush (v := 12) dX12_members_5 rfl ?_
  refine xe_icmp_ge (tgt := 24) dX12_members_7 rfl (fun c1 => ?_) (fun c2 => ?_)
  · have k := k.1 c1
    refine xe_iload_n dX12_members_24 rfl ?_
    exact xe_ireturn dX12_members_25 rfl k
  · have k := k.2 (fun q => (c2 q))
    refine xe_iload_n dX12_members_10 rfl ?_
    refine xe_iload_n dX12_members_11 rfl ?_
    refine xe_iload_n dX12_members_12 rfl ?_
    refine xe_ishr dX12_members_13 ?_
    refine xe_iconst (v := 1) dX12_members_14 rfl ?_
    refine xe_iand dX12_members_15 ?_
    refine xe_iadd dX12_members_16 ?_
    refine xe_istore_n (ls' := [some (.int i0), some (.int (i1 + ((i0 >>> (i2 &&& 31)) &&& (1 : Int32)))), some (.int i2)]) dX12_members_17 rfl (by decide) rfl ?_
    refine xe_iinc (v := (i2 + (1 : Int32))) (ls' := [some (.int i0), some (.int (i1 + ((i0 >>> (i2 &&& 31)) &&& (1 : Int32)))), some (.int (i2 + (1 : Int32)))]) dX12_members_18 rfl (by decide) rfl rfl ?_
    refine xe_goto (tgt := 4) dX12_members_21 rfl ?_
    exact k

/-! FuneralPostModel.swap -/

set_option maxRecDepth 20000 in
theorem TX12_swap_0 {g : xGT} {d : Nat} {i1 i2 i3 : Int32} {u : xU} {w : xW} {r : xQ} {P : xPost} (hr : xRf r)
    (k : xCall g d mX12_isBier [.ref 655, .int i1] 698 u w r 698 (fun rv1 u1 w1 r1 => ∃ v1 : Int32, rv1 = some (.int v1) ∧ u = u1 ∧ w = w1 ∧ r = r1 ∧ (v1 = 0 → P (some (.int (-1 : Int32))) u w r) ∧ (¬ (v1 = 0) → xCall g d mX12_isBier [.ref 655, .int i2] 698 u w r 698 (fun rv4 u4 w4 r4 => ∃ v4 : Int32, rv4 = some (.int v4) ∧ u = u4 ∧ w = w4 ∧ r = r4 ∧ ((¬ (v4 = 0) ∧ ¬ (i1 = i2)) → xCall g d mX12_isIn [.int i3, .int (0 : Int32), .int (2 : Int32)] 698 u w r 698 (fun rv9 u9 w9 r9 => ∃ v9 : Int32, rv9 = some (.int v9) ∧ u = u9 ∧ w = w9 ∧ r = r9 ∧ (v9 = 0 → P (some (.int (-1 : Int32))) u w r) ∧ (¬ (v9 = 0) → vp_in i1 92 ∧ (((u 683 i1.toNatClampNeg) = (1 : Int32) → vp_in i2 92) ∧ (((u 683 i1.toNatClampNeg) = (1 : Int32) → (u 683 i2.toNatClampNeg) = (1 : Int32) → vp_in ((6 : Int32) + i1) 92) ∧ (((u 683 i1.toNatClampNeg) = (1 : Int32) → (u 683 i2.toNatClampNeg) = (1 : Int32) → vp_in ((6 : Int32) + i2) 92) ∧ (((¬ ((u 683 i1.toNatClampNeg) = (1 : Int32)) ∨ (¬ ((u 683 i2.toNatClampNeg) = (1 : Int32)) ∨ ¬ ((u 683 ((6 : Int32) + i1).toNatClampNeg) = (u 683 ((6 : Int32) + i2).toNatClampNeg)))) → P (some (.int (-1 : Int32))) u w r) ∧ (¬ (¬ ((u 683 i1.toNatClampNeg) = (1 : Int32)) ∨ (¬ ((u 683 i2.toNatClampNeg) = (1 : Int32)) ∨ ¬ ((u 683 ((6 : Int32) + i1).toNatClampNeg) = (u 683 ((6 : Int32) + i2).toNatClampNeg)))) → xEv g (d + 1) mX12_swap 81 [some (.ref 655), some (.int i1), some (.int i2), some (.int i3), some (.int (0 : Int32)), some (.int (0 : Int32)), none, none, none] [] 698 u w r 698 P)))))))) ∧ (¬ (¬ (v4 = 0) ∧ ¬ (i1 = i2)) → P (some (.int (-1 : Int32))) u w r))))) :
    xEv g (d + 1) mX12_swap 0 [some (.ref 655), some (.int i1), some (.int i2), some (.int i3), none, none, none, none, none] [] 698 u w r 698 P := by
  refine xe_aload_n dX12_swap_0 rfl ?_
  refine xe_iload_n dX12_swap_1 rfl ?_
  refine xe_callV (args := [.int i1]) dX12_swap_2 vlX12_493 rfl rfl (Nat.le_of_ble_eq_true rfl) kk655 (xKK_lt kk655) rfl rfl k (Nat.le_refl _) (fun rv1 u1 w1 r1 k => ?_)
  obtain ⟨v1, rfl, rfl, rfl, rfl, k⟩ := k
  refine xe_if_eq (tgt := 30) dX12_swap_5 rfl (fun c2 => ?_) (fun c3 => ?_)
  · have k := k.1 c2
    refine xe_iconst (v := -1) dX12_swap_30 rfl ?_
    exact xe_ireturn dX12_swap_31 rfl k
  · have k := k.2 (fun q => (c3 q))
    refine xe_aload_n dX12_swap_8 rfl ?_
    refine xe_iload_n dX12_swap_9 rfl ?_
    refine xe_callV (args := [.int i2]) dX12_swap_10 vlX12_493 rfl rfl (Nat.le_of_ble_eq_true rfl) kk655 (xKK_lt kk655) rfl rfl k (Nat.le_refl _) (fun rv4 u4 w4 r4 k => ?_)
    obtain ⟨v4, rfl, rfl, rfl, rfl, k⟩ := k
    have K24 : ¬ (¬ (v4 = 0) ∧ ¬ (i1 = i2)) → xEv g (d + 1) mX12_swap 30 [some (.ref 655), some (.int i1), some (.int i2), some (.int i3), none, none, none, none, none] [] 698 u w r 698 P := fun c25 => by
      have k := k.2 c25
      refine xe_iconst (v := -1) dX12_swap_30 rfl ?_
      exact xe_ireturn dX12_swap_31 rfl k
    refine xe_if_eq (tgt := 30) dX12_swap_13 rfl (fun c5 => ?_) (fun c6 => ?_)
    · exact K24 (fun q => (q.1 c5))
    · refine xe_iload_n dX12_swap_16 rfl ?_
      refine xe_iload_n dX12_swap_17 rfl ?_
      refine xe_icmp_eq (tgt := 30) dX12_swap_18 rfl (fun c7 => ?_) (fun c8 => ?_)
      · exact K24 (fun q => (q.2 c7))
      · have k := k.1 ⟨c6, c8⟩
        refine xe_iload_n dX12_swap_21 rfl ?_
        refine xe_iconst (v := 0) dX12_swap_22 rfl ?_
        refine xe_iconst (v := 2) dX12_swap_23 rfl ?_
        refine xe_callS (args := [.int i3, .int (0 : Int32), .int (2 : Int32)]) dX12_swap_24 slX12_426 rfl rfl (Nat.le_of_ble_eq_true rfl) k (Nat.le_refl _) (fun rv9 u9 w9 r9 k => ?_)
        obtain ⟨v9, rfl, rfl, rfl, rfl, k⟩ := k
        refine xe_if_ne (tgt := 32) dX12_swap_27 rfl (fun c10 => ?_) (fun c11 => ?_)
        · have k := k.2 (fun q => (c10 q))
          refine xe_aload_n dX12_swap_32 rfl ?_
          refine xe_getR (b := 683) dX12_swap_33 flX12_99 kk655 (xKK_lt kk655) rfl (rf655_57 hr) ?_
          refine xe_iload_n dX12_swap_36 rfl ?_
          obtain ⟨b12, k⟩ := k
          refine xe_iald dX12_swap_37 kk683 (xKK_lt kk683) b12 ?_
          refine xe_iconst (v := 1) dX12_swap_38 rfl ?_
          obtain ⟨b15, k⟩ := k
          obtain ⟨b18, k⟩ := k
          obtain ⟨b19, k⟩ := k
          have K22 : (¬ ((u 683 i1.toNatClampNeg) = (1 : Int32)) ∨ (¬ ((u 683 i2.toNatClampNeg) = (1 : Int32)) ∨ ¬ ((u 683 ((6 : Int32) + i1).toNatClampNeg) = (u 683 ((6 : Int32) + i2).toNatClampNeg)))) → xEv g (d + 1) mX12_swap 73 [some (.ref 655), some (.int i1), some (.int i2), some (.int i3), none, none, none, none, none] [] 698 u w r 698 P := fun c23 => by
            have k := k.1 c23
            refine xe_iconst (v := -1) dX12_swap_73 rfl ?_
            exact xe_ireturn dX12_swap_74 rfl k
          refine xe_icmp_ne (tgt := 73) dX12_swap_39 rfl (fun c13 => ?_) (fun c14 => ?_)
          · exact K22 (Or.inl c13)
          · refine xe_aload_n dX12_swap_42 rfl ?_
            refine xe_getR (b := 683) dX12_swap_43 flX12_99 kk655 (xKK_lt kk655) rfl (rf655_57 hr) ?_
            refine xe_iload_n dX12_swap_46 rfl ?_
            refine xe_iald dX12_swap_47 kk683 (xKK_lt kk683) (b15 c14) ?_
            refine xe_iconst (v := 1) dX12_swap_48 rfl ?_
            refine xe_icmp_ne (tgt := 73) dX12_swap_49 rfl (fun c16 => ?_) (fun c17 => ?_)
            · exact K22 (Or.inr (Or.inl c16))
            · refine xe_aload_n dX12_swap_52 rfl ?_
              refine xe_getR (b := 683) dX12_swap_53 flX12_99 kk655 (xKK_lt kk655) rfl (rf655_57 hr) ?_
              refine xe_bipush (v := 6) dX12_swap_56 rfl ?_
              refine xe_iload_n dX12_swap_58 rfl ?_
              refine xe_iadd dX12_swap_59 ?_
              refine xe_iald dX12_swap_60 kk683 (xKK_lt kk683) (b18 c14 c17) ?_
              refine xe_aload_n dX12_swap_61 rfl ?_
              refine xe_getR (b := 683) dX12_swap_62 flX12_99 kk655 (xKK_lt kk655) rfl (rf655_57 hr) ?_
              refine xe_bipush (v := 6) dX12_swap_65 rfl ?_
              refine xe_iload_n dX12_swap_67 rfl ?_
              refine xe_iadd dX12_swap_68 ?_
              refine xe_iald dX12_swap_69 kk683 (xKK_lt kk683) (b19 c14 c17) ?_
              refine xe_icmp_eq (tgt := 75) dX12_swap_70 rfl (fun c20 => ?_) (fun c21 => ?_)
              · have k := k.2 (fun q => (q.elim (fun z => (z c14)) (fun z => (z.elim (fun z => (z c17)) (fun z => (z c20))))))
                refine xe_iconst (v := 0) dX12_swap_75 rfl ?_
                refine xe_istore (ls' := [some (.ref 655), some (.int i1), some (.int i2), some (.int i3), some (.int (0 : Int32)), none, none, none, none]) dX12_swap_76 (by decide) rfl ?_
                refine xe_iconst (v := 0) dX12_swap_78 rfl ?_
                refine xe_istore (ls' := [some (.ref 655), some (.int i1), some (.int i2), some (.int i3), some (.int (0 : Int32)), some (.int (0 : Int32)), none, none, none]) dX12_swap_79 (by decide) rfl ?_
                exact k
              · exact K22 (Or.inr (Or.inr c21))
        · have k := k.1 c11
          refine xe_iconst (v := -1) dX12_swap_30 rfl ?_
          exact xe_ireturn dX12_swap_31 rfl k

theorem CX12_swap {g : xGT} {d : Nat} {i1 i2 i3 : Int32} {u : xU} {w : xW} {r : xQ} {P : xPost} (hr : xRf r)
    (k : xCall g d mX12_isBier [.ref 655, .int i1] 698 u w r 698 (fun rv1 u1 w1 r1 => ∃ v1 : Int32, rv1 = some (.int v1) ∧ u = u1 ∧ w = w1 ∧ r = r1 ∧ (v1 = 0 → P (some (.int (-1 : Int32))) u w r) ∧ (¬ (v1 = 0) → xCall g d mX12_isBier [.ref 655, .int i2] 698 u w r 698 (fun rv4 u4 w4 r4 => ∃ v4 : Int32, rv4 = some (.int v4) ∧ u = u4 ∧ w = w4 ∧ r = r4 ∧ ((¬ (v4 = 0) ∧ ¬ (i1 = i2)) → xCall g d mX12_isIn [.int i3, .int (0 : Int32), .int (2 : Int32)] 698 u w r 698 (fun rv9 u9 w9 r9 => ∃ v9 : Int32, rv9 = some (.int v9) ∧ u = u9 ∧ w = w9 ∧ r = r9 ∧ (v9 = 0 → P (some (.int (-1 : Int32))) u w r) ∧ (¬ (v9 = 0) → vp_in i1 92 ∧ (((u 683 i1.toNatClampNeg) = (1 : Int32) → vp_in i2 92) ∧ (((u 683 i1.toNatClampNeg) = (1 : Int32) → (u 683 i2.toNatClampNeg) = (1 : Int32) → vp_in ((6 : Int32) + i1) 92) ∧ (((u 683 i1.toNatClampNeg) = (1 : Int32) → (u 683 i2.toNatClampNeg) = (1 : Int32) → vp_in ((6 : Int32) + i2) 92) ∧ (((¬ ((u 683 i1.toNatClampNeg) = (1 : Int32)) ∨ (¬ ((u 683 i2.toNatClampNeg) = (1 : Int32)) ∨ ¬ ((u 683 ((6 : Int32) + i1).toNatClampNeg) = (u 683 ((6 : Int32) + i2).toNatClampNeg)))) → P (some (.int (-1 : Int32))) u w r) ∧ (¬ (¬ ((u 683 i1.toNatClampNeg) = (1 : Int32)) ∨ (¬ ((u 683 i2.toNatClampNeg) = (1 : Int32)) ∨ ¬ ((u 683 ((6 : Int32) + i1).toNatClampNeg) = (u 683 ((6 : Int32) + i2).toNatClampNeg)))) → xEv g (d + 1) mX12_swap 81 [some (.ref 655), some (.int i1), some (.int i2), some (.int i3), some (.int (0 : Int32)), some (.int (0 : Int32)), none, none, none] [] 698 u w r 698 P)))))))) ∧ (¬ (¬ (v4 = 0) ∧ ¬ (i1 = i2)) → P (some (.int (-1 : Int32))) u w r))))) :
    xCall g (d + 1) mX12_swap [.ref 655, .int i1, .int i2, .int i3] 698 u w r 698 P :=
  xCall.of plX12 (Nat.le_of_ble_eq_true rfl) rfl (TX12_swap_0 hr k)

theorem TX12_swap_81 {g : xGT} {d : Nat} {i1 i2 i3 i4 i5 : Int32} {u : xU} {w : xW} {r : xQ} {P : xPost} (hr : xRf r)
    (k : ((u 683 88) ≤ i5 → xCall g d mX12_layStood [.ref 655] 698 u w r 698 (fun rv28 u28 w28 r28 => rv28 = none ∧ w = w28 ∧ r = r28 ∧ xEv g (d + 1) mX12_swap 156 [some (.ref 655), some (.int i1), some (.int i2), some (.int i3), some (.int i4), some (.int (-1 : Int32)), some (.int (-1 : Int32)), some (.int (0 : Int32)), none] [] 698 u28 w r 698 P)) ∧ (¬ ((u 683 88) ≤ i5) → vp_in ((28 : Int32) + i5) 92 ∧ (xCall g d mX12_truth [.int (xb ((u 683 ((28 : Int32) + i5).toNatClampNeg) = i1 ∨ (u 683 ((28 : Int32) + i5).toNatClampNeg) = i2))] 698 u w r 698 (fun rv34 u34 w34 r34 => ∃ v34 : Int32, rv34 = some (.int v34) ∧ u = u34 ∧ w = w34 ∧ r = r34 ∧ xEv g (d + 1) mX12_swap 81 [some (.ref 655), some (.int i1), some (.int i2), some (.int i3), some (.int (i4 ||| (v34 <<< (i5 &&& 31)))), some (.int (i5 + (1 : Int32))), none, none, none] [] 698 u w r 698 P)))) :
    xEv g (d + 1) mX12_swap 81 [some (.ref 655), some (.int i1), some (.int i2), some (.int i3), some (.int i4), some (.int i5), none, none, none] [] 698 u w r 698 P := by
  refine xe_iload dX12_swap_81 rfl ?_
  refine xe_aload_n dX12_swap_83 rfl ?_
  refine xe_getR (b := 683) dX12_swap_84 flX12_99 kk655 (xKK_lt kk655) rfl (rf655_57 hr) ?_
  refine xe_bipush (v := 88) dX12_swap_87 rfl ?_
  refine xe_iald dX12_swap_89 kk683 (xKK_lt kk683) (show ¬ ((88 : Int32) < 0 ∨ 92 ≤ (88 : Int32).toNatClampNeg) from by decide) ?_
  refine xe_icmp_ge (tgt := 143) dX12_swap_90 rfl (fun c26 => ?_) (fun c27 => ?_)
  · have k := k.1 c26
    refine xe_aload_n dX12_swap_143 rfl ?_
    refine xe_callV (args := []) dX12_swap_144 vlX12_532 rfl rfl (Nat.le_of_ble_eq_true rfl) kk655 (xKK_lt kk655) rfl rfl k (Nat.le_refl _) (fun rv28 u28 w28 r28 k => ?_)
    obtain ⟨rfl, rfl, rfl, k⟩ := k
    refine xe_iconst (v := -1) dX12_swap_147 rfl ?_
    refine xe_istore (ls' := [some (.ref 655), some (.int i1), some (.int i2), some (.int i3), some (.int i4), some (.int (-1 : Int32)), none, none, none]) dX12_swap_148 (by decide) rfl ?_
    refine xe_iconst (v := -1) dX12_swap_150 rfl ?_
    refine xe_istore (ls' := [some (.ref 655), some (.int i1), some (.int i2), some (.int i3), some (.int i4), some (.int (-1 : Int32)), some (.int (-1 : Int32)), none, none]) dX12_swap_151 (by decide) rfl ?_
    refine xe_iconst (v := 0) dX12_swap_153 rfl ?_
    refine xe_istore (ls' := [some (.ref 655), some (.int i1), some (.int i2), some (.int i3), some (.int i4), some (.int (-1 : Int32)), some (.int (-1 : Int32)), some (.int (0 : Int32)), none]) dX12_swap_154 (by decide) rfl ?_
    exact k
  · have k := k.2 (fun q => (c27 q))
    refine xe_iload dX12_swap_93 rfl ?_
    refine xe_aload_n dX12_swap_95 rfl ?_
    refine xe_getR (b := 683) dX12_swap_96 flX12_99 kk655 (xKK_lt kk655) rfl (rf655_57 hr) ?_
    refine xe_bipush (v := 28) dX12_swap_99 rfl ?_
    refine xe_iload dX12_swap_101 rfl ?_
    refine xe_iadd dX12_swap_103 ?_
    obtain ⟨b29, k⟩ := k
    refine xe_iald dX12_swap_104 kk683 (xKK_lt kk683) b29 ?_
    refine xe_iload_n dX12_swap_105 rfl ?_
    have K35 : xEv g (d + 1) mX12_swap 128 [some (.ref 655), some (.int i1), some (.int i2), some (.int i3), some (.int i4), some (.int i5), none, none, none] [.int (xb ((u 683 ((28 : Int32) + i5).toNatClampNeg) = i1 ∨ (u 683 ((28 : Int32) + i5).toNatClampNeg) = i2)), .int i4] 698 u w r 698 P := by
      refine xe_callS (args := [.int (xb ((u 683 ((28 : Int32) + i5).toNatClampNeg) = i1 ∨ (u 683 ((28 : Int32) + i5).toNatClampNeg) = i2))]) dX12_swap_128 slX12_317 rfl rfl (Nat.le_of_ble_eq_true rfl) k (Nat.le_refl _) (fun rv34 u34 w34 r34 k => ?_)
      obtain ⟨v34, rfl, rfl, rfl, rfl, k⟩ := k
      refine xe_iload dX12_swap_131 rfl ?_
      refine xe_ishl dX12_swap_133 ?_
      refine xe_ior dX12_swap_134 ?_
      refine xe_istore (ls' := [some (.ref 655), some (.int i1), some (.int i2), some (.int i3), some (.int (i4 ||| (v34 <<< (i5 &&& 31)))), some (.int i5), none, none, none]) dX12_swap_135 (by decide) rfl ?_
      refine xe_iinc (v := (i5 + (1 : Int32))) (ls' := [some (.ref 655), some (.int i1), some (.int i2), some (.int i3), some (.int (i4 ||| (v34 <<< (i5 &&& 31)))), some (.int (i5 + (1 : Int32))), none, none, none]) dX12_swap_137 rfl (by decide) rfl rfl ?_
      refine xe_goto (tgt := 81) dX12_swap_140 rfl ?_
      exact k
    refine xe_icmp_eq (tgt := 123) dX12_swap_106 rfl (fun c30 => ?_) (fun c31 => ?_)
    · refine xe_iconst (v := 1) dX12_swap_123 rfl ?_
      refine xe_goto (tgt := 128) dX12_swap_124 rfl ?_
      exact xtop (xb_pos (show ((u 683 ((28 : Int32) + i5).toNatClampNeg) = i1 ∨ (u 683 ((28 : Int32) + i5).toNatClampNeg) = i2) from (Or.inl c30))) K35
    · refine xe_aload_n dX12_swap_109 rfl ?_
      refine xe_getR (b := 683) dX12_swap_110 flX12_99 kk655 (xKK_lt kk655) rfl (rf655_57 hr) ?_
      refine xe_bipush (v := 28) dX12_swap_113 rfl ?_
      refine xe_iload dX12_swap_115 rfl ?_
      refine xe_iadd dX12_swap_117 ?_
      refine xe_iald dX12_swap_118 kk683 (xKK_lt kk683) b29 ?_
      refine xe_iload_n dX12_swap_119 rfl ?_
      refine xe_icmp_ne (tgt := 127) dX12_swap_120 rfl (fun c32 => ?_) (fun c33 => ?_)
      · refine xe_iconst (v := 0) dX12_swap_127 rfl ?_
        exact xtop (xb_neg (show ¬ ((u 683 ((28 : Int32) + i5).toNatClampNeg) = i1 ∨ (u 683 ((28 : Int32) + i5).toNatClampNeg) = i2) from (fun q => (q.elim (fun z => (c31 z)) (fun z => (c32 z)))))) K35
      · refine xe_iconst (v := 1) dX12_swap_123 rfl ?_
        refine xe_goto (tgt := 128) dX12_swap_124 rfl ?_
        exact xtop (xb_pos (show ((u 683 ((28 : Int32) + i5).toNatClampNeg) = i1 ∨ (u 683 ((28 : Int32) + i5).toNatClampNeg) = i2) from (Or.inr c33))) K35

set_option maxRecDepth 20000 in
theorem TX12_swap_156 {g : xGT} {d : Nat} {i1 i2 i3 i4 i5 i6 i7 : Int32} {u : xU} {w : xW} {r : xQ} {P : xPost} (hr : xRf r)
    (k : (i4 < i7 → (i3 = 0 → P (some (.int i6)) u w r) ∧ (¬ (i3 = 0) → (i3 = (1 : Int32) → P (some (.int i5)) u w r) ∧ (¬ (i3 = (1 : Int32)) → P (some (.int (i4 &&& (i5 ^^^ (-1 : Int32))))) u w r))) ∧ (¬ (i4 < i7) → ((i7 &&& (i4 ^^^ (-1 : Int32))) = 0 → xCall g d mX12_members [.int i7] 698 u w r 698 (fun rv44 u44 w44 r44 => ∃ v44 : Int32, rv44 = some (.int v44) ∧ u = u44 ∧ w = w44 ∧ r = r44 ∧ vp_in i1 6 ∧ (((u 678 i1.toNatClampNeg) < v44 → xEv g (d + 1) mX12_swap 249 [some (.ref 655), some (.int i1), some (.int i2), some (.int i3), some (.int i4), some (.int i5), some (.int i6), some (.int i7), none] [] 698 u w r 698 P) ∧ (¬ ((u 678 i1.toNatClampNeg) < v44) → xCall g d mX12_members [.int (i4 &&& (i7 ^^^ (-1 : Int32)))] 698 u w r 698 (fun rv48 u48 w48 r48 => ∃ v48 : Int32, rv48 = some (.int v48) ∧ u = u48 ∧ w = w48 ∧ r = r48 ∧ vp_in i2 6 ∧ ((v48 ≤ (u 678 i2.toNatClampNeg) → xCall g d mX12_worthBy [.ref 655, .int i7, .int i1] 698 u w r 698 (fun rv52 u52 w52 r52 => ∃ v52 : Int32, rv52 = some (.int v52) ∧ u = u52 ∧ w = w52 ∧ r = r52 ∧ xCall g d mX12_worthBy [.ref 655, .int (i4 &&& (i7 ^^^ (-1 : Int32))), .int i2] 698 u w r 698 (fun rv53 u53 w53 r53 => ∃ v53 : Int32, rv53 = some (.int v53) ∧ u = u53 ∧ w = w53 ∧ r = r53 ∧ (i6 < (v52 + v53) → xEv g (d + 1) mX12_swap 249 [some (.ref 655), some (.int i1), some (.int i2), some (.int i3), some (.int i4), some (.int i7), some (.int (v52 + v53)), some (.int i7), none] [] 698 u w r 698 P) ∧ (¬ (i6 < (v52 + v53)) → xEv g (d + 1) mX12_swap 249 [some (.ref 655), some (.int i1), some (.int i2), some (.int i3), some (.int i4), some (.int i5), some (.int i6), some (.int i7), none] [] 698 u w r 698 P)))) ∧ (¬ (v48 ≤ (u 678 i2.toNatClampNeg)) → xEv g (d + 1) mX12_swap 249 [some (.ref 655), some (.int i1), some (.int i2), some (.int i3), some (.int i4), some (.int i5), some (.int i6), some (.int i7), none] [] 698 u w r 698 P))))))) ∧ (¬ ((i7 &&& (i4 ^^^ (-1 : Int32))) = 0) → xEv g (d + 1) mX12_swap 249 [some (.ref 655), some (.int i1), some (.int i2), some (.int i3), some (.int i4), some (.int i5), some (.int i6), some (.int i7), none] [] 698 u w r 698 P))) :
    xEv g (d + 1) mX12_swap 156 [some (.ref 655), some (.int i1), some (.int i2), some (.int i3), some (.int i4), some (.int i5), some (.int i6), some (.int i7), none] [] 698 u w r 698 P := by
  refine xe_iload dX12_swap_156 rfl ?_
  refine xe_iload dX12_swap_158 rfl ?_
  refine xe_icmp_gt (tgt := 255) dX12_swap_160 rfl (fun c36 => ?_) (fun c37 => ?_)
  · have k := k.1 c36
    refine xe_iload_n dX12_swap_255 rfl ?_
    refine xe_if_ne (tgt := 264) dX12_swap_256 rfl (fun c38 => ?_) (fun c39 => ?_)
    · have k := k.2 (fun q => (c38 q))
      refine xe_iload_n dX12_swap_264 rfl ?_
      refine xe_iconst (v := 1) dX12_swap_265 rfl ?_
      refine xe_icmp_ne (tgt := 274) dX12_swap_266 rfl (fun c40 => ?_) (fun c41 => ?_)
      · have k := k.2 (fun q => (c40 q))
        refine xe_iload dX12_swap_274 rfl ?_
        refine xe_iload dX12_swap_276 rfl ?_
        refine xe_iconst (v := -1) dX12_swap_278 rfl ?_
        refine xe_ixor dX12_swap_279 ?_
        refine xe_iand dX12_swap_280 ?_
        exact xe_ireturn dX12_swap_281 rfl k
      · have k := k.1 c41
        refine xe_iload dX12_swap_269 rfl ?_
        refine xe_goto (tgt := 281) dX12_swap_271 rfl ?_
        exact xe_ireturn dX12_swap_281 rfl k
    · have k := k.1 c39
      refine xe_iload dX12_swap_259 rfl ?_
      refine xe_goto (tgt := 281) dX12_swap_261 rfl ?_
      exact xe_ireturn dX12_swap_281 rfl k
  · have k := k.2 (fun q => (c37 q))
    refine xe_iload dX12_swap_163 rfl ?_
    refine xe_iload dX12_swap_165 rfl ?_
    refine xe_iconst (v := -1) dX12_swap_167 rfl ?_
    refine xe_ixor dX12_swap_168 ?_
    refine xe_iand dX12_swap_169 ?_
    refine xe_if_ne (tgt := 249) dX12_swap_170 rfl (fun c42 => ?_) (fun c43 => ?_)
    · have k := k.2 (fun q => (c42 q))
      exact k
    · have k := k.1 c43
      refine xe_iload dX12_swap_173 rfl ?_
      refine xe_callS (args := [.int i7]) dX12_swap_175 slX12_535 rfl rfl (Nat.le_of_ble_eq_true rfl) k (Nat.le_refl _) (fun rv44 u44 w44 r44 k => ?_)
      obtain ⟨v44, rfl, rfl, rfl, rfl, k⟩ := k
      refine xe_aload_n dX12_swap_178 rfl ?_
      refine xe_getR (b := 678) dX12_swap_179 flX12_81 kk655 (xKK_lt kk655) rfl (rf655_38 hr) ?_
      refine xe_iload_n dX12_swap_182 rfl ?_
      obtain ⟨b45, k⟩ := k
      refine xe_iald dX12_swap_183 kk678 (xKK_lt kk678) b45 ?_
      refine xe_icmp_gt (tgt := 249) dX12_swap_184 rfl (fun c46 => ?_) (fun c47 => ?_)
      · have k := k.1 c46
        exact k
      · have k := k.2 (fun q => (c47 q))
        refine xe_iload dX12_swap_187 rfl ?_
        refine xe_iload dX12_swap_189 rfl ?_
        refine xe_iconst (v := -1) dX12_swap_191 rfl ?_
        refine xe_ixor dX12_swap_192 ?_
        refine xe_iand dX12_swap_193 ?_
        refine xe_callS (args := [.int (i4 &&& (i7 ^^^ (-1 : Int32)))]) dX12_swap_194 slX12_535 rfl rfl (Nat.le_of_ble_eq_true rfl) k (Nat.le_refl _) (fun rv48 u48 w48 r48 k => ?_)
        obtain ⟨v48, rfl, rfl, rfl, rfl, k⟩ := k
        refine xe_aload_n dX12_swap_197 rfl ?_
        refine xe_getR (b := 678) dX12_swap_198 flX12_81 kk655 (xKK_lt kk655) rfl (rf655_38 hr) ?_
        refine xe_iload_n dX12_swap_201 rfl ?_
        obtain ⟨b49, k⟩ := k
        refine xe_iald dX12_swap_202 kk678 (xKK_lt kk678) b49 ?_
        refine xe_icmp_le (tgt := 209) dX12_swap_203 rfl (fun c50 => ?_) (fun c51 => ?_)
        · have k := k.1 c50
          refine xe_aload_n dX12_swap_209 rfl ?_
          refine xe_iload dX12_swap_210 rfl ?_
          refine xe_iload_n dX12_swap_212 rfl ?_
          refine xe_callV (args := [.int i7, .int i1]) dX12_swap_213 vlX12_538 rfl rfl (Nat.le_of_ble_eq_true rfl) kk655 (xKK_lt kk655) rfl rfl k (Nat.le_refl _) (fun rv52 u52 w52 r52 k => ?_)
          obtain ⟨v52, rfl, rfl, rfl, rfl, k⟩ := k
          refine xe_aload_n dX12_swap_216 rfl ?_
          refine xe_iload dX12_swap_217 rfl ?_
          refine xe_iload dX12_swap_219 rfl ?_
          refine xe_iconst (v := -1) dX12_swap_221 rfl ?_
          refine xe_ixor dX12_swap_222 ?_
          refine xe_iand dX12_swap_223 ?_
          refine xe_iload_n dX12_swap_224 rfl ?_
          refine xe_callV (args := [.int (i4 &&& (i7 ^^^ (-1 : Int32))), .int i2]) dX12_swap_225 vlX12_538 rfl rfl (Nat.le_of_ble_eq_true rfl) kk655 (xKK_lt kk655) rfl rfl k (Nat.le_refl _) (fun rv53 u53 w53 r53 k => ?_)
          obtain ⟨v53, rfl, rfl, rfl, rfl, k⟩ := k
          refine xe_iadd dX12_swap_228 ?_
          refine xe_istore (ls' := [some (.ref 655), some (.int i1), some (.int i2), some (.int i3), some (.int i4), some (.int i5), some (.int i6), some (.int i7), some (.int (v52 + v53))]) dX12_swap_229 (by decide) rfl ?_
          refine xe_iload dX12_swap_231 rfl ?_
          refine xe_iload dX12_swap_233 rfl ?_
          refine xe_icmp_gt (tgt := 241) dX12_swap_235 rfl (fun c54 => ?_) (fun c55 => ?_)
          · have k := k.1 c54
            refine xe_iload dX12_swap_241 rfl ?_
            refine xe_istore (ls' := [some (.ref 655), some (.int i1), some (.int i2), some (.int i3), some (.int i4), some (.int i7), some (.int i6), some (.int i7), some (.int (v52 + v53))]) dX12_swap_243 (by decide) rfl ?_
            refine xe_iload dX12_swap_245 rfl ?_
            refine xe_istore (ls' := [some (.ref 655), some (.int i1), some (.int i2), some (.int i3), some (.int i4), some (.int i7), some (.int (v52 + v53)), some (.int i7), some (.int (v52 + v53))]) dX12_swap_247 (by decide) rfl ?_
            exact xEv.fewer (ls' := [some (.ref 655), some (.int i1), some (.int i2), some (.int i3), some (.int i4), some (.int i7), some (.int (v52 + v53)), some (.int i7), none]) k (xfw_get (xfw_s (xfw_s (xfw_s (xfw_s (xfw_s (xfw_s (xfw_s (xfw_s (xfw_n (xfw_nil _)))))))))))
          · have k := k.2 (fun q => (c55 q))
            refine xe_goto (tgt := 249) dX12_swap_238 rfl ?_
            exact xEv.fewer (ls' := [some (.ref 655), some (.int i1), some (.int i2), some (.int i3), some (.int i4), some (.int i5), some (.int i6), some (.int i7), none]) k (xfw_get (xfw_s (xfw_s (xfw_s (xfw_s (xfw_s (xfw_s (xfw_s (xfw_s (xfw_n (xfw_nil _)))))))))))
        · have k := k.2 (fun q => (c51 q))
          refine xe_goto (tgt := 249) dX12_swap_206 rfl ?_
          exact k

theorem TX12_swap_249 {g : xGT} {d : Nat} {i1 i2 i3 i4 i5 i6 i7 : Int32} {u : xU} {w : xW} {r : xQ} {P : xPost}
    (k : xEv g (d + 1) mX12_swap 156 [some (.ref 655), some (.int i1), some (.int i2), some (.int i3), some (.int i4), some (.int i5), some (.int i6), some (.int (i7 + (1 : Int32))), none] [] 698 u w r 698 P) :
    xEv g (d + 1) mX12_swap 249 [some (.ref 655), some (.int i1), some (.int i2), some (.int i3), some (.int i4), some (.int i5), some (.int i6), some (.int i7), none] [] 698 u w r 698 P := by
  refine xe_iinc (v := (i7 + (1 : Int32))) (ls' := [some (.ref 655), some (.int i1), some (.int i2), some (.int i3), some (.int i4), some (.int i5), some (.int i6), some (.int (i7 + (1 : Int32))), none]) dX12_swap_249 rfl (by decide) rfl rfl ?_
  refine xe_goto (tgt := 156) dX12_swap_252 rfl ?_
  exact k

/-! FuneralPostModel.cover -/

theorem TX12_cover_0 {g : xGT} {d : Nat} {i1 i2 : Int32} {u : xU} {w : xW} {r : xQ} {P : xPost}
    (k : xCall g d mX12_isIn [.int i1, .int (0 : Int32), .int (((1 : Int32) <<< ((u 655 49) &&& 31)) - (1 : Int32))] 698 u w r 698 (fun rv1 u1 w1 r1 => ∃ v1 : Int32, rv1 = some (.int v1) ∧ u = u1 ∧ w = w1 ∧ r = r1 ∧ (v1 = 0 → P (some (.int (-1 : Int32))) u w r) ∧ (¬ (v1 = 0) → xCall g d mX12_isIn [.int i2, .int (0 : Int32), .int (1 : Int32)] 698 u w r 698 (fun rv4 u4 w4 r4 => ∃ v4 : Int32, rv4 = some (.int v4) ∧ u = u4 ∧ w = w4 ∧ r = r4 ∧ (v4 = 0 → P (some (.int (-1 : Int32))) u w r) ∧ (¬ (v4 = 0) → xCall g d mX12_load [.ref 655] 698 u w r 698 (fun rv7 u7 w7 r7 => rv7 = none ∧ w = w7 ∧ r = r7 ∧ xEv g (d + 1) mX12_cover 36 [some (.ref 655), some (.int i1), some (.int i2), some (.int (-1 : Int32)), some (.int (0 : Int32)), none, none, none] [] 698 u7 w r 698 P)))))) :
    xEv g (d + 1) mX12_cover 0 [some (.ref 655), some (.int i1), some (.int i2), none, none, none, none, none] [] 698 u w r 698 P := by
  refine xe_iload_n dX12_cover_0 rfl ?_
  refine xe_iconst (v := 0) dX12_cover_1 rfl ?_
  refine xe_iconst (v := 1) dX12_cover_2 rfl ?_
  refine xe_aload_n dX12_cover_3 rfl ?_
  refine xe_getI dX12_cover_4 flX12_395 kk655 (xKK_lt kk655) rfl ?_
  refine xe_ishl dX12_cover_7 ?_
  refine xe_iconst (v := 1) dX12_cover_8 rfl ?_
  refine xe_isub dX12_cover_9 ?_
  refine xe_callS (args := [.int i1, .int (0 : Int32), .int (((1 : Int32) <<< ((u 655 49) &&& 31)) - (1 : Int32))]) dX12_cover_10 slX12_426 rfl rfl (Nat.le_of_ble_eq_true rfl) k (Nat.le_refl _) (fun rv1 u1 w1 r1 k => ?_)
  obtain ⟨v1, rfl, rfl, rfl, rfl, k⟩ := k
  refine xe_if_eq (tgt := 25) dX12_cover_13 rfl (fun c2 => ?_) (fun c3 => ?_)
  · have k := k.1 c2
    refine xe_iconst (v := -1) dX12_cover_25 rfl ?_
    exact xe_ireturn dX12_cover_26 rfl k
  · have k := k.2 (fun q => (c3 q))
    refine xe_iload_n dX12_cover_16 rfl ?_
    refine xe_iconst (v := 0) dX12_cover_17 rfl ?_
    refine xe_iconst (v := 1) dX12_cover_18 rfl ?_
    refine xe_callS (args := [.int i2, .int (0 : Int32), .int (1 : Int32)]) dX12_cover_19 slX12_426 rfl rfl (Nat.le_of_ble_eq_true rfl) k (Nat.le_refl _) (fun rv4 u4 w4 r4 k => ?_)
    obtain ⟨v4, rfl, rfl, rfl, rfl, k⟩ := k
    refine xe_if_ne (tgt := 27) dX12_cover_22 rfl (fun c5 => ?_) (fun c6 => ?_)
    · have k := k.2 (fun q => (c5 q))
      refine xe_aload_n dX12_cover_27 rfl ?_
      refine xe_callV (args := []) dX12_cover_28 vlX12_496 rfl rfl (Nat.le_of_ble_eq_true rfl) kk655 (xKK_lt kk655) rfl rfl k (Nat.le_refl _) (fun rv7 u7 w7 r7 k => ?_)
      obtain ⟨rfl, rfl, rfl, k⟩ := k
      refine xe_iconst (v := -1) dX12_cover_31 rfl ?_
      refine xe_istore_n (ls' := [some (.ref 655), some (.int i1), some (.int i2), some (.int (-1 : Int32)), none, none, none, none]) dX12_cover_32 rfl (by decide) rfl ?_
      refine xe_iconst (v := 0) dX12_cover_33 rfl ?_
      refine xe_istore (ls' := [some (.ref 655), some (.int i1), some (.int i2), some (.int (-1 : Int32)), some (.int (0 : Int32)), none, none, none]) dX12_cover_34 (by decide) rfl ?_
      exact k
    · have k := k.1 c6
      refine xe_iconst (v := -1) dX12_cover_25 rfl ?_
      exact xe_ireturn dX12_cover_26 rfl k

theorem CX12_cover {g : xGT} {d : Nat} {i1 i2 : Int32} {u : xU} {w : xW} {r : xQ} {P : xPost}
    (k : xCall g d mX12_isIn [.int i1, .int (0 : Int32), .int (((1 : Int32) <<< ((u 655 49) &&& 31)) - (1 : Int32))] 698 u w r 698 (fun rv1 u1 w1 r1 => ∃ v1 : Int32, rv1 = some (.int v1) ∧ u = u1 ∧ w = w1 ∧ r = r1 ∧ (v1 = 0 → P (some (.int (-1 : Int32))) u w r) ∧ (¬ (v1 = 0) → xCall g d mX12_isIn [.int i2, .int (0 : Int32), .int (1 : Int32)] 698 u w r 698 (fun rv4 u4 w4 r4 => ∃ v4 : Int32, rv4 = some (.int v4) ∧ u = u4 ∧ w = w4 ∧ r = r4 ∧ (v4 = 0 → P (some (.int (-1 : Int32))) u w r) ∧ (¬ (v4 = 0) → xCall g d mX12_load [.ref 655] 698 u w r 698 (fun rv7 u7 w7 r7 => rv7 = none ∧ w = w7 ∧ r = r7 ∧ xEv g (d + 1) mX12_cover 36 [some (.ref 655), some (.int i1), some (.int i2), some (.int (-1 : Int32)), some (.int (0 : Int32)), none, none, none] [] 698 u7 w r 698 P)))))) :
    xCall g (d + 1) mX12_cover [.ref 655, .int i1, .int i2] 698 u w r 698 P :=
  xCall.of plX12 (Nat.le_of_ble_eq_true rfl) rfl (TX12_cover_0  k)

theorem TX12_cover_36 {g : xGT} {d : Nat} {i1 i2 i3 i4 : Int32} {u : xU} {w : xW} {r : xQ} {P : xPost}
    (k : (((1 : Int32) <<< ((u 655 51) &&& 31)) ≤ i4 → (0 ≤ i3 → (i2 = 0 → xCall g d mX12_members [.int i3] 698 u w r 698 (fun rv14 u14 w14 r14 => ∃ v14 : Int32, rv14 = some (.int v14) ∧ u = u14 ∧ w = w14 ∧ r = r14 ∧ P (some (.int v14)) u w r)) ∧ (¬ (i2 = 0) → P (some (.int i3)) u w r)) ∧ (¬ (0 ≤ i3) → P (some (.int (-1 : Int32))) u w r)) ∧ (¬ (((1 : Int32) <<< ((u 655 51) &&& 31)) ≤ i4) → xEv g (d + 1) mX12_cover 56 [some (.ref 655), some (.int i1), some (.int i2), some (.int i3), some (.int i4), some (.int (0 : Int32)), some (.int (1 : Int32)), some (.int (0 : Int32))] [] 698 u w r 698 P)) :
    xEv g (d + 1) mX12_cover 36 [some (.ref 655), some (.int i1), some (.int i2), some (.int i3), some (.int i4), none, none, none] [] 698 u w r 698 P := by
  refine xe_iload dX12_cover_36 rfl ?_
  refine xe_iconst (v := 1) dX12_cover_38 rfl ?_
  refine xe_aload_n dX12_cover_39 rfl ?_
  refine xe_getI dX12_cover_40 flX12_401 kk655 (xKK_lt kk655) rfl ?_
  refine xe_ishl dX12_cover_43 ?_
  refine xe_icmp_ge (tgt := 166) dX12_cover_44 rfl (fun c8 => ?_) (fun c9 => ?_)
  · have k := k.1 c8
    refine xe_iload_n dX12_cover_166 rfl ?_
    refine xe_if_ge (tgt := 174) dX12_cover_167 rfl (fun c10 => ?_) (fun c11 => ?_)
    · have k := k.1 c10
      refine xe_iload_n dX12_cover_174 rfl ?_
      refine xe_if_ne (tgt := 185) dX12_cover_175 rfl (fun c12 => ?_) (fun c13 => ?_)
      · have k := k.2 (fun q => (c12 q))
        refine xe_iload_n dX12_cover_185 rfl ?_
        exact xe_ireturn dX12_cover_186 rfl k
      · have k := k.1 c13
        refine xe_iload_n dX12_cover_178 rfl ?_
        refine xe_callS (args := [.int i3]) dX12_cover_179 slX12_535 rfl rfl (Nat.le_of_ble_eq_true rfl) k (Nat.le_refl _) (fun rv14 u14 w14 r14 k => ?_)
        obtain ⟨v14, rfl, rfl, rfl, rfl, k⟩ := k
        refine xe_goto (tgt := 186) dX12_cover_182 rfl ?_
        exact xe_ireturn dX12_cover_186 rfl k
    · have k := k.2 (fun q => (c11 q))
      refine xe_iconst (v := -1) dX12_cover_170 rfl ?_
      refine xe_goto (tgt := 186) dX12_cover_171 rfl ?_
      exact xe_ireturn dX12_cover_186 rfl k
  · have k := k.2 (fun q => (c9 q))
    refine xe_iconst (v := 0) dX12_cover_47 rfl ?_
    refine xe_istore (ls' := [some (.ref 655), some (.int i1), some (.int i2), some (.int i3), some (.int i4), some (.int (0 : Int32)), none, none]) dX12_cover_48 (by decide) rfl ?_
    refine xe_iconst (v := 1) dX12_cover_50 rfl ?_
    refine xe_istore (ls' := [some (.ref 655), some (.int i1), some (.int i2), some (.int i3), some (.int i4), some (.int (0 : Int32)), some (.int (1 : Int32)), none]) dX12_cover_51 (by decide) rfl ?_
    refine xe_iconst (v := 0) dX12_cover_53 rfl ?_
    refine xe_istore (ls' := [some (.ref 655), some (.int i1), some (.int i2), some (.int i3), some (.int i4), some (.int (0 : Int32)), some (.int (1 : Int32)), some (.int (0 : Int32))]) dX12_cover_54 (by decide) rfl ?_
    exact k

set_option maxRecDepth 20000 in
theorem TX12_cover_56 {g : xGT} {d : Nat} {i1 i2 i3 i4 i5 i6 i7 : Int32} {u : xU} {w : xW} {r : xQ} {P : xPost} (hr : xRf r)
    (k : ((u 655 51) ≤ i7 → ((¬ (i6 = 0) ∧ (i1 &&& (i5 ^^^ (-1 : Int32))) = 0) → (i3 < 0 → xEv g (d + 1) mX12_cover 157 [some (.ref 655), some (.int i1), some (.int i2), none, some (.int i4), none, none, none] [] 698 u w r 698 P) ∧ (¬ (i3 < 0) → xCall g d mX12_members [.int i4] 698 u w r 698 (fun rv23 u23 w23 r23 => ∃ v23 : Int32, rv23 = some (.int v23) ∧ u = u23 ∧ w = w23 ∧ r = r23 ∧ xCall g d mX12_members [.int i3] 698 u w r 698 (fun rv24 u24 w24 r24 => ∃ v24 : Int32, rv24 = some (.int v24) ∧ u = u24 ∧ w = w24 ∧ r = r24 ∧ (v24 ≤ v23 → xEv g (d + 1) mX12_cover 160 [some (.ref 655), some (.int i1), some (.int i2), some (.int i3), some (.int i4), none, none, none] [] 698 u w r 698 P) ∧ (¬ (v24 ≤ v23) → xEv g (d + 1) mX12_cover 157 [some (.ref 655), some (.int i1), some (.int i2), none, some (.int i4), none, none, none] [] 698 u w r 698 P))))) ∧ (¬ (¬ (i6 = 0) ∧ (i1 &&& (i5 ^^^ (-1 : Int32))) = 0) → xEv g (d + 1) mX12_cover 160 [some (.ref 655), some (.int i1), some (.int i2), some (.int i3), some (.int i4), none, none, none] [] 698 u w r 698 P)) ∧ (¬ ((u 655 51) ≤ i7) → (((i4 >>> (i7 &&& 31)) &&& (1 : Int32)) = 0 → xEv g (d + 1) mX12_cover 121 [some (.ref 655), some (.int i1), some (.int i2), some (.int i3), some (.int i4), some (.int i5), some (.int i6), some (.int i7)] [] 698 u w r 698 P) ∧ (¬ (((i4 >>> (i7 &&& 31)) &&& (1 : Int32)) = 0) → (¬ (i6 = 0) → vp_in i7 92) ∧ (((xb (¬ (i6 = 0) ∧ (u 684 i7.toNatClampNeg) = (1 : Int32))) = 0 → xEv g (d + 1) mX12_cover 118 [some (.ref 655), some (.int i1), some (.int i2), some (.int i3), some (.int i4), none, some (.int (xb (¬ (i6 = 0) ∧ (u 684 i7.toNatClampNeg) = (1 : Int32)))), some (.int i7)] [.int (0 : Int32), .int i5] 698 u w r 698 P) ∧ (¬ ((xb (¬ (i6 = 0) ∧ (u 684 i7.toNatClampNeg) = (1 : Int32))) = 0) → xCall g d mX12_restOf [.ref 655, .int i7] 698 u w r 698 (fun rv38 u38 w38 r38 => ∃ v38 : Int32, rv38 = some (.int v38) ∧ u = u38 ∧ w = w38 ∧ r = r38 ∧ xEv g (d + 1) mX12_cover 118 [some (.ref 655), some (.int i1), some (.int i2), some (.int i3), some (.int i4), none, some (.int (xb (¬ (i6 = 0) ∧ (u 684 i7.toNatClampNeg) = (1 : Int32)))), some (.int i7)] [.int v38, .int i5] 698 u w r 698 P)))))) :
    xEv g (d + 1) mX12_cover 56 [some (.ref 655), some (.int i1), some (.int i2), some (.int i3), some (.int i4), some (.int i5), some (.int i6), some (.int i7)] [] 698 u w r 698 P := by
  refine xe_iload dX12_cover_56 rfl ?_
  refine xe_aload_n dX12_cover_58 rfl ?_
  refine xe_getI dX12_cover_59 flX12_401 kk655 (xKK_lt kk655) rfl ?_
  refine xe_icmp_ge (tgt := 127) dX12_cover_62 rfl (fun c15 => ?_) (fun c16 => ?_)
  · have k := k.1 c15
    refine xe_iload dX12_cover_127 rfl ?_
    have K27 : ¬ (¬ (i6 = 0) ∧ (i1 &&& (i5 ^^^ (-1 : Int32))) = 0) → xEv g (d + 1) mX12_cover 160 [some (.ref 655), some (.int i1), some (.int i2), some (.int i3), some (.int i4), some (.int i5), some (.int i6), some (.int i7)] [] 698 u w r 698 P := fun c28 => by
      have k := k.2 c28
      exact xEv.fewer (ls' := [some (.ref 655), some (.int i1), some (.int i2), some (.int i3), some (.int i4), none, none, none]) k (xfw_get (xfw_s (xfw_s (xfw_s (xfw_s (xfw_s (xfw_n (xfw_n (xfw_n (xfw_nil _))))))))))
    refine xe_if_eq (tgt := 160) dX12_cover_129 rfl (fun c17 => ?_) (fun c18 => ?_)
    · exact K27 (fun q => (q.1 c17))
    · refine xe_iload_n dX12_cover_132 rfl ?_
      refine xe_iload dX12_cover_133 rfl ?_
      refine xe_iconst (v := -1) dX12_cover_135 rfl ?_
      refine xe_ixor dX12_cover_136 ?_
      refine xe_iand dX12_cover_137 ?_
      refine xe_if_ne (tgt := 160) dX12_cover_138 rfl (fun c19 => ?_) (fun c20 => ?_)
      · exact K27 (fun q => (c19 q.2))
      · have k := k.1 ⟨c18, c20⟩
        refine xe_iload_n dX12_cover_141 rfl ?_
        refine xe_if_lt (tgt := 157) dX12_cover_142 rfl (fun c21 => ?_) (fun c22 => ?_)
        · have k := k.1 c21
          exact xEv.fewer (ls' := [some (.ref 655), some (.int i1), some (.int i2), none, some (.int i4), none, none, none]) k (xfw_get (xfw_s (xfw_s (xfw_s (xfw_n (xfw_s (xfw_n (xfw_n (xfw_n (xfw_nil _))))))))))
        · have k := k.2 (fun q => (c22 q))
          refine xe_iload dX12_cover_145 rfl ?_
          refine xe_callS (args := [.int i4]) dX12_cover_147 slX12_535 rfl rfl (Nat.le_of_ble_eq_true rfl) k (Nat.le_refl _) (fun rv23 u23 w23 r23 k => ?_)
          obtain ⟨v23, rfl, rfl, rfl, rfl, k⟩ := k
          refine xe_iload_n dX12_cover_150 rfl ?_
          refine xe_callS (args := [.int i3]) dX12_cover_151 slX12_535 rfl rfl (Nat.le_of_ble_eq_true rfl) k (Nat.le_refl _) (fun rv24 u24 w24 r24 k => ?_)
          obtain ⟨v24, rfl, rfl, rfl, rfl, k⟩ := k
          refine xe_icmp_ge (tgt := 160) dX12_cover_154 rfl (fun c25 => ?_) (fun c26 => ?_)
          · have k := k.1 c25
            exact xEv.fewer (ls' := [some (.ref 655), some (.int i1), some (.int i2), some (.int i3), some (.int i4), none, none, none]) k (xfw_get (xfw_s (xfw_s (xfw_s (xfw_s (xfw_s (xfw_n (xfw_n (xfw_n (xfw_nil _))))))))))
          · have k := k.2 (fun q => (c26 q))
            exact xEv.fewer (ls' := [some (.ref 655), some (.int i1), some (.int i2), none, some (.int i4), none, none, none]) k (xfw_get (xfw_s (xfw_s (xfw_s (xfw_n (xfw_s (xfw_n (xfw_n (xfw_n (xfw_nil _))))))))))
  · have k := k.2 (fun q => (c16 q))
    refine xe_iload dX12_cover_65 rfl ?_
    refine xe_iload dX12_cover_67 rfl ?_
    refine xe_ishr dX12_cover_69 ?_
    refine xe_iconst (v := 1) dX12_cover_70 rfl ?_
    refine xe_iand dX12_cover_71 ?_
    refine xe_if_ne (tgt := 78) dX12_cover_72 rfl (fun c29 => ?_) (fun c30 => ?_)
    · have k := k.2 (fun q => (c29 q))
      refine xe_iload dX12_cover_78 rfl ?_
      obtain ⟨b33, k⟩ := k
      have K39 : xEv g (d + 1) mX12_cover 99 [some (.ref 655), some (.int i1), some (.int i2), some (.int i3), some (.int i4), some (.int i5), some (.int i6), some (.int i7)] [.int (xb (¬ (i6 = 0) ∧ (u 684 i7.toNatClampNeg) = (1 : Int32)))] 698 u w r 698 P := by
        refine xe_istore (ls' := [some (.ref 655), some (.int i1), some (.int i2), some (.int i3), some (.int i4), some (.int i5), some (.int (xb (¬ (i6 = 0) ∧ (u 684 i7.toNatClampNeg) = (1 : Int32)))), some (.int i7)]) dX12_cover_99 (by decide) rfl ?_
        refine xe_iload dX12_cover_101 rfl ?_
        refine xe_iload dX12_cover_103 rfl ?_
        refine xe_if_eq (tgt := 117) dX12_cover_105 rfl (fun c36 => ?_) (fun c37 => ?_)
        · have k := k.1 c36
          refine xe_iconst (v := 0) dX12_cover_117 rfl ?_
          exact xEv.fewer (ls' := [some (.ref 655), some (.int i1), some (.int i2), some (.int i3), some (.int i4), none, some (.int (xb (¬ (i6 = 0) ∧ (u 684 i7.toNatClampNeg) = (1 : Int32)))), some (.int i7)]) k (xfw_get (xfw_s (xfw_s (xfw_s (xfw_s (xfw_s (xfw_n (xfw_s (xfw_s (xfw_nil _))))))))))
        · have k := k.2 (fun q => (c37 q))
          refine xe_aload_n dX12_cover_108 rfl ?_
          refine xe_iload dX12_cover_109 rfl ?_
          refine xe_callV (args := [.int i7]) dX12_cover_111 vlX12_463 rfl rfl (Nat.le_of_ble_eq_true rfl) kk655 (xKK_lt kk655) rfl rfl k (Nat.le_refl _) (fun rv38 u38 w38 r38 k => ?_)
          obtain ⟨v38, rfl, rfl, rfl, rfl, k⟩ := k
          refine xe_goto (tgt := 118) dX12_cover_114 rfl ?_
          exact xEv.fewer (ls' := [some (.ref 655), some (.int i1), some (.int i2), some (.int i3), some (.int i4), none, some (.int (xb (¬ (i6 = 0) ∧ (u 684 i7.toNatClampNeg) = (1 : Int32)))), some (.int i7)]) k (xfw_get (xfw_s (xfw_s (xfw_s (xfw_s (xfw_s (xfw_n (xfw_s (xfw_s (xfw_nil _))))))))))
      refine xe_if_eq (tgt := 98) dX12_cover_80 rfl (fun c31 => ?_) (fun c32 => ?_)
      · refine xe_iconst (v := 0) dX12_cover_98 rfl ?_
        exact xtop (xb_neg (show ¬ (¬ (i6 = 0) ∧ (u 684 i7.toNatClampNeg) = (1 : Int32)) from (fun q => (q.1 c31)))) K39
      · refine xe_aload_n dX12_cover_83 rfl ?_
        refine xe_getR (b := 684) dX12_cover_84 flX12_102 kk655 (xKK_lt kk655) rfl (rf655_58 hr) ?_
        refine xe_iload dX12_cover_87 rfl ?_
        refine xe_iald dX12_cover_89 kk684 (xKK_lt kk684) (b33 c32) ?_
        refine xe_iconst (v := 1) dX12_cover_90 rfl ?_
        refine xe_icmp_ne (tgt := 98) dX12_cover_91 rfl (fun c34 => ?_) (fun c35 => ?_)
        · refine xe_iconst (v := 0) dX12_cover_98 rfl ?_
          exact xtop (xb_neg (show ¬ (¬ (i6 = 0) ∧ (u 684 i7.toNatClampNeg) = (1 : Int32)) from (fun q => (c34 q.2)))) K39
        · refine xe_iconst (v := 1) dX12_cover_94 rfl ?_
          refine xe_goto (tgt := 99) dX12_cover_95 rfl ?_
          exact xtop (xb_pos (show (¬ (i6 = 0) ∧ (u 684 i7.toNatClampNeg) = (1 : Int32)) from ⟨c32, c35⟩)) K39
    · have k := k.1 c30
      refine xe_goto (tgt := 121) dX12_cover_75 rfl ?_
      exact k

theorem TX12_cover_157 {g : xGT} {d : Nat} {i1 i2 i4 : Int32} {u : xU} {w : xW} {r : xQ} {P : xPost}
    (k : xEv g (d + 1) mX12_cover 160 [some (.ref 655), some (.int i1), some (.int i2), some (.int i4), some (.int i4), none, none, none] [] 698 u w r 698 P) :
    xEv g (d + 1) mX12_cover 157 [some (.ref 655), some (.int i1), some (.int i2), none, some (.int i4), none, none, none] [] 698 u w r 698 P := by
  refine xe_iload dX12_cover_157 rfl ?_
  refine xe_istore_n (ls' := [some (.ref 655), some (.int i1), some (.int i2), some (.int i4), some (.int i4), none, none, none]) dX12_cover_159 rfl (by decide) rfl ?_
  exact k

theorem TX12_cover_160 {g : xGT} {d : Nat} {i1 i2 i3 i4 : Int32} {u : xU} {w : xW} {r : xQ} {P : xPost}
    (k : xEv g (d + 1) mX12_cover 36 [some (.ref 655), some (.int i1), some (.int i2), some (.int i3), some (.int (i4 + (1 : Int32))), none, none, none] [] 698 u w r 698 P) :
    xEv g (d + 1) mX12_cover 160 [some (.ref 655), some (.int i1), some (.int i2), some (.int i3), some (.int i4), none, none, none] [] 698 u w r 698 P := by
  refine xe_iinc (v := (i4 + (1 : Int32))) (ls' := [some (.ref 655), some (.int i1), some (.int i2), some (.int i3), some (.int (i4 + (1 : Int32))), none, none, none]) dX12_cover_160 rfl (by decide) rfl rfl ?_
  refine xe_goto (tgt := 36) dX12_cover_163 rfl ?_
  exact k

theorem TX12_cover_121 {g : xGT} {d : Nat} {i1 i2 i3 i4 i5 i6 i7 : Int32} {u : xU} {w : xW} {r : xQ} {P : xPost}
    (k : xEv g (d + 1) mX12_cover 56 [some (.ref 655), some (.int i1), some (.int i2), some (.int i3), some (.int i4), some (.int i5), some (.int i6), some (.int (i7 + (1 : Int32)))] [] 698 u w r 698 P) :
    xEv g (d + 1) mX12_cover 121 [some (.ref 655), some (.int i1), some (.int i2), some (.int i3), some (.int i4), some (.int i5), some (.int i6), some (.int i7)] [] 698 u w r 698 P := by
  refine xe_iinc (v := (i7 + (1 : Int32))) (ls' := [some (.ref 655), some (.int i1), some (.int i2), some (.int i3), some (.int i4), some (.int i5), some (.int i6), some (.int (i7 + (1 : Int32)))]) dX12_cover_121 rfl (by decide) rfl rfl ?_
  refine xe_goto (tgt := 56) dX12_cover_124 rfl ?_
  exact k

theorem TX12_cover_118 {g : xGT} {d : Nat} {i1 i2 i3 i4 i6 i7 z0 z1 : Int32} {u : xU} {w : xW} {r : xQ} {P : xPost}
    (k : xEv g (d + 1) mX12_cover 121 [some (.ref 655), some (.int i1), some (.int i2), some (.int i3), some (.int i4), some (.int (z0 ||| z1)), some (.int i6), some (.int i7)] [] 698 u w r 698 P) :
    xEv g (d + 1) mX12_cover 118 [some (.ref 655), some (.int i1), some (.int i2), some (.int i3), some (.int i4), none, some (.int i6), some (.int i7)] [.int z1, .int z0] 698 u w r 698 P := by
  refine xe_ior dX12_cover_118 ?_
  refine xe_istore (ls' := [some (.ref 655), some (.int i1), some (.int i2), some (.int i3), some (.int i4), some (.int (z0 ||| z1)), some (.int i6), some (.int i7)]) dX12_cover_119 (by decide) rfl ?_
  exact k

/-! FuneralPostModel.laySoon -/

theorem TX12_laySoon_0 {g : xGT} {d : Nat} {i1 : Int32} {u : xU} {w : xW} {r : xQ} {P : xPost}
    (k : xCall g d mX12_load [.ref 655] 698 u w r 698 (fun rv1 u1 w1 r1 => rv1 = none ∧ w = w1 ∧ r = r1 ∧ xEv g (d + 1) mX12_laySoon 6 [some (.ref 655), some (.int i1), some (.int (0 : Int32)), none] [] 698 u1 w r 698 P)) :
    xEv g (d + 1) mX12_laySoon 0 [some (.ref 655), some (.int i1), none, none] [] 698 u w r 698 P := by
  refine xe_aload_n dX12_laySoon_0 rfl ?_
  refine xe_callV (args := []) dX12_laySoon_1 vlX12_496 rfl rfl (Nat.le_of_ble_eq_true rfl) kk655 (xKK_lt kk655) rfl rfl k (Nat.le_refl _) (fun rv1 u1 w1 r1 k => ?_)
  obtain ⟨rfl, rfl, rfl, k⟩ := k
  refine xe_iconst (v := 0) dX12_laySoon_4 rfl ?_
  refine xe_istore_n (ls' := [some (.ref 655), some (.int i1), some (.int (0 : Int32)), none]) dX12_laySoon_5 rfl (by decide) rfl ?_
  exact k

theorem CX12_laySoon {g : xGT} {d : Nat} {i1 : Int32} {u : xU} {w : xW} {r : xQ} {P : xPost}
    (k : xCall g d mX12_load [.ref 655] 698 u w r 698 (fun rv1 u1 w1 r1 => rv1 = none ∧ w = w1 ∧ r = r1 ∧ xEv g (d + 1) mX12_laySoon 6 [some (.ref 655), some (.int i1), some (.int (0 : Int32)), none] [] 698 u1 w r 698 P)) :
    xCall g (d + 1) mX12_laySoon [.ref 655, .int i1] 698 u w r 698 P :=
  xCall.of plX12 (Nat.le_of_ble_eq_true rfl) rfl (TX12_laySoon_0  k)

theorem TX12_laySoon_6 {g : xGT} {d : Nat} {i1 i2 : Int32} {u : xU} {w : xW} {r : xQ} {P : xPost} (hr : xRf r)
    (k : ((7 : Int32) ≤ i2 → xEv g (d + 1) mX12_laySoon 44 [some (.ref 655), none, some (.int (0 : Int32)), none] [] 698 u w r 698 P) ∧ (¬ ((7 : Int32) ≤ i2) → vp_in i2 7 ∧ (xEv g (d + 1) mX12_laySoon 6 [some (.ref 655), some (.int i1), some (.int (i2 + (1 : Int32))), none] [] 698 (x2 u 689 i2.toNatClampNeg (if i2 = i1 then (u 684 90) else (300 : Int32))) w r 698 P))) :
    xEv g (d + 1) mX12_laySoon 6 [some (.ref 655), some (.int i1), some (.int i2), none] [] 698 u w r 698 P := by
  refine xe_iload_n dX12_laySoon_6 rfl ?_
  refine xe_bipush (v := 7) dX12_laySoon_7 rfl ?_
  refine xe_icmp_ge (tgt := 42) dX12_laySoon_9 rfl (fun c2 => ?_) (fun c3 => ?_)
  · have k := k.1 c2
    refine xe_iconst (v := 0) dX12_laySoon_42 rfl ?_
    refine xe_istore_n (ls' := [some (.ref 655), some (.int i1), some (.int (0 : Int32)), none]) dX12_laySoon_43 rfl (by decide) rfl ?_
    exact xEv.fewer (ls' := [some (.ref 655), none, some (.int (0 : Int32)), none]) k (xfw_get (xfw_s (xfw_n (xfw_s (xfw_n (xfw_nil _))))))
  · have k := k.2 (fun q => (c3 q))
    refine xe_aload_n dX12_laySoon_12 rfl ?_
    refine xe_getR (b := 689) dX12_laySoon_13 flX12_117 kk655 (xKK_lt kk655) rfl (rf655_66 hr) ?_
    refine xe_iload_n dX12_laySoon_16 rfl ?_
    refine xe_iload_n dX12_laySoon_17 rfl ?_
    refine xe_iload_n dX12_laySoon_18 rfl ?_
    have K7 : xEv g (d + 1) mX12_laySoon 35 [some (.ref 655), some (.int i1), some (.int i2), none] [.int (if i2 = i1 then (u 684 90) else (300 : Int32)), .int i2, .ref 689] 698 u w r 698 P := by
      obtain ⟨b6, k⟩ := k
      refine xe_iast dX12_laySoon_35 kk689 (xKK_lt kk689) b6 ?_
      refine xe_iinc (v := (i2 + (1 : Int32))) (ls' := [some (.ref 655), some (.int i1), some (.int (i2 + (1 : Int32))), none]) dX12_laySoon_36 rfl (by decide) rfl rfl ?_
      refine xe_goto (tgt := 6) dX12_laySoon_39 rfl ?_
      exact k
    refine xe_icmp_ne (tgt := 32) dX12_laySoon_19 rfl (fun c4 => ?_) (fun c5 => ?_)
    · refine xe_sipush (v := 300) dX12_laySoon_32 rfl ?_
      exact xtop (if_neg (fun q => (c4 q))) K7
    · refine xe_aload_n dX12_laySoon_22 rfl ?_
      refine xe_getR (b := 684) dX12_laySoon_23 flX12_102 kk655 (xKK_lt kk655) rfl (rf655_58 hr) ?_
      refine xe_bipush (v := 90) dX12_laySoon_26 rfl ?_
      refine xe_iald dX12_laySoon_28 kk684 (xKK_lt kk684) (show ¬ ((90 : Int32) < 0 ∨ 92 ≤ (90 : Int32).toNatClampNeg) from by decide) ?_
      refine xe_goto (tgt := 35) dX12_laySoon_29 rfl ?_
      exact xtop (if_pos c5) K7

theorem TX12_laySoon_44 {g : xGT} {d : Nat} {i2 : Int32} {u : xU} {w : xW} {r : xQ} {P : xPost} (hr : xRf r)
    (k : ((300 : Int32) ≤ (u 684 90) → P none u w r) ∧ (¬ ((300 : Int32) ≤ (u 684 90)) → xCall g d mX12_stepOne [.ref 655] 698 u w r 698 (fun rv10 u10 w10 r10 => rv10 = none ∧ w = w10 ∧ r = r10 ∧ xEv g (d + 1) mX12_laySoon 63 [some (.ref 655), none, some (.int i2), some (.int (0 : Int32))] [] 698 u10 w r 698 P))) :
    xEv g (d + 1) mX12_laySoon 44 [some (.ref 655), none, some (.int i2), none] [] 698 u w r 698 P := by
  refine xe_aload_n dX12_laySoon_44 rfl ?_
  refine xe_getR (b := 684) dX12_laySoon_45 flX12_102 kk655 (xKK_lt kk655) rfl (rf655_58 hr) ?_
  refine xe_bipush (v := 90) dX12_laySoon_48 rfl ?_
  refine xe_iald dX12_laySoon_50 kk684 (xKK_lt kk684) (show ¬ ((90 : Int32) < 0 ∨ 92 ≤ (90 : Int32).toNatClampNeg) from by decide) ?_
  refine xe_sipush (v := 300) dX12_laySoon_51 rfl ?_
  refine xe_icmp_ge (tgt := 206) dX12_laySoon_54 rfl (fun c8 => ?_) (fun c9 => ?_)
  · have k := k.1 c8
    exact xe_return dX12_laySoon_206 trivial k
  · have k := k.2 (fun q => (c9 q))
    refine xe_aload_n dX12_laySoon_57 rfl ?_
    refine xe_callV (args := []) dX12_laySoon_58 vlX12_481 rfl rfl (Nat.le_of_ble_eq_true rfl) kk655 (xKK_lt kk655) rfl rfl k (Nat.le_refl _) (fun rv10 u10 w10 r10 k => ?_)
    obtain ⟨rfl, rfl, rfl, k⟩ := k
    refine xe_iconst (v := 0) dX12_laySoon_61 rfl ?_
    refine xe_istore_n (ls' := [some (.ref 655), none, some (.int i2), some (.int (0 : Int32))]) dX12_laySoon_62 rfl (by decide) rfl ?_
    exact k

set_option maxRecDepth 20000 in
theorem TX12_laySoon_63 {g : xGT} {d : Nat} {i2 i3 : Int32} {u : xU} {w : xW} {r : xQ} {P : xPost} (hr : xRf r)
    (k : ((u 655 51) ≤ i3 → xEv g (d + 1) mX12_laySoon 149 [some (.ref 655), none, some (.int i2), some (.int (0 : Int32))] [] 698 u w r 698 P) ∧ (¬ ((u 655 51) ≤ i3) → (((i2 >>> (i3 &&& 31)) &&& (1 : Int32)) = (1 : Int32) → vp_in i3 92 ∧ (((u 684 i3.toNatClampNeg) = (1 : Int32) → vp_in ((6 : Int32) + i3) 92) ∧ (((u 684 i3.toNatClampNeg) = (1 : Int32) → vp_in (u 684 ((6 : Int32) + i3).toNatClampNeg) 7) ∧ ((¬ ((u 684 i3.toNatClampNeg) = (1 : Int32)) → (u 684 i3.toNatClampNeg) = (3 : Int32) → vp_in ((6 : Int32) + i3) 92) ∧ ((¬ ((u 684 i3.toNatClampNeg) = (1 : Int32)) → (u 684 i3.toNatClampNeg) = (3 : Int32) → vp_in (u 684 ((6 : Int32) + i3).toNatClampNeg) 7) ∧ (((((u 684 i3.toNatClampNeg) = (1 : Int32) ∧ (u 689 (u 684 ((6 : Int32) + i3).toNatClampNeg).toNatClampNeg) = (300 : Int32)) ∨ (¬ ((u 684 i3.toNatClampNeg) = (1 : Int32)) ∧ ((u 684 i3.toNatClampNeg) = (3 : Int32) ∧ (u 689 (u 684 ((6 : Int32) + i3).toNatClampNeg).toNatClampNeg) = (300 : Int32)))) → vp_in ((6 : Int32) + i3) 92 ∧ (vp_in (u 684 ((6 : Int32) + i3).toNatClampNeg) 7 ∧ (xEv g (d + 1) mX12_laySoon 141 [some (.ref 655), none, some (.int i2), some (.int i3)] [] 698 (x2 u 689 (u 684 ((6 : Int32) + i3).toNatClampNeg).toNatClampNeg (u 684 90)) w r 698 P))) ∧ (¬ (((u 684 i3.toNatClampNeg) = (1 : Int32) ∧ (u 689 (u 684 ((6 : Int32) + i3).toNatClampNeg).toNatClampNeg) = (300 : Int32)) ∨ (¬ ((u 684 i3.toNatClampNeg) = (1 : Int32)) ∧ ((u 684 i3.toNatClampNeg) = (3 : Int32) ∧ (u 689 (u 684 ((6 : Int32) + i3).toNatClampNeg).toNatClampNeg) = (300 : Int32)))) → xEv g (d + 1) mX12_laySoon 141 [some (.ref 655), none, some (.int i2), some (.int i3)] [] 698 u w r 698 P))))))) ∧ (¬ (((i2 >>> (i3 &&& 31)) &&& (1 : Int32)) = (1 : Int32)) → xEv g (d + 1) mX12_laySoon 141 [some (.ref 655), none, some (.int i2), some (.int i3)] [] 698 u w r 698 P))) :
    xEv g (d + 1) mX12_laySoon 63 [some (.ref 655), none, some (.int i2), some (.int i3)] [] 698 u w r 698 P := by
  refine xe_iload_n dX12_laySoon_63 rfl ?_
  refine xe_aload_n dX12_laySoon_64 rfl ?_
  refine xe_getI dX12_laySoon_65 flX12_401 kk655 (xKK_lt kk655) rfl ?_
  refine xe_icmp_ge (tgt := 147) dX12_laySoon_68 rfl (fun c11 => ?_) (fun c12 => ?_)
  · have k := k.1 c11
    refine xe_iconst (v := 0) dX12_laySoon_147 rfl ?_
    refine xe_istore_n (ls' := [some (.ref 655), none, some (.int i2), some (.int (0 : Int32))]) dX12_laySoon_148 rfl (by decide) rfl ?_
    exact k
  · have k := k.2 (fun q => (c12 q))
    refine xe_iload_n dX12_laySoon_71 rfl ?_
    refine xe_iload_n dX12_laySoon_72 rfl ?_
    refine xe_ishr dX12_laySoon_73 ?_
    refine xe_iconst (v := 1) dX12_laySoon_74 rfl ?_
    refine xe_iand dX12_laySoon_75 ?_
    refine xe_iconst (v := 1) dX12_laySoon_76 rfl ?_
    refine xe_icmp_ne (tgt := 141) dX12_laySoon_77 rfl (fun c13 => ?_) (fun c14 => ?_)
    · have k := k.2 (fun q => (c13 q))
      exact k
    · have k := k.1 c14
      refine xe_aload_n dX12_laySoon_80 rfl ?_
      refine xe_getR (b := 684) dX12_laySoon_81 flX12_102 kk655 (xKK_lt kk655) rfl (rf655_58 hr) ?_
      refine xe_iload_n dX12_laySoon_84 rfl ?_
      obtain ⟨b15, k⟩ := k
      refine xe_iald dX12_laySoon_85 kk684 (xKK_lt kk684) b15 ?_
      refine xe_iconst (v := 1) dX12_laySoon_86 rfl ?_
      obtain ⟨b17, k⟩ := k
      obtain ⟨b18, k⟩ := k
      obtain ⟨b24, k⟩ := k
      obtain ⟨b25, k⟩ := k
      have K30 : (((u 684 i3.toNatClampNeg) = (1 : Int32) ∧ (u 689 (u 684 ((6 : Int32) + i3).toNatClampNeg).toNatClampNeg) = (300 : Int32)) ∨ (¬ ((u 684 i3.toNatClampNeg) = (1 : Int32)) ∧ ((u 684 i3.toNatClampNeg) = (3 : Int32) ∧ (u 689 (u 684 ((6 : Int32) + i3).toNatClampNeg).toNatClampNeg) = (300 : Int32)))) → xEv g (d + 1) mX12_laySoon 120 [some (.ref 655), none, some (.int i2), some (.int i3)] [] 698 u w r 698 P := fun c31 => by
        have k := k.1 c31
        refine xe_aload_n dX12_laySoon_120 rfl ?_
        refine xe_getR (b := 689) dX12_laySoon_121 flX12_117 kk655 (xKK_lt kk655) rfl (rf655_66 hr) ?_
        refine xe_aload_n dX12_laySoon_124 rfl ?_
        refine xe_getR (b := 684) dX12_laySoon_125 flX12_102 kk655 (xKK_lt kk655) rfl (rf655_58 hr) ?_
        refine xe_bipush (v := 6) dX12_laySoon_128 rfl ?_
        refine xe_iload_n dX12_laySoon_130 rfl ?_
        refine xe_iadd dX12_laySoon_131 ?_
        obtain ⟨b28, k⟩ := k
        refine xe_iald dX12_laySoon_132 kk684 (xKK_lt kk684) b28 ?_
        refine xe_aload_n dX12_laySoon_133 rfl ?_
        refine xe_getR (b := 684) dX12_laySoon_134 flX12_102 kk655 (xKK_lt kk655) rfl (rf655_58 hr) ?_
        refine xe_bipush (v := 90) dX12_laySoon_137 rfl ?_
        refine xe_iald dX12_laySoon_139 kk684 (xKK_lt kk684) (show ¬ ((90 : Int32) < 0 ∨ 92 ≤ (90 : Int32).toNatClampNeg) from by decide) ?_
        obtain ⟨b29, k⟩ := k
        refine xe_iast dX12_laySoon_140 kk689 (xKK_lt kk689) b29 ?_
        exact k
      have K32 : ¬ (((u 684 i3.toNatClampNeg) = (1 : Int32) ∧ (u 689 (u 684 ((6 : Int32) + i3).toNatClampNeg).toNatClampNeg) = (300 : Int32)) ∨ (¬ ((u 684 i3.toNatClampNeg) = (1 : Int32)) ∧ ((u 684 i3.toNatClampNeg) = (3 : Int32) ∧ (u 689 (u 684 ((6 : Int32) + i3).toNatClampNeg).toNatClampNeg) = (300 : Int32)))) → xEv g (d + 1) mX12_laySoon 141 [some (.ref 655), none, some (.int i2), some (.int i3)] [] 698 u w r 698 P := fun c33 => by
        have k := k.2 c33
        exact k
      refine xe_icmp_eq (tgt := 100) dX12_laySoon_87 rfl (fun c16 => ?_) (fun c21 => ?_)
      · refine xe_aload_n dX12_laySoon_100 rfl ?_
        refine xe_getR (b := 689) dX12_laySoon_101 flX12_117 kk655 (xKK_lt kk655) rfl (rf655_66 hr) ?_
        refine xe_aload_n dX12_laySoon_104 rfl ?_
        refine xe_getR (b := 684) dX12_laySoon_105 flX12_102 kk655 (xKK_lt kk655) rfl (rf655_58 hr) ?_
        refine xe_bipush (v := 6) dX12_laySoon_108 rfl ?_
        refine xe_iload_n dX12_laySoon_110 rfl ?_
        refine xe_iadd dX12_laySoon_111 ?_
        refine xe_iald dX12_laySoon_112 kk684 (xKK_lt kk684) (b17 c16) ?_
        refine xe_iald dX12_laySoon_113 kk689 (xKK_lt kk689) (b18 c16) ?_
        refine xe_sipush (v := 300) dX12_laySoon_114 rfl ?_
        refine xe_icmp_ne (tgt := 141) dX12_laySoon_117 rfl (fun c19 => ?_) (fun c20 => ?_)
        · exact K32 (fun q => (q.elim (fun z => (c19 z.2)) (fun z => (z.1 c16))))
        · exact K30 (Or.inl ⟨c16, c20⟩)
      · refine xe_aload_n dX12_laySoon_90 rfl ?_
        refine xe_getR (b := 684) dX12_laySoon_91 flX12_102 kk655 (xKK_lt kk655) rfl (rf655_58 hr) ?_
        refine xe_iload_n dX12_laySoon_94 rfl ?_
        refine xe_iald dX12_laySoon_95 kk684 (xKK_lt kk684) b15 ?_
        refine xe_iconst (v := 3) dX12_laySoon_96 rfl ?_
        refine xe_icmp_ne (tgt := 141) dX12_laySoon_97 rfl (fun c22 => ?_) (fun c23 => ?_)
        · exact K32 (fun q => (q.elim (fun z => (c21 z.1)) (fun z => (c22 z.2.1))))
        · refine xe_aload_n dX12_laySoon_100 rfl ?_
          refine xe_getR (b := 689) dX12_laySoon_101 flX12_117 kk655 (xKK_lt kk655) rfl (rf655_66 hr) ?_
          refine xe_aload_n dX12_laySoon_104 rfl ?_
          refine xe_getR (b := 684) dX12_laySoon_105 flX12_102 kk655 (xKK_lt kk655) rfl (rf655_58 hr) ?_
          refine xe_bipush (v := 6) dX12_laySoon_108 rfl ?_
          refine xe_iload_n dX12_laySoon_110 rfl ?_
          refine xe_iadd dX12_laySoon_111 ?_
          refine xe_iald dX12_laySoon_112 kk684 (xKK_lt kk684) (b24 c21 c23) ?_
          refine xe_iald dX12_laySoon_113 kk689 (xKK_lt kk689) (b25 c21 c23) ?_
          refine xe_sipush (v := 300) dX12_laySoon_114 rfl ?_
          refine xe_icmp_ne (tgt := 141) dX12_laySoon_117 rfl (fun c26 => ?_) (fun c27 => ?_)
          · exact K32 (fun q => (q.elim (fun z => (c21 z.1)) (fun z => (c26 z.2.2))))
          · exact K30 (Or.inr ⟨c21, ⟨c23, c27⟩⟩)

theorem TX12_laySoon_149 {g : xGT} {d : Nat} {i2 i3 : Int32} {u : xU} {w : xW} {r : xQ} {P : xPost} (hr : xRf r)
    (k : ((u 655 51) ≤ i3 → xCall g d mX12_stepFour [.ref 655] 698 u w r 698 (fun rv36 u36 w36 r36 => rv36 = none ∧ w = w36 ∧ r = r36 ∧ xEv g (d + 1) mX12_laySoon 44 [some (.ref 655), none, some (.int i2), none] [] 698 u36 w r 698 P)) ∧ (¬ ((u 655 51) ≤ i3) → vp_in i3 92 ∧ (((u 684 i3.toNatClampNeg) = (1 : Int32) → vp_in ((6 : Int32) + i3) 92) ∧ (((u 684 i3.toNatClampNeg) = (1 : Int32) → vp_in (u 684 ((6 : Int32) + i3).toNatClampNeg) 7) ∧ ((((u 684 i3.toNatClampNeg) = (1 : Int32) ∧ ¬ ((300 : Int32) ≤ (u 689 (u 684 ((6 : Int32) + i3).toNatClampNeg).toNatClampNeg))) → xEv g (d + 1) mX12_laySoon 193 [some (.ref 655), none, some (.int (i2 ||| ((1 : Int32) <<< (i3 &&& 31)))), some (.int i3)] [] 698 u w r 698 P) ∧ (¬ ((u 684 i3.toNatClampNeg) = (1 : Int32) ∧ ¬ ((300 : Int32) ≤ (u 689 (u 684 ((6 : Int32) + i3).toNatClampNeg).toNatClampNeg))) → xEv g (d + 1) mX12_laySoon 193 [some (.ref 655), none, some (.int i2), some (.int i3)] [] 698 u w r 698 P)))))) :
    xEv g (d + 1) mX12_laySoon 149 [some (.ref 655), none, some (.int i2), some (.int i3)] [] 698 u w r 698 P := by
  refine xe_iload_n dX12_laySoon_149 rfl ?_
  refine xe_aload_n dX12_laySoon_150 rfl ?_
  refine xe_getI dX12_laySoon_151 flX12_401 kk655 (xKK_lt kk655) rfl ?_
  refine xe_icmp_ge (tgt := 199) dX12_laySoon_154 rfl (fun c34 => ?_) (fun c35 => ?_)
  · have k := k.1 c34
    refine xe_aload_n dX12_laySoon_199 rfl ?_
    refine xe_callV (args := []) dX12_laySoon_200 vlX12_490 rfl rfl (Nat.le_of_ble_eq_true rfl) kk655 (xKK_lt kk655) rfl rfl k (Nat.le_refl _) (fun rv36 u36 w36 r36 k => ?_)
    obtain ⟨rfl, rfl, rfl, k⟩ := k
    refine xe_goto (tgt := 44) dX12_laySoon_203 rfl ?_
    exact xEv.fewer (ls' := [some (.ref 655), none, some (.int i2), none]) k (xfw_get (xfw_s (xfw_n (xfw_s (xfw_n (xfw_nil _))))))
  · have k := k.2 (fun q => (c35 q))
    refine xe_aload_n dX12_laySoon_157 rfl ?_
    refine xe_getR (b := 684) dX12_laySoon_158 flX12_102 kk655 (xKK_lt kk655) rfl (rf655_58 hr) ?_
    refine xe_iload_n dX12_laySoon_161 rfl ?_
    obtain ⟨b37, k⟩ := k
    refine xe_iald dX12_laySoon_162 kk684 (xKK_lt kk684) b37 ?_
    refine xe_iconst (v := 1) dX12_laySoon_163 rfl ?_
    obtain ⟨b40, k⟩ := k
    obtain ⟨b41, k⟩ := k
    have K44 : ¬ ((u 684 i3.toNatClampNeg) = (1 : Int32) ∧ ¬ ((300 : Int32) ≤ (u 689 (u 684 ((6 : Int32) + i3).toNatClampNeg).toNatClampNeg))) → xEv g (d + 1) mX12_laySoon 193 [some (.ref 655), none, some (.int i2), some (.int i3)] [] 698 u w r 698 P := fun c45 => by
      have k := k.2 c45
      exact k
    refine xe_icmp_ne (tgt := 193) dX12_laySoon_164 rfl (fun c38 => ?_) (fun c39 => ?_)
    · exact K44 (fun q => (c38 q.1))
    · refine xe_aload_n dX12_laySoon_167 rfl ?_
      refine xe_getR (b := 689) dX12_laySoon_168 flX12_117 kk655 (xKK_lt kk655) rfl (rf655_66 hr) ?_
      refine xe_aload_n dX12_laySoon_171 rfl ?_
      refine xe_getR (b := 684) dX12_laySoon_172 flX12_102 kk655 (xKK_lt kk655) rfl (rf655_58 hr) ?_
      refine xe_bipush (v := 6) dX12_laySoon_175 rfl ?_
      refine xe_iload_n dX12_laySoon_177 rfl ?_
      refine xe_iadd dX12_laySoon_178 ?_
      refine xe_iald dX12_laySoon_179 kk684 (xKK_lt kk684) (b40 c39) ?_
      refine xe_iald dX12_laySoon_180 kk689 (xKK_lt kk689) (b41 c39) ?_
      refine xe_sipush (v := 300) dX12_laySoon_181 rfl ?_
      refine xe_icmp_ge (tgt := 193) dX12_laySoon_184 rfl (fun c42 => ?_) (fun c43 => ?_)
      · exact K44 (fun q => (q.2 c42))
      · have k := k.1 ⟨c39, c43⟩
        refine xe_iload_n dX12_laySoon_187 rfl ?_
        refine xe_iconst (v := 1) dX12_laySoon_188 rfl ?_
        refine xe_iload_n dX12_laySoon_189 rfl ?_
        refine xe_ishl dX12_laySoon_190 ?_
        refine xe_ior dX12_laySoon_191 ?_
        refine xe_istore_n (ls' := [some (.ref 655), none, some (.int (i2 ||| ((1 : Int32) <<< (i3 &&& 31)))), some (.int i3)]) dX12_laySoon_192 rfl (by decide) rfl ?_
        exact k

theorem TX12_laySoon_141 {g : xGT} {d : Nat} {i2 i3 : Int32} {u : xU} {w : xW} {r : xQ} {P : xPost}
    (k : xEv g (d + 1) mX12_laySoon 63 [some (.ref 655), none, some (.int i2), some (.int (i3 + (1 : Int32)))] [] 698 u w r 698 P) :
    xEv g (d + 1) mX12_laySoon 141 [some (.ref 655), none, some (.int i2), some (.int i3)] [] 698 u w r 698 P := by
  refine xe_iinc (v := (i3 + (1 : Int32))) (ls' := [some (.ref 655), none, some (.int i2), some (.int (i3 + (1 : Int32)))]) dX12_laySoon_141 rfl (by decide) rfl rfl ?_
  refine xe_goto (tgt := 63) dX12_laySoon_144 rfl ?_
  exact k

theorem TX12_laySoon_193 {g : xGT} {d : Nat} {i2 i3 : Int32} {u : xU} {w : xW} {r : xQ} {P : xPost}
    (k : xEv g (d + 1) mX12_laySoon 149 [some (.ref 655), none, some (.int i2), some (.int (i3 + (1 : Int32)))] [] 698 u w r 698 P) :
    xEv g (d + 1) mX12_laySoon 193 [some (.ref 655), none, some (.int i2), some (.int i3)] [] 698 u w r 698 P := by
  refine xe_iinc (v := (i3 + (1 : Int32))) (ls' := [some (.ref 655), none, some (.int i2), some (.int (i3 + (1 : Int32)))]) dX12_laySoon_193 rfl (by decide) rfl rfl ?_
  refine xe_goto (tgt := 149) dX12_laySoon_196 rfl ?_
  exact k

/-! FuneralPostModel.soon -/

theorem TX12_soon_0 {g : xGT} {d : Nat} {i1 i2 : Int32} {u : xU} {w : xW} {r : xQ} {P : xPost} (hr : xRf r)
    (k : xCall g d mX12_isVillage [.ref 655, .int i1] 698 u w r 698 (fun rv1 u1 w1 r1 => ∃ v1 : Int32, rv1 = some (.int v1) ∧ u = u1 ∧ w = w1 ∧ r = r1 ∧ (v1 = 0 → P (some (.int (-1 : Int32))) u w r) ∧ (¬ (v1 = 0) → xCall g d mX12_isVillage [.ref 655, .int i2] 698 u w r 698 (fun rv4 u4 w4 r4 => ∃ v4 : Int32, rv4 = some (.int v4) ∧ u = u4 ∧ w = w4 ∧ r = r4 ∧ (v4 = 0 → P (some (.int (-1 : Int32))) u w r) ∧ (¬ (v4 = 0) → xCall g d mX12_laySoon [.ref 655, .int i1] 698 u w r 698 (fun rv7 u7 w7 r7 => rv7 = none ∧ w = w7 ∧ r = r7 ∧ (¬ (i1 = i2) → vp_in i2 7) ∧ (((i1 = i2 ∨ ¬ ((300 : Int32) ≤ (u7 689 i2.toNatClampNeg))) → vp_in i2 7) ∧ (P (some (.int (if (i1 = i2 ∨ ¬ ((300 : Int32) ≤ (u7 689 i2.toNatClampNeg))) then (u7 689 i2.toNatClampNeg) else (-1 : Int32)))) u7 w r)))))))) :
    xEv g (d + 1) mX12_soon 0 [some (.ref 655), some (.int i1), some (.int i2)] [] 698 u w r 698 P := by
  refine xe_aload_n dX12_soon_0 rfl ?_
  refine xe_iload_n dX12_soon_1 rfl ?_
  refine xe_callV (args := [.int i1]) dX12_soon_2 vlX12_502 rfl rfl (Nat.le_of_ble_eq_true rfl) kk655 (xKK_lt kk655) rfl rfl k (Nat.le_refl _) (fun rv1 u1 w1 r1 k => ?_)
  obtain ⟨v1, rfl, rfl, rfl, rfl, k⟩ := k
  refine xe_if_eq (tgt := 16) dX12_soon_5 rfl (fun c2 => ?_) (fun c3 => ?_)
  · have k := k.1 c2
    refine xe_iconst (v := -1) dX12_soon_16 rfl ?_
    exact xe_ireturn dX12_soon_17 rfl k
  · have k := k.2 (fun q => (c3 q))
    refine xe_aload_n dX12_soon_8 rfl ?_
    refine xe_iload_n dX12_soon_9 rfl ?_
    refine xe_callV (args := [.int i2]) dX12_soon_10 vlX12_502 rfl rfl (Nat.le_of_ble_eq_true rfl) kk655 (xKK_lt kk655) rfl rfl k (Nat.le_refl _) (fun rv4 u4 w4 r4 k => ?_)
    obtain ⟨v4, rfl, rfl, rfl, rfl, k⟩ := k
    refine xe_if_ne (tgt := 18) dX12_soon_13 rfl (fun c5 => ?_) (fun c6 => ?_)
    · have k := k.2 (fun q => (c5 q))
      refine xe_aload_n dX12_soon_18 rfl ?_
      refine xe_iload_n dX12_soon_19 rfl ?_
      refine xe_callV (args := [.int i1]) dX12_soon_20 vlX12_541 rfl rfl (Nat.le_of_ble_eq_true rfl) kk655 (xKK_lt kk655) rfl rfl k (Nat.le_refl _) (fun rv7 u7 w7 r7 k => ?_)
      obtain ⟨rfl, rfl, rfl, k⟩ := k
      refine xe_iload_n dX12_soon_23 rfl ?_
      refine xe_iload_n dX12_soon_24 rfl ?_
      obtain ⟨b10, k⟩ := k
      obtain ⟨b13, k⟩ := k
      have K14 : xEv g (d + 1) mX12_soon 50 [some (.ref 655), some (.int i1), some (.int i2)] [.int (if (i1 = i2 ∨ ¬ ((300 : Int32) ≤ (u7 689 i2.toNatClampNeg))) then (u7 689 i2.toNatClampNeg) else (-1 : Int32))] 698 u7 w r 698 P := by
        exact xe_ireturn dX12_soon_50 rfl k
      refine xe_icmp_eq (tgt := 40) dX12_soon_25 rfl (fun c8 => ?_) (fun c9 => ?_)
      · refine xe_aload_n dX12_soon_40 rfl ?_
        refine xe_getR (b := 689) dX12_soon_41 flX12_117 kk655 (xKK_lt kk655) rfl (rf655_66 hr) ?_
        refine xe_iload_n dX12_soon_44 rfl ?_
        refine xe_iald dX12_soon_45 kk689 (xKK_lt kk689) (b13 (Or.inl c8)) ?_
        refine xe_goto (tgt := 50) dX12_soon_46 rfl ?_
        exact xtop (if_pos (Or.inl c8)) K14
      · refine xe_aload_n dX12_soon_28 rfl ?_
        refine xe_getR (b := 689) dX12_soon_29 flX12_117 kk655 (xKK_lt kk655) rfl (rf655_66 hr) ?_
        refine xe_iload_n dX12_soon_32 rfl ?_
        refine xe_iald dX12_soon_33 kk689 (xKK_lt kk689) (b10 c9) ?_
        refine xe_sipush (v := 300) dX12_soon_34 rfl ?_
        refine xe_icmp_ge (tgt := 49) dX12_soon_37 rfl (fun c11 => ?_) (fun c12 => ?_)
        · refine xe_iconst (v := -1) dX12_soon_49 rfl ?_
          exact xtop (if_neg (fun q => (q.elim (fun z => (c9 z)) (fun z => (z c11))))) K14
        · refine xe_aload_n dX12_soon_40 rfl ?_
          refine xe_getR (b := 689) dX12_soon_41 flX12_117 kk655 (xKK_lt kk655) rfl (rf655_66 hr) ?_
          refine xe_iload_n dX12_soon_44 rfl ?_
          refine xe_iald dX12_soon_45 kk689 (xKK_lt kk689) (b13 (Or.inr c12)) ?_
          refine xe_goto (tgt := 50) dX12_soon_46 rfl ?_
          exact xtop (if_pos (Or.inr c12)) K14
    · have k := k.1 c6
      refine xe_iconst (v := -1) dX12_soon_16 rfl ?_
      exact xe_ireturn dX12_soon_17 rfl k

theorem CX12_soon {g : xGT} {d : Nat} {i1 i2 : Int32} {u : xU} {w : xW} {r : xQ} {P : xPost} (hr : xRf r)
    (k : xCall g d mX12_isVillage [.ref 655, .int i1] 698 u w r 698 (fun rv1 u1 w1 r1 => ∃ v1 : Int32, rv1 = some (.int v1) ∧ u = u1 ∧ w = w1 ∧ r = r1 ∧ (v1 = 0 → P (some (.int (-1 : Int32))) u w r) ∧ (¬ (v1 = 0) → xCall g d mX12_isVillage [.ref 655, .int i2] 698 u w r 698 (fun rv4 u4 w4 r4 => ∃ v4 : Int32, rv4 = some (.int v4) ∧ u = u4 ∧ w = w4 ∧ r = r4 ∧ (v4 = 0 → P (some (.int (-1 : Int32))) u w r) ∧ (¬ (v4 = 0) → xCall g d mX12_laySoon [.ref 655, .int i1] 698 u w r 698 (fun rv7 u7 w7 r7 => rv7 = none ∧ w = w7 ∧ r = r7 ∧ (¬ (i1 = i2) → vp_in i2 7) ∧ (((i1 = i2 ∨ ¬ ((300 : Int32) ≤ (u7 689 i2.toNatClampNeg))) → vp_in i2 7) ∧ (P (some (.int (if (i1 = i2 ∨ ¬ ((300 : Int32) ≤ (u7 689 i2.toNatClampNeg))) then (u7 689 i2.toNatClampNeg) else (-1 : Int32)))) u7 w r)))))))) :
    xCall g (d + 1) mX12_soon [.ref 655, .int i1, .int i2] 698 u w r 698 P :=
  xCall.of plX12 (Nat.le_of_ble_eq_true rfl) rfl (TX12_soon_0 hr k)

/-! FuneralPostModel.heard -/

theorem TX12_heard_0 {g : xGT} {d : Nat} {i1 : Int32} {u : xU} {w : xW} {r : xQ} {P : xPost} (hr : xRf r)
    (k : xCall g d mX12_isVillage [.ref 655, .int i1] 698 u w r 698 (fun rv1 u1 w1 r1 => ∃ v1 : Int32, rv1 = some (.int v1) ∧ u = u1 ∧ w = w1 ∧ r = r1 ∧ (v1 = 0 → P (some (.int (-1 : Int32))) u w r) ∧ (¬ (v1 = 0) → xCall g d mX12_laySoon [.ref 655, .int i1] 698 u w r 698 (fun rv4 u4 w4 r4 => rv4 = none ∧ w = w4 ∧ r = r4 ∧ xEv g (d + 1) mX12_heard 25 [some (.ref 655), none, some (.int (u4 683 90)), some (.int (0 : Int32))] [] 698 u4 w r 698 P)))) :
    xEv g (d + 1) mX12_heard 0 [some (.ref 655), some (.int i1), none, none] [] 698 u w r 698 P := by
  refine xe_aload_n dX12_heard_0 rfl ?_
  refine xe_iload_n dX12_heard_1 rfl ?_
  refine xe_callV (args := [.int i1]) dX12_heard_2 vlX12_502 rfl rfl (Nat.le_of_ble_eq_true rfl) kk655 (xKK_lt kk655) rfl rfl k (Nat.le_refl _) (fun rv1 u1 w1 r1 k => ?_)
  obtain ⟨v1, rfl, rfl, rfl, rfl, k⟩ := k
  refine xe_if_ne (tgt := 10) dX12_heard_5 rfl (fun c2 => ?_) (fun c3 => ?_)
  · have k := k.2 (fun q => (c2 q))
    refine xe_aload_n dX12_heard_10 rfl ?_
    refine xe_iload_n dX12_heard_11 rfl ?_
    refine xe_callV (args := [.int i1]) dX12_heard_12 vlX12_541 rfl rfl (Nat.le_of_ble_eq_true rfl) kk655 (xKK_lt kk655) rfl rfl k (Nat.le_refl _) (fun rv4 u4 w4 r4 k => ?_)
    obtain ⟨rfl, rfl, rfl, k⟩ := k
    refine xe_aload_n dX12_heard_15 rfl ?_
    refine xe_getR (b := 683) dX12_heard_16 flX12_99 kk655 (xKK_lt kk655) rfl (rf655_57 hr) ?_
    refine xe_bipush (v := 90) dX12_heard_19 rfl ?_
    refine xe_iald dX12_heard_21 kk683 (xKK_lt kk683) (show ¬ ((90 : Int32) < 0 ∨ 92 ≤ (90 : Int32).toNatClampNeg) from by decide) ?_
    refine xe_istore_n (ls' := [some (.ref 655), some (.int i1), some (.int (u4 683 90)), none]) dX12_heard_22 rfl (by decide) rfl ?_
    refine xe_iconst (v := 0) dX12_heard_23 rfl ?_
    refine xe_istore_n (ls' := [some (.ref 655), some (.int i1), some (.int (u4 683 90)), some (.int (0 : Int32))]) dX12_heard_24 rfl (by decide) rfl ?_
    exact xEv.fewer (ls' := [some (.ref 655), none, some (.int (u4 683 90)), some (.int (0 : Int32))]) k (xfw_get (xfw_s (xfw_n (xfw_s (xfw_s (xfw_nil _))))))
  · have k := k.1 c3
    refine xe_iconst (v := -1) dX12_heard_8 rfl ?_
    exact xe_ireturn dX12_heard_9 rfl k

theorem CX12_heard {g : xGT} {d : Nat} {i1 : Int32} {u : xU} {w : xW} {r : xQ} {P : xPost} (hr : xRf r)
    (k : xCall g d mX12_isVillage [.ref 655, .int i1] 698 u w r 698 (fun rv1 u1 w1 r1 => ∃ v1 : Int32, rv1 = some (.int v1) ∧ u = u1 ∧ w = w1 ∧ r = r1 ∧ (v1 = 0 → P (some (.int (-1 : Int32))) u w r) ∧ (¬ (v1 = 0) → xCall g d mX12_laySoon [.ref 655, .int i1] 698 u w r 698 (fun rv4 u4 w4 r4 => rv4 = none ∧ w = w4 ∧ r = r4 ∧ xEv g (d + 1) mX12_heard 25 [some (.ref 655), none, some (.int (u4 683 90)), some (.int (0 : Int32))] [] 698 u4 w r 698 P)))) :
    xCall g (d + 1) mX12_heard [.ref 655, .int i1] 698 u w r 698 P :=
  xCall.of plX12 (Nat.le_of_ble_eq_true rfl) rfl (TX12_heard_0 hr k)

theorem TX12_heard_25 {g : xGT} {d : Nat} {i2 i3 : Int32} {u : xU} {w : xW} {r : xQ} {P : xPost} (hr : xRf r)
    (k : ((u 655 49) ≤ i3 → P (some (.int i2)) u w r) ∧ (¬ ((u 655 49) ≤ i3) → vp_in i3 7 ∧ (((¬ ((300 : Int32) ≤ (u 689 i3.toNatClampNeg)) ∧ ¬ ((u 689 i3.toNatClampNeg) ≤ i2)) → xEv g (d + 1) mX12_heard 62 [some (.ref 655), none, some (.int (u 689 i3.toNatClampNeg)), some (.int i3)] [] 698 u w r 698 P) ∧ (¬ (¬ ((300 : Int32) ≤ (u 689 i3.toNatClampNeg)) ∧ ¬ ((u 689 i3.toNatClampNeg) ≤ i2)) → xEv g (d + 1) mX12_heard 62 [some (.ref 655), none, some (.int i2), some (.int i3)] [] 698 u w r 698 P)))) :
    xEv g (d + 1) mX12_heard 25 [some (.ref 655), none, some (.int i2), some (.int i3)] [] 698 u w r 698 P := by
  refine xe_iload_n dX12_heard_25 rfl ?_
  refine xe_aload_n dX12_heard_26 rfl ?_
  refine xe_getI dX12_heard_27 flX12_395 kk655 (xKK_lt kk655) rfl ?_
  refine xe_icmp_ge (tgt := 68) dX12_heard_30 rfl (fun c5 => ?_) (fun c6 => ?_)
  · have k := k.1 c5
    refine xe_iload_n dX12_heard_68 rfl ?_
    exact xe_ireturn dX12_heard_69 rfl k
  · have k := k.2 (fun q => (c6 q))
    refine xe_aload_n dX12_heard_33 rfl ?_
    refine xe_getR (b := 689) dX12_heard_34 flX12_117 kk655 (xKK_lt kk655) rfl (rf655_66 hr) ?_
    refine xe_iload_n dX12_heard_37 rfl ?_
    obtain ⟨b7, k⟩ := k
    refine xe_iald dX12_heard_38 kk689 (xKK_lt kk689) b7 ?_
    refine xe_sipush (v := 300) dX12_heard_39 rfl ?_
    have K12 : ¬ (¬ ((300 : Int32) ≤ (u 689 i3.toNatClampNeg)) ∧ ¬ ((u 689 i3.toNatClampNeg) ≤ i2)) → xEv g (d + 1) mX12_heard 62 [some (.ref 655), none, some (.int i2), some (.int i3)] [] 698 u w r 698 P := fun c13 => by
      have k := k.2 c13
      exact k
    refine xe_icmp_ge (tgt := 62) dX12_heard_42 rfl (fun c8 => ?_) (fun c9 => ?_)
    · exact K12 (fun q => (q.1 c8))
    · refine xe_aload_n dX12_heard_45 rfl ?_
      refine xe_getR (b := 689) dX12_heard_46 flX12_117 kk655 (xKK_lt kk655) rfl (rf655_66 hr) ?_
      refine xe_iload_n dX12_heard_49 rfl ?_
      refine xe_iald dX12_heard_50 kk689 (xKK_lt kk689) b7 ?_
      refine xe_iload_n dX12_heard_51 rfl ?_
      refine xe_icmp_le (tgt := 62) dX12_heard_52 rfl (fun c10 => ?_) (fun c11 => ?_)
      · exact K12 (fun q => (q.2 c10))
      · have k := k.1 ⟨c9, c11⟩
        refine xe_aload_n dX12_heard_55 rfl ?_
        refine xe_getR (b := 689) dX12_heard_56 flX12_117 kk655 (xKK_lt kk655) rfl (rf655_66 hr) ?_
        refine xe_iload_n dX12_heard_59 rfl ?_
        refine xe_iald dX12_heard_60 kk689 (xKK_lt kk689) b7 ?_
        refine xe_istore_n (ls' := [some (.ref 655), none, some (.int (u 689 i3.toNatClampNeg)), some (.int i3)]) dX12_heard_61 rfl (by decide) rfl ?_
        exact k

theorem TX12_heard_62 {g : xGT} {d : Nat} {i2 i3 : Int32} {u : xU} {w : xW} {r : xQ} {P : xPost}
    (k : xEv g (d + 1) mX12_heard 25 [some (.ref 655), none, some (.int i2), some (.int (i3 + (1 : Int32)))] [] 698 u w r 698 P) :
    xEv g (d + 1) mX12_heard 62 [some (.ref 655), none, some (.int i2), some (.int i3)] [] 698 u w r 698 P := by
  refine xe_iinc (v := (i3 + (1 : Int32))) (ls' := [some (.ref 655), none, some (.int i2), some (.int (i3 + (1 : Int32)))]) dX12_heard_62 rfl (by decide) rfl rfl ?_
  refine xe_goto (tgt := 25) dX12_heard_65 rfl ?_
  exact k

/-! FuneralPostModel.deaf -/

theorem TX12_deaf_0 {g : xGT} {d : Nat} {i1 : Int32} {u : xU} {w : xW} {r : xQ} {P : xPost}
    (k : xCall g d mX12_isVillage [.ref 655, .int i1] 698 u w r 698 (fun rv1 u1 w1 r1 => ∃ v1 : Int32, rv1 = some (.int v1) ∧ u = u1 ∧ w = w1 ∧ r = r1 ∧ (v1 = 0 → P (some (.int (-1 : Int32))) u w r) ∧ (¬ (v1 = 0) → xCall g d mX12_laySoon [.ref 655, .int i1] 698 u w r 698 (fun rv4 u4 w4 r4 => rv4 = none ∧ w = w4 ∧ r = r4 ∧ xEv g (d + 1) mX12_deaf 19 [some (.ref 655), some (.int i1), some (.int (0 : Int32)), some (.int (0 : Int32))] [] 698 u4 w r 698 P)))) :
    xEv g (d + 1) mX12_deaf 0 [some (.ref 655), some (.int i1), none, none] [] 698 u w r 698 P := by
  refine xe_aload_n dX12_deaf_0 rfl ?_
  refine xe_iload_n dX12_deaf_1 rfl ?_
  refine xe_callV (args := [.int i1]) dX12_deaf_2 vlX12_502 rfl rfl (Nat.le_of_ble_eq_true rfl) kk655 (xKK_lt kk655) rfl rfl k (Nat.le_refl _) (fun rv1 u1 w1 r1 k => ?_)
  obtain ⟨v1, rfl, rfl, rfl, rfl, k⟩ := k
  refine xe_if_ne (tgt := 10) dX12_deaf_5 rfl (fun c2 => ?_) (fun c3 => ?_)
  · have k := k.2 (fun q => (c2 q))
    refine xe_aload_n dX12_deaf_10 rfl ?_
    refine xe_iload_n dX12_deaf_11 rfl ?_
    refine xe_callV (args := [.int i1]) dX12_deaf_12 vlX12_541 rfl rfl (Nat.le_of_ble_eq_true rfl) kk655 (xKK_lt kk655) rfl rfl k (Nat.le_refl _) (fun rv4 u4 w4 r4 k => ?_)
    obtain ⟨rfl, rfl, rfl, k⟩ := k
    refine xe_iconst (v := 0) dX12_deaf_15 rfl ?_
    refine xe_istore_n (ls' := [some (.ref 655), some (.int i1), some (.int (0 : Int32)), none]) dX12_deaf_16 rfl (by decide) rfl ?_
    refine xe_iconst (v := 0) dX12_deaf_17 rfl ?_
    refine xe_istore_n (ls' := [some (.ref 655), some (.int i1), some (.int (0 : Int32)), some (.int (0 : Int32))]) dX12_deaf_18 rfl (by decide) rfl ?_
    exact k
  · have k := k.1 c3
    refine xe_iconst (v := -1) dX12_deaf_8 rfl ?_
    exact xe_ireturn dX12_deaf_9 rfl k

theorem CX12_deaf {g : xGT} {d : Nat} {i1 : Int32} {u : xU} {w : xW} {r : xQ} {P : xPost}
    (k : xCall g d mX12_isVillage [.ref 655, .int i1] 698 u w r 698 (fun rv1 u1 w1 r1 => ∃ v1 : Int32, rv1 = some (.int v1) ∧ u = u1 ∧ w = w1 ∧ r = r1 ∧ (v1 = 0 → P (some (.int (-1 : Int32))) u w r) ∧ (¬ (v1 = 0) → xCall g d mX12_laySoon [.ref 655, .int i1] 698 u w r 698 (fun rv4 u4 w4 r4 => rv4 = none ∧ w = w4 ∧ r = r4 ∧ xEv g (d + 1) mX12_deaf 19 [some (.ref 655), some (.int i1), some (.int (0 : Int32)), some (.int (0 : Int32))] [] 698 u4 w r 698 P)))) :
    xCall g (d + 1) mX12_deaf [.ref 655, .int i1] 698 u w r 698 P :=
  xCall.of plX12 (Nat.le_of_ble_eq_true rfl) rfl (TX12_deaf_0  k)

theorem TX12_deaf_19 {g : xGT} {d : Nat} {i1 i2 i3 : Int32} {u : xU} {w : xW} {r : xQ} {P : xPost} (hr : xRf r)
    (k : ((u 655 49) ≤ i3 → P (some (.int i2)) u w r) ∧ (¬ ((u 655 49) ≤ i3) → (¬ (i3 = i1) → vp_in i3 7) ∧ (xCall g d mX12_truth [.int (xb (¬ (i3 = i1) ∧ (u 689 i3.toNatClampNeg) = (300 : Int32)))] 698 u w r 698 (fun rv12 u12 w12 r12 => ∃ v12 : Int32, rv12 = some (.int v12) ∧ u = u12 ∧ w = w12 ∧ r = r12 ∧ xEv g (d + 1) mX12_deaf 19 [some (.ref 655), some (.int i1), some (.int (i2 ||| (v12 <<< (i3 &&& 31)))), some (.int (i3 + (1 : Int32)))] [] 698 u w r 698 P)))) :
    xEv g (d + 1) mX12_deaf 19 [some (.ref 655), some (.int i1), some (.int i2), some (.int i3)] [] 698 u w r 698 P := by
  refine xe_iload_n dX12_deaf_19 rfl ?_
  refine xe_aload_n dX12_deaf_20 rfl ?_
  refine xe_getI dX12_deaf_21 flX12_395 kk655 (xKK_lt kk655) rfl ?_
  refine xe_icmp_ge (tgt := 63) dX12_deaf_24 rfl (fun c5 => ?_) (fun c6 => ?_)
  · have k := k.1 c5
    refine xe_iload_n dX12_deaf_63 rfl ?_
    exact xe_ireturn dX12_deaf_64 rfl k
  · have k := k.2 (fun q => (c6 q))
    refine xe_iload_n dX12_deaf_27 rfl ?_
    refine xe_iload_n dX12_deaf_28 rfl ?_
    refine xe_iload_n dX12_deaf_29 rfl ?_
    obtain ⟨b9, k⟩ := k
    have K13 : xEv g (d + 1) mX12_deaf 50 [some (.ref 655), some (.int i1), some (.int i2), some (.int i3)] [.int (xb (¬ (i3 = i1) ∧ (u 689 i3.toNatClampNeg) = (300 : Int32))), .int i2] 698 u w r 698 P := by
      refine xe_callS (args := [.int (xb (¬ (i3 = i1) ∧ (u 689 i3.toNatClampNeg) = (300 : Int32)))]) dX12_deaf_50 slX12_317 rfl rfl (Nat.le_of_ble_eq_true rfl) k (Nat.le_refl _) (fun rv12 u12 w12 r12 k => ?_)
      obtain ⟨v12, rfl, rfl, rfl, rfl, k⟩ := k
      refine xe_iload_n dX12_deaf_53 rfl ?_
      refine xe_ishl dX12_deaf_54 ?_
      refine xe_ior dX12_deaf_55 ?_
      refine xe_istore_n (ls' := [some (.ref 655), some (.int i1), some (.int (i2 ||| (v12 <<< (i3 &&& 31)))), some (.int i3)]) dX12_deaf_56 rfl (by decide) rfl ?_
      refine xe_iinc (v := (i3 + (1 : Int32))) (ls' := [some (.ref 655), some (.int i1), some (.int (i2 ||| (v12 <<< (i3 &&& 31)))), some (.int (i3 + (1 : Int32)))]) dX12_deaf_57 rfl (by decide) rfl rfl ?_
      refine xe_goto (tgt := 19) dX12_deaf_60 rfl ?_
      exact k
    refine xe_icmp_eq (tgt := 49) dX12_deaf_30 rfl (fun c7 => ?_) (fun c8 => ?_)
    · refine xe_iconst (v := 0) dX12_deaf_49 rfl ?_
      exact xtop (xb_neg (show ¬ (¬ (i3 = i1) ∧ (u 689 i3.toNatClampNeg) = (300 : Int32)) from (fun q => (q.1 c7)))) K13
    · refine xe_aload_n dX12_deaf_33 rfl ?_
      refine xe_getR (b := 689) dX12_deaf_34 flX12_117 kk655 (xKK_lt kk655) rfl (rf655_66 hr) ?_
      refine xe_iload_n dX12_deaf_37 rfl ?_
      refine xe_iald dX12_deaf_38 kk689 (xKK_lt kk689) (b9 c8) ?_
      refine xe_sipush (v := 300) dX12_deaf_39 rfl ?_
      refine xe_icmp_ne (tgt := 49) dX12_deaf_42 rfl (fun c10 => ?_) (fun c11 => ?_)
      · refine xe_iconst (v := 0) dX12_deaf_49 rfl ?_
        exact xtop (xb_neg (show ¬ (¬ (i3 = i1) ∧ (u 689 i3.toNatClampNeg) = (300 : Int32)) from (fun q => (c10 q.2)))) K13
      · refine xe_iconst (v := 1) dX12_deaf_45 rfl ?_
        refine xe_goto (tgt := 50) dX12_deaf_46 rfl ?_
        exact xtop (xb_pos (show (¬ (i3 = i1) ∧ (u 689 i3.toNatClampNeg) = (300 : Int32)) from ⟨c8, c11⟩)) K13

/-! FuneralPostModel.bars -/

theorem TX12_bars_0 {g : xGT} {d : Nat} {i1 i2 i3 : Int32} {u : xU} {w : xW} {r : xQ} {P : xPost}
    (k : xCall g d mX12_isVillage [.ref 655, .int i1] 698 u w r 698 (fun rv1 u1 w1 r1 => ∃ v1 : Int32, rv1 = some (.int v1) ∧ u = u1 ∧ w = w1 ∧ r = r1 ∧ (v1 = 0 → P (some (.int (-1 : Int32))) u w r) ∧ (¬ (v1 = 0) → xCall g d mX12_isVillage [.ref 655, .int i2] 698 u w r 698 (fun rv4 u4 w4 r4 => ∃ v4 : Int32, rv4 = some (.int v4) ∧ u = u4 ∧ w = w4 ∧ r = r4 ∧ ((¬ (v4 = 0) ∧ ¬ (i1 = i2)) → xCall g d mX12_isIn [.int i3, .int (0 : Int32), .int (1 : Int32)] 698 u w r 698 (fun rv9 u9 w9 r9 => ∃ v9 : Int32, rv9 = some (.int v9) ∧ u = u9 ∧ w = w9 ∧ r = r9 ∧ (v9 = 0 → P (some (.int (-1 : Int32))) u w r) ∧ (¬ (v9 = 0) → xEv g (d + 1) mX12_bars 38 [some (.ref 655), some (.int i1), some (.int i2), some (.int i3), some (.int (-1 : Int32)), some (.int (0 : Int32))] [] 698 u w r 698 P))) ∧ (¬ (¬ (v4 = 0) ∧ ¬ (i1 = i2)) → P (some (.int (-1 : Int32))) u w r))))) :
    xEv g (d + 1) mX12_bars 0 [some (.ref 655), some (.int i1), some (.int i2), some (.int i3), none, none] [] 698 u w r 698 P := by
  refine xe_aload_n dX12_bars_0 rfl ?_
  refine xe_iload_n dX12_bars_1 rfl ?_
  refine xe_callV (args := [.int i1]) dX12_bars_2 vlX12_502 rfl rfl (Nat.le_of_ble_eq_true rfl) kk655 (xKK_lt kk655) rfl rfl k (Nat.le_refl _) (fun rv1 u1 w1 r1 k => ?_)
  obtain ⟨v1, rfl, rfl, rfl, rfl, k⟩ := k
  refine xe_if_eq (tgt := 30) dX12_bars_5 rfl (fun c2 => ?_) (fun c3 => ?_)
  · have k := k.1 c2
    refine xe_iconst (v := -1) dX12_bars_30 rfl ?_
    exact xe_ireturn dX12_bars_31 rfl k
  · have k := k.2 (fun q => (c3 q))
    refine xe_aload_n dX12_bars_8 rfl ?_
    refine xe_iload_n dX12_bars_9 rfl ?_
    refine xe_callV (args := [.int i2]) dX12_bars_10 vlX12_502 rfl rfl (Nat.le_of_ble_eq_true rfl) kk655 (xKK_lt kk655) rfl rfl k (Nat.le_refl _) (fun rv4 u4 w4 r4 k => ?_)
    obtain ⟨v4, rfl, rfl, rfl, rfl, k⟩ := k
    have K12 : ¬ (¬ (v4 = 0) ∧ ¬ (i1 = i2)) → xEv g (d + 1) mX12_bars 30 [some (.ref 655), some (.int i1), some (.int i2), some (.int i3), none, none] [] 698 u w r 698 P := fun c13 => by
      have k := k.2 c13
      refine xe_iconst (v := -1) dX12_bars_30 rfl ?_
      exact xe_ireturn dX12_bars_31 rfl k
    refine xe_if_eq (tgt := 30) dX12_bars_13 rfl (fun c5 => ?_) (fun c6 => ?_)
    · exact K12 (fun q => (q.1 c5))
    · refine xe_iload_n dX12_bars_16 rfl ?_
      refine xe_iload_n dX12_bars_17 rfl ?_
      refine xe_icmp_eq (tgt := 30) dX12_bars_18 rfl (fun c7 => ?_) (fun c8 => ?_)
      · exact K12 (fun q => (q.2 c7))
      · have k := k.1 ⟨c6, c8⟩
        refine xe_iload_n dX12_bars_21 rfl ?_
        refine xe_iconst (v := 0) dX12_bars_22 rfl ?_
        refine xe_iconst (v := 1) dX12_bars_23 rfl ?_
        refine xe_callS (args := [.int i3, .int (0 : Int32), .int (1 : Int32)]) dX12_bars_24 slX12_426 rfl rfl (Nat.le_of_ble_eq_true rfl) k (Nat.le_refl _) (fun rv9 u9 w9 r9 k => ?_)
        obtain ⟨v9, rfl, rfl, rfl, rfl, k⟩ := k
        refine xe_if_ne (tgt := 32) dX12_bars_27 rfl (fun c10 => ?_) (fun c11 => ?_)
        · have k := k.2 (fun q => (c10 q))
          refine xe_iconst (v := -1) dX12_bars_32 rfl ?_
          refine xe_istore (ls' := [some (.ref 655), some (.int i1), some (.int i2), some (.int i3), some (.int (-1 : Int32)), none]) dX12_bars_33 (by decide) rfl ?_
          refine xe_iconst (v := 0) dX12_bars_35 rfl ?_
          refine xe_istore (ls' := [some (.ref 655), some (.int i1), some (.int i2), some (.int i3), some (.int (-1 : Int32)), some (.int (0 : Int32))]) dX12_bars_36 (by decide) rfl ?_
          exact k
        · have k := k.1 c11
          refine xe_iconst (v := -1) dX12_bars_30 rfl ?_
          exact xe_ireturn dX12_bars_31 rfl k

theorem CX12_bars {g : xGT} {d : Nat} {i1 i2 i3 : Int32} {u : xU} {w : xW} {r : xQ} {P : xPost}
    (k : xCall g d mX12_isVillage [.ref 655, .int i1] 698 u w r 698 (fun rv1 u1 w1 r1 => ∃ v1 : Int32, rv1 = some (.int v1) ∧ u = u1 ∧ w = w1 ∧ r = r1 ∧ (v1 = 0 → P (some (.int (-1 : Int32))) u w r) ∧ (¬ (v1 = 0) → xCall g d mX12_isVillage [.ref 655, .int i2] 698 u w r 698 (fun rv4 u4 w4 r4 => ∃ v4 : Int32, rv4 = some (.int v4) ∧ u = u4 ∧ w = w4 ∧ r = r4 ∧ ((¬ (v4 = 0) ∧ ¬ (i1 = i2)) → xCall g d mX12_isIn [.int i3, .int (0 : Int32), .int (1 : Int32)] 698 u w r 698 (fun rv9 u9 w9 r9 => ∃ v9 : Int32, rv9 = some (.int v9) ∧ u = u9 ∧ w = w9 ∧ r = r9 ∧ (v9 = 0 → P (some (.int (-1 : Int32))) u w r) ∧ (¬ (v9 = 0) → xEv g (d + 1) mX12_bars 38 [some (.ref 655), some (.int i1), some (.int i2), some (.int i3), some (.int (-1 : Int32)), some (.int (0 : Int32))] [] 698 u w r 698 P))) ∧ (¬ (¬ (v4 = 0) ∧ ¬ (i1 = i2)) → P (some (.int (-1 : Int32))) u w r))))) :
    xCall g (d + 1) mX12_bars [.ref 655, .int i1, .int i2, .int i3] 698 u w r 698 P :=
  xCall.of plX12 (Nat.le_of_ble_eq_true rfl) rfl (TX12_bars_0  k)

theorem TX12_bars_38 {g : xGT} {d : Nat} {i1 i2 i3 i4 i5 : Int32} {u : xU} {w : xW} {r : xQ} {P : xPost}
    (k : (((1 : Int32) <<< ((u 655 50) &&& 31)) ≤ i5 → (0 ≤ i4 → (i3 = 0 → xCall g d mX12_members [.int i4] 698 u w r 698 (fun rv20 u20 w20 r20 => ∃ v20 : Int32, rv20 = some (.int v20) ∧ u = u20 ∧ w = w20 ∧ r = r20 ∧ P (some (.int v20)) u w r)) ∧ (¬ (i3 = 0) → P (some (.int i4)) u w r)) ∧ (¬ (0 ≤ i4) → P (some (.int (-1 : Int32))) u w r)) ∧ (¬ (((1 : Int32) <<< ((u 655 50) &&& 31)) ≤ i5) → xCall g d mX12_members [.int i5] 698 u w r 698 (fun rv21 u21 w21 r21 => ∃ v21 : Int32, rv21 = some (.int v21) ∧ u = u21 ∧ w = w21 ∧ r = r21 ∧ ((3 : Int32) < v21 → xEv g (d + 1) mX12_bars 128 [some (.ref 655), some (.int i1), some (.int i2), some (.int i3), some (.int i4), some (.int i5)] [] 698 u w r 698 P) ∧ (¬ ((3 : Int32) < v21) → (i4 < 0 → xEv g (d + 1) mX12_bars 76 [some (.ref 655), some (.int i1), some (.int i2), some (.int i3), some (.int i4), some (.int i5)] [] 698 u w r 698 P) ∧ (¬ (i4 < 0) → xCall g d mX12_members [.int i5] 698 u w r 698 (fun rv26 u26 w26 r26 => ∃ v26 : Int32, rv26 = some (.int v26) ∧ u = u26 ∧ w = w26 ∧ r = r26 ∧ xCall g d mX12_members [.int i4] 698 u w r 698 (fun rv27 u27 w27 r27 => ∃ v27 : Int32, rv27 = some (.int v27) ∧ u = u27 ∧ w = w27 ∧ r = r27 ∧ (v27 ≤ v26 → xEv g (d + 1) mX12_bars 128 [some (.ref 655), some (.int i1), some (.int i2), some (.int i3), some (.int i4), some (.int i5)] [] 698 u w r 698 P) ∧ (¬ (v27 ≤ v26) → xEv g (d + 1) mX12_bars 76 [some (.ref 655), some (.int i1), some (.int i2), some (.int i3), some (.int i4), some (.int i5)] [] 698 u w r 698 P)))))))) :
    xEv g (d + 1) mX12_bars 38 [some (.ref 655), some (.int i1), some (.int i2), some (.int i3), some (.int i4), some (.int i5)] [] 698 u w r 698 P := by
  refine xe_iload dX12_bars_38 rfl ?_
  refine xe_iconst (v := 1) dX12_bars_40 rfl ?_
  refine xe_aload_n dX12_bars_41 rfl ?_
  refine xe_getI dX12_bars_42 flX12_398 kk655 (xKK_lt kk655) rfl ?_
  refine xe_ishl dX12_bars_45 ?_
  refine xe_icmp_ge (tgt := 134) dX12_bars_46 rfl (fun c14 => ?_) (fun c15 => ?_)
  · have k := k.1 c14
    refine xe_iload dX12_bars_134 rfl ?_
    refine xe_if_ge (tgt := 143) dX12_bars_136 rfl (fun c16 => ?_) (fun c17 => ?_)
    · have k := k.1 c16
      refine xe_iload_n dX12_bars_143 rfl ?_
      refine xe_if_ne (tgt := 155) dX12_bars_144 rfl (fun c18 => ?_) (fun c19 => ?_)
      · have k := k.2 (fun q => (c18 q))
        refine xe_iload dX12_bars_155 rfl ?_
        exact xe_ireturn dX12_bars_157 rfl k
      · have k := k.1 c19
        refine xe_iload dX12_bars_147 rfl ?_
        refine xe_callS (args := [.int i4]) dX12_bars_149 slX12_535 rfl rfl (Nat.le_of_ble_eq_true rfl) k (Nat.le_refl _) (fun rv20 u20 w20 r20 k => ?_)
        obtain ⟨v20, rfl, rfl, rfl, rfl, k⟩ := k
        refine xe_goto (tgt := 157) dX12_bars_152 rfl ?_
        exact xe_ireturn dX12_bars_157 rfl k
    · have k := k.2 (fun q => (c17 q))
      refine xe_iconst (v := -1) dX12_bars_139 rfl ?_
      refine xe_goto (tgt := 157) dX12_bars_140 rfl ?_
      exact xe_ireturn dX12_bars_157 rfl k
  · have k := k.2 (fun q => (c15 q))
    refine xe_iload dX12_bars_49 rfl ?_
    refine xe_callS (args := [.int i5]) dX12_bars_51 slX12_535 rfl rfl (Nat.le_of_ble_eq_true rfl) k (Nat.le_refl _) (fun rv21 u21 w21 r21 k => ?_)
    obtain ⟨v21, rfl, rfl, rfl, rfl, k⟩ := k
    refine xe_iconst (v := 3) dX12_bars_54 rfl ?_
    refine xe_icmp_gt (tgt := 128) dX12_bars_55 rfl (fun c22 => ?_) (fun c23 => ?_)
    · have k := k.1 c22
      exact k
    · have k := k.2 (fun q => (c23 q))
      refine xe_iload dX12_bars_58 rfl ?_
      refine xe_if_lt (tgt := 76) dX12_bars_60 rfl (fun c24 => ?_) (fun c25 => ?_)
      · have k := k.1 c24
        exact k
      · have k := k.2 (fun q => (c25 q))
        refine xe_iload dX12_bars_63 rfl ?_
        refine xe_callS (args := [.int i5]) dX12_bars_65 slX12_535 rfl rfl (Nat.le_of_ble_eq_true rfl) k (Nat.le_refl _) (fun rv26 u26 w26 r26 k => ?_)
        obtain ⟨v26, rfl, rfl, rfl, rfl, k⟩ := k
        refine xe_iload dX12_bars_68 rfl ?_
        refine xe_callS (args := [.int i4]) dX12_bars_70 slX12_535 rfl rfl (Nat.le_of_ble_eq_true rfl) k (Nat.le_refl _) (fun rv27 u27 w27 r27 k => ?_)
        obtain ⟨v27, rfl, rfl, rfl, rfl, k⟩ := k
        refine xe_icmp_ge (tgt := 128) dX12_bars_73 rfl (fun c28 => ?_) (fun c29 => ?_)
        · have k := k.1 c28
          exact k
        · have k := k.2 (fun q => (c29 q))
          exact k

theorem TX12_bars_128 {g : xGT} {d : Nat} {i1 i2 i3 i4 i5 : Int32} {u : xU} {w : xW} {r : xQ} {P : xPost}
    (k : xEv g (d + 1) mX12_bars 38 [some (.ref 655), some (.int i1), some (.int i2), some (.int i3), some (.int i4), some (.int (i5 + (1 : Int32)))] [] 698 u w r 698 P) :
    xEv g (d + 1) mX12_bars 128 [some (.ref 655), some (.int i1), some (.int i2), some (.int i3), some (.int i4), some (.int i5)] [] 698 u w r 698 P := by
  refine xe_iinc (v := (i5 + (1 : Int32))) (ls' := [some (.ref 655), some (.int i1), some (.int i2), some (.int i3), some (.int i4), some (.int (i5 + (1 : Int32)))]) dX12_bars_128 rfl (by decide) rfl rfl ?_
  refine xe_goto (tgt := 38) dX12_bars_131 rfl ?_
  exact k

theorem TX12_bars_76 {g : xGT} {d : Nat} {i1 i2 i3 i4 i5 : Int32} {u : xU} {w : xW} {r : xQ} {P : xPost} (hr : xRf r)
    (k : ((i5 &&& (u 683 89)) = 0 → xCall g d mX12_load [.ref 655] 698 u w r 698 (fun rv32 u32 w32 r32 => rv32 = none ∧ w = w32 ∧ r = r32 ∧ xCall g d mX12_layFar [.ref 655] 698 (x2 u32 684 89 ((u32 684 89) ||| i5)) w r 698 (fun rv33 u33 w33 r33 => rv33 = none ∧ w = w33 ∧ r = r33 ∧ xCall g d mX12_farOf [.ref 655, .int i1, .int i2] 698 u33 w r 698 (fun rv34 u34 w34 r34 => ∃ v34 : Int32, rv34 = some (.int v34) ∧ u33 = u34 ∧ w = w34 ∧ r = r34 ∧ (v34 < (1000 : Int32) → xEv g (d + 1) mX12_bars 128 [some (.ref 655), some (.int i1), some (.int i2), some (.int i3), some (.int i4), some (.int i5)] [] 698 u33 w r 698 P) ∧ (¬ (v34 < (1000 : Int32)) → xEv g (d + 1) mX12_bars 128 [some (.ref 655), some (.int i1), some (.int i2), some (.int i3), some (.int i5), some (.int i5)] [] 698 u33 w r 698 P))))) ∧ (¬ ((i5 &&& (u 683 89)) = 0) → xEv g (d + 1) mX12_bars 128 [some (.ref 655), some (.int i1), some (.int i2), some (.int i3), some (.int i4), some (.int i5)] [] 698 u w r 698 P)) :
    xEv g (d + 1) mX12_bars 76 [some (.ref 655), some (.int i1), some (.int i2), some (.int i3), some (.int i4), some (.int i5)] [] 698 u w r 698 P := by
  refine xe_iload dX12_bars_76 rfl ?_
  refine xe_aload_n dX12_bars_78 rfl ?_
  refine xe_getR (b := 683) dX12_bars_79 flX12_99 kk655 (xKK_lt kk655) rfl (rf655_57 hr) ?_
  refine xe_bipush (v := 89) dX12_bars_82 rfl ?_
  refine xe_iald dX12_bars_84 kk683 (xKK_lt kk683) (show ¬ ((89 : Int32) < 0 ∨ 92 ≤ (89 : Int32).toNatClampNeg) from by decide) ?_
  refine xe_iand dX12_bars_85 ?_
  refine xe_if_eq (tgt := 92) dX12_bars_86 rfl (fun c30 => ?_) (fun c31 => ?_)
  · have k := k.1 c30
    refine xe_aload_n dX12_bars_92 rfl ?_
    refine xe_callV (args := []) dX12_bars_93 vlX12_496 rfl rfl (Nat.le_of_ble_eq_true rfl) kk655 (xKK_lt kk655) rfl rfl k (Nat.le_refl _) (fun rv32 u32 w32 r32 k => ?_)
    obtain ⟨rfl, rfl, rfl, k⟩ := k
    refine xe_aload_n dX12_bars_96 rfl ?_
    refine xe_getR (b := 684) dX12_bars_97 flX12_102 kk655 (xKK_lt kk655) rfl (rf655_58 hr) ?_
    refine xe_bipush (v := 89) dX12_bars_100 rfl ?_
    refine xe_dup2 dX12_bars_102 rfl rfl ?_
    refine xe_iald dX12_bars_103 kk684 (xKK_lt kk684) (show ¬ ((89 : Int32) < 0 ∨ 92 ≤ (89 : Int32).toNatClampNeg) from by decide) ?_
    refine xe_iload dX12_bars_104 rfl ?_
    refine xe_ior dX12_bars_106 ?_
    refine xe_iast dX12_bars_107 kk684 (xKK_lt kk684) (show ¬ ((89 : Int32) < 0 ∨ 92 ≤ (89 : Int32).toNatClampNeg) from by decide) ?_
    refine xe_aload_n dX12_bars_108 rfl ?_
    refine xe_callV (args := []) dX12_bars_109 vlX12_436 rfl rfl (Nat.le_of_ble_eq_true rfl) kk655 (xKK_lt kk655) rfl rfl k (Nat.le_refl _) (fun rv33 u33 w33 r33 k => ?_)
    obtain ⟨rfl, rfl, rfl, k⟩ := k
    refine xe_aload_n dX12_bars_112 rfl ?_
    refine xe_iload_n dX12_bars_113 rfl ?_
    refine xe_iload_n dX12_bars_114 rfl ?_
    refine xe_callV (args := [.int i1, .int i2]) dX12_bars_115 vlX12_439 rfl rfl (Nat.le_of_ble_eq_true rfl) kk655 (xKK_lt kk655) rfl rfl k (Nat.le_refl _) (fun rv34 u34 w34 r34 k => ?_)
    obtain ⟨v34, rfl, rfl, rfl, rfl, k⟩ := k
    refine xe_sipush (v := 1000) dX12_bars_118 rfl ?_
    refine xe_icmp_lt (tgt := 128) dX12_bars_121 rfl (fun c35 => ?_) (fun c36 => ?_)
    · have k := k.1 c35
      exact k
    · have k := k.2 (fun q => (c36 q))
      refine xe_iload dX12_bars_124 rfl ?_
      refine xe_istore (ls' := [some (.ref 655), some (.int i1), some (.int i2), some (.int i3), some (.int i5), some (.int i5)]) dX12_bars_126 (by decide) rfl ?_
      exact k
  · have k := k.2 (fun q => (c31 q))
    refine xe_goto (tgt := 128) dX12_bars_89 rfl ?_
    exact k

/-! FuneralPostModel.layTrace -/

theorem TX12_layTrace_0 {g : xGT} {d : Nat} {i1 i2 : Int32} {u : xU} {w : xW} {r : xQ} {P : xPost} (hr : xRf r)
    (k : xCall g d mX12_load [.ref 655] 698 u w r 698 (fun rv1 u1 w1 r1 => rv1 = none ∧ w = w1 ∧ r = r1 ∧ xEv g (d + 1) mX12_layTrace 52 [some (.ref 655), none, none] [] 698 (x2 (x2 (x2 (x2 (x2 (x2 u1 684 88 (1 : Int32)) 684 18 i1) 684 28 (-1 : Int32)) 684 38 (-1 : Int32)) 684 48 (0 : Int32)) 684 58 i2) w r 698 P)) :
    xEv g (d + 1) mX12_layTrace 0 [some (.ref 655), some (.int i1), some (.int i2)] [] 698 u w r 698 P := by
  refine xe_aload_n dX12_layTrace_0 rfl ?_
  refine xe_callV (args := []) dX12_layTrace_1 vlX12_496 rfl rfl (Nat.le_of_ble_eq_true rfl) kk655 (xKK_lt kk655) rfl rfl k (Nat.le_refl _) (fun rv1 u1 w1 r1 k => ?_)
  obtain ⟨rfl, rfl, rfl, k⟩ := k
  refine xe_aload_n dX12_layTrace_4 rfl ?_
  refine xe_getR (b := 684) dX12_layTrace_5 flX12_102 kk655 (xKK_lt kk655) rfl (rf655_58 hr) ?_
  refine xe_bipush (v := 88) dX12_layTrace_8 rfl ?_
  refine xe_iconst (v := 1) dX12_layTrace_10 rfl ?_
  refine xe_iast dX12_layTrace_11 kk684 (xKK_lt kk684) (show ¬ ((88 : Int32) < 0 ∨ 92 ≤ (88 : Int32).toNatClampNeg) from by decide) ?_
  refine xe_aload_n dX12_layTrace_12 rfl ?_
  refine xe_getR (b := 684) dX12_layTrace_13 flX12_102 kk655 (xKK_lt kk655) rfl (rf655_58 hr) ?_
  refine xe_bipush (v := 18) dX12_layTrace_16 rfl ?_
  refine xe_iload_n dX12_layTrace_18 rfl ?_
  refine xe_iast dX12_layTrace_19 kk684 (xKK_lt kk684) (show ¬ ((18 : Int32) < 0 ∨ 92 ≤ (18 : Int32).toNatClampNeg) from by decide) ?_
  refine xe_aload_n dX12_layTrace_20 rfl ?_
  refine xe_getR (b := 684) dX12_layTrace_21 flX12_102 kk655 (xKK_lt kk655) rfl (rf655_58 hr) ?_
  refine xe_bipush (v := 28) dX12_layTrace_24 rfl ?_
  refine xe_iconst (v := -1) dX12_layTrace_26 rfl ?_
  refine xe_iast dX12_layTrace_27 kk684 (xKK_lt kk684) (show ¬ ((28 : Int32) < 0 ∨ 92 ≤ (28 : Int32).toNatClampNeg) from by decide) ?_
  refine xe_aload_n dX12_layTrace_28 rfl ?_
  refine xe_getR (b := 684) dX12_layTrace_29 flX12_102 kk655 (xKK_lt kk655) rfl (rf655_58 hr) ?_
  refine xe_bipush (v := 38) dX12_layTrace_32 rfl ?_
  refine xe_iconst (v := -1) dX12_layTrace_34 rfl ?_
  refine xe_iast dX12_layTrace_35 kk684 (xKK_lt kk684) (show ¬ ((38 : Int32) < 0 ∨ 92 ≤ (38 : Int32).toNatClampNeg) from by decide) ?_
  refine xe_aload_n dX12_layTrace_36 rfl ?_
  refine xe_getR (b := 684) dX12_layTrace_37 flX12_102 kk655 (xKK_lt kk655) rfl (rf655_58 hr) ?_
  refine xe_bipush (v := 48) dX12_layTrace_40 rfl ?_
  refine xe_iconst (v := 0) dX12_layTrace_42 rfl ?_
  refine xe_iast dX12_layTrace_43 kk684 (xKK_lt kk684) (show ¬ ((48 : Int32) < 0 ∨ 92 ≤ (48 : Int32).toNatClampNeg) from by decide) ?_
  refine xe_aload_n dX12_layTrace_44 rfl ?_
  refine xe_getR (b := 684) dX12_layTrace_45 flX12_102 kk655 (xKK_lt kk655) rfl (rf655_58 hr) ?_
  refine xe_bipush (v := 58) dX12_layTrace_48 rfl ?_
  refine xe_iload_n dX12_layTrace_50 rfl ?_
  refine xe_iast dX12_layTrace_51 kk684 (xKK_lt kk684) (show ¬ ((58 : Int32) < 0 ∨ 92 ≤ (58 : Int32).toNatClampNeg) from by decide) ?_
  exact xEv.fewer (ls' := [some (.ref 655), none, none]) k (xfw_get (xfw_s (xfw_n (xfw_n (xfw_nil _)))))

theorem CX12_layTrace {g : xGT} {d : Nat} {i1 i2 : Int32} {u : xU} {w : xW} {r : xQ} {P : xPost} (hr : xRf r)
    (k : xCall g d mX12_load [.ref 655] 698 u w r 698 (fun rv1 u1 w1 r1 => rv1 = none ∧ w = w1 ∧ r = r1 ∧ xEv g (d + 1) mX12_layTrace 52 [some (.ref 655), none, none] [] 698 (x2 (x2 (x2 (x2 (x2 (x2 u1 684 88 (1 : Int32)) 684 18 i1) 684 28 (-1 : Int32)) 684 38 (-1 : Int32)) 684 48 (0 : Int32)) 684 58 i2) w r 698 P)) :
    xCall g (d + 1) mX12_layTrace [.ref 655, .int i1, .int i2] 698 u w r 698 P :=
  xCall.of plX12 (Nat.le_of_ble_eq_true rfl) rfl (TX12_layTrace_0 hr k)

theorem TX12_layTrace_52 {g : xGT} {d : Nat} {u : xU} {w : xW} {r : xQ} {P : xPost} (hr : xRf r)
    (k : ((¬ ((300 : Int32) ≤ (u 684 90)) ∧ ¬ (0 ≤ (u 684 38))) → xCall g d mX12_goDay [.ref 655] 698 u w r 698 (fun rv6 u6 w6 r6 => ∃ v6 : Int32, rv6 = some (.int v6) ∧ w = w6 ∧ r = r6 ∧ xEv g (d + 1) mX12_layTrace 52 [some (.ref 655), none, none] [] 698 u6 w r 698 P)) ∧ (¬ (¬ ((300 : Int32) ≤ (u 684 90)) ∧ ¬ (0 ≤ (u 684 38))) → P none u w r)) :
    xEv g (d + 1) mX12_layTrace 52 [some (.ref 655), none, none] [] 698 u w r 698 P := by
  refine xe_aload_n dX12_layTrace_52 rfl ?_
  refine xe_getR (b := 684) dX12_layTrace_53 flX12_102 kk655 (xKK_lt kk655) rfl (rf655_58 hr) ?_
  refine xe_bipush (v := 90) dX12_layTrace_56 rfl ?_
  refine xe_iald dX12_layTrace_58 kk684 (xKK_lt kk684) (show ¬ ((90 : Int32) < 0 ∨ 92 ≤ (90 : Int32).toNatClampNeg) from by decide) ?_
  refine xe_sipush (v := 300) dX12_layTrace_59 rfl ?_
  have K7 : ¬ (¬ ((300 : Int32) ≤ (u 684 90)) ∧ ¬ (0 ≤ (u 684 38))) → xEv g (d + 1) mX12_layTrace 83 [some (.ref 655), none, none] [] 698 u w r 698 P := fun c8 => by
    have k := k.2 c8
    exact xe_return dX12_layTrace_83 trivial k
  refine xe_icmp_ge (tgt := 83) dX12_layTrace_62 rfl (fun c2 => ?_) (fun c3 => ?_)
  · exact K7 (fun q => (q.1 c2))
  · refine xe_aload_n dX12_layTrace_65 rfl ?_
    refine xe_getR (b := 684) dX12_layTrace_66 flX12_102 kk655 (xKK_lt kk655) rfl (rf655_58 hr) ?_
    refine xe_bipush (v := 38) dX12_layTrace_69 rfl ?_
    refine xe_iald dX12_layTrace_71 kk684 (xKK_lt kk684) (show ¬ ((38 : Int32) < 0 ∨ 92 ≤ (38 : Int32).toNatClampNeg) from by decide) ?_
    refine xe_if_ge (tgt := 83) dX12_layTrace_72 rfl (fun c4 => ?_) (fun c5 => ?_)
    · exact K7 (fun q => (q.2 c4))
    · have k := k.1 ⟨c3, c5⟩
      refine xe_aload_n dX12_layTrace_75 rfl ?_
      refine xe_callV (args := []) dX12_layTrace_76 vlX12_517 rfl rfl (Nat.le_of_ble_eq_true rfl) kk655 (xKK_lt kk655) rfl rfl k (Nat.le_refl _) (fun rv6 u6 w6 r6 k => ?_)
      obtain ⟨v6, rfl, rfl, rfl, k⟩ := k
      refine xe_pop dX12_layTrace_79 rfl ?_
      refine xe_goto (tgt := 52) dX12_layTrace_80 rfl ?_
      exact k

/-! FuneralPostModel.trace -/

theorem TX12_trace_0 {g : xGT} {d : Nat} {i1 i2 : Int32} {u : xU} {w : xW} {r : xQ} {P : xPost} (hr : xRf r)
    (k : xCall g d mX12_isVillage [.ref 655, .int i1] 698 (x2 u 655 68 (0 : Int32)) w r 698 (fun rv1 u1 w1 r1 => ∃ v1 : Int32, rv1 = some (.int v1) ∧ (x2 u 655 68 (0 : Int32)) = u1 ∧ w = w1 ∧ r = r1 ∧ (v1 = 0 → P (some (.int (-1 : Int32))) (x2 u 655 68 (0 : Int32)) w r) ∧ (¬ (v1 = 0) → xCall g d mX12_isVillage [.ref 655, .int i2] 698 (x2 u 655 68 (0 : Int32)) w r 698 (fun rv4 u4 w4 r4 => ∃ v4 : Int32, rv4 = some (.int v4) ∧ (x2 u 655 68 (0 : Int32)) = u4 ∧ w = w4 ∧ r = r4 ∧ ((v4 = 0 ∨ i1 = i2) → P (some (.int (-1 : Int32))) (x2 u 655 68 (0 : Int32)) w r) ∧ (¬ (v4 = 0 ∨ i1 = i2) → xCall g d mX12_layTrace [.ref 655, .int i1, .int i2] 698 (x2 u 655 68 (0 : Int32)) w r 698 (fun rv9 u9 w9 r9 => rv9 = none ∧ w = w9 ∧ r = r9 ∧ (0 ≤ (u9 684 38) → xEv g (d + 1) mX12_trace 48 [some (.ref 655), none, none, some (.int (0 : Int32))] [] 698 u9 w r 698 P) ∧ (¬ (0 ≤ (u9 684 38)) → P (some (.int (-1 : Int32))) u9 w r))))))) :
    xEv g (d + 1) mX12_trace 0 [some (.ref 655), some (.int i1), some (.int i2), none] [] 698 u w r 698 P := by
  refine xe_aload_n dX12_trace_0 rfl ?_
  refine xe_iconst (v := 0) dX12_trace_1 rfl ?_
  refine xe_putI dX12_trace_2 flX12_423 kk655 (xKK_lt kk655) nf12_68 rfl ?_
  refine xe_aload_n dX12_trace_5 rfl ?_
  refine xe_iload_n dX12_trace_6 rfl ?_
  refine xe_callV (args := [.int i1]) dX12_trace_7 vlX12_502 rfl rfl (Nat.le_of_ble_eq_true rfl) kk655 (xKK_lt kk655) rfl rfl k (Nat.le_refl _) (fun rv1 u1 w1 r1 k => ?_)
  obtain ⟨v1, rfl, rfl, rfl, rfl, k⟩ := k
  refine xe_if_eq (tgt := 26) dX12_trace_10 rfl (fun c2 => ?_) (fun c3 => ?_)
  · have k := k.1 c2
    refine xe_iconst (v := -1) dX12_trace_26 rfl ?_
    exact xe_ireturn dX12_trace_27 rfl k
  · have k := k.2 (fun q => (c3 q))
    refine xe_aload_n dX12_trace_13 rfl ?_
    refine xe_iload_n dX12_trace_14 rfl ?_
    refine xe_callV (args := [.int i2]) dX12_trace_15 vlX12_502 rfl rfl (Nat.le_of_ble_eq_true rfl) kk655 (xKK_lt kk655) rfl rfl k (Nat.le_refl _) (fun rv4 u4 w4 r4 k => ?_)
    obtain ⟨v4, rfl, rfl, rfl, rfl, k⟩ := k
    have K12 : (v4 = 0 ∨ i1 = i2) → xEv g (d + 1) mX12_trace 26 [some (.ref 655), some (.int i1), some (.int i2), none] [] 698 (x2 u 655 68 (0 : Int32)) w r 698 P := fun c13 => by
      have k := k.1 c13
      refine xe_iconst (v := -1) dX12_trace_26 rfl ?_
      exact xe_ireturn dX12_trace_27 rfl k
    refine xe_if_eq (tgt := 26) dX12_trace_18 rfl (fun c5 => ?_) (fun c6 => ?_)
    · exact K12 (Or.inl c5)
    · refine xe_iload_n dX12_trace_21 rfl ?_
      refine xe_iload_n dX12_trace_22 rfl ?_
      refine xe_icmp_ne (tgt := 28) dX12_trace_23 rfl (fun c7 => ?_) (fun c8 => ?_)
      · have k := k.2 (fun q => (q.elim (fun z => (c6 z)) (fun z => (c7 z))))
        refine xe_aload_n dX12_trace_28 rfl ?_
        refine xe_iload_n dX12_trace_29 rfl ?_
        refine xe_iload_n dX12_trace_30 rfl ?_
        refine xe_callV (args := [.int i1, .int i2]) dX12_trace_31 vlX12_544 rfl rfl (Nat.le_of_ble_eq_true rfl) kk655 (xKK_lt kk655) rfl rfl k (Nat.le_refl _) (fun rv9 u9 w9 r9 k => ?_)
        obtain ⟨rfl, rfl, rfl, k⟩ := k
        refine xe_aload_n dX12_trace_34 rfl ?_
        refine xe_getR (b := 684) dX12_trace_35 flX12_102 kk655 (xKK_lt kk655) rfl (rf655_58 hr) ?_
        refine xe_bipush (v := 38) dX12_trace_38 rfl ?_
        refine xe_iald dX12_trace_40 kk684 (xKK_lt kk684) (show ¬ ((38 : Int32) < 0 ∨ 92 ≤ (38 : Int32).toNatClampNeg) from by decide) ?_
        refine xe_if_ge (tgt := 46) dX12_trace_41 rfl (fun c10 => ?_) (fun c11 => ?_)
        · have k := k.1 c10
          refine xe_iconst (v := 0) dX12_trace_46 rfl ?_
          refine xe_istore_n (ls' := [some (.ref 655), some (.int i1), some (.int i2), some (.int (0 : Int32))]) dX12_trace_47 rfl (by decide) rfl ?_
          exact xEv.fewer (ls' := [some (.ref 655), none, none, some (.int (0 : Int32))]) k (xfw_get (xfw_s (xfw_n (xfw_n (xfw_s (xfw_nil _))))))
        · have k := k.2 (fun q => (c11 q))
          refine xe_iconst (v := -1) dX12_trace_44 rfl ?_
          exact xe_ireturn dX12_trace_45 rfl k
      · exact K12 (Or.inr c8)

theorem CX12_trace {g : xGT} {d : Nat} {i1 i2 : Int32} {u : xU} {w : xW} {r : xQ} {P : xPost} (hr : xRf r)
    (k : xCall g d mX12_isVillage [.ref 655, .int i1] 698 (x2 u 655 68 (0 : Int32)) w r 698 (fun rv1 u1 w1 r1 => ∃ v1 : Int32, rv1 = some (.int v1) ∧ (x2 u 655 68 (0 : Int32)) = u1 ∧ w = w1 ∧ r = r1 ∧ (v1 = 0 → P (some (.int (-1 : Int32))) (x2 u 655 68 (0 : Int32)) w r) ∧ (¬ (v1 = 0) → xCall g d mX12_isVillage [.ref 655, .int i2] 698 (x2 u 655 68 (0 : Int32)) w r 698 (fun rv4 u4 w4 r4 => ∃ v4 : Int32, rv4 = some (.int v4) ∧ (x2 u 655 68 (0 : Int32)) = u4 ∧ w = w4 ∧ r = r4 ∧ ((v4 = 0 ∨ i1 = i2) → P (some (.int (-1 : Int32))) (x2 u 655 68 (0 : Int32)) w r) ∧ (¬ (v4 = 0 ∨ i1 = i2) → xCall g d mX12_layTrace [.ref 655, .int i1, .int i2] 698 (x2 u 655 68 (0 : Int32)) w r 698 (fun rv9 u9 w9 r9 => rv9 = none ∧ w = w9 ∧ r = r9 ∧ (0 ≤ (u9 684 38) → xEv g (d + 1) mX12_trace 48 [some (.ref 655), none, none, some (.int (0 : Int32))] [] 698 u9 w r 698 P) ∧ (¬ (0 ≤ (u9 684 38)) → P (some (.int (-1 : Int32))) u9 w r))))))) :
    xCall g (d + 1) mX12_trace [.ref 655, .int i1, .int i2] 698 u w r 698 P :=
  xCall.of plX12 (Nat.le_of_ble_eq_true rfl) rfl (TX12_trace_0 hr k)

theorem TX12_trace_48 {g : xGT} {d : Nat} {i3 : Int32} {u : xU} {w : xW} {r : xQ} {P : xPost} (hr : xRf r)
    (k : ((u 655 61) ≤ i3 → P (some (.int (u 684 38))) (x2 u 655 68 (u 655 61)) w r) ∧ (¬ ((u 655 61) ≤ i3) → vp_in i3 20 ∧ (xEv g (d + 1) mX12_trace 48 [some (.ref 655), none, none, some (.int (i3 + (1 : Int32)))] [] 698 (x2 u 690 i3.toNatClampNeg (u 686 i3.toNatClampNeg)) w r 698 P))) :
    xEv g (d + 1) mX12_trace 48 [some (.ref 655), none, none, some (.int i3)] [] 698 u w r 698 P := by
  refine xe_iload_n dX12_trace_48 rfl ?_
  refine xe_aload_n dX12_trace_49 rfl ?_
  refine xe_getI dX12_trace_50 flX12_433 kk655 (xKK_lt kk655) rfl ?_
  refine xe_icmp_ge (tgt := 74) dX12_trace_53 rfl (fun c14 => ?_) (fun c15 => ?_)
  · have k := k.1 c14
    refine xe_aload_n dX12_trace_74 rfl ?_
    refine xe_aload_n dX12_trace_75 rfl ?_
    refine xe_getI dX12_trace_76 flX12_433 kk655 (xKK_lt kk655) rfl ?_
    refine xe_putI dX12_trace_79 flX12_423 kk655 (xKK_lt kk655) nf12_68 rfl ?_
    refine xe_aload_n dX12_trace_82 rfl ?_
    refine xe_getR (b := 684) dX12_trace_83 flX12_102 kk655 (xKK_lt kk655) rfl (rf655_58 hr) ?_
    refine xe_bipush (v := 38) dX12_trace_86 rfl ?_
    refine xe_iald dX12_trace_88 kk684 (xKK_lt kk684) (show ¬ ((38 : Int32) < 0 ∨ 92 ≤ (38 : Int32).toNatClampNeg) from by decide) ?_
    exact xe_ireturn dX12_trace_89 rfl k
  · have k := k.2 (fun q => (c15 q))
    refine xe_aload_n dX12_trace_56 rfl ?_
    refine xe_getR (b := 690) dX12_trace_57 flX12_120 kk655 (xKK_lt kk655) rfl (rf655_67 hr) ?_
    refine xe_iload_n dX12_trace_60 rfl ?_
    refine xe_aload_n dX12_trace_61 rfl ?_
    refine xe_getR (b := 686) dX12_trace_62 flX12_108 kk655 (xKK_lt kk655) rfl (rf655_60 hr) ?_
    refine xe_iload_n dX12_trace_65 rfl ?_
    obtain ⟨b16, k⟩ := k
    refine xe_iald dX12_trace_66 kk686 (xKK_lt kk686) b16 ?_
    refine xe_iast dX12_trace_67 kk690 (xKK_lt kk690) b16 ?_
    refine xe_iinc (v := (i3 + (1 : Int32))) (ls' := [some (.ref 655), none, none, some (.int (i3 + (1 : Int32)))]) dX12_trace_68 rfl (by decide) rfl rfl ?_
    refine xe_goto (tgt := 48) dX12_trace_71 rfl ?_
    exact k

/-! FuneralPostModel.lies -/

theorem TX12_lies_0 {g : xGT} {d : Nat} {i1 : Int32} {u : xU} {w : xW} {r : xQ} {P : xPost} (hr : xRf r)
    (k : xCall g d mX12_isIn [.int i1, .int (0 : Int32), .int ((u 655 68) - (1 : Int32))] 698 u w r 698 (fun rv1 u1 w1 r1 => ∃ v1 : Int32, rv1 = some (.int v1) ∧ u = u1 ∧ w = w1 ∧ r = r1 ∧ (¬ (v1 = 0) → vp_in i1 20) ∧ (P (some (.int (if v1 = 0 then (-1 : Int32) else (u 690 i1.toNatClampNeg)))) u w r))) :
    xEv g (d + 1) mX12_lies 0 [some (.ref 655), some (.int i1)] [] 698 u w r 698 P := by
  refine xe_iload_n dX12_lies_0 rfl ?_
  refine xe_iconst (v := 0) dX12_lies_1 rfl ?_
  refine xe_aload_n dX12_lies_2 rfl ?_
  refine xe_getI dX12_lies_3 flX12_423 kk655 (xKK_lt kk655) rfl ?_
  refine xe_iconst (v := 1) dX12_lies_6 rfl ?_
  refine xe_isub dX12_lies_7 ?_
  refine xe_callS (args := [.int i1, .int (0 : Int32), .int ((u 655 68) - (1 : Int32))]) dX12_lies_8 slX12_426 rfl rfl (Nat.le_of_ble_eq_true rfl) k (Nat.le_refl _) (fun rv1 u1 w1 r1 k => ?_)
  obtain ⟨v1, rfl, rfl, rfl, rfl, k⟩ := k
  obtain ⟨b4, k⟩ := k
  have K5 : xEv g (d + 1) mX12_lies 24 [some (.ref 655), some (.int i1)] [.int (if v1 = 0 then (-1 : Int32) else (u 690 i1.toNatClampNeg))] 698 u w r 698 P := by
    exact xe_ireturn dX12_lies_24 rfl k
  refine xe_if_eq (tgt := 23) dX12_lies_11 rfl (fun c2 => ?_) (fun c3 => ?_)
  · refine xe_iconst (v := -1) dX12_lies_23 rfl ?_
    exact xtop (if_pos c2) K5
  · refine xe_aload_n dX12_lies_14 rfl ?_
    refine xe_getR (b := 690) dX12_lies_15 flX12_120 kk655 (xKK_lt kk655) rfl (rf655_67 hr) ?_
    refine xe_iload_n dX12_lies_18 rfl ?_
    refine xe_iald dX12_lies_19 kk690 (xKK_lt kk690) (b4 (fun q => (c3 q))) ?_
    refine xe_goto (tgt := 24) dX12_lies_20 rfl ?_
    exact xtop (if_neg (fun q => (c3 q))) K5

theorem CX12_lies {g : xGT} {d : Nat} {i1 : Int32} {u : xU} {w : xW} {r : xQ} {P : xPost} (hr : xRf r)
    (k : xCall g d mX12_isIn [.int i1, .int (0 : Int32), .int ((u 655 68) - (1 : Int32))] 698 u w r 698 (fun rv1 u1 w1 r1 => ∃ v1 : Int32, rv1 = some (.int v1) ∧ u = u1 ∧ w = w1 ∧ r = r1 ∧ (¬ (v1 = 0) → vp_in i1 20) ∧ (P (some (.int (if v1 = 0 then (-1 : Int32) else (u 690 i1.toNatClampNeg)))) u w r))) :
    xCall g (d + 1) mX12_lies [.ref 655, .int i1] 698 u w r 698 P :=
  xCall.of plX12 (Nat.le_of_ble_eq_true rfl) rfl (TX12_lies_0 hr k)

/-! FuneralPostModel.had -/

theorem TX12_had_0 {g : xGT} {d : Nat} {i1 i2 : Int32} {u : xU} {w : xW} {r : xQ} {P : xPost} (hr : xRf r)
    (k : xCall g d mX12_isBier [.ref 655, .int i1] 698 u w r 698 (fun rv1 u1 w1 r1 => ∃ v1 : Int32, rv1 = some (.int v1) ∧ u = u1 ∧ w = w1 ∧ r = r1 ∧ ((v1 = 0 ∨ (u 655 73) = (30 : Int32)) → P (some (.int (-1 : Int32))) u w r) ∧ (¬ (v1 = 0 ∨ (u 655 73) = (30 : Int32)) → vp_in (u 655 73) 30 ∧ ((i2 = 0 ∨ i2 = 1) ∧ (P (some (.int (((u 655 73) + (1 : Int32)) - (1 : Int32)))) (x2 (x2 (x2 (x2 (x2 u 691 (u 655 73).toNatClampNeg i1) 694 (u 655 73).toNatClampNeg i2) 692 (u 655 73).toNatClampNeg (u 655 74)) 693 (u 655 73).toNatClampNeg (-1 : Int32)) 655 73 ((u 655 73) + (1 : Int32))) w r))))) :
    xEv g (d + 1) mX12_had 0 [some (.ref 655), some (.int i1), some (.int i2)] [] 698 u w r 698 P := by
  refine xe_aload_n dX12_had_0 rfl ?_
  refine xe_iload_n dX12_had_1 rfl ?_
  refine xe_callV (args := [.int i1]) dX12_had_2 vlX12_493 rfl rfl (Nat.le_of_ble_eq_true rfl) kk655 (xKK_lt kk655) rfl rfl k (Nat.le_refl _) (fun rv1 u1 w1 r1 k => ?_)
  obtain ⟨v1, rfl, rfl, rfl, rfl, k⟩ := k
  have K8 : (v1 = 0 ∨ (u 655 73) = (30 : Int32)) → xEv g (d + 1) mX12_had 17 [some (.ref 655), some (.int i1), some (.int i2)] [] 698 u w r 698 P := fun c9 => by
    have k := k.1 c9
    refine xe_iconst (v := -1) dX12_had_17 rfl ?_
    exact xe_ireturn dX12_had_18 rfl k
  refine xe_if_eq (tgt := 17) dX12_had_5 rfl (fun c2 => ?_) (fun c3 => ?_)
  · exact K8 (Or.inl c2)
  · refine xe_aload_n dX12_had_8 rfl ?_
    refine xe_getI dX12_had_9 flX12_420 kk655 (xKK_lt kk655) rfl ?_
    refine xe_bipush (v := 30) dX12_had_12 rfl ?_
    refine xe_icmp_ne (tgt := 19) dX12_had_14 rfl (fun c4 => ?_) (fun c5 => ?_)
    · have k := k.2 (fun q => (q.elim (fun z => (c3 z)) (fun z => (c4 z))))
      refine xe_aload_n dX12_had_19 rfl ?_
      refine xe_getR (b := 691) dX12_had_20 flX12_123 kk655 (xKK_lt kk655) rfl (rf655_69 hr) ?_
      refine xe_aload_n dX12_had_23 rfl ?_
      refine xe_getI dX12_had_24 flX12_420 kk655 (xKK_lt kk655) rfl ?_
      refine xe_iload_n dX12_had_27 rfl ?_
      obtain ⟨b6, k⟩ := k
      refine xe_iast dX12_had_28 kk691 (xKK_lt kk691) b6 ?_
      refine xe_aload_n dX12_had_29 rfl ?_
      refine xe_getR (b := 694) dX12_had_30 flX12_132 kk655 (xKK_lt kk655) rfl (rf655_72 hr) ?_
      refine xe_aload_n dX12_had_33 rfl ?_
      refine xe_getI dX12_had_34 flX12_420 kk655 (xKK_lt kk655) rfl ?_
      refine xe_iload_n dX12_had_37 rfl ?_
      obtain ⟨z7, k⟩ := k
      refine xe_zast dX12_had_38 kk694 (xKK_lt kk694) b6 z7 ?_
      refine xe_aload_n dX12_had_39 rfl ?_
      refine xe_getR (b := 692) dX12_had_40 flX12_126 kk655 (xKK_lt kk655) rfl (rf655_70 hr) ?_
      refine xe_aload_n dX12_had_43 rfl ?_
      refine xe_getI dX12_had_44 flX12_420 kk655 (xKK_lt kk655) rfl ?_
      refine xe_aload_n dX12_had_47 rfl ?_
      refine xe_getI dX12_had_48 flX12_547 kk655 (xKK_lt kk655) rfl ?_
      refine xe_iast dX12_had_51 kk692 (xKK_lt kk692) b6 ?_
      refine xe_aload_n dX12_had_52 rfl ?_
      refine xe_getR (b := 693) dX12_had_53 flX12_129 kk655 (xKK_lt kk655) rfl (rf655_71 hr) ?_
      refine xe_aload_n dX12_had_56 rfl ?_
      refine xe_getI dX12_had_57 flX12_420 kk655 (xKK_lt kk655) rfl ?_
      refine xe_iconst (v := -1) dX12_had_60 rfl ?_
      refine xe_iast dX12_had_61 kk693 (xKK_lt kk693) b6 ?_
      refine xe_aload_n dX12_had_62 rfl ?_
      refine xe_dup dX12_had_63 rfl ?_
      refine xe_getI dX12_had_64 flX12_420 kk655 (xKK_lt kk655) rfl ?_
      refine xe_iconst (v := 1) dX12_had_67 rfl ?_
      refine xe_iadd dX12_had_68 ?_
      refine xe_putI dX12_had_69 flX12_420 kk655 (xKK_lt kk655) nf12_73 rfl ?_
      refine xe_aload_n dX12_had_72 rfl ?_
      refine xe_getI dX12_had_73 flX12_420 kk655 (xKK_lt kk655) rfl ?_
      refine xe_iconst (v := 1) dX12_had_76 rfl ?_
      refine xe_isub dX12_had_77 ?_
      exact xe_ireturn dX12_had_78 rfl k
    · exact K8 (Or.inr c5)

theorem CX12_had {g : xGT} {d : Nat} {i1 i2 : Int32} {u : xU} {w : xW} {r : xQ} {P : xPost} (hr : xRf r)
    (k : xCall g d mX12_isBier [.ref 655, .int i1] 698 u w r 698 (fun rv1 u1 w1 r1 => ∃ v1 : Int32, rv1 = some (.int v1) ∧ u = u1 ∧ w = w1 ∧ r = r1 ∧ ((v1 = 0 ∨ (u 655 73) = (30 : Int32)) → P (some (.int (-1 : Int32))) u w r) ∧ (¬ (v1 = 0 ∨ (u 655 73) = (30 : Int32)) → vp_in (u 655 73) 30 ∧ ((i2 = 0 ∨ i2 = 1) ∧ (P (some (.int (((u 655 73) + (1 : Int32)) - (1 : Int32)))) (x2 (x2 (x2 (x2 (x2 u 691 (u 655 73).toNatClampNeg i1) 694 (u 655 73).toNatClampNeg i2) 692 (u 655 73).toNatClampNeg (u 655 74)) 693 (u 655 73).toNatClampNeg (-1 : Int32)) 655 73 ((u 655 73) + (1 : Int32))) w r))))) :
    xCall g (d + 1) mX12_had [.ref 655, .int i1, .int i2] 698 u w r 698 P :=
  xCall.of plX12 (Nat.le_of_ble_eq_true rfl) rfl (TX12_had_0 hr k)

/-! FuneralPostModel.untell -/

theorem TX12_untell_0 {g : xGT} {d : Nat} {i1 : Int32} {u : xU} {w : xW} {r : xQ} {P : xPost} (hr : xRf r)
    (k : xCall g d mX12_isIn [.int i1, .int (0 : Int32), .int ((u 655 73) - (1 : Int32))] 698 u w r 698 (fun rv1 u1 w1 r1 => ∃ v1 : Int32, rv1 = some (.int v1) ∧ u = u1 ∧ w = w1 ∧ r = r1 ∧ (¬ (v1 = 0) → vp_in i1 30) ∧ (((v1 = 0 ∨ ¬ ((u 693 i1.toNatClampNeg) < 0)) → P (some (.int (0 : Int32))) u w r) ∧ (¬ (v1 = 0 ∨ ¬ ((u 693 i1.toNatClampNeg) < 0)) → vp_in i1 30 ∧ (P (some (.int (1 : Int32))) (x2 u 693 i1.toNatClampNeg (u 655 74)) w r))))) :
    xEv g (d + 1) mX12_untell 0 [some (.ref 655), some (.int i1)] [] 698 u w r 698 P := by
  refine xe_iload_n dX12_untell_0 rfl ?_
  refine xe_iconst (v := 0) dX12_untell_1 rfl ?_
  refine xe_aload_n dX12_untell_2 rfl ?_
  refine xe_getI dX12_untell_3 flX12_420 kk655 (xKK_lt kk655) rfl ?_
  refine xe_iconst (v := 1) dX12_untell_6 rfl ?_
  refine xe_isub dX12_untell_7 ?_
  refine xe_callS (args := [.int i1, .int (0 : Int32), .int ((u 655 73) - (1 : Int32))]) dX12_untell_8 slX12_426 rfl rfl (Nat.le_of_ble_eq_true rfl) k (Nat.le_refl _) (fun rv1 u1 w1 r1 k => ?_)
  obtain ⟨v1, rfl, rfl, rfl, rfl, k⟩ := k
  obtain ⟨b4, k⟩ := k
  have K8 : (v1 = 0 ∨ ¬ ((u 693 i1.toNatClampNeg) < 0)) → xEv g (d + 1) mX12_untell 23 [some (.ref 655), some (.int i1)] [] 698 u w r 698 P := fun c9 => by
    have k := k.1 c9
    refine xe_iconst (v := 0) dX12_untell_23 rfl ?_
    exact xe_ireturn dX12_untell_24 (xrokZ (Or.inl rfl)) k
  refine xe_if_eq (tgt := 23) dX12_untell_11 rfl (fun c2 => ?_) (fun c3 => ?_)
  · exact K8 (Or.inl c2)
  · refine xe_aload_n dX12_untell_14 rfl ?_
    refine xe_getR (b := 693) dX12_untell_15 flX12_129 kk655 (xKK_lt kk655) rfl (rf655_71 hr) ?_
    refine xe_iload_n dX12_untell_18 rfl ?_
    refine xe_iald dX12_untell_19 kk693 (xKK_lt kk693) (b4 c3) ?_
    refine xe_if_lt (tgt := 25) dX12_untell_20 rfl (fun c5 => ?_) (fun c6 => ?_)
    · have k := k.2 (fun q => (q.elim (fun z => (c3 z)) (fun z => (z c5))))
      refine xe_aload_n dX12_untell_25 rfl ?_
      refine xe_getR (b := 693) dX12_untell_26 flX12_129 kk655 (xKK_lt kk655) rfl (rf655_71 hr) ?_
      refine xe_iload_n dX12_untell_29 rfl ?_
      refine xe_aload_n dX12_untell_30 rfl ?_
      refine xe_getI dX12_untell_31 flX12_547 kk655 (xKK_lt kk655) rfl ?_
      obtain ⟨b7, k⟩ := k
      refine xe_iast dX12_untell_34 kk693 (xKK_lt kk693) b7 ?_
      refine xe_iconst (v := 1) dX12_untell_35 rfl ?_
      exact xe_ireturn dX12_untell_36 (xrokZ (Or.inr rfl)) k
    · exact K8 (Or.inr c6)

theorem CX12_untell {g : xGT} {d : Nat} {i1 : Int32} {u : xU} {w : xW} {r : xQ} {P : xPost} (hr : xRf r)
    (k : xCall g d mX12_isIn [.int i1, .int (0 : Int32), .int ((u 655 73) - (1 : Int32))] 698 u w r 698 (fun rv1 u1 w1 r1 => ∃ v1 : Int32, rv1 = some (.int v1) ∧ u = u1 ∧ w = w1 ∧ r = r1 ∧ (¬ (v1 = 0) → vp_in i1 30) ∧ (((v1 = 0 ∨ ¬ ((u 693 i1.toNatClampNeg) < 0)) → P (some (.int (0 : Int32))) u w r) ∧ (¬ (v1 = 0 ∨ ¬ ((u 693 i1.toNatClampNeg) < 0)) → vp_in i1 30 ∧ (P (some (.int (1 : Int32))) (x2 u 693 i1.toNatClampNeg (u 655 74)) w r))))) :
    xCall g (d + 1) mX12_untell [.ref 655, .int i1] 698 u w r 698 P :=
  xCall.of plX12 (Nat.le_of_ble_eq_true rfl) rfl (TX12_untell_0 hr k)

/-! FuneralPostModel.later -/

theorem TX12_later_0 {g : xGT} {d : Nat} {i1 : Int32} {u : xU} {w : xW} {r : xQ} {P : xPost}
    (k : ((i1 < 0 ∨ ((1000 : Int32) < i1 ∨ ¬ (((u 655 74) + i1) ≤ (100000 : Int32)))) → P (some (.int (-1 : Int32))) u w r) ∧ (¬ (i1 < 0 ∨ ((1000 : Int32) < i1 ∨ ¬ (((u 655 74) + i1) ≤ (100000 : Int32)))) → P (some (.int ((u 655 74) + i1))) (x2 u 655 74 ((u 655 74) + i1)) w r)) :
    xEv g d mX12_later 0 [some (.ref 655), some (.int i1)] [] 698 u w r 698 P := by
  refine xe_iload_n dX12_later_0 rfl ?_
  have K7 : (i1 < 0 ∨ ((1000 : Int32) < i1 ∨ ¬ (((u 655 74) + i1) ≤ (100000 : Int32)))) → xEv g d mX12_later 23 [some (.ref 655), some (.int i1)] [] 698 u w r 698 P := fun c8 => by
    have k := k.1 c8
    refine xe_iconst (v := -1) dX12_later_23 rfl ?_
    exact xe_ireturn dX12_later_24 rfl k
  refine xe_if_lt (tgt := 23) dX12_later_1 rfl (fun c1 => ?_) (fun c2 => ?_)
  · exact K7 (Or.inl c1)
  · refine xe_iload_n dX12_later_4 rfl ?_
    refine xe_sipush (v := 1000) dX12_later_5 rfl ?_
    refine xe_icmp_gt (tgt := 23) dX12_later_8 rfl (fun c3 => ?_) (fun c4 => ?_)
    · exact K7 (Or.inr (Or.inl c3))
    · refine xe_aload_n dX12_later_11 rfl ?_
      refine xe_getI dX12_later_12 flX12_547 kk655 (xKK_lt kk655) rfl ?_
      refine xe_iload_n dX12_later_15 rfl ?_
      refine xe_iadd dX12_later_16 ?_
      refine xe_ldcw (v := 100000) dX12_later_17 (xT_at 2060 (by decide +kernel) (by decide +kernel)) ?_
      refine xe_icmp_le (tgt := 25) dX12_later_20 rfl (fun c5 => ?_) (fun c6 => ?_)
      · have k := k.2 (fun q => (q.elim (fun z => (c2 z)) (fun z => (z.elim (fun z => (c4 z)) (fun z => (z c5))))))
        refine xe_aload_n dX12_later_25 rfl ?_
        refine xe_dup dX12_later_26 rfl ?_
        refine xe_getI dX12_later_27 flX12_547 kk655 (xKK_lt kk655) rfl ?_
        refine xe_iload_n dX12_later_30 rfl ?_
        refine xe_iadd dX12_later_31 ?_
        refine xe_putI dX12_later_32 flX12_547 kk655 (xKK_lt kk655) nf12_74 rfl ?_
        refine xe_aload_n dX12_later_35 rfl ?_
        refine xe_getI dX12_later_36 flX12_547 kk655 (xKK_lt kk655) rfl ?_
        exact xe_ireturn dX12_later_39 rfl k
      · exact K7 (Or.inr (Or.inr c6))

theorem CX12_later {g : xGT} {d : Nat} {i1 : Int32} {u : xU} {w : xW} {r : xQ} {P : xPost}
    (k : ((i1 < 0 ∨ ((1000 : Int32) < i1 ∨ ¬ (((u 655 74) + i1) ≤ (100000 : Int32)))) → P (some (.int (-1 : Int32))) u w r) ∧ (¬ (i1 < 0 ∨ ((1000 : Int32) < i1 ∨ ¬ (((u 655 74) + i1) ≤ (100000 : Int32)))) → P (some (.int ((u 655 74) + i1))) (x2 u 655 74 ((u 655 74) + i1)) w r)) :
    xCall g d mX12_later [.ref 655, .int i1] 698 u w r 698 P :=
  xCall.of plX12 (Nat.le_of_ble_eq_true rfl) rfl (TX12_later_0  k)

/-! FuneralPostModel.layFit -/

theorem TX12_layFit_0 {g : xGT} {d : Nat} {i1 i2 : Int32} {u : xU} {w : xW} {r : xQ} {P : xPost}
    (k : xEv g (d + 1) mX12_layFit 5 [some (.ref 655), some (.int i1), some (.int i2), some (.int (0 : Int32)), some (.int (0 : Int32)), none, none] [] 698 u w r 698 P) :
    xEv g (d + 1) mX12_layFit 0 [some (.ref 655), some (.int i1), some (.int i2), none, none, none, none] [] 698 u w r 698 P := by
  refine xe_iconst (v := 0) dX12_layFit_0 rfl ?_
  refine xe_istore_n (ls' := [some (.ref 655), some (.int i1), some (.int i2), some (.int (0 : Int32)), none, none, none]) dX12_layFit_1 rfl (by decide) rfl ?_
  refine xe_iconst (v := 0) dX12_layFit_2 rfl ?_
  refine xe_istore (ls' := [some (.ref 655), some (.int i1), some (.int i2), some (.int (0 : Int32)), some (.int (0 : Int32)), none, none]) dX12_layFit_3 (by decide) rfl ?_
  exact k

theorem CX12_layFit {g : xGT} {d : Nat} {i1 i2 : Int32} {u : xU} {w : xW} {r : xQ} {P : xPost}
    (k : xEv g (d + 1) mX12_layFit 5 [some (.ref 655), some (.int i1), some (.int i2), some (.int (0 : Int32)), some (.int (0 : Int32)), none, none] [] 698 u w r 698 P) :
    xCall g (d + 1) mX12_layFit [.ref 655, .int i1, .int i2] 698 u w r 698 P :=
  xCall.of plX12 (Nat.le_of_ble_eq_true rfl) rfl (TX12_layFit_0  k)

theorem TX12_layFit_5 {g : xGT} {d : Nat} {i1 i2 i3 i4 : Int32} {u : xU} {w : xW} {r : xQ} {P : xPost} (hr : xRf r)
    (k : ((u 655 49) ≤ i4 → P (some (.int i3)) u w r) ∧ (¬ ((u 655 49) ≤ i4) → vp_in i4 7 ∧ ((i4 = i1 → xEv g (d + 1) mX12_layFit 187 [some (.ref 655), some (.int i1), some (.int i2), some (.int i3), some (.int i4), none, none] [] 698 (x2 u 695 i4.toNatClampNeg (0 : Int32)) w r 698 P) ∧ (¬ (i4 = i1) → xCall g d mX12_layTrace [.ref 655, .int i4, .int i1] 698 (x2 u 695 i4.toNatClampNeg (0 : Int32)) w r 698 (fun rv6 u6 w6 r6 => rv6 = none ∧ w = w6 ∧ r = r6 ∧ xEv g (d + 1) mX12_layFit 41 [some (.ref 655), some (.int i1), some (.int i2), some (.int i3), some (.int i4), some (.int (0 : Int32)), none] [] 698 u6 w r 698 P))))) :
    xEv g (d + 1) mX12_layFit 5 [some (.ref 655), some (.int i1), some (.int i2), some (.int i3), some (.int i4), none, none] [] 698 u w r 698 P := by
  refine xe_iload dX12_layFit_5 rfl ?_
  refine xe_aload_n dX12_layFit_7 rfl ?_
  refine xe_getI dX12_layFit_8 flX12_395 kk655 (xKK_lt kk655) rfl ?_
  refine xe_icmp_ge (tgt := 193) dX12_layFit_11 rfl (fun c1 => ?_) (fun c2 => ?_)
  · have k := k.1 c1
    refine xe_iload_n dX12_layFit_193 rfl ?_
    exact xe_ireturn dX12_layFit_194 rfl k
  · have k := k.2 (fun q => (c2 q))
    refine xe_aload_n dX12_layFit_14 rfl ?_
    refine xe_getR (b := 695) dX12_layFit_15 flX12_136 kk655 (xKK_lt kk655) rfl (rf655_75 hr) ?_
    refine xe_iload dX12_layFit_18 rfl ?_
    refine xe_iconst (v := 0) dX12_layFit_20 rfl ?_
    obtain ⟨b3, k⟩ := k
    refine xe_iast dX12_layFit_21 kk695 (xKK_lt kk695) b3 ?_
    refine xe_iload dX12_layFit_22 rfl ?_
    refine xe_iload_n dX12_layFit_24 rfl ?_
    refine xe_icmp_ne (tgt := 31) dX12_layFit_25 rfl (fun c4 => ?_) (fun c5 => ?_)
    · have k := k.2 (fun q => (c4 q))
      refine xe_aload_n dX12_layFit_31 rfl ?_
      refine xe_iload dX12_layFit_32 rfl ?_
      refine xe_iload_n dX12_layFit_34 rfl ?_
      refine xe_callV (args := [.int i4, .int i1]) dX12_layFit_35 vlX12_544 rfl rfl (Nat.le_of_ble_eq_true rfl) kk655 (xKK_lt kk655) rfl rfl k (Nat.le_refl _) (fun rv6 u6 w6 r6 k => ?_)
      obtain ⟨rfl, rfl, rfl, k⟩ := k
      refine xe_iconst (v := 0) dX12_layFit_38 rfl ?_
      refine xe_istore (ls' := [some (.ref 655), some (.int i1), some (.int i2), some (.int i3), some (.int i4), some (.int (0 : Int32)), none]) dX12_layFit_39 (by decide) rfl ?_
      exact k
    · have k := k.1 c5
      refine xe_goto (tgt := 187) dX12_layFit_28 rfl ?_
      exact k

theorem TX12_layFit_187 {g : xGT} {d : Nat} {i1 i2 i3 i4 : Int32} {u : xU} {w : xW} {r : xQ} {P : xPost}
    (k : xEv g (d + 1) mX12_layFit 5 [some (.ref 655), some (.int i1), some (.int i2), some (.int i3), some (.int (i4 + (1 : Int32))), none, none] [] 698 u w r 698 P) :
    xEv g (d + 1) mX12_layFit 187 [some (.ref 655), some (.int i1), some (.int i2), some (.int i3), some (.int i4), none, none] [] 698 u w r 698 P := by
  refine xe_iinc (v := (i4 + (1 : Int32))) (ls' := [some (.ref 655), some (.int i1), some (.int i2), some (.int i3), some (.int (i4 + (1 : Int32))), none, none]) dX12_layFit_187 rfl (by decide) rfl rfl ?_
  refine xe_goto (tgt := 5) dX12_layFit_190 rfl ?_
  exact k

theorem TX12_layFit_41 {g : xGT} {d : Nat} {i1 i2 i3 i4 i5 : Int32} {u : xU} {w : xW} {r : xQ} {P : xPost} (hr : xRf r)
    (k : ((u 655 61) ≤ i5 → xEv g (d + 1) mX12_layFit 81 [some (.ref 655), some (.int i1), some (.int i2), some (.int i3), some (.int i4), some (.int (1 : Int32)), some (.int (0 : Int32))] [] 698 u w r 698 P) ∧ (¬ ((u 655 61) ≤ i5) → vp_in i4 7 ∧ (vp_in i5 20 ∧ (xEv g (d + 1) mX12_layFit 41 [some (.ref 655), some (.int i1), some (.int i2), some (.int i3), some (.int i4), some (.int (i5 + (1 : Int32))), none] [] 698 (x2 u 695 i4.toNatClampNeg ((u 695 i4.toNatClampNeg) ||| ((1 : Int32) <<< ((u 686 i5.toNatClampNeg) &&& 31)))) w r 698 P)))) :
    xEv g (d + 1) mX12_layFit 41 [some (.ref 655), some (.int i1), some (.int i2), some (.int i3), some (.int i4), some (.int i5), none] [] 698 u w r 698 P := by
  refine xe_iload dX12_layFit_41 rfl ?_
  refine xe_aload_n dX12_layFit_43 rfl ?_
  refine xe_getI dX12_layFit_44 flX12_433 kk655 (xKK_lt kk655) rfl ?_
  refine xe_icmp_ge (tgt := 75) dX12_layFit_47 rfl (fun c7 => ?_) (fun c8 => ?_)
  · have k := k.1 c7
    refine xe_iconst (v := 1) dX12_layFit_75 rfl ?_
    refine xe_istore (ls' := [some (.ref 655), some (.int i1), some (.int i2), some (.int i3), some (.int i4), some (.int (1 : Int32)), none]) dX12_layFit_76 (by decide) rfl ?_
    refine xe_iconst (v := 0) dX12_layFit_78 rfl ?_
    refine xe_istore (ls' := [some (.ref 655), some (.int i1), some (.int i2), some (.int i3), some (.int i4), some (.int (1 : Int32)), some (.int (0 : Int32))]) dX12_layFit_79 (by decide) rfl ?_
    exact k
  · have k := k.2 (fun q => (c8 q))
    refine xe_aload_n dX12_layFit_50 rfl ?_
    refine xe_getR (b := 695) dX12_layFit_51 flX12_136 kk655 (xKK_lt kk655) rfl (rf655_75 hr) ?_
    refine xe_iload dX12_layFit_54 rfl ?_
    refine xe_dup2 dX12_layFit_56 rfl rfl ?_
    obtain ⟨b9, k⟩ := k
    refine xe_iald dX12_layFit_57 kk695 (xKK_lt kk695) b9 ?_
    refine xe_iconst (v := 1) dX12_layFit_58 rfl ?_
    refine xe_aload_n dX12_layFit_59 rfl ?_
    refine xe_getR (b := 686) dX12_layFit_60 flX12_108 kk655 (xKK_lt kk655) rfl (rf655_60 hr) ?_
    refine xe_iload dX12_layFit_63 rfl ?_
    obtain ⟨b10, k⟩ := k
    refine xe_iald dX12_layFit_65 kk686 (xKK_lt kk686) b10 ?_
    refine xe_ishl dX12_layFit_66 ?_
    refine xe_ior dX12_layFit_67 ?_
    refine xe_iast dX12_layFit_68 kk695 (xKK_lt kk695) b9 ?_
    refine xe_iinc (v := (i5 + (1 : Int32))) (ls' := [some (.ref 655), some (.int i1), some (.int i2), some (.int i3), some (.int i4), some (.int (i5 + (1 : Int32))), none]) dX12_layFit_69 rfl (by decide) rfl rfl ?_
    refine xe_goto (tgt := 41) dX12_layFit_72 rfl ?_
    exact k

set_option maxRecDepth 20000 in
theorem TX12_layFit_81 {g : xGT} {d : Nat} {i1 i2 i3 i4 i5 i6 : Int32} {u : xU} {w : xW} {r : xQ} {P : xPost} (hr : xRf r)
    (k : ((¬ ((u 655 73) ≤ i6) ∧ ¬ (i5 = 0)) → vp_in i6 30 ∧ ((i2 < (u 692 i6.toNatClampNeg) → xEv g (d + 1) mX12_layFit 170 [some (.ref 655), some (.int i1), some (.int i2), some (.int i3), some (.int i4), some (.int i5), some (.int i6)] [] 698 u w r 698 P) ∧ (¬ (i2 < (u 692 i6.toNatClampNeg)) → (((u 693 i6.toNatClampNeg) < 0 ∨ ¬ ((u 693 i6.toNatClampNeg) ≤ i2)) → vp_in i4 7 ∧ (xEv g (d + 1) mX12_layFit 170 [some (.ref 655), some (.int i1), some (.int i2), some (.int i3), some (.int i4), some (.int (xb ((xb ((((u 695 i4.toNatClampNeg) >>> ((u 691 i6.toNatClampNeg) &&& 31)) &&& (1 : Int32)) = (1 : Int32))) = (u 694 i6.toNatClampNeg)))), some (.int i6)] [] 698 u w r 698 P)) ∧ (¬ ((u 693 i6.toNatClampNeg) < 0 ∨ ¬ ((u 693 i6.toNatClampNeg) ≤ i2)) → xEv g (d + 1) mX12_layFit 170 [some (.ref 655), some (.int i1), some (.int i2), some (.int i3), some (.int i4), some (.int i5), some (.int i6)] [] 698 u w r 698 P)))) ∧ (¬ (¬ ((u 655 73) ≤ i6) ∧ ¬ (i5 = 0)) → xCall g d mX12_truth [.int i5] 698 u w r 698 (fun rv31 u31 w31 r31 => ∃ v31 : Int32, rv31 = some (.int v31) ∧ u = u31 ∧ w = w31 ∧ r = r31 ∧ xEv g (d + 1) mX12_layFit 187 [some (.ref 655), some (.int i1), some (.int i2), some (.int (i3 ||| (v31 <<< (i4 &&& 31)))), some (.int i4), none, none] [] 698 u w r 698 P))) :
    xEv g (d + 1) mX12_layFit 81 [some (.ref 655), some (.int i1), some (.int i2), some (.int i3), some (.int i4), some (.int i5), some (.int i6)] [] 698 u w r 698 P := by
  refine xe_iload dX12_layFit_81 rfl ?_
  refine xe_aload_n dX12_layFit_83 rfl ?_
  refine xe_getI dX12_layFit_84 flX12_420 kk655 (xKK_lt kk655) rfl ?_
  have K32 : ¬ (¬ ((u 655 73) ≤ i6) ∧ ¬ (i5 = 0)) → xEv g (d + 1) mX12_layFit 176 [some (.ref 655), some (.int i1), some (.int i2), some (.int i3), some (.int i4), some (.int i5), some (.int i6)] [] 698 u w r 698 P := fun c33 => by
    have k := k.2 c33
    refine xe_iload_n dX12_layFit_176 rfl ?_
    refine xe_iload dX12_layFit_177 rfl ?_
    refine xe_callS (args := [.int i5]) dX12_layFit_179 slX12_317 rfl rfl (Nat.le_of_ble_eq_true rfl) k (Nat.le_refl _) (fun rv31 u31 w31 r31 k => ?_)
    obtain ⟨v31, rfl, rfl, rfl, rfl, k⟩ := k
    refine xe_iload dX12_layFit_182 rfl ?_
    refine xe_ishl dX12_layFit_184 ?_
    refine xe_ior dX12_layFit_185 ?_
    refine xe_istore_n (ls' := [some (.ref 655), some (.int i1), some (.int i2), some (.int (i3 ||| (v31 <<< (i4 &&& 31)))), some (.int i4), some (.int i5), some (.int i6)]) dX12_layFit_186 rfl (by decide) rfl ?_
    exact xEv.fewer (ls' := [some (.ref 655), some (.int i1), some (.int i2), some (.int (i3 ||| (v31 <<< (i4 &&& 31)))), some (.int i4), none, none]) k (xfw_get (xfw_s (xfw_s (xfw_s (xfw_s (xfw_s (xfw_n (xfw_n (xfw_nil _)))))))))
  refine xe_icmp_ge (tgt := 176) dX12_layFit_87 rfl (fun c11 => ?_) (fun c12 => ?_)
  · exact K32 (fun q => (q.1 c11))
  · refine xe_iload dX12_layFit_90 rfl ?_
    refine xe_if_eq (tgt := 176) dX12_layFit_92 rfl (fun c13 => ?_) (fun c14 => ?_)
    · exact K32 (fun q => (q.2 c13))
    · have k := k.1 ⟨c12, c14⟩
      refine xe_aload_n dX12_layFit_95 rfl ?_
      refine xe_getR (b := 692) dX12_layFit_96 flX12_126 kk655 (xKK_lt kk655) rfl (rf655_70 hr) ?_
      refine xe_iload dX12_layFit_99 rfl ?_
      obtain ⟨b15, k⟩ := k
      refine xe_iald dX12_layFit_101 kk692 (xKK_lt kk692) b15 ?_
      refine xe_iload_n dX12_layFit_102 rfl ?_
      refine xe_icmp_gt (tgt := 170) dX12_layFit_103 rfl (fun c16 => ?_) (fun c17 => ?_)
      · have k := k.1 c16
        exact k
      · have k := k.2 (fun q => (c17 q))
        refine xe_aload_n dX12_layFit_106 rfl ?_
        refine xe_getR (b := 693) dX12_layFit_107 flX12_129 kk655 (xKK_lt kk655) rfl (rf655_71 hr) ?_
        refine xe_iload dX12_layFit_110 rfl ?_
        refine xe_iald dX12_layFit_112 kk693 (xKK_lt kk693) b15 ?_
        have K29 : ((u 693 i6.toNatClampNeg) < 0 ∨ ¬ ((u 693 i6.toNatClampNeg) ≤ i2)) → xEv g (d + 1) mX12_layFit 127 [some (.ref 655), some (.int i1), some (.int i2), some (.int i3), some (.int i4), some (.int i5), some (.int i6)] [] 698 u w r 698 P := fun c30 => by
          have k := k.1 c30
          refine xe_aload_n dX12_layFit_127 rfl ?_
          refine xe_getR (b := 695) dX12_layFit_128 flX12_136 kk655 (xKK_lt kk655) rfl (rf655_75 hr) ?_
          refine xe_iload dX12_layFit_131 rfl ?_
          obtain ⟨b22, k⟩ := k
          refine xe_iald dX12_layFit_133 kk695 (xKK_lt kk695) b22 ?_
          refine xe_aload_n dX12_layFit_134 rfl ?_
          refine xe_getR (b := 691) dX12_layFit_135 flX12_123 kk655 (xKK_lt kk655) rfl (rf655_69 hr) ?_
          refine xe_iload dX12_layFit_138 rfl ?_
          refine xe_iald dX12_layFit_140 kk691 (xKK_lt kk691) b15 ?_
          refine xe_ishr dX12_layFit_141 ?_
          refine xe_iconst (v := 1) dX12_layFit_142 rfl ?_
          refine xe_iand dX12_layFit_143 ?_
          refine xe_iconst (v := 1) dX12_layFit_144 rfl ?_
          have K28 : xEv g (d + 1) mX12_layFit 153 [some (.ref 655), some (.int i1), some (.int i2), some (.int i3), some (.int i4), some (.int i5), some (.int i6)] [.int (xb ((((u 695 i4.toNatClampNeg) >>> ((u 691 i6.toNatClampNeg) &&& 31)) &&& (1 : Int32)) = (1 : Int32)))] 698 u w r 698 P := by
            refine xe_aload_n dX12_layFit_153 rfl ?_
            refine xe_getR (b := 694) dX12_layFit_154 flX12_132 kk655 (xKK_lt kk655) rfl (rf655_72 hr) ?_
            refine xe_iload dX12_layFit_157 rfl ?_
            refine xe_zald dX12_layFit_159 kk694 (xKK_lt kk694) b15 ?_
            have K27 : xEv g (d + 1) mX12_layFit 168 [some (.ref 655), some (.int i1), some (.int i2), some (.int i3), some (.int i4), some (.int i5), some (.int i6)] [.int (xb ((xb ((((u 695 i4.toNatClampNeg) >>> ((u 691 i6.toNatClampNeg) &&& 31)) &&& (1 : Int32)) = (1 : Int32))) = (u 694 i6.toNatClampNeg)))] 698 u w r 698 P := by
              refine xe_istore (ls' := [some (.ref 655), some (.int i1), some (.int i2), some (.int i3), some (.int i4), some (.int (xb ((xb ((((u 695 i4.toNatClampNeg) >>> ((u 691 i6.toNatClampNeg) &&& 31)) &&& (1 : Int32)) = (1 : Int32))) = (u 694 i6.toNatClampNeg)))), some (.int i6)]) dX12_layFit_168 (by decide) rfl ?_
              exact k
            refine xe_icmp_ne (tgt := 167) dX12_layFit_160 rfl (fun c25 => ?_) (fun c26 => ?_)
            · refine xe_iconst (v := 0) dX12_layFit_167 rfl ?_
              exact xtop (xb_neg (show ¬ ((xb ((((u 695 i4.toNatClampNeg) >>> ((u 691 i6.toNatClampNeg) &&& 31)) &&& (1 : Int32)) = (1 : Int32))) = (u 694 i6.toNatClampNeg)) from (fun q => (c25 q)))) K27
            · refine xe_iconst (v := 1) dX12_layFit_163 rfl ?_
              refine xe_goto (tgt := 168) dX12_layFit_164 rfl ?_
              exact xtop (xb_pos (show (xb ((((u 695 i4.toNatClampNeg) >>> ((u 691 i6.toNatClampNeg) &&& 31)) &&& (1 : Int32)) = (1 : Int32))) = (u 694 i6.toNatClampNeg) from c26)) K27
          refine xe_icmp_ne (tgt := 152) dX12_layFit_145 rfl (fun c23 => ?_) (fun c24 => ?_)
          · refine xe_iconst (v := 0) dX12_layFit_152 rfl ?_
            exact xtop (xb_neg (show ¬ ((((u 695 i4.toNatClampNeg) >>> ((u 691 i6.toNatClampNeg) &&& 31)) &&& (1 : Int32)) = (1 : Int32)) from (fun q => (c23 q)))) K28
          · refine xe_iconst (v := 1) dX12_layFit_148 rfl ?_
            refine xe_goto (tgt := 153) dX12_layFit_149 rfl ?_
            exact xtop (xb_pos (show (((u 695 i4.toNatClampNeg) >>> ((u 691 i6.toNatClampNeg) &&& 31)) &&& (1 : Int32)) = (1 : Int32) from c24)) K28
        refine xe_if_lt (tgt := 127) dX12_layFit_113 rfl (fun c18 => ?_) (fun c19 => ?_)
        · exact K29 (Or.inl c18)
        · refine xe_aload_n dX12_layFit_116 rfl ?_
          refine xe_getR (b := 693) dX12_layFit_117 flX12_129 kk655 (xKK_lt kk655) rfl (rf655_71 hr) ?_
          refine xe_iload dX12_layFit_120 rfl ?_
          refine xe_iald dX12_layFit_122 kk693 (xKK_lt kk693) b15 ?_
          refine xe_iload_n dX12_layFit_123 rfl ?_
          refine xe_icmp_le (tgt := 170) dX12_layFit_124 rfl (fun c20 => ?_) (fun c21 => ?_)
          · have k := k.2 (fun q => (q.elim (fun z => (c19 z)) (fun z => (z c20))))
            exact k
          · exact K29 (Or.inr c21)

theorem TX12_layFit_170 {g : xGT} {d : Nat} {i1 i2 i3 i4 i5 i6 : Int32} {u : xU} {w : xW} {r : xQ} {P : xPost}
    (k : xEv g (d + 1) mX12_layFit 81 [some (.ref 655), some (.int i1), some (.int i2), some (.int i3), some (.int i4), some (.int i5), some (.int (i6 + (1 : Int32)))] [] 698 u w r 698 P) :
    xEv g (d + 1) mX12_layFit 170 [some (.ref 655), some (.int i1), some (.int i2), some (.int i3), some (.int i4), some (.int i5), some (.int i6)] [] 698 u w r 698 P := by
  refine xe_iinc (v := (i6 + (1 : Int32))) (ls' := [some (.ref 655), some (.int i1), some (.int i2), some (.int i3), some (.int i4), some (.int i5), some (.int (i6 + (1 : Int32)))]) dX12_layFit_170 rfl (by decide) rfl rfl ?_
  refine xe_goto (tgt := 81) dX12_layFit_173 rfl ?_
  exact k

/-! FuneralPostModel.fit -/

theorem TX12_fit_0 {g : xGT} {d : Nat} {i1 i2 : Int32} {u : xU} {w : xW} {r : xQ} {P : xPost}
    (k : xCall g d mX12_isVillage [.ref 655, .int i1] 698 u w r 698 (fun rv1 u1 w1 r1 => ∃ v1 : Int32, rv1 = some (.int v1) ∧ u = u1 ∧ w = w1 ∧ r = r1 ∧ (v1 = 0 → P (some (.int (-1 : Int32))) u w r) ∧ (¬ (v1 = 0) → xCall g d mX12_layFit [.ref 655, .int i1, .int i2] 698 u w r 698 (fun rv4 u4 w4 r4 => ∃ v4 : Int32, rv4 = some (.int v4) ∧ w = w4 ∧ r = r4 ∧ P (some (.int v4)) u4 w r)))) :
    xEv g (d + 1) mX12_fit 0 [some (.ref 655), some (.int i1), some (.int i2)] [] 698 u w r 698 P := by
  refine xe_aload_n dX12_fit_0 rfl ?_
  refine xe_iload_n dX12_fit_1 rfl ?_
  refine xe_callV (args := [.int i1]) dX12_fit_2 vlX12_502 rfl rfl (Nat.le_of_ble_eq_true rfl) kk655 (xKK_lt kk655) rfl rfl k (Nat.le_refl _) (fun rv1 u1 w1 r1 k => ?_)
  obtain ⟨v1, rfl, rfl, rfl, rfl, k⟩ := k
  refine xe_if_eq (tgt := 17) dX12_fit_5 rfl (fun c2 => ?_) (fun c3 => ?_)
  · have k := k.1 c2
    refine xe_iconst (v := -1) dX12_fit_17 rfl ?_
    exact xe_ireturn dX12_fit_18 rfl k
  · have k := k.2 (fun q => (c3 q))
    refine xe_aload_n dX12_fit_8 rfl ?_
    refine xe_iload_n dX12_fit_9 rfl ?_
    refine xe_iload_n dX12_fit_10 rfl ?_
    refine xe_callV (args := [.int i1, .int i2]) dX12_fit_11 vlX12_551 rfl rfl (Nat.le_of_ble_eq_true rfl) kk655 (xKK_lt kk655) rfl rfl k (Nat.le_refl _) (fun rv4 u4 w4 r4 k => ?_)
    obtain ⟨v4, rfl, rfl, rfl, k⟩ := k
    refine xe_goto (tgt := 18) dX12_fit_14 rfl ?_
    exact xe_ireturn dX12_fit_18 rfl k

theorem CX12_fit {g : xGT} {d : Nat} {i1 i2 : Int32} {u : xU} {w : xW} {r : xQ} {P : xPost}
    (k : xCall g d mX12_isVillage [.ref 655, .int i1] 698 u w r 698 (fun rv1 u1 w1 r1 => ∃ v1 : Int32, rv1 = some (.int v1) ∧ u = u1 ∧ w = w1 ∧ r = r1 ∧ (v1 = 0 → P (some (.int (-1 : Int32))) u w r) ∧ (¬ (v1 = 0) → xCall g d mX12_layFit [.ref 655, .int i1, .int i2] 698 u w r 698 (fun rv4 u4 w4 r4 => ∃ v4 : Int32, rv4 = some (.int v4) ∧ w = w4 ∧ r = r4 ∧ P (some (.int v4)) u4 w r)))) :
    xCall g (d + 1) mX12_fit [.ref 655, .int i1, .int i2] 698 u w r 698 P :=
  xCall.of plX12 (Nat.le_of_ble_eq_true rfl) rfl (TX12_fit_0  k)

/-! FuneralPostModel.ask -/

theorem TX12_ask_0 {g : xGT} {d : Nat} {i1 i2 i3 : Int32} {u : xU} {w : xW} {r : xQ} {P : xPost}
    (k : xCall g d mX12_isVillage [.ref 655, .int i1] 698 u w r 698 (fun rv1 u1 w1 r1 => ∃ v1 : Int32, rv1 = some (.int v1) ∧ u = u1 ∧ w = w1 ∧ r = r1 ∧ (v1 = 0 → P (some (.int (-1 : Int32))) u w r) ∧ (¬ (v1 = 0) → xCall g d mX12_isIn [.int i2, .int (0 : Int32), .int (1 : Int32)] 698 u w r 698 (fun rv4 u4 w4 r4 => ∃ v4 : Int32, rv4 = some (.int v4) ∧ u = u4 ∧ w = w4 ∧ r = r4 ∧ (v4 = 0 → P (some (.int (-1 : Int32))) u w r) ∧ (¬ (v4 = 0) → xCall g d mX12_layFit [.ref 655, .int i1, .int i3] 698 u w r 698 (fun rv7 u7 w7 r7 => ∃ v7 : Int32, rv7 = some (.int v7) ∧ w = w7 ∧ r = r7 ∧ xCall g d mX12_members [.int v7] 698 u7 w r 698 (fun rv8 u8 w8 r8 => ∃ v8 : Int32, rv8 = some (.int v8) ∧ u7 = u8 ∧ w = w8 ∧ r = r8 ∧ xEv g (d + 1) mX12_ask 46 [some (.ref 655), none, some (.int i2), none, some (.int v7), some (.int v8), some (.int (-1 : Int32)), some (.int (v8 + (1 : Int32))), some (.int (0 : Int32)), none, none] [] 698 u7 w r 698 P))))))) :
    xEv g (d + 1) mX12_ask 0 [some (.ref 655), some (.int i1), some (.int i2), some (.int i3), none, none, none, none, none, none, none] [] 698 u w r 698 P := by
  refine xe_aload_n dX12_ask_0 rfl ?_
  refine xe_iload_n dX12_ask_1 rfl ?_
  refine xe_callV (args := [.int i1]) dX12_ask_2 vlX12_502 rfl rfl (Nat.le_of_ble_eq_true rfl) kk655 (xKK_lt kk655) rfl rfl k (Nat.le_refl _) (fun rv1 u1 w1 r1 k => ?_)
  obtain ⟨v1, rfl, rfl, rfl, rfl, k⟩ := k
  refine xe_if_eq (tgt := 17) dX12_ask_5 rfl (fun c2 => ?_) (fun c3 => ?_)
  · have k := k.1 c2
    refine xe_iconst (v := -1) dX12_ask_17 rfl ?_
    exact xe_ireturn dX12_ask_18 rfl k
  · have k := k.2 (fun q => (c3 q))
    refine xe_iload_n dX12_ask_8 rfl ?_
    refine xe_iconst (v := 0) dX12_ask_9 rfl ?_
    refine xe_iconst (v := 1) dX12_ask_10 rfl ?_
    refine xe_callS (args := [.int i2, .int (0 : Int32), .int (1 : Int32)]) dX12_ask_11 slX12_426 rfl rfl (Nat.le_of_ble_eq_true rfl) k (Nat.le_refl _) (fun rv4 u4 w4 r4 k => ?_)
    obtain ⟨v4, rfl, rfl, rfl, rfl, k⟩ := k
    refine xe_if_ne (tgt := 19) dX12_ask_14 rfl (fun c5 => ?_) (fun c6 => ?_)
    · have k := k.2 (fun q => (c5 q))
      refine xe_aload_n dX12_ask_19 rfl ?_
      refine xe_iload_n dX12_ask_20 rfl ?_
      refine xe_iload_n dX12_ask_21 rfl ?_
      refine xe_callV (args := [.int i1, .int i3]) dX12_ask_22 vlX12_551 rfl rfl (Nat.le_of_ble_eq_true rfl) kk655 (xKK_lt kk655) rfl rfl k (Nat.le_refl _) (fun rv7 u7 w7 r7 k => ?_)
      obtain ⟨v7, rfl, rfl, rfl, k⟩ := k
      refine xe_istore (ls' := [some (.ref 655), some (.int i1), some (.int i2), some (.int i3), some (.int v7), none, none, none, none, none, none]) dX12_ask_25 (by decide) rfl ?_
      refine xe_iload dX12_ask_27 rfl ?_
      refine xe_callS (args := [.int v7]) dX12_ask_29 slX12_535 rfl rfl (Nat.le_of_ble_eq_true rfl) k (Nat.le_refl _) (fun rv8 u8 w8 r8 k => ?_)
      obtain ⟨v8, rfl, rfl, rfl, rfl, k⟩ := k
      refine xe_istore (ls' := [some (.ref 655), some (.int i1), some (.int i2), some (.int i3), some (.int v7), some (.int v8), none, none, none, none, none]) dX12_ask_32 (by decide) rfl ?_
      refine xe_iconst (v := -1) dX12_ask_34 rfl ?_
      refine xe_istore (ls' := [some (.ref 655), some (.int i1), some (.int i2), some (.int i3), some (.int v7), some (.int v8), some (.int (-1 : Int32)), none, none, none, none]) dX12_ask_35 (by decide) rfl ?_
      refine xe_iload dX12_ask_37 rfl ?_
      refine xe_iconst (v := 1) dX12_ask_39 rfl ?_
      refine xe_iadd dX12_ask_40 ?_
      refine xe_istore (ls' := [some (.ref 655), some (.int i1), some (.int i2), some (.int i3), some (.int v7), some (.int v8), some (.int (-1 : Int32)), some (.int (v8 + (1 : Int32))), none, none, none]) dX12_ask_41 (by decide) rfl ?_
      refine xe_iconst (v := 0) dX12_ask_43 rfl ?_
      refine xe_istore (ls' := [some (.ref 655), some (.int i1), some (.int i2), some (.int i3), some (.int v7), some (.int v8), some (.int (-1 : Int32)), some (.int (v8 + (1 : Int32))), some (.int (0 : Int32)), none, none]) dX12_ask_44 (by decide) rfl ?_
      exact xEv.fewer (ls' := [some (.ref 655), none, some (.int i2), none, some (.int v7), some (.int v8), some (.int (-1 : Int32)), some (.int (v8 + (1 : Int32))), some (.int (0 : Int32)), none, none]) k (xfw_get (xfw_s (xfw_n (xfw_s (xfw_n (xfw_s (xfw_s (xfw_s (xfw_s (xfw_s (xfw_n (xfw_n (xfw_nil _)))))))))))))
    · have k := k.1 c6
      refine xe_iconst (v := -1) dX12_ask_17 rfl ?_
      exact xe_ireturn dX12_ask_18 rfl k

theorem CX12_ask {g : xGT} {d : Nat} {i1 i2 i3 : Int32} {u : xU} {w : xW} {r : xQ} {P : xPost}
    (k : xCall g d mX12_isVillage [.ref 655, .int i1] 698 u w r 698 (fun rv1 u1 w1 r1 => ∃ v1 : Int32, rv1 = some (.int v1) ∧ u = u1 ∧ w = w1 ∧ r = r1 ∧ (v1 = 0 → P (some (.int (-1 : Int32))) u w r) ∧ (¬ (v1 = 0) → xCall g d mX12_isIn [.int i2, .int (0 : Int32), .int (1 : Int32)] 698 u w r 698 (fun rv4 u4 w4 r4 => ∃ v4 : Int32, rv4 = some (.int v4) ∧ u = u4 ∧ w = w4 ∧ r = r4 ∧ (v4 = 0 → P (some (.int (-1 : Int32))) u w r) ∧ (¬ (v4 = 0) → xCall g d mX12_layFit [.ref 655, .int i1, .int i3] 698 u w r 698 (fun rv7 u7 w7 r7 => ∃ v7 : Int32, rv7 = some (.int v7) ∧ w = w7 ∧ r = r7 ∧ xCall g d mX12_members [.int v7] 698 u7 w r 698 (fun rv8 u8 w8 r8 => ∃ v8 : Int32, rv8 = some (.int v8) ∧ u7 = u8 ∧ w = w8 ∧ r = r8 ∧ xEv g (d + 1) mX12_ask 46 [some (.ref 655), none, some (.int i2), none, some (.int v7), some (.int v8), some (.int (-1 : Int32)), some (.int (v8 + (1 : Int32))), some (.int (0 : Int32)), none, none] [] 698 u7 w r 698 P))))))) :
    xCall g (d + 1) mX12_ask [.ref 655, .int i1, .int i2, .int i3] 698 u w r 698 P :=
  xCall.of plX12 (Nat.le_of_ble_eq_true rfl) rfl (TX12_ask_0  k)

theorem TX12_ask_46 {g : xGT} {d : Nat} {i2 i4 i5 i6 i7 i8 : Int32} {u : xU} {w : xW} {r : xQ} {P : xPost}
    (k : ((¬ ((u 655 51) ≤ i8) ∧ ¬ (i5 ≤ 0)) → xEv g (d + 1) mX12_ask 66 [some (.ref 655), none, some (.int i2), none, some (.int i4), some (.int i5), some (.int i6), some (.int i7), some (.int i8), some (.int (0 : Int32)), some (.int (0 : Int32))] [] 698 u w r 698 P) ∧ (¬ (¬ ((u 655 51) ≤ i8) ∧ ¬ (i5 ≤ 0)) → (0 ≤ i6 → (i2 = 0 → P (some (.int i6)) u w r) ∧ (¬ (i2 = 0) → P (some (.int i7)) u w r)) ∧ (¬ (0 ≤ i6) → P (some (.int (-1 : Int32))) u w r))) :
    xEv g (d + 1) mX12_ask 46 [some (.ref 655), none, some (.int i2), none, some (.int i4), some (.int i5), some (.int i6), some (.int i7), some (.int i8), none, none] [] 698 u w r 698 P := by
  refine xe_iload dX12_ask_46 rfl ?_
  refine xe_aload_n dX12_ask_48 rfl ?_
  refine xe_getI dX12_ask_49 flX12_401 kk655 (xKK_lt kk655) rfl ?_
  have K17 : ¬ (¬ ((u 655 51) ≤ i8) ∧ ¬ (i5 ≤ 0)) → xEv g (d + 1) mX12_ask 167 [some (.ref 655), none, some (.int i2), none, some (.int i4), some (.int i5), some (.int i6), some (.int i7), some (.int i8), none, none] [] 698 u w r 698 P := fun c18 => by
    have k := k.2 c18
    refine xe_iload dX12_ask_167 rfl ?_
    refine xe_if_ge (tgt := 176) dX12_ask_169 rfl (fun c13 => ?_) (fun c14 => ?_)
    · have k := k.1 c13
      refine xe_iload_n dX12_ask_176 rfl ?_
      refine xe_if_ne (tgt := 185) dX12_ask_177 rfl (fun c15 => ?_) (fun c16 => ?_)
      · have k := k.2 (fun q => (c15 q))
        refine xe_iload dX12_ask_185 rfl ?_
        exact xe_ireturn dX12_ask_187 rfl k
      · have k := k.1 c16
        refine xe_iload dX12_ask_180 rfl ?_
        refine xe_goto (tgt := 187) dX12_ask_182 rfl ?_
        exact xe_ireturn dX12_ask_187 rfl k
    · have k := k.2 (fun q => (c14 q))
      refine xe_iconst (v := -1) dX12_ask_172 rfl ?_
      refine xe_goto (tgt := 187) dX12_ask_173 rfl ?_
      exact xe_ireturn dX12_ask_187 rfl k
  refine xe_icmp_ge (tgt := 167) dX12_ask_52 rfl (fun c9 => ?_) (fun c10 => ?_)
  · exact K17 (fun q => (q.1 c9))
  · refine xe_iload dX12_ask_55 rfl ?_
    refine xe_if_le (tgt := 167) dX12_ask_57 rfl (fun c11 => ?_) (fun c12 => ?_)
    · exact K17 (fun q => (q.2 c11))
    · have k := k.1 ⟨c10, c12⟩
      refine xe_iconst (v := 0) dX12_ask_60 rfl ?_
      refine xe_istore (ls' := [some (.ref 655), none, some (.int i2), none, some (.int i4), some (.int i5), some (.int i6), some (.int i7), some (.int i8), some (.int (0 : Int32)), none]) dX12_ask_61 (by decide) rfl ?_
      refine xe_iconst (v := 0) dX12_ask_63 rfl ?_
      refine xe_istore (ls' := [some (.ref 655), none, some (.int i2), none, some (.int i4), some (.int i5), some (.int i6), some (.int i7), some (.int i8), some (.int (0 : Int32)), some (.int (0 : Int32))]) dX12_ask_64 (by decide) rfl ?_
      exact k

set_option maxRecDepth 20000 in
theorem TX12_ask_66 {g : xGT} {d : Nat} {i2 i4 i5 i6 i7 i8 i9 i10 : Int32} {u : xU} {w : xW} {r : xQ} {P : xPost} (hr : xRf r)
    (k : ((u 655 49) ≤ i10 → ((if i9 ≤ (i5 - i9) then (i5 - i9) else i9) < i7 → xEv g (d + 1) mX12_ask 161 [some (.ref 655), none, some (.int i2), none, some (.int i4), some (.int i5), some (.int i8), some (.int (if i9 ≤ (i5 - i9) then (i5 - i9) else i9)), some (.int i8), none, none] [] 698 u w r 698 P) ∧ (¬ ((if i9 ≤ (i5 - i9) then (i5 - i9) else i9) < i7) → xEv g (d + 1) mX12_ask 161 [some (.ref 655), none, some (.int i2), none, some (.int i4), some (.int i5), some (.int i6), some (.int i7), some (.int i8), none, none] [] 698 u w r 698 P)) ∧ (¬ ((u 655 49) ≤ i10) → (((i4 >>> (i10 &&& 31)) &&& (1 : Int32)) = (1 : Int32) → vp_in i10 7) ∧ (xCall g d mX12_truth [.int (xb (((i4 >>> (i10 &&& 31)) &&& (1 : Int32)) = (1 : Int32) ∧ (((u 695 i10.toNatClampNeg) >>> (i8 &&& 31)) &&& (1 : Int32)) = (1 : Int32)))] 698 u w r 698 (fun rv31 u31 w31 r31 => ∃ v31 : Int32, rv31 = some (.int v31) ∧ u = u31 ∧ w = w31 ∧ r = r31 ∧ xEv g (d + 1) mX12_ask 66 [some (.ref 655), none, some (.int i2), none, some (.int i4), some (.int i5), some (.int i6), some (.int i7), some (.int i8), some (.int (i9 + v31)), some (.int (i10 + (1 : Int32)))] [] 698 u w r 698 P)))) :
    xEv g (d + 1) mX12_ask 66 [some (.ref 655), none, some (.int i2), none, some (.int i4), some (.int i5), some (.int i6), some (.int i7), some (.int i8), some (.int i9), some (.int i10)] [] 698 u w r 698 P := by
  refine xe_iload dX12_ask_66 rfl ?_
  refine xe_aload_n dX12_ask_68 rfl ?_
  refine xe_getI dX12_ask_69 flX12_395 kk655 (xKK_lt kk655) rfl ?_
  refine xe_icmp_ge (tgt := 121) dX12_ask_72 rfl (fun c19 => ?_) (fun c20 => ?_)
  · have k := k.1 c19
    refine xe_iload dX12_ask_121 rfl ?_
    refine xe_iload dX12_ask_123 rfl ?_
    refine xe_iload dX12_ask_125 rfl ?_
    refine xe_isub dX12_ask_127 ?_
    have K25 : xEv g (d + 1) mX12_ask 141 [some (.ref 655), none, some (.int i2), none, some (.int i4), some (.int i5), some (.int i6), some (.int i7), some (.int i8), some (.int i9), some (.int i10)] [.int (if i9 ≤ (i5 - i9) then (i5 - i9) else i9)] 698 u w r 698 P := by
      refine xe_istore (ls' := [some (.ref 655), none, some (.int i2), none, some (.int i4), some (.int i5), some (.int i6), some (.int i7), some (.int i8), some (.int i9), some (.int (if i9 ≤ (i5 - i9) then (i5 - i9) else i9))]) dX12_ask_141 (by decide) rfl ?_
      refine xe_iload dX12_ask_143 rfl ?_
      refine xe_iload dX12_ask_145 rfl ?_
      refine xe_icmp_lt (tgt := 153) dX12_ask_147 rfl (fun c23 => ?_) (fun c24 => ?_)
      · have k := k.1 c23
        refine xe_iload dX12_ask_153 rfl ?_
        refine xe_istore (ls' := [some (.ref 655), none, some (.int i2), none, some (.int i4), some (.int i5), some (.int i8), some (.int i7), some (.int i8), some (.int i9), some (.int (if i9 ≤ (i5 - i9) then (i5 - i9) else i9))]) dX12_ask_155 (by decide) rfl ?_
        refine xe_iload dX12_ask_157 rfl ?_
        refine xe_istore (ls' := [some (.ref 655), none, some (.int i2), none, some (.int i4), some (.int i5), some (.int i8), some (.int (if i9 ≤ (i5 - i9) then (i5 - i9) else i9)), some (.int i8), some (.int i9), some (.int (if i9 ≤ (i5 - i9) then (i5 - i9) else i9))]) dX12_ask_159 (by decide) rfl ?_
        exact xEv.fewer (ls' := [some (.ref 655), none, some (.int i2), none, some (.int i4), some (.int i5), some (.int i8), some (.int (if i9 ≤ (i5 - i9) then (i5 - i9) else i9)), some (.int i8), none, none]) k (xfw_get (xfw_s (xfw_n (xfw_s (xfw_n (xfw_s (xfw_s (xfw_s (xfw_s (xfw_s (xfw_n (xfw_n (xfw_nil _)))))))))))))
      · have k := k.2 (fun q => (c24 q))
        refine xe_goto (tgt := 161) dX12_ask_150 rfl ?_
        exact xEv.fewer (ls' := [some (.ref 655), none, some (.int i2), none, some (.int i4), some (.int i5), some (.int i6), some (.int i7), some (.int i8), none, none]) k (xfw_get (xfw_s (xfw_n (xfw_s (xfw_n (xfw_s (xfw_s (xfw_s (xfw_s (xfw_s (xfw_n (xfw_n (xfw_nil _)))))))))))))
    refine xe_icmp_le (tgt := 136) dX12_ask_128 rfl (fun c21 => ?_) (fun c22 => ?_)
    · refine xe_iload dX12_ask_136 rfl ?_
      refine xe_iload dX12_ask_138 rfl ?_
      refine xe_isub dX12_ask_140 ?_
      exact xtop (if_pos c21) K25
    · refine xe_iload dX12_ask_131 rfl ?_
      refine xe_goto (tgt := 141) dX12_ask_133 rfl ?_
      exact xtop (if_neg (fun q => (c22 q))) K25
  · have k := k.2 (fun q => (c20 q))
    refine xe_iload dX12_ask_75 rfl ?_
    refine xe_iload dX12_ask_77 rfl ?_
    refine xe_iload dX12_ask_79 rfl ?_
    refine xe_ishr dX12_ask_81 ?_
    refine xe_iconst (v := 1) dX12_ask_82 rfl ?_
    refine xe_iand dX12_ask_83 ?_
    refine xe_iconst (v := 1) dX12_ask_84 rfl ?_
    obtain ⟨b28, k⟩ := k
    have K32 : xEv g (d + 1) mX12_ask 109 [some (.ref 655), none, some (.int i2), none, some (.int i4), some (.int i5), some (.int i6), some (.int i7), some (.int i8), some (.int i9), some (.int i10)] [.int (xb (((i4 >>> (i10 &&& 31)) &&& (1 : Int32)) = (1 : Int32) ∧ (((u 695 i10.toNatClampNeg) >>> (i8 &&& 31)) &&& (1 : Int32)) = (1 : Int32))), .int i9] 698 u w r 698 P := by
      refine xe_callS (args := [.int (xb (((i4 >>> (i10 &&& 31)) &&& (1 : Int32)) = (1 : Int32) ∧ (((u 695 i10.toNatClampNeg) >>> (i8 &&& 31)) &&& (1 : Int32)) = (1 : Int32)))]) dX12_ask_109 slX12_317 rfl rfl (Nat.le_of_ble_eq_true rfl) k (Nat.le_refl _) (fun rv31 u31 w31 r31 k => ?_)
      obtain ⟨v31, rfl, rfl, rfl, rfl, k⟩ := k
      refine xe_iadd dX12_ask_112 ?_
      refine xe_istore (ls' := [some (.ref 655), none, some (.int i2), none, some (.int i4), some (.int i5), some (.int i6), some (.int i7), some (.int i8), some (.int (i9 + v31)), some (.int i10)]) dX12_ask_113 (by decide) rfl ?_
      refine xe_iinc (v := (i10 + (1 : Int32))) (ls' := [some (.ref 655), none, some (.int i2), none, some (.int i4), some (.int i5), some (.int i6), some (.int i7), some (.int i8), some (.int (i9 + v31)), some (.int (i10 + (1 : Int32)))]) dX12_ask_115 rfl (by decide) rfl rfl ?_
      refine xe_goto (tgt := 66) dX12_ask_118 rfl ?_
      exact k
    refine xe_icmp_ne (tgt := 108) dX12_ask_85 rfl (fun c26 => ?_) (fun c27 => ?_)
    · refine xe_iconst (v := 0) dX12_ask_108 rfl ?_
      exact xtop (xb_neg (show ¬ (((i4 >>> (i10 &&& 31)) &&& (1 : Int32)) = (1 : Int32) ∧ (((u 695 i10.toNatClampNeg) >>> (i8 &&& 31)) &&& (1 : Int32)) = (1 : Int32)) from (fun q => (c26 q.1)))) K32
    · refine xe_aload_n dX12_ask_88 rfl ?_
      refine xe_getR (b := 695) dX12_ask_89 flX12_136 kk655 (xKK_lt kk655) rfl (rf655_75 hr) ?_
      refine xe_iload dX12_ask_92 rfl ?_
      refine xe_iald dX12_ask_94 kk695 (xKK_lt kk695) (b28 c27) ?_
      refine xe_iload dX12_ask_95 rfl ?_
      refine xe_ishr dX12_ask_97 ?_
      refine xe_iconst (v := 1) dX12_ask_98 rfl ?_
      refine xe_iand dX12_ask_99 ?_
      refine xe_iconst (v := 1) dX12_ask_100 rfl ?_
      refine xe_icmp_ne (tgt := 108) dX12_ask_101 rfl (fun c29 => ?_) (fun c30 => ?_)
      · refine xe_iconst (v := 0) dX12_ask_108 rfl ?_
        exact xtop (xb_neg (show ¬ (((i4 >>> (i10 &&& 31)) &&& (1 : Int32)) = (1 : Int32) ∧ (((u 695 i10.toNatClampNeg) >>> (i8 &&& 31)) &&& (1 : Int32)) = (1 : Int32)) from (fun q => (c29 q.2)))) K32
      · refine xe_iconst (v := 1) dX12_ask_104 rfl ?_
        refine xe_goto (tgt := 109) dX12_ask_105 rfl ?_
        exact xtop (xb_pos (show (((i4 >>> (i10 &&& 31)) &&& (1 : Int32)) = (1 : Int32) ∧ (((u 695 i10.toNatClampNeg) >>> (i8 &&& 31)) &&& (1 : Int32)) = (1 : Int32)) from ⟨c27, c30⟩)) K32

theorem TX12_ask_161 {g : xGT} {d : Nat} {i2 i4 i5 i6 i7 i8 : Int32} {u : xU} {w : xW} {r : xQ} {P : xPost}
    (k : xEv g (d + 1) mX12_ask 46 [some (.ref 655), none, some (.int i2), none, some (.int i4), some (.int i5), some (.int i6), some (.int i7), some (.int (i8 + (1 : Int32))), none, none] [] 698 u w r 698 P) :
    xEv g (d + 1) mX12_ask 161 [some (.ref 655), none, some (.int i2), none, some (.int i4), some (.int i5), some (.int i6), some (.int i7), some (.int i8), none, none] [] 698 u w r 698 P := by
  refine xe_iinc (v := (i8 + (1 : Int32))) (ls' := [some (.ref 655), none, some (.int i2), none, some (.int i4), some (.int i5), some (.int i6), some (.int i7), some (.int (i8 + (1 : Int32))), none, none]) dX12_ask_161 rfl (by decide) rfl rfl ?_
  refine xe_goto (tgt := 46) dX12_ask_164 rfl ?_
  exact k

/-! FuneralPostModel.isBox -/

theorem TX12_isBox_0 {g : xGT} {d : Nat} {i0 : Int32} {u : xU} {w : xW} {r : xQ} {P : xPost}
    (k : P (some (.int (xb (¬ (i0 < 0) ∧ ¬ ((3 : Int32) ≤ i0))))) u w r) :
    xEv g d mX12_isBox 0 [some (.int i0)] [] 698 u w r 698 P := by
  refine xe_iload_n dX12_isBox_0 rfl ?_
  have K5 : xEv g d mX12_isBox 14 [some (.int i0)] [.int (xb (¬ (i0 < 0) ∧ ¬ ((3 : Int32) ≤ i0)))] 698 u w r 698 P := by
    exact xe_ireturn dX12_isBox_14 (xrokZ (xb01 _)) k
  refine xe_if_lt (tgt := 13) dX12_isBox_1 rfl (fun c1 => ?_) (fun c2 => ?_)
  · refine xe_iconst (v := 0) dX12_isBox_13 rfl ?_
    exact xtop (xb_neg (show ¬ (¬ (i0 < 0) ∧ ¬ ((3 : Int32) ≤ i0)) from (fun q => (q.1 c1)))) K5
  · refine xe_iload_n dX12_isBox_4 rfl ?_
    refine xe_iconst (v := 3) dX12_isBox_5 rfl ?_
    refine xe_icmp_ge (tgt := 13) dX12_isBox_6 rfl (fun c3 => ?_) (fun c4 => ?_)
    · refine xe_iconst (v := 0) dX12_isBox_13 rfl ?_
      exact xtop (xb_neg (show ¬ (¬ (i0 < 0) ∧ ¬ ((3 : Int32) ≤ i0)) from (fun q => (q.2 c3)))) K5
    · refine xe_iconst (v := 1) dX12_isBox_9 rfl ?_
      refine xe_goto (tgt := 14) dX12_isBox_10 rfl ?_
      exact xtop (xb_pos (show (¬ (i0 < 0) ∧ ¬ ((3 : Int32) ≤ i0)) from ⟨c2, c4⟩)) K5

theorem CX12_isBox {g : xGT} {d : Nat} {i0 : Int32} {u : xU} {w : xW} {r : xQ} {P : xPost}
    (k : P (some (.int (xb (¬ (i0 < 0) ∧ ¬ ((3 : Int32) ≤ i0))))) u w r) :
    xCall g d mX12_isBox [.int i0] 698 u w r 698 P :=
  xCall.of plX12 (Nat.le_of_ble_eq_true rfl) rfl (TX12_isBox_0  k)

/-! FuneralPostModel.image -/

theorem TX12_image_0 {g : xGT} {d : Nat} {i1 : Int32} {u : xU} {w : xW} {r : xQ} {P : xPost} (hr : xRf r)
    (k : xCall g d mX12_isBox [.int i1] 698 u w r 698 (fun rv1 u1 w1 r1 => ∃ v1 : Int32, rv1 = some (.int v1) ∧ u = u1 ∧ w = w1 ∧ r = r1 ∧ (v1 = 0 → P (some (.int (-1 : Int32))) u w r) ∧ (¬ (v1 = 0) → vp_in i1 3 ∧ (xEv g (d + 1) mX12_image 18 [some (.ref 655), some (.int i1), some (.int (0 : Int32))] [] 698 (x2 u 696 i1.toNatClampNeg (1 : Int32)) w r 698 P)))) :
    xEv g (d + 1) mX12_image 0 [some (.ref 655), some (.int i1), none] [] 698 u w r 698 P := by
  refine xe_iload_n dX12_image_0 rfl ?_
  refine xe_callS (args := [.int i1]) dX12_image_1 slX12_554 rfl rfl (Nat.le_of_ble_eq_true rfl) k (Nat.le_refl _) (fun rv1 u1 w1 r1 k => ?_)
  obtain ⟨v1, rfl, rfl, rfl, rfl, k⟩ := k
  refine xe_if_ne (tgt := 9) dX12_image_4 rfl (fun c2 => ?_) (fun c3 => ?_)
  · have k := k.2 (fun q => (c2 q))
    refine xe_aload_n dX12_image_9 rfl ?_
    refine xe_getR (b := 696) dX12_image_10 flX12_139 kk655 (xKK_lt kk655) rfl (rf655_76 hr) ?_
    refine xe_iload_n dX12_image_13 rfl ?_
    refine xe_iconst (v := 1) dX12_image_14 rfl ?_
    obtain ⟨b4, k⟩ := k
    refine xe_zast dX12_image_15 kk696 (xKK_lt kk696) b4 (Or.inr rfl) ?_
    refine xe_iconst (v := 0) dX12_image_16 rfl ?_
    refine xe_istore_n (ls' := [some (.ref 655), some (.int i1), some (.int (0 : Int32))]) dX12_image_17 rfl (by decide) rfl ?_
    exact k
  · have k := k.1 c3
    refine xe_iconst (v := -1) dX12_image_7 rfl ?_
    exact xe_ireturn dX12_image_8 rfl k

theorem CX12_image {g : xGT} {d : Nat} {i1 : Int32} {u : xU} {w : xW} {r : xQ} {P : xPost} (hr : xRf r)
    (k : xCall g d mX12_isBox [.int i1] 698 u w r 698 (fun rv1 u1 w1 r1 => ∃ v1 : Int32, rv1 = some (.int v1) ∧ u = u1 ∧ w = w1 ∧ r = r1 ∧ (v1 = 0 → P (some (.int (-1 : Int32))) u w r) ∧ (¬ (v1 = 0) → vp_in i1 3 ∧ (xEv g (d + 1) mX12_image 18 [some (.ref 655), some (.int i1), some (.int (0 : Int32))] [] 698 (x2 u 696 i1.toNatClampNeg (1 : Int32)) w r 698 P)))) :
    xCall g (d + 1) mX12_image [.ref 655, .int i1] 698 u w r 698 P :=
  xCall.of plX12 (Nat.le_of_ble_eq_true rfl) rfl (TX12_image_0 hr k)

theorem TX12_image_18 {g : xGT} {d : Nat} {i1 i2 : Int32} {u : xU} {w : xW} {r : xQ} {P : xPost} (hr : xRf r)
    (k : ((91 : Int32) ≤ i2 → P (some (.int (u 683 90))) u w r) ∧ (¬ ((91 : Int32) ≤ i2) → vp_in i2 92 ∧ (vp_in (((92 : Int32) * i1) + i2) 276 ∧ (xEv g (d + 1) mX12_image 18 [some (.ref 655), some (.int i1), some (.int (i2 + (1 : Int32)))] [] 698 (x2 u 697 (((92 : Int32) * i1) + i2).toNatClampNeg (u 683 i2.toNatClampNeg)) w r 698 P)))) :
    xEv g (d + 1) mX12_image 18 [some (.ref 655), some (.int i1), some (.int i2)] [] 698 u w r 698 P := by
  refine xe_iload_n dX12_image_18 rfl ?_
  refine xe_bipush (v := 91) dX12_image_19 rfl ?_
  refine xe_icmp_ge (tgt := 47) dX12_image_21 rfl (fun c5 => ?_) (fun c6 => ?_)
  · have k := k.1 c5
    refine xe_aload_n dX12_image_47 rfl ?_
    refine xe_getR (b := 683) dX12_image_48 flX12_99 kk655 (xKK_lt kk655) rfl (rf655_57 hr) ?_
    refine xe_bipush (v := 90) dX12_image_51 rfl ?_
    refine xe_iald dX12_image_53 kk683 (xKK_lt kk683) (show ¬ ((90 : Int32) < 0 ∨ 92 ≤ (90 : Int32).toNatClampNeg) from by decide) ?_
    exact xe_ireturn dX12_image_54 rfl k
  · have k := k.2 (fun q => (c6 q))
    refine xe_aload_n dX12_image_24 rfl ?_
    refine xe_getR (b := 697) dX12_image_25 flX12_142 kk655 (xKK_lt kk655) rfl (rf655_77 hr) ?_
    refine xe_bipush (v := 92) dX12_image_28 rfl ?_
    refine xe_iload_n dX12_image_30 rfl ?_
    refine xe_imul dX12_image_31 ?_
    refine xe_iload_n dX12_image_32 rfl ?_
    refine xe_iadd dX12_image_33 ?_
    refine xe_aload_n dX12_image_34 rfl ?_
    refine xe_getR (b := 683) dX12_image_35 flX12_99 kk655 (xKK_lt kk655) rfl (rf655_57 hr) ?_
    refine xe_iload_n dX12_image_38 rfl ?_
    obtain ⟨b7, k⟩ := k
    refine xe_iald dX12_image_39 kk683 (xKK_lt kk683) b7 ?_
    obtain ⟨b8, k⟩ := k
    refine xe_iast dX12_image_40 kk697 (xKK_lt kk697) b8 ?_
    refine xe_iinc (v := (i2 + (1 : Int32))) (ls' := [some (.ref 655), some (.int i1), some (.int (i2 + (1 : Int32)))]) dX12_image_41 rfl (by decide) rfl rfl ?_
    refine xe_goto (tgt := 18) dX12_image_44 rfl ?_
    exact k

/-! FuneralPostModel.back -/

theorem TX12_back_0 {g : xGT} {d : Nat} {i1 : Int32} {u : xU} {w : xW} {r : xQ} {P : xPost} (hr : xRf r)
    (k : xCall g d mX12_isBox [.int i1] 698 u w r 698 (fun rv1 u1 w1 r1 => ∃ v1 : Int32, rv1 = some (.int v1) ∧ u = u1 ∧ w = w1 ∧ r = r1 ∧ (¬ (v1 = 0) → vp_in i1 3) ∧ (((v1 = 0 ∨ (u 696 i1.toNatClampNeg) = 0) → P (some (.int (-1 : Int32))) u w r) ∧ (¬ (v1 = 0 ∨ (u 696 i1.toNatClampNeg) = 0) → xEv g (d + 1) mX12_back 20 [some (.ref 655), some (.int i1), some (.int (0 : Int32))] [] 698 u w r 698 P)))) :
    xEv g (d + 1) mX12_back 0 [some (.ref 655), some (.int i1), none] [] 698 u w r 698 P := by
  refine xe_iload_n dX12_back_0 rfl ?_
  refine xe_callS (args := [.int i1]) dX12_back_1 slX12_554 rfl rfl (Nat.le_of_ble_eq_true rfl) k (Nat.le_refl _) (fun rv1 u1 w1 r1 k => ?_)
  obtain ⟨v1, rfl, rfl, rfl, rfl, k⟩ := k
  obtain ⟨b4, k⟩ := k
  have K7 : (v1 = 0 ∨ (u 696 i1.toNatClampNeg) = 0) → xEv g (d + 1) mX12_back 16 [some (.ref 655), some (.int i1), none] [] 698 u w r 698 P := fun c8 => by
    have k := k.1 c8
    refine xe_iconst (v := -1) dX12_back_16 rfl ?_
    exact xe_ireturn dX12_back_17 rfl k
  refine xe_if_eq (tgt := 16) dX12_back_4 rfl (fun c2 => ?_) (fun c3 => ?_)
  · exact K7 (Or.inl c2)
  · refine xe_aload_n dX12_back_7 rfl ?_
    refine xe_getR (b := 696) dX12_back_8 flX12_139 kk655 (xKK_lt kk655) rfl (rf655_76 hr) ?_
    refine xe_iload_n dX12_back_11 rfl ?_
    refine xe_zald dX12_back_12 kk696 (xKK_lt kk696) (b4 c3) ?_
    refine xe_if_ne (tgt := 18) dX12_back_13 rfl (fun c5 => ?_) (fun c6 => ?_)
    · have k := k.2 (fun q => (q.elim (fun z => (c3 z)) (fun z => (c5 z))))
      refine xe_iconst (v := 0) dX12_back_18 rfl ?_
      refine xe_istore_n (ls' := [some (.ref 655), some (.int i1), some (.int (0 : Int32))]) dX12_back_19 rfl (by decide) rfl ?_
      exact k
    · exact K7 (Or.inr c6)

theorem CX12_back {g : xGT} {d : Nat} {i1 : Int32} {u : xU} {w : xW} {r : xQ} {P : xPost} (hr : xRf r)
    (k : xCall g d mX12_isBox [.int i1] 698 u w r 698 (fun rv1 u1 w1 r1 => ∃ v1 : Int32, rv1 = some (.int v1) ∧ u = u1 ∧ w = w1 ∧ r = r1 ∧ (¬ (v1 = 0) → vp_in i1 3) ∧ (((v1 = 0 ∨ (u 696 i1.toNatClampNeg) = 0) → P (some (.int (-1 : Int32))) u w r) ∧ (¬ (v1 = 0 ∨ (u 696 i1.toNatClampNeg) = 0) → xEv g (d + 1) mX12_back 20 [some (.ref 655), some (.int i1), some (.int (0 : Int32))] [] 698 u w r 698 P)))) :
    xCall g (d + 1) mX12_back [.ref 655, .int i1] 698 u w r 698 P :=
  xCall.of plX12 (Nat.le_of_ble_eq_true rfl) rfl (TX12_back_0 hr k)

theorem TX12_back_20 {g : xGT} {d : Nat} {i1 i2 : Int32} {u : xU} {w : xW} {r : xQ} {P : xPost} (hr : xRf r)
    (k : ((91 : Int32) ≤ i2 → P (some (.int (u 683 90))) (x2 (x2 u 655 63 (0 : Int32)) 655 64 (0 : Int32)) w r) ∧ (¬ ((91 : Int32) ≤ i2) → vp_in (((92 : Int32) * i1) + i2) 276 ∧ (vp_in i2 92 ∧ (xEv g (d + 1) mX12_back 20 [some (.ref 655), some (.int i1), some (.int (i2 + (1 : Int32)))] [] 698 (x2 u 683 i2.toNatClampNeg (u 697 (((92 : Int32) * i1) + i2).toNatClampNeg)) w r 698 P)))) :
    xEv g (d + 1) mX12_back 20 [some (.ref 655), some (.int i1), some (.int i2)] [] 698 u w r 698 P := by
  refine xe_iload_n dX12_back_20 rfl ?_
  refine xe_bipush (v := 91) dX12_back_21 rfl ?_
  refine xe_icmp_ge (tgt := 49) dX12_back_23 rfl (fun c9 => ?_) (fun c10 => ?_)
  · have k := k.1 c9
    refine xe_aload_n dX12_back_49 rfl ?_
    refine xe_iconst (v := 0) dX12_back_50 rfl ?_
    refine xe_putI dX12_back_51 flX12_414 kk655 (xKK_lt kk655) nf12_63 rfl ?_
    refine xe_aload_n dX12_back_54 rfl ?_
    refine xe_iconst (v := 0) dX12_back_55 rfl ?_
    refine xe_putI dX12_back_56 flX12_417 kk655 (xKK_lt kk655) nf12_64 rfl ?_
    refine xe_aload_n dX12_back_59 rfl ?_
    refine xe_getR (b := 683) dX12_back_60 flX12_99 kk655 (xKK_lt kk655) rfl (rf655_57 hr) ?_
    refine xe_bipush (v := 90) dX12_back_63 rfl ?_
    refine xe_iald dX12_back_65 kk683 (xKK_lt kk683) (show ¬ ((90 : Int32) < 0 ∨ 92 ≤ (90 : Int32).toNatClampNeg) from by decide) ?_
    exact xe_ireturn dX12_back_66 rfl k
  · have k := k.2 (fun q => (c10 q))
    refine xe_aload_n dX12_back_26 rfl ?_
    refine xe_getR (b := 683) dX12_back_27 flX12_99 kk655 (xKK_lt kk655) rfl (rf655_57 hr) ?_
    refine xe_iload_n dX12_back_30 rfl ?_
    refine xe_aload_n dX12_back_31 rfl ?_
    refine xe_getR (b := 697) dX12_back_32 flX12_142 kk655 (xKK_lt kk655) rfl (rf655_77 hr) ?_
    refine xe_bipush (v := 92) dX12_back_35 rfl ?_
    refine xe_iload_n dX12_back_37 rfl ?_
    refine xe_imul dX12_back_38 ?_
    refine xe_iload_n dX12_back_39 rfl ?_
    refine xe_iadd dX12_back_40 ?_
    obtain ⟨b11, k⟩ := k
    refine xe_iald dX12_back_41 kk697 (xKK_lt kk697) b11 ?_
    obtain ⟨b12, k⟩ := k
    refine xe_iast dX12_back_42 kk683 (xKK_lt kk683) b12 ?_
    refine xe_iinc (v := (i2 + (1 : Int32))) (ls' := [some (.ref 655), some (.int i1), some (.int (i2 + (1 : Int32)))]) dX12_back_43 rfl (by decide) rfl rfl ?_
    refine xe_goto (tgt := 20) dX12_back_46 rfl ?_
    exact k

/-! FuneralPostModel.homeSet -/

theorem TX12_homeSet_0 {g : xGT} {d : Nat} {u : xU} {w : xW} {r : xQ} {P : xPost}
    (k : xEv g (d + 1) mX12_homeSet 4 [some (.ref 655), some (.int (0 : Int32)), some (.int (0 : Int32))] [] 698 u w r 698 P) :
    xEv g (d + 1) mX12_homeSet 0 [some (.ref 655), none, none] [] 698 u w r 698 P := by
  refine xe_iconst (v := 0) dX12_homeSet_0 rfl ?_
  refine xe_istore_n (ls' := [some (.ref 655), some (.int (0 : Int32)), none]) dX12_homeSet_1 rfl (by decide) rfl ?_
  refine xe_iconst (v := 0) dX12_homeSet_2 rfl ?_
  refine xe_istore_n (ls' := [some (.ref 655), some (.int (0 : Int32)), some (.int (0 : Int32))]) dX12_homeSet_3 rfl (by decide) rfl ?_
  exact k

theorem CX12_homeSet {g : xGT} {d : Nat} {u : xU} {w : xW} {r : xQ} {P : xPost}
    (k : xEv g (d + 1) mX12_homeSet 4 [some (.ref 655), some (.int (0 : Int32)), some (.int (0 : Int32))] [] 698 u w r 698 P) :
    xCall g (d + 1) mX12_homeSet [.ref 655] 698 u w r 698 P :=
  xCall.of plX12 (Nat.le_of_ble_eq_true rfl) rfl (TX12_homeSet_0  k)

theorem TX12_homeSet_4 {g : xGT} {d : Nat} {i1 i2 : Int32} {u : xU} {w : xW} {r : xQ} {P : xPost} (hr : xRf r)
    (k : ((u 683 88) ≤ i2 → P (some (.int i1)) u w r) ∧ (¬ ((u 683 88) ≤ i2) → vp_in ((38 : Int32) + i2) 92 ∧ (xCall g d mX12_truth [.int (xb (¬ ((u 683 ((38 : Int32) + i2).toNatClampNeg) < 0)))] 698 u w r 698 (fun rv6 u6 w6 r6 => ∃ v6 : Int32, rv6 = some (.int v6) ∧ u = u6 ∧ w = w6 ∧ r = r6 ∧ xEv g (d + 1) mX12_homeSet 4 [some (.ref 655), some (.int (i1 ||| (v6 <<< (i2 &&& 31)))), some (.int (i2 + (1 : Int32)))] [] 698 u w r 698 P)))) :
    xEv g (d + 1) mX12_homeSet 4 [some (.ref 655), some (.int i1), some (.int i2)] [] 698 u w r 698 P := by
  refine xe_iload_n dX12_homeSet_4 rfl ?_
  refine xe_aload_n dX12_homeSet_5 rfl ?_
  refine xe_getR (b := 683) dX12_homeSet_6 flX12_99 kk655 (xKK_lt kk655) rfl (rf655_57 hr) ?_
  refine xe_bipush (v := 88) dX12_homeSet_9 rfl ?_
  refine xe_iald dX12_homeSet_11 kk683 (xKK_lt kk683) (show ¬ ((88 : Int32) < 0 ∨ 92 ≤ (88 : Int32).toNatClampNeg) from by decide) ?_
  refine xe_icmp_ge (tgt := 46) dX12_homeSet_12 rfl (fun c1 => ?_) (fun c2 => ?_)
  · have k := k.1 c1
    refine xe_iload_n dX12_homeSet_46 rfl ?_
    exact xe_ireturn dX12_homeSet_47 rfl k
  · have k := k.2 (fun q => (c2 q))
    refine xe_iload_n dX12_homeSet_15 rfl ?_
    refine xe_aload_n dX12_homeSet_16 rfl ?_
    refine xe_getR (b := 683) dX12_homeSet_17 flX12_99 kk655 (xKK_lt kk655) rfl (rf655_57 hr) ?_
    refine xe_bipush (v := 38) dX12_homeSet_20 rfl ?_
    refine xe_iload_n dX12_homeSet_22 rfl ?_
    refine xe_iadd dX12_homeSet_23 ?_
    obtain ⟨b3, k⟩ := k
    refine xe_iald dX12_homeSet_24 kk683 (xKK_lt kk683) b3 ?_
    have K7 : xEv g (d + 1) mX12_homeSet 33 [some (.ref 655), some (.int i1), some (.int i2)] [.int (xb (¬ ((u 683 ((38 : Int32) + i2).toNatClampNeg) < 0))), .int i1] 698 u w r 698 P := by
      refine xe_callS (args := [.int (xb (¬ ((u 683 ((38 : Int32) + i2).toNatClampNeg) < 0)))]) dX12_homeSet_33 slX12_317 rfl rfl (Nat.le_of_ble_eq_true rfl) k (Nat.le_refl _) (fun rv6 u6 w6 r6 k => ?_)
      obtain ⟨v6, rfl, rfl, rfl, rfl, k⟩ := k
      refine xe_iload_n dX12_homeSet_36 rfl ?_
      refine xe_ishl dX12_homeSet_37 ?_
      refine xe_ior dX12_homeSet_38 ?_
      refine xe_istore_n (ls' := [some (.ref 655), some (.int (i1 ||| (v6 <<< (i2 &&& 31)))), some (.int i2)]) dX12_homeSet_39 rfl (by decide) rfl ?_
      refine xe_iinc (v := (i2 + (1 : Int32))) (ls' := [some (.ref 655), some (.int (i1 ||| (v6 <<< (i2 &&& 31)))), some (.int (i2 + (1 : Int32)))]) dX12_homeSet_40 rfl (by decide) rfl rfl ?_
      refine xe_goto (tgt := 4) dX12_homeSet_43 rfl ?_
      exact k
    refine xe_if_lt (tgt := 32) dX12_homeSet_25 rfl (fun c4 => ?_) (fun c5 => ?_)
    · refine xe_iconst (v := 0) dX12_homeSet_32 rfl ?_
      exact xtop (xb_neg (p := ¬ ((u 683 ((38 : Int32) + i2).toNatClampNeg) < 0)) (fun q => q c4)) K7
    · refine xe_iconst (v := 1) dX12_homeSet_28 rfl ?_
      refine xe_goto (tgt := 33) dX12_homeSet_29 rfl ?_
      exact xtop (xb_pos (show ¬ ((u 683 ((38 : Int32) + i2).toNatClampNeg) < 0) from (fun q => (c5 q)))) K7

/-! FuneralPostModel.about -/

set_option maxRecDepth 20000 in
theorem TX12_about_0 {g : xGT} {d : Nat} {i1 : Int32} {u : xU} {w : xW} {r : xQ} {P : xPost} (hr : xRf r)
    (k : (i1 = 0 → P (some (.int (u 683 88))) u w r) ∧ (i1 = 1 → P (some (.int (u 655 49))) u w r) ∧ (i1 = 2 → P (some (.int (u 655 50))) u w r) ∧ (i1 = 3 → P (some (.int (u 655 51))) u w r) ∧ (i1 = 4 → P (some (.int (u 683 90))) u w r) ∧ (i1 = 5 → P (some (.int (u 683 89))) u w r) ∧ (i1 = 6 → xCall g d mX12_homeSet [.ref 655] 698 u w r 698 (fun rv1 u1 w1 r1 => ∃ v1 : Int32, rv1 = some (.int v1) ∧ u = u1 ∧ w = w1 ∧ r = r1 ∧ P (some (.int v1)) u w r)) ∧ (i1 = 7 → P (some (.int (u 655 63))) u w r) ∧ (i1 = 8 → P (some (.int (u 655 64))) u w r) ∧ (i1 = 9 → P (some (.int (u 655 73))) u w r) ∧ (i1 = 10 → P (some (.int (u 655 74))) u w r) ∧ (i1 = 11 → P (some (.int (u 655 1))) u w r) ∧ (i1 = 12 → P (some (.int (u 655 21))) u w r) ∧ (i1 = 13 → P (some (.int (u 655 68))) u w r) ∧ (¬ i1 = 0 → ¬ i1 = 1 → ¬ i1 = 2 → ¬ i1 = 3 → ¬ i1 = 4 → ¬ i1 = 5 → ¬ i1 = 6 → ¬ i1 = 7 → ¬ i1 = 8 → ¬ i1 = 9 → ¬ i1 = 10 → ¬ i1 = 11 → ¬ i1 = 12 → ¬ i1 = 13 → P (some (.int (-1 : Int32))) u w r)) :
    xEv g (d + 1) mX12_about 0 [some (.ref 655), some (.int i1)] [] 698 u w r 698 P := by
  refine xe_iload_n dX12_about_0 rfl ?_
  by_cases c2 : i1 = 0
  · have k := k.1 c2
    refine xe_tableIn (tgt := 72) dX12_about_1 (by rw [c2]; decide) (by rw [c2]; decide) (by rw [c2]; rfl) rfl ?_
    refine xe_aload_n dX12_about_72 rfl ?_
    refine xe_getR (b := 683) dX12_about_73 flX12_99 kk655 (xKK_lt kk655) rfl (rf655_57 hr) ?_
    refine xe_bipush (v := 88) dX12_about_76 rfl ?_
    refine xe_iald dX12_about_78 kk683 (xKK_lt kk683) (show ¬ ((88 : Int32) < 0 ∨ 92 ≤ (88 : Int32).toNatClampNeg) from by decide) ?_
    exact xe_ireturn dX12_about_79 rfl k
  by_cases c3 : i1 = 1
  · have k := k.2.1 c3
    refine xe_tableIn (tgt := 80) dX12_about_1 (by rw [c3]; decide) (by rw [c3]; decide) (by rw [c3]; rfl) rfl ?_
    refine xe_aload_n dX12_about_80 rfl ?_
    refine xe_getI dX12_about_81 flX12_395 kk655 (xKK_lt kk655) rfl ?_
    exact xe_ireturn dX12_about_84 rfl k
  by_cases c4 : i1 = 2
  · have k := k.2.2.1 c4
    refine xe_tableIn (tgt := 85) dX12_about_1 (by rw [c4]; decide) (by rw [c4]; decide) (by rw [c4]; rfl) rfl ?_
    refine xe_aload_n dX12_about_85 rfl ?_
    refine xe_getI dX12_about_86 flX12_398 kk655 (xKK_lt kk655) rfl ?_
    exact xe_ireturn dX12_about_89 rfl k
  by_cases c5 : i1 = 3
  · have k := k.2.2.2.1 c5
    refine xe_tableIn (tgt := 90) dX12_about_1 (by rw [c5]; decide) (by rw [c5]; decide) (by rw [c5]; rfl) rfl ?_
    refine xe_aload_n dX12_about_90 rfl ?_
    refine xe_getI dX12_about_91 flX12_401 kk655 (xKK_lt kk655) rfl ?_
    exact xe_ireturn dX12_about_94 rfl k
  by_cases c6 : i1 = 4
  · have k := k.2.2.2.2.1 c6
    refine xe_tableIn (tgt := 95) dX12_about_1 (by rw [c6]; decide) (by rw [c6]; decide) (by rw [c6]; rfl) rfl ?_
    refine xe_aload_n dX12_about_95 rfl ?_
    refine xe_getR (b := 683) dX12_about_96 flX12_99 kk655 (xKK_lt kk655) rfl (rf655_57 hr) ?_
    refine xe_bipush (v := 90) dX12_about_99 rfl ?_
    refine xe_iald dX12_about_101 kk683 (xKK_lt kk683) (show ¬ ((90 : Int32) < 0 ∨ 92 ≤ (90 : Int32).toNatClampNeg) from by decide) ?_
    exact xe_ireturn dX12_about_102 rfl k
  by_cases c7 : i1 = 5
  · have k := k.2.2.2.2.2.1 c7
    refine xe_tableIn (tgt := 103) dX12_about_1 (by rw [c7]; decide) (by rw [c7]; decide) (by rw [c7]; rfl) rfl ?_
    refine xe_aload_n dX12_about_103 rfl ?_
    refine xe_getR (b := 683) dX12_about_104 flX12_99 kk655 (xKK_lt kk655) rfl (rf655_57 hr) ?_
    refine xe_bipush (v := 89) dX12_about_107 rfl ?_
    refine xe_iald dX12_about_109 kk683 (xKK_lt kk683) (show ¬ ((89 : Int32) < 0 ∨ 92 ≤ (89 : Int32).toNatClampNeg) from by decide) ?_
    exact xe_ireturn dX12_about_110 rfl k
  by_cases c8 : i1 = 6
  · have k := k.2.2.2.2.2.2.1 c8
    refine xe_tableIn (tgt := 111) dX12_about_1 (by rw [c8]; decide) (by rw [c8]; decide) (by rw [c8]; rfl) rfl ?_
    refine xe_aload_n dX12_about_111 rfl ?_
    refine xe_callV (args := []) dX12_about_112 vlX12_557 rfl rfl (Nat.le_of_ble_eq_true rfl) kk655 (xKK_lt kk655) rfl rfl k (Nat.le_refl _) (fun rv1 u1 w1 r1 k => ?_)
    obtain ⟨v1, rfl, rfl, rfl, rfl, k⟩ := k
    exact xe_ireturn dX12_about_115 rfl k
  by_cases c9 : i1 = 7
  · have k := k.2.2.2.2.2.2.2.1 c9
    refine xe_tableIn (tgt := 116) dX12_about_1 (by rw [c9]; decide) (by rw [c9]; decide) (by rw [c9]; rfl) rfl ?_
    refine xe_aload_n dX12_about_116 rfl ?_
    refine xe_getI dX12_about_117 flX12_414 kk655 (xKK_lt kk655) rfl ?_
    exact xe_ireturn dX12_about_120 rfl k
  by_cases c10 : i1 = 8
  · have k := k.2.2.2.2.2.2.2.2.1 c10
    refine xe_tableIn (tgt := 121) dX12_about_1 (by rw [c10]; decide) (by rw [c10]; decide) (by rw [c10]; rfl) rfl ?_
    refine xe_aload_n dX12_about_121 rfl ?_
    refine xe_getI dX12_about_122 flX12_417 kk655 (xKK_lt kk655) rfl ?_
    exact xe_ireturn dX12_about_125 rfl k
  by_cases c11 : i1 = 9
  · have k := k.2.2.2.2.2.2.2.2.2.1 c11
    refine xe_tableIn (tgt := 126) dX12_about_1 (by rw [c11]; decide) (by rw [c11]; decide) (by rw [c11]; rfl) rfl ?_
    refine xe_aload_n dX12_about_126 rfl ?_
    refine xe_getI dX12_about_127 flX12_420 kk655 (xKK_lt kk655) rfl ?_
    exact xe_ireturn dX12_about_130 rfl k
  by_cases c12 : i1 = 10
  · have k := k.2.2.2.2.2.2.2.2.2.2.1 c12
    refine xe_tableIn (tgt := 131) dX12_about_1 (by rw [c12]; decide) (by rw [c12]; decide) (by rw [c12]; rfl) rfl ?_
    refine xe_aload_n dX12_about_131 rfl ?_
    refine xe_getI dX12_about_132 flX12_547 kk655 (xKK_lt kk655) rfl ?_
    exact xe_ireturn dX12_about_135 rfl k
  by_cases c13 : i1 = 11
  · have k := k.2.2.2.2.2.2.2.2.2.2.2.1 c13
    refine xe_tableIn (tgt := 136) dX12_about_1 (by rw [c13]; decide) (by rw [c13]; decide) (by rw [c13]; rfl) rfl ?_
    refine xe_aload_n dX12_about_136 rfl ?_
    refine xe_getI dX12_about_137 flX12_145 kk655 (xKK_lt kk655) rfl ?_
    exact xe_ireturn dX12_about_140 rfl k
  by_cases c14 : i1 = 12
  · have k := k.2.2.2.2.2.2.2.2.2.2.2.2.1 c14
    refine xe_tableIn (tgt := 141) dX12_about_1 (by rw [c14]; decide) (by rw [c14]; decide) (by rw [c14]; rfl) rfl ?_
    refine xe_aload_n dX12_about_141 rfl ?_
    refine xe_getI dX12_about_142 flX12_407 kk655 (xKK_lt kk655) rfl ?_
    exact xe_ireturn dX12_about_145 rfl k
  by_cases c15 : i1 = 13
  · have k := k.2.2.2.2.2.2.2.2.2.2.2.2.2.1 c15
    refine xe_tableIn (tgt := 146) dX12_about_1 (by rw [c15]; decide) (by rw [c15]; decide) (by rw [c15]; rfl) rfl ?_
    refine xe_aload_n dX12_about_146 rfl ?_
    refine xe_getI dX12_about_147 flX12_423 kk655 (xKK_lt kk655) rfl ?_
    exact xe_ireturn dX12_about_150 rfl k
  have k := k.2.2.2.2.2.2.2.2.2.2.2.2.2.2 c2 c3 c4 c5 c6 c7 c8 c9 c10 c11 c12 c13 c14 c15
  have K16 : xEv g (d + 1) mX12_about 151 [some (.ref 655), some (.int i1)] [] 698 u w r 698 P := by
    refine xe_iconst (v := -1) dX12_about_151 rfl ?_
    exact xe_ireturn dX12_about_152 rfl k
  by_cases hlo : i1.toInt < 0 ∨ 13 < i1.toInt
  · exact xe_tableOut (tgt := 151) dX12_about_1 hlo rfl K16
  · exact absurd (xsw_0_13_14 c2 c3 c4 c5 c6 c7 c8 c9 c10 c11 c12 c13 c14 c15 hlo) (fun h => h)

theorem CX12_about {g : xGT} {d : Nat} {i1 : Int32} {u : xU} {w : xW} {r : xQ} {P : xPost} (hr : xRf r)
    (k : (i1 = 0 → P (some (.int (u 683 88))) u w r) ∧ (i1 = 1 → P (some (.int (u 655 49))) u w r) ∧ (i1 = 2 → P (some (.int (u 655 50))) u w r) ∧ (i1 = 3 → P (some (.int (u 655 51))) u w r) ∧ (i1 = 4 → P (some (.int (u 683 90))) u w r) ∧ (i1 = 5 → P (some (.int (u 683 89))) u w r) ∧ (i1 = 6 → xCall g d mX12_homeSet [.ref 655] 698 u w r 698 (fun rv1 u1 w1 r1 => ∃ v1 : Int32, rv1 = some (.int v1) ∧ u = u1 ∧ w = w1 ∧ r = r1 ∧ P (some (.int v1)) u w r)) ∧ (i1 = 7 → P (some (.int (u 655 63))) u w r) ∧ (i1 = 8 → P (some (.int (u 655 64))) u w r) ∧ (i1 = 9 → P (some (.int (u 655 73))) u w r) ∧ (i1 = 10 → P (some (.int (u 655 74))) u w r) ∧ (i1 = 11 → P (some (.int (u 655 1))) u w r) ∧ (i1 = 12 → P (some (.int (u 655 21))) u w r) ∧ (i1 = 13 → P (some (.int (u 655 68))) u w r) ∧ (¬ i1 = 0 → ¬ i1 = 1 → ¬ i1 = 2 → ¬ i1 = 3 → ¬ i1 = 4 → ¬ i1 = 5 → ¬ i1 = 6 → ¬ i1 = 7 → ¬ i1 = 8 → ¬ i1 = 9 → ¬ i1 = 10 → ¬ i1 = 11 → ¬ i1 = 12 → ¬ i1 = 13 → P (some (.int (-1 : Int32))) u w r)) :
    xCall g (d + 1) mX12_about [.ref 655, .int i1] 698 u w r 698 P :=
  xCall.of plX12 (Nat.le_of_ble_eq_true rfl) rfl (TX12_about_0 hr k)
