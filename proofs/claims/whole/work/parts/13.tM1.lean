/-! FuneralPostModel.feed -/

theorem TX12_feed_0 {g : xGT} {d : Nat} {i1 i2 i3 i4 i5 : Int32} {u : xU} {w : xW} {r : xQ} {P : xPost}
    (k : (((u 655 1) + (20 : Int32)) ≤ (1600 : Int32) → xCall g d mX12_four [.ref 655, .int i1] 698 u w r 698 (fun rv3 u3 w3 r3 => rv3 = none ∧ w = w3 ∧ r = r3 ∧ xCall g d mX12_four [.ref 655, .int i2] 698 u3 w r 698 (fun rv4 u4 w4 r4 => rv4 = none ∧ w = w4 ∧ r = r4 ∧ xCall g d mX12_four [.ref 655, .int i3] 698 u4 w r 698 (fun rv5 u5 w5 r5 => rv5 = none ∧ w = w5 ∧ r = r5 ∧ xCall g d mX12_four [.ref 655, .int i4] 698 u5 w r 698 (fun rv6 u6 w6 r6 => rv6 = none ∧ w = w6 ∧ r = r6 ∧ xCall g d mX12_four [.ref 655, .int i5] 698 u6 w r 698 (fun rv7 u7 w7 r7 => rv7 = none ∧ w = w7 ∧ r = r7 ∧ P (some (.int (u7 655 1))) u7 w r)))))) ∧ (¬ (((u 655 1) + (20 : Int32)) ≤ (1600 : Int32)) → P (some (.int (-1 : Int32))) u w r)) :
    xEv g (d + 1) mX12_feed 0 [some (.ref 655), some (.int i1), some (.int i2), some (.int i3), some (.int i4), some (.int i5)] [] 698 u w r 698 P := by
  refine xe_aload_n dX12_feed_0 rfl ?_
  refine xe_getI dX12_feed_1 flX12_145 kk655 (xKK_lt kk655) rfl ?_
  refine xe_bipush (v := 20) dX12_feed_4 rfl ?_
  refine xe_iadd dX12_feed_6 ?_
  refine xe_sipush (v := 1600) dX12_feed_7 rfl ?_
  refine xe_icmp_le (tgt := 15) dX12_feed_10 rfl (fun c1 => ?_) (fun c2 => ?_)
  · have k := k.1 c1
    refine xe_aload_n dX12_feed_15 rfl ?_
    refine xe_iload_n dX12_feed_16 rfl ?_
    refine xe_callV (args := [.int i1]) dX12_feed_17 vlX12_148 rfl rfl (Nat.le_of_ble_eq_true rfl) kk655 (xKK_lt kk655) rfl rfl k (Nat.le_refl _) (fun rv3 u3 w3 r3 k => ?_)
    obtain ⟨rfl, rfl, rfl, k⟩ := k
    refine xe_aload_n dX12_feed_20 rfl ?_
    refine xe_iload_n dX12_feed_21 rfl ?_
    refine xe_callV (args := [.int i2]) dX12_feed_22 vlX12_148 rfl rfl (Nat.le_of_ble_eq_true rfl) kk655 (xKK_lt kk655) rfl rfl k (Nat.le_refl _) (fun rv4 u4 w4 r4 k => ?_)
    obtain ⟨rfl, rfl, rfl, k⟩ := k
    refine xe_aload_n dX12_feed_25 rfl ?_
    refine xe_iload_n dX12_feed_26 rfl ?_
    refine xe_callV (args := [.int i3]) dX12_feed_27 vlX12_148 rfl rfl (Nat.le_of_ble_eq_true rfl) kk655 (xKK_lt kk655) rfl rfl k (Nat.le_refl _) (fun rv5 u5 w5 r5 k => ?_)
    obtain ⟨rfl, rfl, rfl, k⟩ := k
    refine xe_aload_n dX12_feed_30 rfl ?_
    refine xe_iload dX12_feed_31 rfl ?_
    refine xe_callV (args := [.int i4]) dX12_feed_33 vlX12_148 rfl rfl (Nat.le_of_ble_eq_true rfl) kk655 (xKK_lt kk655) rfl rfl k (Nat.le_refl _) (fun rv6 u6 w6 r6 k => ?_)
    obtain ⟨rfl, rfl, rfl, k⟩ := k
    refine xe_aload_n dX12_feed_36 rfl ?_
    refine xe_iload dX12_feed_37 rfl ?_
    refine xe_callV (args := [.int i5]) dX12_feed_39 vlX12_148 rfl rfl (Nat.le_of_ble_eq_true rfl) kk655 (xKK_lt kk655) rfl rfl k (Nat.le_refl _) (fun rv7 u7 w7 r7 k => ?_)
    obtain ⟨rfl, rfl, rfl, k⟩ := k
    refine xe_aload_n dX12_feed_42 rfl ?_
    refine xe_getI dX12_feed_43 flX12_145 kk655 (xKK_lt kk655) rfl ?_
    exact xe_ireturn dX12_feed_46 rfl k
  · have k := k.2 (fun q => (c2 q))
    refine xe_iconst (v := -1) dX12_feed_13 rfl ?_
    exact xe_ireturn dX12_feed_14 rfl k

theorem CX12_feed {g : xGT} {d : Nat} {i1 i2 i3 i4 i5 : Int32} {u : xU} {w : xW} {r : xQ} {P : xPost}
    (k : (((u 655 1) + (20 : Int32)) ≤ (1600 : Int32) → xCall g d mX12_four [.ref 655, .int i1] 698 u w r 698 (fun rv3 u3 w3 r3 => rv3 = none ∧ w = w3 ∧ r = r3 ∧ xCall g d mX12_four [.ref 655, .int i2] 698 u3 w r 698 (fun rv4 u4 w4 r4 => rv4 = none ∧ w = w4 ∧ r = r4 ∧ xCall g d mX12_four [.ref 655, .int i3] 698 u4 w r 698 (fun rv5 u5 w5 r5 => rv5 = none ∧ w = w5 ∧ r = r5 ∧ xCall g d mX12_four [.ref 655, .int i4] 698 u5 w r 698 (fun rv6 u6 w6 r6 => rv6 = none ∧ w = w6 ∧ r = r6 ∧ xCall g d mX12_four [.ref 655, .int i5] 698 u6 w r 698 (fun rv7 u7 w7 r7 => rv7 = none ∧ w = w7 ∧ r = r7 ∧ P (some (.int (u7 655 1))) u7 w r)))))) ∧ (¬ (((u 655 1) + (20 : Int32)) ≤ (1600 : Int32)) → P (some (.int (-1 : Int32))) u w r)) :
    xCall g (d + 1) mX12_feed [.ref 655, .int i1, .int i2, .int i3, .int i4, .int i5] 698 u w r 698 P :=
  xCall.of plX12 (Nat.le_of_ble_eq_true rfl) rfl (TX12_feed_0  k)

/-! FuneralPostModel.four -/

theorem TX12_four_0 {g : xGT} {d : Nat} {i1 : Int32} {u : xU} {w : xW} {r : xQ} {P : xPost}
    (k : xEv g d mX12_four 3 [some (.ref 655), some (.int i1), some (.int (24 : Int32))] [] 698 u w r 698 P) :
    xEv g d mX12_four 0 [some (.ref 655), some (.int i1), none] [] 698 u w r 698 P := by
  refine xe_bipush (v := 24) dX12_four_0 rfl ?_
  refine xe_istore_n (ls' := [some (.ref 655), some (.int i1), some (.int (24 : Int32))]) dX12_four_2 rfl (by decide) rfl ?_
  exact k

theorem CX12_four {g : xGT} {d : Nat} {i1 : Int32} {u : xU} {w : xW} {r : xQ} {P : xPost}
    (k : xEv g d mX12_four 3 [some (.ref 655), some (.int i1), some (.int (24 : Int32))] [] 698 u w r 698 P) :
    xCall g d mX12_four [.ref 655, .int i1] 698 u w r 698 P :=
  xCall.of plX12 (Nat.le_of_ble_eq_true rfl) rfl (TX12_four_0  k)

theorem TX12_four_3 {g : xGT} {d : Nat} {i1 i2 : Int32} {u : xU} {w : xW} {r : xQ} {P : xPost} (hr : xRf r)
    (k : (i2 < 0 → P none u w r) ∧ (¬ (i2 < 0) → vp_in (u 655 1) 1600 ∧ (xEv g d mX12_four 3 [some (.ref 655), some (.int i1), some (.int (i2 + (-8 : Int32)))] [] 698 (x2 (x2 u 656 (u 655 1).toNatClampNeg ((i1 >>> (i2 &&& 31)) &&& (255 : Int32))) 655 1 ((u 655 1) + (1 : Int32))) w r 698 P))) :
    xEv g d mX12_four 3 [some (.ref 655), some (.int i1), some (.int i2)] [] 698 u w r 698 P := by
  refine xe_iload_n dX12_four_3 rfl ?_
  refine xe_if_lt (tgt := 39) dX12_four_4 rfl (fun c1 => ?_) (fun c2 => ?_)
  · have k := k.1 c1
    exact xe_return dX12_four_39 trivial k
  · have k := k.2 (fun q => (c2 q))
    refine xe_aload_n dX12_four_7 rfl ?_
    refine xe_getR (b := 656) dX12_four_8 flX12_7 kk655 (xKK_lt kk655) rfl (rf655_0 hr) ?_
    refine xe_aload_n dX12_four_11 rfl ?_
    refine xe_getI dX12_four_12 flX12_145 kk655 (xKK_lt kk655) rfl ?_
    refine xe_iload_n dX12_four_15 rfl ?_
    refine xe_iload_n dX12_four_16 rfl ?_
    refine xe_ishr dX12_four_17 ?_
    refine xe_sipush (v := 255) dX12_four_18 rfl ?_
    refine xe_iand dX12_four_21 ?_
    obtain ⟨b3, k⟩ := k
    refine xe_iast dX12_four_22 kk656 (xKK_lt kk656) b3 ?_
    refine xe_aload_n dX12_four_23 rfl ?_
    refine xe_dup dX12_four_24 rfl ?_
    refine xe_getI dX12_four_25 flX12_145 kk655 (xKK_lt kk655) rfl ?_
    refine xe_iconst (v := 1) dX12_four_28 rfl ?_
    refine xe_iadd dX12_four_29 ?_
    refine xe_putI dX12_four_30 flX12_145 kk655 (xKK_lt kk655) nf12_1 rfl ?_
    refine xe_iinc (v := (i2 + (-8 : Int32))) (ls' := [some (.ref 655), some (.int i1), some (.int (i2 + (-8 : Int32)))]) dX12_four_33 rfl (by decide) rfl rfl ?_
    refine xe_goto (tgt := 3) dX12_four_36 rfl ?_
    exact k

/-! FuneralPostModel.end -/

theorem TX12_end_0 {g : xGT} {d : Nat} {i1 : Int32} {u : xU} {w : xW} {r : xQ} {P : xPost}
    (k : ((i1 < 0 ∨ ¬ (i1 ≤ (u 655 1))) → P (some (.int (-1 : Int32))) u w r) ∧ (¬ (i1 < 0 ∨ ¬ (i1 ≤ (u 655 1))) → P (some (.int i1)) (x2 u 655 1 i1) w r)) :
    xEv g d mX12_end 0 [some (.ref 655), some (.int i1)] [] 698 u w r 698 P := by
  refine xe_iload_n dX12_end_0 rfl ?_
  have K5 : (i1 < 0 ∨ ¬ (i1 ≤ (u 655 1))) → xEv g d mX12_end 12 [some (.ref 655), some (.int i1)] [] 698 u w r 698 P := fun c6 => by
    have k := k.1 c6
    refine xe_iconst (v := -1) dX12_end_12 rfl ?_
    exact xe_ireturn dX12_end_13 rfl k
  refine xe_if_lt (tgt := 12) dX12_end_1 rfl (fun c1 => ?_) (fun c2 => ?_)
  · exact K5 (Or.inl c1)
  · refine xe_iload_n dX12_end_4 rfl ?_
    refine xe_aload_n dX12_end_5 rfl ?_
    refine xe_getI dX12_end_6 flX12_145 kk655 (xKK_lt kk655) rfl ?_
    refine xe_icmp_le (tgt := 14) dX12_end_9 rfl (fun c3 => ?_) (fun c4 => ?_)
    · have k := k.2 (fun q => (q.elim (fun z => (c2 z)) (fun z => (z c3))))
      refine xe_aload_n dX12_end_14 rfl ?_
      refine xe_iload_n dX12_end_15 rfl ?_
      refine xe_putI dX12_end_16 flX12_145 kk655 (xKK_lt kk655) nf12_1 rfl ?_
      refine xe_iload_n dX12_end_19 rfl ?_
      exact xe_ireturn dX12_end_20 rfl k
    · exact K5 (Or.inr c4)

theorem CX12_end {g : xGT} {d : Nat} {i1 : Int32} {u : xU} {w : xW} {r : xQ} {P : xPost}
    (k : ((i1 < 0 ∨ ¬ (i1 ≤ (u 655 1))) → P (some (.int (-1 : Int32))) u w r) ∧ (¬ (i1 < 0 ∨ ¬ (i1 ≤ (u 655 1))) → P (some (.int i1)) (x2 u 655 1 i1) w r)) :
    xCall g d mX12_end [.ref 655, .int i1] 698 u w r 698 P :=
  xCall.of plX12 (Nat.le_of_ble_eq_true rfl) rfl (TX12_end_0  k)

/-! FuneralPostModel.here -/

theorem TX12_here_0 {g : xGT} {d : Nat} {i1 : Int32} {u : xU} {w : xW} {r : xQ} {P : xPost} (hr : xRf r)
    (k : (¬ ((u 655 5) ≤ ((u 655 4) + i1)) → vp_in ((u 655 4) + i1) 1600) ∧ (P (some (.int (if (u 655 5) ≤ ((u 655 4) + i1) then (-1 : Int32) else (u 656 ((u 655 4) + i1).toNatClampNeg)))) u w r)) :
    xEv g d mX12_here 0 [some (.ref 655), some (.int i1)] [] 698 u w r 698 P := by
  refine xe_aload_n dX12_here_0 rfl ?_
  refine xe_getI dX12_here_1 flX12_152 kk655 (xKK_lt kk655) rfl ?_
  refine xe_iload_n dX12_here_4 rfl ?_
  refine xe_iadd dX12_here_5 ?_
  refine xe_aload_n dX12_here_6 rfl ?_
  refine xe_getI dX12_here_7 flX12_155 kk655 (xKK_lt kk655) rfl ?_
  obtain ⟨b3, k⟩ := k
  have K4 : xEv g d mX12_here 28 [some (.ref 655), some (.int i1)] [.int (if (u 655 5) ≤ ((u 655 4) + i1) then (-1 : Int32) else (u 656 ((u 655 4) + i1).toNatClampNeg))] 698 u w r 698 P := by
    exact xe_ireturn dX12_here_28 rfl k
  refine xe_icmp_ge (tgt := 27) dX12_here_10 rfl (fun c1 => ?_) (fun c2 => ?_)
  · refine xe_iconst (v := -1) dX12_here_27 rfl ?_
    exact xtop (if_pos c1) K4
  · refine xe_aload_n dX12_here_13 rfl ?_
    refine xe_getR (b := 656) dX12_here_14 flX12_7 kk655 (xKK_lt kk655) rfl (rf655_0 hr) ?_
    refine xe_aload_n dX12_here_17 rfl ?_
    refine xe_getI dX12_here_18 flX12_152 kk655 (xKK_lt kk655) rfl ?_
    refine xe_iload_n dX12_here_21 rfl ?_
    refine xe_iadd dX12_here_22 ?_
    refine xe_iald dX12_here_23 kk656 (xKK_lt kk656) (b3 (fun q => (c2 q))) ?_
    refine xe_goto (tgt := 28) dX12_here_24 rfl ?_
    exact xtop (if_neg (fun q => (c2 q))) K4

theorem CX12_here {g : xGT} {d : Nat} {i1 : Int32} {u : xU} {w : xW} {r : xQ} {P : xPost} (hr : xRf r)
    (k : (¬ ((u 655 5) ≤ ((u 655 4) + i1)) → vp_in ((u 655 4) + i1) 1600) ∧ (P (some (.int (if (u 655 5) ≤ ((u 655 4) + i1) then (-1 : Int32) else (u 656 ((u 655 4) + i1).toNatClampNeg)))) u w r)) :
    xCall g d mX12_here [.ref 655, .int i1] 698 u w r 698 P :=
  xCall.of plX12 (Nat.le_of_ble_eq_true rfl) rfl (TX12_here_0 hr k)

/-! FuneralPostModel.isLetter -/

theorem TX12_isLetter_0 {g : xGT} {d : Nat} {i0 : Int32} {u : xU} {w : xW} {r : xQ} {P : xPost}
    (k : P (some (.int (xb (¬ (i0 < (97 : Int32)) ∧ ¬ ((122 : Int32) < i0))))) u w r) :
    xEv g d mX12_isLetter 0 [some (.int i0)] [] 698 u w r 698 P := by
  refine xe_iload_n dX12_isLetter_0 rfl ?_
  refine xe_bipush (v := 97) dX12_isLetter_1 rfl ?_
  have K5 : xEv g d mX12_isLetter 17 [some (.int i0)] [.int (xb (¬ (i0 < (97 : Int32)) ∧ ¬ ((122 : Int32) < i0)))] 698 u w r 698 P := by
    exact xe_ireturn dX12_isLetter_17 (xrokZ (xb01 _)) k
  refine xe_icmp_lt (tgt := 16) dX12_isLetter_3 rfl (fun c1 => ?_) (fun c2 => ?_)
  · refine xe_iconst (v := 0) dX12_isLetter_16 rfl ?_
    exact xtop (xb_neg (show ¬ (¬ (i0 < (97 : Int32)) ∧ ¬ ((122 : Int32) < i0)) from (fun q => (q.1 c1)))) K5
  · refine xe_iload_n dX12_isLetter_6 rfl ?_
    refine xe_bipush (v := 122) dX12_isLetter_7 rfl ?_
    refine xe_icmp_gt (tgt := 16) dX12_isLetter_9 rfl (fun c3 => ?_) (fun c4 => ?_)
    · refine xe_iconst (v := 0) dX12_isLetter_16 rfl ?_
      exact xtop (xb_neg (show ¬ (¬ (i0 < (97 : Int32)) ∧ ¬ ((122 : Int32) < i0)) from (fun q => (q.2 c3)))) K5
    · refine xe_iconst (v := 1) dX12_isLetter_12 rfl ?_
      refine xe_goto (tgt := 17) dX12_isLetter_13 rfl ?_
      exact xtop (xb_pos (show (¬ (i0 < (97 : Int32)) ∧ ¬ ((122 : Int32) < i0)) from ⟨c2, c4⟩)) K5

theorem CX12_isLetter {g : xGT} {d : Nat} {i0 : Int32} {u : xU} {w : xW} {r : xQ} {P : xPost}
    (k : P (some (.int (xb (¬ (i0 < (97 : Int32)) ∧ ¬ ((122 : Int32) < i0))))) u w r) :
    xCall g d mX12_isLetter [.int i0] 698 u w r 698 P :=
  xCall.of plX12 (Nat.le_of_ble_eq_true rfl) rfl (TX12_isLetter_0  k)

/-! FuneralPostModel.isDigit -/

theorem TX12_isDigit_0 {g : xGT} {d : Nat} {i0 : Int32} {u : xU} {w : xW} {r : xQ} {P : xPost}
    (k : P (some (.int (xb (¬ (i0 < (48 : Int32)) ∧ ¬ ((57 : Int32) < i0))))) u w r) :
    xEv g d mX12_isDigit 0 [some (.int i0)] [] 698 u w r 698 P := by
  refine xe_iload_n dX12_isDigit_0 rfl ?_
  refine xe_bipush (v := 48) dX12_isDigit_1 rfl ?_
  have K5 : xEv g d mX12_isDigit 17 [some (.int i0)] [.int (xb (¬ (i0 < (48 : Int32)) ∧ ¬ ((57 : Int32) < i0)))] 698 u w r 698 P := by
    exact xe_ireturn dX12_isDigit_17 (xrokZ (xb01 _)) k
  refine xe_icmp_lt (tgt := 16) dX12_isDigit_3 rfl (fun c1 => ?_) (fun c2 => ?_)
  · refine xe_iconst (v := 0) dX12_isDigit_16 rfl ?_
    exact xtop (xb_neg (show ¬ (¬ (i0 < (48 : Int32)) ∧ ¬ ((57 : Int32) < i0)) from (fun q => (q.1 c1)))) K5
  · refine xe_iload_n dX12_isDigit_6 rfl ?_
    refine xe_bipush (v := 57) dX12_isDigit_7 rfl ?_
    refine xe_icmp_gt (tgt := 16) dX12_isDigit_9 rfl (fun c3 => ?_) (fun c4 => ?_)
    · refine xe_iconst (v := 0) dX12_isDigit_16 rfl ?_
      exact xtop (xb_neg (show ¬ (¬ (i0 < (48 : Int32)) ∧ ¬ ((57 : Int32) < i0)) from (fun q => (q.2 c3)))) K5
    · refine xe_iconst (v := 1) dX12_isDigit_12 rfl ?_
      refine xe_goto (tgt := 17) dX12_isDigit_13 rfl ?_
      exact xtop (xb_pos (show (¬ (i0 < (48 : Int32)) ∧ ¬ ((57 : Int32) < i0)) from ⟨c2, c4⟩)) K5

theorem CX12_isDigit {g : xGT} {d : Nat} {i0 : Int32} {u : xU} {w : xW} {r : xQ} {P : xPost}
    (k : P (some (.int (xb (¬ (i0 < (48 : Int32)) ∧ ¬ ((57 : Int32) < i0))))) u w r) :
    xCall g d mX12_isDigit [.int i0] 698 u w r 698 P :=
  xCall.of plX12 (Nat.le_of_ble_eq_true rfl) rfl (TX12_isDigit_0  k)

/-! FuneralPostModel.isSign -/

set_option maxRecDepth 20000 in
theorem TX12_isSign_0 {g : xGT} {d : Nat} {i0 : Int32} {u : xU} {w : xW} {r : xQ} {P : xPost}
    (k : P (some (.int (xb (i0 = (59 : Int32) ∨ (i0 = (40 : Int32) ∨ (i0 = (41 : Int32) ∨ (i0 = (60 : Int32) ∨ (i0 = (62 : Int32) ∨ (i0 = (61 : Int32) ∨ (i0 = (43 : Int32) ∨ (i0 = (45 : Int32) ∨ (i0 = (42 : Int32) ∨ (i0 = (47 : Int32) ∨ i0 = (37 : Int32)))))))))))))) u w r) :
    xEv g d mX12_isSign 0 [some (.int i0)] [] 698 u w r 698 P := by
  refine xe_iload_n dX12_isSign_0 rfl ?_
  refine xe_bipush (v := 59) dX12_isSign_1 rfl ?_
  have K23 : xEv g d mX12_isSign 71 [some (.int i0)] [.int (xb (i0 = (59 : Int32) ∨ (i0 = (40 : Int32) ∨ (i0 = (41 : Int32) ∨ (i0 = (60 : Int32) ∨ (i0 = (62 : Int32) ∨ (i0 = (61 : Int32) ∨ (i0 = (43 : Int32) ∨ (i0 = (45 : Int32) ∨ (i0 = (42 : Int32) ∨ (i0 = (47 : Int32) ∨ i0 = (37 : Int32))))))))))))] 698 u w r 698 P := by
    exact xe_ireturn dX12_isSign_71 (xrokZ (xb01 _)) k
  refine xe_icmp_eq (tgt := 66) dX12_isSign_3 rfl (fun c1 => ?_) (fun c2 => ?_)
  · refine xe_iconst (v := 1) dX12_isSign_66 rfl ?_
    refine xe_goto (tgt := 71) dX12_isSign_67 rfl ?_
    exact xtop (xb_pos (show (i0 = (59 : Int32) ∨ (i0 = (40 : Int32) ∨ (i0 = (41 : Int32) ∨ (i0 = (60 : Int32) ∨ (i0 = (62 : Int32) ∨ (i0 = (61 : Int32) ∨ (i0 = (43 : Int32) ∨ (i0 = (45 : Int32) ∨ (i0 = (42 : Int32) ∨ (i0 = (47 : Int32) ∨ i0 = (37 : Int32))))))))))) from (Or.inl c1))) K23
  · refine xe_iload_n dX12_isSign_6 rfl ?_
    refine xe_bipush (v := 40) dX12_isSign_7 rfl ?_
    refine xe_icmp_eq (tgt := 66) dX12_isSign_9 rfl (fun c3 => ?_) (fun c4 => ?_)
    · refine xe_iconst (v := 1) dX12_isSign_66 rfl ?_
      refine xe_goto (tgt := 71) dX12_isSign_67 rfl ?_
      exact xtop (xb_pos (show (i0 = (59 : Int32) ∨ (i0 = (40 : Int32) ∨ (i0 = (41 : Int32) ∨ (i0 = (60 : Int32) ∨ (i0 = (62 : Int32) ∨ (i0 = (61 : Int32) ∨ (i0 = (43 : Int32) ∨ (i0 = (45 : Int32) ∨ (i0 = (42 : Int32) ∨ (i0 = (47 : Int32) ∨ i0 = (37 : Int32))))))))))) from (Or.inr (Or.inl c3)))) K23
    · refine xe_iload_n dX12_isSign_12 rfl ?_
      refine xe_bipush (v := 41) dX12_isSign_13 rfl ?_
      refine xe_icmp_eq (tgt := 66) dX12_isSign_15 rfl (fun c5 => ?_) (fun c6 => ?_)
      · refine xe_iconst (v := 1) dX12_isSign_66 rfl ?_
        refine xe_goto (tgt := 71) dX12_isSign_67 rfl ?_
        exact xtop (xb_pos (show (i0 = (59 : Int32) ∨ (i0 = (40 : Int32) ∨ (i0 = (41 : Int32) ∨ (i0 = (60 : Int32) ∨ (i0 = (62 : Int32) ∨ (i0 = (61 : Int32) ∨ (i0 = (43 : Int32) ∨ (i0 = (45 : Int32) ∨ (i0 = (42 : Int32) ∨ (i0 = (47 : Int32) ∨ i0 = (37 : Int32))))))))))) from (Or.inr (Or.inr (Or.inl c5))))) K23
      · refine xe_iload_n dX12_isSign_18 rfl ?_
        refine xe_bipush (v := 60) dX12_isSign_19 rfl ?_
        refine xe_icmp_eq (tgt := 66) dX12_isSign_21 rfl (fun c7 => ?_) (fun c8 => ?_)
        · refine xe_iconst (v := 1) dX12_isSign_66 rfl ?_
          refine xe_goto (tgt := 71) dX12_isSign_67 rfl ?_
          exact xtop (xb_pos (show (i0 = (59 : Int32) ∨ (i0 = (40 : Int32) ∨ (i0 = (41 : Int32) ∨ (i0 = (60 : Int32) ∨ (i0 = (62 : Int32) ∨ (i0 = (61 : Int32) ∨ (i0 = (43 : Int32) ∨ (i0 = (45 : Int32) ∨ (i0 = (42 : Int32) ∨ (i0 = (47 : Int32) ∨ i0 = (37 : Int32))))))))))) from (Or.inr (Or.inr (Or.inr (Or.inl c7)))))) K23
        · refine xe_iload_n dX12_isSign_24 rfl ?_
          refine xe_bipush (v := 62) dX12_isSign_25 rfl ?_
          refine xe_icmp_eq (tgt := 66) dX12_isSign_27 rfl (fun c9 => ?_) (fun c10 => ?_)
          · refine xe_iconst (v := 1) dX12_isSign_66 rfl ?_
            refine xe_goto (tgt := 71) dX12_isSign_67 rfl ?_
            exact xtop (xb_pos (show (i0 = (59 : Int32) ∨ (i0 = (40 : Int32) ∨ (i0 = (41 : Int32) ∨ (i0 = (60 : Int32) ∨ (i0 = (62 : Int32) ∨ (i0 = (61 : Int32) ∨ (i0 = (43 : Int32) ∨ (i0 = (45 : Int32) ∨ (i0 = (42 : Int32) ∨ (i0 = (47 : Int32) ∨ i0 = (37 : Int32))))))))))) from (Or.inr (Or.inr (Or.inr (Or.inr (Or.inl c9))))))) K23
          · refine xe_iload_n dX12_isSign_30 rfl ?_
            refine xe_bipush (v := 61) dX12_isSign_31 rfl ?_
            refine xe_icmp_eq (tgt := 66) dX12_isSign_33 rfl (fun c11 => ?_) (fun c12 => ?_)
            · refine xe_iconst (v := 1) dX12_isSign_66 rfl ?_
              refine xe_goto (tgt := 71) dX12_isSign_67 rfl ?_
              exact xtop (xb_pos (show (i0 = (59 : Int32) ∨ (i0 = (40 : Int32) ∨ (i0 = (41 : Int32) ∨ (i0 = (60 : Int32) ∨ (i0 = (62 : Int32) ∨ (i0 = (61 : Int32) ∨ (i0 = (43 : Int32) ∨ (i0 = (45 : Int32) ∨ (i0 = (42 : Int32) ∨ (i0 = (47 : Int32) ∨ i0 = (37 : Int32))))))))))) from (Or.inr (Or.inr (Or.inr (Or.inr (Or.inr (Or.inl c11)))))))) K23
            · refine xe_iload_n dX12_isSign_36 rfl ?_
              refine xe_bipush (v := 43) dX12_isSign_37 rfl ?_
              refine xe_icmp_eq (tgt := 66) dX12_isSign_39 rfl (fun c13 => ?_) (fun c14 => ?_)
              · refine xe_iconst (v := 1) dX12_isSign_66 rfl ?_
                refine xe_goto (tgt := 71) dX12_isSign_67 rfl ?_
                exact xtop (xb_pos (show (i0 = (59 : Int32) ∨ (i0 = (40 : Int32) ∨ (i0 = (41 : Int32) ∨ (i0 = (60 : Int32) ∨ (i0 = (62 : Int32) ∨ (i0 = (61 : Int32) ∨ (i0 = (43 : Int32) ∨ (i0 = (45 : Int32) ∨ (i0 = (42 : Int32) ∨ (i0 = (47 : Int32) ∨ i0 = (37 : Int32))))))))))) from (Or.inr (Or.inr (Or.inr (Or.inr (Or.inr (Or.inr (Or.inl c13))))))))) K23
              · refine xe_iload_n dX12_isSign_42 rfl ?_
                refine xe_bipush (v := 45) dX12_isSign_43 rfl ?_
                refine xe_icmp_eq (tgt := 66) dX12_isSign_45 rfl (fun c15 => ?_) (fun c16 => ?_)
                · refine xe_iconst (v := 1) dX12_isSign_66 rfl ?_
                  refine xe_goto (tgt := 71) dX12_isSign_67 rfl ?_
                  exact xtop (xb_pos (show (i0 = (59 : Int32) ∨ (i0 = (40 : Int32) ∨ (i0 = (41 : Int32) ∨ (i0 = (60 : Int32) ∨ (i0 = (62 : Int32) ∨ (i0 = (61 : Int32) ∨ (i0 = (43 : Int32) ∨ (i0 = (45 : Int32) ∨ (i0 = (42 : Int32) ∨ (i0 = (47 : Int32) ∨ i0 = (37 : Int32))))))))))) from (Or.inr (Or.inr (Or.inr (Or.inr (Or.inr (Or.inr (Or.inr (Or.inl c15)))))))))) K23
                · refine xe_iload_n dX12_isSign_48 rfl ?_
                  refine xe_bipush (v := 42) dX12_isSign_49 rfl ?_
                  refine xe_icmp_eq (tgt := 66) dX12_isSign_51 rfl (fun c17 => ?_) (fun c18 => ?_)
                  · refine xe_iconst (v := 1) dX12_isSign_66 rfl ?_
                    refine xe_goto (tgt := 71) dX12_isSign_67 rfl ?_
                    exact xtop (xb_pos (show (i0 = (59 : Int32) ∨ (i0 = (40 : Int32) ∨ (i0 = (41 : Int32) ∨ (i0 = (60 : Int32) ∨ (i0 = (62 : Int32) ∨ (i0 = (61 : Int32) ∨ (i0 = (43 : Int32) ∨ (i0 = (45 : Int32) ∨ (i0 = (42 : Int32) ∨ (i0 = (47 : Int32) ∨ i0 = (37 : Int32))))))))))) from (Or.inr (Or.inr (Or.inr (Or.inr (Or.inr (Or.inr (Or.inr (Or.inr (Or.inl c17))))))))))) K23
                  · refine xe_iload_n dX12_isSign_54 rfl ?_
                    refine xe_bipush (v := 47) dX12_isSign_55 rfl ?_
                    refine xe_icmp_eq (tgt := 66) dX12_isSign_57 rfl (fun c19 => ?_) (fun c20 => ?_)
                    · refine xe_iconst (v := 1) dX12_isSign_66 rfl ?_
                      refine xe_goto (tgt := 71) dX12_isSign_67 rfl ?_
                      exact xtop (xb_pos (show (i0 = (59 : Int32) ∨ (i0 = (40 : Int32) ∨ (i0 = (41 : Int32) ∨ (i0 = (60 : Int32) ∨ (i0 = (62 : Int32) ∨ (i0 = (61 : Int32) ∨ (i0 = (43 : Int32) ∨ (i0 = (45 : Int32) ∨ (i0 = (42 : Int32) ∨ (i0 = (47 : Int32) ∨ i0 = (37 : Int32))))))))))) from (Or.inr (Or.inr (Or.inr (Or.inr (Or.inr (Or.inr (Or.inr (Or.inr (Or.inr (Or.inl c19)))))))))))) K23
                    · refine xe_iload_n dX12_isSign_60 rfl ?_
                      refine xe_bipush (v := 37) dX12_isSign_61 rfl ?_
                      refine xe_icmp_ne (tgt := 70) dX12_isSign_63 rfl (fun c21 => ?_) (fun c22 => ?_)
                      · refine xe_iconst (v := 0) dX12_isSign_70 rfl ?_
                        exact xtop (xb_neg (show ¬ (i0 = (59 : Int32) ∨ (i0 = (40 : Int32) ∨ (i0 = (41 : Int32) ∨ (i0 = (60 : Int32) ∨ (i0 = (62 : Int32) ∨ (i0 = (61 : Int32) ∨ (i0 = (43 : Int32) ∨ (i0 = (45 : Int32) ∨ (i0 = (42 : Int32) ∨ (i0 = (47 : Int32) ∨ i0 = (37 : Int32))))))))))) from (fun q => (q.elim (fun z => (c2 z)) (fun z => (z.elim (fun z => (c4 z)) (fun z => (z.elim (fun z => (c6 z)) (fun z => (z.elim (fun z => (c8 z)) (fun z => (z.elim (fun z => (c10 z)) (fun z => (z.elim (fun z => (c12 z)) (fun z => (z.elim (fun z => (c14 z)) (fun z => (z.elim (fun z => (c16 z)) (fun z => (z.elim (fun z => (c18 z)) (fun z => (z.elim (fun z => (c20 z)) (fun z => (c21 z)))))))))))))))))))))))) K23
                      · refine xe_iconst (v := 1) dX12_isSign_66 rfl ?_
                        refine xe_goto (tgt := 71) dX12_isSign_67 rfl ?_
                        exact xtop (xb_pos (show (i0 = (59 : Int32) ∨ (i0 = (40 : Int32) ∨ (i0 = (41 : Int32) ∨ (i0 = (60 : Int32) ∨ (i0 = (62 : Int32) ∨ (i0 = (61 : Int32) ∨ (i0 = (43 : Int32) ∨ (i0 = (45 : Int32) ∨ (i0 = (42 : Int32) ∨ (i0 = (47 : Int32) ∨ i0 = (37 : Int32))))))))))) from (Or.inr (Or.inr (Or.inr (Or.inr (Or.inr (Or.inr (Or.inr (Or.inr (Or.inr (Or.inr c22)))))))))))) K23

theorem CX12_isSign {g : xGT} {d : Nat} {i0 : Int32} {u : xU} {w : xW} {r : xQ} {P : xPost}
    (k : P (some (.int (xb (i0 = (59 : Int32) ∨ (i0 = (40 : Int32) ∨ (i0 = (41 : Int32) ∨ (i0 = (60 : Int32) ∨ (i0 = (62 : Int32) ∨ (i0 = (61 : Int32) ∨ (i0 = (43 : Int32) ∨ (i0 = (45 : Int32) ∨ (i0 = (42 : Int32) ∨ (i0 = (47 : Int32) ∨ i0 = (37 : Int32)))))))))))))) u w r) :
    xCall g d mX12_isSign [.int i0] 698 u w r 698 P :=
  xCall.of plX12 (Nat.le_of_ble_eq_true rfl) rfl (TX12_isSign_0  k)

/-! FuneralPostModel.token -/

set_option maxRecDepth 20000 in
theorem TX12_token_0 {g : xGT} {d : Nat} {u : xU} {w : xW} {r : xQ} {P : xPost}
    (k : xCall g d mX12_here [.ref 655, .int (0 : Int32)] 698 u w r 698 (fun rv1 u1 w1 r1 => ∃ v1 : Int32, rv1 = some (.int v1) ∧ u = u1 ∧ w = w1 ∧ r = r1 ∧ (v1 = (32 : Int32) → xEv g (d + 1) mX12_token 20 [some (.ref 655), none, none] [] 698 u w r 698 P) ∧ (¬ (v1 = (32 : Int32)) → xCall g d mX12_here [.ref 655, .int (0 : Int32)] 698 u w r 698 (fun rv4 u4 w4 r4 => ∃ v4 : Int32, rv4 = some (.int v4) ∧ u = u4 ∧ w = w4 ∧ r = r4 ∧ (v4 = (10 : Int32) → xEv g (d + 1) mX12_token 20 [some (.ref 655), none, none] [] 698 u w r 698 P) ∧ (¬ (v4 = (10 : Int32)) → xCall g d mX12_here [.ref 655, .int (0 : Int32)] 698 (x2 u 655 7 (u 655 4)) w r 698 (fun rv7 u7 w7 r7 => ∃ v7 : Int32, rv7 = some (.int v7) ∧ (x2 u 655 7 (u 655 4)) = u7 ∧ w = w7 ∧ r = r7 ∧ (0 ≤ v7 → xCall g d mX12_isLetter [.int v7] 698 (x2 (x2 u 655 7 (u 655 4)) 655 8 (0 : Int32)) (x2 w 655 9 (0 : Int64)) r 698 (fun rv10 u10 w10 r10 => ∃ v10 : Int32, rv10 = some (.int v10) ∧ (x2 (x2 u 655 7 (u 655 4)) 655 8 (0 : Int32)) = u10 ∧ (x2 w 655 9 (0 : Int64)) = w10 ∧ r = r10 ∧ (v10 = 0 → xCall g d mX12_isDigit [.int v7] 698 (x2 (x2 u 655 7 (u 655 4)) 655 8 (0 : Int32)) (x2 w 655 9 (0 : Int64)) r 698 (fun rv13 u13 w13 r13 => ∃ v13 : Int32, rv13 = some (.int v13) ∧ (x2 (x2 u 655 7 (u 655 4)) 655 8 (0 : Int32)) = u13 ∧ (x2 w 655 9 (0 : Int64)) = w13 ∧ r = r13 ∧ (v13 = 0 → xCall g d mX12_isSign [.int v7] 698 (x2 (x2 u 655 7 (u 655 4)) 655 8 (0 : Int32)) (x2 w 655 9 (0 : Int64)) r 698 (fun rv16 u16 w16 r16 => ∃ v16 : Int32, rv16 = some (.int v16) ∧ (x2 (x2 u 655 7 (u 655 4)) 655 8 (0 : Int32)) = u16 ∧ (x2 w 655 9 (0 : Int64)) = w16 ∧ r = r16 ∧ xEv g (d + 1) mX12_token 232 [some (.ref 655), none, some (.int (1 : Int32))] [] 698 (x2 (x2 (x2 u 655 7 (u 655 4)) 655 8 (0 : Int32)) 655 6 (if v16 = 0 then (3 : Int32) else v7)) (x2 w 655 9 (0 : Int64)) r 698 P)) ∧ (¬ (v13 = 0) → xEv g (d + 1) mX12_token 144 [some (.ref 655), none, some (.int (0 : Int32))] [] 698 (x2 (x2 u 655 7 (u 655 4)) 655 8 (0 : Int32)) (x2 w 655 9 (0 : Int64)) r 698 P))) ∧ (¬ (v10 = 0) → xEv g (d + 1) mX12_token 78 [some (.ref 655), none, some (.int (0 : Int32))] [] 698 (x2 (x2 u 655 7 (u 655 4)) 655 8 (0 : Int32)) (x2 w 655 9 (0 : Int64)) r 698 P))) ∧ (¬ (0 ≤ v7) → xEv g (d + 1) mX12_token 232 [some (.ref 655), none, some (.int (0 : Int32))] [] 698 (x2 (x2 (x2 u 655 7 (u 655 4)) 655 8 (0 : Int32)) 655 6 (0 : Int32)) (x2 w 655 9 (0 : Int64)) r 698 P))))))) :
    xEv g (d + 1) mX12_token 0 [some (.ref 655), none, none] [] 698 u w r 698 P := by
  refine xe_aload_n dX12_token_0 rfl ?_
  refine xe_iconst (v := 0) dX12_token_1 rfl ?_
  refine xe_callV (args := [.int (0 : Int32)]) dX12_token_2 vlX12_158 rfl rfl (Nat.le_of_ble_eq_true rfl) kk655 (xKK_lt kk655) rfl rfl k (Nat.le_refl _) (fun rv1 u1 w1 r1 k => ?_)
  obtain ⟨v1, rfl, rfl, rfl, rfl, k⟩ := k
  refine xe_bipush (v := 32) dX12_token_5 rfl ?_
  refine xe_icmp_eq (tgt := 20) dX12_token_7 rfl (fun c2 => ?_) (fun c3 => ?_)
  · have k := k.1 c2
    exact k
  · have k := k.2 (fun q => (c3 q))
    refine xe_aload_n dX12_token_10 rfl ?_
    refine xe_iconst (v := 0) dX12_token_11 rfl ?_
    refine xe_callV (args := [.int (0 : Int32)]) dX12_token_12 vlX12_158 rfl rfl (Nat.le_of_ble_eq_true rfl) kk655 (xKK_lt kk655) rfl rfl k (Nat.le_refl _) (fun rv4 u4 w4 r4 k => ?_)
    obtain ⟨v4, rfl, rfl, rfl, rfl, k⟩ := k
    refine xe_bipush (v := 10) dX12_token_15 rfl ?_
    refine xe_icmp_ne (tgt := 33) dX12_token_17 rfl (fun c5 => ?_) (fun c6 => ?_)
    · have k := k.2 (fun q => (c5 q))
      refine xe_aload_n dX12_token_33 rfl ?_
      refine xe_aload_n dX12_token_34 rfl ?_
      refine xe_getI dX12_token_35 flX12_152 kk655 (xKK_lt kk655) rfl ?_
      refine xe_putI dX12_token_38 flX12_162 kk655 (xKK_lt kk655) nf12_7 rfl ?_
      refine xe_aload_n dX12_token_41 rfl ?_
      refine xe_iconst (v := 0) dX12_token_42 rfl ?_
      refine xe_callV (args := [.int (0 : Int32)]) dX12_token_43 vlX12_158 rfl rfl (Nat.le_of_ble_eq_true rfl) kk655 (xKK_lt kk655) rfl rfl k (Nat.le_refl _) (fun rv7 u7 w7 r7 k => ?_)
      obtain ⟨v7, rfl, rfl, rfl, rfl, k⟩ := k
      refine xe_istore_n (ls' := [some (.ref 655), some (.int v7), none]) dX12_token_46 rfl (by decide) rfl ?_
      refine xe_iconst (v := 0) dX12_token_47 rfl ?_
      refine xe_istore_n (ls' := [some (.ref 655), some (.int v7), some (.int (0 : Int32))]) dX12_token_48 rfl (by decide) rfl ?_
      refine xe_aload_n dX12_token_49 rfl ?_
      refine xe_lconst (v := 0) dX12_token_50 rfl ?_
      refine xe_putL dX12_token_51 flX12_165 kk655 (xKK_lt kk655) nf12_9 rfl ?_
      refine xe_aload_n dX12_token_54 rfl ?_
      refine xe_iconst (v := 0) dX12_token_55 rfl ?_
      refine xe_putI dX12_token_56 flX12_169 kk655 (xKK_lt kk655) nf12_8 rfl ?_
      refine xe_iload_n dX12_token_59 rfl ?_
      refine xe_if_ge (tgt := 71) dX12_token_60 rfl (fun c8 => ?_) (fun c9 => ?_)
      · have k := k.1 c8
        refine xe_iload_n dX12_token_71 rfl ?_
        refine xe_callS (args := [.int v7]) dX12_token_72 slX12_175 rfl rfl (Nat.le_of_ble_eq_true rfl) k (Nat.le_refl _) (fun rv10 u10 w10 r10 k => ?_)
        obtain ⟨v10, rfl, rfl, rfl, rfl, k⟩ := k
        refine xe_if_eq (tgt := 137) dX12_token_75 rfl (fun c11 => ?_) (fun c12 => ?_)
        · have k := k.1 c11
          refine xe_iload_n dX12_token_137 rfl ?_
          refine xe_callS (args := [.int v7]) dX12_token_138 slX12_179 rfl rfl (Nat.le_of_ble_eq_true rfl) k (Nat.le_refl _) (fun rv13 u13 w13 r13 k => ?_)
          obtain ⟨v13, rfl, rfl, rfl, rfl, k⟩ := k
          refine xe_if_eq (tgt := 214) dX12_token_141 rfl (fun c14 => ?_) (fun c15 => ?_)
          · have k := k.1 c14
            refine xe_iconst (v := 1) dX12_token_214 rfl ?_
            refine xe_istore_n (ls' := [some (.ref 655), some (.int v7), some (.int (1 : Int32))]) dX12_token_215 rfl (by decide) rfl ?_
            refine xe_aload_n dX12_token_216 rfl ?_
            refine xe_iload_n dX12_token_217 rfl ?_
            refine xe_callS (args := [.int v7]) dX12_token_218 slX12_182 rfl rfl (Nat.le_of_ble_eq_true rfl) k (Nat.le_refl _) (fun rv16 u16 w16 r16 k => ?_)
            obtain ⟨v16, rfl, rfl, rfl, rfl, k⟩ := k
            have K19 : xEv g (d + 1) mX12_token 229 [some (.ref 655), some (.int v7), some (.int (1 : Int32))] [.int (if v16 = 0 then (3 : Int32) else v7), .ref 655] 698 (x2 (x2 u 655 7 (u 655 4)) 655 8 (0 : Int32)) (x2 w 655 9 (0 : Int64)) r 698 P := by
              refine xe_putI dX12_token_229 flX12_172 kk655 (xKK_lt kk655) nf12_6 rfl ?_
              exact xEv.fewer (ls' := [some (.ref 655), none, some (.int (1 : Int32))]) k (xfw_get (xfw_s (xfw_n (xfw_s (xfw_nil _)))))
            refine xe_if_eq (tgt := 228) dX12_token_221 rfl (fun c17 => ?_) (fun c18 => ?_)
            · refine xe_iconst (v := 3) dX12_token_228 rfl ?_
              exact xtop (if_pos c17) K19
            · refine xe_iload_n dX12_token_224 rfl ?_
              refine xe_goto (tgt := 229) dX12_token_225 rfl ?_
              exact xtop (if_neg (fun q => (c18 q))) K19
          · have k := k.2 (fun q => (c15 q))
            exact xEv.fewer (ls' := [some (.ref 655), none, some (.int (0 : Int32))]) k (xfw_get (xfw_s (xfw_n (xfw_s (xfw_nil _)))))
        · have k := k.2 (fun q => (c12 q))
          exact xEv.fewer (ls' := [some (.ref 655), none, some (.int (0 : Int32))]) k (xfw_get (xfw_s (xfw_n (xfw_s (xfw_nil _)))))
      · have k := k.2 (fun q => (c9 q))
        refine xe_aload_n dX12_token_63 rfl ?_
        refine xe_iconst (v := 0) dX12_token_64 rfl ?_
        refine xe_putI dX12_token_65 flX12_172 kk655 (xKK_lt kk655) nf12_6 rfl ?_
        refine xe_goto (tgt := 232) dX12_token_68 rfl ?_
        exact xEv.fewer (ls' := [some (.ref 655), none, some (.int (0 : Int32))]) k (xfw_get (xfw_s (xfw_n (xfw_s (xfw_nil _)))))
    · have k := k.1 c6
      exact k

theorem CX12_token {g : xGT} {d : Nat} {u : xU} {w : xW} {r : xQ} {P : xPost}
    (k : xCall g d mX12_here [.ref 655, .int (0 : Int32)] 698 u w r 698 (fun rv1 u1 w1 r1 => ∃ v1 : Int32, rv1 = some (.int v1) ∧ u = u1 ∧ w = w1 ∧ r = r1 ∧ (v1 = (32 : Int32) → xEv g (d + 1) mX12_token 20 [some (.ref 655), none, none] [] 698 u w r 698 P) ∧ (¬ (v1 = (32 : Int32)) → xCall g d mX12_here [.ref 655, .int (0 : Int32)] 698 u w r 698 (fun rv4 u4 w4 r4 => ∃ v4 : Int32, rv4 = some (.int v4) ∧ u = u4 ∧ w = w4 ∧ r = r4 ∧ (v4 = (10 : Int32) → xEv g (d + 1) mX12_token 20 [some (.ref 655), none, none] [] 698 u w r 698 P) ∧ (¬ (v4 = (10 : Int32)) → xCall g d mX12_here [.ref 655, .int (0 : Int32)] 698 (x2 u 655 7 (u 655 4)) w r 698 (fun rv7 u7 w7 r7 => ∃ v7 : Int32, rv7 = some (.int v7) ∧ (x2 u 655 7 (u 655 4)) = u7 ∧ w = w7 ∧ r = r7 ∧ (0 ≤ v7 → xCall g d mX12_isLetter [.int v7] 698 (x2 (x2 u 655 7 (u 655 4)) 655 8 (0 : Int32)) (x2 w 655 9 (0 : Int64)) r 698 (fun rv10 u10 w10 r10 => ∃ v10 : Int32, rv10 = some (.int v10) ∧ (x2 (x2 u 655 7 (u 655 4)) 655 8 (0 : Int32)) = u10 ∧ (x2 w 655 9 (0 : Int64)) = w10 ∧ r = r10 ∧ (v10 = 0 → xCall g d mX12_isDigit [.int v7] 698 (x2 (x2 u 655 7 (u 655 4)) 655 8 (0 : Int32)) (x2 w 655 9 (0 : Int64)) r 698 (fun rv13 u13 w13 r13 => ∃ v13 : Int32, rv13 = some (.int v13) ∧ (x2 (x2 u 655 7 (u 655 4)) 655 8 (0 : Int32)) = u13 ∧ (x2 w 655 9 (0 : Int64)) = w13 ∧ r = r13 ∧ (v13 = 0 → xCall g d mX12_isSign [.int v7] 698 (x2 (x2 u 655 7 (u 655 4)) 655 8 (0 : Int32)) (x2 w 655 9 (0 : Int64)) r 698 (fun rv16 u16 w16 r16 => ∃ v16 : Int32, rv16 = some (.int v16) ∧ (x2 (x2 u 655 7 (u 655 4)) 655 8 (0 : Int32)) = u16 ∧ (x2 w 655 9 (0 : Int64)) = w16 ∧ r = r16 ∧ xEv g (d + 1) mX12_token 232 [some (.ref 655), none, some (.int (1 : Int32))] [] 698 (x2 (x2 (x2 u 655 7 (u 655 4)) 655 8 (0 : Int32)) 655 6 (if v16 = 0 then (3 : Int32) else v7)) (x2 w 655 9 (0 : Int64)) r 698 P)) ∧ (¬ (v13 = 0) → xEv g (d + 1) mX12_token 144 [some (.ref 655), none, some (.int (0 : Int32))] [] 698 (x2 (x2 u 655 7 (u 655 4)) 655 8 (0 : Int32)) (x2 w 655 9 (0 : Int64)) r 698 P))) ∧ (¬ (v10 = 0) → xEv g (d + 1) mX12_token 78 [some (.ref 655), none, some (.int (0 : Int32))] [] 698 (x2 (x2 u 655 7 (u 655 4)) 655 8 (0 : Int32)) (x2 w 655 9 (0 : Int64)) r 698 P))) ∧ (¬ (0 ≤ v7) → xEv g (d + 1) mX12_token 232 [some (.ref 655), none, some (.int (0 : Int32))] [] 698 (x2 (x2 (x2 u 655 7 (u 655 4)) 655 8 (0 : Int32)) 655 6 (0 : Int32)) (x2 w 655 9 (0 : Int64)) r 698 P))))))) :
    xCall g (d + 1) mX12_token [.ref 655] 698 u w r 698 P :=
  xCall.of plX12 (Nat.le_of_ble_eq_true rfl) rfl (TX12_token_0  k)

theorem TX12_token_20 {g : xGT} {d : Nat} {u : xU} {w : xW} {r : xQ} {P : xPost}
    (k : xEv g (d + 1) mX12_token 0 [some (.ref 655), none, none] [] 698 (x2 u 655 4 ((u 655 4) + (1 : Int32))) w r 698 P) :
    xEv g (d + 1) mX12_token 20 [some (.ref 655), none, none] [] 698 u w r 698 P := by
  refine xe_aload_n dX12_token_20 rfl ?_
  refine xe_dup dX12_token_21 rfl ?_
  refine xe_getI dX12_token_22 flX12_152 kk655 (xKK_lt kk655) rfl ?_
  refine xe_iconst (v := 1) dX12_token_25 rfl ?_
  refine xe_iadd dX12_token_26 ?_
  refine xe_putI dX12_token_27 flX12_152 kk655 (xKK_lt kk655) nf12_4 rfl ?_
  refine xe_goto (tgt := 0) dX12_token_30 rfl ?_
  exact k

theorem TX12_token_232 {g : xGT} {d : Nat} {i2 : Int32} {u : xU} {w : xW} {r : xQ} {P : xPost}
    (k : ((u 655 6) = (3 : Int32) → P none u w r) ∧ (¬ ((u 655 6) = (3 : Int32)) → P none (x2 u 655 4 ((u 655 4) + i2)) w r)) :
    xEv g (d + 1) mX12_token 232 [some (.ref 655), none, some (.int i2)] [] 698 u w r 698 P := by
  refine xe_aload_n dX12_token_232 rfl ?_
  refine xe_getI dX12_token_233 flX12_172 kk655 (xKK_lt kk655) rfl ?_
  refine xe_iconst (v := 3) dX12_token_236 rfl ?_
  refine xe_icmp_eq (tgt := 250) dX12_token_237 rfl (fun c20 => ?_) (fun c21 => ?_)
  · have k := k.1 c20
    exact xe_return dX12_token_250 trivial k
  · have k := k.2 (fun q => (c21 q))
    refine xe_aload_n dX12_token_240 rfl ?_
    refine xe_dup dX12_token_241 rfl ?_
    refine xe_getI dX12_token_242 flX12_152 kk655 (xKK_lt kk655) rfl ?_
    refine xe_iload_n dX12_token_245 rfl ?_
    refine xe_iadd dX12_token_246 ?_
    refine xe_putI dX12_token_247 flX12_152 kk655 (xKK_lt kk655) nf12_4 rfl ?_
    exact xe_return dX12_token_250 trivial k

theorem TX12_token_144 {g : xGT} {d : Nat} {i2 : Int32} {u : xU} {w : xW} {r : xQ} {P : xPost}
    (k : xCall g d mX12_here [.ref 655, .int i2] 698 u w r 698 (fun rv22 u22 w22 r22 => ∃ v22 : Int32, rv22 = some (.int v22) ∧ u = u22 ∧ w = w22 ∧ r = r22 ∧ xCall g d mX12_isDigit [.int v22] 698 u w r 698 (fun rv23 u23 w23 r23 => ∃ v23 : Int32, rv23 = some (.int v23) ∧ u = u23 ∧ w = w23 ∧ r = r23 ∧ (v23 = 0 → ((4 : Int32) < i2 → xEv g (d + 1) mX12_token 203 [some (.ref 655), none, some (.int i2)] [.ref 655] 698 u w r 698 P) ∧ (¬ ((4 : Int32) < i2) → xCall g d mX12_here [.ref 655, .int i2] 698 u w r 698 (fun rv28 u28 w28 r28 => ∃ v28 : Int32, rv28 = some (.int v28) ∧ u = u28 ∧ w = w28 ∧ r = r28 ∧ xCall g d mX12_isLetter [.int v28] 698 u w r 698 (fun rv29 u29 w29 r29 => ∃ v29 : Int32, rv29 = some (.int v29) ∧ u = u29 ∧ w = w29 ∧ r = r29 ∧ (v29 = 0 → xEv g (d + 1) mX12_token 208 [some (.ref 655), none, some (.int i2)] [.int (2 : Int32), .ref 655] 698 u w r 698 P) ∧ (¬ (v29 = 0) → xEv g (d + 1) mX12_token 203 [some (.ref 655), none, some (.int i2)] [.ref 655] 698 u w r 698 P))))) ∧ (¬ (v23 = 0) → ((4 : Int32) ≤ i2 → xEv g (d + 1) mX12_token 180 [some (.ref 655), none, some (.int i2)] [] 698 u w r 698 P) ∧ (¬ ((4 : Int32) ≤ i2) → xCall g d mX12_here [.ref 655, .int i2] 698 u w r 698 (fun rv34 u34 w34 r34 => ∃ v34 : Int32, rv34 = some (.int v34) ∧ u = u34 ∧ w = w34 ∧ r = r34 ∧ xEv g (d + 1) mX12_token 180 [some (.ref 655), none, some (.int i2)] [] 698 (x2 u 655 8 ((((10 : Int32) * (u 655 8)) + v34) - (48 : Int32))) w r 698 P)))))) :
    xEv g (d + 1) mX12_token 144 [some (.ref 655), none, some (.int i2)] [] 698 u w r 698 P := by
  refine xe_aload_n dX12_token_144 rfl ?_
  refine xe_iload_n dX12_token_145 rfl ?_
  refine xe_callV (args := [.int i2]) dX12_token_146 vlX12_158 rfl rfl (Nat.le_of_ble_eq_true rfl) kk655 (xKK_lt kk655) rfl rfl k (Nat.le_refl _) (fun rv22 u22 w22 r22 k => ?_)
  obtain ⟨v22, rfl, rfl, rfl, rfl, k⟩ := k
  refine xe_callS (args := [.int v22]) dX12_token_149 slX12_179 rfl rfl (Nat.le_of_ble_eq_true rfl) k (Nat.le_refl _) (fun rv23 u23 w23 r23 k => ?_)
  obtain ⟨v23, rfl, rfl, rfl, rfl, k⟩ := k
  refine xe_if_eq (tgt := 186) dX12_token_152 rfl (fun c24 => ?_) (fun c25 => ?_)
  · have k := k.1 c24
    refine xe_aload_n dX12_token_186 rfl ?_
    refine xe_iload_n dX12_token_187 rfl ?_
    refine xe_iconst (v := 4) dX12_token_188 rfl ?_
    refine xe_icmp_gt (tgt := 203) dX12_token_189 rfl (fun c26 => ?_) (fun c27 => ?_)
    · have k := k.1 c26
      exact k
    · have k := k.2 (fun q => (c27 q))
      refine xe_aload_n dX12_token_192 rfl ?_
      refine xe_iload_n dX12_token_193 rfl ?_
      refine xe_callV (args := [.int i2]) dX12_token_194 vlX12_158 rfl rfl (Nat.le_of_ble_eq_true rfl) kk655 (xKK_lt kk655) rfl rfl k (Nat.le_refl _) (fun rv28 u28 w28 r28 k => ?_)
      obtain ⟨v28, rfl, rfl, rfl, rfl, k⟩ := k
      refine xe_callS (args := [.int v28]) dX12_token_197 slX12_175 rfl rfl (Nat.le_of_ble_eq_true rfl) k (Nat.le_refl _) (fun rv29 u29 w29 r29 k => ?_)
      obtain ⟨v29, rfl, rfl, rfl, rfl, k⟩ := k
      refine xe_if_eq (tgt := 207) dX12_token_200 rfl (fun c30 => ?_) (fun c31 => ?_)
      · have k := k.1 c30
        refine xe_iconst (v := 2) dX12_token_207 rfl ?_
        exact k
      · have k := k.2 (fun q => (c31 q))
        exact k
  · have k := k.2 (fun q => (c25 q))
    refine xe_iload_n dX12_token_155 rfl ?_
    refine xe_iconst (v := 4) dX12_token_156 rfl ?_
    refine xe_icmp_ge (tgt := 180) dX12_token_157 rfl (fun c32 => ?_) (fun c33 => ?_)
    · have k := k.1 c32
      exact k
    · have k := k.2 (fun q => (c33 q))
      refine xe_aload_n dX12_token_160 rfl ?_
      refine xe_bipush (v := 10) dX12_token_161 rfl ?_
      refine xe_aload_n dX12_token_163 rfl ?_
      refine xe_getI dX12_token_164 flX12_169 kk655 (xKK_lt kk655) rfl ?_
      refine xe_imul dX12_token_167 ?_
      refine xe_aload_n dX12_token_168 rfl ?_
      refine xe_iload_n dX12_token_169 rfl ?_
      refine xe_callV (args := [.int i2]) dX12_token_170 vlX12_158 rfl rfl (Nat.le_of_ble_eq_true rfl) kk655 (xKK_lt kk655) rfl rfl k (Nat.le_refl _) (fun rv34 u34 w34 r34 k => ?_)
      obtain ⟨v34, rfl, rfl, rfl, rfl, k⟩ := k
      refine xe_iadd dX12_token_173 ?_
      refine xe_bipush (v := 48) dX12_token_174 rfl ?_
      refine xe_isub dX12_token_176 ?_
      refine xe_putI dX12_token_177 flX12_169 kk655 (xKK_lt kk655) nf12_8 rfl ?_
      exact k

theorem TX12_token_78 {g : xGT} {d : Nat} {i2 : Int32} {u : xU} {w : xW} {r : xQ} {P : xPost}
    (k : xCall g d mX12_here [.ref 655, .int i2] 698 u w r 698 (fun rv35 u35 w35 r35 => ∃ v35 : Int32, rv35 = some (.int v35) ∧ u = u35 ∧ w = w35 ∧ r = r35 ∧ xCall g d mX12_isLetter [.int v35] 698 u w r 698 (fun rv36 u36 w36 r36 => ∃ v36 : Int32, rv36 = some (.int v36) ∧ u = u36 ∧ w = w36 ∧ r = r36 ∧ (v36 = 0 → xEv g (d + 1) mX12_token 232 [some (.ref 655), none, some (.int i2)] [] 698 (x2 u 655 6 (if i2 ≤ (8 : Int32) then (1 : Int32) else (3 : Int32))) w r 698 P) ∧ (¬ (v36 = 0) → ((8 : Int32) ≤ i2 → xEv g (d + 1) mX12_token 113 [some (.ref 655), none, some (.int i2)] [] 698 u w r 698 P) ∧ (¬ ((8 : Int32) ≤ i2) → xCall g d mX12_here [.ref 655, .int i2] 698 u w r 698 (fun rv44 u44 w44 r44 => ∃ v44 : Int32, rv44 = some (.int v44) ∧ u = u44 ∧ w = w44 ∧ r = r44 ∧ xEv g (d + 1) mX12_token 113 [some (.ref 655), none, some (.int i2)] [] 698 u (x2 w 655 9 (((w 655 9) <<< ((8 : Int32).toInt64 &&& 63)) ||| v44.toInt64)) r 698 P)))))) :
    xEv g (d + 1) mX12_token 78 [some (.ref 655), none, some (.int i2)] [] 698 u w r 698 P := by
  refine xe_aload_n dX12_token_78 rfl ?_
  refine xe_iload_n dX12_token_79 rfl ?_
  refine xe_callV (args := [.int i2]) dX12_token_80 vlX12_158 rfl rfl (Nat.le_of_ble_eq_true rfl) kk655 (xKK_lt kk655) rfl rfl k (Nat.le_refl _) (fun rv35 u35 w35 r35 k => ?_)
  obtain ⟨v35, rfl, rfl, rfl, rfl, k⟩ := k
  refine xe_callS (args := [.int v35]) dX12_token_83 slX12_175 rfl rfl (Nat.le_of_ble_eq_true rfl) k (Nat.le_refl _) (fun rv36 u36 w36 r36 k => ?_)
  obtain ⟨v36, rfl, rfl, rfl, rfl, k⟩ := k
  refine xe_if_eq (tgt := 119) dX12_token_86 rfl (fun c37 => ?_) (fun c38 => ?_)
  · have k := k.1 c37
    refine xe_aload_n dX12_token_119 rfl ?_
    refine xe_iload_n dX12_token_120 rfl ?_
    refine xe_bipush (v := 8) dX12_token_121 rfl ?_
    have K41 : xEv g (d + 1) mX12_token 131 [some (.ref 655), none, some (.int i2)] [.int (if i2 ≤ (8 : Int32) then (1 : Int32) else (3 : Int32)), .ref 655] 698 u w r 698 P := by
      refine xe_putI dX12_token_131 flX12_172 kk655 (xKK_lt kk655) nf12_6 rfl ?_
      refine xe_goto (tgt := 232) dX12_token_134 rfl ?_
      exact k
    refine xe_icmp_le (tgt := 130) dX12_token_123 rfl (fun c39 => ?_) (fun c40 => ?_)
    · refine xe_iconst (v := 1) dX12_token_130 rfl ?_
      exact xtop (if_pos c39) K41
    · refine xe_iconst (v := 3) dX12_token_126 rfl ?_
      refine xe_goto (tgt := 131) dX12_token_127 rfl ?_
      exact xtop (if_neg (fun q => (c40 q))) K41
  · have k := k.2 (fun q => (c38 q))
    refine xe_iload_n dX12_token_89 rfl ?_
    refine xe_bipush (v := 8) dX12_token_90 rfl ?_
    refine xe_icmp_ge (tgt := 113) dX12_token_92 rfl (fun c42 => ?_) (fun c43 => ?_)
    · have k := k.1 c42
      exact k
    · have k := k.2 (fun q => (c43 q))
      refine xe_aload_n dX12_token_95 rfl ?_
      refine xe_aload_n dX12_token_96 rfl ?_
      refine xe_getL dX12_token_97 flX12_165 kk655 (xKK_lt kk655) rfl ?_
      refine xe_bipush (v := 8) dX12_token_100 rfl ?_
      refine xe_lshl dX12_token_102 ?_
      refine xe_aload_n dX12_token_103 rfl ?_
      refine xe_iload_n dX12_token_104 rfl ?_
      refine xe_callV (args := [.int i2]) dX12_token_105 vlX12_158 rfl rfl (Nat.le_of_ble_eq_true rfl) kk655 (xKK_lt kk655) rfl rfl k (Nat.le_refl _) (fun rv44 u44 w44 r44 k => ?_)
      obtain ⟨v44, rfl, rfl, rfl, rfl, k⟩ := k
      refine xe_i2l dX12_token_108 ?_
      refine xe_lor dX12_token_109 ?_
      refine xe_putL dX12_token_110 flX12_165 kk655 (xKK_lt kk655) nf12_9 rfl ?_
      exact k

theorem TX12_token_203 {g : xGT} {d : Nat} {i2 : Int32} {u : xU} {w : xW} {r : xQ} {P : xPost}
    (k : xEv g (d + 1) mX12_token 208 [some (.ref 655), none, some (.int i2)] [.int (3 : Int32), .ref 655] 698 u w r 698 P) :
    xEv g (d + 1) mX12_token 203 [some (.ref 655), none, some (.int i2)] [.ref 655] 698 u w r 698 P := by
  refine xe_iconst (v := 3) dX12_token_203 rfl ?_
  refine xe_goto (tgt := 208) dX12_token_204 rfl ?_
  exact k

theorem TX12_token_208 {g : xGT} {d : Nat} {i2 z1 : Int32} {u : xU} {w : xW} {r : xQ} {P : xPost}
    (k : xEv g (d + 1) mX12_token 232 [some (.ref 655), none, some (.int i2)] [] 698 (x2 u 655 6 z1) w r 698 P) :
    xEv g (d + 1) mX12_token 208 [some (.ref 655), none, some (.int i2)] [.int z1, .ref 655] 698 u w r 698 P := by
  refine xe_putI dX12_token_208 flX12_172 kk655 (xKK_lt kk655) nf12_6 rfl ?_
  refine xe_goto (tgt := 232) dX12_token_211 rfl ?_
  exact k

theorem TX12_token_180 {g : xGT} {d : Nat} {i2 : Int32} {u : xU} {w : xW} {r : xQ} {P : xPost}
    (k : xEv g (d + 1) mX12_token 144 [some (.ref 655), none, some (.int (i2 + (1 : Int32)))] [] 698 u w r 698 P) :
    xEv g (d + 1) mX12_token 180 [some (.ref 655), none, some (.int i2)] [] 698 u w r 698 P := by
  refine xe_iinc (v := (i2 + (1 : Int32))) (ls' := [some (.ref 655), none, some (.int (i2 + (1 : Int32)))]) dX12_token_180 rfl (by decide) rfl rfl ?_
  refine xe_goto (tgt := 144) dX12_token_183 rfl ?_
  exact k

theorem TX12_token_113 {g : xGT} {d : Nat} {i2 : Int32} {u : xU} {w : xW} {r : xQ} {P : xPost}
    (k : xEv g (d + 1) mX12_token 78 [some (.ref 655), none, some (.int (i2 + (1 : Int32)))] [] 698 u w r 698 P) :
    xEv g (d + 1) mX12_token 113 [some (.ref 655), none, some (.int i2)] [] 698 u w r 698 P := by
  refine xe_iinc (v := (i2 + (1 : Int32))) (ls' := [some (.ref 655), none, some (.int (i2 + (1 : Int32)))]) dX12_token_113 rfl (by decide) rfl rfl ?_
  refine xe_goto (tgt := 78) dX12_token_116 rfl ?_
  exact k

/-! FuneralPostModel.wrong -/

theorem TX12_wrong_0 {g : xGT} {d : Nat} {i1 : Int32} {u : xU} {w : xW} {r : xQ} {P : xPost}
    (k : ((u 655 2) ≤ 0 → P none (x2 (x2 u 655 2 (if (u 655 6) = (3 : Int32) then (1 : Int32) else i1)) 655 3 (u 655 7)) w r) ∧ (¬ ((u 655 2) ≤ 0) → P none u w r)) :
    xEv g d mX12_wrong 0 [some (.ref 655), some (.int i1)] [] 698 u w r 698 P := by
  refine xe_aload_n dX12_wrong_0 rfl ?_
  refine xe_getI dX12_wrong_1 flX12_185 kk655 (xKK_lt kk655) rfl ?_
  refine xe_if_le (tgt := 8) dX12_wrong_4 rfl (fun c1 => ?_) (fun c2 => ?_)
  · have k := k.1 c1
    refine xe_aload_n dX12_wrong_8 rfl ?_
    refine xe_aload_n dX12_wrong_9 rfl ?_
    refine xe_getI dX12_wrong_10 flX12_172 kk655 (xKK_lt kk655) rfl ?_
    refine xe_iconst (v := 3) dX12_wrong_13 rfl ?_
    have K5 : xEv g d mX12_wrong 22 [some (.ref 655), some (.int i1)] [.int (if (u 655 6) = (3 : Int32) then (1 : Int32) else i1), .ref 655] 698 u w r 698 P := by
      refine xe_putI dX12_wrong_22 flX12_185 kk655 (xKK_lt kk655) nf12_2 rfl ?_
      refine xe_aload_n dX12_wrong_25 rfl ?_
      refine xe_aload_n dX12_wrong_26 rfl ?_
      refine xe_getI dX12_wrong_27 flX12_162 kk655 (xKK_lt kk655) rfl ?_
      refine xe_putI dX12_wrong_30 flX12_13 kk655 (xKK_lt kk655) nf12_3 rfl ?_
      exact xe_return dX12_wrong_33 trivial k
    refine xe_icmp_ne (tgt := 21) dX12_wrong_14 rfl (fun c3 => ?_) (fun c4 => ?_)
    · refine xe_iload_n dX12_wrong_21 rfl ?_
      exact xtop (if_neg (fun q => (c3 q))) K5
    · refine xe_iconst (v := 1) dX12_wrong_17 rfl ?_
      refine xe_goto (tgt := 22) dX12_wrong_18 rfl ?_
      exact xtop (if_pos c4) K5
  · have k := k.2 (fun q => (c2 q))
    exact xe_return dX12_wrong_7 trivial k

theorem CX12_wrong {g : xGT} {d : Nat} {i1 : Int32} {u : xU} {w : xW} {r : xQ} {P : xPost}
    (k : ((u 655 2) ≤ 0 → P none (x2 (x2 u 655 2 (if (u 655 6) = (3 : Int32) then (1 : Int32) else i1)) 655 3 (u 655 7)) w r) ∧ (¬ ((u 655 2) ≤ 0) → P none u w r)) :
    xCall g d mX12_wrong [.ref 655, .int i1] 698 u w r 698 P :=
  xCall.of plX12 (Nat.le_of_ble_eq_true rfl) rfl (TX12_wrong_0  k)

/-! FuneralPostModel.isWord -/

theorem TX12_isWord_0 {g : xGT} {d : Nat} {y1 : Int64} {u : xU} {w : xW} {r : xQ} {P : xPost}
    (k : P (some (.int (xb ((u 655 6) = (1 : Int32) ∧ (lg_cmp (w 655 9) y1) = 0)))) u w r) :
    xEv g d mX12_isWord 0 [some (.ref 655), some (.long y1), none] [] 698 u w r 698 P := by
  refine xe_aload_n dX12_isWord_0 rfl ?_
  refine xe_getI dX12_isWord_1 flX12_172 kk655 (xKK_lt kk655) rfl ?_
  refine xe_iconst (v := 1) dX12_isWord_4 rfl ?_
  have K5 : xEv g d mX12_isWord 22 [some (.ref 655), some (.long y1), none] [.int (xb ((u 655 6) = (1 : Int32) ∧ (lg_cmp (w 655 9) y1) = 0))] 698 u w r 698 P := by
    exact xe_ireturn dX12_isWord_22 (xrokZ (xb01 _)) k
  refine xe_icmp_ne (tgt := 21) dX12_isWord_5 rfl (fun c1 => ?_) (fun c2 => ?_)
  · refine xe_iconst (v := 0) dX12_isWord_21 rfl ?_
    exact xtop (xb_neg (show ¬ ((u 655 6) = (1 : Int32) ∧ (lg_cmp (w 655 9) y1) = 0) from (fun q => (c1 q.1)))) K5
  · refine xe_aload_n dX12_isWord_8 rfl ?_
    refine xe_getL dX12_isWord_9 flX12_165 kk655 (xKK_lt kk655) rfl ?_
    refine xe_lload_n dX12_isWord_12 rfl ?_
    refine xe_lcmp dX12_isWord_13 ?_
    refine xe_if_ne (tgt := 21) dX12_isWord_14 rfl (fun c3 => ?_) (fun c4 => ?_)
    · refine xe_iconst (v := 0) dX12_isWord_21 rfl ?_
      exact xtop (xb_neg (show ¬ ((u 655 6) = (1 : Int32) ∧ (lg_cmp (w 655 9) y1) = 0) from (fun q => (c3 q.2)))) K5
    · refine xe_iconst (v := 1) dX12_isWord_17 rfl ?_
      refine xe_goto (tgt := 22) dX12_isWord_18 rfl ?_
      exact xtop (xb_pos (show ((u 655 6) = (1 : Int32) ∧ (lg_cmp (w 655 9) y1) = 0) from ⟨c2, c4⟩)) K5

theorem CX12_isWord {g : xGT} {d : Nat} {y1 : Int64} {u : xU} {w : xW} {r : xQ} {P : xPost}
    (k : P (some (.int (xb ((u 655 6) = (1 : Int32) ∧ (lg_cmp (w 655 9) y1) = 0)))) u w r) :
    xCall g d mX12_isWord [.ref 655, .long y1] 698 u w r 698 P :=
  xCall.of plX12 (Nat.le_of_ble_eq_true rfl) rfl (TX12_isWord_0  k)

/-! FuneralPostModel.isOwn -/

set_option maxRecDepth 20000 in
theorem TX12_isOwn_0 {g : xGT} {d : Nat} {u : xU} {w : xW} {r : xQ} {P : xPost}
    (k : P (some (.int (xb ((lg_cmp (w 655 9) (33329961647564645 : Int64)) = 0 ∨ ((lg_cmp (w 655 9) (7823737 : Int64)) = 0 ∨ ((lg_cmp (w 655 9) (1651074418 : Int64)) = 0 ∨ ((lg_cmp (w 655 9) (1718775661 : Int64)) = 0 ∨ ((lg_cmp (w 655 9) (29807 : Int64)) = 0 ∨ ((lg_cmp (w 655 9) (28526 : Int64)) = 0 ∨ ((lg_cmp (w 655 9) (448545973363 : Int64)) = 0 ∨ ((lg_cmp (w 655 9) (119183001281906 : Int64)) = 0 ∨ ((lg_cmp (w 655 9) (24948 : Int64)) = 0 ∨ ((lg_cmp (w 655 9) (25209 : Int64)) = 0 ∨ ((lg_cmp (w 655 9) (512970880104 : Int64)) = 0 ∨ ((lg_cmp (w 655 9) (2002872692 : Int64)) = 0 ∨ ((lg_cmp (w 655 9) (131294708393330 : Int64)) = 0 ∨ ((lg_cmp (w 655 9) (6578553 : Int64)) = 0 ∨ ((lg_cmp (w 655 9) (2002876787 : Int64)) = 0 ∨ ((lg_cmp (w 655 9) (1919251316 : Int64)) = 0 ∨ ((lg_cmp (w 655 9) (6385252 : Int64)) = 0 ∨ ((lg_cmp (w 655 9) (28530 : Int64)) = 0 ∨ (lg_cmp (w 655 9) (7237492 : Int64)) = 0))))))))))))))))))))) u w r) :
    xEv g d mX12_isOwn 0 [some (.ref 655)] [] 698 u w r 698 P := by
  refine xe_aload_n dX12_isOwn_0 rfl ?_
  refine xe_getL dX12_isOwn_1 flX12_165 kk655 (xKK_lt kk655) rfl ?_
  refine xe_ldc2 (v := 33329961647564645) dX12_isOwn_4 (xT_at 1634 (by decide +kernel) (by decide +kernel)) ?_
  refine xe_lcmp dX12_isOwn_7 ?_
  have K39 : xEv g d mX12_isOwn 214 [some (.ref 655)] [.int (xb ((lg_cmp (w 655 9) (33329961647564645 : Int64)) = 0 ∨ ((lg_cmp (w 655 9) (7823737 : Int64)) = 0 ∨ ((lg_cmp (w 655 9) (1651074418 : Int64)) = 0 ∨ ((lg_cmp (w 655 9) (1718775661 : Int64)) = 0 ∨ ((lg_cmp (w 655 9) (29807 : Int64)) = 0 ∨ ((lg_cmp (w 655 9) (28526 : Int64)) = 0 ∨ ((lg_cmp (w 655 9) (448545973363 : Int64)) = 0 ∨ ((lg_cmp (w 655 9) (119183001281906 : Int64)) = 0 ∨ ((lg_cmp (w 655 9) (24948 : Int64)) = 0 ∨ ((lg_cmp (w 655 9) (25209 : Int64)) = 0 ∨ ((lg_cmp (w 655 9) (512970880104 : Int64)) = 0 ∨ ((lg_cmp (w 655 9) (2002872692 : Int64)) = 0 ∨ ((lg_cmp (w 655 9) (131294708393330 : Int64)) = 0 ∨ ((lg_cmp (w 655 9) (6578553 : Int64)) = 0 ∨ ((lg_cmp (w 655 9) (2002876787 : Int64)) = 0 ∨ ((lg_cmp (w 655 9) (1919251316 : Int64)) = 0 ∨ ((lg_cmp (w 655 9) (6385252 : Int64)) = 0 ∨ ((lg_cmp (w 655 9) (28530 : Int64)) = 0 ∨ (lg_cmp (w 655 9) (7237492 : Int64)) = 0)))))))))))))))))))] 698 u w r 698 P := by
    exact xe_ireturn dX12_isOwn_214 (xrokZ (xb01 _)) k
  refine xe_if_eq (tgt := 209) dX12_isOwn_8 rfl (fun c1 => ?_) (fun c2 => ?_)
  · refine xe_iconst (v := 1) dX12_isOwn_209 rfl ?_
    refine xe_goto (tgt := 214) dX12_isOwn_210 rfl ?_
    exact xtop (xb_pos (show ((lg_cmp (w 655 9) (33329961647564645 : Int64)) = 0 ∨ ((lg_cmp (w 655 9) (7823737 : Int64)) = 0 ∨ ((lg_cmp (w 655 9) (1651074418 : Int64)) = 0 ∨ ((lg_cmp (w 655 9) (1718775661 : Int64)) = 0 ∨ ((lg_cmp (w 655 9) (29807 : Int64)) = 0 ∨ ((lg_cmp (w 655 9) (28526 : Int64)) = 0 ∨ ((lg_cmp (w 655 9) (448545973363 : Int64)) = 0 ∨ ((lg_cmp (w 655 9) (119183001281906 : Int64)) = 0 ∨ ((lg_cmp (w 655 9) (24948 : Int64)) = 0 ∨ ((lg_cmp (w 655 9) (25209 : Int64)) = 0 ∨ ((lg_cmp (w 655 9) (512970880104 : Int64)) = 0 ∨ ((lg_cmp (w 655 9) (2002872692 : Int64)) = 0 ∨ ((lg_cmp (w 655 9) (131294708393330 : Int64)) = 0 ∨ ((lg_cmp (w 655 9) (6578553 : Int64)) = 0 ∨ ((lg_cmp (w 655 9) (2002876787 : Int64)) = 0 ∨ ((lg_cmp (w 655 9) (1919251316 : Int64)) = 0 ∨ ((lg_cmp (w 655 9) (6385252 : Int64)) = 0 ∨ ((lg_cmp (w 655 9) (28530 : Int64)) = 0 ∨ (lg_cmp (w 655 9) (7237492 : Int64)) = 0)))))))))))))))))) from (Or.inl c1))) K39
  · refine xe_aload_n dX12_isOwn_11 rfl ?_
    refine xe_getL dX12_isOwn_12 flX12_165 kk655 (xKK_lt kk655) rfl ?_
    refine xe_ldc2 (v := 7823737) dX12_isOwn_15 (xT_at 1655 (by decide +kernel) (by decide +kernel)) ?_
    refine xe_lcmp dX12_isOwn_18 ?_
    refine xe_if_eq (tgt := 209) dX12_isOwn_19 rfl (fun c3 => ?_) (fun c4 => ?_)
    · refine xe_iconst (v := 1) dX12_isOwn_209 rfl ?_
      refine xe_goto (tgt := 214) dX12_isOwn_210 rfl ?_
      exact xtop (xb_pos (show ((lg_cmp (w 655 9) (33329961647564645 : Int64)) = 0 ∨ ((lg_cmp (w 655 9) (7823737 : Int64)) = 0 ∨ ((lg_cmp (w 655 9) (1651074418 : Int64)) = 0 ∨ ((lg_cmp (w 655 9) (1718775661 : Int64)) = 0 ∨ ((lg_cmp (w 655 9) (29807 : Int64)) = 0 ∨ ((lg_cmp (w 655 9) (28526 : Int64)) = 0 ∨ ((lg_cmp (w 655 9) (448545973363 : Int64)) = 0 ∨ ((lg_cmp (w 655 9) (119183001281906 : Int64)) = 0 ∨ ((lg_cmp (w 655 9) (24948 : Int64)) = 0 ∨ ((lg_cmp (w 655 9) (25209 : Int64)) = 0 ∨ ((lg_cmp (w 655 9) (512970880104 : Int64)) = 0 ∨ ((lg_cmp (w 655 9) (2002872692 : Int64)) = 0 ∨ ((lg_cmp (w 655 9) (131294708393330 : Int64)) = 0 ∨ ((lg_cmp (w 655 9) (6578553 : Int64)) = 0 ∨ ((lg_cmp (w 655 9) (2002876787 : Int64)) = 0 ∨ ((lg_cmp (w 655 9) (1919251316 : Int64)) = 0 ∨ ((lg_cmp (w 655 9) (6385252 : Int64)) = 0 ∨ ((lg_cmp (w 655 9) (28530 : Int64)) = 0 ∨ (lg_cmp (w 655 9) (7237492 : Int64)) = 0)))))))))))))))))) from (Or.inr (Or.inl c3)))) K39
    · refine xe_aload_n dX12_isOwn_22 rfl ?_
      refine xe_getL dX12_isOwn_23 flX12_165 kk655 (xKK_lt kk655) rfl ?_
      refine xe_ldc2 (v := 1651074418) dX12_isOwn_26 (xT_at 1656 (by decide +kernel) (by decide +kernel)) ?_
      refine xe_lcmp dX12_isOwn_29 ?_
      refine xe_if_eq (tgt := 209) dX12_isOwn_30 rfl (fun c5 => ?_) (fun c6 => ?_)
      · refine xe_iconst (v := 1) dX12_isOwn_209 rfl ?_
        refine xe_goto (tgt := 214) dX12_isOwn_210 rfl ?_
        exact xtop (xb_pos (show ((lg_cmp (w 655 9) (33329961647564645 : Int64)) = 0 ∨ ((lg_cmp (w 655 9) (7823737 : Int64)) = 0 ∨ ((lg_cmp (w 655 9) (1651074418 : Int64)) = 0 ∨ ((lg_cmp (w 655 9) (1718775661 : Int64)) = 0 ∨ ((lg_cmp (w 655 9) (29807 : Int64)) = 0 ∨ ((lg_cmp (w 655 9) (28526 : Int64)) = 0 ∨ ((lg_cmp (w 655 9) (448545973363 : Int64)) = 0 ∨ ((lg_cmp (w 655 9) (119183001281906 : Int64)) = 0 ∨ ((lg_cmp (w 655 9) (24948 : Int64)) = 0 ∨ ((lg_cmp (w 655 9) (25209 : Int64)) = 0 ∨ ((lg_cmp (w 655 9) (512970880104 : Int64)) = 0 ∨ ((lg_cmp (w 655 9) (2002872692 : Int64)) = 0 ∨ ((lg_cmp (w 655 9) (131294708393330 : Int64)) = 0 ∨ ((lg_cmp (w 655 9) (6578553 : Int64)) = 0 ∨ ((lg_cmp (w 655 9) (2002876787 : Int64)) = 0 ∨ ((lg_cmp (w 655 9) (1919251316 : Int64)) = 0 ∨ ((lg_cmp (w 655 9) (6385252 : Int64)) = 0 ∨ ((lg_cmp (w 655 9) (28530 : Int64)) = 0 ∨ (lg_cmp (w 655 9) (7237492 : Int64)) = 0)))))))))))))))))) from (Or.inr (Or.inr (Or.inl c5))))) K39
      · refine xe_aload_n dX12_isOwn_33 rfl ?_
        refine xe_getL dX12_isOwn_34 flX12_165 kk655 (xKK_lt kk655) rfl ?_
        refine xe_ldc2 (v := 1718775661) dX12_isOwn_37 (xT_at 1657 (by decide +kernel) (by decide +kernel)) ?_
        refine xe_lcmp dX12_isOwn_40 ?_
        refine xe_if_eq (tgt := 209) dX12_isOwn_41 rfl (fun c7 => ?_) (fun c8 => ?_)
        · refine xe_iconst (v := 1) dX12_isOwn_209 rfl ?_
          refine xe_goto (tgt := 214) dX12_isOwn_210 rfl ?_
          exact xtop (xb_pos (show ((lg_cmp (w 655 9) (33329961647564645 : Int64)) = 0 ∨ ((lg_cmp (w 655 9) (7823737 : Int64)) = 0 ∨ ((lg_cmp (w 655 9) (1651074418 : Int64)) = 0 ∨ ((lg_cmp (w 655 9) (1718775661 : Int64)) = 0 ∨ ((lg_cmp (w 655 9) (29807 : Int64)) = 0 ∨ ((lg_cmp (w 655 9) (28526 : Int64)) = 0 ∨ ((lg_cmp (w 655 9) (448545973363 : Int64)) = 0 ∨ ((lg_cmp (w 655 9) (119183001281906 : Int64)) = 0 ∨ ((lg_cmp (w 655 9) (24948 : Int64)) = 0 ∨ ((lg_cmp (w 655 9) (25209 : Int64)) = 0 ∨ ((lg_cmp (w 655 9) (512970880104 : Int64)) = 0 ∨ ((lg_cmp (w 655 9) (2002872692 : Int64)) = 0 ∨ ((lg_cmp (w 655 9) (131294708393330 : Int64)) = 0 ∨ ((lg_cmp (w 655 9) (6578553 : Int64)) = 0 ∨ ((lg_cmp (w 655 9) (2002876787 : Int64)) = 0 ∨ ((lg_cmp (w 655 9) (1919251316 : Int64)) = 0 ∨ ((lg_cmp (w 655 9) (6385252 : Int64)) = 0 ∨ ((lg_cmp (w 655 9) (28530 : Int64)) = 0 ∨ (lg_cmp (w 655 9) (7237492 : Int64)) = 0)))))))))))))))))) from (Or.inr (Or.inr (Or.inr (Or.inl c7)))))) K39
        · refine xe_aload_n dX12_isOwn_44 rfl ?_
          refine xe_getL dX12_isOwn_45 flX12_165 kk655 (xKK_lt kk655) rfl ?_
          refine xe_ldc2 (v := 29807) dX12_isOwn_48 (xT_at 1658 (by decide +kernel) (by decide +kernel)) ?_
          refine xe_lcmp dX12_isOwn_51 ?_
          refine xe_if_eq (tgt := 209) dX12_isOwn_52 rfl (fun c9 => ?_) (fun c10 => ?_)
          · refine xe_iconst (v := 1) dX12_isOwn_209 rfl ?_
            refine xe_goto (tgt := 214) dX12_isOwn_210 rfl ?_
            exact xtop (xb_pos (show ((lg_cmp (w 655 9) (33329961647564645 : Int64)) = 0 ∨ ((lg_cmp (w 655 9) (7823737 : Int64)) = 0 ∨ ((lg_cmp (w 655 9) (1651074418 : Int64)) = 0 ∨ ((lg_cmp (w 655 9) (1718775661 : Int64)) = 0 ∨ ((lg_cmp (w 655 9) (29807 : Int64)) = 0 ∨ ((lg_cmp (w 655 9) (28526 : Int64)) = 0 ∨ ((lg_cmp (w 655 9) (448545973363 : Int64)) = 0 ∨ ((lg_cmp (w 655 9) (119183001281906 : Int64)) = 0 ∨ ((lg_cmp (w 655 9) (24948 : Int64)) = 0 ∨ ((lg_cmp (w 655 9) (25209 : Int64)) = 0 ∨ ((lg_cmp (w 655 9) (512970880104 : Int64)) = 0 ∨ ((lg_cmp (w 655 9) (2002872692 : Int64)) = 0 ∨ ((lg_cmp (w 655 9) (131294708393330 : Int64)) = 0 ∨ ((lg_cmp (w 655 9) (6578553 : Int64)) = 0 ∨ ((lg_cmp (w 655 9) (2002876787 : Int64)) = 0 ∨ ((lg_cmp (w 655 9) (1919251316 : Int64)) = 0 ∨ ((lg_cmp (w 655 9) (6385252 : Int64)) = 0 ∨ ((lg_cmp (w 655 9) (28530 : Int64)) = 0 ∨ (lg_cmp (w 655 9) (7237492 : Int64)) = 0)))))))))))))))))) from (Or.inr (Or.inr (Or.inr (Or.inr (Or.inl c9))))))) K39
          · refine xe_aload_n dX12_isOwn_55 rfl ?_
            refine xe_getL dX12_isOwn_56 flX12_165 kk655 (xKK_lt kk655) rfl ?_
            refine xe_ldc2 (v := 28526) dX12_isOwn_59 (xT_at 1659 (by decide +kernel) (by decide +kernel)) ?_
            refine xe_lcmp dX12_isOwn_62 ?_
            refine xe_if_eq (tgt := 209) dX12_isOwn_63 rfl (fun c11 => ?_) (fun c12 => ?_)
            · refine xe_iconst (v := 1) dX12_isOwn_209 rfl ?_
              refine xe_goto (tgt := 214) dX12_isOwn_210 rfl ?_
              exact xtop (xb_pos (show ((lg_cmp (w 655 9) (33329961647564645 : Int64)) = 0 ∨ ((lg_cmp (w 655 9) (7823737 : Int64)) = 0 ∨ ((lg_cmp (w 655 9) (1651074418 : Int64)) = 0 ∨ ((lg_cmp (w 655 9) (1718775661 : Int64)) = 0 ∨ ((lg_cmp (w 655 9) (29807 : Int64)) = 0 ∨ ((lg_cmp (w 655 9) (28526 : Int64)) = 0 ∨ ((lg_cmp (w 655 9) (448545973363 : Int64)) = 0 ∨ ((lg_cmp (w 655 9) (119183001281906 : Int64)) = 0 ∨ ((lg_cmp (w 655 9) (24948 : Int64)) = 0 ∨ ((lg_cmp (w 655 9) (25209 : Int64)) = 0 ∨ ((lg_cmp (w 655 9) (512970880104 : Int64)) = 0 ∨ ((lg_cmp (w 655 9) (2002872692 : Int64)) = 0 ∨ ((lg_cmp (w 655 9) (131294708393330 : Int64)) = 0 ∨ ((lg_cmp (w 655 9) (6578553 : Int64)) = 0 ∨ ((lg_cmp (w 655 9) (2002876787 : Int64)) = 0 ∨ ((lg_cmp (w 655 9) (1919251316 : Int64)) = 0 ∨ ((lg_cmp (w 655 9) (6385252 : Int64)) = 0 ∨ ((lg_cmp (w 655 9) (28530 : Int64)) = 0 ∨ (lg_cmp (w 655 9) (7237492 : Int64)) = 0)))))))))))))))))) from (Or.inr (Or.inr (Or.inr (Or.inr (Or.inr (Or.inl c11)))))))) K39
            · refine xe_aload_n dX12_isOwn_66 rfl ?_
              refine xe_getL dX12_isOwn_67 flX12_165 kk655 (xKK_lt kk655) rfl ?_
              refine xe_ldc2 (v := 448545973363) dX12_isOwn_70 (xT_at 1660 (by decide +kernel) (by decide +kernel)) ?_
              refine xe_lcmp dX12_isOwn_73 ?_
              refine xe_if_eq (tgt := 209) dX12_isOwn_74 rfl (fun c13 => ?_) (fun c14 => ?_)
              · refine xe_iconst (v := 1) dX12_isOwn_209 rfl ?_
                refine xe_goto (tgt := 214) dX12_isOwn_210 rfl ?_
                exact xtop (xb_pos (show ((lg_cmp (w 655 9) (33329961647564645 : Int64)) = 0 ∨ ((lg_cmp (w 655 9) (7823737 : Int64)) = 0 ∨ ((lg_cmp (w 655 9) (1651074418 : Int64)) = 0 ∨ ((lg_cmp (w 655 9) (1718775661 : Int64)) = 0 ∨ ((lg_cmp (w 655 9) (29807 : Int64)) = 0 ∨ ((lg_cmp (w 655 9) (28526 : Int64)) = 0 ∨ ((lg_cmp (w 655 9) (448545973363 : Int64)) = 0 ∨ ((lg_cmp (w 655 9) (119183001281906 : Int64)) = 0 ∨ ((lg_cmp (w 655 9) (24948 : Int64)) = 0 ∨ ((lg_cmp (w 655 9) (25209 : Int64)) = 0 ∨ ((lg_cmp (w 655 9) (512970880104 : Int64)) = 0 ∨ ((lg_cmp (w 655 9) (2002872692 : Int64)) = 0 ∨ ((lg_cmp (w 655 9) (131294708393330 : Int64)) = 0 ∨ ((lg_cmp (w 655 9) (6578553 : Int64)) = 0 ∨ ((lg_cmp (w 655 9) (2002876787 : Int64)) = 0 ∨ ((lg_cmp (w 655 9) (1919251316 : Int64)) = 0 ∨ ((lg_cmp (w 655 9) (6385252 : Int64)) = 0 ∨ ((lg_cmp (w 655 9) (28530 : Int64)) = 0 ∨ (lg_cmp (w 655 9) (7237492 : Int64)) = 0)))))))))))))))))) from (Or.inr (Or.inr (Or.inr (Or.inr (Or.inr (Or.inr (Or.inl c13))))))))) K39
              · refine xe_aload_n dX12_isOwn_77 rfl ?_
                refine xe_getL dX12_isOwn_78 flX12_165 kk655 (xKK_lt kk655) rfl ?_
                refine xe_ldc2 (v := 119183001281906) dX12_isOwn_81 (xT_at 1661 (by decide +kernel) (by decide +kernel)) ?_
                refine xe_lcmp dX12_isOwn_84 ?_
                refine xe_if_eq (tgt := 209) dX12_isOwn_85 rfl (fun c15 => ?_) (fun c16 => ?_)
                · refine xe_iconst (v := 1) dX12_isOwn_209 rfl ?_
                  refine xe_goto (tgt := 214) dX12_isOwn_210 rfl ?_
                  exact xtop (xb_pos (show ((lg_cmp (w 655 9) (33329961647564645 : Int64)) = 0 ∨ ((lg_cmp (w 655 9) (7823737 : Int64)) = 0 ∨ ((lg_cmp (w 655 9) (1651074418 : Int64)) = 0 ∨ ((lg_cmp (w 655 9) (1718775661 : Int64)) = 0 ∨ ((lg_cmp (w 655 9) (29807 : Int64)) = 0 ∨ ((lg_cmp (w 655 9) (28526 : Int64)) = 0 ∨ ((lg_cmp (w 655 9) (448545973363 : Int64)) = 0 ∨ ((lg_cmp (w 655 9) (119183001281906 : Int64)) = 0 ∨ ((lg_cmp (w 655 9) (24948 : Int64)) = 0 ∨ ((lg_cmp (w 655 9) (25209 : Int64)) = 0 ∨ ((lg_cmp (w 655 9) (512970880104 : Int64)) = 0 ∨ ((lg_cmp (w 655 9) (2002872692 : Int64)) = 0 ∨ ((lg_cmp (w 655 9) (131294708393330 : Int64)) = 0 ∨ ((lg_cmp (w 655 9) (6578553 : Int64)) = 0 ∨ ((lg_cmp (w 655 9) (2002876787 : Int64)) = 0 ∨ ((lg_cmp (w 655 9) (1919251316 : Int64)) = 0 ∨ ((lg_cmp (w 655 9) (6385252 : Int64)) = 0 ∨ ((lg_cmp (w 655 9) (28530 : Int64)) = 0 ∨ (lg_cmp (w 655 9) (7237492 : Int64)) = 0)))))))))))))))))) from (Or.inr (Or.inr (Or.inr (Or.inr (Or.inr (Or.inr (Or.inr (Or.inl c15)))))))))) K39
                · refine xe_aload_n dX12_isOwn_88 rfl ?_
                  refine xe_getL dX12_isOwn_89 flX12_165 kk655 (xKK_lt kk655) rfl ?_
                  refine xe_ldc2 (v := 24948) dX12_isOwn_92 (xT_at 1662 (by decide +kernel) (by decide +kernel)) ?_
                  refine xe_lcmp dX12_isOwn_95 ?_
                  refine xe_if_eq (tgt := 209) dX12_isOwn_96 rfl (fun c17 => ?_) (fun c18 => ?_)
                  · refine xe_iconst (v := 1) dX12_isOwn_209 rfl ?_
                    refine xe_goto (tgt := 214) dX12_isOwn_210 rfl ?_
                    exact xtop (xb_pos (show ((lg_cmp (w 655 9) (33329961647564645 : Int64)) = 0 ∨ ((lg_cmp (w 655 9) (7823737 : Int64)) = 0 ∨ ((lg_cmp (w 655 9) (1651074418 : Int64)) = 0 ∨ ((lg_cmp (w 655 9) (1718775661 : Int64)) = 0 ∨ ((lg_cmp (w 655 9) (29807 : Int64)) = 0 ∨ ((lg_cmp (w 655 9) (28526 : Int64)) = 0 ∨ ((lg_cmp (w 655 9) (448545973363 : Int64)) = 0 ∨ ((lg_cmp (w 655 9) (119183001281906 : Int64)) = 0 ∨ ((lg_cmp (w 655 9) (24948 : Int64)) = 0 ∨ ((lg_cmp (w 655 9) (25209 : Int64)) = 0 ∨ ((lg_cmp (w 655 9) (512970880104 : Int64)) = 0 ∨ ((lg_cmp (w 655 9) (2002872692 : Int64)) = 0 ∨ ((lg_cmp (w 655 9) (131294708393330 : Int64)) = 0 ∨ ((lg_cmp (w 655 9) (6578553 : Int64)) = 0 ∨ ((lg_cmp (w 655 9) (2002876787 : Int64)) = 0 ∨ ((lg_cmp (w 655 9) (1919251316 : Int64)) = 0 ∨ ((lg_cmp (w 655 9) (6385252 : Int64)) = 0 ∨ ((lg_cmp (w 655 9) (28530 : Int64)) = 0 ∨ (lg_cmp (w 655 9) (7237492 : Int64)) = 0)))))))))))))))))) from (Or.inr (Or.inr (Or.inr (Or.inr (Or.inr (Or.inr (Or.inr (Or.inr (Or.inl c17))))))))))) K39
                  · refine xe_aload_n dX12_isOwn_99 rfl ?_
                    refine xe_getL dX12_isOwn_100 flX12_165 kk655 (xKK_lt kk655) rfl ?_
                    refine xe_ldc2 (v := 25209) dX12_isOwn_103 (xT_at 1663 (by decide +kernel) (by decide +kernel)) ?_
                    refine xe_lcmp dX12_isOwn_106 ?_
                    refine xe_if_eq (tgt := 209) dX12_isOwn_107 rfl (fun c19 => ?_) (fun c20 => ?_)
                    · refine xe_iconst (v := 1) dX12_isOwn_209 rfl ?_
                      refine xe_goto (tgt := 214) dX12_isOwn_210 rfl ?_
                      exact xtop (xb_pos (show ((lg_cmp (w 655 9) (33329961647564645 : Int64)) = 0 ∨ ((lg_cmp (w 655 9) (7823737 : Int64)) = 0 ∨ ((lg_cmp (w 655 9) (1651074418 : Int64)) = 0 ∨ ((lg_cmp (w 655 9) (1718775661 : Int64)) = 0 ∨ ((lg_cmp (w 655 9) (29807 : Int64)) = 0 ∨ ((lg_cmp (w 655 9) (28526 : Int64)) = 0 ∨ ((lg_cmp (w 655 9) (448545973363 : Int64)) = 0 ∨ ((lg_cmp (w 655 9) (119183001281906 : Int64)) = 0 ∨ ((lg_cmp (w 655 9) (24948 : Int64)) = 0 ∨ ((lg_cmp (w 655 9) (25209 : Int64)) = 0 ∨ ((lg_cmp (w 655 9) (512970880104 : Int64)) = 0 ∨ ((lg_cmp (w 655 9) (2002872692 : Int64)) = 0 ∨ ((lg_cmp (w 655 9) (131294708393330 : Int64)) = 0 ∨ ((lg_cmp (w 655 9) (6578553 : Int64)) = 0 ∨ ((lg_cmp (w 655 9) (2002876787 : Int64)) = 0 ∨ ((lg_cmp (w 655 9) (1919251316 : Int64)) = 0 ∨ ((lg_cmp (w 655 9) (6385252 : Int64)) = 0 ∨ ((lg_cmp (w 655 9) (28530 : Int64)) = 0 ∨ (lg_cmp (w 655 9) (7237492 : Int64)) = 0)))))))))))))))))) from (Or.inr (Or.inr (Or.inr (Or.inr (Or.inr (Or.inr (Or.inr (Or.inr (Or.inr (Or.inl c19)))))))))))) K39
                    · refine xe_aload_n dX12_isOwn_110 rfl ?_
                      refine xe_getL dX12_isOwn_111 flX12_165 kk655 (xKK_lt kk655) rfl ?_
                      refine xe_ldc2 (v := 512970880104) dX12_isOwn_114 (xT_at 1664 (by decide +kernel) (by decide +kernel)) ?_
                      refine xe_lcmp dX12_isOwn_117 ?_
                      refine xe_if_eq (tgt := 209) dX12_isOwn_118 rfl (fun c21 => ?_) (fun c22 => ?_)
                      · refine xe_iconst (v := 1) dX12_isOwn_209 rfl ?_
                        refine xe_goto (tgt := 214) dX12_isOwn_210 rfl ?_
                        exact xtop (xb_pos (show ((lg_cmp (w 655 9) (33329961647564645 : Int64)) = 0 ∨ ((lg_cmp (w 655 9) (7823737 : Int64)) = 0 ∨ ((lg_cmp (w 655 9) (1651074418 : Int64)) = 0 ∨ ((lg_cmp (w 655 9) (1718775661 : Int64)) = 0 ∨ ((lg_cmp (w 655 9) (29807 : Int64)) = 0 ∨ ((lg_cmp (w 655 9) (28526 : Int64)) = 0 ∨ ((lg_cmp (w 655 9) (448545973363 : Int64)) = 0 ∨ ((lg_cmp (w 655 9) (119183001281906 : Int64)) = 0 ∨ ((lg_cmp (w 655 9) (24948 : Int64)) = 0 ∨ ((lg_cmp (w 655 9) (25209 : Int64)) = 0 ∨ ((lg_cmp (w 655 9) (512970880104 : Int64)) = 0 ∨ ((lg_cmp (w 655 9) (2002872692 : Int64)) = 0 ∨ ((lg_cmp (w 655 9) (131294708393330 : Int64)) = 0 ∨ ((lg_cmp (w 655 9) (6578553 : Int64)) = 0 ∨ ((lg_cmp (w 655 9) (2002876787 : Int64)) = 0 ∨ ((lg_cmp (w 655 9) (1919251316 : Int64)) = 0 ∨ ((lg_cmp (w 655 9) (6385252 : Int64)) = 0 ∨ ((lg_cmp (w 655 9) (28530 : Int64)) = 0 ∨ (lg_cmp (w 655 9) (7237492 : Int64)) = 0)))))))))))))))))) from (Or.inr (Or.inr (Or.inr (Or.inr (Or.inr (Or.inr (Or.inr (Or.inr (Or.inr (Or.inr (Or.inl c21))))))))))))) K39
                      · refine xe_aload_n dX12_isOwn_121 rfl ?_
                        refine xe_getL dX12_isOwn_122 flX12_165 kk655 (xKK_lt kk655) rfl ?_
                        refine xe_ldc2 (v := 2002872692) dX12_isOwn_125 (xT_at 1665 (by decide +kernel) (by decide +kernel)) ?_
                        refine xe_lcmp dX12_isOwn_128 ?_
                        refine xe_if_eq (tgt := 209) dX12_isOwn_129 rfl (fun c23 => ?_) (fun c24 => ?_)
                        · refine xe_iconst (v := 1) dX12_isOwn_209 rfl ?_
                          refine xe_goto (tgt := 214) dX12_isOwn_210 rfl ?_
                          exact xtop (xb_pos (show ((lg_cmp (w 655 9) (33329961647564645 : Int64)) = 0 ∨ ((lg_cmp (w 655 9) (7823737 : Int64)) = 0 ∨ ((lg_cmp (w 655 9) (1651074418 : Int64)) = 0 ∨ ((lg_cmp (w 655 9) (1718775661 : Int64)) = 0 ∨ ((lg_cmp (w 655 9) (29807 : Int64)) = 0 ∨ ((lg_cmp (w 655 9) (28526 : Int64)) = 0 ∨ ((lg_cmp (w 655 9) (448545973363 : Int64)) = 0 ∨ ((lg_cmp (w 655 9) (119183001281906 : Int64)) = 0 ∨ ((lg_cmp (w 655 9) (24948 : Int64)) = 0 ∨ ((lg_cmp (w 655 9) (25209 : Int64)) = 0 ∨ ((lg_cmp (w 655 9) (512970880104 : Int64)) = 0 ∨ ((lg_cmp (w 655 9) (2002872692 : Int64)) = 0 ∨ ((lg_cmp (w 655 9) (131294708393330 : Int64)) = 0 ∨ ((lg_cmp (w 655 9) (6578553 : Int64)) = 0 ∨ ((lg_cmp (w 655 9) (2002876787 : Int64)) = 0 ∨ ((lg_cmp (w 655 9) (1919251316 : Int64)) = 0 ∨ ((lg_cmp (w 655 9) (6385252 : Int64)) = 0 ∨ ((lg_cmp (w 655 9) (28530 : Int64)) = 0 ∨ (lg_cmp (w 655 9) (7237492 : Int64)) = 0)))))))))))))))))) from (Or.inr (Or.inr (Or.inr (Or.inr (Or.inr (Or.inr (Or.inr (Or.inr (Or.inr (Or.inr (Or.inr (Or.inl c23)))))))))))))) K39
                        · refine xe_aload_n dX12_isOwn_132 rfl ?_
                          refine xe_getL dX12_isOwn_133 flX12_165 kk655 (xKK_lt kk655) rfl ?_
                          refine xe_ldc2 (v := 131294708393330) dX12_isOwn_136 (xT_at 1666 (by decide +kernel) (by decide +kernel)) ?_
                          refine xe_lcmp dX12_isOwn_139 ?_
                          refine xe_if_eq (tgt := 209) dX12_isOwn_140 rfl (fun c25 => ?_) (fun c26 => ?_)
                          · refine xe_iconst (v := 1) dX12_isOwn_209 rfl ?_
                            refine xe_goto (tgt := 214) dX12_isOwn_210 rfl ?_
                            exact xtop (xb_pos (show ((lg_cmp (w 655 9) (33329961647564645 : Int64)) = 0 ∨ ((lg_cmp (w 655 9) (7823737 : Int64)) = 0 ∨ ((lg_cmp (w 655 9) (1651074418 : Int64)) = 0 ∨ ((lg_cmp (w 655 9) (1718775661 : Int64)) = 0 ∨ ((lg_cmp (w 655 9) (29807 : Int64)) = 0 ∨ ((lg_cmp (w 655 9) (28526 : Int64)) = 0 ∨ ((lg_cmp (w 655 9) (448545973363 : Int64)) = 0 ∨ ((lg_cmp (w 655 9) (119183001281906 : Int64)) = 0 ∨ ((lg_cmp (w 655 9) (24948 : Int64)) = 0 ∨ ((lg_cmp (w 655 9) (25209 : Int64)) = 0 ∨ ((lg_cmp (w 655 9) (512970880104 : Int64)) = 0 ∨ ((lg_cmp (w 655 9) (2002872692 : Int64)) = 0 ∨ ((lg_cmp (w 655 9) (131294708393330 : Int64)) = 0 ∨ ((lg_cmp (w 655 9) (6578553 : Int64)) = 0 ∨ ((lg_cmp (w 655 9) (2002876787 : Int64)) = 0 ∨ ((lg_cmp (w 655 9) (1919251316 : Int64)) = 0 ∨ ((lg_cmp (w 655 9) (6385252 : Int64)) = 0 ∨ ((lg_cmp (w 655 9) (28530 : Int64)) = 0 ∨ (lg_cmp (w 655 9) (7237492 : Int64)) = 0)))))))))))))))))) from (Or.inr (Or.inr (Or.inr (Or.inr (Or.inr (Or.inr (Or.inr (Or.inr (Or.inr (Or.inr (Or.inr (Or.inr (Or.inl c25))))))))))))))) K39
                          · refine xe_aload_n dX12_isOwn_143 rfl ?_
                            refine xe_getL dX12_isOwn_144 flX12_165 kk655 (xKK_lt kk655) rfl ?_
                            refine xe_ldc2 (v := 6578553) dX12_isOwn_147 (xT_at 1667 (by decide +kernel) (by decide +kernel)) ?_
                            refine xe_lcmp dX12_isOwn_150 ?_
                            refine xe_if_eq (tgt := 209) dX12_isOwn_151 rfl (fun c27 => ?_) (fun c28 => ?_)
                            · refine xe_iconst (v := 1) dX12_isOwn_209 rfl ?_
                              refine xe_goto (tgt := 214) dX12_isOwn_210 rfl ?_
                              exact xtop (xb_pos (show ((lg_cmp (w 655 9) (33329961647564645 : Int64)) = 0 ∨ ((lg_cmp (w 655 9) (7823737 : Int64)) = 0 ∨ ((lg_cmp (w 655 9) (1651074418 : Int64)) = 0 ∨ ((lg_cmp (w 655 9) (1718775661 : Int64)) = 0 ∨ ((lg_cmp (w 655 9) (29807 : Int64)) = 0 ∨ ((lg_cmp (w 655 9) (28526 : Int64)) = 0 ∨ ((lg_cmp (w 655 9) (448545973363 : Int64)) = 0 ∨ ((lg_cmp (w 655 9) (119183001281906 : Int64)) = 0 ∨ ((lg_cmp (w 655 9) (24948 : Int64)) = 0 ∨ ((lg_cmp (w 655 9) (25209 : Int64)) = 0 ∨ ((lg_cmp (w 655 9) (512970880104 : Int64)) = 0 ∨ ((lg_cmp (w 655 9) (2002872692 : Int64)) = 0 ∨ ((lg_cmp (w 655 9) (131294708393330 : Int64)) = 0 ∨ ((lg_cmp (w 655 9) (6578553 : Int64)) = 0 ∨ ((lg_cmp (w 655 9) (2002876787 : Int64)) = 0 ∨ ((lg_cmp (w 655 9) (1919251316 : Int64)) = 0 ∨ ((lg_cmp (w 655 9) (6385252 : Int64)) = 0 ∨ ((lg_cmp (w 655 9) (28530 : Int64)) = 0 ∨ (lg_cmp (w 655 9) (7237492 : Int64)) = 0)))))))))))))))))) from (Or.inr (Or.inr (Or.inr (Or.inr (Or.inr (Or.inr (Or.inr (Or.inr (Or.inr (Or.inr (Or.inr (Or.inr (Or.inr (Or.inl c27)))))))))))))))) K39
                            · refine xe_aload_n dX12_isOwn_154 rfl ?_
                              refine xe_getL dX12_isOwn_155 flX12_165 kk655 (xKK_lt kk655) rfl ?_
                              refine xe_ldc2 (v := 2002876787) dX12_isOwn_158 (xT_at 1668 (by decide +kernel) (by decide +kernel)) ?_
                              refine xe_lcmp dX12_isOwn_161 ?_
                              refine xe_if_eq (tgt := 209) dX12_isOwn_162 rfl (fun c29 => ?_) (fun c30 => ?_)
                              · refine xe_iconst (v := 1) dX12_isOwn_209 rfl ?_
                                refine xe_goto (tgt := 214) dX12_isOwn_210 rfl ?_
                                exact xtop (xb_pos (show ((lg_cmp (w 655 9) (33329961647564645 : Int64)) = 0 ∨ ((lg_cmp (w 655 9) (7823737 : Int64)) = 0 ∨ ((lg_cmp (w 655 9) (1651074418 : Int64)) = 0 ∨ ((lg_cmp (w 655 9) (1718775661 : Int64)) = 0 ∨ ((lg_cmp (w 655 9) (29807 : Int64)) = 0 ∨ ((lg_cmp (w 655 9) (28526 : Int64)) = 0 ∨ ((lg_cmp (w 655 9) (448545973363 : Int64)) = 0 ∨ ((lg_cmp (w 655 9) (119183001281906 : Int64)) = 0 ∨ ((lg_cmp (w 655 9) (24948 : Int64)) = 0 ∨ ((lg_cmp (w 655 9) (25209 : Int64)) = 0 ∨ ((lg_cmp (w 655 9) (512970880104 : Int64)) = 0 ∨ ((lg_cmp (w 655 9) (2002872692 : Int64)) = 0 ∨ ((lg_cmp (w 655 9) (131294708393330 : Int64)) = 0 ∨ ((lg_cmp (w 655 9) (6578553 : Int64)) = 0 ∨ ((lg_cmp (w 655 9) (2002876787 : Int64)) = 0 ∨ ((lg_cmp (w 655 9) (1919251316 : Int64)) = 0 ∨ ((lg_cmp (w 655 9) (6385252 : Int64)) = 0 ∨ ((lg_cmp (w 655 9) (28530 : Int64)) = 0 ∨ (lg_cmp (w 655 9) (7237492 : Int64)) = 0)))))))))))))))))) from (Or.inr (Or.inr (Or.inr (Or.inr (Or.inr (Or.inr (Or.inr (Or.inr (Or.inr (Or.inr (Or.inr (Or.inr (Or.inr (Or.inr (Or.inl c29))))))))))))))))) K39
                              · refine xe_aload_n dX12_isOwn_165 rfl ?_
                                refine xe_getL dX12_isOwn_166 flX12_165 kk655 (xKK_lt kk655) rfl ?_
                                refine xe_ldc2 (v := 1919251316) dX12_isOwn_169 (xT_at 1669 (by decide +kernel) (by decide +kernel)) ?_
                                refine xe_lcmp dX12_isOwn_172 ?_
                                refine xe_if_eq (tgt := 209) dX12_isOwn_173 rfl (fun c31 => ?_) (fun c32 => ?_)
                                · refine xe_iconst (v := 1) dX12_isOwn_209 rfl ?_
                                  refine xe_goto (tgt := 214) dX12_isOwn_210 rfl ?_
                                  exact xtop (xb_pos (show ((lg_cmp (w 655 9) (33329961647564645 : Int64)) = 0 ∨ ((lg_cmp (w 655 9) (7823737 : Int64)) = 0 ∨ ((lg_cmp (w 655 9) (1651074418 : Int64)) = 0 ∨ ((lg_cmp (w 655 9) (1718775661 : Int64)) = 0 ∨ ((lg_cmp (w 655 9) (29807 : Int64)) = 0 ∨ ((lg_cmp (w 655 9) (28526 : Int64)) = 0 ∨ ((lg_cmp (w 655 9) (448545973363 : Int64)) = 0 ∨ ((lg_cmp (w 655 9) (119183001281906 : Int64)) = 0 ∨ ((lg_cmp (w 655 9) (24948 : Int64)) = 0 ∨ ((lg_cmp (w 655 9) (25209 : Int64)) = 0 ∨ ((lg_cmp (w 655 9) (512970880104 : Int64)) = 0 ∨ ((lg_cmp (w 655 9) (2002872692 : Int64)) = 0 ∨ ((lg_cmp (w 655 9) (131294708393330 : Int64)) = 0 ∨ ((lg_cmp (w 655 9) (6578553 : Int64)) = 0 ∨ ((lg_cmp (w 655 9) (2002876787 : Int64)) = 0 ∨ ((lg_cmp (w 655 9) (1919251316 : Int64)) = 0 ∨ ((lg_cmp (w 655 9) (6385252 : Int64)) = 0 ∨ ((lg_cmp (w 655 9) (28530 : Int64)) = 0 ∨ (lg_cmp (w 655 9) (7237492 : Int64)) = 0)))))))))))))))))) from (Or.inr (Or.inr (Or.inr (Or.inr (Or.inr (Or.inr (Or.inr (Or.inr (Or.inr (Or.inr (Or.inr (Or.inr (Or.inr (Or.inr (Or.inr (Or.inl c31)))))))))))))))))) K39
                                · refine xe_aload_n dX12_isOwn_176 rfl ?_
                                  refine xe_getL dX12_isOwn_177 flX12_165 kk655 (xKK_lt kk655) rfl ?_
                                  refine xe_ldc2 (v := 6385252) dX12_isOwn_180 (xT_at 1670 (by decide +kernel) (by decide +kernel)) ?_
                                  refine xe_lcmp dX12_isOwn_183 ?_
                                  refine xe_if_eq (tgt := 209) dX12_isOwn_184 rfl (fun c33 => ?_) (fun c34 => ?_)
                                  · refine xe_iconst (v := 1) dX12_isOwn_209 rfl ?_
                                    refine xe_goto (tgt := 214) dX12_isOwn_210 rfl ?_
                                    exact xtop (xb_pos (show ((lg_cmp (w 655 9) (33329961647564645 : Int64)) = 0 ∨ ((lg_cmp (w 655 9) (7823737 : Int64)) = 0 ∨ ((lg_cmp (w 655 9) (1651074418 : Int64)) = 0 ∨ ((lg_cmp (w 655 9) (1718775661 : Int64)) = 0 ∨ ((lg_cmp (w 655 9) (29807 : Int64)) = 0 ∨ ((lg_cmp (w 655 9) (28526 : Int64)) = 0 ∨ ((lg_cmp (w 655 9) (448545973363 : Int64)) = 0 ∨ ((lg_cmp (w 655 9) (119183001281906 : Int64)) = 0 ∨ ((lg_cmp (w 655 9) (24948 : Int64)) = 0 ∨ ((lg_cmp (w 655 9) (25209 : Int64)) = 0 ∨ ((lg_cmp (w 655 9) (512970880104 : Int64)) = 0 ∨ ((lg_cmp (w 655 9) (2002872692 : Int64)) = 0 ∨ ((lg_cmp (w 655 9) (131294708393330 : Int64)) = 0 ∨ ((lg_cmp (w 655 9) (6578553 : Int64)) = 0 ∨ ((lg_cmp (w 655 9) (2002876787 : Int64)) = 0 ∨ ((lg_cmp (w 655 9) (1919251316 : Int64)) = 0 ∨ ((lg_cmp (w 655 9) (6385252 : Int64)) = 0 ∨ ((lg_cmp (w 655 9) (28530 : Int64)) = 0 ∨ (lg_cmp (w 655 9) (7237492 : Int64)) = 0)))))))))))))))))) from (Or.inr (Or.inr (Or.inr (Or.inr (Or.inr (Or.inr (Or.inr (Or.inr (Or.inr (Or.inr (Or.inr (Or.inr (Or.inr (Or.inr (Or.inr (Or.inr (Or.inl c33))))))))))))))))))) K39
                                  · refine xe_aload_n dX12_isOwn_187 rfl ?_
                                    refine xe_getL dX12_isOwn_188 flX12_165 kk655 (xKK_lt kk655) rfl ?_
                                    refine xe_ldc2 (v := 28530) dX12_isOwn_191 (xT_at 1671 (by decide +kernel) (by decide +kernel)) ?_
                                    refine xe_lcmp dX12_isOwn_194 ?_
                                    refine xe_if_eq (tgt := 209) dX12_isOwn_195 rfl (fun c35 => ?_) (fun c36 => ?_)
                                    · refine xe_iconst (v := 1) dX12_isOwn_209 rfl ?_
                                      refine xe_goto (tgt := 214) dX12_isOwn_210 rfl ?_
                                      exact xtop (xb_pos (show ((lg_cmp (w 655 9) (33329961647564645 : Int64)) = 0 ∨ ((lg_cmp (w 655 9) (7823737 : Int64)) = 0 ∨ ((lg_cmp (w 655 9) (1651074418 : Int64)) = 0 ∨ ((lg_cmp (w 655 9) (1718775661 : Int64)) = 0 ∨ ((lg_cmp (w 655 9) (29807 : Int64)) = 0 ∨ ((lg_cmp (w 655 9) (28526 : Int64)) = 0 ∨ ((lg_cmp (w 655 9) (448545973363 : Int64)) = 0 ∨ ((lg_cmp (w 655 9) (119183001281906 : Int64)) = 0 ∨ ((lg_cmp (w 655 9) (24948 : Int64)) = 0 ∨ ((lg_cmp (w 655 9) (25209 : Int64)) = 0 ∨ ((lg_cmp (w 655 9) (512970880104 : Int64)) = 0 ∨ ((lg_cmp (w 655 9) (2002872692 : Int64)) = 0 ∨ ((lg_cmp (w 655 9) (131294708393330 : Int64)) = 0 ∨ ((lg_cmp (w 655 9) (6578553 : Int64)) = 0 ∨ ((lg_cmp (w 655 9) (2002876787 : Int64)) = 0 ∨ ((lg_cmp (w 655 9) (1919251316 : Int64)) = 0 ∨ ((lg_cmp (w 655 9) (6385252 : Int64)) = 0 ∨ ((lg_cmp (w 655 9) (28530 : Int64)) = 0 ∨ (lg_cmp (w 655 9) (7237492 : Int64)) = 0)))))))))))))))))) from (Or.inr (Or.inr (Or.inr (Or.inr (Or.inr (Or.inr (Or.inr (Or.inr (Or.inr (Or.inr (Or.inr (Or.inr (Or.inr (Or.inr (Or.inr (Or.inr (Or.inr (Or.inl c35)))))))))))))))))))) K39
                                    · refine xe_aload_n dX12_isOwn_198 rfl ?_
                                      refine xe_getL dX12_isOwn_199 flX12_165 kk655 (xKK_lt kk655) rfl ?_
                                      refine xe_ldc2 (v := 7237492) dX12_isOwn_202 (xT_at 1672 (by decide +kernel) (by decide +kernel)) ?_
                                      refine xe_lcmp dX12_isOwn_205 ?_
                                      refine xe_if_ne (tgt := 213) dX12_isOwn_206 rfl (fun c37 => ?_) (fun c38 => ?_)
                                      · refine xe_iconst (v := 0) dX12_isOwn_213 rfl ?_
                                        exact xtop (xb_neg (show ¬ ((lg_cmp (w 655 9) (33329961647564645 : Int64)) = 0 ∨ ((lg_cmp (w 655 9) (7823737 : Int64)) = 0 ∨ ((lg_cmp (w 655 9) (1651074418 : Int64)) = 0 ∨ ((lg_cmp (w 655 9) (1718775661 : Int64)) = 0 ∨ ((lg_cmp (w 655 9) (29807 : Int64)) = 0 ∨ ((lg_cmp (w 655 9) (28526 : Int64)) = 0 ∨ ((lg_cmp (w 655 9) (448545973363 : Int64)) = 0 ∨ ((lg_cmp (w 655 9) (119183001281906 : Int64)) = 0 ∨ ((lg_cmp (w 655 9) (24948 : Int64)) = 0 ∨ ((lg_cmp (w 655 9) (25209 : Int64)) = 0 ∨ ((lg_cmp (w 655 9) (512970880104 : Int64)) = 0 ∨ ((lg_cmp (w 655 9) (2002872692 : Int64)) = 0 ∨ ((lg_cmp (w 655 9) (131294708393330 : Int64)) = 0 ∨ ((lg_cmp (w 655 9) (6578553 : Int64)) = 0 ∨ ((lg_cmp (w 655 9) (2002876787 : Int64)) = 0 ∨ ((lg_cmp (w 655 9) (1919251316 : Int64)) = 0 ∨ ((lg_cmp (w 655 9) (6385252 : Int64)) = 0 ∨ ((lg_cmp (w 655 9) (28530 : Int64)) = 0 ∨ (lg_cmp (w 655 9) (7237492 : Int64)) = 0)))))))))))))))))) from (fun q => (q.elim (fun z => (c2 z)) (fun z => (z.elim (fun z => (c4 z)) (fun z => (z.elim (fun z => (c6 z)) (fun z => (z.elim (fun z => (c8 z)) (fun z => (z.elim (fun z => (c10 z)) (fun z => (z.elim (fun z => (c12 z)) (fun z => (z.elim (fun z => (c14 z)) (fun z => (z.elim (fun z => (c16 z)) (fun z => (z.elim (fun z => (c18 z)) (fun z => (z.elim (fun z => (c20 z)) (fun z => (z.elim (fun z => (c22 z)) (fun z => (z.elim (fun z => (c24 z)) (fun z => (z.elim (fun z => (c26 z)) (fun z => (z.elim (fun z => (c28 z)) (fun z => (z.elim (fun z => (c30 z)) (fun z => (z.elim (fun z => (c32 z)) (fun z => (z.elim (fun z => (c34 z)) (fun z => (z.elim (fun z => (c36 z)) (fun z => (c37 z)))))))))))))))))))))))))))))))))))))))) K39
                                      · refine xe_iconst (v := 1) dX12_isOwn_209 rfl ?_
                                        refine xe_goto (tgt := 214) dX12_isOwn_210 rfl ?_
                                        exact xtop (xb_pos (show ((lg_cmp (w 655 9) (33329961647564645 : Int64)) = 0 ∨ ((lg_cmp (w 655 9) (7823737 : Int64)) = 0 ∨ ((lg_cmp (w 655 9) (1651074418 : Int64)) = 0 ∨ ((lg_cmp (w 655 9) (1718775661 : Int64)) = 0 ∨ ((lg_cmp (w 655 9) (29807 : Int64)) = 0 ∨ ((lg_cmp (w 655 9) (28526 : Int64)) = 0 ∨ ((lg_cmp (w 655 9) (448545973363 : Int64)) = 0 ∨ ((lg_cmp (w 655 9) (119183001281906 : Int64)) = 0 ∨ ((lg_cmp (w 655 9) (24948 : Int64)) = 0 ∨ ((lg_cmp (w 655 9) (25209 : Int64)) = 0 ∨ ((lg_cmp (w 655 9) (512970880104 : Int64)) = 0 ∨ ((lg_cmp (w 655 9) (2002872692 : Int64)) = 0 ∨ ((lg_cmp (w 655 9) (131294708393330 : Int64)) = 0 ∨ ((lg_cmp (w 655 9) (6578553 : Int64)) = 0 ∨ ((lg_cmp (w 655 9) (2002876787 : Int64)) = 0 ∨ ((lg_cmp (w 655 9) (1919251316 : Int64)) = 0 ∨ ((lg_cmp (w 655 9) (6385252 : Int64)) = 0 ∨ ((lg_cmp (w 655 9) (28530 : Int64)) = 0 ∨ (lg_cmp (w 655 9) (7237492 : Int64)) = 0)))))))))))))))))) from (Or.inr (Or.inr (Or.inr (Or.inr (Or.inr (Or.inr (Or.inr (Or.inr (Or.inr (Or.inr (Or.inr (Or.inr (Or.inr (Or.inr (Or.inr (Or.inr (Or.inr (Or.inr c38)))))))))))))))))))) K39

theorem CX12_isOwn {g : xGT} {d : Nat} {u : xU} {w : xW} {r : xQ} {P : xPost}
    (k : P (some (.int (xb ((lg_cmp (w 655 9) (33329961647564645 : Int64)) = 0 ∨ ((lg_cmp (w 655 9) (7823737 : Int64)) = 0 ∨ ((lg_cmp (w 655 9) (1651074418 : Int64)) = 0 ∨ ((lg_cmp (w 655 9) (1718775661 : Int64)) = 0 ∨ ((lg_cmp (w 655 9) (29807 : Int64)) = 0 ∨ ((lg_cmp (w 655 9) (28526 : Int64)) = 0 ∨ ((lg_cmp (w 655 9) (448545973363 : Int64)) = 0 ∨ ((lg_cmp (w 655 9) (119183001281906 : Int64)) = 0 ∨ ((lg_cmp (w 655 9) (24948 : Int64)) = 0 ∨ ((lg_cmp (w 655 9) (25209 : Int64)) = 0 ∨ ((lg_cmp (w 655 9) (512970880104 : Int64)) = 0 ∨ ((lg_cmp (w 655 9) (2002872692 : Int64)) = 0 ∨ ((lg_cmp (w 655 9) (131294708393330 : Int64)) = 0 ∨ ((lg_cmp (w 655 9) (6578553 : Int64)) = 0 ∨ ((lg_cmp (w 655 9) (2002876787 : Int64)) = 0 ∨ ((lg_cmp (w 655 9) (1919251316 : Int64)) = 0 ∨ ((lg_cmp (w 655 9) (6385252 : Int64)) = 0 ∨ ((lg_cmp (w 655 9) (28530 : Int64)) = 0 ∨ (lg_cmp (w 655 9) (7237492 : Int64)) = 0))))))))))))))))))))) u w r) :
    xCall g d mX12_isOwn [.ref 655] 698 u w r 698 P :=
  xCall.of plX12 (Nat.le_of_ble_eq_true rfl) rfl (TX12_isOwn_0  k)

/-! FuneralPostModel.isName -/

theorem TX12_isName_0 {g : xGT} {d : Nat} {u : xU} {w : xW} {r : xQ} {P : xPost}
    (k : ((u 655 6) = (1 : Int32) → xCall g d mX12_isOwn [.ref 655] 698 u w r 698 (fun rv3 u3 w3 r3 => ∃ v3 : Int32, rv3 = some (.int v3) ∧ u = u3 ∧ w = w3 ∧ r = r3 ∧ (v3 = 0 → P (some (.int (1 : Int32))) u w r) ∧ (¬ (v3 = 0) → P (some (.int (0 : Int32))) u w r))) ∧ (¬ ((u 655 6) = (1 : Int32)) → P (some (.int (0 : Int32))) u w r)) :
    xEv g (d + 1) mX12_isName 0 [some (.ref 655)] [] 698 u w r 698 P := by
  refine xe_aload_n dX12_isName_0 rfl ?_
  refine xe_getI dX12_isName_1 flX12_172 kk655 (xKK_lt kk655) rfl ?_
  refine xe_iconst (v := 1) dX12_isName_4 rfl ?_
  refine xe_icmp_ne (tgt := 19) dX12_isName_5 rfl (fun c1 => ?_) (fun c2 => ?_)
  · have k := k.2 (fun q => (c1 q))
    refine xe_iconst (v := 0) dX12_isName_19 rfl ?_
    exact xe_ireturn dX12_isName_20 (xrokZ (Or.inl rfl)) k
  · have k := k.1 c2
    refine xe_aload_n dX12_isName_8 rfl ?_
    refine xe_callV (args := []) dX12_isName_9 vlX12_226 rfl rfl (Nat.le_of_ble_eq_true rfl) kk655 (xKK_lt kk655) rfl rfl k (Nat.le_refl _) (fun rv3 u3 w3 r3 k => ?_)
    obtain ⟨v3, rfl, rfl, rfl, rfl, k⟩ := k
    refine xe_if_ne (tgt := 19) dX12_isName_12 rfl (fun c4 => ?_) (fun c5 => ?_)
    · have k := k.2 (fun q => (c4 q))
      refine xe_iconst (v := 0) dX12_isName_19 rfl ?_
      exact xe_ireturn dX12_isName_20 (xrokZ (Or.inl rfl)) k
    · have k := k.1 c5
      refine xe_iconst (v := 1) dX12_isName_15 rfl ?_
      refine xe_goto (tgt := 20) dX12_isName_16 rfl ?_
      exact xe_ireturn dX12_isName_20 (xrokZ (Or.inr rfl)) k

theorem CX12_isName {g : xGT} {d : Nat} {u : xU} {w : xW} {r : xQ} {P : xPost}
    (k : ((u 655 6) = (1 : Int32) → xCall g d mX12_isOwn [.ref 655] 698 u w r 698 (fun rv3 u3 w3 r3 => ∃ v3 : Int32, rv3 = some (.int v3) ∧ u = u3 ∧ w = w3 ∧ r = r3 ∧ (v3 = 0 → P (some (.int (1 : Int32))) u w r) ∧ (¬ (v3 = 0) → P (some (.int (0 : Int32))) u w r))) ∧ (¬ ((u 655 6) = (1 : Int32)) → P (some (.int (0 : Int32))) u w r)) :
    xCall g (d + 1) mX12_isName [.ref 655] 698 u w r 698 P :=
  xCall.of plX12 (Nat.le_of_ble_eq_true rfl) rfl (TX12_isName_0  k)

/-! FuneralPostModel.want -/

theorem TX12_want_0 {g : xGT} {d : Nat} {y1 : Int64} {u : xU} {w : xW} {r : xQ} {P : xPost}
    (k : ((u 655 2) ≤ 0 → xCall g d mX12_isWord [.ref 655, .long y1] 698 u w r 698 (fun rv3 u3 w3 r3 => ∃ v3 : Int32, rv3 = some (.int v3) ∧ u = u3 ∧ w = w3 ∧ r = r3 ∧ (v3 = 0 → xCall g d mX12_wrong [.ref 655, .int (2 : Int32)] 698 u w r 698 (fun rv6 u6 w6 r6 => rv6 = none ∧ w = w6 ∧ r = r6 ∧ P none u6 w r)) ∧ (¬ (v3 = 0) → xCall g d mX12_token [.ref 655] 698 u w r 698 (fun rv7 u7 w7 r7 => rv7 = none ∧ r = r7 ∧ P none u7 w7 r)))) ∧ (¬ ((u 655 2) ≤ 0) → P none u w r)) :
    xEv g (d + 1) mX12_want 0 [some (.ref 655), some (.long y1), none] [] 698 u w r 698 P := by
  refine xe_aload_n dX12_want_0 rfl ?_
  refine xe_getI dX12_want_1 flX12_185 kk655 (xKK_lt kk655) rfl ?_
  refine xe_if_le (tgt := 8) dX12_want_4 rfl (fun c1 => ?_) (fun c2 => ?_)
  · have k := k.1 c1
    refine xe_aload_n dX12_want_8 rfl ?_
    refine xe_lload_n dX12_want_9 rfl ?_
    refine xe_callV (args := [.long y1]) dX12_want_10 vlX12_230 rfl rfl (Nat.le_of_ble_eq_true rfl) kk655 (xKK_lt kk655) rfl rfl k (Nat.le_refl _) (fun rv3 u3 w3 r3 k => ?_)
    obtain ⟨v3, rfl, rfl, rfl, rfl, k⟩ := k
    refine xe_if_ne (tgt := 24) dX12_want_13 rfl (fun c4 => ?_) (fun c5 => ?_)
    · have k := k.2 (fun q => (c4 q))
      refine xe_aload_n dX12_want_24 rfl ?_
      refine xe_callV (args := []) dX12_want_25 vlX12_237 rfl rfl (Nat.le_of_ble_eq_true rfl) kk655 (xKK_lt kk655) rfl rfl k (Nat.le_refl _) (fun rv7 u7 w7 r7 k => ?_)
      obtain ⟨rfl, rfl, k⟩ := k
      exact xe_return dX12_want_28 trivial k
    · have k := k.1 c5
      refine xe_aload_n dX12_want_16 rfl ?_
      refine xe_iconst (v := 2) dX12_want_17 rfl ?_
      refine xe_callV (args := [.int (2 : Int32)]) dX12_want_18 vlX12_234 rfl rfl (Nat.le_of_ble_eq_true rfl) kk655 (xKK_lt kk655) rfl rfl k (Nat.le_refl _) (fun rv6 u6 w6 r6 k => ?_)
      obtain ⟨rfl, rfl, rfl, k⟩ := k
      refine xe_goto (tgt := 28) dX12_want_21 rfl ?_
      exact xe_return dX12_want_28 trivial k
  · have k := k.2 (fun q => (c2 q))
    exact xe_return dX12_want_7 trivial k

theorem CX12_want {g : xGT} {d : Nat} {y1 : Int64} {u : xU} {w : xW} {r : xQ} {P : xPost}
    (k : ((u 655 2) ≤ 0 → xCall g d mX12_isWord [.ref 655, .long y1] 698 u w r 698 (fun rv3 u3 w3 r3 => ∃ v3 : Int32, rv3 = some (.int v3) ∧ u = u3 ∧ w = w3 ∧ r = r3 ∧ (v3 = 0 → xCall g d mX12_wrong [.ref 655, .int (2 : Int32)] 698 u w r 698 (fun rv6 u6 w6 r6 => rv6 = none ∧ w = w6 ∧ r = r6 ∧ P none u6 w r)) ∧ (¬ (v3 = 0) → xCall g d mX12_token [.ref 655] 698 u w r 698 (fun rv7 u7 w7 r7 => rv7 = none ∧ r = r7 ∧ P none u7 w7 r)))) ∧ (¬ ((u 655 2) ≤ 0) → P none u w r)) :
    xCall g (d + 1) mX12_want [.ref 655, .long y1] 698 u w r 698 P :=
  xCall.of plX12 (Nat.le_of_ble_eq_true rfl) rfl (TX12_want_0  k)

/-! FuneralPostModel.toldNumber -/

theorem TX12_toldNumber_0 {g : xGT} {d : Nat} {i1 i2 : Int32} {u : xU} {w : xW} {r : xQ} {P : xPost}
    (k : ((u 655 2) ≤ 0 → ((u 655 6) = (2 : Int32) → (((u 655 8) < i1 ∨ ¬ ((u 655 8) ≤ i2)) → xCall g d mX12_wrong [.ref 655, .int (4 : Int32)] 698 u w r 698 (fun rv9 u9 w9 r9 => rv9 = none ∧ w = w9 ∧ r = r9 ∧ xEv g (d + 1) mX12_toldNumber 46 [some (.ref 655), none, none, none] [] 698 u9 w r 698 P)) ∧ (¬ ((u 655 8) < i1 ∨ ¬ ((u 655 8) ≤ i2)) → xEv g (d + 1) mX12_toldNumber 46 [some (.ref 655), none, none, none] [] 698 u w r 698 P)) ∧ (¬ ((u 655 6) = (2 : Int32)) → xCall g d mX12_wrong [.ref 655, .int (2 : Int32)] 698 u w r 698 (fun rv12 u12 w12 r12 => rv12 = none ∧ w = w12 ∧ r = r12 ∧ xEv g (d + 1) mX12_toldNumber 46 [some (.ref 655), none, none, none] [] 698 u12 w r 698 P))) ∧ (¬ ((u 655 2) ≤ 0) → P (some (.int (0 : Int32))) u w r)) :
    xEv g (d + 1) mX12_toldNumber 0 [some (.ref 655), some (.int i1), some (.int i2), none] [] 698 u w r 698 P := by
  refine xe_aload_n dX12_toldNumber_0 rfl ?_
  refine xe_getI dX12_toldNumber_1 flX12_185 kk655 (xKK_lt kk655) rfl ?_
  refine xe_if_le (tgt := 9) dX12_toldNumber_4 rfl (fun c1 => ?_) (fun c2 => ?_)
  · have k := k.1 c1
    refine xe_aload_n dX12_toldNumber_9 rfl ?_
    refine xe_getI dX12_toldNumber_10 flX12_172 kk655 (xKK_lt kk655) rfl ?_
    refine xe_iconst (v := 2) dX12_toldNumber_13 rfl ?_
    refine xe_icmp_eq (tgt := 25) dX12_toldNumber_14 rfl (fun c3 => ?_) (fun c4 => ?_)
    · have k := k.1 c3
      refine xe_aload_n dX12_toldNumber_25 rfl ?_
      refine xe_getI dX12_toldNumber_26 flX12_169 kk655 (xKK_lt kk655) rfl ?_
      refine xe_iload_n dX12_toldNumber_29 rfl ?_
      have K10 : ((u 655 8) < i1 ∨ ¬ ((u 655 8) ≤ i2)) → xEv g (d + 1) mX12_toldNumber 41 [some (.ref 655), some (.int i1), some (.int i2), none] [] 698 u w r 698 P := fun c11 => by
        have k := k.1 c11
        refine xe_aload_n dX12_toldNumber_41 rfl ?_
        refine xe_iconst (v := 4) dX12_toldNumber_42 rfl ?_
        refine xe_callV (args := [.int (4 : Int32)]) dX12_toldNumber_43 vlX12_234 rfl rfl (Nat.le_of_ble_eq_true rfl) kk655 (xKK_lt kk655) rfl rfl k (Nat.le_refl _) (fun rv9 u9 w9 r9 k => ?_)
        obtain ⟨rfl, rfl, rfl, k⟩ := k
        exact xEv.fewer (ls' := [some (.ref 655), none, none, none]) k (xfw_get (xfw_s (xfw_n (xfw_n (xfw_n (xfw_nil _))))))
      refine xe_icmp_lt (tgt := 41) dX12_toldNumber_30 rfl (fun c5 => ?_) (fun c6 => ?_)
      · exact K10 (Or.inl c5)
      · refine xe_aload_n dX12_toldNumber_33 rfl ?_
        refine xe_getI dX12_toldNumber_34 flX12_169 kk655 (xKK_lt kk655) rfl ?_
        refine xe_iload_n dX12_toldNumber_37 rfl ?_
        refine xe_icmp_le (tgt := 46) dX12_toldNumber_38 rfl (fun c7 => ?_) (fun c8 => ?_)
        · have k := k.2 (fun q => (q.elim (fun z => (c6 z)) (fun z => (z c7))))
          exact xEv.fewer (ls' := [some (.ref 655), none, none, none]) k (xfw_get (xfw_s (xfw_n (xfw_n (xfw_n (xfw_nil _))))))
        · exact K10 (Or.inr c8)
    · have k := k.2 (fun q => (c4 q))
      refine xe_aload_n dX12_toldNumber_17 rfl ?_
      refine xe_iconst (v := 2) dX12_toldNumber_18 rfl ?_
      refine xe_callV (args := [.int (2 : Int32)]) dX12_toldNumber_19 vlX12_234 rfl rfl (Nat.le_of_ble_eq_true rfl) kk655 (xKK_lt kk655) rfl rfl k (Nat.le_refl _) (fun rv12 u12 w12 r12 k => ?_)
      obtain ⟨rfl, rfl, rfl, k⟩ := k
      refine xe_goto (tgt := 46) dX12_toldNumber_22 rfl ?_
      exact xEv.fewer (ls' := [some (.ref 655), none, none, none]) k (xfw_get (xfw_s (xfw_n (xfw_n (xfw_n (xfw_nil _))))))
  · have k := k.2 (fun q => (c2 q))
    refine xe_iconst (v := 0) dX12_toldNumber_7 rfl ?_
    exact xe_ireturn dX12_toldNumber_8 rfl k

theorem CX12_toldNumber {g : xGT} {d : Nat} {i1 i2 : Int32} {u : xU} {w : xW} {r : xQ} {P : xPost}
    (k : ((u 655 2) ≤ 0 → ((u 655 6) = (2 : Int32) → (((u 655 8) < i1 ∨ ¬ ((u 655 8) ≤ i2)) → xCall g d mX12_wrong [.ref 655, .int (4 : Int32)] 698 u w r 698 (fun rv9 u9 w9 r9 => rv9 = none ∧ w = w9 ∧ r = r9 ∧ xEv g (d + 1) mX12_toldNumber 46 [some (.ref 655), none, none, none] [] 698 u9 w r 698 P)) ∧ (¬ ((u 655 8) < i1 ∨ ¬ ((u 655 8) ≤ i2)) → xEv g (d + 1) mX12_toldNumber 46 [some (.ref 655), none, none, none] [] 698 u w r 698 P)) ∧ (¬ ((u 655 6) = (2 : Int32)) → xCall g d mX12_wrong [.ref 655, .int (2 : Int32)] 698 u w r 698 (fun rv12 u12 w12 r12 => rv12 = none ∧ w = w12 ∧ r = r12 ∧ xEv g (d + 1) mX12_toldNumber 46 [some (.ref 655), none, none, none] [] 698 u12 w r 698 P))) ∧ (¬ ((u 655 2) ≤ 0) → P (some (.int (0 : Int32))) u w r)) :
    xCall g (d + 1) mX12_toldNumber [.ref 655, .int i1, .int i2] 698 u w r 698 P :=
  xCall.of plX12 (Nat.le_of_ble_eq_true rfl) rfl (TX12_toldNumber_0  k)

theorem TX12_toldNumber_46 {g : xGT} {d : Nat} {u : xU} {w : xW} {r : xQ} {P : xPost}
    (k : ((u 655 2) = 0 → xCall g d mX12_token [.ref 655] 698 u w r 698 (fun rv15 u15 w15 r15 => rv15 = none ∧ r = r15 ∧ P (some (.int (u 655 8))) u15 w15 r)) ∧ (¬ ((u 655 2) = 0) → P (some (.int (u 655 8))) u w r)) :
    xEv g (d + 1) mX12_toldNumber 46 [some (.ref 655), none, none, none] [] 698 u w r 698 P := by
  refine xe_aload_n dX12_toldNumber_46 rfl ?_
  refine xe_getI dX12_toldNumber_47 flX12_169 kk655 (xKK_lt kk655) rfl ?_
  refine xe_istore_n (ls' := [some (.ref 655), none, none, some (.int (u 655 8))]) dX12_toldNumber_50 rfl (by decide) rfl ?_
  refine xe_aload_n dX12_toldNumber_51 rfl ?_
  refine xe_getI dX12_toldNumber_52 flX12_185 kk655 (xKK_lt kk655) rfl ?_
  refine xe_if_ne (tgt := 62) dX12_toldNumber_55 rfl (fun c13 => ?_) (fun c14 => ?_)
  · have k := k.2 (fun q => (c13 q))
    refine xe_iload_n dX12_toldNumber_62 rfl ?_
    exact xe_ireturn dX12_toldNumber_63 rfl k
  · have k := k.1 c14
    refine xe_aload_n dX12_toldNumber_58 rfl ?_
    refine xe_callV (args := []) dX12_toldNumber_59 vlX12_237 rfl rfl (Nat.le_of_ble_eq_true rfl) kk655 (xKK_lt kk655) rfl rfl k (Nat.le_refl _) (fun rv15 u15 w15 r15 k => ?_)
    obtain ⟨rfl, rfl, k⟩ := k
    refine xe_iload_n dX12_toldNumber_62 rfl ?_
    exact xe_ireturn dX12_toldNumber_63 rfl k

/-! FuneralPostModel.told -/

theorem TX12_told_0 {g : xGT} {d : Nat} {i3 i4 : Int32} {y1 : Int64} {u : xU} {w : xW} {r : xQ} {P : xPost}
    (k : xCall g d mX12_want [.ref 655, .long y1] 698 u w r 698 (fun rv1 u1 w1 r1 => rv1 = none ∧ r = r1 ∧ xCall g d mX12_toldNumber [.ref 655, .int i3, .int i4] 698 u1 w1 r 698 (fun rv2 u2 w2 r2 => ∃ v2 : Int32, rv2 = some (.int v2) ∧ r = r2 ∧ P (some (.int v2)) u2 w2 r))) :
    xEv g (d + 1) mX12_told 0 [some (.ref 655), some (.long y1), none, some (.int i3), some (.int i4)] [] 698 u w r 698 P := by
  refine xe_aload_n dX12_told_0 rfl ?_
  refine xe_lload_n dX12_told_1 rfl ?_
  refine xe_callV (args := [.long y1]) dX12_told_2 vlX12_240 rfl rfl (Nat.le_of_ble_eq_true rfl) kk655 (xKK_lt kk655) rfl rfl k (Nat.le_refl _) (fun rv1 u1 w1 r1 k => ?_)
  obtain ⟨rfl, rfl, k⟩ := k
  refine xe_aload_n dX12_told_5 rfl ?_
  refine xe_iload_n dX12_told_6 rfl ?_
  refine xe_iload dX12_told_7 rfl ?_
  refine xe_callV (args := [.int i3, .int i4]) dX12_told_9 vlX12_244 rfl rfl (Nat.le_of_ble_eq_true rfl) kk655 (xKK_lt kk655) rfl rfl k (Nat.le_refl _) (fun rv2 u2 w2 r2 k => ?_)
  obtain ⟨v2, rfl, rfl, k⟩ := k
  exact xe_ireturn dX12_told_12 rfl k

theorem CX12_told {g : xGT} {d : Nat} {i3 i4 : Int32} {y1 : Int64} {u : xU} {w : xW} {r : xQ} {P : xPost}
    (k : xCall g d mX12_want [.ref 655, .long y1] 698 u w r 698 (fun rv1 u1 w1 r1 => rv1 = none ∧ r = r1 ∧ xCall g d mX12_toldNumber [.ref 655, .int i3, .int i4] 698 u1 w1 r 698 (fun rv2 u2 w2 r2 => ∃ v2 : Int32, rv2 = some (.int v2) ∧ r = r2 ∧ P (some (.int v2)) u2 w2 r))) :
    xCall g (d + 1) mX12_told [.ref 655, .long y1, .int i3, .int i4] 698 u w r 698 P :=
  xCall.of plX12 (Nat.le_of_ble_eq_true rfl) rfl (TX12_told_0  k)

/-! FuneralPostModel.option -/

theorem TX12_option_0 {g : xGT} {d : Nat} {i3 i4 i5 : Int32} {y1 : Int64} {u : xU} {w : xW} {r : xQ} {P : xPost}
    (k : ((u 655 2) = 0 → xCall g d mX12_isWord [.ref 655, .long y1] 698 u w r 698 (fun rv3 u3 w3 r3 => ∃ v3 : Int32, rv3 = some (.int v3) ∧ u = u3 ∧ w = w3 ∧ r = r3 ∧ (v3 = 0 → P (some (.int i5)) u w r) ∧ (¬ (v3 = 0) → xCall g d mX12_told [.ref 655, .long y1, .int i3, .int i4] 698 u w r 698 (fun rv6 u6 w6 r6 => ∃ v6 : Int32, rv6 = some (.int v6) ∧ r = r6 ∧ P (some (.int v6)) u6 w6 r)))) ∧ (¬ ((u 655 2) = 0) → P (some (.int i5)) u w r)) :
    xEv g (d + 1) mX12_option 0 [some (.ref 655), some (.long y1), none, some (.int i3), some (.int i4), some (.int i5)] [] 698 u w r 698 P := by
  refine xe_aload_n dX12_option_0 rfl ?_
  refine xe_getI dX12_option_1 flX12_185 kk655 (xKK_lt kk655) rfl ?_
  refine xe_if_ne (tgt := 26) dX12_option_4 rfl (fun c1 => ?_) (fun c2 => ?_)
  · have k := k.2 (fun q => (c1 q))
    refine xe_iload dX12_option_26 rfl ?_
    exact xe_ireturn dX12_option_28 rfl k
  · have k := k.1 c2
    refine xe_aload_n dX12_option_7 rfl ?_
    refine xe_lload_n dX12_option_8 rfl ?_
    refine xe_callV (args := [.long y1]) dX12_option_9 vlX12_230 rfl rfl (Nat.le_of_ble_eq_true rfl) kk655 (xKK_lt kk655) rfl rfl k (Nat.le_refl _) (fun rv3 u3 w3 r3 k => ?_)
    obtain ⟨v3, rfl, rfl, rfl, rfl, k⟩ := k
    refine xe_if_eq (tgt := 26) dX12_option_12 rfl (fun c4 => ?_) (fun c5 => ?_)
    · have k := k.1 c4
      refine xe_iload dX12_option_26 rfl ?_
      exact xe_ireturn dX12_option_28 rfl k
    · have k := k.2 (fun q => (c5 q))
      refine xe_aload_n dX12_option_15 rfl ?_
      refine xe_lload_n dX12_option_16 rfl ?_
      refine xe_iload_n dX12_option_17 rfl ?_
      refine xe_iload dX12_option_18 rfl ?_
      refine xe_callV (args := [.long y1, .int i3, .int i4]) dX12_option_20 vlX12_248 rfl rfl (Nat.le_of_ble_eq_true rfl) kk655 (xKK_lt kk655) rfl rfl k (Nat.le_refl _) (fun rv6 u6 w6 r6 k => ?_)
      obtain ⟨v6, rfl, rfl, k⟩ := k
      refine xe_goto (tgt := 28) dX12_option_23 rfl ?_
      exact xe_ireturn dX12_option_28 rfl k

theorem CX12_option {g : xGT} {d : Nat} {i3 i4 i5 : Int32} {y1 : Int64} {u : xU} {w : xW} {r : xQ} {P : xPost}
    (k : ((u 655 2) = 0 → xCall g d mX12_isWord [.ref 655, .long y1] 698 u w r 698 (fun rv3 u3 w3 r3 => ∃ v3 : Int32, rv3 = some (.int v3) ∧ u = u3 ∧ w = w3 ∧ r = r3 ∧ (v3 = 0 → P (some (.int i5)) u w r) ∧ (¬ (v3 = 0) → xCall g d mX12_told [.ref 655, .long y1, .int i3, .int i4] 698 u w r 698 (fun rv6 u6 w6 r6 => ∃ v6 : Int32, rv6 = some (.int v6) ∧ r = r6 ∧ P (some (.int v6)) u6 w6 r)))) ∧ (¬ ((u 655 2) = 0) → P (some (.int i5)) u w r)) :
    xCall g (d + 1) mX12_option [.ref 655, .long y1, .int i3, .int i4, .int i5] 698 u w r 698 P :=
  xCall.of plX12 (Nat.le_of_ble_eq_true rfl) rfl (TX12_option_0  k)

/-! FuneralPostModel.find -/

theorem TX12_find_0 {g : xGT} {d : Nat} {i1 i2 : Int32} {u : xU} {w : xW} {r : xQ} {P : xPost}
    (k : xEv g d mX12_find 5 [some (.ref 655), some (.int i1), some (.int i2), some (.int (-1 : Int32)), some (.int (0 : Int32))] [] 698 u w r 698 P) :
    xEv g d mX12_find 0 [some (.ref 655), some (.int i1), some (.int i2), none, none] [] 698 u w r 698 P := by
  refine xe_iconst (v := -1) dX12_find_0 rfl ?_
  refine xe_istore_n (ls' := [some (.ref 655), some (.int i1), some (.int i2), some (.int (-1 : Int32)), none]) dX12_find_1 rfl (by decide) rfl ?_
  refine xe_iconst (v := 0) dX12_find_2 rfl ?_
  refine xe_istore (ls' := [some (.ref 655), some (.int i1), some (.int i2), some (.int (-1 : Int32)), some (.int (0 : Int32))]) dX12_find_3 (by decide) rfl ?_
  exact k

theorem CX12_find {g : xGT} {d : Nat} {i1 i2 : Int32} {u : xU} {w : xW} {r : xQ} {P : xPost}
    (k : xEv g d mX12_find 5 [some (.ref 655), some (.int i1), some (.int i2), some (.int (-1 : Int32)), some (.int (0 : Int32))] [] 698 u w r 698 P) :
    xCall g d mX12_find [.ref 655, .int i1, .int i2] 698 u w r 698 P :=
  xCall.of plX12 (Nat.le_of_ble_eq_true rfl) rfl (TX12_find_0  k)

theorem TX12_find_5 {g : xGT} {d : Nat} {i1 i2 i3 i4 : Int32} {u : xU} {w : xW} {r : xQ} {P : xPost} (hr : xRf r)
    (k : (i2 ≤ i4 → P (some (.int i3)) u w r) ∧ (¬ (i2 ≤ i4) → vp_in (i1 + i4) 21 ∧ (xEv g d mX12_find 5 [some (.ref 655), some (.int i1), some (.int i2), some (.int (if (lg_cmp (w 657 (i1 + i4).toNatClampNeg) (w 655 9)) = 0 then i4 else i3)), some (.int (i4 + (1 : Int32)))] [] 698 u w r 698 P))) :
    xEv g d mX12_find 5 [some (.ref 655), some (.int i1), some (.int i2), some (.int i3), some (.int i4)] [] 698 u w r 698 P := by
  refine xe_iload dX12_find_5 rfl ?_
  refine xe_iload_n dX12_find_7 rfl ?_
  refine xe_icmp_ge (tgt := 41) dX12_find_8 rfl (fun c1 => ?_) (fun c2 => ?_)
  · have k := k.1 c1
    refine xe_iload_n dX12_find_41 rfl ?_
    exact xe_ireturn dX12_find_42 rfl k
  · have k := k.2 (fun q => (c2 q))
    refine xe_aload_n dX12_find_11 rfl ?_
    refine xe_getR (b := 657) dX12_find_12 flX12_17 kk655 (xKK_lt kk655) rfl (rf655_10 hr) ?_
    refine xe_iload_n dX12_find_15 rfl ?_
    refine xe_iload dX12_find_16 rfl ?_
    refine xe_iadd dX12_find_18 ?_
    obtain ⟨b3, k⟩ := k
    refine xe_lald dX12_find_19 kk657 (xKK_lt kk657) b3 ?_
    refine xe_aload_n dX12_find_20 rfl ?_
    refine xe_getL dX12_find_21 flX12_165 kk655 (xKK_lt kk655) rfl ?_
    refine xe_lcmp dX12_find_24 ?_
    have K6 : xEv g d mX12_find 34 [some (.ref 655), some (.int i1), some (.int i2), some (.int i3), some (.int i4)] [.int (if (lg_cmp (w 657 (i1 + i4).toNatClampNeg) (w 655 9)) = 0 then i4 else i3)] 698 u w r 698 P := by
      refine xe_istore_n (ls' := [some (.ref 655), some (.int i1), some (.int i2), some (.int (if (lg_cmp (w 657 (i1 + i4).toNatClampNeg) (w 655 9)) = 0 then i4 else i3)), some (.int i4)]) dX12_find_34 rfl (by decide) rfl ?_
      refine xe_iinc (v := (i4 + (1 : Int32))) (ls' := [some (.ref 655), some (.int i1), some (.int i2), some (.int (if (lg_cmp (w 657 (i1 + i4).toNatClampNeg) (w 655 9)) = 0 then i4 else i3)), some (.int (i4 + (1 : Int32)))]) dX12_find_35 rfl (by decide) rfl rfl ?_
      refine xe_goto (tgt := 5) dX12_find_38 rfl ?_
      exact k
    refine xe_if_ne (tgt := 33) dX12_find_25 rfl (fun c4 => ?_) (fun c5 => ?_)
    · refine xe_iload_n dX12_find_33 rfl ?_
      exact xtop (if_neg (fun q => (c4 q))) K6
    · refine xe_iload dX12_find_28 rfl ?_
      refine xe_goto (tgt := 34) dX12_find_30 rfl ?_
      exact xtop (if_pos c5) K6

/-! FuneralPostModel.newName -/

theorem TX12_newName_0 {g : xGT} {d : Nat} {i1 i2 : Int32} {u : xU} {w : xW} {r : xQ} {P : xPost}
    (k : xCall g d mX12_token [.ref 655] 698 u w r 698 (fun rv1 u1 w1 r1 => rv1 = none ∧ r = r1 ∧ xCall g d mX12_isName [.ref 655] 698 u1 w1 r 698 (fun rv2 u2 w2 r2 => ∃ v2 : Int32, rv2 = some (.int v2) ∧ u1 = u2 ∧ w1 = w2 ∧ r = r2 ∧ (v2 = 0 → xCall g d mX12_wrong [.ref 655, .int (2 : Int32)] 698 u1 w1 r 698 (fun rv5 u5 w5 r5 => rv5 = none ∧ w1 = w5 ∧ r = r5 ∧ xEv g (d + 1) mX12_newName 33 [some (.ref 655), some (.int i1), some (.int i2)] [] 698 u5 w1 r 698 P)) ∧ (¬ (v2 = 0) → xCall g d mX12_find [.ref 655, .int i1, .int i2] 698 u1 w1 r 698 (fun rv6 u6 w6 r6 => ∃ v6 : Int32, rv6 = some (.int v6) ∧ u1 = u6 ∧ w1 = w6 ∧ r = r6 ∧ (v6 < 0 → xEv g (d + 1) mX12_newName 33 [some (.ref 655), some (.int i1), some (.int i2)] [] 698 u1 w1 r 698 P) ∧ (¬ (v6 < 0) → xCall g d mX12_wrong [.ref 655, .int (3 : Int32)] 698 u1 w1 r 698 (fun rv9 u9 w9 r9 => rv9 = none ∧ w1 = w9 ∧ r = r9 ∧ xEv g (d + 1) mX12_newName 33 [some (.ref 655), some (.int i1), some (.int i2)] [] 698 u9 w1 r 698 P))))))) :
    xEv g (d + 1) mX12_newName 0 [some (.ref 655), some (.int i1), some (.int i2)] [] 698 u w r 698 P := by
  refine xe_aload_n dX12_newName_0 rfl ?_
  refine xe_callV (args := []) dX12_newName_1 vlX12_237 rfl rfl (Nat.le_of_ble_eq_true rfl) kk655 (xKK_lt kk655) rfl rfl k (Nat.le_refl _) (fun rv1 u1 w1 r1 k => ?_)
  obtain ⟨rfl, rfl, k⟩ := k
  refine xe_aload_n dX12_newName_4 rfl ?_
  refine xe_callV (args := []) dX12_newName_5 vlX12_252 rfl rfl (Nat.le_of_ble_eq_true rfl) kk655 (xKK_lt kk655) rfl rfl k (Nat.le_refl _) (fun rv2 u2 w2 r2 k => ?_)
  obtain ⟨v2, rfl, rfl, rfl, rfl, k⟩ := k
  refine xe_if_ne (tgt := 19) dX12_newName_8 rfl (fun c3 => ?_) (fun c4 => ?_)
  · have k := k.2 (fun q => (c3 q))
    refine xe_aload_n dX12_newName_19 rfl ?_
    refine xe_iload_n dX12_newName_20 rfl ?_
    refine xe_iload_n dX12_newName_21 rfl ?_
    refine xe_callV (args := [.int i1, .int i2]) dX12_newName_22 vlX12_255 rfl rfl (Nat.le_of_ble_eq_true rfl) kk655 (xKK_lt kk655) rfl rfl k (Nat.le_refl _) (fun rv6 u6 w6 r6 k => ?_)
    obtain ⟨v6, rfl, rfl, rfl, rfl, k⟩ := k
    refine xe_if_lt (tgt := 33) dX12_newName_25 rfl (fun c7 => ?_) (fun c8 => ?_)
    · have k := k.1 c7
      exact k
    · have k := k.2 (fun q => (c8 q))
      refine xe_aload_n dX12_newName_28 rfl ?_
      refine xe_iconst (v := 3) dX12_newName_29 rfl ?_
      refine xe_callV (args := [.int (3 : Int32)]) dX12_newName_30 vlX12_234 rfl rfl (Nat.le_of_ble_eq_true rfl) kk655 (xKK_lt kk655) rfl rfl k (Nat.le_refl _) (fun rv9 u9 w9 r9 k => ?_)
      obtain ⟨rfl, rfl, rfl, k⟩ := k
      exact k
  · have k := k.1 c4
    refine xe_aload_n dX12_newName_11 rfl ?_
    refine xe_iconst (v := 2) dX12_newName_12 rfl ?_
    refine xe_callV (args := [.int (2 : Int32)]) dX12_newName_13 vlX12_234 rfl rfl (Nat.le_of_ble_eq_true rfl) kk655 (xKK_lt kk655) rfl rfl k (Nat.le_refl _) (fun rv5 u5 w5 r5 k => ?_)
    obtain ⟨rfl, rfl, rfl, k⟩ := k
    refine xe_goto (tgt := 33) dX12_newName_16 rfl ?_
    exact k

theorem CX12_newName {g : xGT} {d : Nat} {i1 i2 : Int32} {u : xU} {w : xW} {r : xQ} {P : xPost}
    (k : xCall g d mX12_token [.ref 655] 698 u w r 698 (fun rv1 u1 w1 r1 => rv1 = none ∧ r = r1 ∧ xCall g d mX12_isName [.ref 655] 698 u1 w1 r 698 (fun rv2 u2 w2 r2 => ∃ v2 : Int32, rv2 = some (.int v2) ∧ u1 = u2 ∧ w1 = w2 ∧ r = r2 ∧ (v2 = 0 → xCall g d mX12_wrong [.ref 655, .int (2 : Int32)] 698 u1 w1 r 698 (fun rv5 u5 w5 r5 => rv5 = none ∧ w1 = w5 ∧ r = r5 ∧ xEv g (d + 1) mX12_newName 33 [some (.ref 655), some (.int i1), some (.int i2)] [] 698 u5 w1 r 698 P)) ∧ (¬ (v2 = 0) → xCall g d mX12_find [.ref 655, .int i1, .int i2] 698 u1 w1 r 698 (fun rv6 u6 w6 r6 => ∃ v6 : Int32, rv6 = some (.int v6) ∧ u1 = u6 ∧ w1 = w6 ∧ r = r6 ∧ (v6 < 0 → xEv g (d + 1) mX12_newName 33 [some (.ref 655), some (.int i1), some (.int i2)] [] 698 u1 w1 r 698 P) ∧ (¬ (v6 < 0) → xCall g d mX12_wrong [.ref 655, .int (3 : Int32)] 698 u1 w1 r 698 (fun rv9 u9 w9 r9 => rv9 = none ∧ w1 = w9 ∧ r = r9 ∧ xEv g (d + 1) mX12_newName 33 [some (.ref 655), some (.int i1), some (.int i2)] [] 698 u9 w1 r 698 P))))))) :
    xCall g (d + 1) mX12_newName [.ref 655, .int i1, .int i2] 698 u w r 698 P :=
  xCall.of plX12 (Nat.le_of_ble_eq_true rfl) rfl (TX12_newName_0  k)

theorem TX12_newName_33 {g : xGT} {d : Nat} {i1 i2 : Int32} {u : xU} {w : xW} {r : xQ} {P : xPost} (hr : xRf r)
    (k : ((u 655 2) ≤ 0 → vp_in (i1 + i2) 21 ∧ (xCall g d mX12_token [.ref 655] 698 u (x2 w 657 (i1 + i2).toNatClampNeg (w 655 9)) r 698 (fun rv13 u13 w13 r13 => rv13 = none ∧ r = r13 ∧ P none u13 w13 r))) ∧ (¬ ((u 655 2) ≤ 0) → P none u w r)) :
    xEv g (d + 1) mX12_newName 33 [some (.ref 655), some (.int i1), some (.int i2)] [] 698 u w r 698 P := by
  refine xe_aload_n dX12_newName_33 rfl ?_
  refine xe_getI dX12_newName_34 flX12_185 kk655 (xKK_lt kk655) rfl ?_
  refine xe_if_le (tgt := 41) dX12_newName_37 rfl (fun c10 => ?_) (fun c11 => ?_)
  · have k := k.1 c10
    refine xe_aload_n dX12_newName_41 rfl ?_
    refine xe_getR (b := 657) dX12_newName_42 flX12_17 kk655 (xKK_lt kk655) rfl (rf655_10 hr) ?_
    refine xe_iload_n dX12_newName_45 rfl ?_
    refine xe_iload_n dX12_newName_46 rfl ?_
    refine xe_iadd dX12_newName_47 ?_
    refine xe_aload_n dX12_newName_48 rfl ?_
    refine xe_getL dX12_newName_49 flX12_165 kk655 (xKK_lt kk655) rfl ?_
    obtain ⟨b12, k⟩ := k
    refine xe_last dX12_newName_52 kk657 (xKK_lt kk657) b12 ?_
    refine xe_aload_n dX12_newName_53 rfl ?_
    refine xe_callV (args := []) dX12_newName_54 vlX12_237 rfl rfl (Nat.le_of_ble_eq_true rfl) kk655 (xKK_lt kk655) rfl rfl k (Nat.le_refl _) (fun rv13 u13 w13 r13 k => ?_)
    obtain ⟨rfl, rfl, k⟩ := k
    exact xe_return dX12_newName_57 trivial k
  · have k := k.2 (fun q => (c11 q))
    exact xe_return dX12_newName_40 trivial k

/-! FuneralPostModel.oldVillage -/

theorem TX12_oldVillage_0 {g : xGT} {d : Nat} {u : xU} {w : xW} {r : xQ} {P : xPost}
    (k : ((u 655 2) ≤ 0 → xCall g d mX12_isName [.ref 655] 698 u w r 698 (fun rv3 u3 w3 r3 => ∃ v3 : Int32, rv3 = some (.int v3) ∧ u = u3 ∧ w = w3 ∧ r = r3 ∧ (v3 = 0 → xCall g d mX12_wrong [.ref 655, .int (2 : Int32)] 698 u w r 698 (fun rv6 u6 w6 r6 => rv6 = none ∧ w = w6 ∧ r = r6 ∧ xEv g (d + 1) mX12_oldVillage 41 [some (.ref 655)] [] 698 u6 w r 698 P)) ∧ (¬ (v3 = 0) → xCall g d mX12_find [.ref 655, .int (0 : Int32), .int (u 655 43)] 698 u w r 698 (fun rv7 u7 w7 r7 => ∃ v7 : Int32, rv7 = some (.int v7) ∧ u = u7 ∧ w = w7 ∧ r = r7 ∧ (0 ≤ v7 → xEv g (d + 1) mX12_oldVillage 41 [some (.ref 655)] [] 698 u w r 698 P) ∧ (¬ (0 ≤ v7) → xCall g d mX12_wrong [.ref 655, .int (5 : Int32)] 698 u w r 698 (fun rv10 u10 w10 r10 => rv10 = none ∧ w = w10 ∧ r = r10 ∧ xEv g (d + 1) mX12_oldVillage 41 [some (.ref 655)] [] 698 u10 w r 698 P)))))) ∧ (¬ ((u 655 2) ≤ 0) → P (some (.int (0 : Int32))) u w r)) :
    xEv g (d + 1) mX12_oldVillage 0 [some (.ref 655)] [] 698 u w r 698 P := by
  refine xe_aload_n dX12_oldVillage_0 rfl ?_
  refine xe_getI dX12_oldVillage_1 flX12_185 kk655 (xKK_lt kk655) rfl ?_
  refine xe_if_le (tgt := 9) dX12_oldVillage_4 rfl (fun c1 => ?_) (fun c2 => ?_)
  · have k := k.1 c1
    refine xe_aload_n dX12_oldVillage_9 rfl ?_
    refine xe_callV (args := []) dX12_oldVillage_10 vlX12_252 rfl rfl (Nat.le_of_ble_eq_true rfl) kk655 (xKK_lt kk655) rfl rfl k (Nat.le_refl _) (fun rv3 u3 w3 r3 k => ?_)
    obtain ⟨v3, rfl, rfl, rfl, rfl, k⟩ := k
    refine xe_if_ne (tgt := 24) dX12_oldVillage_13 rfl (fun c4 => ?_) (fun c5 => ?_)
    · have k := k.2 (fun q => (c4 q))
      refine xe_aload_n dX12_oldVillage_24 rfl ?_
      refine xe_iconst (v := 0) dX12_oldVillage_25 rfl ?_
      refine xe_aload_n dX12_oldVillage_26 rfl ?_
      refine xe_getI dX12_oldVillage_27 flX12_258 kk655 (xKK_lt kk655) rfl ?_
      refine xe_callV (args := [.int (0 : Int32), .int (u 655 43)]) dX12_oldVillage_30 vlX12_255 rfl rfl (Nat.le_of_ble_eq_true rfl) kk655 (xKK_lt kk655) rfl rfl k (Nat.le_refl _) (fun rv7 u7 w7 r7 k => ?_)
      obtain ⟨v7, rfl, rfl, rfl, rfl, k⟩ := k
      refine xe_if_ge (tgt := 41) dX12_oldVillage_33 rfl (fun c8 => ?_) (fun c9 => ?_)
      · have k := k.1 c8
        exact k
      · have k := k.2 (fun q => (c9 q))
        refine xe_aload_n dX12_oldVillage_36 rfl ?_
        refine xe_iconst (v := 5) dX12_oldVillage_37 rfl ?_
        refine xe_callV (args := [.int (5 : Int32)]) dX12_oldVillage_38 vlX12_234 rfl rfl (Nat.le_of_ble_eq_true rfl) kk655 (xKK_lt kk655) rfl rfl k (Nat.le_refl _) (fun rv10 u10 w10 r10 k => ?_)
        obtain ⟨rfl, rfl, rfl, k⟩ := k
        exact k
    · have k := k.1 c5
      refine xe_aload_n dX12_oldVillage_16 rfl ?_
      refine xe_iconst (v := 2) dX12_oldVillage_17 rfl ?_
      refine xe_callV (args := [.int (2 : Int32)]) dX12_oldVillage_18 vlX12_234 rfl rfl (Nat.le_of_ble_eq_true rfl) kk655 (xKK_lt kk655) rfl rfl k (Nat.le_refl _) (fun rv6 u6 w6 r6 k => ?_)
      obtain ⟨rfl, rfl, rfl, k⟩ := k
      refine xe_goto (tgt := 41) dX12_oldVillage_21 rfl ?_
      exact k
  · have k := k.2 (fun q => (c2 q))
    refine xe_iconst (v := 0) dX12_oldVillage_7 rfl ?_
    exact xe_ireturn dX12_oldVillage_8 rfl k

theorem CX12_oldVillage {g : xGT} {d : Nat} {u : xU} {w : xW} {r : xQ} {P : xPost}
    (k : ((u 655 2) ≤ 0 → xCall g d mX12_isName [.ref 655] 698 u w r 698 (fun rv3 u3 w3 r3 => ∃ v3 : Int32, rv3 = some (.int v3) ∧ u = u3 ∧ w = w3 ∧ r = r3 ∧ (v3 = 0 → xCall g d mX12_wrong [.ref 655, .int (2 : Int32)] 698 u w r 698 (fun rv6 u6 w6 r6 => rv6 = none ∧ w = w6 ∧ r = r6 ∧ xEv g (d + 1) mX12_oldVillage 41 [some (.ref 655)] [] 698 u6 w r 698 P)) ∧ (¬ (v3 = 0) → xCall g d mX12_find [.ref 655, .int (0 : Int32), .int (u 655 43)] 698 u w r 698 (fun rv7 u7 w7 r7 => ∃ v7 : Int32, rv7 = some (.int v7) ∧ u = u7 ∧ w = w7 ∧ r = r7 ∧ (0 ≤ v7 → xEv g (d + 1) mX12_oldVillage 41 [some (.ref 655)] [] 698 u w r 698 P) ∧ (¬ (0 ≤ v7) → xCall g d mX12_wrong [.ref 655, .int (5 : Int32)] 698 u w r 698 (fun rv10 u10 w10 r10 => rv10 = none ∧ w = w10 ∧ r = r10 ∧ xEv g (d + 1) mX12_oldVillage 41 [some (.ref 655)] [] 698 u10 w r 698 P)))))) ∧ (¬ ((u 655 2) ≤ 0) → P (some (.int (0 : Int32))) u w r)) :
    xCall g (d + 1) mX12_oldVillage [.ref 655] 698 u w r 698 P :=
  xCall.of plX12 (Nat.le_of_ble_eq_true rfl) rfl (TX12_oldVillage_0  k)

theorem TX12_oldVillage_41 {g : xGT} {d : Nat} {u : xU} {w : xW} {r : xQ} {P : xPost}
    (k : ((u 655 2) ≤ 0 → xCall g d mX12_find [.ref 655, .int (0 : Int32), .int (u 655 43)] 698 u w r 698 (fun rv13 u13 w13 r13 => ∃ v13 : Int32, rv13 = some (.int v13) ∧ u = u13 ∧ w = w13 ∧ r = r13 ∧ P (some (.int v13)) u w r)) ∧ (¬ ((u 655 2) ≤ 0) → P (some (.int (0 : Int32))) u w r)) :
    xEv g (d + 1) mX12_oldVillage 41 [some (.ref 655)] [] 698 u w r 698 P := by
  refine xe_aload_n dX12_oldVillage_41 rfl ?_
  refine xe_getI dX12_oldVillage_42 flX12_185 kk655 (xKK_lt kk655) rfl ?_
  refine xe_if_le (tgt := 52) dX12_oldVillage_45 rfl (fun c11 => ?_) (fun c12 => ?_)
  · have k := k.1 c11
    refine xe_aload_n dX12_oldVillage_52 rfl ?_
    refine xe_iconst (v := 0) dX12_oldVillage_53 rfl ?_
    refine xe_aload_n dX12_oldVillage_54 rfl ?_
    refine xe_getI dX12_oldVillage_55 flX12_258 kk655 (xKK_lt kk655) rfl ?_
    refine xe_callV (args := [.int (0 : Int32), .int (u 655 43)]) dX12_oldVillage_58 vlX12_255 rfl rfl (Nat.le_of_ble_eq_true rfl) kk655 (xKK_lt kk655) rfl rfl k (Nat.le_refl _) (fun rv13 u13 w13 r13 k => ?_)
    obtain ⟨v13, rfl, rfl, rfl, rfl, k⟩ := k
    exact xe_ireturn dX12_oldVillage_61 rfl k
  · have k := k.2 (fun q => (c12 q))
    refine xe_iconst (v := 0) dX12_oldVillage_48 rfl ?_
    refine xe_goto (tgt := 61) dX12_oldVillage_49 rfl ?_
    exact xe_ireturn dX12_oldVillage_61 rfl k

/-! FuneralPostModel.villageBy -/

theorem TX12_villageBy_0 {g : xGT} {d : Nat} {y1 : Int64} {u : xU} {w : xW} {r : xQ} {P : xPost}
    (k : xCall g d mX12_want [.ref 655, .long y1] 698 u w r 698 (fun rv1 u1 w1 r1 => rv1 = none ∧ r = r1 ∧ xCall g d mX12_oldVillage [.ref 655] 698 u1 w1 r 698 (fun rv2 u2 w2 r2 => ∃ v2 : Int32, rv2 = some (.int v2) ∧ w1 = w2 ∧ r = r2 ∧ ((u2 655 2) = 0 → xCall g d mX12_token [.ref 655] 698 u2 w1 r 698 (fun rv5 u5 w5 r5 => rv5 = none ∧ r = r5 ∧ P (some (.int v2)) u5 w5 r)) ∧ (¬ ((u2 655 2) = 0) → P (some (.int v2)) u2 w1 r)))) :
    xEv g (d + 1) mX12_villageBy 0 [some (.ref 655), some (.long y1), none, none] [] 698 u w r 698 P := by
  refine xe_aload_n dX12_villageBy_0 rfl ?_
  refine xe_lload_n dX12_villageBy_1 rfl ?_
  refine xe_callV (args := [.long y1]) dX12_villageBy_2 vlX12_240 rfl rfl (Nat.le_of_ble_eq_true rfl) kk655 (xKK_lt kk655) rfl rfl k (Nat.le_refl _) (fun rv1 u1 w1 r1 k => ?_)
  obtain ⟨rfl, rfl, k⟩ := k
  refine xe_aload_n dX12_villageBy_5 rfl ?_
  refine xe_callV (args := []) dX12_villageBy_6 vlX12_261 rfl rfl (Nat.le_of_ble_eq_true rfl) kk655 (xKK_lt kk655) rfl rfl k (Nat.le_refl _) (fun rv2 u2 w2 r2 k => ?_)
  obtain ⟨v2, rfl, rfl, rfl, k⟩ := k
  refine xe_istore_n (ls' := [some (.ref 655), some (.long y1), none, some (.int v2)]) dX12_villageBy_9 rfl (by decide) rfl ?_
  refine xe_aload_n dX12_villageBy_10 rfl ?_
  refine xe_getI dX12_villageBy_11 flX12_185 kk655 (xKK_lt kk655) rfl ?_
  refine xe_if_ne (tgt := 21) dX12_villageBy_14 rfl (fun c3 => ?_) (fun c4 => ?_)
  · have k := k.2 (fun q => (c3 q))
    refine xe_iload_n dX12_villageBy_21 rfl ?_
    exact xe_ireturn dX12_villageBy_22 rfl k
  · have k := k.1 c4
    refine xe_aload_n dX12_villageBy_17 rfl ?_
    refine xe_callV (args := []) dX12_villageBy_18 vlX12_237 rfl rfl (Nat.le_of_ble_eq_true rfl) kk655 (xKK_lt kk655) rfl rfl k (Nat.le_refl _) (fun rv5 u5 w5 r5 k => ?_)
    obtain ⟨rfl, rfl, k⟩ := k
    refine xe_iload_n dX12_villageBy_21 rfl ?_
    exact xe_ireturn dX12_villageBy_22 rfl k

theorem CX12_villageBy {g : xGT} {d : Nat} {y1 : Int64} {u : xU} {w : xW} {r : xQ} {P : xPost}
    (k : xCall g d mX12_want [.ref 655, .long y1] 698 u w r 698 (fun rv1 u1 w1 r1 => rv1 = none ∧ r = r1 ∧ xCall g d mX12_oldVillage [.ref 655] 698 u1 w1 r 698 (fun rv2 u2 w2 r2 => ∃ v2 : Int32, rv2 = some (.int v2) ∧ w1 = w2 ∧ r = r2 ∧ ((u2 655 2) = 0 → xCall g d mX12_token [.ref 655] 698 u2 w1 r 698 (fun rv5 u5 w5 r5 => rv5 = none ∧ r = r5 ∧ P (some (.int v2)) u5 w5 r)) ∧ (¬ ((u2 655 2) = 0) → P (some (.int v2)) u2 w1 r)))) :
    xCall g (d + 1) mX12_villageBy [.ref 655, .long y1] 698 u w r 698 P :=
  xCall.of plX12 (Nat.le_of_ble_eq_true rfl) rfl (TX12_villageBy_0  k)

/-! FuneralPostModel.goalBut -/

theorem TX12_goalBut_0 {g : xGT} {d : Nat} {i1 : Int32} {u : xU} {w : xW} {r : xQ} {P : xPost}
    (k : xCall g d mX12_want [.ref 655, .long (29807 : Int64)] 698 u w r 698 (fun rv1 u1 w1 r1 => rv1 = none ∧ r = r1 ∧ xCall g d mX12_oldVillage [.ref 655] 698 u1 w1 r 698 (fun rv2 u2 w2 r2 => ∃ v2 : Int32, rv2 = some (.int v2) ∧ w1 = w2 ∧ r = r2 ∧ (((u2 655 2) = 0 ∧ v2 = i1) → xCall g d mX12_wrong [.ref 655, .int (3 : Int32)] 698 u2 w1 r 698 (fun rv7 u7 w7 r7 => rv7 = none ∧ w1 = w7 ∧ r = r7 ∧ xEv g (d + 1) mX12_goalBut 29 [some (.ref 655), none, some (.int v2)] [] 698 u7 w1 r 698 P)) ∧ (¬ ((u2 655 2) = 0 ∧ v2 = i1) → xEv g (d + 1) mX12_goalBut 29 [some (.ref 655), none, some (.int v2)] [] 698 u2 w1 r 698 P)))) :
    xEv g (d + 1) mX12_goalBut 0 [some (.ref 655), some (.int i1), none] [] 698 u w r 698 P := by
  refine xe_aload_n dX12_goalBut_0 rfl ?_
  refine xe_ldc2 (v := 29807) dX12_goalBut_1 (xT_at 1658 (by decide +kernel) (by decide +kernel)) ?_
  refine xe_callV (args := [.long (29807 : Int64)]) dX12_goalBut_4 vlX12_240 rfl rfl (Nat.le_of_ble_eq_true rfl) kk655 (xKK_lt kk655) rfl rfl k (Nat.le_refl _) (fun rv1 u1 w1 r1 k => ?_)
  obtain ⟨rfl, rfl, k⟩ := k
  refine xe_aload_n dX12_goalBut_7 rfl ?_
  refine xe_callV (args := []) dX12_goalBut_8 vlX12_261 rfl rfl (Nat.le_of_ble_eq_true rfl) kk655 (xKK_lt kk655) rfl rfl k (Nat.le_refl _) (fun rv2 u2 w2 r2 k => ?_)
  obtain ⟨v2, rfl, rfl, rfl, k⟩ := k
  refine xe_istore_n (ls' := [some (.ref 655), some (.int i1), some (.int v2)]) dX12_goalBut_11 rfl (by decide) rfl ?_
  refine xe_aload_n dX12_goalBut_12 rfl ?_
  refine xe_getI dX12_goalBut_13 flX12_185 kk655 (xKK_lt kk655) rfl ?_
  have K8 : ¬ ((u2 655 2) = 0 ∧ v2 = i1) → xEv g (d + 1) mX12_goalBut 29 [some (.ref 655), some (.int i1), some (.int v2)] [] 698 u2 w1 r 698 P := fun c9 => by
    have k := k.2 c9
    exact xEv.fewer (ls' := [some (.ref 655), none, some (.int v2)]) k (xfw_get (xfw_s (xfw_n (xfw_s (xfw_nil _)))))
  refine xe_if_ne (tgt := 29) dX12_goalBut_16 rfl (fun c3 => ?_) (fun c4 => ?_)
  · exact K8 (fun q => (c3 q.1))
  · refine xe_iload_n dX12_goalBut_19 rfl ?_
    refine xe_iload_n dX12_goalBut_20 rfl ?_
    refine xe_icmp_ne (tgt := 29) dX12_goalBut_21 rfl (fun c5 => ?_) (fun c6 => ?_)
    · exact K8 (fun q => (c5 q.2))
    · have k := k.1 ⟨c4, c6⟩
      refine xe_aload_n dX12_goalBut_24 rfl ?_
      refine xe_iconst (v := 3) dX12_goalBut_25 rfl ?_
      refine xe_callV (args := [.int (3 : Int32)]) dX12_goalBut_26 vlX12_234 rfl rfl (Nat.le_of_ble_eq_true rfl) kk655 (xKK_lt kk655) rfl rfl k (Nat.le_refl _) (fun rv7 u7 w7 r7 k => ?_)
      obtain ⟨rfl, rfl, rfl, k⟩ := k
      exact xEv.fewer (ls' := [some (.ref 655), none, some (.int v2)]) k (xfw_get (xfw_s (xfw_n (xfw_s (xfw_nil _)))))

theorem CX12_goalBut {g : xGT} {d : Nat} {i1 : Int32} {u : xU} {w : xW} {r : xQ} {P : xPost}
    (k : xCall g d mX12_want [.ref 655, .long (29807 : Int64)] 698 u w r 698 (fun rv1 u1 w1 r1 => rv1 = none ∧ r = r1 ∧ xCall g d mX12_oldVillage [.ref 655] 698 u1 w1 r 698 (fun rv2 u2 w2 r2 => ∃ v2 : Int32, rv2 = some (.int v2) ∧ w1 = w2 ∧ r = r2 ∧ (((u2 655 2) = 0 ∧ v2 = i1) → xCall g d mX12_wrong [.ref 655, .int (3 : Int32)] 698 u2 w1 r 698 (fun rv7 u7 w7 r7 => rv7 = none ∧ w1 = w7 ∧ r = r7 ∧ xEv g (d + 1) mX12_goalBut 29 [some (.ref 655), none, some (.int v2)] [] 698 u7 w1 r 698 P)) ∧ (¬ ((u2 655 2) = 0 ∧ v2 = i1) → xEv g (d + 1) mX12_goalBut 29 [some (.ref 655), none, some (.int v2)] [] 698 u2 w1 r 698 P)))) :
    xCall g (d + 1) mX12_goalBut [.ref 655, .int i1] 698 u w r 698 P :=
  xCall.of plX12 (Nat.le_of_ble_eq_true rfl) rfl (TX12_goalBut_0  k)

theorem TX12_goalBut_29 {g : xGT} {d : Nat} {i2 : Int32} {u : xU} {w : xW} {r : xQ} {P : xPost}
    (k : ((u 655 2) = 0 → xCall g d mX12_token [.ref 655] 698 u w r 698 (fun rv12 u12 w12 r12 => rv12 = none ∧ r = r12 ∧ P (some (.int i2)) u12 w12 r)) ∧ (¬ ((u 655 2) = 0) → P (some (.int i2)) u w r)) :
    xEv g (d + 1) mX12_goalBut 29 [some (.ref 655), none, some (.int i2)] [] 698 u w r 698 P := by
  refine xe_aload_n dX12_goalBut_29 rfl ?_
  refine xe_getI dX12_goalBut_30 flX12_185 kk655 (xKK_lt kk655) rfl ?_
  refine xe_if_ne (tgt := 40) dX12_goalBut_33 rfl (fun c10 => ?_) (fun c11 => ?_)
  · have k := k.2 (fun q => (c10 q))
    refine xe_iload_n dX12_goalBut_40 rfl ?_
    exact xe_ireturn dX12_goalBut_41 rfl k
  · have k := k.1 c11
    refine xe_aload_n dX12_goalBut_36 rfl ?_
    refine xe_callV (args := []) dX12_goalBut_37 vlX12_237 rfl rfl (Nat.le_of_ble_eq_true rfl) kk655 (xKK_lt kk655) rfl rfl k (Nat.le_refl _) (fun rv12 u12 w12 r12 k => ?_)
    obtain ⟨rfl, rfl, k⟩ := k
    refine xe_iload_n dX12_goalBut_40 rfl ?_
    exact xe_ireturn dX12_goalBut_41 rfl k

/-! FuneralPostModel.add -/

theorem TX12_add_0 {g : xGT} {d : Nat} {i1 i2 : Int32} {u : xU} {w : xW} {r : xQ} {P : xPost} (hr : xRf r)
    (k : vp_in (u 655 17) 320 ∧ (P none (x2 (x2 (x2 u 658 (u 655 17).toNatClampNeg i1) 659 (u 655 17).toNatClampNeg i2) 655 17 ((u 655 17) + (1 : Int32))) w r)) :
    xEv g d mX12_add 0 [some (.ref 655), some (.int i1), some (.int i2)] [] 698 u w r 698 P := by
  refine xe_aload_n dX12_add_0 rfl ?_
  refine xe_getR (b := 658) dX12_add_1 flX12_21 kk655 (xKK_lt kk655) rfl (rf655_11 hr) ?_
  refine xe_aload_n dX12_add_4 rfl ?_
  refine xe_getI dX12_add_5 flX12_265 kk655 (xKK_lt kk655) rfl ?_
  refine xe_iload_n dX12_add_8 rfl ?_
  obtain ⟨b1, k⟩ := k
  refine xe_iast dX12_add_9 kk658 (xKK_lt kk658) b1 ?_
  refine xe_aload_n dX12_add_10 rfl ?_
  refine xe_getR (b := 659) dX12_add_11 flX12_24 kk655 (xKK_lt kk655) rfl (rf655_12 hr) ?_
  refine xe_aload_n dX12_add_14 rfl ?_
  refine xe_getI dX12_add_15 flX12_265 kk655 (xKK_lt kk655) rfl ?_
  refine xe_iload_n dX12_add_18 rfl ?_
  refine xe_iast dX12_add_19 kk659 (xKK_lt kk659) b1 ?_
  refine xe_aload_n dX12_add_20 rfl ?_
  refine xe_dup dX12_add_21 rfl ?_
  refine xe_getI dX12_add_22 flX12_265 kk655 (xKK_lt kk655) rfl ?_
  refine xe_iconst (v := 1) dX12_add_25 rfl ?_
  refine xe_iadd dX12_add_26 ?_
  refine xe_putI dX12_add_27 flX12_265 kk655 (xKK_lt kk655) nf12_17 rfl ?_
  exact xe_return dX12_add_30 trivial k

theorem CX12_add {g : xGT} {d : Nat} {i1 i2 : Int32} {u : xU} {w : xW} {r : xQ} {P : xPost} (hr : xRf r)
    (k : vp_in (u 655 17) 320 ∧ (P none (x2 (x2 (x2 u 658 (u 655 17).toNatClampNeg i1) 659 (u 655 17).toNatClampNeg i2) 655 17 ((u 655 17) + (1 : Int32))) w r)) :
    xCall g d mX12_add [.ref 655, .int i1, .int i2] 698 u w r 698 P :=
  xCall.of plX12 (Nat.le_of_ble_eq_true rfl) rfl (TX12_add_0 hr k)

/-! FuneralPostModel.closeTo -/

set_option maxRecDepth 20000 in
theorem TX12_closeTo_0 {g : xGT} {d : Nat} {i1 : Int32} {u : xU} {w : xW} {r : xQ} {P : xPost} (hr : xRf r)
    (k : (¬ ((u 655 19) ≤ 0) → vp_in ((u 655 19) - (1 : Int32)) 160) ∧ (((¬ ((u 655 19) ≤ 0) ∧ ¬ ((u 662 ((u 655 19) - (1 : Int32)).toNatClampNeg) = (20 : Int32))) → vp_in ((u 655 19) - (1 : Int32)) 160 ∧ (xCall g d mX12_tight [.int (u 662 ((u 655 19) - (1 : Int32)).toNatClampNeg)] 698 u w r 698 (fun rv7 u7 w7 r7 => ∃ v7 : Int32, rv7 = some (.int v7) ∧ u = u7 ∧ w = w7 ∧ r = r7 ∧ (v7 < i1 → P none u w r) ∧ (¬ (v7 < i1) → ((u 662 ((u 655 19) - (1 : Int32)).toNatClampNeg) = (21 : Int32) → xCall g d mX12_add [.ref 655, .int (2 : Int32), .int (0 : Int32)] 698 (x2 u 655 19 ((u 655 19) - (1 : Int32))) w r 698 (fun rv12 u12 w12 r12 => rv12 = none ∧ w = w12 ∧ r = r12 ∧ xEv g (d + 1) mX12_closeTo 0 [some (.ref 655), some (.int i1)] [] 698 (x2 u12 655 23 ((u12 655 23) - (1 : Int32))) w r 698 P)) ∧ (¬ ((u 662 ((u 655 19) - (1 : Int32)).toNatClampNeg) = (21 : Int32)) → xCall g d mX12_add [.ref 655, .int (3 : Int32), .int (u 662 ((u 655 19) - (1 : Int32)).toNatClampNeg)] 698 (x2 u 655 19 ((u 655 19) - (1 : Int32))) w r 698 (fun rv13 u13 w13 r13 => rv13 = none ∧ w = w13 ∧ r = r13 ∧ xEv g (d + 1) mX12_closeTo 0 [some (.ref 655), some (.int i1)] [] 698 u13 w r 698 P)))))) ∧ (¬ (¬ ((u 655 19) ≤ 0) ∧ ¬ ((u 662 ((u 655 19) - (1 : Int32)).toNatClampNeg) = (20 : Int32))) → P none u w r))) :
    xEv g (d + 1) mX12_closeTo 0 [some (.ref 655), some (.int i1)] [] 698 u w r 698 P := by
  refine xe_aload_n dX12_closeTo_0 rfl ?_
  refine xe_getI dX12_closeTo_1 flX12_268 kk655 (xKK_lt kk655) rfl ?_
  obtain ⟨b3, k⟩ := k
  have K14 : ¬ (¬ ((u 655 19) ≤ 0) ∧ ¬ ((u 662 ((u 655 19) - (1 : Int32)).toNatClampNeg) = (20 : Int32))) → xEv g (d + 1) mX12_closeTo 101 [some (.ref 655), some (.int i1)] [] 698 u w r 698 P := fun c15 => by
    have k := k.2 c15
    exact xe_return dX12_closeTo_101 trivial k
  refine xe_if_le (tgt := 101) dX12_closeTo_4 rfl (fun c1 => ?_) (fun c2 => ?_)
  · exact K14 (fun q => (q.1 c1))
  · refine xe_aload_n dX12_closeTo_7 rfl ?_
    refine xe_getR (b := 662) dX12_closeTo_8 flX12_33 kk655 (xKK_lt kk655) rfl (rf655_15 hr) ?_
    refine xe_aload_n dX12_closeTo_11 rfl ?_
    refine xe_getI dX12_closeTo_12 flX12_268 kk655 (xKK_lt kk655) rfl ?_
    refine xe_iconst (v := 1) dX12_closeTo_15 rfl ?_
    refine xe_isub dX12_closeTo_16 ?_
    refine xe_iald dX12_closeTo_17 kk662 (xKK_lt kk662) (b3 c2) ?_
    refine xe_bipush (v := 20) dX12_closeTo_18 rfl ?_
    refine xe_icmp_eq (tgt := 101) dX12_closeTo_20 rfl (fun c4 => ?_) (fun c5 => ?_)
    · exact K14 (fun q => (q.2 c4))
    · have k := k.1 ⟨c2, c5⟩
      refine xe_aload_n dX12_closeTo_23 rfl ?_
      refine xe_getR (b := 662) dX12_closeTo_24 flX12_33 kk655 (xKK_lt kk655) rfl (rf655_15 hr) ?_
      refine xe_aload_n dX12_closeTo_27 rfl ?_
      refine xe_getI dX12_closeTo_28 flX12_268 kk655 (xKK_lt kk655) rfl ?_
      refine xe_iconst (v := 1) dX12_closeTo_31 rfl ?_
      refine xe_isub dX12_closeTo_32 ?_
      obtain ⟨b6, k⟩ := k
      refine xe_iald dX12_closeTo_33 kk662 (xKK_lt kk662) b6 ?_
      refine xe_callS (args := [.int (u 662 ((u 655 19) - (1 : Int32)).toNatClampNeg)]) dX12_closeTo_34 slX12_271 rfl rfl (Nat.le_of_ble_eq_true rfl) k (Nat.le_refl _) (fun rv7 u7 w7 r7 k => ?_)
      obtain ⟨v7, rfl, rfl, rfl, rfl, k⟩ := k
      refine xe_iload_n dX12_closeTo_37 rfl ?_
      refine xe_icmp_lt (tgt := 101) dX12_closeTo_38 rfl (fun c8 => ?_) (fun c9 => ?_)
      · have k := k.1 c8
        exact xe_return dX12_closeTo_101 trivial k
      · have k := k.2 (fun q => (c9 q))
        refine xe_aload_n dX12_closeTo_41 rfl ?_
        refine xe_dup dX12_closeTo_42 rfl ?_
        refine xe_getI dX12_closeTo_43 flX12_268 kk655 (xKK_lt kk655) rfl ?_
        refine xe_iconst (v := 1) dX12_closeTo_46 rfl ?_
        refine xe_isub dX12_closeTo_47 ?_
        refine xe_putI dX12_closeTo_48 flX12_268 kk655 (xKK_lt kk655) nf12_19 rfl ?_
        refine xe_aload_n dX12_closeTo_51 rfl ?_
        refine xe_getR (b := 662) dX12_closeTo_52 flX12_33 kk655 (xKK_lt kk655) rfl (rf655_15 hr) ?_
        refine xe_aload_n dX12_closeTo_55 rfl ?_
        refine xe_getI dX12_closeTo_56 flX12_268 kk655 (xKK_lt kk655) rfl ?_
        refine xe_iald dX12_closeTo_59 kk662 (xKK_lt kk662) b6 ?_
        refine xe_bipush (v := 21) dX12_closeTo_60 rfl ?_
        refine xe_icmp_ne (tgt := 84) dX12_closeTo_62 rfl (fun c10 => ?_) (fun c11 => ?_)
        · have k := k.2 (fun q => (c10 q))
          refine xe_aload_n dX12_closeTo_84 rfl ?_
          refine xe_iconst (v := 3) dX12_closeTo_85 rfl ?_
          refine xe_aload_n dX12_closeTo_86 rfl ?_
          refine xe_getR (b := 662) dX12_closeTo_87 flX12_33 kk655 (xKK_lt kk655) rfl (rf655_15 hr) ?_
          refine xe_aload_n dX12_closeTo_90 rfl ?_
          refine xe_getI dX12_closeTo_91 flX12_268 kk655 (xKK_lt kk655) rfl ?_
          refine xe_iald dX12_closeTo_94 kk662 (xKK_lt kk662) b6 ?_
          refine xe_callV (args := [.int (3 : Int32), .int (u 662 ((u 655 19) - (1 : Int32)).toNatClampNeg)]) dX12_closeTo_95 vlX12_274 rfl rfl (Nat.le_of_ble_eq_true rfl) kk655 (xKK_lt kk655) rfl rfl k (Nat.le_refl _) (fun rv13 u13 w13 r13 k => ?_)
          obtain ⟨rfl, rfl, rfl, k⟩ := k
          refine xe_goto (tgt := 0) dX12_closeTo_98 rfl ?_
          exact k
        · have k := k.1 c11
          refine xe_aload_n dX12_closeTo_65 rfl ?_
          refine xe_iconst (v := 2) dX12_closeTo_66 rfl ?_
          refine xe_iconst (v := 0) dX12_closeTo_67 rfl ?_
          refine xe_callV (args := [.int (2 : Int32), .int (0 : Int32)]) dX12_closeTo_68 vlX12_274 rfl rfl (Nat.le_of_ble_eq_true rfl) kk655 (xKK_lt kk655) rfl rfl k (Nat.le_refl _) (fun rv12 u12 w12 r12 k => ?_)
          obtain ⟨rfl, rfl, rfl, k⟩ := k
          refine xe_aload_n dX12_closeTo_71 rfl ?_
          refine xe_dup dX12_closeTo_72 rfl ?_
          refine xe_getI dX12_closeTo_73 flX12_278 kk655 (xKK_lt kk655) rfl ?_
          refine xe_iconst (v := 1) dX12_closeTo_76 rfl ?_
          refine xe_isub dX12_closeTo_77 ?_
          refine xe_putI dX12_closeTo_78 flX12_278 kk655 (xKK_lt kk655) nf12_23 rfl ?_
          refine xe_goto (tgt := 0) dX12_closeTo_81 rfl ?_
          exact k

theorem CX12_closeTo {g : xGT} {d : Nat} {i1 : Int32} {u : xU} {w : xW} {r : xQ} {P : xPost} (hr : xRf r)
    (k : (¬ ((u 655 19) ≤ 0) → vp_in ((u 655 19) - (1 : Int32)) 160) ∧ (((¬ ((u 655 19) ≤ 0) ∧ ¬ ((u 662 ((u 655 19) - (1 : Int32)).toNatClampNeg) = (20 : Int32))) → vp_in ((u 655 19) - (1 : Int32)) 160 ∧ (xCall g d mX12_tight [.int (u 662 ((u 655 19) - (1 : Int32)).toNatClampNeg)] 698 u w r 698 (fun rv7 u7 w7 r7 => ∃ v7 : Int32, rv7 = some (.int v7) ∧ u = u7 ∧ w = w7 ∧ r = r7 ∧ (v7 < i1 → P none u w r) ∧ (¬ (v7 < i1) → ((u 662 ((u 655 19) - (1 : Int32)).toNatClampNeg) = (21 : Int32) → xCall g d mX12_add [.ref 655, .int (2 : Int32), .int (0 : Int32)] 698 (x2 u 655 19 ((u 655 19) - (1 : Int32))) w r 698 (fun rv12 u12 w12 r12 => rv12 = none ∧ w = w12 ∧ r = r12 ∧ xEv g (d + 1) mX12_closeTo 0 [some (.ref 655), some (.int i1)] [] 698 (x2 u12 655 23 ((u12 655 23) - (1 : Int32))) w r 698 P)) ∧ (¬ ((u 662 ((u 655 19) - (1 : Int32)).toNatClampNeg) = (21 : Int32)) → xCall g d mX12_add [.ref 655, .int (3 : Int32), .int (u 662 ((u 655 19) - (1 : Int32)).toNatClampNeg)] 698 (x2 u 655 19 ((u 655 19) - (1 : Int32))) w r 698 (fun rv13 u13 w13 r13 => rv13 = none ∧ w = w13 ∧ r = r13 ∧ xEv g (d + 1) mX12_closeTo 0 [some (.ref 655), some (.int i1)] [] 698 u13 w r 698 P)))))) ∧ (¬ (¬ ((u 655 19) ≤ 0) ∧ ¬ ((u 662 ((u 655 19) - (1 : Int32)).toNatClampNeg) = (20 : Int32))) → P none u w r))) :
    xCall g (d + 1) mX12_closeTo [.ref 655, .int i1] 698 u w r 698 P :=
  xCall.of plX12 (Nat.le_of_ble_eq_true rfl) rfl (TX12_closeTo_0 hr k)

/-! FuneralPostModel.hasRelation -/

theorem TX12_hasRelation_0 {g : xGT} {d : Nat} {u : xU} {w : xW} {r : xQ} {P : xPost}
    (k : xEv g (d + 1) mX12_hasRelation 7 [some (.ref 655), some (.int ((u 655 19) - (1 : Int32)))] [] 698 u w r 698 P) :
    xEv g (d + 1) mX12_hasRelation 0 [some (.ref 655), none] [] 698 u w r 698 P := by
  refine xe_aload_n dX12_hasRelation_0 rfl ?_
  refine xe_getI dX12_hasRelation_1 flX12_268 kk655 (xKK_lt kk655) rfl ?_
  refine xe_iconst (v := 1) dX12_hasRelation_4 rfl ?_
  refine xe_isub dX12_hasRelation_5 ?_
  refine xe_istore_n (ls' := [some (.ref 655), some (.int ((u 655 19) - (1 : Int32)))]) dX12_hasRelation_6 rfl (by decide) rfl ?_
  exact k

theorem CX12_hasRelation {g : xGT} {d : Nat} {u : xU} {w : xW} {r : xQ} {P : xPost}
    (k : xEv g (d + 1) mX12_hasRelation 7 [some (.ref 655), some (.int ((u 655 19) - (1 : Int32)))] [] 698 u w r 698 P) :
    xCall g (d + 1) mX12_hasRelation [.ref 655] 698 u w r 698 P :=
  xCall.of plX12 (Nat.le_of_ble_eq_true rfl) rfl (TX12_hasRelation_0  k)

theorem TX12_hasRelation_7 {g : xGT} {d : Nat} {i1 : Int32} {u : xU} {w : xW} {r : xQ} {P : xPost} (hr : xRf r)
    (k : (¬ (i1 < 0) → vp_in i1 160) ∧ (((¬ (i1 < 0) ∧ ¬ ((u 662 i1.toNatClampNeg) = (20 : Int32))) → vp_in i1 160 ∧ (xCall g d mX12_tight [.int (u 662 i1.toNatClampNeg)] 698 u w r 698 (fun rv7 u7 w7 r7 => ∃ v7 : Int32, rv7 = some (.int v7) ∧ u = u7 ∧ w = w7 ∧ r = r7 ∧ (v7 ≤ (4 : Int32) → xEv g (d + 1) mX12_hasRelation 41 [some (.ref 655), some (.int i1)] [] 698 u w r 698 P) ∧ (¬ (v7 ≤ (4 : Int32)) → xEv g (d + 1) mX12_hasRelation 7 [some (.ref 655), some (.int (i1 + (-1 : Int32)))] [] 698 u w r 698 P)))) ∧ (¬ (¬ (i1 < 0) ∧ ¬ ((u 662 i1.toNatClampNeg) = (20 : Int32))) → xEv g (d + 1) mX12_hasRelation 41 [some (.ref 655), some (.int i1)] [] 698 u w r 698 P))) :
    xEv g (d + 1) mX12_hasRelation 7 [some (.ref 655), some (.int i1)] [] 698 u w r 698 P := by
  refine xe_iload_n dX12_hasRelation_7 rfl ?_
  obtain ⟨b3, k⟩ := k
  have K10 : ¬ (¬ (i1 < 0) ∧ ¬ ((u 662 i1.toNatClampNeg) = (20 : Int32))) → xEv g (d + 1) mX12_hasRelation 41 [some (.ref 655), some (.int i1)] [] 698 u w r 698 P := fun c11 => by
    have k := k.2 c11
    exact k
  refine xe_if_lt (tgt := 41) dX12_hasRelation_8 rfl (fun c1 => ?_) (fun c2 => ?_)
  · exact K10 (fun q => (q.1 c1))
  · refine xe_aload_n dX12_hasRelation_11 rfl ?_
    refine xe_getR (b := 662) dX12_hasRelation_12 flX12_33 kk655 (xKK_lt kk655) rfl (rf655_15 hr) ?_
    refine xe_iload_n dX12_hasRelation_15 rfl ?_
    refine xe_iald dX12_hasRelation_16 kk662 (xKK_lt kk662) (b3 c2) ?_
    refine xe_bipush (v := 20) dX12_hasRelation_17 rfl ?_
    refine xe_icmp_eq (tgt := 41) dX12_hasRelation_19 rfl (fun c4 => ?_) (fun c5 => ?_)
    · exact K10 (fun q => (q.2 c4))
    · have k := k.1 ⟨c2, c5⟩
      refine xe_aload_n dX12_hasRelation_22 rfl ?_
      refine xe_getR (b := 662) dX12_hasRelation_23 flX12_33 kk655 (xKK_lt kk655) rfl (rf655_15 hr) ?_
      refine xe_iload_n dX12_hasRelation_26 rfl ?_
      obtain ⟨b6, k⟩ := k
      refine xe_iald dX12_hasRelation_27 kk662 (xKK_lt kk662) b6 ?_
      refine xe_callS (args := [.int (u 662 i1.toNatClampNeg)]) dX12_hasRelation_28 slX12_271 rfl rfl (Nat.le_of_ble_eq_true rfl) k (Nat.le_refl _) (fun rv7 u7 w7 r7 k => ?_)
      obtain ⟨v7, rfl, rfl, rfl, rfl, k⟩ := k
      refine xe_iconst (v := 4) dX12_hasRelation_31 rfl ?_
      refine xe_icmp_le (tgt := 41) dX12_hasRelation_32 rfl (fun c8 => ?_) (fun c9 => ?_)
      · have k := k.1 c8
        exact k
      · have k := k.2 (fun q => (c9 q))
        refine xe_iinc (v := (i1 + (-1 : Int32))) (ls' := [some (.ref 655), some (.int (i1 + (-1 : Int32)))]) dX12_hasRelation_35 rfl (by decide) rfl rfl ?_
        refine xe_goto (tgt := 7) dX12_hasRelation_38 rfl ?_
        exact k

theorem TX12_hasRelation_41 {g : xGT} {d : Nat} {i1 : Int32} {u : xU} {w : xW} {r : xQ} {P : xPost} (hr : xRf r)
    (k : (¬ (i1 < 0) → vp_in i1 160) ∧ (((¬ (i1 < 0) ∧ ¬ ((u 662 i1.toNatClampNeg) = (20 : Int32))) → vp_in i1 160 ∧ (xCall g d mX12_tight [.int (u 662 i1.toNatClampNeg)] 698 u w r 698 (fun rv18 u18 w18 r18 => ∃ v18 : Int32, rv18 = some (.int v18) ∧ u = u18 ∧ w = w18 ∧ r = r18 ∧ (v18 = (4 : Int32) → P (some (.int (1 : Int32))) u w r) ∧ (¬ (v18 = (4 : Int32)) → P (some (.int (0 : Int32))) u w r)))) ∧ (¬ (¬ (i1 < 0) ∧ ¬ ((u 662 i1.toNatClampNeg) = (20 : Int32))) → P (some (.int (0 : Int32))) u w r))) :
    xEv g (d + 1) mX12_hasRelation 41 [some (.ref 655), some (.int i1)] [] 698 u w r 698 P := by
  refine xe_iload_n dX12_hasRelation_41 rfl ?_
  obtain ⟨b14, k⟩ := k
  have K21 : ¬ (¬ (i1 < 0) ∧ ¬ ((u 662 i1.toNatClampNeg) = (20 : Int32))) → xEv g (d + 1) mX12_hasRelation 73 [some (.ref 655), some (.int i1)] [] 698 u w r 698 P := fun c22 => by
    have k := k.2 c22
    refine xe_iconst (v := 0) dX12_hasRelation_73 rfl ?_
    exact xe_ireturn dX12_hasRelation_74 (xrokZ (Or.inl rfl)) k
  refine xe_if_lt (tgt := 73) dX12_hasRelation_42 rfl (fun c12 => ?_) (fun c13 => ?_)
  · exact K21 (fun q => (q.1 c12))
  · refine xe_aload_n dX12_hasRelation_45 rfl ?_
    refine xe_getR (b := 662) dX12_hasRelation_46 flX12_33 kk655 (xKK_lt kk655) rfl (rf655_15 hr) ?_
    refine xe_iload_n dX12_hasRelation_49 rfl ?_
    refine xe_iald dX12_hasRelation_50 kk662 (xKK_lt kk662) (b14 c13) ?_
    refine xe_bipush (v := 20) dX12_hasRelation_51 rfl ?_
    refine xe_icmp_eq (tgt := 73) dX12_hasRelation_53 rfl (fun c15 => ?_) (fun c16 => ?_)
    · exact K21 (fun q => (q.2 c15))
    · have k := k.1 ⟨c13, c16⟩
      refine xe_aload_n dX12_hasRelation_56 rfl ?_
      refine xe_getR (b := 662) dX12_hasRelation_57 flX12_33 kk655 (xKK_lt kk655) rfl (rf655_15 hr) ?_
      refine xe_iload_n dX12_hasRelation_60 rfl ?_
      obtain ⟨b17, k⟩ := k
      refine xe_iald dX12_hasRelation_61 kk662 (xKK_lt kk662) b17 ?_
      refine xe_callS (args := [.int (u 662 i1.toNatClampNeg)]) dX12_hasRelation_62 slX12_271 rfl rfl (Nat.le_of_ble_eq_true rfl) k (Nat.le_refl _) (fun rv18 u18 w18 r18 k => ?_)
      obtain ⟨v18, rfl, rfl, rfl, rfl, k⟩ := k
      refine xe_iconst (v := 4) dX12_hasRelation_65 rfl ?_
      refine xe_icmp_ne (tgt := 73) dX12_hasRelation_66 rfl (fun c19 => ?_) (fun c20 => ?_)
      · have k := k.2 (fun q => (c19 q))
        refine xe_iconst (v := 0) dX12_hasRelation_73 rfl ?_
        exact xe_ireturn dX12_hasRelation_74 (xrokZ (Or.inl rfl)) k
      · have k := k.1 c20
        refine xe_iconst (v := 1) dX12_hasRelation_69 rfl ?_
        refine xe_goto (tgt := 74) dX12_hasRelation_70 rfl ?_
        exact xe_ireturn dX12_hasRelation_74 (xrokZ (Or.inr rfl)) k

/-! FuneralPostModel.mayNot -/

theorem TX12_mayNot_0 {g : xGT} {d : Nat} {u : xU} {w : xW} {r : xQ} {P : xPost} (hr : xRf r)
    (k : (¬ ((u 655 19) = 0) → vp_in ((u 655 19) - (1 : Int32)) 160) ∧ (((¬ ((u 655 19) = 0) ∧ ¬ ((u 662 ((u 655 19) - (1 : Int32)).toNatClampNeg) = (20 : Int32))) → vp_in ((u 655 19) - (1 : Int32)) 160 ∧ (xCall g d mX12_tight [.int (u 662 ((u 655 19) - (1 : Int32)).toNatClampNeg)] 698 u w r 698 (fun rv7 u7 w7 r7 => ∃ v7 : Int32, rv7 = some (.int v7) ∧ u = u7 ∧ w = w7 ∧ r = r7 ∧ ((4 : Int32) ≤ v7 → P (some (.int (0 : Int32))) u w r) ∧ (¬ ((4 : Int32) ≤ v7) → xEv g (d + 1) mX12_mayNot 41 [none] [] 698 u w r 698 P)))) ∧ (¬ (¬ ((u 655 19) = 0) ∧ ¬ ((u 662 ((u 655 19) - (1 : Int32)).toNatClampNeg) = (20 : Int32))) → xEv g (d + 1) mX12_mayNot 41 [none] [] 698 u w r 698 P))) :
    xEv g (d + 1) mX12_mayNot 0 [some (.ref 655)] [] 698 u w r 698 P := by
  refine xe_aload_n dX12_mayNot_0 rfl ?_
  refine xe_getI dX12_mayNot_1 flX12_268 kk655 (xKK_lt kk655) rfl ?_
  obtain ⟨b3, k⟩ := k
  have K10 : ¬ (¬ ((u 655 19) = 0) ∧ ¬ ((u 662 ((u 655 19) - (1 : Int32)).toNatClampNeg) = (20 : Int32))) → xEv g (d + 1) mX12_mayNot 41 [some (.ref 655)] [] 698 u w r 698 P := fun c11 => by
    have k := k.2 c11
    exact xEv.fewer (ls' := [none]) k (xfw_get (xfw_n (xfw_nil _)))
  refine xe_if_eq (tgt := 41) dX12_mayNot_4 rfl (fun c1 => ?_) (fun c2 => ?_)
  · exact K10 (fun q => (q.1 c1))
  · refine xe_aload_n dX12_mayNot_7 rfl ?_
    refine xe_getR (b := 662) dX12_mayNot_8 flX12_33 kk655 (xKK_lt kk655) rfl (rf655_15 hr) ?_
    refine xe_aload_n dX12_mayNot_11 rfl ?_
    refine xe_getI dX12_mayNot_12 flX12_268 kk655 (xKK_lt kk655) rfl ?_
    refine xe_iconst (v := 1) dX12_mayNot_15 rfl ?_
    refine xe_isub dX12_mayNot_16 ?_
    refine xe_iald dX12_mayNot_17 kk662 (xKK_lt kk662) (b3 c2) ?_
    refine xe_bipush (v := 20) dX12_mayNot_18 rfl ?_
    refine xe_icmp_eq (tgt := 41) dX12_mayNot_20 rfl (fun c4 => ?_) (fun c5 => ?_)
    · exact K10 (fun q => (q.2 c4))
    · have k := k.1 ⟨c2, c5⟩
      refine xe_aload_n dX12_mayNot_23 rfl ?_
      refine xe_getR (b := 662) dX12_mayNot_24 flX12_33 kk655 (xKK_lt kk655) rfl (rf655_15 hr) ?_
      refine xe_aload_n dX12_mayNot_27 rfl ?_
      refine xe_getI dX12_mayNot_28 flX12_268 kk655 (xKK_lt kk655) rfl ?_
      refine xe_iconst (v := 1) dX12_mayNot_31 rfl ?_
      refine xe_isub dX12_mayNot_32 ?_
      obtain ⟨b6, k⟩ := k
      refine xe_iald dX12_mayNot_33 kk662 (xKK_lt kk662) b6 ?_
      refine xe_callS (args := [.int (u 662 ((u 655 19) - (1 : Int32)).toNatClampNeg)]) dX12_mayNot_34 slX12_271 rfl rfl (Nat.le_of_ble_eq_true rfl) k (Nat.le_refl _) (fun rv7 u7 w7 r7 k => ?_)
      obtain ⟨v7, rfl, rfl, rfl, rfl, k⟩ := k
      refine xe_iconst (v := 4) dX12_mayNot_37 rfl ?_
      refine xe_icmp_ge (tgt := 45) dX12_mayNot_38 rfl (fun c8 => ?_) (fun c9 => ?_)
      · have k := k.1 c8
        refine xe_iconst (v := 0) dX12_mayNot_45 rfl ?_
        exact xe_ireturn dX12_mayNot_46 (xrokZ (Or.inl rfl)) k
      · have k := k.2 (fun q => (c9 q))
        exact xEv.fewer (ls' := [none]) k (xfw_get (xfw_n (xfw_nil _)))

theorem CX12_mayNot {g : xGT} {d : Nat} {u : xU} {w : xW} {r : xQ} {P : xPost} (hr : xRf r)
    (k : (¬ ((u 655 19) = 0) → vp_in ((u 655 19) - (1 : Int32)) 160) ∧ (((¬ ((u 655 19) = 0) ∧ ¬ ((u 662 ((u 655 19) - (1 : Int32)).toNatClampNeg) = (20 : Int32))) → vp_in ((u 655 19) - (1 : Int32)) 160 ∧ (xCall g d mX12_tight [.int (u 662 ((u 655 19) - (1 : Int32)).toNatClampNeg)] 698 u w r 698 (fun rv7 u7 w7 r7 => ∃ v7 : Int32, rv7 = some (.int v7) ∧ u = u7 ∧ w = w7 ∧ r = r7 ∧ ((4 : Int32) ≤ v7 → P (some (.int (0 : Int32))) u w r) ∧ (¬ ((4 : Int32) ≤ v7) → xEv g (d + 1) mX12_mayNot 41 [none] [] 698 u w r 698 P)))) ∧ (¬ (¬ ((u 655 19) = 0) ∧ ¬ ((u 662 ((u 655 19) - (1 : Int32)).toNatClampNeg) = (20 : Int32))) → xEv g (d + 1) mX12_mayNot 41 [none] [] 698 u w r 698 P))) :
    xCall g (d + 1) mX12_mayNot [.ref 655] 698 u w r 698 P :=
  xCall.of plX12 (Nat.le_of_ble_eq_true rfl) rfl (TX12_mayNot_0 hr k)

theorem TX12_mayNot_41 {g : xGT} {d : Nat} {u : xU} {w : xW} {r : xQ} {P : xPost}
    (k : P (some (.int (1 : Int32))) u w r) :
    xEv g (d + 1) mX12_mayNot 41 [none] [] 698 u w r 698 P := by
  refine xe_iconst (v := 1) dX12_mayNot_41 rfl ?_
  refine xe_goto (tgt := 46) dX12_mayNot_42 rfl ?_
  exact xe_ireturn dX12_mayNot_46 (xrokZ (Or.inr rfl)) k

/-! FuneralPostModel.asked -/

theorem TX12_asked_0 {g : xGT} {d : Nat} {u : xU} {w : xW} {r : xQ} {P : xPost}
    (k : ((u 655 6) = (1 : Int32) → ((lg_cmp (w 655 9) (6578553 : Int64)) = 0 → P (some (.int (0 : Int32))) u w r) ∧ (¬ ((lg_cmp (w 655 9) (6578553 : Int64)) = 0) → ((lg_cmp (w 655 9) (448545973363 : Int64)) = 0 → P (some (.int (1 : Int32))) u w r) ∧ (¬ ((lg_cmp (w 655 9) (448545973363 : Int64)) = 0) → ((lg_cmp (w 655 9) (2002876787 : Int64)) = 0 → P (some (.int (2 : Int32))) u w r) ∧ (¬ ((lg_cmp (w 655 9) (2002876787 : Int64)) = 0) → P (some (.int (if (lg_cmp (w 655 9) (1919251316 : Int64)) = 0 then (3 : Int32) else (-1 : Int32)))) u w r)))) ∧ (¬ ((u 655 6) = (1 : Int32)) → P (some (.int (-1 : Int32))) u w r)) :
    xEv g d mX12_asked 0 [some (.ref 655)] [] 698 u w r 698 P := by
  refine xe_aload_n dX12_asked_0 rfl ?_
  refine xe_getI dX12_asked_1 flX12_172 kk655 (xKK_lt kk655) rfl ?_
  refine xe_iconst (v := 1) dX12_asked_4 rfl ?_
  refine xe_icmp_eq (tgt := 10) dX12_asked_5 rfl (fun c1 => ?_) (fun c2 => ?_)
  · have k := k.1 c1
    refine xe_aload_n dX12_asked_10 rfl ?_
    refine xe_getL dX12_asked_11 flX12_165 kk655 (xKK_lt kk655) rfl ?_
    refine xe_ldc2 (v := 6578553) dX12_asked_14 (xT_at 1667 (by decide +kernel) (by decide +kernel)) ?_
    refine xe_lcmp dX12_asked_17 ?_
    refine xe_if_ne (tgt := 23) dX12_asked_18 rfl (fun c3 => ?_) (fun c4 => ?_)
    · have k := k.2 (fun q => (c3 q))
      refine xe_aload_n dX12_asked_23 rfl ?_
      refine xe_getL dX12_asked_24 flX12_165 kk655 (xKK_lt kk655) rfl ?_
      refine xe_ldc2 (v := 448545973363) dX12_asked_27 (xT_at 1660 (by decide +kernel) (by decide +kernel)) ?_
      refine xe_lcmp dX12_asked_30 ?_
      refine xe_if_ne (tgt := 36) dX12_asked_31 rfl (fun c5 => ?_) (fun c6 => ?_)
      · have k := k.2 (fun q => (c5 q))
        refine xe_aload_n dX12_asked_36 rfl ?_
        refine xe_getL dX12_asked_37 flX12_165 kk655 (xKK_lt kk655) rfl ?_
        refine xe_ldc2 (v := 2002876787) dX12_asked_40 (xT_at 1668 (by decide +kernel) (by decide +kernel)) ?_
        refine xe_lcmp dX12_asked_43 ?_
        refine xe_if_ne (tgt := 49) dX12_asked_44 rfl (fun c7 => ?_) (fun c8 => ?_)
        · have k := k.2 (fun q => (c7 q))
          refine xe_aload_n dX12_asked_49 rfl ?_
          refine xe_getL dX12_asked_50 flX12_165 kk655 (xKK_lt kk655) rfl ?_
          refine xe_ldc2 (v := 1919251316) dX12_asked_53 (xT_at 1669 (by decide +kernel) (by decide +kernel)) ?_
          refine xe_lcmp dX12_asked_56 ?_
          have K11 : xEv g d mX12_asked 65 [some (.ref 655)] [.int (if (lg_cmp (w 655 9) (1919251316 : Int64)) = 0 then (3 : Int32) else (-1 : Int32))] 698 u w r 698 P := by
            exact xe_ireturn dX12_asked_65 rfl k
          refine xe_if_ne (tgt := 64) dX12_asked_57 rfl (fun c9 => ?_) (fun c10 => ?_)
          · refine xe_iconst (v := -1) dX12_asked_64 rfl ?_
            exact xtop (if_neg (fun q => (c9 q))) K11
          · refine xe_iconst (v := 3) dX12_asked_60 rfl ?_
            refine xe_goto (tgt := 65) dX12_asked_61 rfl ?_
            exact xtop (if_pos c10) K11
        · have k := k.1 c8
          refine xe_iconst (v := 2) dX12_asked_47 rfl ?_
          exact xe_ireturn dX12_asked_48 rfl k
      · have k := k.1 c6
        refine xe_iconst (v := 1) dX12_asked_34 rfl ?_
        exact xe_ireturn dX12_asked_35 rfl k
    · have k := k.1 c4
      refine xe_iconst (v := 0) dX12_asked_21 rfl ?_
      exact xe_ireturn dX12_asked_22 rfl k
  · have k := k.2 (fun q => (c2 q))
    refine xe_iconst (v := -1) dX12_asked_8 rfl ?_
    exact xe_ireturn dX12_asked_9 rfl k

theorem CX12_asked {g : xGT} {d : Nat} {u : xU} {w : xW} {r : xQ} {P : xPost}
    (k : ((u 655 6) = (1 : Int32) → ((lg_cmp (w 655 9) (6578553 : Int64)) = 0 → P (some (.int (0 : Int32))) u w r) ∧ (¬ ((lg_cmp (w 655 9) (6578553 : Int64)) = 0) → ((lg_cmp (w 655 9) (448545973363 : Int64)) = 0 → P (some (.int (1 : Int32))) u w r) ∧ (¬ ((lg_cmp (w 655 9) (448545973363 : Int64)) = 0) → ((lg_cmp (w 655 9) (2002876787 : Int64)) = 0 → P (some (.int (2 : Int32))) u w r) ∧ (¬ ((lg_cmp (w 655 9) (2002876787 : Int64)) = 0) → P (some (.int (if (lg_cmp (w 655 9) (1919251316 : Int64)) = 0 then (3 : Int32) else (-1 : Int32)))) u w r)))) ∧ (¬ ((u 655 6) = (1 : Int32)) → P (some (.int (-1 : Int32))) u w r)) :
    xCall g d mX12_asked [.ref 655] 698 u w r 698 P :=
  xCall.of plX12 (Nat.le_of_ble_eq_true rfl) rfl (TX12_asked_0  k)

/-! FuneralPostModel.isFull -/

theorem TX12_isFull_0 {g : xGT} {d : Nat} {u : xU} {w : xW} {r : xQ} {P : xPost}
    (k : P (some (.int (xb ((u 655 20) = (60 : Int32) ∨ (u 655 22) = (30 : Int32))))) u w r) :
    xEv g d mX12_isFull 0 [some (.ref 655)] [] 698 u w r 698 P := by
  refine xe_aload_n dX12_isFull_0 rfl ?_
  refine xe_getI dX12_isFull_1 flX12_281 kk655 (xKK_lt kk655) rfl ?_
  refine xe_bipush (v := 60) dX12_isFull_4 rfl ?_
  have K5 : xEv g d mX12_isFull 23 [some (.ref 655)] [.int (xb ((u 655 20) = (60 : Int32) ∨ (u 655 22) = (30 : Int32)))] 698 u w r 698 P := by
    exact xe_ireturn dX12_isFull_23 (xrokZ (xb01 _)) k
  refine xe_icmp_eq (tgt := 18) dX12_isFull_6 rfl (fun c1 => ?_) (fun c2 => ?_)
  · refine xe_iconst (v := 1) dX12_isFull_18 rfl ?_
    refine xe_goto (tgt := 23) dX12_isFull_19 rfl ?_
    exact xtop (xb_pos (show ((u 655 20) = (60 : Int32) ∨ (u 655 22) = (30 : Int32)) from (Or.inl c1))) K5
  · refine xe_aload_n dX12_isFull_9 rfl ?_
    refine xe_getI dX12_isFull_10 flX12_284 kk655 (xKK_lt kk655) rfl ?_
    refine xe_bipush (v := 30) dX12_isFull_13 rfl ?_
    refine xe_icmp_ne (tgt := 22) dX12_isFull_15 rfl (fun c3 => ?_) (fun c4 => ?_)
    · refine xe_iconst (v := 0) dX12_isFull_22 rfl ?_
      exact xtop (xb_neg (show ¬ ((u 655 20) = (60 : Int32) ∨ (u 655 22) = (30 : Int32)) from (fun q => (q.elim (fun z => (c2 z)) (fun z => (c3 z)))))) K5
    · refine xe_iconst (v := 1) dX12_isFull_18 rfl ?_
      refine xe_goto (tgt := 23) dX12_isFull_19 rfl ?_
      exact xtop (xb_pos (show ((u 655 20) = (60 : Int32) ∨ (u 655 22) = (30 : Int32)) from (Or.inr c4))) K5

theorem CX12_isFull {g : xGT} {d : Nat} {u : xU} {w : xW} {r : xQ} {P : xPost}
    (k : P (some (.int (xb ((u 655 20) = (60 : Int32) ∨ (u 655 22) = (30 : Int32))))) u w r) :
    xCall g d mX12_isFull [.ref 655] 698 u w r 698 P :=
  xCall.of plX12 (Nat.le_of_ble_eq_true rfl) rfl (TX12_isFull_0  k)

/-! FuneralPostModel.countUnit -/

theorem TX12_countUnit_0 {g : xGT} {d : Nat} {u : xU} {w : xW} {r : xQ} {P : xPost}
    (k : P none (x2 (x2 u 655 20 ((u 655 20) + (1 : Int32))) 655 22 ((u 655 22) + (1 : Int32))) w r) :
    xEv g d mX12_countUnit 0 [some (.ref 655)] [] 698 u w r 698 P := by
  refine xe_aload_n dX12_countUnit_0 rfl ?_
  refine xe_dup dX12_countUnit_1 rfl ?_
  refine xe_getI dX12_countUnit_2 flX12_281 kk655 (xKK_lt kk655) rfl ?_
  refine xe_iconst (v := 1) dX12_countUnit_5 rfl ?_
  refine xe_iadd dX12_countUnit_6 ?_
  refine xe_putI dX12_countUnit_7 flX12_281 kk655 (xKK_lt kk655) nf12_20 rfl ?_
  refine xe_aload_n dX12_countUnit_10 rfl ?_
  refine xe_dup dX12_countUnit_11 rfl ?_
  refine xe_getI dX12_countUnit_12 flX12_284 kk655 (xKK_lt kk655) rfl ?_
  refine xe_iconst (v := 1) dX12_countUnit_15 rfl ?_
  refine xe_iadd dX12_countUnit_16 ?_
  refine xe_putI dX12_countUnit_17 flX12_284 kk655 (xKK_lt kk655) nf12_22 rfl ?_
  exact xe_return dX12_countUnit_20 trivial k

theorem CX12_countUnit {g : xGT} {d : Nat} {u : xU} {w : xW} {r : xQ} {P : xPost}
    (k : P none (x2 (x2 u 655 20 ((u 655 20) + (1 : Int32))) 655 22 ((u 655 22) + (1 : Int32))) w r) :
    xCall g d mX12_countUnit [.ref 655] 698 u w r 698 P :=
  xCall.of plX12 (Nat.le_of_ble_eq_true rfl) rfl (TX12_countUnit_0  k)

/-! FuneralPostModel.openUp -/

theorem TX12_openUp_0 {g : xGT} {d : Nat} {i1 : Int32} {u : xU} {w : xW} {r : xQ} {P : xPost} (hr : xRf r)
    (k : vp_in (u 655 19) 160 ∧ (((u 655 2) = 0 → xCall g d mX12_token [.ref 655] 698 (x2 (x2 (x2 u 662 (u 655 19).toNatClampNeg i1) 655 19 ((u 655 19) + (1 : Int32))) 655 23 ((u 655 23) + (1 : Int32))) w r 698 (fun rv4 u4 w4 r4 => rv4 = none ∧ r = r4 ∧ P none u4 w4 r)) ∧ (¬ ((u 655 2) = 0) → P none (x2 (x2 (x2 u 662 (u 655 19).toNatClampNeg i1) 655 19 ((u 655 19) + (1 : Int32))) 655 23 ((u 655 23) + (1 : Int32))) w r))) :
    xEv g (d + 1) mX12_openUp 0 [some (.ref 655), some (.int i1)] [] 698 u w r 698 P := by
  refine xe_aload_n dX12_openUp_0 rfl ?_
  refine xe_getR (b := 662) dX12_openUp_1 flX12_33 kk655 (xKK_lt kk655) rfl (rf655_15 hr) ?_
  refine xe_aload_n dX12_openUp_4 rfl ?_
  refine xe_getI dX12_openUp_5 flX12_268 kk655 (xKK_lt kk655) rfl ?_
  refine xe_iload_n dX12_openUp_8 rfl ?_
  obtain ⟨b1, k⟩ := k
  refine xe_iast dX12_openUp_9 kk662 (xKK_lt kk662) b1 ?_
  refine xe_aload_n dX12_openUp_10 rfl ?_
  refine xe_dup dX12_openUp_11 rfl ?_
  refine xe_getI dX12_openUp_12 flX12_268 kk655 (xKK_lt kk655) rfl ?_
  refine xe_iconst (v := 1) dX12_openUp_15 rfl ?_
  refine xe_iadd dX12_openUp_16 ?_
  refine xe_putI dX12_openUp_17 flX12_268 kk655 (xKK_lt kk655) nf12_19 rfl ?_
  refine xe_aload_n dX12_openUp_20 rfl ?_
  refine xe_dup dX12_openUp_21 rfl ?_
  refine xe_getI dX12_openUp_22 flX12_278 kk655 (xKK_lt kk655) rfl ?_
  refine xe_iconst (v := 1) dX12_openUp_25 rfl ?_
  refine xe_iadd dX12_openUp_26 ?_
  refine xe_putI dX12_openUp_27 flX12_278 kk655 (xKK_lt kk655) nf12_23 rfl ?_
  refine xe_aload_n dX12_openUp_30 rfl ?_
  refine xe_getI dX12_openUp_31 flX12_185 kk655 (xKK_lt kk655) rfl ?_
  refine xe_if_ne (tgt := 41) dX12_openUp_34 rfl (fun c2 => ?_) (fun c3 => ?_)
  · have k := k.2 (fun q => (c2 q))
    exact xe_return dX12_openUp_41 trivial k
  · have k := k.1 c3
    refine xe_aload_n dX12_openUp_37 rfl ?_
    refine xe_callV (args := []) dX12_openUp_38 vlX12_237 rfl rfl (Nat.le_of_ble_eq_true rfl) kk655 (xKK_lt kk655) rfl rfl k (Nat.le_refl _) (fun rv4 u4 w4 r4 k => ?_)
    obtain ⟨rfl, rfl, k⟩ := k
    exact xe_return dX12_openUp_41 trivial k

theorem CX12_openUp {g : xGT} {d : Nat} {i1 : Int32} {u : xU} {w : xW} {r : xQ} {P : xPost} (hr : xRf r)
    (k : vp_in (u 655 19) 160 ∧ (((u 655 2) = 0 → xCall g d mX12_token [.ref 655] 698 (x2 (x2 (x2 u 662 (u 655 19).toNatClampNeg i1) 655 19 ((u 655 19) + (1 : Int32))) 655 23 ((u 655 23) + (1 : Int32))) w r 698 (fun rv4 u4 w4 r4 => rv4 = none ∧ r = r4 ∧ P none u4 w4 r)) ∧ (¬ ((u 655 2) = 0) → P none (x2 (x2 (x2 u 662 (u 655 19).toNatClampNeg i1) 655 19 ((u 655 19) + (1 : Int32))) 655 23 ((u 655 23) + (1 : Int32))) w r))) :
    xCall g (d + 1) mX12_openUp [.ref 655, .int i1] 698 u w r 698 P :=
  xCall.of plX12 (Nat.le_of_ble_eq_true rfl) rfl (TX12_openUp_0 hr k)

/-! FuneralPostModel.unit -/

theorem TX12_unit_0 {g : xGT} {d : Nat} {u : xU} {w : xW} {r : xQ} {P : xPost}
    (k : xEv g (d + 1) mX12_unit 2 [some (.ref 655), some (.int (1 : Int32)), none] [] 698 u w r 698 P) :
    xEv g (d + 1) mX12_unit 0 [some (.ref 655), none, none] [] 698 u w r 698 P := by
  refine xe_iconst (v := 1) dX12_unit_0 rfl ?_
  refine xe_istore_n (ls' := [some (.ref 655), some (.int (1 : Int32)), none]) dX12_unit_1 rfl (by decide) rfl ?_
  exact k

theorem CX12_unit {g : xGT} {d : Nat} {u : xU} {w : xW} {r : xQ} {P : xPost}
    (k : xEv g (d + 1) mX12_unit 2 [some (.ref 655), some (.int (1 : Int32)), none] [] 698 u w r 698 P) :
    xCall g (d + 1) mX12_unit [.ref 655] 698 u w r 698 P :=
  xCall.of plX12 (Nat.le_of_ble_eq_true rfl) rfl (TX12_unit_0  k)

set_option maxRecDepth 20000 in
theorem TX12_unit_2 {g : xGT} {d : Nat} {i1 : Int32} {u : xU} {w : xW} {r : xQ} {P : xPost}
    (k : ((¬ (i1 = 0) ∧ (u 655 2) = 0) → xCall g d mX12_isWord [.ref 655, .long (7237492 : Int64)] 698 u w r 698 (fun rv5 u5 w5 r5 => ∃ v5 : Int32, rv5 = some (.int v5) ∧ u = u5 ∧ w = w5 ∧ r = r5 ∧ (v5 = 0 → xEv g (d + 1) mX12_unit 53 [some (.ref 655), some (.int i1), none] [] 698 u w r 698 P) ∧ (¬ (v5 = 0) → xCall g d mX12_mayNot [.ref 655] 698 u w r 698 (fun rv8 u8 w8 r8 => ∃ v8 : Int32, rv8 = some (.int v8) ∧ u = u8 ∧ w = w8 ∧ r = r8 ∧ (v8 = 0 → xEv g (d + 1) mX12_unit 53 [some (.ref 655), some (.int i1), none] [] 698 u w r 698 P) ∧ (¬ (v8 = 0) → ((u 655 23) ≤ (6 : Int32) → xEv g (d + 1) mX12_unit 44 [some (.ref 655), some (.int i1), none] [] 698 u w r 698 P) ∧ (¬ ((u 655 23) ≤ (6 : Int32)) → xCall g d mX12_wrong [.ref 655, .int (2 : Int32)] 698 u w r 698 (fun rv13 u13 w13 r13 => rv13 = none ∧ w = w13 ∧ r = r13 ∧ xEv g (d + 1) mX12_unit 44 [some (.ref 655), some (.int i1), none] [] 698 u13 w r 698 P))))))) ∧ (¬ (¬ (i1 = 0) ∧ (u 655 2) = 0) → ((u 655 2) ≤ 0 → xCall g d mX12_asked [.ref 655] 698 u w r 698 (fun rv16 u16 w16 r16 => ∃ v16 : Int32, rv16 = some (.int v16) ∧ u = u16 ∧ w = w16 ∧ r = r16 ∧ (((u 655 6) = (2 : Int32) ∨ ¬ (v16 < 0)) → xCall g d mX12_isFull [.ref 655] 698 u w r 698 (fun rv21 u21 w21 r21 => ∃ v21 : Int32, rv21 = some (.int v21) ∧ u = u21 ∧ w = w21 ∧ r = r21 ∧ (v21 = 0 → xEv g (d + 1) mX12_unit 138 [some (.ref 655), none, some (.int v16)] [] 698 u w r 698 P) ∧ (¬ (v21 = 0) → xEv g (d + 1) mX12_unit 133 [some (.ref 655), none, some (.int v16)] [] 698 u w r 698 P))) ∧ (¬ ((u 655 6) = (2 : Int32) ∨ ¬ (v16 < 0)) → xEv g (d + 1) mX12_unit 133 [some (.ref 655), none, some (.int v16)] [] 698 u w r 698 P))) ∧ (¬ ((u 655 2) ≤ 0) → P none u w r))) :
    xEv g (d + 1) mX12_unit 2 [some (.ref 655), some (.int i1), none] [] 698 u w r 698 P := by
  refine xe_iload_n dX12_unit_2 rfl ?_
  have K26 : ¬ (¬ (i1 = 0) ∧ (u 655 2) = 0) → xEv g (d + 1) mX12_unit 101 [some (.ref 655), some (.int i1), none] [] 698 u w r 698 P := fun c27 => by
    have k := k.2 c27
    refine xe_aload_n dX12_unit_101 rfl ?_
    refine xe_getI dX12_unit_102 flX12_185 kk655 (xKK_lt kk655) rfl ?_
    refine xe_if_le (tgt := 109) dX12_unit_105 rfl (fun c14 => ?_) (fun c15 => ?_)
    · have k := k.1 c14
      refine xe_aload_n dX12_unit_109 rfl ?_
      refine xe_callV (args := []) dX12_unit_110 vlX12_299 rfl rfl (Nat.le_of_ble_eq_true rfl) kk655 (xKK_lt kk655) rfl rfl k (Nat.le_refl _) (fun rv16 u16 w16 r16 k => ?_)
      obtain ⟨v16, rfl, rfl, rfl, rfl, k⟩ := k
      refine xe_istore_n (ls' := [some (.ref 655), some (.int i1), some (.int v16)]) dX12_unit_113 rfl (by decide) rfl ?_
      refine xe_aload_n dX12_unit_114 rfl ?_
      refine xe_getI dX12_unit_115 flX12_172 kk655 (xKK_lt kk655) rfl ?_
      refine xe_iconst (v := 2) dX12_unit_118 rfl ?_
      have K24 : ((u 655 6) = (2 : Int32) ∨ ¬ (v16 < 0)) → xEv g (d + 1) mX12_unit 126 [some (.ref 655), some (.int i1), some (.int v16)] [] 698 u w r 698 P := fun c25 => by
        have k := k.1 c25
        refine xe_aload_n dX12_unit_126 rfl ?_
        refine xe_callV (args := []) dX12_unit_127 vlX12_293 rfl rfl (Nat.le_of_ble_eq_true rfl) kk655 (xKK_lt kk655) rfl rfl k (Nat.le_refl _) (fun rv21 u21 w21 r21 k => ?_)
        obtain ⟨v21, rfl, rfl, rfl, rfl, k⟩ := k
        refine xe_if_eq (tgt := 138) dX12_unit_130 rfl (fun c22 => ?_) (fun c23 => ?_)
        · have k := k.1 c22
          exact xEv.fewer (ls' := [some (.ref 655), none, some (.int v16)]) k (xfw_get (xfw_s (xfw_n (xfw_s (xfw_nil _)))))
        · have k := k.2 (fun q => (c23 q))
          exact xEv.fewer (ls' := [some (.ref 655), none, some (.int v16)]) k (xfw_get (xfw_s (xfw_n (xfw_s (xfw_nil _)))))
      refine xe_icmp_eq (tgt := 126) dX12_unit_119 rfl (fun c17 => ?_) (fun c18 => ?_)
      · exact K24 (Or.inl c17)
      · refine xe_iload_n dX12_unit_122 rfl ?_
        refine xe_if_lt (tgt := 133) dX12_unit_123 rfl (fun c19 => ?_) (fun c20 => ?_)
        · have k := k.2 (fun q => (q.elim (fun z => (c18 z)) (fun z => (z c19))))
          exact xEv.fewer (ls' := [some (.ref 655), none, some (.int v16)]) k (xfw_get (xfw_s (xfw_n (xfw_s (xfw_nil _)))))
        · exact K24 (Or.inr c20)
    · have k := k.2 (fun q => (c15 q))
      exact xe_return dX12_unit_108 trivial k
  refine xe_if_eq (tgt := 101) dX12_unit_3 rfl (fun c1 => ?_) (fun c2 => ?_)
  · exact K26 (fun q => (q.1 c1))
  · refine xe_aload_n dX12_unit_6 rfl ?_
    refine xe_getI dX12_unit_7 flX12_185 kk655 (xKK_lt kk655) rfl ?_
    refine xe_if_ne (tgt := 101) dX12_unit_10 rfl (fun c3 => ?_) (fun c4 => ?_)
    · exact K26 (fun q => (c3 q.2))
    · have k := k.1 ⟨c2, c4⟩
      refine xe_aload_n dX12_unit_13 rfl ?_
      refine xe_ldc2 (v := 7237492) dX12_unit_14 (xT_at 1672 (by decide +kernel) (by decide +kernel)) ?_
      refine xe_callV (args := [.long (7237492 : Int64)]) dX12_unit_17 vlX12_230 rfl rfl (Nat.le_of_ble_eq_true rfl) kk655 (xKK_lt kk655) rfl rfl k (Nat.le_refl _) (fun rv5 u5 w5 r5 k => ?_)
      obtain ⟨v5, rfl, rfl, rfl, rfl, k⟩ := k
      refine xe_if_eq (tgt := 53) dX12_unit_20 rfl (fun c6 => ?_) (fun c7 => ?_)
      · have k := k.1 c6
        exact k
      · have k := k.2 (fun q => (c7 q))
        refine xe_aload_n dX12_unit_23 rfl ?_
        refine xe_callV (args := []) dX12_unit_24 vlX12_287 rfl rfl (Nat.le_of_ble_eq_true rfl) kk655 (xKK_lt kk655) rfl rfl k (Nat.le_refl _) (fun rv8 u8 w8 r8 k => ?_)
        obtain ⟨v8, rfl, rfl, rfl, rfl, k⟩ := k
        refine xe_if_eq (tgt := 53) dX12_unit_27 rfl (fun c9 => ?_) (fun c10 => ?_)
        · have k := k.1 c9
          exact k
        · have k := k.2 (fun q => (c10 q))
          refine xe_aload_n dX12_unit_30 rfl ?_
          refine xe_getI dX12_unit_31 flX12_278 kk655 (xKK_lt kk655) rfl ?_
          refine xe_bipush (v := 6) dX12_unit_34 rfl ?_
          refine xe_icmp_le (tgt := 44) dX12_unit_36 rfl (fun c11 => ?_) (fun c12 => ?_)
          · have k := k.1 c11
            exact k
          · have k := k.2 (fun q => (c12 q))
            refine xe_aload_n dX12_unit_39 rfl ?_
            refine xe_iconst (v := 2) dX12_unit_40 rfl ?_
            refine xe_callV (args := [.int (2 : Int32)]) dX12_unit_41 vlX12_234 rfl rfl (Nat.le_of_ble_eq_true rfl) kk655 (xKK_lt kk655) rfl rfl k (Nat.le_refl _) (fun rv13 u13 w13 r13 k => ?_)
            obtain ⟨rfl, rfl, rfl, k⟩ := k
            exact k

theorem TX12_unit_53 {g : xGT} {d : Nat} {i1 : Int32} {u : xU} {w : xW} {r : xQ} {P : xPost}
    (k : ((u 655 6) = (40 : Int32) → xCall g d mX12_isFull [.ref 655] 698 u w r 698 (fun rv30 u30 w30 r30 => ∃ v30 : Int32, rv30 = some (.int v30) ∧ u = u30 ∧ w = w30 ∧ r = r30 ∧ ((¬ (v30 = 0) ∨ ¬ ((u 655 23) ≤ (6 : Int32))) → xCall g d mX12_wrong [.ref 655, .int (2 : Int32)] 698 u w r 698 (fun rv35 u35 w35 r35 => rv35 = none ∧ w = w35 ∧ r = r35 ∧ xEv g (d + 1) mX12_unit 83 [some (.ref 655), some (.int i1), none] [] 698 u35 w r 698 P)) ∧ (¬ (¬ (v30 = 0) ∨ ¬ ((u 655 23) ≤ (6 : Int32))) → xEv g (d + 1) mX12_unit 83 [some (.ref 655), some (.int i1), none] [] 698 u w r 698 P))) ∧ (¬ ((u 655 6) = (40 : Int32)) → xEv g (d + 1) mX12_unit 2 [some (.ref 655), some (.int (0 : Int32)), none] [] 698 u w r 698 P)) :
    xEv g (d + 1) mX12_unit 53 [some (.ref 655), some (.int i1), none] [] 698 u w r 698 P := by
  refine xe_aload_n dX12_unit_53 rfl ?_
  refine xe_getI dX12_unit_54 flX12_172 kk655 (xKK_lt kk655) rfl ?_
  refine xe_bipush (v := 40) dX12_unit_57 rfl ?_
  refine xe_icmp_ne (tgt := 96) dX12_unit_59 rfl (fun c28 => ?_) (fun c29 => ?_)
  · have k := k.2 (fun q => (c28 q))
    refine xe_iconst (v := 0) dX12_unit_96 rfl ?_
    refine xe_istore_n (ls' := [some (.ref 655), some (.int (0 : Int32)), none]) dX12_unit_97 rfl (by decide) rfl ?_
    refine xe_goto (tgt := 2) dX12_unit_98 rfl ?_
    exact k
  · have k := k.1 c29
    refine xe_aload_n dX12_unit_62 rfl ?_
    refine xe_callV (args := []) dX12_unit_63 vlX12_293 rfl rfl (Nat.le_of_ble_eq_true rfl) kk655 (xKK_lt kk655) rfl rfl k (Nat.le_refl _) (fun rv30 u30 w30 r30 k => ?_)
    obtain ⟨v30, rfl, rfl, rfl, rfl, k⟩ := k
    have K36 : (¬ (v30 = 0) ∨ ¬ ((u 655 23) ≤ (6 : Int32))) → xEv g (d + 1) mX12_unit 78 [some (.ref 655), some (.int i1), none] [] 698 u w r 698 P := fun c37 => by
      have k := k.1 c37
      refine xe_aload_n dX12_unit_78 rfl ?_
      refine xe_iconst (v := 2) dX12_unit_79 rfl ?_
      refine xe_callV (args := [.int (2 : Int32)]) dX12_unit_80 vlX12_234 rfl rfl (Nat.le_of_ble_eq_true rfl) kk655 (xKK_lt kk655) rfl rfl k (Nat.le_refl _) (fun rv35 u35 w35 r35 k => ?_)
      obtain ⟨rfl, rfl, rfl, k⟩ := k
      exact k
    refine xe_if_ne (tgt := 78) dX12_unit_66 rfl (fun c31 => ?_) (fun c32 => ?_)
    · exact K36 (Or.inl c31)
    · refine xe_aload_n dX12_unit_69 rfl ?_
      refine xe_getI dX12_unit_70 flX12_278 kk655 (xKK_lt kk655) rfl ?_
      refine xe_bipush (v := 6) dX12_unit_73 rfl ?_
      refine xe_icmp_le (tgt := 83) dX12_unit_75 rfl (fun c33 => ?_) (fun c34 => ?_)
      · have k := k.2 (fun q => (q.elim (fun z => (z c32)) (fun z => (z c33))))
        exact k
      · exact K36 (Or.inr c34)

theorem TX12_unit_44 {g : xGT} {d : Nat} {i1 : Int32} {u : xU} {w : xW} {r : xQ} {P : xPost}
    (k : xCall g d mX12_openUp [.ref 655, .int (21 : Int32)] 698 u w r 698 (fun rv38 u38 w38 r38 => rv38 = none ∧ r = r38 ∧ xEv g (d + 1) mX12_unit 2 [some (.ref 655), some (.int i1), none] [] 698 u38 w38 r 698 P)) :
    xEv g (d + 1) mX12_unit 44 [some (.ref 655), some (.int i1), none] [] 698 u w r 698 P := by
  refine xe_aload_n dX12_unit_44 rfl ?_
  refine xe_bipush (v := 21) dX12_unit_45 rfl ?_
  refine xe_callV (args := [.int (21 : Int32)]) dX12_unit_47 vlX12_290 rfl rfl (Nat.le_of_ble_eq_true rfl) kk655 (xKK_lt kk655) rfl rfl k (Nat.le_refl _) (fun rv38 u38 w38 r38 k => ?_)
  obtain ⟨rfl, rfl, k⟩ := k
  refine xe_goto (tgt := 2) dX12_unit_50 rfl ?_
  exact k

theorem TX12_unit_138 {g : xGT} {d : Nat} {i2 : Int32} {u : xU} {w : xW} {r : xQ} {P : xPost}
    (k : ((u 655 2) ≤ 0 → xCall g d mX12_countUnit [.ref 655] 698 u w r 698 (fun rv41 u41 w41 r41 => rv41 = none ∧ w = w41 ∧ r = r41 ∧ xCall g d mX12_add [.ref 655, .int (xb (0 ≤ i2)), .int (if 0 ≤ i2 then i2 else (u41 655 8))] 698 u41 w r 698 (fun rv46 u46 w46 r46 => rv46 = none ∧ w = w46 ∧ r = r46 ∧ xCall g d mX12_token [.ref 655] 698 u46 w r 698 (fun rv47 u47 w47 r47 => rv47 = none ∧ r = r47 ∧ P none u47 w47 r)))) ∧ (¬ ((u 655 2) ≤ 0) → P none u w r)) :
    xEv g (d + 1) mX12_unit 138 [some (.ref 655), none, some (.int i2)] [] 698 u w r 698 P := by
  refine xe_aload_n dX12_unit_138 rfl ?_
  refine xe_getI dX12_unit_139 flX12_185 kk655 (xKK_lt kk655) rfl ?_
  refine xe_if_le (tgt := 146) dX12_unit_142 rfl (fun c39 => ?_) (fun c40 => ?_)
  · have k := k.1 c39
    refine xe_aload_n dX12_unit_146 rfl ?_
    refine xe_callV (args := []) dX12_unit_147 vlX12_296 rfl rfl (Nat.le_of_ble_eq_true rfl) kk655 (xKK_lt kk655) rfl rfl k (Nat.le_refl _) (fun rv41 u41 w41 r41 k => ?_)
    obtain ⟨rfl, rfl, rfl, k⟩ := k
    refine xe_aload_n dX12_unit_150 rfl ?_
    refine xe_iload_n dX12_unit_151 rfl ?_
    have K49 : xEv g (d + 1) mX12_unit 160 [some (.ref 655), none, some (.int i2)] [.int (xb (0 ≤ i2)), .ref 655] 698 u41 w r 698 P := by
      refine xe_iload_n dX12_unit_160 rfl ?_
      have K48 : xEv g (d + 1) mX12_unit 172 [some (.ref 655), none, some (.int i2)] [.int (if 0 ≤ i2 then i2 else (u41 655 8)), .int (xb (0 ≤ i2)), .ref 655] 698 u41 w r 698 P := by
        refine xe_callV (args := [.int (xb (0 ≤ i2)), .int (if 0 ≤ i2 then i2 else (u41 655 8))]) dX12_unit_172 vlX12_274 rfl rfl (Nat.le_of_ble_eq_true rfl) kk655 (xKK_lt kk655) rfl rfl k (Nat.le_refl _) (fun rv46 u46 w46 r46 k => ?_)
        obtain ⟨rfl, rfl, rfl, k⟩ := k
        refine xe_aload_n dX12_unit_175 rfl ?_
        refine xe_callV (args := []) dX12_unit_176 vlX12_237 rfl rfl (Nat.le_of_ble_eq_true rfl) kk655 (xKK_lt kk655) rfl rfl k (Nat.le_refl _) (fun rv47 u47 w47 r47 k => ?_)
        obtain ⟨rfl, rfl, k⟩ := k
        exact xe_return dX12_unit_179 trivial k
      refine xe_if_ge (tgt := 171) dX12_unit_161 rfl (fun c44 => ?_) (fun c45 => ?_)
      · refine xe_iload_n dX12_unit_171 rfl ?_
        exact xtop (if_pos c44) K48
      · refine xe_aload_n dX12_unit_164 rfl ?_
        refine xe_getI dX12_unit_165 flX12_169 kk655 (xKK_lt kk655) rfl ?_
        refine xe_goto (tgt := 172) dX12_unit_168 rfl ?_
        exact xtop (if_neg (fun q => (c45 q))) K48
    refine xe_if_ge (tgt := 159) dX12_unit_152 rfl (fun c42 => ?_) (fun c43 => ?_)
    · refine xe_iconst (v := 1) dX12_unit_159 rfl ?_
      exact xtop (xb_pos (show 0 ≤ i2 from c42)) K49
    · refine xe_iconst (v := 0) dX12_unit_155 rfl ?_
      refine xe_goto (tgt := 160) dX12_unit_156 rfl ?_
      exact xtop (xb_neg (show ¬ (0 ≤ i2) from (fun q => (c43 q)))) K49
  · have k := k.2 (fun q => (c40 q))
    exact xe_return dX12_unit_145 trivial k

theorem TX12_unit_133 {g : xGT} {d : Nat} {i2 : Int32} {u : xU} {w : xW} {r : xQ} {P : xPost}
    (k : xCall g d mX12_wrong [.ref 655, .int (2 : Int32)] 698 u w r 698 (fun rv50 u50 w50 r50 => rv50 = none ∧ w = w50 ∧ r = r50 ∧ xEv g (d + 1) mX12_unit 138 [some (.ref 655), none, some (.int i2)] [] 698 u50 w r 698 P)) :
    xEv g (d + 1) mX12_unit 133 [some (.ref 655), none, some (.int i2)] [] 698 u w r 698 P := by
  refine xe_aload_n dX12_unit_133 rfl ?_
  refine xe_iconst (v := 2) dX12_unit_134 rfl ?_
  refine xe_callV (args := [.int (2 : Int32)]) dX12_unit_135 vlX12_234 rfl rfl (Nat.le_of_ble_eq_true rfl) kk655 (xKK_lt kk655) rfl rfl k (Nat.le_refl _) (fun rv50 u50 w50 r50 k => ?_)
  obtain ⟨rfl, rfl, rfl, k⟩ := k
  exact k

theorem TX12_unit_83 {g : xGT} {d : Nat} {i1 : Int32} {u : xU} {w : xW} {r : xQ} {P : xPost}
    (k : xCall g d mX12_countUnit [.ref 655] 698 u w r 698 (fun rv51 u51 w51 r51 => rv51 = none ∧ w = w51 ∧ r = r51 ∧ xCall g d mX12_openUp [.ref 655, .int (20 : Int32)] 698 u51 w r 698 (fun rv52 u52 w52 r52 => rv52 = none ∧ r = r52 ∧ xEv g (d + 1) mX12_unit 2 [some (.ref 655), some (.int i1), none] [] 698 u52 w52 r 698 P))) :
    xEv g (d + 1) mX12_unit 83 [some (.ref 655), some (.int i1), none] [] 698 u w r 698 P := by
  refine xe_aload_n dX12_unit_83 rfl ?_
  refine xe_callV (args := []) dX12_unit_84 vlX12_296 rfl rfl (Nat.le_of_ble_eq_true rfl) kk655 (xKK_lt kk655) rfl rfl k (Nat.le_refl _) (fun rv51 u51 w51 r51 k => ?_)
  obtain ⟨rfl, rfl, rfl, k⟩ := k
  refine xe_aload_n dX12_unit_87 rfl ?_
  refine xe_bipush (v := 20) dX12_unit_88 rfl ?_
  refine xe_callV (args := [.int (20 : Int32)]) dX12_unit_90 vlX12_290 rfl rfl (Nat.le_of_ble_eq_true rfl) kk655 (xKK_lt kk655) rfl rfl k (Nat.le_refl _) (fun rv52 u52 w52 r52 k => ?_)
  obtain ⟨rfl, rfl, k⟩ := k
  refine xe_goto (tgt := 2) dX12_unit_93 rfl ?_
  exact k

/-! FuneralPostModel.sign -/

set_option maxRecDepth 20000 in
theorem TX12_sign_0 {g : xGT} {d : Nat} {u : xU} {w : xW} {r : xQ} {P : xPost}
    (k : xCall g d mX12_isWord [.ref 655, .long (6385252 : Int64)] 698 u w r 698 (fun rv1 u1 w1 r1 => ∃ v1 : Int32, rv1 = some (.int v1) ∧ u = u1 ∧ w = w1 ∧ r = r1 ∧ (v1 = 0 → xCall g d mX12_isWord [.ref 655, .long (28530 : Int64)] 698 u w r 698 (fun rv4 u4 w4 r4 => ∃ v4 : Int32, rv4 = some (.int v4) ∧ u = u4 ∧ w = w4 ∧ r = r4 ∧ (v4 = 0 → P (some (.int (if ((u 655 6) = (60 : Int32) ∨ ((u 655 6) = (62 : Int32) ∨ ((u 655 6) = (61 : Int32) ∨ ((u 655 6) = (43 : Int32) ∨ ((u 655 6) = (45 : Int32) ∨ ((u 655 6) = (42 : Int32) ∨ ((u 655 6) = (47 : Int32) ∨ (u 655 6) = (37 : Int32)))))))) then (u 655 6) else (0 : Int32)))) u w r) ∧ (¬ (v4 = 0) → P (some (.int (124 : Int32))) u w r))) ∧ (¬ (v1 = 0) → P (some (.int (38 : Int32))) u w r))) :
    xEv g (d + 1) mX12_sign 0 [some (.ref 655)] [] 698 u w r 698 P := by
  refine xe_aload_n dX12_sign_0 rfl ?_
  refine xe_ldc2 (v := 6385252) dX12_sign_1 (xT_at 1670 (by decide +kernel) (by decide +kernel)) ?_
  refine xe_callV (args := [.long (6385252 : Int64)]) dX12_sign_4 vlX12_230 rfl rfl (Nat.le_of_ble_eq_true rfl) kk655 (xKK_lt kk655) rfl rfl k (Nat.le_refl _) (fun rv1 u1 w1 r1 k => ?_)
  obtain ⟨v1, rfl, rfl, rfl, rfl, k⟩ := k
  refine xe_if_eq (tgt := 13) dX12_sign_7 rfl (fun c2 => ?_) (fun c3 => ?_)
  · have k := k.1 c2
    refine xe_aload_n dX12_sign_13 rfl ?_
    refine xe_ldc2 (v := 28530) dX12_sign_14 (xT_at 1671 (by decide +kernel) (by decide +kernel)) ?_
    refine xe_callV (args := [.long (28530 : Int64)]) dX12_sign_17 vlX12_230 rfl rfl (Nat.le_of_ble_eq_true rfl) kk655 (xKK_lt kk655) rfl rfl k (Nat.le_refl _) (fun rv4 u4 w4 r4 k => ?_)
    obtain ⟨v4, rfl, rfl, rfl, rfl, k⟩ := k
    refine xe_if_eq (tgt := 26) dX12_sign_20 rfl (fun c5 => ?_) (fun c6 => ?_)
    · have k := k.1 c5
      refine xe_aload_n dX12_sign_26 rfl ?_
      refine xe_getI dX12_sign_27 flX12_172 kk655 (xKK_lt kk655) rfl ?_
      refine xe_bipush (v := 60) dX12_sign_30 rfl ?_
      have K23 : xEv g (d + 1) mX12_sign 106 [some (.ref 655)] [.int (if ((u 655 6) = (60 : Int32) ∨ ((u 655 6) = (62 : Int32) ∨ ((u 655 6) = (61 : Int32) ∨ ((u 655 6) = (43 : Int32) ∨ ((u 655 6) = (45 : Int32) ∨ ((u 655 6) = (42 : Int32) ∨ ((u 655 6) = (47 : Int32) ∨ (u 655 6) = (37 : Int32)))))))) then (u 655 6) else (0 : Int32))] 698 u w r 698 P := by
        exact xe_ireturn dX12_sign_106 rfl k
      refine xe_icmp_eq (tgt := 98) dX12_sign_32 rfl (fun c7 => ?_) (fun c8 => ?_)
      · refine xe_aload_n dX12_sign_98 rfl ?_
        refine xe_getI dX12_sign_99 flX12_172 kk655 (xKK_lt kk655) rfl ?_
        refine xe_goto (tgt := 106) dX12_sign_102 rfl ?_
        exact xtop (if_pos (Or.inl c7)) K23
      · refine xe_aload_n dX12_sign_35 rfl ?_
        refine xe_getI dX12_sign_36 flX12_172 kk655 (xKK_lt kk655) rfl ?_
        refine xe_bipush (v := 62) dX12_sign_39 rfl ?_
        refine xe_icmp_eq (tgt := 98) dX12_sign_41 rfl (fun c9 => ?_) (fun c10 => ?_)
        · refine xe_aload_n dX12_sign_98 rfl ?_
          refine xe_getI dX12_sign_99 flX12_172 kk655 (xKK_lt kk655) rfl ?_
          refine xe_goto (tgt := 106) dX12_sign_102 rfl ?_
          exact xtop (if_pos (Or.inr (Or.inl c9))) K23
        · refine xe_aload_n dX12_sign_44 rfl ?_
          refine xe_getI dX12_sign_45 flX12_172 kk655 (xKK_lt kk655) rfl ?_
          refine xe_bipush (v := 61) dX12_sign_48 rfl ?_
          refine xe_icmp_eq (tgt := 98) dX12_sign_50 rfl (fun c11 => ?_) (fun c12 => ?_)
          · refine xe_aload_n dX12_sign_98 rfl ?_
            refine xe_getI dX12_sign_99 flX12_172 kk655 (xKK_lt kk655) rfl ?_
            refine xe_goto (tgt := 106) dX12_sign_102 rfl ?_
            exact xtop (if_pos (Or.inr (Or.inr (Or.inl c11)))) K23
          · refine xe_aload_n dX12_sign_53 rfl ?_
            refine xe_getI dX12_sign_54 flX12_172 kk655 (xKK_lt kk655) rfl ?_
            refine xe_bipush (v := 43) dX12_sign_57 rfl ?_
            refine xe_icmp_eq (tgt := 98) dX12_sign_59 rfl (fun c13 => ?_) (fun c14 => ?_)
            · refine xe_aload_n dX12_sign_98 rfl ?_
              refine xe_getI dX12_sign_99 flX12_172 kk655 (xKK_lt kk655) rfl ?_
              refine xe_goto (tgt := 106) dX12_sign_102 rfl ?_
              exact xtop (if_pos (Or.inr (Or.inr (Or.inr (Or.inl c13))))) K23
            · refine xe_aload_n dX12_sign_62 rfl ?_
              refine xe_getI dX12_sign_63 flX12_172 kk655 (xKK_lt kk655) rfl ?_
              refine xe_bipush (v := 45) dX12_sign_66 rfl ?_
              refine xe_icmp_eq (tgt := 98) dX12_sign_68 rfl (fun c15 => ?_) (fun c16 => ?_)
              · refine xe_aload_n dX12_sign_98 rfl ?_
                refine xe_getI dX12_sign_99 flX12_172 kk655 (xKK_lt kk655) rfl ?_
                refine xe_goto (tgt := 106) dX12_sign_102 rfl ?_
                exact xtop (if_pos (Or.inr (Or.inr (Or.inr (Or.inr (Or.inl c15)))))) K23
              · refine xe_aload_n dX12_sign_71 rfl ?_
                refine xe_getI dX12_sign_72 flX12_172 kk655 (xKK_lt kk655) rfl ?_
                refine xe_bipush (v := 42) dX12_sign_75 rfl ?_
                refine xe_icmp_eq (tgt := 98) dX12_sign_77 rfl (fun c17 => ?_) (fun c18 => ?_)
                · refine xe_aload_n dX12_sign_98 rfl ?_
                  refine xe_getI dX12_sign_99 flX12_172 kk655 (xKK_lt kk655) rfl ?_
                  refine xe_goto (tgt := 106) dX12_sign_102 rfl ?_
                  exact xtop (if_pos (Or.inr (Or.inr (Or.inr (Or.inr (Or.inr (Or.inl c17))))))) K23
                · refine xe_aload_n dX12_sign_80 rfl ?_
                  refine xe_getI dX12_sign_81 flX12_172 kk655 (xKK_lt kk655) rfl ?_
                  refine xe_bipush (v := 47) dX12_sign_84 rfl ?_
                  refine xe_icmp_eq (tgt := 98) dX12_sign_86 rfl (fun c19 => ?_) (fun c20 => ?_)
                  · refine xe_aload_n dX12_sign_98 rfl ?_
                    refine xe_getI dX12_sign_99 flX12_172 kk655 (xKK_lt kk655) rfl ?_
                    refine xe_goto (tgt := 106) dX12_sign_102 rfl ?_
                    exact xtop (if_pos (Or.inr (Or.inr (Or.inr (Or.inr (Or.inr (Or.inr (Or.inl c19)))))))) K23
                  · refine xe_aload_n dX12_sign_89 rfl ?_
                    refine xe_getI dX12_sign_90 flX12_172 kk655 (xKK_lt kk655) rfl ?_
                    refine xe_bipush (v := 37) dX12_sign_93 rfl ?_
                    refine xe_icmp_ne (tgt := 105) dX12_sign_95 rfl (fun c21 => ?_) (fun c22 => ?_)
                    · refine xe_iconst (v := 0) dX12_sign_105 rfl ?_
                      exact xtop (if_neg (fun q => (q.elim (fun z => (c8 z)) (fun z => (z.elim (fun z => (c10 z)) (fun z => (z.elim (fun z => (c12 z)) (fun z => (z.elim (fun z => (c14 z)) (fun z => (z.elim (fun z => (c16 z)) (fun z => (z.elim (fun z => (c18 z)) (fun z => (z.elim (fun z => (c20 z)) (fun z => (c21 z))))))))))))))))) K23
                    · refine xe_aload_n dX12_sign_98 rfl ?_
                      refine xe_getI dX12_sign_99 flX12_172 kk655 (xKK_lt kk655) rfl ?_
                      refine xe_goto (tgt := 106) dX12_sign_102 rfl ?_
                      exact xtop (if_pos (Or.inr (Or.inr (Or.inr (Or.inr (Or.inr (Or.inr (Or.inr c22)))))))) K23
    · have k := k.2 (fun q => (c6 q))
      refine xe_bipush (v := 124) dX12_sign_23 rfl ?_
      exact xe_ireturn dX12_sign_25 rfl k
  · have k := k.2 (fun q => (c3 q))
    refine xe_bipush (v := 38) dX12_sign_10 rfl ?_
    exact xe_ireturn dX12_sign_12 rfl k

theorem CX12_sign {g : xGT} {d : Nat} {u : xU} {w : xW} {r : xQ} {P : xPost}
    (k : xCall g d mX12_isWord [.ref 655, .long (6385252 : Int64)] 698 u w r 698 (fun rv1 u1 w1 r1 => ∃ v1 : Int32, rv1 = some (.int v1) ∧ u = u1 ∧ w = w1 ∧ r = r1 ∧ (v1 = 0 → xCall g d mX12_isWord [.ref 655, .long (28530 : Int64)] 698 u w r 698 (fun rv4 u4 w4 r4 => ∃ v4 : Int32, rv4 = some (.int v4) ∧ u = u4 ∧ w = w4 ∧ r = r4 ∧ (v4 = 0 → P (some (.int (if ((u 655 6) = (60 : Int32) ∨ ((u 655 6) = (62 : Int32) ∨ ((u 655 6) = (61 : Int32) ∨ ((u 655 6) = (43 : Int32) ∨ ((u 655 6) = (45 : Int32) ∨ ((u 655 6) = (42 : Int32) ∨ ((u 655 6) = (47 : Int32) ∨ (u 655 6) = (37 : Int32)))))))) then (u 655 6) else (0 : Int32)))) u w r) ∧ (¬ (v4 = 0) → P (some (.int (124 : Int32))) u w r))) ∧ (¬ (v1 = 0) → P (some (.int (38 : Int32))) u w r))) :
    xCall g (d + 1) mX12_sign [.ref 655] 698 u w r 698 P :=
  xCall.of plX12 (Nat.le_of_ble_eq_true rfl) rfl (TX12_sign_0  k)

/-! FuneralPostModel.hasBracket -/

theorem TX12_hasBracket_0 {g : xGT} {d : Nat} {u : xU} {w : xW} {r : xQ} {P : xPost}
    (k : xEv g d mX12_hasBracket 4 [some (.ref 655), some (.int (0 : Int32)), some (.int (0 : Int32))] [] 698 u w r 698 P) :
    xEv g d mX12_hasBracket 0 [some (.ref 655), none, none] [] 698 u w r 698 P := by
  refine xe_iconst (v := 0) dX12_hasBracket_0 rfl ?_
  refine xe_istore_n (ls' := [some (.ref 655), some (.int (0 : Int32)), none]) dX12_hasBracket_1 rfl (by decide) rfl ?_
  refine xe_iconst (v := 0) dX12_hasBracket_2 rfl ?_
  refine xe_istore_n (ls' := [some (.ref 655), some (.int (0 : Int32)), some (.int (0 : Int32))]) dX12_hasBracket_3 rfl (by decide) rfl ?_
  exact k

theorem CX12_hasBracket {g : xGT} {d : Nat} {u : xU} {w : xW} {r : xQ} {P : xPost}
    (k : xEv g d mX12_hasBracket 4 [some (.ref 655), some (.int (0 : Int32)), some (.int (0 : Int32))] [] 698 u w r 698 P) :
    xCall g d mX12_hasBracket [.ref 655] 698 u w r 698 P :=
  xCall.of plX12 (Nat.le_of_ble_eq_true rfl) rfl (TX12_hasBracket_0  k)

theorem TX12_hasBracket_4 {g : xGT} {d : Nat} {i1 i2 : Int32} {u : xU} {w : xW} {r : xQ} {P : xPost} (hr : xRf r)
    (k : ((u 655 19) ≤ i2 → (i1 = 0 ∨ i1 = 1) ∧ (P (some (.int i1)) u w r)) ∧ (¬ ((u 655 19) ≤ i2) → (i1 = 0 → vp_in i2 160) ∧ (xEv g d mX12_hasBracket 4 [some (.ref 655), some (.int (xb (¬ (i1 = 0) ∨ (u 662 i2.toNatClampNeg) = (20 : Int32)))), some (.int (i2 + (1 : Int32)))] [] 698 u w r 698 P))) :
    xEv g d mX12_hasBracket 4 [some (.ref 655), some (.int i1), some (.int i2)] [] 698 u w r 698 P := by
  refine xe_iload_n dX12_hasBracket_4 rfl ?_
  refine xe_aload_n dX12_hasBracket_5 rfl ?_
  refine xe_getI dX12_hasBracket_6 flX12_268 kk655 (xKK_lt kk655) rfl ?_
  refine xe_icmp_ge (tgt := 39) dX12_hasBracket_9 rfl (fun c1 => ?_) (fun c2 => ?_)
  · have k := k.1 c1
    refine xe_iload_n dX12_hasBracket_39 rfl ?_
    obtain ⟨z3, k⟩ := k
    exact xe_ireturn dX12_hasBracket_40 (xrokZ z3) k
  · have k := k.2 (fun q => (c2 q))
    refine xe_iload_n dX12_hasBracket_12 rfl ?_
    obtain ⟨b6, k⟩ := k
    have K9 : xEv g d mX12_hasBracket 32 [some (.ref 655), some (.int i1), some (.int i2)] [.int (xb (¬ (i1 = 0) ∨ (u 662 i2.toNatClampNeg) = (20 : Int32)))] 698 u w r 698 P := by
      refine xe_istore_n (ls' := [some (.ref 655), some (.int (xb (¬ (i1 = 0) ∨ (u 662 i2.toNatClampNeg) = (20 : Int32)))), some (.int i2)]) dX12_hasBracket_32 rfl (by decide) rfl ?_
      refine xe_iinc (v := (i2 + (1 : Int32))) (ls' := [some (.ref 655), some (.int (xb (¬ (i1 = 0) ∨ (u 662 i2.toNatClampNeg) = (20 : Int32)))), some (.int (i2 + (1 : Int32)))]) dX12_hasBracket_33 rfl (by decide) rfl rfl ?_
      refine xe_goto (tgt := 4) dX12_hasBracket_36 rfl ?_
      exact k
    refine xe_if_ne (tgt := 27) dX12_hasBracket_13 rfl (fun c4 => ?_) (fun c5 => ?_)
    · refine xe_iconst (v := 1) dX12_hasBracket_27 rfl ?_
      refine xe_goto (tgt := 32) dX12_hasBracket_28 rfl ?_
      exact xtop (xb_pos (show (¬ (i1 = 0) ∨ (u 662 i2.toNatClampNeg) = (20 : Int32)) from (Or.inl c4))) K9
    · refine xe_aload_n dX12_hasBracket_16 rfl ?_
      refine xe_getR (b := 662) dX12_hasBracket_17 flX12_33 kk655 (xKK_lt kk655) rfl (rf655_15 hr) ?_
      refine xe_iload_n dX12_hasBracket_20 rfl ?_
      refine xe_iald dX12_hasBracket_21 kk662 (xKK_lt kk662) (b6 c5) ?_
      refine xe_bipush (v := 20) dX12_hasBracket_22 rfl ?_
      refine xe_icmp_ne (tgt := 31) dX12_hasBracket_24 rfl (fun c7 => ?_) (fun c8 => ?_)
      · refine xe_iconst (v := 0) dX12_hasBracket_31 rfl ?_
        exact xtop (xb_neg (show ¬ (¬ (i1 = 0) ∨ (u 662 i2.toNatClampNeg) = (20 : Int32)) from (fun q => (q.elim (fun z => (z c5)) (fun z => (c7 z)))))) K9
      · refine xe_iconst (v := 1) dX12_hasBracket_27 rfl ?_
        refine xe_goto (tgt := 32) dX12_hasBracket_28 rfl ?_
        exact xtop (xb_pos (show (¬ (i1 = 0) ∨ (u 662 i2.toNatClampNeg) = (20 : Int32)) from (Or.inr c8))) K9

/-! FuneralPostModel.readWait -/

theorem TX12_readWait_0 {g : xGT} {d : Nat} {u : xU} {w : xW} {r : xQ} {P : xPost}
    (k : xCall g d mX12_token [.ref 655] 698 u w r 698 (fun rv1 u1 w1 r1 => rv1 = none ∧ r = r1 ∧ xCall g d mX12_unit [.ref 655] 698 (x2 (x2 (x2 (x2 u1 655 17 (0 : Int32)) 655 19 (0 : Int32)) 655 23 (0 : Int32)) 655 22 (0 : Int32)) w1 r 698 (fun rv2 u2 w2 r2 => rv2 = none ∧ r = r2 ∧ xEv g (d + 1) mX12_readWait 30 [some (.ref 655), some (.int (1 : Int32)), none] [] 698 u2 w2 r 698 P))) :
    xEv g (d + 1) mX12_readWait 0 [some (.ref 655), none, none] [] 698 u w r 698 P := by
  refine xe_aload_n dX12_readWait_0 rfl ?_
  refine xe_callV (args := []) dX12_readWait_1 vlX12_237 rfl rfl (Nat.le_of_ble_eq_true rfl) kk655 (xKK_lt kk655) rfl rfl k (Nat.le_refl _) (fun rv1 u1 w1 r1 k => ?_)
  obtain ⟨rfl, rfl, k⟩ := k
  refine xe_aload_n dX12_readWait_4 rfl ?_
  refine xe_iconst (v := 0) dX12_readWait_5 rfl ?_
  refine xe_putI dX12_readWait_6 flX12_265 kk655 (xKK_lt kk655) nf12_17 rfl ?_
  refine xe_aload_n dX12_readWait_9 rfl ?_
  refine xe_iconst (v := 0) dX12_readWait_10 rfl ?_
  refine xe_putI dX12_readWait_11 flX12_268 kk655 (xKK_lt kk655) nf12_19 rfl ?_
  refine xe_aload_n dX12_readWait_14 rfl ?_
  refine xe_iconst (v := 0) dX12_readWait_15 rfl ?_
  refine xe_putI dX12_readWait_16 flX12_278 kk655 (xKK_lt kk655) nf12_23 rfl ?_
  refine xe_aload_n dX12_readWait_19 rfl ?_
  refine xe_iconst (v := 0) dX12_readWait_20 rfl ?_
  refine xe_putI dX12_readWait_21 flX12_284 kk655 (xKK_lt kk655) nf12_22 rfl ?_
  refine xe_aload_n dX12_readWait_24 rfl ?_
  refine xe_callV (args := []) dX12_readWait_25 vlX12_302 rfl rfl (Nat.le_of_ble_eq_true rfl) kk655 (xKK_lt kk655) rfl rfl k (Nat.le_refl _) (fun rv2 u2 w2 r2 k => ?_)
  obtain ⟨rfl, rfl, k⟩ := k
  refine xe_iconst (v := 1) dX12_readWait_28 rfl ?_
  refine xe_istore_n (ls' := [some (.ref 655), some (.int (1 : Int32)), none]) dX12_readWait_29 rfl (by decide) rfl ?_
  exact k

theorem CX12_readWait {g : xGT} {d : Nat} {u : xU} {w : xW} {r : xQ} {P : xPost}
    (k : xCall g d mX12_token [.ref 655] 698 u w r 698 (fun rv1 u1 w1 r1 => rv1 = none ∧ r = r1 ∧ xCall g d mX12_unit [.ref 655] 698 (x2 (x2 (x2 (x2 u1 655 17 (0 : Int32)) 655 19 (0 : Int32)) 655 23 (0 : Int32)) 655 22 (0 : Int32)) w1 r 698 (fun rv2 u2 w2 r2 => rv2 = none ∧ r = r2 ∧ xEv g (d + 1) mX12_readWait 30 [some (.ref 655), some (.int (1 : Int32)), none] [] 698 u2 w2 r 698 P))) :
    xCall g (d + 1) mX12_readWait [.ref 655] 698 u w r 698 P :=
  xCall.of plX12 (Nat.le_of_ble_eq_true rfl) rfl (TX12_readWait_0  k)

set_option maxRecDepth 20000 in
theorem TX12_readWait_30 {g : xGT} {d : Nat} {i1 : Int32} {u : xU} {w : xW} {r : xQ} {P : xPost}
    (k : ((¬ (i1 = 0) ∧ (u 655 2) = 0) → xCall g d mX12_sign [.ref 655] 698 u w r 698 (fun rv7 u7 w7 r7 => ∃ v7 : Int32, rv7 = some (.int v7) ∧ u = u7 ∧ w = w7 ∧ r = r7 ∧ ((u 655 6) = (41 : Int32) → xCall g d mX12_hasBracket [.ref 655] 698 u w r 698 (fun rv10 u10 w10 r10 => ∃ v10 : Int32, rv10 = some (.int v10) ∧ u = u10 ∧ w = w10 ∧ r = r10 ∧ (v10 = 0 → xEv g (d + 1) mX12_readWait 94 [some (.ref 655), some (.int i1), some (.int v7)] [] 698 u w r 698 P) ∧ (¬ (v10 = 0) → xCall g d mX12_closeTo [.ref 655, .int (0 : Int32)] 698 u w r 698 (fun rv13 u13 w13 r13 => rv13 = none ∧ w = w13 ∧ r = r13 ∧ xCall g d mX12_token [.ref 655] 698 (x2 (x2 u13 655 19 ((u13 655 19) - (1 : Int32))) 655 23 ((u13 655 23) - (1 : Int32))) w r 698 (fun rv14 u14 w14 r14 => rv14 = none ∧ r = r14 ∧ xEv g (d + 1) mX12_readWait 154 [some (.ref 655), some (.int i1), none] [] 698 u14 w14 r 698 P))))) ∧ (¬ ((u 655 6) = (41 : Int32)) → xEv g (d + 1) mX12_readWait 94 [some (.ref 655), some (.int i1), some (.int v7)] [] 698 u w r 698 P))) ∧ (¬ (¬ (i1 = 0) ∧ (u 655 2) = 0) → ((u 655 2) = 0 → xCall g d mX12_hasBracket [.ref 655] 698 u w r 698 (fun rv17 u17 w17 r17 => ∃ v17 : Int32, rv17 = some (.int v17) ∧ u = u17 ∧ w = w17 ∧ r = r17 ∧ (v17 = 0 → xEv g (d + 1) mX12_readWait 176 [some (.ref 655), none, none] [] 698 u w r 698 P) ∧ (¬ (v17 = 0) → xCall g d mX12_wrong [.ref 655, .int (2 : Int32)] 698 u w r 698 (fun rv20 u20 w20 r20 => rv20 = none ∧ w = w20 ∧ r = r20 ∧ xEv g (d + 1) mX12_readWait 176 [some (.ref 655), none, none] [] 698 u20 w r 698 P)))) ∧ (¬ ((u 655 2) = 0) → xEv g (d + 1) mX12_readWait 176 [some (.ref 655), none, none] [] 698 u w r 698 P))) :
    xEv g (d + 1) mX12_readWait 30 [some (.ref 655), some (.int i1), none] [] 698 u w r 698 P := by
  refine xe_iload_n dX12_readWait_30 rfl ?_
  have K21 : ¬ (¬ (i1 = 0) ∧ (u 655 2) = 0) → xEv g (d + 1) mX12_readWait 157 [some (.ref 655), some (.int i1), none] [] 698 u w r 698 P := fun c22 => by
    have k := k.2 c22
    refine xe_aload_n dX12_readWait_157 rfl ?_
    refine xe_getI dX12_readWait_158 flX12_185 kk655 (xKK_lt kk655) rfl ?_
    refine xe_if_ne (tgt := 176) dX12_readWait_161 rfl (fun c15 => ?_) (fun c16 => ?_)
    · have k := k.2 (fun q => (c15 q))
      exact xEv.fewer (ls' := [some (.ref 655), none, none]) k (xfw_get (xfw_s (xfw_n (xfw_n (xfw_nil _)))))
    · have k := k.1 c16
      refine xe_aload_n dX12_readWait_164 rfl ?_
      refine xe_callV (args := []) dX12_readWait_165 vlX12_308 rfl rfl (Nat.le_of_ble_eq_true rfl) kk655 (xKK_lt kk655) rfl rfl k (Nat.le_refl _) (fun rv17 u17 w17 r17 k => ?_)
      obtain ⟨v17, rfl, rfl, rfl, rfl, k⟩ := k
      refine xe_if_eq (tgt := 176) dX12_readWait_168 rfl (fun c18 => ?_) (fun c19 => ?_)
      · have k := k.1 c18
        exact xEv.fewer (ls' := [some (.ref 655), none, none]) k (xfw_get (xfw_s (xfw_n (xfw_n (xfw_nil _)))))
      · have k := k.2 (fun q => (c19 q))
        refine xe_aload_n dX12_readWait_171 rfl ?_
        refine xe_iconst (v := 2) dX12_readWait_172 rfl ?_
        refine xe_callV (args := [.int (2 : Int32)]) dX12_readWait_173 vlX12_234 rfl rfl (Nat.le_of_ble_eq_true rfl) kk655 (xKK_lt kk655) rfl rfl k (Nat.le_refl _) (fun rv20 u20 w20 r20 k => ?_)
        obtain ⟨rfl, rfl, rfl, k⟩ := k
        exact xEv.fewer (ls' := [some (.ref 655), none, none]) k (xfw_get (xfw_s (xfw_n (xfw_n (xfw_nil _)))))
  refine xe_if_eq (tgt := 157) dX12_readWait_31 rfl (fun c3 => ?_) (fun c4 => ?_)
  · exact K21 (fun q => (q.1 c3))
  · refine xe_aload_n dX12_readWait_34 rfl ?_
    refine xe_getI dX12_readWait_35 flX12_185 kk655 (xKK_lt kk655) rfl ?_
    refine xe_if_ne (tgt := 157) dX12_readWait_38 rfl (fun c5 => ?_) (fun c6 => ?_)
    · exact K21 (fun q => (c5 q.2))
    · have k := k.1 ⟨c4, c6⟩
      refine xe_aload_n dX12_readWait_41 rfl ?_
      refine xe_callV (args := []) dX12_readWait_42 vlX12_305 rfl rfl (Nat.le_of_ble_eq_true rfl) kk655 (xKK_lt kk655) rfl rfl k (Nat.le_refl _) (fun rv7 u7 w7 r7 k => ?_)
      obtain ⟨v7, rfl, rfl, rfl, rfl, k⟩ := k
      refine xe_istore_n (ls' := [some (.ref 655), some (.int i1), some (.int v7)]) dX12_readWait_45 rfl (by decide) rfl ?_
      refine xe_aload_n dX12_readWait_46 rfl ?_
      refine xe_getI dX12_readWait_47 flX12_172 kk655 (xKK_lt kk655) rfl ?_
      refine xe_bipush (v := 41) dX12_readWait_50 rfl ?_
      refine xe_icmp_ne (tgt := 94) dX12_readWait_52 rfl (fun c8 => ?_) (fun c9 => ?_)
      · have k := k.2 (fun q => (c8 q))
        exact k
      · have k := k.1 c9
        refine xe_aload_n dX12_readWait_55 rfl ?_
        refine xe_callV (args := []) dX12_readWait_56 vlX12_308 rfl rfl (Nat.le_of_ble_eq_true rfl) kk655 (xKK_lt kk655) rfl rfl k (Nat.le_refl _) (fun rv10 u10 w10 r10 k => ?_)
        obtain ⟨v10, rfl, rfl, rfl, rfl, k⟩ := k
        refine xe_if_eq (tgt := 94) dX12_readWait_59 rfl (fun c11 => ?_) (fun c12 => ?_)
        · have k := k.1 c11
          exact k
        · have k := k.2 (fun q => (c12 q))
          refine xe_aload_n dX12_readWait_62 rfl ?_
          refine xe_iconst (v := 0) dX12_readWait_63 rfl ?_
          refine xe_callV (args := [.int (0 : Int32)]) dX12_readWait_64 vlX12_311 rfl rfl (Nat.le_of_ble_eq_true rfl) kk655 (xKK_lt kk655) rfl rfl k (Nat.le_refl _) (fun rv13 u13 w13 r13 k => ?_)
          obtain ⟨rfl, rfl, rfl, k⟩ := k
          refine xe_aload_n dX12_readWait_67 rfl ?_
          refine xe_dup dX12_readWait_68 rfl ?_
          refine xe_getI dX12_readWait_69 flX12_268 kk655 (xKK_lt kk655) rfl ?_
          refine xe_iconst (v := 1) dX12_readWait_72 rfl ?_
          refine xe_isub dX12_readWait_73 ?_
          refine xe_putI dX12_readWait_74 flX12_268 kk655 (xKK_lt kk655) nf12_19 rfl ?_
          refine xe_aload_n dX12_readWait_77 rfl ?_
          refine xe_dup dX12_readWait_78 rfl ?_
          refine xe_getI dX12_readWait_79 flX12_278 kk655 (xKK_lt kk655) rfl ?_
          refine xe_iconst (v := 1) dX12_readWait_82 rfl ?_
          refine xe_isub dX12_readWait_83 ?_
          refine xe_putI dX12_readWait_84 flX12_278 kk655 (xKK_lt kk655) nf12_23 rfl ?_
          refine xe_aload_n dX12_readWait_87 rfl ?_
          refine xe_callV (args := []) dX12_readWait_88 vlX12_237 rfl rfl (Nat.le_of_ble_eq_true rfl) kk655 (xKK_lt kk655) rfl rfl k (Nat.le_refl _) (fun rv14 u14 w14 r14 k => ?_)
          obtain ⟨rfl, rfl, k⟩ := k
          refine xe_goto (tgt := 154) dX12_readWait_91 rfl ?_
          exact xEv.fewer (ls' := [some (.ref 655), some (.int i1), none]) k (xfw_get (xfw_s (xfw_s (xfw_n (xfw_nil _)))))

theorem TX12_readWait_94 {g : xGT} {d : Nat} {i1 i2 : Int32} {u : xU} {w : xW} {r : xQ} {P : xPost}
    (k : (i2 = 0 → xEv g (d + 1) mX12_readWait 152 [some (.ref 655), none, none] [] 698 u w r 698 P) ∧ (¬ (i2 = 0) → xCall g d mX12_tight [.int i2] 698 u w r 698 (fun rv25 u25 w25 r25 => ∃ v25 : Int32, rv25 = some (.int v25) ∧ u = u25 ∧ w = w25 ∧ r = r25 ∧ (v25 = (4 : Int32) → xCall g d mX12_hasRelation [.ref 655] 698 u w r 698 (fun rv28 u28 w28 r28 => ∃ v28 : Int32, rv28 = some (.int v28) ∧ u = u28 ∧ w = w28 ∧ r = r28 ∧ (v28 = 0 → xEv g (d + 1) mX12_readWait 113 [some (.ref 655), some (.int i1), some (.int i2)] [] 698 u w r 698 P) ∧ (¬ (v28 = 0) → xEv g (d + 1) mX12_readWait 152 [some (.ref 655), none, none] [] 698 u w r 698 P))) ∧ (¬ (v25 = (4 : Int32)) → xEv g (d + 1) mX12_readWait 113 [some (.ref 655), some (.int i1), some (.int i2)] [] 698 u w r 698 P)))) :
    xEv g (d + 1) mX12_readWait 94 [some (.ref 655), some (.int i1), some (.int i2)] [] 698 u w r 698 P := by
  refine xe_iload_n dX12_readWait_94 rfl ?_
  refine xe_if_eq (tgt := 152) dX12_readWait_95 rfl (fun c23 => ?_) (fun c24 => ?_)
  · have k := k.1 c23
    exact xEv.fewer (ls' := [some (.ref 655), none, none]) k (xfw_get (xfw_s (xfw_n (xfw_n (xfw_nil _)))))
  · have k := k.2 (fun q => (c24 q))
    refine xe_iload_n dX12_readWait_98 rfl ?_
    refine xe_callS (args := [.int i2]) dX12_readWait_99 slX12_271 rfl rfl (Nat.le_of_ble_eq_true rfl) k (Nat.le_refl _) (fun rv25 u25 w25 r25 k => ?_)
    obtain ⟨v25, rfl, rfl, rfl, rfl, k⟩ := k
    refine xe_iconst (v := 4) dX12_readWait_102 rfl ?_
    refine xe_icmp_ne (tgt := 113) dX12_readWait_103 rfl (fun c26 => ?_) (fun c27 => ?_)
    · have k := k.2 (fun q => (c26 q))
      exact k
    · have k := k.1 c27
      refine xe_aload_n dX12_readWait_106 rfl ?_
      refine xe_callV (args := []) dX12_readWait_107 vlX12_314 rfl rfl (Nat.le_of_ble_eq_true rfl) kk655 (xKK_lt kk655) rfl rfl k (Nat.le_refl _) (fun rv28 u28 w28 r28 k => ?_)
      obtain ⟨v28, rfl, rfl, rfl, rfl, k⟩ := k
      refine xe_if_ne (tgt := 152) dX12_readWait_110 rfl (fun c29 => ?_) (fun c30 => ?_)
      · have k := k.2 (fun q => (c29 q))
        exact xEv.fewer (ls' := [some (.ref 655), none, none]) k (xfw_get (xfw_s (xfw_n (xfw_n (xfw_nil _)))))
      · have k := k.1 c30
        exact k

theorem TX12_readWait_154 {g : xGT} {d : Nat} {i1 : Int32} {u : xU} {w : xW} {r : xQ} {P : xPost}
    (k : xEv g (d + 1) mX12_readWait 30 [some (.ref 655), some (.int i1), none] [] 698 u w r 698 P) :
    xEv g (d + 1) mX12_readWait 154 [some (.ref 655), some (.int i1), none] [] 698 u w r 698 P := by
  refine xe_goto (tgt := 30) dX12_readWait_154 rfl ?_
  exact k

theorem TX12_readWait_176 {g : xGT} {d : Nat} {u : xU} {w : xW} {r : xQ} {P : xPost}
    (k : ((u 655 2) = 0 → xCall g d mX12_closeTo [.ref 655, .int (0 : Int32)] 698 u w r 698 (fun rv33 u33 w33 r33 => rv33 = none ∧ w = w33 ∧ r = r33 ∧ P none u33 w r)) ∧ (¬ ((u 655 2) = 0) → P none u w r)) :
    xEv g (d + 1) mX12_readWait 176 [some (.ref 655), none, none] [] 698 u w r 698 P := by
  refine xe_aload_n dX12_readWait_176 rfl ?_
  refine xe_getI dX12_readWait_177 flX12_185 kk655 (xKK_lt kk655) rfl ?_
  refine xe_if_ne (tgt := 188) dX12_readWait_180 rfl (fun c31 => ?_) (fun c32 => ?_)
  · have k := k.2 (fun q => (c31 q))
    exact xe_return dX12_readWait_188 trivial k
  · have k := k.1 c32
    refine xe_aload_n dX12_readWait_183 rfl ?_
    refine xe_iconst (v := 0) dX12_readWait_184 rfl ?_
    refine xe_callV (args := [.int (0 : Int32)]) dX12_readWait_185 vlX12_311 rfl rfl (Nat.le_of_ble_eq_true rfl) kk655 (xKK_lt kk655) rfl rfl k (Nat.le_refl _) (fun rv33 u33 w33 r33 k => ?_)
    obtain ⟨rfl, rfl, rfl, k⟩ := k
    exact xe_return dX12_readWait_188 trivial k

theorem TX12_readWait_152 {g : xGT} {d : Nat} {u : xU} {w : xW} {r : xQ} {P : xPost}
    (k : xEv g (d + 1) mX12_readWait 154 [some (.ref 655), some (.int (0 : Int32)), none] [] 698 u w r 698 P) :
    xEv g (d + 1) mX12_readWait 152 [some (.ref 655), none, none] [] 698 u w r 698 P := by
  refine xe_iconst (v := 0) dX12_readWait_152 rfl ?_
  refine xe_istore_n (ls' := [some (.ref 655), some (.int (0 : Int32)), none]) dX12_readWait_153 rfl (by decide) rfl ?_
  exact k

theorem TX12_readWait_113 {g : xGT} {d : Nat} {i1 i2 : Int32} {u : xU} {w : xW} {r : xQ} {P : xPost} (hr : xRf r)
    (k : xCall g d mX12_tight [.int i2] 698 u w r 698 (fun rv34 u34 w34 r34 => ∃ v34 : Int32, rv34 = some (.int v34) ∧ u = u34 ∧ w = w34 ∧ r = r34 ∧ xCall g d mX12_closeTo [.ref 655, .int v34] 698 u w r 698 (fun rv35 u35 w35 r35 => rv35 = none ∧ w = w35 ∧ r = r35 ∧ vp_in (u35 655 19) 160 ∧ (xCall g d mX12_token [.ref 655] 698 (x2 (x2 u35 662 (u35 655 19).toNatClampNeg i2) 655 19 ((u35 655 19) + (1 : Int32))) w r 698 (fun rv37 u37 w37 r37 => rv37 = none ∧ r = r37 ∧ xCall g d mX12_unit [.ref 655] 698 u37 w37 r 698 (fun rv38 u38 w38 r38 => rv38 = none ∧ r = r38 ∧ xEv g (d + 1) mX12_readWait 154 [some (.ref 655), some (.int i1), none] [] 698 u38 w38 r 698 P)))))) :
    xEv g (d + 1) mX12_readWait 113 [some (.ref 655), some (.int i1), some (.int i2)] [] 698 u w r 698 P := by
  refine xe_aload_n dX12_readWait_113 rfl ?_
  refine xe_iload_n dX12_readWait_114 rfl ?_
  refine xe_callS (args := [.int i2]) dX12_readWait_115 slX12_271 rfl rfl (Nat.le_of_ble_eq_true rfl) k (Nat.le_refl _) (fun rv34 u34 w34 r34 k => ?_)
  obtain ⟨v34, rfl, rfl, rfl, rfl, k⟩ := k
  refine xe_callV (args := [.int v34]) dX12_readWait_118 vlX12_311 rfl rfl (Nat.le_of_ble_eq_true rfl) kk655 (xKK_lt kk655) rfl rfl k (Nat.le_refl _) (fun rv35 u35 w35 r35 k => ?_)
  obtain ⟨rfl, rfl, rfl, k⟩ := k
  refine xe_aload_n dX12_readWait_121 rfl ?_
  refine xe_getR (b := 662) dX12_readWait_122 flX12_33 kk655 (xKK_lt kk655) rfl (rf655_15 hr) ?_
  refine xe_aload_n dX12_readWait_125 rfl ?_
  refine xe_getI dX12_readWait_126 flX12_268 kk655 (xKK_lt kk655) rfl ?_
  refine xe_iload_n dX12_readWait_129 rfl ?_
  obtain ⟨b36, k⟩ := k
  refine xe_iast dX12_readWait_130 kk662 (xKK_lt kk662) b36 ?_
  refine xe_aload_n dX12_readWait_131 rfl ?_
  refine xe_dup dX12_readWait_132 rfl ?_
  refine xe_getI dX12_readWait_133 flX12_268 kk655 (xKK_lt kk655) rfl ?_
  refine xe_iconst (v := 1) dX12_readWait_136 rfl ?_
  refine xe_iadd dX12_readWait_137 ?_
  refine xe_putI dX12_readWait_138 flX12_268 kk655 (xKK_lt kk655) nf12_19 rfl ?_
  refine xe_aload_n dX12_readWait_141 rfl ?_
  refine xe_callV (args := []) dX12_readWait_142 vlX12_237 rfl rfl (Nat.le_of_ble_eq_true rfl) kk655 (xKK_lt kk655) rfl rfl k (Nat.le_refl _) (fun rv37 u37 w37 r37 k => ?_)
  obtain ⟨rfl, rfl, k⟩ := k
  refine xe_aload_n dX12_readWait_145 rfl ?_
  refine xe_callV (args := []) dX12_readWait_146 vlX12_302 rfl rfl (Nat.le_of_ble_eq_true rfl) kk655 (xKK_lt kk655) rfl rfl k (Nat.le_refl _) (fun rv38 u38 w38 r38 k => ?_)
  obtain ⟨rfl, rfl, k⟩ := k
  refine xe_goto (tgt := 154) dX12_readWait_149 rfl ?_
  exact xEv.fewer (ls' := [some (.ref 655), some (.int i1), none]) k (xfw_get (xfw_s (xfw_s (xfw_n (xfw_nil _)))))

/-! FuneralPostModel.truth -/

theorem TX12_truth_0 {g : xGT} {d : Nat} {i0 : Int32} {u : xU} {w : xW} {r : xQ} {P : xPost}
    (k : P (some (.int (xb (¬ (i0 = 0))))) u w r) :
    xEv g d mX12_truth 0 [some (.int i0)] [] 698 u w r 698 P := by
  refine xe_iload_n dX12_truth_0 rfl ?_
  have K3 : xEv g d mX12_truth 9 [some (.int i0)] [.int (xb (¬ (i0 = 0)))] 698 u w r 698 P := by
    exact xe_ireturn dX12_truth_9 rfl k
  refine xe_if_eq (tgt := 8) dX12_truth_1 rfl (fun c1 => ?_) (fun c2 => ?_)
  · refine xe_iconst (v := 0) dX12_truth_8 rfl ?_
    exact xtop (xb_neg (p := ¬ (i0 = 0)) (fun q => q c1)) K3
  · refine xe_iconst (v := 1) dX12_truth_4 rfl ?_
    refine xe_goto (tgt := 9) dX12_truth_5 rfl ?_
    exact xtop (xb_pos (show ¬ (i0 = 0) from (fun q => (c2 q)))) K3

theorem CX12_truth {g : xGT} {d : Nat} {i0 : Int32} {u : xU} {w : xW} {r : xQ} {P : xPost}
    (k : P (some (.int (xb (¬ (i0 = 0))))) u w r) :
    xCall g d mX12_truth [.int i0] 698 u w r 698 P :=
  xCall.of plX12 (Nat.le_of_ble_eq_true rfl) rfl (TX12_truth_0  k)

/-! FuneralPostModel.done -/

set_option maxRecDepth 20000 in
theorem TX12_done_0 {g : xGT} {d : Nat} {i0 i1 i2 : Int32} {u : xU} {w : xW} {r : xQ} {P : xPost}
    (k : (i0 = 37 → (i2 = 0 → P (some (.int (0 : Int32))) u w r) ∧ (¬ (i2 = 0) → ¬ i2 = 0 ∧ (P (some (.int (i1 - i1 / i2 * i2))) u w r))) ∧ (i0 = 38 → xCall g d mX12_truth [.int (xb (¬ (i1 = 0) ∧ ¬ (i2 = 0)))] 698 u w r 698 (fun rv8 u8 w8 r8 => ∃ v8 : Int32, rv8 = some (.int v8) ∧ u = u8 ∧ w = w8 ∧ r = r8 ∧ P (some (.int v8)) u w r)) ∧ (i0 = 42 → P (some (.int (i1 * i2))) u w r) ∧ (i0 = 43 → P (some (.int (i1 + i2))) u w r) ∧ (i0 = 45 → P (some (.int (i1 - i2))) u w r) ∧ (i0 = 47 → (i2 = 0 → P (some (.int (0 : Int32))) u w r) ∧ (¬ (i2 = 0) → ¬ i2 = 0 ∧ (P (some (.int (i1 / i2))) u w r))) ∧ (i0 = 60 → xCall g d mX12_truth [.int (xb (¬ (i2 ≤ i1)))] 698 u w r 698 (fun rv15 u15 w15 r15 => ∃ v15 : Int32, rv15 = some (.int v15) ∧ u = u15 ∧ w = w15 ∧ r = r15 ∧ P (some (.int v15)) u w r)) ∧ (i0 = 61 → xCall g d mX12_truth [.int (xb (i1 = i2))] 698 u w r 698 (fun rv19 u19 w19 r19 => ∃ v19 : Int32, rv19 = some (.int v19) ∧ u = u19 ∧ w = w19 ∧ r = r19 ∧ P (some (.int v19)) u w r)) ∧ (i0 = 62 → xCall g d mX12_truth [.int (xb (¬ (i1 ≤ i2)))] 698 u w r 698 (fun rv23 u23 w23 r23 => ∃ v23 : Int32, rv23 = some (.int v23) ∧ u = u23 ∧ w = w23 ∧ r = r23 ∧ P (some (.int v23)) u w r)) ∧ (¬ i0 = 37 → ¬ i0 = 38 → ¬ i0 = 42 → ¬ i0 = 43 → ¬ i0 = 45 → ¬ i0 = 47 → ¬ i0 = 60 → ¬ i0 = 61 → ¬ i0 = 62 → xCall g d mX12_truth [.int (xb (¬ (i1 = 0) ∨ ¬ (i2 = 0)))] 698 u w r 698 (fun rv29 u29 w29 r29 => ∃ v29 : Int32, rv29 = some (.int v29) ∧ u = u29 ∧ w = w29 ∧ r = r29 ∧ P (some (.int v29)) u w r))) :
    xEv g (d + 1) mX12_done 0 [some (.int i0), some (.int i1), some (.int i2)] [] 698 u w r 698 P := by
  refine xe_iload_n dX12_done_0 rfl ?_
  by_cases c31 : i0 = 37
  · have k := k.1 c31
    refine xe_tableIn (tgt := 144) dX12_done_1 (by rw [c31]; decide) (by rw [c31]; decide) (by rw [c31]; rfl) rfl ?_
    refine xe_iload_n dX12_done_144 rfl ?_
    refine xe_if_ne (tgt := 152) dX12_done_145 rfl (fun c1 => ?_) (fun c2 => ?_)
    · have k := k.2 (fun q => (c1 q))
      refine xe_iload_n dX12_done_152 rfl ?_
      refine xe_iload_n dX12_done_153 rfl ?_
      obtain ⟨z3, k⟩ := k
      refine xe_irem dX12_done_154 z3 ?_
      exact xe_ireturn dX12_done_155 rfl k
    · have k := k.1 c2
      refine xe_iconst (v := 0) dX12_done_148 rfl ?_
      refine xe_goto (tgt := 155) dX12_done_149 rfl ?_
      exact xe_ireturn dX12_done_155 rfl k
  by_cases c32 : i0 = 38
  · have k := k.2.1 c32
    refine xe_tableIn (tgt := 198) dX12_done_1 (by rw [c32]; decide) (by rw [c32]; decide) (by rw [c32]; rfl) rfl ?_
    refine xe_iload_n dX12_done_198 rfl ?_
    have K9 : xEv g (d + 1) mX12_done 211 [some (.int i0), some (.int i1), some (.int i2)] [.int (xb (¬ (i1 = 0) ∧ ¬ (i2 = 0)))] 698 u w r 698 P := by
      refine xe_callS (args := [.int (xb (¬ (i1 = 0) ∧ ¬ (i2 = 0)))]) dX12_done_211 slX12_317 rfl rfl (Nat.le_of_ble_eq_true rfl) k (Nat.le_refl _) (fun rv8 u8 w8 r8 k => ?_)
      obtain ⟨v8, rfl, rfl, rfl, rfl, k⟩ := k
      exact xe_ireturn dX12_done_214 rfl k
    refine xe_if_eq (tgt := 210) dX12_done_199 rfl (fun c4 => ?_) (fun c5 => ?_)
    · refine xe_iconst (v := 0) dX12_done_210 rfl ?_
      exact xtop (xb_neg (show ¬ (¬ (i1 = 0) ∧ ¬ (i2 = 0)) from (fun q => (q.1 c4)))) K9
    · refine xe_iload_n dX12_done_202 rfl ?_
      refine xe_if_eq (tgt := 210) dX12_done_203 rfl (fun c6 => ?_) (fun c7 => ?_)
      · refine xe_iconst (v := 0) dX12_done_210 rfl ?_
        exact xtop (xb_neg (show ¬ (¬ (i1 = 0) ∧ ¬ (i2 = 0)) from (fun q => (q.2 c6)))) K9
      · refine xe_iconst (v := 1) dX12_done_206 rfl ?_
        refine xe_goto (tgt := 211) dX12_done_207 rfl ?_
        exact xtop (xb_pos (show (¬ (i1 = 0) ∧ ¬ (i2 = 0)) from ⟨c5, c7⟩)) K9
  by_cases c33 : i0 = 42
  · have k := k.2.2.1 c33
    refine xe_tableIn (tgt := 128) dX12_done_1 (by rw [c33]; decide) (by rw [c33]; decide) (by rw [c33]; rfl) rfl ?_
    refine xe_iload_n dX12_done_128 rfl ?_
    refine xe_iload_n dX12_done_129 rfl ?_
    refine xe_imul dX12_done_130 ?_
    exact xe_ireturn dX12_done_131 rfl k
  by_cases c34 : i0 = 43
  · have k := k.2.2.2.1 c34
    refine xe_tableIn (tgt := 120) dX12_done_1 (by rw [c34]; decide) (by rw [c34]; decide) (by rw [c34]; rfl) rfl ?_
    refine xe_iload_n dX12_done_120 rfl ?_
    refine xe_iload_n dX12_done_121 rfl ?_
    refine xe_iadd dX12_done_122 ?_
    exact xe_ireturn dX12_done_123 rfl k
  by_cases c35 : i0 = 45
  · have k := k.2.2.2.2.1 c35
    refine xe_tableIn (tgt := 124) dX12_done_1 (by rw [c35]; decide) (by rw [c35]; decide) (by rw [c35]; rfl) rfl ?_
    refine xe_iload_n dX12_done_124 rfl ?_
    refine xe_iload_n dX12_done_125 rfl ?_
    refine xe_isub dX12_done_126 ?_
    exact xe_ireturn dX12_done_127 rfl k
  by_cases c36 : i0 = 47
  · have k := k.2.2.2.2.2.1 c36
    refine xe_tableIn (tgt := 132) dX12_done_1 (by rw [c36]; decide) (by rw [c36]; decide) (by rw [c36]; rfl) rfl ?_
    refine xe_iload_n dX12_done_132 rfl ?_
    refine xe_if_ne (tgt := 140) dX12_done_133 rfl (fun c10 => ?_) (fun c11 => ?_)
    · have k := k.2 (fun q => (c10 q))
      refine xe_iload_n dX12_done_140 rfl ?_
      refine xe_iload_n dX12_done_141 rfl ?_
      obtain ⟨z12, k⟩ := k
      refine xe_idiv dX12_done_142 z12 ?_
      exact xe_ireturn dX12_done_143 rfl k
    · have k := k.1 c11
      refine xe_iconst (v := 0) dX12_done_136 rfl ?_
      refine xe_goto (tgt := 143) dX12_done_137 rfl ?_
      exact xe_ireturn dX12_done_143 rfl k
  by_cases c37 : i0 = 60
  · have k := k.2.2.2.2.2.2.1 c37
    refine xe_tableIn (tgt := 156) dX12_done_1 (by rw [c37]; decide) (by rw [c37]; decide) (by rw [c37]; rfl) rfl ?_
    refine xe_iload_n dX12_done_156 rfl ?_
    refine xe_iload_n dX12_done_157 rfl ?_
    have K16 : xEv g (d + 1) mX12_done 166 [some (.int i0), some (.int i1), some (.int i2)] [.int (xb (¬ (i2 ≤ i1)))] 698 u w r 698 P := by
      refine xe_callS (args := [.int (xb (¬ (i2 ≤ i1)))]) dX12_done_166 slX12_317 rfl rfl (Nat.le_of_ble_eq_true rfl) k (Nat.le_refl _) (fun rv15 u15 w15 r15 k => ?_)
      obtain ⟨v15, rfl, rfl, rfl, rfl, k⟩ := k
      exact xe_ireturn dX12_done_169 rfl k
    refine xe_icmp_ge (tgt := 165) dX12_done_158 rfl (fun c13 => ?_) (fun c14 => ?_)
    · refine xe_iconst (v := 0) dX12_done_165 rfl ?_
      exact xtop (xb_neg (p := ¬ (i2 ≤ i1)) (fun q => q c13)) K16
    · refine xe_iconst (v := 1) dX12_done_161 rfl ?_
      refine xe_goto (tgt := 166) dX12_done_162 rfl ?_
      exact xtop (xb_pos (show ¬ (i2 ≤ i1) from (fun q => (c14 q)))) K16
  by_cases c38 : i0 = 61
  · have k := k.2.2.2.2.2.2.2.1 c38
    refine xe_tableIn (tgt := 184) dX12_done_1 (by rw [c38]; decide) (by rw [c38]; decide) (by rw [c38]; rfl) rfl ?_
    refine xe_iload_n dX12_done_184 rfl ?_
    refine xe_iload_n dX12_done_185 rfl ?_
    have K20 : xEv g (d + 1) mX12_done 194 [some (.int i0), some (.int i1), some (.int i2)] [.int (xb (i1 = i2))] 698 u w r 698 P := by
      refine xe_callS (args := [.int (xb (i1 = i2))]) dX12_done_194 slX12_317 rfl rfl (Nat.le_of_ble_eq_true rfl) k (Nat.le_refl _) (fun rv19 u19 w19 r19 k => ?_)
      obtain ⟨v19, rfl, rfl, rfl, rfl, k⟩ := k
      exact xe_ireturn dX12_done_197 rfl k
    refine xe_icmp_ne (tgt := 193) dX12_done_186 rfl (fun c17 => ?_) (fun c18 => ?_)
    · refine xe_iconst (v := 0) dX12_done_193 rfl ?_
      exact xtop (xb_neg (show ¬ (i1 = i2) from (fun q => (c17 q)))) K20
    · refine xe_iconst (v := 1) dX12_done_189 rfl ?_
      refine xe_goto (tgt := 194) dX12_done_190 rfl ?_
      exact xtop (xb_pos (show i1 = i2 from c18)) K20
  by_cases c39 : i0 = 62
  · have k := k.2.2.2.2.2.2.2.2.1 c39
    refine xe_tableIn (tgt := 170) dX12_done_1 (by rw [c39]; decide) (by rw [c39]; decide) (by rw [c39]; rfl) rfl ?_
    refine xe_iload_n dX12_done_170 rfl ?_
    refine xe_iload_n dX12_done_171 rfl ?_
    have K24 : xEv g (d + 1) mX12_done 180 [some (.int i0), some (.int i1), some (.int i2)] [.int (xb (¬ (i1 ≤ i2)))] 698 u w r 698 P := by
      refine xe_callS (args := [.int (xb (¬ (i1 ≤ i2)))]) dX12_done_180 slX12_317 rfl rfl (Nat.le_of_ble_eq_true rfl) k (Nat.le_refl _) (fun rv23 u23 w23 r23 k => ?_)
      obtain ⟨v23, rfl, rfl, rfl, rfl, k⟩ := k
      exact xe_ireturn dX12_done_183 rfl k
    refine xe_icmp_le (tgt := 179) dX12_done_172 rfl (fun c21 => ?_) (fun c22 => ?_)
    · refine xe_iconst (v := 0) dX12_done_179 rfl ?_
      exact xtop (xb_neg (p := ¬ (i1 ≤ i2)) (fun q => q c21)) K24
    · refine xe_iconst (v := 1) dX12_done_175 rfl ?_
      refine xe_goto (tgt := 180) dX12_done_176 rfl ?_
      exact xtop (xb_pos (show ¬ (i1 ≤ i2) from (fun q => (c22 q)))) K24
  have k := k.2.2.2.2.2.2.2.2.2 c31 c32 c33 c34 c35 c36 c37 c38 c39
  have K40 : xEv g (d + 1) mX12_done 215 [some (.int i0), some (.int i1), some (.int i2)] [] 698 u w r 698 P := by
    refine xe_iload_n dX12_done_215 rfl ?_
    have K30 : xEv g (d + 1) mX12_done 228 [some (.int i0), some (.int i1), some (.int i2)] [.int (xb (¬ (i1 = 0) ∨ ¬ (i2 = 0)))] 698 u w r 698 P := by
      refine xe_callS (args := [.int (xb (¬ (i1 = 0) ∨ ¬ (i2 = 0)))]) dX12_done_228 slX12_317 rfl rfl (Nat.le_of_ble_eq_true rfl) k (Nat.le_refl _) (fun rv29 u29 w29 r29 k => ?_)
      obtain ⟨v29, rfl, rfl, rfl, rfl, k⟩ := k
      exact xe_ireturn dX12_done_231 rfl k
    refine xe_if_ne (tgt := 223) dX12_done_216 rfl (fun c25 => ?_) (fun c26 => ?_)
    · refine xe_iconst (v := 1) dX12_done_223 rfl ?_
      refine xe_goto (tgt := 228) dX12_done_224 rfl ?_
      exact xtop (xb_pos (show (¬ (i1 = 0) ∨ ¬ (i2 = 0)) from (Or.inl c25))) K30
    · refine xe_iload_n dX12_done_219 rfl ?_
      refine xe_if_eq (tgt := 227) dX12_done_220 rfl (fun c27 => ?_) (fun c28 => ?_)
      · refine xe_iconst (v := 0) dX12_done_227 rfl ?_
        exact xtop (xb_neg (show ¬ (¬ (i1 = 0) ∨ ¬ (i2 = 0)) from (fun q => (q.elim (fun z => (z c26)) (fun z => (z c27)))))) K30
      · refine xe_iconst (v := 1) dX12_done_223 rfl ?_
        refine xe_goto (tgt := 228) dX12_done_224 rfl ?_
        exact xtop (xb_pos (show (¬ (i1 = 0) ∨ ¬ (i2 = 0)) from (Or.inr c28))) K30
  by_cases hlo : i0.toInt < 37 ∨ 62 < i0.toInt
  · exact xe_tableOut (tgt := 215) dX12_done_1 hlo rfl K40
  · rcases xsw_37_62_9 c31 c32 c33 c34 c35 c36 c37 c38 c39 hlo with hv | hv | hv | hv | hv | hv | hv | hv | hv | hv | hv | hv | hv | hv | hv | hv | hv
    · exact xe_tableIn (tgt := 215) dX12_done_1 (by rw [hv]; decide) (by rw [hv]; decide) (by rw [hv]; rfl) rfl K40
    · exact xe_tableIn (tgt := 215) dX12_done_1 (by rw [hv]; decide) (by rw [hv]; decide) (by rw [hv]; rfl) rfl K40
    · exact xe_tableIn (tgt := 215) dX12_done_1 (by rw [hv]; decide) (by rw [hv]; decide) (by rw [hv]; rfl) rfl K40
    · exact xe_tableIn (tgt := 215) dX12_done_1 (by rw [hv]; decide) (by rw [hv]; decide) (by rw [hv]; rfl) rfl K40
    · exact xe_tableIn (tgt := 215) dX12_done_1 (by rw [hv]; decide) (by rw [hv]; decide) (by rw [hv]; rfl) rfl K40
    · exact xe_tableIn (tgt := 215) dX12_done_1 (by rw [hv]; decide) (by rw [hv]; decide) (by rw [hv]; rfl) rfl K40
    · exact xe_tableIn (tgt := 215) dX12_done_1 (by rw [hv]; decide) (by rw [hv]; decide) (by rw [hv]; rfl) rfl K40
    · exact xe_tableIn (tgt := 215) dX12_done_1 (by rw [hv]; decide) (by rw [hv]; decide) (by rw [hv]; rfl) rfl K40
    · exact xe_tableIn (tgt := 215) dX12_done_1 (by rw [hv]; decide) (by rw [hv]; decide) (by rw [hv]; rfl) rfl K40
    · exact xe_tableIn (tgt := 215) dX12_done_1 (by rw [hv]; decide) (by rw [hv]; decide) (by rw [hv]; rfl) rfl K40
    · exact xe_tableIn (tgt := 215) dX12_done_1 (by rw [hv]; decide) (by rw [hv]; decide) (by rw [hv]; rfl) rfl K40
    · exact xe_tableIn (tgt := 215) dX12_done_1 (by rw [hv]; decide) (by rw [hv]; decide) (by rw [hv]; rfl) rfl K40
    · exact xe_tableIn (tgt := 215) dX12_done_1 (by rw [hv]; decide) (by rw [hv]; decide) (by rw [hv]; rfl) rfl K40
    · exact xe_tableIn (tgt := 215) dX12_done_1 (by rw [hv]; decide) (by rw [hv]; decide) (by rw [hv]; rfl) rfl K40
    · exact xe_tableIn (tgt := 215) dX12_done_1 (by rw [hv]; decide) (by rw [hv]; decide) (by rw [hv]; rfl) rfl K40
    · exact xe_tableIn (tgt := 215) dX12_done_1 (by rw [hv]; decide) (by rw [hv]; decide) (by rw [hv]; rfl) rfl K40
    · exact xe_tableIn (tgt := 215) dX12_done_1 (by rw [hv]; decide) (by rw [hv]; decide) (by rw [hv]; rfl) rfl K40

theorem CX12_done {g : xGT} {d : Nat} {i0 i1 i2 : Int32} {u : xU} {w : xW} {r : xQ} {P : xPost}
    (k : (i0 = 37 → (i2 = 0 → P (some (.int (0 : Int32))) u w r) ∧ (¬ (i2 = 0) → ¬ i2 = 0 ∧ (P (some (.int (i1 - i1 / i2 * i2))) u w r))) ∧ (i0 = 38 → xCall g d mX12_truth [.int (xb (¬ (i1 = 0) ∧ ¬ (i2 = 0)))] 698 u w r 698 (fun rv8 u8 w8 r8 => ∃ v8 : Int32, rv8 = some (.int v8) ∧ u = u8 ∧ w = w8 ∧ r = r8 ∧ P (some (.int v8)) u w r)) ∧ (i0 = 42 → P (some (.int (i1 * i2))) u w r) ∧ (i0 = 43 → P (some (.int (i1 + i2))) u w r) ∧ (i0 = 45 → P (some (.int (i1 - i2))) u w r) ∧ (i0 = 47 → (i2 = 0 → P (some (.int (0 : Int32))) u w r) ∧ (¬ (i2 = 0) → ¬ i2 = 0 ∧ (P (some (.int (i1 / i2))) u w r))) ∧ (i0 = 60 → xCall g d mX12_truth [.int (xb (¬ (i2 ≤ i1)))] 698 u w r 698 (fun rv15 u15 w15 r15 => ∃ v15 : Int32, rv15 = some (.int v15) ∧ u = u15 ∧ w = w15 ∧ r = r15 ∧ P (some (.int v15)) u w r)) ∧ (i0 = 61 → xCall g d mX12_truth [.int (xb (i1 = i2))] 698 u w r 698 (fun rv19 u19 w19 r19 => ∃ v19 : Int32, rv19 = some (.int v19) ∧ u = u19 ∧ w = w19 ∧ r = r19 ∧ P (some (.int v19)) u w r)) ∧ (i0 = 62 → xCall g d mX12_truth [.int (xb (¬ (i1 ≤ i2)))] 698 u w r 698 (fun rv23 u23 w23 r23 => ∃ v23 : Int32, rv23 = some (.int v23) ∧ u = u23 ∧ w = w23 ∧ r = r23 ∧ P (some (.int v23)) u w r)) ∧ (¬ i0 = 37 → ¬ i0 = 38 → ¬ i0 = 42 → ¬ i0 = 43 → ¬ i0 = 45 → ¬ i0 = 47 → ¬ i0 = 60 → ¬ i0 = 61 → ¬ i0 = 62 → xCall g d mX12_truth [.int (xb (¬ (i1 = 0) ∨ ¬ (i2 = 0)))] 698 u w r 698 (fun rv29 u29 w29 r29 => ∃ v29 : Int32, rv29 = some (.int v29) ∧ u = u29 ∧ w = w29 ∧ r = r29 ∧ P (some (.int v29)) u w r))) :
    xCall g (d + 1) mX12_done [.int i0, .int i1, .int i2] 698 u w r 698 P :=
  xCall.of plX12 (Nat.le_of_ble_eq_true rfl) rfl (TX12_done_0  k)

/-! FuneralPostModel.waitHere -/

theorem TX12_waitHere_0 {g : xGT} {d : Nat} {u : xU} {w : xW} {r : xQ} {P : xPost}
    (k : ((u 655 56) = 0 → P (some (.int (0 : Int32))) u w r) ∧ (¬ ((u 655 56) = 0) → xEv g (d + 1) mX12_waitHere 13 [some (.ref 655), some (.int (0 : Int32)), some (.int (0 : Int32))] [] 698 u w r 698 P)) :
    xEv g (d + 1) mX12_waitHere 0 [some (.ref 655), none, none] [] 698 u w r 698 P := by
  refine xe_aload_n dX12_waitHere_0 rfl ?_
  refine xe_getI dX12_waitHere_1 flX12_321 kk655 (xKK_lt kk655) rfl ?_
  refine xe_if_ne (tgt := 9) dX12_waitHere_4 rfl (fun c1 => ?_) (fun c2 => ?_)
  · have k := k.2 (fun q => (c1 q))
    refine xe_iconst (v := 0) dX12_waitHere_9 rfl ?_
    refine xe_istore_n (ls' := [some (.ref 655), some (.int (0 : Int32)), none]) dX12_waitHere_10 rfl (by decide) rfl ?_
    refine xe_iconst (v := 0) dX12_waitHere_11 rfl ?_
    refine xe_istore_n (ls' := [some (.ref 655), some (.int (0 : Int32)), some (.int (0 : Int32))]) dX12_waitHere_12 rfl (by decide) rfl ?_
    exact k
  · have k := k.1 c2
    refine xe_iconst (v := 0) dX12_waitHere_7 rfl ?_
    exact xe_ireturn dX12_waitHere_8 rfl k

theorem CX12_waitHere {g : xGT} {d : Nat} {u : xU} {w : xW} {r : xQ} {P : xPost}
    (k : ((u 655 56) = 0 → P (some (.int (0 : Int32))) u w r) ∧ (¬ ((u 655 56) = 0) → xEv g (d + 1) mX12_waitHere 13 [some (.ref 655), some (.int (0 : Int32)), some (.int (0 : Int32))] [] 698 u w r 698 P)) :
    xCall g (d + 1) mX12_waitHere [.ref 655] 698 u w r 698 P :=
  xCall.of plX12 (Nat.le_of_ble_eq_true rfl) rfl (TX12_waitHere_0  k)

set_option maxRecDepth 20000 in
theorem TX12_waitHere_13 {g : xGT} {d : Nat} {i1 i2 : Int32} {u : xU} {w : xW} {r : xQ} {P : xPost} (hr : xRf r)
    (k : ((u 655 18) ≤ i2 → (0 ≤ (u 663 0) → ((u 663 0) ≤ (9 : Int32) → P (some (.int (u 663 0))) u w r) ∧ (¬ ((u 663 0) ≤ (9 : Int32)) → P (some (.int (9 : Int32))) u w r)) ∧ (¬ (0 ≤ (u 663 0)) → P (some (.int (0 : Int32))) u w r)) ∧ (¬ ((u 655 18) ≤ i2) → vp_in i2 320 ∧ ((((u 660 i2.toNatClampNeg) = 0 ∨ (u 660 i2.toNatClampNeg) = (1 : Int32)) → (¬ ((u 660 i2.toNatClampNeg) = 0) → vp_in (u 661 i2.toNatClampNeg) 4) ∧ (vp_in i1 64 ∧ (xEv g (d + 1) mX12_waitHere 155 [some (.ref 655), some (.int (i1 + (1 : Int32))), some (.int i2)] [] 698 (x2 u 663 i1.toNatClampNeg (if (u 660 i2.toNatClampNeg) = 0 then (u 661 i2.toNatClampNeg) else (u 664 (u 661 i2.toNatClampNeg).toNatClampNeg))) w r 698 P))) ∧ (¬ ((u 660 i2.toNatClampNeg) = 0 ∨ (u 660 i2.toNatClampNeg) = (1 : Int32)) → ((u 660 i2.toNatClampNeg) = (2 : Int32) → vp_in (i1 - (1 : Int32)) 64 ∧ (xCall g d mX12_truth [.int (xb ((u 663 (i1 - (1 : Int32)).toNatClampNeg) = 0))] 698 u w r 698 (fun rv24 u24 w24 r24 => ∃ v24 : Int32, rv24 = some (.int v24) ∧ u = u24 ∧ w = w24 ∧ r = r24 ∧ xEv g (d + 1) mX12_waitHere 155 [some (.ref 655), some (.int i1), some (.int i2)] [] 698 (x2 u 663 (i1 - (1 : Int32)).toNatClampNeg v24) w r 698 P))) ∧ (¬ ((u 660 i2.toNatClampNeg) = (2 : Int32)) → vp_in ((i1 + (-1 : Int32)) - (1 : Int32)) 64 ∧ (vp_in (i1 + (-1 : Int32)) 64 ∧ (xCall g d mX12_done [.int (u 661 i2.toNatClampNeg), .int (u 663 ((i1 + (-1 : Int32)) - (1 : Int32)).toNatClampNeg), .int (u 663 (i1 + (-1 : Int32)).toNatClampNeg)] 698 u w r 698 (fun rv28 u28 w28 r28 => ∃ v28 : Int32, rv28 = some (.int v28) ∧ u = u28 ∧ w = w28 ∧ r = r28 ∧ xEv g (d + 1) mX12_waitHere 155 [some (.ref 655), some (.int (i1 + (-1 : Int32))), some (.int i2)] [] 698 (x2 u 663 ((i1 + (-1 : Int32)) - (1 : Int32)).toNatClampNeg v28) w r 698 P)))))))) :
    xEv g (d + 1) mX12_waitHere 13 [some (.ref 655), some (.int i1), some (.int i2)] [] 698 u w r 698 P := by
  refine xe_iload_n dX12_waitHere_13 rfl ?_
  refine xe_aload_n dX12_waitHere_14 rfl ?_
  refine xe_getI dX12_waitHere_15 flX12_325 kk655 (xKK_lt kk655) rfl ?_
  refine xe_icmp_ge (tgt := 161) dX12_waitHere_18 rfl (fun c3 => ?_) (fun c4 => ?_)
  · have k := k.1 c3
    refine xe_aload_n dX12_waitHere_161 rfl ?_
    refine xe_getR (b := 663) dX12_waitHere_162 flX12_36 kk655 (xKK_lt kk655) rfl (rf655_16 hr) ?_
    refine xe_iconst (v := 0) dX12_waitHere_165 rfl ?_
    refine xe_iald dX12_waitHere_166 kk663 (xKK_lt kk663) (show ¬ ((0 : Int32) < 0 ∨ 64 ≤ (0 : Int32).toNatClampNeg) from by decide) ?_
    refine xe_if_ge (tgt := 174) dX12_waitHere_167 rfl (fun c5 => ?_) (fun c6 => ?_)
    · have k := k.1 c5
      refine xe_aload_n dX12_waitHere_174 rfl ?_
      refine xe_getR (b := 663) dX12_waitHere_175 flX12_36 kk655 (xKK_lt kk655) rfl (rf655_16 hr) ?_
      refine xe_iconst (v := 0) dX12_waitHere_178 rfl ?_
      refine xe_iald dX12_waitHere_179 kk663 (xKK_lt kk663) (show ¬ ((0 : Int32) < 0 ∨ 64 ≤ (0 : Int32).toNatClampNeg) from by decide) ?_
      refine xe_bipush (v := 9) dX12_waitHere_180 rfl ?_
      refine xe_icmp_le (tgt := 190) dX12_waitHere_182 rfl (fun c7 => ?_) (fun c8 => ?_)
      · have k := k.1 c7
        refine xe_aload_n dX12_waitHere_190 rfl ?_
        refine xe_getR (b := 663) dX12_waitHere_191 flX12_36 kk655 (xKK_lt kk655) rfl (rf655_16 hr) ?_
        refine xe_iconst (v := 0) dX12_waitHere_194 rfl ?_
        refine xe_iald dX12_waitHere_195 kk663 (xKK_lt kk663) (show ¬ ((0 : Int32) < 0 ∨ 64 ≤ (0 : Int32).toNatClampNeg) from by decide) ?_
        exact xe_ireturn dX12_waitHere_196 rfl k
      · have k := k.2 (fun q => (c8 q))
        refine xe_bipush (v := 9) dX12_waitHere_185 rfl ?_
        refine xe_goto (tgt := 196) dX12_waitHere_187 rfl ?_
        exact xe_ireturn dX12_waitHere_196 rfl k
    · have k := k.2 (fun q => (c6 q))
      refine xe_iconst (v := 0) dX12_waitHere_170 rfl ?_
      refine xe_goto (tgt := 196) dX12_waitHere_171 rfl ?_
      exact xe_ireturn dX12_waitHere_196 rfl k
  · have k := k.2 (fun q => (c4 q))
    refine xe_aload_n dX12_waitHere_21 rfl ?_
    refine xe_getR (b := 660) dX12_waitHere_22 flX12_27 kk655 (xKK_lt kk655) rfl (rf655_13 hr) ?_
    refine xe_iload_n dX12_waitHere_25 rfl ?_
    obtain ⟨b9, k⟩ := k
    refine xe_iald dX12_waitHere_26 kk660 (xKK_lt kk660) b9 ?_
    have K29 : ((u 660 i2.toNatClampNeg) = 0 ∨ (u 660 i2.toNatClampNeg) = (1 : Int32)) → xEv g (d + 1) mX12_waitHere 40 [some (.ref 655), some (.int i1), some (.int i2)] [] 698 u w r 698 P := fun c30 => by
      have k := k.1 c30
      refine xe_aload_n dX12_waitHere_40 rfl ?_
      refine xe_getR (b := 663) dX12_waitHere_41 flX12_36 kk655 (xKK_lt kk655) rfl (rf655_16 hr) ?_
      refine xe_iload_n dX12_waitHere_44 rfl ?_
      refine xe_aload_n dX12_waitHere_45 rfl ?_
      refine xe_getR (b := 660) dX12_waitHere_46 flX12_27 kk655 (xKK_lt kk655) rfl (rf655_13 hr) ?_
      refine xe_iload_n dX12_waitHere_49 rfl ?_
      refine xe_iald dX12_waitHere_50 kk660 (xKK_lt kk660) b9 ?_
      obtain ⟨b16, k⟩ := k
      have K18 : xEv g (d + 1) mX12_waitHere 74 [some (.ref 655), some (.int i1), some (.int i2)] [.int (if (u 660 i2.toNatClampNeg) = 0 then (u 661 i2.toNatClampNeg) else (u 664 (u 661 i2.toNatClampNeg).toNatClampNeg)), .int i1, .ref 663] 698 u w r 698 P := by
        obtain ⟨b17, k⟩ := k
        refine xe_iast dX12_waitHere_74 kk663 (xKK_lt kk663) b17 ?_
        refine xe_iinc (v := (i1 + (1 : Int32))) (ls' := [some (.ref 655), some (.int (i1 + (1 : Int32))), some (.int i2)]) dX12_waitHere_75 rfl (by decide) rfl rfl ?_
        refine xe_goto (tgt := 155) dX12_waitHere_78 rfl ?_
        exact k
      refine xe_if_ne (tgt := 63) dX12_waitHere_51 rfl (fun c14 => ?_) (fun c15 => ?_)
      · refine xe_aload_n dX12_waitHere_63 rfl ?_
        refine xe_getR (b := 664) dX12_waitHere_64 flX12_39 kk655 (xKK_lt kk655) rfl (rf655_24 hr) ?_
        refine xe_aload_n dX12_waitHere_67 rfl ?_
        refine xe_getR (b := 661) dX12_waitHere_68 flX12_30 kk655 (xKK_lt kk655) rfl (rf655_14 hr) ?_
        refine xe_iload_n dX12_waitHere_71 rfl ?_
        refine xe_iald dX12_waitHere_72 kk661 (xKK_lt kk661) b9 ?_
        refine xe_iald dX12_waitHere_73 kk664 (xKK_lt kk664) (b16 (fun q => (c14 q))) ?_
        exact xtop (if_neg (fun q => (c14 q))) K18
      · refine xe_aload_n dX12_waitHere_54 rfl ?_
        refine xe_getR (b := 661) dX12_waitHere_55 flX12_30 kk655 (xKK_lt kk655) rfl (rf655_14 hr) ?_
        refine xe_iload_n dX12_waitHere_58 rfl ?_
        refine xe_iald dX12_waitHere_59 kk661 (xKK_lt kk661) b9 ?_
        refine xe_goto (tgt := 74) dX12_waitHere_60 rfl ?_
        exact xtop (if_pos c15) K18
    refine xe_if_eq (tgt := 40) dX12_waitHere_27 rfl (fun c10 => ?_) (fun c11 => ?_)
    · exact K29 (Or.inl c10)
    · refine xe_aload_n dX12_waitHere_30 rfl ?_
      refine xe_getR (b := 660) dX12_waitHere_31 flX12_27 kk655 (xKK_lt kk655) rfl (rf655_13 hr) ?_
      refine xe_iload_n dX12_waitHere_34 rfl ?_
      refine xe_iald dX12_waitHere_35 kk660 (xKK_lt kk660) b9 ?_
      refine xe_iconst (v := 1) dX12_waitHere_36 rfl ?_
      refine xe_icmp_ne (tgt := 81) dX12_waitHere_37 rfl (fun c12 => ?_) (fun c13 => ?_)
      · have k := k.2 (fun q => (q.elim (fun z => (c11 z)) (fun z => (c12 z))))
        refine xe_aload_n dX12_waitHere_81 rfl ?_
        refine xe_getR (b := 660) dX12_waitHere_82 flX12_27 kk655 (xKK_lt kk655) rfl (rf655_13 hr) ?_
        refine xe_iload_n dX12_waitHere_85 rfl ?_
        refine xe_iald dX12_waitHere_86 kk660 (xKK_lt kk660) b9 ?_
        refine xe_iconst (v := 2) dX12_waitHere_87 rfl ?_
        refine xe_icmp_ne (tgt := 121) dX12_waitHere_88 rfl (fun c19 => ?_) (fun c20 => ?_)
        · have k := k.2 (fun q => (c19 q))
          refine xe_iinc (v := (i1 + (-1 : Int32))) (ls' := [some (.ref 655), some (.int (i1 + (-1 : Int32))), some (.int i2)]) dX12_waitHere_121 rfl (by decide) rfl rfl ?_
          refine xe_aload_n dX12_waitHere_124 rfl ?_
          refine xe_getR (b := 663) dX12_waitHere_125 flX12_36 kk655 (xKK_lt kk655) rfl (rf655_16 hr) ?_
          refine xe_iload_n dX12_waitHere_128 rfl ?_
          refine xe_iconst (v := 1) dX12_waitHere_129 rfl ?_
          refine xe_isub dX12_waitHere_130 ?_
          refine xe_aload_n dX12_waitHere_131 rfl ?_
          refine xe_getR (b := 661) dX12_waitHere_132 flX12_30 kk655 (xKK_lt kk655) rfl (rf655_14 hr) ?_
          refine xe_iload_n dX12_waitHere_135 rfl ?_
          refine xe_iald dX12_waitHere_136 kk661 (xKK_lt kk661) b9 ?_
          refine xe_aload_n dX12_waitHere_137 rfl ?_
          refine xe_getR (b := 663) dX12_waitHere_138 flX12_36 kk655 (xKK_lt kk655) rfl (rf655_16 hr) ?_
          refine xe_iload_n dX12_waitHere_141 rfl ?_
          refine xe_iconst (v := 1) dX12_waitHere_142 rfl ?_
          refine xe_isub dX12_waitHere_143 ?_
          obtain ⟨b26, k⟩ := k
          refine xe_iald dX12_waitHere_144 kk663 (xKK_lt kk663) b26 ?_
          refine xe_aload_n dX12_waitHere_145 rfl ?_
          refine xe_getR (b := 663) dX12_waitHere_146 flX12_36 kk655 (xKK_lt kk655) rfl (rf655_16 hr) ?_
          refine xe_iload_n dX12_waitHere_149 rfl ?_
          obtain ⟨b27, k⟩ := k
          refine xe_iald dX12_waitHere_150 kk663 (xKK_lt kk663) b27 ?_
          refine xe_callS (args := [.int (u 661 i2.toNatClampNeg), .int (u 663 ((i1 + (-1 : Int32)) - (1 : Int32)).toNatClampNeg), .int (u 663 (i1 + (-1 : Int32)).toNatClampNeg)]) dX12_waitHere_151 slX12_328 rfl rfl (Nat.le_of_ble_eq_true rfl) k (Nat.le_refl _) (fun rv28 u28 w28 r28 k => ?_)
          obtain ⟨v28, rfl, rfl, rfl, rfl, k⟩ := k
          refine xe_iast dX12_waitHere_154 kk663 (xKK_lt kk663) b26 ?_
          exact k
        · have k := k.1 c20
          refine xe_aload_n dX12_waitHere_91 rfl ?_
          refine xe_getR (b := 663) dX12_waitHere_92 flX12_36 kk655 (xKK_lt kk655) rfl (rf655_16 hr) ?_
          refine xe_iload_n dX12_waitHere_95 rfl ?_
          refine xe_iconst (v := 1) dX12_waitHere_96 rfl ?_
          refine xe_isub dX12_waitHere_97 ?_
          refine xe_aload_n dX12_waitHere_98 rfl ?_
          refine xe_getR (b := 663) dX12_waitHere_99 flX12_36 kk655 (xKK_lt kk655) rfl (rf655_16 hr) ?_
          refine xe_iload_n dX12_waitHere_102 rfl ?_
          refine xe_iconst (v := 1) dX12_waitHere_103 rfl ?_
          refine xe_isub dX12_waitHere_104 ?_
          obtain ⟨b21, k⟩ := k
          refine xe_iald dX12_waitHere_105 kk663 (xKK_lt kk663) b21 ?_
          have K25 : xEv g (d + 1) mX12_waitHere 114 [some (.ref 655), some (.int i1), some (.int i2)] [.int (xb ((u 663 (i1 - (1 : Int32)).toNatClampNeg) = 0)), .int (i1 - (1 : Int32)), .ref 663] 698 u w r 698 P := by
            refine xe_callS (args := [.int (xb ((u 663 (i1 - (1 : Int32)).toNatClampNeg) = 0))]) dX12_waitHere_114 slX12_317 rfl rfl (Nat.le_of_ble_eq_true rfl) k (Nat.le_refl _) (fun rv24 u24 w24 r24 k => ?_)
            obtain ⟨v24, rfl, rfl, rfl, rfl, k⟩ := k
            refine xe_iast dX12_waitHere_117 kk663 (xKK_lt kk663) b21 ?_
            refine xe_goto (tgt := 155) dX12_waitHere_118 rfl ?_
            exact k
          refine xe_if_ne (tgt := 113) dX12_waitHere_106 rfl (fun c22 => ?_) (fun c23 => ?_)
          · refine xe_iconst (v := 0) dX12_waitHere_113 rfl ?_
            exact xtop (xb_neg (show ¬ ((u 663 (i1 - (1 : Int32)).toNatClampNeg) = 0) from (fun q => (c22 q)))) K25
          · refine xe_iconst (v := 1) dX12_waitHere_109 rfl ?_
            refine xe_goto (tgt := 114) dX12_waitHere_110 rfl ?_
            exact xtop (xb_pos (show (u 663 (i1 - (1 : Int32)).toNatClampNeg) = 0 from c23)) K25
      · exact K29 (Or.inr c13)

theorem TX12_waitHere_155 {g : xGT} {d : Nat} {i1 i2 : Int32} {u : xU} {w : xW} {r : xQ} {P : xPost}
    (k : xEv g (d + 1) mX12_waitHere 13 [some (.ref 655), some (.int i1), some (.int (i2 + (1 : Int32)))] [] 698 u w r 698 P) :
    xEv g (d + 1) mX12_waitHere 155 [some (.ref 655), some (.int i1), some (.int i2)] [] 698 u w r 698 P := by
  refine xe_iinc (v := (i2 + (1 : Int32))) (ls' := [some (.ref 655), some (.int i1), some (.int (i2 + (1 : Int32)))]) dX12_waitHere_155 rfl (by decide) rfl rfl ?_
  refine xe_goto (tgt := 13) dX12_waitHere_158 rfl ?_
  exact k

/-! FuneralPostModel.readVillage -/

theorem TX12_readVillage_0 {g : xGT} {d : Nat} {u : xU} {w : xW} {r : xQ} {P : xPost}
    (k : xCall g d mX12_newName [.ref 655, .int (0 : Int32), .int (u 655 43)] 698 u w r 698 (fun rv1 u1 w1 r1 => rv1 = none ∧ r = r1 ∧ ((u1 655 2) = 0 → P none (x2 u1 655 43 ((u1 655 43) + (1 : Int32))) w1 r) ∧ (¬ ((u1 655 2) = 0) → P none u1 w1 r))) :
    xEv g (d + 1) mX12_readVillage 0 [some (.ref 655)] [] 698 u w r 698 P := by
  refine xe_aload_n dX12_readVillage_0 rfl ?_
  refine xe_iconst (v := 0) dX12_readVillage_1 rfl ?_
  refine xe_aload_n dX12_readVillage_2 rfl ?_
  refine xe_getI dX12_readVillage_3 flX12_258 kk655 (xKK_lt kk655) rfl ?_
  refine xe_callV (args := [.int (0 : Int32), .int (u 655 43)]) dX12_readVillage_6 vlX12_332 rfl rfl (Nat.le_of_ble_eq_true rfl) kk655 (xKK_lt kk655) rfl rfl k (Nat.le_refl _) (fun rv1 u1 w1 r1 k => ?_)
  obtain ⟨rfl, rfl, k⟩ := k
  refine xe_aload_n dX12_readVillage_9 rfl ?_
  refine xe_getI dX12_readVillage_10 flX12_185 kk655 (xKK_lt kk655) rfl ?_
  refine xe_if_ne (tgt := 26) dX12_readVillage_13 rfl (fun c2 => ?_) (fun c3 => ?_)
  · have k := k.2 (fun q => (c2 q))
    exact xe_return dX12_readVillage_26 trivial k
  · have k := k.1 c3
    refine xe_aload_n dX12_readVillage_16 rfl ?_
    refine xe_dup dX12_readVillage_17 rfl ?_
    refine xe_getI dX12_readVillage_18 flX12_258 kk655 (xKK_lt kk655) rfl ?_
    refine xe_iconst (v := 1) dX12_readVillage_21 rfl ?_
    refine xe_iadd dX12_readVillage_22 ?_
    refine xe_putI dX12_readVillage_23 flX12_258 kk655 (xKK_lt kk655) nf12_43 rfl ?_
    exact xe_return dX12_readVillage_26 trivial k

theorem CX12_readVillage {g : xGT} {d : Nat} {u : xU} {w : xW} {r : xQ} {P : xPost}
    (k : xCall g d mX12_newName [.ref 655, .int (0 : Int32), .int (u 655 43)] 698 u w r 698 (fun rv1 u1 w1 r1 => rv1 = none ∧ r = r1 ∧ ((u1 655 2) = 0 → P none (x2 u1 655 43 ((u1 655 43) + (1 : Int32))) w1 r) ∧ (¬ ((u1 655 2) = 0) → P none u1 w1 r))) :
    xCall g (d + 1) mX12_readVillage [.ref 655] 698 u w r 698 P :=
  xCall.of plX12 (Nat.le_of_ble_eq_true rfl) rfl (TX12_readVillage_0  k)

/-! FuneralPostModel.isWayTold -/

theorem TX12_isWayTold_0 {g : xGT} {d : Nat} {i1 i2 : Int32} {u : xU} {w : xW} {r : xQ} {P : xPost}
    (k : xEv g d mX12_isWayTold 5 [some (.ref 655), some (.int i1), some (.int i2), some (.int (0 : Int32)), some (.int (0 : Int32))] [] 698 u w r 698 P) :
    xEv g d mX12_isWayTold 0 [some (.ref 655), some (.int i1), some (.int i2), none, none] [] 698 u w r 698 P := by
  refine xe_iconst (v := 0) dX12_isWayTold_0 rfl ?_
  refine xe_istore_n (ls' := [some (.ref 655), some (.int i1), some (.int i2), some (.int (0 : Int32)), none]) dX12_isWayTold_1 rfl (by decide) rfl ?_
  refine xe_iconst (v := 0) dX12_isWayTold_2 rfl ?_
  refine xe_istore (ls' := [some (.ref 655), some (.int i1), some (.int i2), some (.int (0 : Int32)), some (.int (0 : Int32))]) dX12_isWayTold_3 (by decide) rfl ?_
  exact k

theorem CX12_isWayTold {g : xGT} {d : Nat} {i1 i2 : Int32} {u : xU} {w : xW} {r : xQ} {P : xPost}
    (k : xEv g d mX12_isWayTold 5 [some (.ref 655), some (.int i1), some (.int i2), some (.int (0 : Int32)), some (.int (0 : Int32))] [] 698 u w r 698 P) :
    xCall g d mX12_isWayTold [.ref 655, .int i1, .int i2] 698 u w r 698 P :=
  xCall.of plX12 (Nat.le_of_ble_eq_true rfl) rfl (TX12_isWayTold_0  k)

theorem TX12_isWayTold_5 {g : xGT} {d : Nat} {i1 i2 i3 i4 : Int32} {u : xU} {w : xW} {r : xQ} {P : xPost} (hr : xRf r)
    (k : ((u 655 44) ≤ i4 → (i3 = 0 ∨ i3 = 1) ∧ (P (some (.int i3)) u w r)) ∧ (¬ ((u 655 44) ≤ i4) → (i3 = 0 → vp_in i4 12 ∧ (((¬ ((u 665 i4.toNatClampNeg) = i1) ∨ ¬ ((u 666 i4.toNatClampNeg) = i2)) → (((u 665 i4.toNatClampNeg) = i2 ∧ (u 666 i4.toNatClampNeg) = i1) → xEv g d mX12_isWayTold 62 [some (.ref 655), some (.int i1), some (.int i2), none, some (.int i4)] [] 698 u w r 698 P) ∧ (¬ ((u 665 i4.toNatClampNeg) = i2 ∧ (u 666 i4.toNatClampNeg) = i1) → xEv g d mX12_isWayTold 67 [some (.ref 655), some (.int i1), some (.int i2), none, some (.int i4)] [.int (0 : Int32)] 698 u w r 698 P)) ∧ (¬ (¬ ((u 665 i4.toNatClampNeg) = i1) ∨ ¬ ((u 666 i4.toNatClampNeg) = i2)) → xEv g d mX12_isWayTold 62 [some (.ref 655), some (.int i1), some (.int i2), none, some (.int i4)] [] 698 u w r 698 P))) ∧ (¬ (i3 = 0) → xEv g d mX12_isWayTold 62 [some (.ref 655), some (.int i1), some (.int i2), none, some (.int i4)] [] 698 u w r 698 P))) :
    xEv g d mX12_isWayTold 5 [some (.ref 655), some (.int i1), some (.int i2), some (.int i3), some (.int i4)] [] 698 u w r 698 P := by
  refine xe_iload dX12_isWayTold_5 rfl ?_
  refine xe_aload_n dX12_isWayTold_7 rfl ?_
  refine xe_getI dX12_isWayTold_8 flX12_335 kk655 (xKK_lt kk655) rfl ?_
  refine xe_icmp_ge (tgt := 74) dX12_isWayTold_11 rfl (fun c1 => ?_) (fun c2 => ?_)
  · have k := k.1 c1
    refine xe_iload_n dX12_isWayTold_74 rfl ?_
    obtain ⟨z3, k⟩ := k
    exact xe_ireturn dX12_isWayTold_75 (xrokZ z3) k
  · have k := k.2 (fun q => (c2 q))
    refine xe_iload_n dX12_isWayTold_14 rfl ?_
    refine xe_if_ne (tgt := 62) dX12_isWayTold_15 rfl (fun c4 => ?_) (fun c5 => ?_)
    · have k := k.2 (fun q => (c4 q))
      exact xEv.fewer (ls' := [some (.ref 655), some (.int i1), some (.int i2), none, some (.int i4)]) k (xfw_get (xfw_s (xfw_s (xfw_s (xfw_n (xfw_s (xfw_nil _)))))))
    · have k := k.1 c5
      refine xe_aload_n dX12_isWayTold_18 rfl ?_
      refine xe_getR (b := 665) dX12_isWayTold_19 flX12_42 kk655 (xKK_lt kk655) rfl (rf655_25 hr) ?_
      refine xe_iload dX12_isWayTold_22 rfl ?_
      obtain ⟨b6, k⟩ := k
      refine xe_iald dX12_isWayTold_24 kk665 (xKK_lt kk665) b6 ?_
      refine xe_iload_n dX12_isWayTold_25 rfl ?_
      have K17 : (¬ ((u 665 i4.toNatClampNeg) = i1) ∨ ¬ ((u 666 i4.toNatClampNeg) = i2)) → xEv g d mX12_isWayTold 40 [some (.ref 655), some (.int i1), some (.int i2), some (.int i3), some (.int i4)] [] 698 u w r 698 P := fun c18 => by
        have k := k.1 c18
        refine xe_aload_n dX12_isWayTold_40 rfl ?_
        refine xe_getR (b := 665) dX12_isWayTold_41 flX12_42 kk655 (xKK_lt kk655) rfl (rf655_25 hr) ?_
        refine xe_iload dX12_isWayTold_44 rfl ?_
        refine xe_iald dX12_isWayTold_46 kk665 (xKK_lt kk665) b6 ?_
        refine xe_iload_n dX12_isWayTold_47 rfl ?_
        have K15 : ¬ ((u 665 i4.toNatClampNeg) = i2 ∧ (u 666 i4.toNatClampNeg) = i1) → xEv g d mX12_isWayTold 66 [some (.ref 655), some (.int i1), some (.int i2), some (.int i3), some (.int i4)] [] 698 u w r 698 P := fun c16 => by
          have k := k.2 c16
          refine xe_iconst (v := 0) dX12_isWayTold_66 rfl ?_
          exact xEv.fewer (ls' := [some (.ref 655), some (.int i1), some (.int i2), none, some (.int i4)]) k (xfw_get (xfw_s (xfw_s (xfw_s (xfw_n (xfw_s (xfw_nil _)))))))
        refine xe_icmp_ne (tgt := 66) dX12_isWayTold_48 rfl (fun c11 => ?_) (fun c12 => ?_)
        · exact K15 (fun q => (c11 q.1))
        · refine xe_aload_n dX12_isWayTold_51 rfl ?_
          refine xe_getR (b := 666) dX12_isWayTold_52 flX12_45 kk655 (xKK_lt kk655) rfl (rf655_26 hr) ?_
          refine xe_iload dX12_isWayTold_55 rfl ?_
          refine xe_iald dX12_isWayTold_57 kk666 (xKK_lt kk666) b6 ?_
          refine xe_iload_n dX12_isWayTold_58 rfl ?_
          refine xe_icmp_ne (tgt := 66) dX12_isWayTold_59 rfl (fun c13 => ?_) (fun c14 => ?_)
          · exact K15 (fun q => (c13 q.2))
          · have k := k.1 ⟨c12, c14⟩
            exact xEv.fewer (ls' := [some (.ref 655), some (.int i1), some (.int i2), none, some (.int i4)]) k (xfw_get (xfw_s (xfw_s (xfw_s (xfw_n (xfw_s (xfw_nil _)))))))
      refine xe_icmp_ne (tgt := 40) dX12_isWayTold_26 rfl (fun c7 => ?_) (fun c8 => ?_)
      · exact K17 (Or.inl c7)
      · refine xe_aload_n dX12_isWayTold_29 rfl ?_
        refine xe_getR (b := 666) dX12_isWayTold_30 flX12_45 kk655 (xKK_lt kk655) rfl (rf655_26 hr) ?_
        refine xe_iload dX12_isWayTold_33 rfl ?_
        refine xe_iald dX12_isWayTold_35 kk666 (xKK_lt kk666) b6 ?_
        refine xe_iload_n dX12_isWayTold_36 rfl ?_
        refine xe_icmp_eq (tgt := 62) dX12_isWayTold_37 rfl (fun c9 => ?_) (fun c10 => ?_)
        · have k := k.2 (fun q => (q.elim (fun z => (z c8)) (fun z => (z c9))))
          exact xEv.fewer (ls' := [some (.ref 655), some (.int i1), some (.int i2), none, some (.int i4)]) k (xfw_get (xfw_s (xfw_s (xfw_s (xfw_n (xfw_s (xfw_nil _)))))))
        · exact K17 (Or.inr c10)

theorem TX12_isWayTold_62 {g : xGT} {d : Nat} {i1 i2 i4 : Int32} {u : xU} {w : xW} {r : xQ} {P : xPost}
    (k : xEv g d mX12_isWayTold 67 [some (.ref 655), some (.int i1), some (.int i2), none, some (.int i4)] [.int (1 : Int32)] 698 u w r 698 P) :
    xEv g d mX12_isWayTold 62 [some (.ref 655), some (.int i1), some (.int i2), none, some (.int i4)] [] 698 u w r 698 P := by
  refine xe_iconst (v := 1) dX12_isWayTold_62 rfl ?_
  refine xe_goto (tgt := 67) dX12_isWayTold_63 rfl ?_
  exact k

theorem TX12_isWayTold_67 {g : xGT} {d : Nat} {i1 i2 i4 z0 : Int32} {u : xU} {w : xW} {r : xQ} {P : xPost}
    (k : xEv g d mX12_isWayTold 5 [some (.ref 655), some (.int i1), some (.int i2), some (.int z0), some (.int (i4 + (1 : Int32)))] [] 698 u w r 698 P) :
    xEv g d mX12_isWayTold 67 [some (.ref 655), some (.int i1), some (.int i2), none, some (.int i4)] [.int z0] 698 u w r 698 P := by
  refine xe_istore_n (ls' := [some (.ref 655), some (.int i1), some (.int i2), some (.int z0), some (.int i4)]) dX12_isWayTold_67 rfl (by decide) rfl ?_
  refine xe_iinc (v := (i4 + (1 : Int32))) (ls' := [some (.ref 655), some (.int i1), some (.int i2), some (.int z0), some (.int (i4 + (1 : Int32)))]) dX12_isWayTold_68 rfl (by decide) rfl rfl ?_
  refine xe_goto (tgt := 5) dX12_isWayTold_71 rfl ?_
  exact k

/-! FuneralPostModel.readWay -/

theorem TX12_readWay_0 {g : xGT} {d : Nat} {u : xU} {w : xW} {r : xQ} {P : xPost}
    (k : xCall g d mX12_token [.ref 655] 698 u w r 698 (fun rv1 u1 w1 r1 => rv1 = none ∧ r = r1 ∧ xCall g d mX12_oldVillage [.ref 655] 698 u1 w1 r 698 (fun rv2 u2 w2 r2 => ∃ v2 : Int32, rv2 = some (.int v2) ∧ w1 = w2 ∧ r = r2 ∧ ((u2 655 2) = 0 → xCall g d mX12_token [.ref 655] 698 u2 w1 r 698 (fun rv5 u5 w5 r5 => rv5 = none ∧ r = r5 ∧ xEv g (d + 1) mX12_readWay 20 [some (.ref 655), some (.int v2), none] [] 698 u5 w5 r 698 P)) ∧ (¬ ((u2 655 2) = 0) → xEv g (d + 1) mX12_readWay 20 [some (.ref 655), some (.int v2), none] [] 698 u2 w1 r 698 P)))) :
    xEv g (d + 1) mX12_readWay 0 [some (.ref 655), none, none] [] 698 u w r 698 P := by
  refine xe_aload_n dX12_readWay_0 rfl ?_
  refine xe_callV (args := []) dX12_readWay_1 vlX12_237 rfl rfl (Nat.le_of_ble_eq_true rfl) kk655 (xKK_lt kk655) rfl rfl k (Nat.le_refl _) (fun rv1 u1 w1 r1 k => ?_)
  obtain ⟨rfl, rfl, k⟩ := k
  refine xe_aload_n dX12_readWay_4 rfl ?_
  refine xe_callV (args := []) dX12_readWay_5 vlX12_261 rfl rfl (Nat.le_of_ble_eq_true rfl) kk655 (xKK_lt kk655) rfl rfl k (Nat.le_refl _) (fun rv2 u2 w2 r2 k => ?_)
  obtain ⟨v2, rfl, rfl, rfl, k⟩ := k
  refine xe_istore_n (ls' := [some (.ref 655), some (.int v2), none]) dX12_readWay_8 rfl (by decide) rfl ?_
  refine xe_aload_n dX12_readWay_9 rfl ?_
  refine xe_getI dX12_readWay_10 flX12_185 kk655 (xKK_lt kk655) rfl ?_
  refine xe_if_ne (tgt := 20) dX12_readWay_13 rfl (fun c3 => ?_) (fun c4 => ?_)
  · have k := k.2 (fun q => (c3 q))
    exact k
  · have k := k.1 c4
    refine xe_aload_n dX12_readWay_16 rfl ?_
    refine xe_callV (args := []) dX12_readWay_17 vlX12_237 rfl rfl (Nat.le_of_ble_eq_true rfl) kk655 (xKK_lt kk655) rfl rfl k (Nat.le_refl _) (fun rv5 u5 w5 r5 k => ?_)
    obtain ⟨rfl, rfl, k⟩ := k
    exact k

theorem CX12_readWay {g : xGT} {d : Nat} {u : xU} {w : xW} {r : xQ} {P : xPost}
    (k : xCall g d mX12_token [.ref 655] 698 u w r 698 (fun rv1 u1 w1 r1 => rv1 = none ∧ r = r1 ∧ xCall g d mX12_oldVillage [.ref 655] 698 u1 w1 r 698 (fun rv2 u2 w2 r2 => ∃ v2 : Int32, rv2 = some (.int v2) ∧ w1 = w2 ∧ r = r2 ∧ ((u2 655 2) = 0 → xCall g d mX12_token [.ref 655] 698 u2 w1 r 698 (fun rv5 u5 w5 r5 => rv5 = none ∧ r = r5 ∧ xEv g (d + 1) mX12_readWay 20 [some (.ref 655), some (.int v2), none] [] 698 u5 w5 r 698 P)) ∧ (¬ ((u2 655 2) = 0) → xEv g (d + 1) mX12_readWay 20 [some (.ref 655), some (.int v2), none] [] 698 u2 w1 r 698 P)))) :
    xCall g (d + 1) mX12_readWay [.ref 655] 698 u w r 698 P :=
  xCall.of plX12 (Nat.le_of_ble_eq_true rfl) rfl (TX12_readWay_0  k)

theorem TX12_readWay_20 {g : xGT} {d : Nat} {i1 : Int32} {u : xU} {w : xW} {r : xQ} {P : xPost}
    (k : xCall g d mX12_oldVillage [.ref 655] 698 u w r 698 (fun rv6 u6 w6 r6 => ∃ v6 : Int32, rv6 = some (.int v6) ∧ w = w6 ∧ r = r6 ∧ ((u6 655 2) = 0 → (i1 = v6 → xEv g (d + 1) mX12_readWay 46 [some (.ref 655), some (.int i1), some (.int v6)] [] 698 u6 w r 698 P) ∧ (¬ (i1 = v6) → xCall g d mX12_isWayTold [.ref 655, .int i1, .int v6] 698 u6 w r 698 (fun rv11 u11 w11 r11 => ∃ v11 : Int32, rv11 = some (.int v11) ∧ u6 = u11 ∧ w = w11 ∧ r = r11 ∧ (v11 = 0 → xEv g (d + 1) mX12_readWay 51 [some (.ref 655), some (.int i1), some (.int v6)] [] 698 u6 w r 698 P) ∧ (¬ (v11 = 0) → xEv g (d + 1) mX12_readWay 46 [some (.ref 655), some (.int i1), some (.int v6)] [] 698 u6 w r 698 P)))) ∧ (¬ ((u6 655 2) = 0) → xEv g (d + 1) mX12_readWay 51 [some (.ref 655), some (.int i1), some (.int v6)] [] 698 u6 w r 698 P))) :
    xEv g (d + 1) mX12_readWay 20 [some (.ref 655), some (.int i1), none] [] 698 u w r 698 P := by
  refine xe_aload_n dX12_readWay_20 rfl ?_
  refine xe_callV (args := []) dX12_readWay_21 vlX12_261 rfl rfl (Nat.le_of_ble_eq_true rfl) kk655 (xKK_lt kk655) rfl rfl k (Nat.le_refl _) (fun rv6 u6 w6 r6 k => ?_)
  obtain ⟨v6, rfl, rfl, rfl, k⟩ := k
  refine xe_istore_n (ls' := [some (.ref 655), some (.int i1), some (.int v6)]) dX12_readWay_24 rfl (by decide) rfl ?_
  refine xe_aload_n dX12_readWay_25 rfl ?_
  refine xe_getI dX12_readWay_26 flX12_185 kk655 (xKK_lt kk655) rfl ?_
  refine xe_if_ne (tgt := 51) dX12_readWay_29 rfl (fun c7 => ?_) (fun c8 => ?_)
  · have k := k.2 (fun q => (c7 q))
    exact k
  · have k := k.1 c8
    refine xe_iload_n dX12_readWay_32 rfl ?_
    refine xe_iload_n dX12_readWay_33 rfl ?_
    refine xe_icmp_eq (tgt := 46) dX12_readWay_34 rfl (fun c9 => ?_) (fun c10 => ?_)
    · have k := k.1 c9
      exact k
    · have k := k.2 (fun q => (c10 q))
      refine xe_aload_n dX12_readWay_37 rfl ?_
      refine xe_iload_n dX12_readWay_38 rfl ?_
      refine xe_iload_n dX12_readWay_39 rfl ?_
      refine xe_callV (args := [.int i1, .int v6]) dX12_readWay_40 vlX12_338 rfl rfl (Nat.le_of_ble_eq_true rfl) kk655 (xKK_lt kk655) rfl rfl k (Nat.le_refl _) (fun rv11 u11 w11 r11 k => ?_)
      obtain ⟨v11, rfl, rfl, rfl, rfl, k⟩ := k
      refine xe_if_eq (tgt := 51) dX12_readWay_43 rfl (fun c12 => ?_) (fun c13 => ?_)
      · have k := k.1 c12
        exact k
      · have k := k.2 (fun q => (c13 q))
        exact k

theorem TX12_readWay_46 {g : xGT} {d : Nat} {i1 i2 : Int32} {u : xU} {w : xW} {r : xQ} {P : xPost}
    (k : xCall g d mX12_wrong [.ref 655, .int (3 : Int32)] 698 u w r 698 (fun rv14 u14 w14 r14 => rv14 = none ∧ w = w14 ∧ r = r14 ∧ xEv g (d + 1) mX12_readWay 51 [some (.ref 655), some (.int i1), some (.int i2)] [] 698 u14 w r 698 P)) :
    xEv g (d + 1) mX12_readWay 46 [some (.ref 655), some (.int i1), some (.int i2)] [] 698 u w r 698 P := by
  refine xe_aload_n dX12_readWay_46 rfl ?_
  refine xe_iconst (v := 3) dX12_readWay_47 rfl ?_
  refine xe_callV (args := [.int (3 : Int32)]) dX12_readWay_48 vlX12_234 rfl rfl (Nat.le_of_ble_eq_true rfl) kk655 (xKK_lt kk655) rfl rfl k (Nat.le_refl _) (fun rv14 u14 w14 r14 k => ?_)
  obtain ⟨rfl, rfl, rfl, k⟩ := k
  exact k

theorem TX12_readWay_51 {g : xGT} {d : Nat} {i1 i2 : Int32} {u : xU} {w : xW} {r : xQ} {P : xPost}
    (k : ((u 655 2) = 0 → xCall g d mX12_token [.ref 655] 698 u w r 698 (fun rv17 u17 w17 r17 => rv17 = none ∧ r = r17 ∧ xEv g (d + 1) mX12_readWay 62 [some (.ref 655), some (.int i1), some (.int i2)] [] 698 u17 w17 r 698 P)) ∧ (¬ ((u 655 2) = 0) → xEv g (d + 1) mX12_readWay 62 [some (.ref 655), some (.int i1), some (.int i2)] [] 698 u w r 698 P)) :
    xEv g (d + 1) mX12_readWay 51 [some (.ref 655), some (.int i1), some (.int i2)] [] 698 u w r 698 P := by
  refine xe_aload_n dX12_readWay_51 rfl ?_
  refine xe_getI dX12_readWay_52 flX12_185 kk655 (xKK_lt kk655) rfl ?_
  refine xe_if_ne (tgt := 62) dX12_readWay_55 rfl (fun c15 => ?_) (fun c16 => ?_)
  · have k := k.2 (fun q => (c15 q))
    exact k
  · have k := k.1 c16
    refine xe_aload_n dX12_readWay_58 rfl ?_
    refine xe_callV (args := []) dX12_readWay_59 vlX12_237 rfl rfl (Nat.le_of_ble_eq_true rfl) kk655 (xKK_lt kk655) rfl rfl k (Nat.le_refl _) (fun rv17 u17 w17 r17 k => ?_)
    obtain ⟨rfl, rfl, k⟩ := k
    exact k

theorem TX12_readWay_62 {g : xGT} {d : Nat} {i1 i2 : Int32} {u : xU} {w : xW} {r : xQ} {P : xPost} (hr : xRf r)
    (k : xCall g d mX12_toldNumber [.ref 655, .int (1 : Int32), .int (9 : Int32)] 698 u w r 698 (fun rv18 u18 w18 r18 => ∃ v18 : Int32, rv18 = some (.int v18) ∧ r = r18 ∧ vp_in (u 655 44) 12 ∧ (((u18 655 2) ≤ 0 → vp_in (u18 655 44) 12 ∧ (P none (x2 (x2 (x2 (x2 u18 667 (u 655 44).toNatClampNeg v18) 665 (u18 655 44).toNatClampNeg i1) 666 (u18 655 44).toNatClampNeg i2) 655 44 ((u18 655 44) + (1 : Int32))) w18 r)) ∧ (¬ ((u18 655 2) ≤ 0) → P none (x2 u18 667 (u 655 44).toNatClampNeg v18) w18 r)))) :
    xEv g (d + 1) mX12_readWay 62 [some (.ref 655), some (.int i1), some (.int i2)] [] 698 u w r 698 P := by
  refine xe_aload_n dX12_readWay_62 rfl ?_
  refine xe_getR (b := 667) dX12_readWay_63 flX12_48 kk655 (xKK_lt kk655) rfl (rf655_27 hr) ?_
  refine xe_aload_n dX12_readWay_66 rfl ?_
  refine xe_getI dX12_readWay_67 flX12_335 kk655 (xKK_lt kk655) rfl ?_
  refine xe_aload_n dX12_readWay_70 rfl ?_
  refine xe_iconst (v := 1) dX12_readWay_71 rfl ?_
  refine xe_bipush (v := 9) dX12_readWay_72 rfl ?_
  refine xe_callV (args := [.int (1 : Int32), .int (9 : Int32)]) dX12_readWay_74 vlX12_244 rfl rfl (Nat.le_of_ble_eq_true rfl) kk655 (xKK_lt kk655) rfl rfl k (Nat.le_refl _) (fun rv18 u18 w18 r18 k => ?_)
  obtain ⟨v18, rfl, rfl, k⟩ := k
  obtain ⟨b19, k⟩ := k
  refine xe_iast dX12_readWay_77 kk667 (xKK_lt kk667) b19 ?_
  refine xe_aload_n dX12_readWay_78 rfl ?_
  refine xe_getI dX12_readWay_79 flX12_185 kk655 (xKK_lt kk655) rfl ?_
  refine xe_if_le (tgt := 86) dX12_readWay_82 rfl (fun c20 => ?_) (fun c21 => ?_)
  · have k := k.1 c20
    refine xe_aload_n dX12_readWay_86 rfl ?_
    refine xe_getR (b := 665) dX12_readWay_87 flX12_42 kk655 (xKK_lt kk655) rfl (rf655_25 hr) ?_
    refine xe_aload_n dX12_readWay_90 rfl ?_
    refine xe_getI dX12_readWay_91 flX12_335 kk655 (xKK_lt kk655) rfl ?_
    refine xe_iload_n dX12_readWay_94 rfl ?_
    obtain ⟨b22, k⟩ := k
    refine xe_iast dX12_readWay_95 kk665 (xKK_lt kk665) b22 ?_
    refine xe_aload_n dX12_readWay_96 rfl ?_
    refine xe_getR (b := 666) dX12_readWay_97 flX12_45 kk655 (xKK_lt kk655) rfl (rf655_26 hr) ?_
    refine xe_aload_n dX12_readWay_100 rfl ?_
    refine xe_getI dX12_readWay_101 flX12_335 kk655 (xKK_lt kk655) rfl ?_
    refine xe_iload_n dX12_readWay_104 rfl ?_
    refine xe_iast dX12_readWay_105 kk666 (xKK_lt kk666) b22 ?_
    refine xe_aload_n dX12_readWay_106 rfl ?_
    refine xe_dup dX12_readWay_107 rfl ?_
    refine xe_getI dX12_readWay_108 flX12_335 kk655 (xKK_lt kk655) rfl ?_
    refine xe_iconst (v := 1) dX12_readWay_111 rfl ?_
    refine xe_iadd dX12_readWay_112 ?_
    refine xe_putI dX12_readWay_113 flX12_335 kk655 (xKK_lt kk655) nf12_44 rfl ?_
    exact xe_return dX12_readWay_116 trivial k
  · have k := k.2 (fun q => (c21 q))
    exact xe_return dX12_readWay_85 trivial k

/-! FuneralPostModel.readBier -/

theorem TX12_readBier_0 {g : xGT} {d : Nat} {u : xU} {w : xW} {r : xQ} {P : xPost} (hr : xRf r)
    (k : xCall g d mX12_newName [.ref 655, .int (7 : Int32), .int (u 655 45)] 698 u w r 698 (fun rv1 u1 w1 r1 => rv1 = none ∧ r = r1 ∧ xCall g d mX12_villageBy [.ref 655, .long (1718775661 : Int64)] 698 u1 w1 r 698 (fun rv2 u2 w2 r2 => ∃ v2 : Int32, rv2 = some (.int v2) ∧ r = r2 ∧ vp_in (u1 655 45) 6 ∧ (xCall g d mX12_goalBut [.ref 655, .int ((x2 u2 671 (u1 655 45).toNatClampNeg v2) 671 (u1 655 45).toNatClampNeg)] 698 (x2 u2 671 (u1 655 45).toNatClampNeg v2) w2 r 698 (fun rv4 u4 w4 r4 => ∃ v4 : Int32, rv4 = some (.int v4) ∧ r = r4 ∧ xCall g d mX12_told [.ref 655, .long (28526 : Int64), .int (0 : Int32), .int (60 : Int32)] 698 (x2 u4 672 (u1 655 45).toNatClampNeg v4) w4 r 698 (fun rv5 u5 w5 r5 => ∃ v5 : Int32, rv5 = some (.int v5) ∧ r = r5 ∧ xCall g d mX12_option [.ref 655, .long (448545973363 : Int64), .int (1 : Int32), .int (9 : Int32), .int (2 : Int32)] 698 (x2 u5 673 (u1 655 45).toNatClampNeg v5) w5 r 698 (fun rv6 u6 w6 r6 => ∃ v6 : Int32, rv6 = some (.int v6) ∧ r = r6 ∧ ((u6 655 2) = 0 → P none (x2 (x2 u6 674 (u1 655 45).toNatClampNeg v6) 655 45 ((u6 655 45) + (1 : Int32))) w6 r) ∧ (¬ ((u6 655 2) = 0) → P none (x2 u6 674 (u1 655 45).toNatClampNeg v6) w6 r)))))))) :
    xEv g (d + 1) mX12_readBier 0 [some (.ref 655), none] [] 698 u w r 698 P := by
  refine xe_aload_n dX12_readBier_0 rfl ?_
  refine xe_bipush (v := 7) dX12_readBier_1 rfl ?_
  refine xe_aload_n dX12_readBier_3 rfl ?_
  refine xe_getI dX12_readBier_4 flX12_342 kk655 (xKK_lt kk655) rfl ?_
  refine xe_callV (args := [.int (7 : Int32), .int (u 655 45)]) dX12_readBier_7 vlX12_332 rfl rfl (Nat.le_of_ble_eq_true rfl) kk655 (xKK_lt kk655) rfl rfl k (Nat.le_refl _) (fun rv1 u1 w1 r1 k => ?_)
  obtain ⟨rfl, rfl, k⟩ := k
  refine xe_aload_n dX12_readBier_10 rfl ?_
  refine xe_getI dX12_readBier_11 flX12_342 kk655 (xKK_lt kk655) rfl ?_
  refine xe_istore_n (ls' := [some (.ref 655), some (.int (u1 655 45))]) dX12_readBier_14 rfl (by decide) rfl ?_
  refine xe_aload_n dX12_readBier_15 rfl ?_
  refine xe_getR (b := 671) dX12_readBier_16 flX12_60 kk655 (xKK_lt kk655) rfl (rf655_31 hr) ?_
  refine xe_iload_n dX12_readBier_19 rfl ?_
  refine xe_aload_n dX12_readBier_20 rfl ?_
  refine xe_ldc2 (v := 1718775661) dX12_readBier_21 (xT_at 1657 (by decide +kernel) (by decide +kernel)) ?_
  refine xe_callV (args := [.long (1718775661 : Int64)]) dX12_readBier_24 vlX12_345 rfl rfl (Nat.le_of_ble_eq_true rfl) kk655 (xKK_lt kk655) rfl rfl k (Nat.le_refl _) (fun rv2 u2 w2 r2 k => ?_)
  obtain ⟨v2, rfl, rfl, k⟩ := k
  obtain ⟨b3, k⟩ := k
  refine xe_iast dX12_readBier_27 kk671 (xKK_lt kk671) b3 ?_
  refine xe_aload_n dX12_readBier_28 rfl ?_
  refine xe_getR (b := 672) dX12_readBier_29 flX12_63 kk655 (xKK_lt kk655) rfl (rf655_32 hr) ?_
  refine xe_iload_n dX12_readBier_32 rfl ?_
  refine xe_aload_n dX12_readBier_33 rfl ?_
  refine xe_aload_n dX12_readBier_34 rfl ?_
  refine xe_getR (b := 671) dX12_readBier_35 flX12_60 kk655 (xKK_lt kk655) rfl (rf655_31 hr) ?_
  refine xe_iload_n dX12_readBier_38 rfl ?_
  refine xe_iald dX12_readBier_39 kk671 (xKK_lt kk671) b3 ?_
  refine xe_callV (args := [.int ((x2 u2 671 (u1 655 45).toNatClampNeg v2) 671 (u1 655 45).toNatClampNeg)]) dX12_readBier_40 vlX12_349 rfl rfl (Nat.le_of_ble_eq_true rfl) kk655 (xKK_lt kk655) rfl rfl k (Nat.le_refl _) (fun rv4 u4 w4 r4 k => ?_)
  obtain ⟨v4, rfl, rfl, k⟩ := k
  refine xe_iast dX12_readBier_43 kk672 (xKK_lt kk672) b3 ?_
  refine xe_aload_n dX12_readBier_44 rfl ?_
  refine xe_getR (b := 673) dX12_readBier_45 flX12_66 kk655 (xKK_lt kk655) rfl (rf655_33 hr) ?_
  refine xe_iload_n dX12_readBier_48 rfl ?_
  refine xe_aload_n dX12_readBier_49 rfl ?_
  refine xe_ldc2 (v := 28526) dX12_readBier_50 (xT_at 1659 (by decide +kernel) (by decide +kernel)) ?_
  refine xe_iconst (v := 0) dX12_readBier_53 rfl ?_
  refine xe_bipush (v := 60) dX12_readBier_54 rfl ?_
  refine xe_callV (args := [.long (28526 : Int64), .int (0 : Int32), .int (60 : Int32)]) dX12_readBier_56 vlX12_248 rfl rfl (Nat.le_of_ble_eq_true rfl) kk655 (xKK_lt kk655) rfl rfl k (Nat.le_refl _) (fun rv5 u5 w5 r5 k => ?_)
  obtain ⟨v5, rfl, rfl, k⟩ := k
  refine xe_iast dX12_readBier_59 kk673 (xKK_lt kk673) b3 ?_
  refine xe_aload_n dX12_readBier_60 rfl ?_
  refine xe_getR (b := 674) dX12_readBier_61 flX12_69 kk655 (xKK_lt kk655) rfl (rf655_34 hr) ?_
  refine xe_iload_n dX12_readBier_64 rfl ?_
  refine xe_aload_n dX12_readBier_65 rfl ?_
  refine xe_ldc2 (v := 448545973363) dX12_readBier_66 (xT_at 1660 (by decide +kernel) (by decide +kernel)) ?_
  refine xe_iconst (v := 1) dX12_readBier_69 rfl ?_
  refine xe_bipush (v := 9) dX12_readBier_70 rfl ?_
  refine xe_iconst (v := 2) dX12_readBier_72 rfl ?_
  refine xe_callV (args := [.long (448545973363 : Int64), .int (1 : Int32), .int (9 : Int32), .int (2 : Int32)]) dX12_readBier_73 vlX12_352 rfl rfl (Nat.le_of_ble_eq_true rfl) kk655 (xKK_lt kk655) rfl rfl k (Nat.le_refl _) (fun rv6 u6 w6 r6 k => ?_)
  obtain ⟨v6, rfl, rfl, k⟩ := k
  refine xe_iast dX12_readBier_76 kk674 (xKK_lt kk674) b3 ?_
  refine xe_aload_n dX12_readBier_77 rfl ?_
  refine xe_getI dX12_readBier_78 flX12_185 kk655 (xKK_lt kk655) rfl ?_
  refine xe_if_ne (tgt := 94) dX12_readBier_81 rfl (fun c7 => ?_) (fun c8 => ?_)
  · have k := k.2 (fun q => (c7 q))
    exact xe_return dX12_readBier_94 trivial k
  · have k := k.1 c8
    refine xe_aload_n dX12_readBier_84 rfl ?_
    refine xe_dup dX12_readBier_85 rfl ?_
    refine xe_getI dX12_readBier_86 flX12_342 kk655 (xKK_lt kk655) rfl ?_
    refine xe_iconst (v := 1) dX12_readBier_89 rfl ?_
    refine xe_iadd dX12_readBier_90 ?_
    refine xe_putI dX12_readBier_91 flX12_342 kk655 (xKK_lt kk655) nf12_45 rfl ?_
    exact xe_return dX12_readBier_94 trivial k

theorem CX12_readBier {g : xGT} {d : Nat} {u : xU} {w : xW} {r : xQ} {P : xPost} (hr : xRf r)
    (k : xCall g d mX12_newName [.ref 655, .int (7 : Int32), .int (u 655 45)] 698 u w r 698 (fun rv1 u1 w1 r1 => rv1 = none ∧ r = r1 ∧ xCall g d mX12_villageBy [.ref 655, .long (1718775661 : Int64)] 698 u1 w1 r 698 (fun rv2 u2 w2 r2 => ∃ v2 : Int32, rv2 = some (.int v2) ∧ r = r2 ∧ vp_in (u1 655 45) 6 ∧ (xCall g d mX12_goalBut [.ref 655, .int ((x2 u2 671 (u1 655 45).toNatClampNeg v2) 671 (u1 655 45).toNatClampNeg)] 698 (x2 u2 671 (u1 655 45).toNatClampNeg v2) w2 r 698 (fun rv4 u4 w4 r4 => ∃ v4 : Int32, rv4 = some (.int v4) ∧ r = r4 ∧ xCall g d mX12_told [.ref 655, .long (28526 : Int64), .int (0 : Int32), .int (60 : Int32)] 698 (x2 u4 672 (u1 655 45).toNatClampNeg v4) w4 r 698 (fun rv5 u5 w5 r5 => ∃ v5 : Int32, rv5 = some (.int v5) ∧ r = r5 ∧ xCall g d mX12_option [.ref 655, .long (448545973363 : Int64), .int (1 : Int32), .int (9 : Int32), .int (2 : Int32)] 698 (x2 u5 673 (u1 655 45).toNatClampNeg v5) w5 r 698 (fun rv6 u6 w6 r6 => ∃ v6 : Int32, rv6 = some (.int v6) ∧ r = r6 ∧ ((u6 655 2) = 0 → P none (x2 (x2 u6 674 (u1 655 45).toNatClampNeg v6) 655 45 ((u6 655 45) + (1 : Int32))) w6 r) ∧ (¬ ((u6 655 2) = 0) → P none (x2 u6 674 (u1 655 45).toNatClampNeg v6) w6 r)))))))) :
    xCall g (d + 1) mX12_readBier [.ref 655] 698 u w r 698 P :=
  xCall.of plX12 (Nat.le_of_ble_eq_true rfl) rfl (TX12_readBier_0 hr k)

/-! FuneralPostModel.readLetter -/

theorem TX12_readLetter_0 {g : xGT} {d : Nat} {u : xU} {w : xW} {r : xQ} {P : xPost} (hr : xRf r)
    (k : xCall g d mX12_newName [.ref 655, .int (13 : Int32), .int (u 655 46)] 698 u w r 698 (fun rv1 u1 w1 r1 => rv1 = none ∧ r = r1 ∧ xCall g d mX12_villageBy [.ref 655, .long (24948 : Int64)] 698 u1 w1 r 698 (fun rv2 u2 w2 r2 => ∃ v2 : Int32, rv2 = some (.int v2) ∧ r = r2 ∧ vp_in (u1 655 46) 8 ∧ (xCall g d mX12_goalBut [.ref 655, .int ((x2 u2 679 (u1 655 46).toNatClampNeg v2) 679 (u1 655 46).toNatClampNeg)] 698 (x2 u2 679 (u1 655 46).toNatClampNeg v2) w2 r 698 (fun rv4 u4 w4 r4 => ∃ v4 : Int32, rv4 = some (.int v4) ∧ r = r4 ∧ xCall g d mX12_option [.ref 655, .long (25209 : Int64), .int (0 : Int32), .int (200 : Int32), .int (200 : Int32)] 698 (x2 u4 680 (u1 655 46).toNatClampNeg v4) w4 r 698 (fun rv5 u5 w5 r5 => ∃ v5 : Int32, rv5 = some (.int v5) ∧ r = r5 ∧ xCall g d mX12_option [.ref 655, .long (512970880104 : Int64), .int (1 : Int32), .int (9 : Int32), .int (1 : Int32)] 698 (x2 u5 681 (u1 655 46).toNatClampNeg v5) w5 r 698 (fun rv6 u6 w6 r6 => ∃ v6 : Int32, rv6 = some (.int v6) ∧ r = r6 ∧ ((u6 655 2) = 0 → P none (x2 (x2 u6 682 (u1 655 46).toNatClampNeg v6) 655 46 ((u6 655 46) + (1 : Int32))) w6 r) ∧ (¬ ((u6 655 2) = 0) → P none (x2 u6 682 (u1 655 46).toNatClampNeg v6) w6 r)))))))) :
    xEv g (d + 1) mX12_readLetter 0 [some (.ref 655), none] [] 698 u w r 698 P := by
  refine xe_aload_n dX12_readLetter_0 rfl ?_
  refine xe_bipush (v := 13) dX12_readLetter_1 rfl ?_
  refine xe_aload_n dX12_readLetter_3 rfl ?_
  refine xe_getI dX12_readLetter_4 flX12_356 kk655 (xKK_lt kk655) rfl ?_
  refine xe_callV (args := [.int (13 : Int32), .int (u 655 46)]) dX12_readLetter_7 vlX12_332 rfl rfl (Nat.le_of_ble_eq_true rfl) kk655 (xKK_lt kk655) rfl rfl k (Nat.le_refl _) (fun rv1 u1 w1 r1 k => ?_)
  obtain ⟨rfl, rfl, k⟩ := k
  refine xe_aload_n dX12_readLetter_10 rfl ?_
  refine xe_getI dX12_readLetter_11 flX12_356 kk655 (xKK_lt kk655) rfl ?_
  refine xe_istore_n (ls' := [some (.ref 655), some (.int (u1 655 46))]) dX12_readLetter_14 rfl (by decide) rfl ?_
  refine xe_aload_n dX12_readLetter_15 rfl ?_
  refine xe_getR (b := 679) dX12_readLetter_16 flX12_84 kk655 (xKK_lt kk655) rfl (rf655_39 hr) ?_
  refine xe_iload_n dX12_readLetter_19 rfl ?_
  refine xe_aload_n dX12_readLetter_20 rfl ?_
  refine xe_ldc2 (v := 24948) dX12_readLetter_21 (xT_at 1662 (by decide +kernel) (by decide +kernel)) ?_
  refine xe_callV (args := [.long (24948 : Int64)]) dX12_readLetter_24 vlX12_345 rfl rfl (Nat.le_of_ble_eq_true rfl) kk655 (xKK_lt kk655) rfl rfl k (Nat.le_refl _) (fun rv2 u2 w2 r2 k => ?_)
  obtain ⟨v2, rfl, rfl, k⟩ := k
  obtain ⟨b3, k⟩ := k
  refine xe_iast dX12_readLetter_27 kk679 (xKK_lt kk679) b3 ?_
  refine xe_aload_n dX12_readLetter_28 rfl ?_
  refine xe_getR (b := 680) dX12_readLetter_29 flX12_87 kk655 (xKK_lt kk655) rfl (rf655_40 hr) ?_
  refine xe_iload_n dX12_readLetter_32 rfl ?_
  refine xe_aload_n dX12_readLetter_33 rfl ?_
  refine xe_aload_n dX12_readLetter_34 rfl ?_
  refine xe_getR (b := 679) dX12_readLetter_35 flX12_84 kk655 (xKK_lt kk655) rfl (rf655_39 hr) ?_
  refine xe_iload_n dX12_readLetter_38 rfl ?_
  refine xe_iald dX12_readLetter_39 kk679 (xKK_lt kk679) b3 ?_
  refine xe_callV (args := [.int ((x2 u2 679 (u1 655 46).toNatClampNeg v2) 679 (u1 655 46).toNatClampNeg)]) dX12_readLetter_40 vlX12_349 rfl rfl (Nat.le_of_ble_eq_true rfl) kk655 (xKK_lt kk655) rfl rfl k (Nat.le_refl _) (fun rv4 u4 w4 r4 k => ?_)
  obtain ⟨v4, rfl, rfl, k⟩ := k
  refine xe_iast dX12_readLetter_43 kk680 (xKK_lt kk680) b3 ?_
  refine xe_aload_n dX12_readLetter_44 rfl ?_
  refine xe_getR (b := 681) dX12_readLetter_45 flX12_90 kk655 (xKK_lt kk655) rfl (rf655_41 hr) ?_
  refine xe_iload_n dX12_readLetter_48 rfl ?_
  refine xe_aload_n dX12_readLetter_49 rfl ?_
  refine xe_ldc2 (v := 25209) dX12_readLetter_50 (xT_at 1663 (by decide +kernel) (by decide +kernel)) ?_
  refine xe_iconst (v := 0) dX12_readLetter_53 rfl ?_
  refine xe_sipush (v := 200) dX12_readLetter_54 rfl ?_
  refine xe_sipush (v := 200) dX12_readLetter_57 rfl ?_
  refine xe_callV (args := [.long (25209 : Int64), .int (0 : Int32), .int (200 : Int32), .int (200 : Int32)]) dX12_readLetter_60 vlX12_352 rfl rfl (Nat.le_of_ble_eq_true rfl) kk655 (xKK_lt kk655) rfl rfl k (Nat.le_refl _) (fun rv5 u5 w5 r5 k => ?_)
  obtain ⟨v5, rfl, rfl, k⟩ := k
  refine xe_iast dX12_readLetter_63 kk681 (xKK_lt kk681) b3 ?_
  refine xe_aload_n dX12_readLetter_64 rfl ?_
  refine xe_getR (b := 682) dX12_readLetter_65 flX12_93 kk655 (xKK_lt kk655) rfl (rf655_42 hr) ?_
  refine xe_iload_n dX12_readLetter_68 rfl ?_
  refine xe_aload_n dX12_readLetter_69 rfl ?_
  refine xe_ldc2 (v := 512970880104) dX12_readLetter_70 (xT_at 1664 (by decide +kernel) (by decide +kernel)) ?_
  refine xe_iconst (v := 1) dX12_readLetter_73 rfl ?_
  refine xe_bipush (v := 9) dX12_readLetter_74 rfl ?_
  refine xe_iconst (v := 1) dX12_readLetter_76 rfl ?_
  refine xe_callV (args := [.long (512970880104 : Int64), .int (1 : Int32), .int (9 : Int32), .int (1 : Int32)]) dX12_readLetter_77 vlX12_352 rfl rfl (Nat.le_of_ble_eq_true rfl) kk655 (xKK_lt kk655) rfl rfl k (Nat.le_refl _) (fun rv6 u6 w6 r6 k => ?_)
  obtain ⟨v6, rfl, rfl, k⟩ := k
  refine xe_iast dX12_readLetter_80 kk682 (xKK_lt kk682) b3 ?_
  refine xe_aload_n dX12_readLetter_81 rfl ?_
  refine xe_getI dX12_readLetter_82 flX12_185 kk655 (xKK_lt kk655) rfl ?_
  refine xe_if_ne (tgt := 98) dX12_readLetter_85 rfl (fun c7 => ?_) (fun c8 => ?_)
  · have k := k.2 (fun q => (c7 q))
    exact xe_return dX12_readLetter_98 trivial k
  · have k := k.1 c8
    refine xe_aload_n dX12_readLetter_88 rfl ?_
    refine xe_dup dX12_readLetter_89 rfl ?_
    refine xe_getI dX12_readLetter_90 flX12_356 kk655 (xKK_lt kk655) rfl ?_
    refine xe_iconst (v := 1) dX12_readLetter_93 rfl ?_
    refine xe_iadd dX12_readLetter_94 ?_
    refine xe_putI dX12_readLetter_95 flX12_356 kk655 (xKK_lt kk655) nf12_46 rfl ?_
    exact xe_return dX12_readLetter_98 trivial k

theorem CX12_readLetter {g : xGT} {d : Nat} {u : xU} {w : xW} {r : xQ} {P : xPost} (hr : xRf r)
    (k : xCall g d mX12_newName [.ref 655, .int (13 : Int32), .int (u 655 46)] 698 u w r 698 (fun rv1 u1 w1 r1 => rv1 = none ∧ r = r1 ∧ xCall g d mX12_villageBy [.ref 655, .long (24948 : Int64)] 698 u1 w1 r 698 (fun rv2 u2 w2 r2 => ∃ v2 : Int32, rv2 = some (.int v2) ∧ r = r2 ∧ vp_in (u1 655 46) 8 ∧ (xCall g d mX12_goalBut [.ref 655, .int ((x2 u2 679 (u1 655 46).toNatClampNeg v2) 679 (u1 655 46).toNatClampNeg)] 698 (x2 u2 679 (u1 655 46).toNatClampNeg v2) w2 r 698 (fun rv4 u4 w4 r4 => ∃ v4 : Int32, rv4 = some (.int v4) ∧ r = r4 ∧ xCall g d mX12_option [.ref 655, .long (25209 : Int64), .int (0 : Int32), .int (200 : Int32), .int (200 : Int32)] 698 (x2 u4 680 (u1 655 46).toNatClampNeg v4) w4 r 698 (fun rv5 u5 w5 r5 => ∃ v5 : Int32, rv5 = some (.int v5) ∧ r = r5 ∧ xCall g d mX12_option [.ref 655, .long (512970880104 : Int64), .int (1 : Int32), .int (9 : Int32), .int (1 : Int32)] 698 (x2 u5 681 (u1 655 46).toNatClampNeg v5) w5 r 698 (fun rv6 u6 w6 r6 => ∃ v6 : Int32, rv6 = some (.int v6) ∧ r = r6 ∧ ((u6 655 2) = 0 → P none (x2 (x2 u6 682 (u1 655 46).toNatClampNeg v6) 655 46 ((u6 655 46) + (1 : Int32))) w6 r) ∧ (¬ ((u6 655 2) = 0) → P none (x2 u6 682 (u1 655 46).toNatClampNeg v6) w6 r)))))))) :
    xCall g (d + 1) mX12_readLetter [.ref 655] 698 u w r 698 P :=
  xCall.of plX12 (Nat.le_of_ble_eq_true rfl) rfl (TX12_readLetter_0 hr k)

/-! FuneralPostModel.readWinter -/

theorem TX12_readWinter_0 {g : xGT} {d : Nat} {u : xU} {w : xW} {r : xQ} {P : xPost}
    (k : xCall g d mX12_told [.ref 655, .long (131294708393330 : Int64), .int (0 : Int32), .int (200 : Int32)] 698 (x2 u 655 55 (1 : Int32)) w r 698 (fun rv1 u1 w1 r1 => ∃ v1 : Int32, rv1 = some (.int v1) ∧ r = r1 ∧ xCall g d mX12_told [.ref 655, .long (29807 : Int64), .int v1, .int (200 : Int32)] 698 (x2 u1 655 47 v1) w1 r 698 (fun rv2 u2 w2 r2 => ∃ v2 : Int32, rv2 = some (.int v2) ∧ r = r2 ∧ P none (x2 u2 655 48 v2) w2 r))) :
    xEv g (d + 1) mX12_readWinter 0 [some (.ref 655)] [] 698 u w r 698 P := by
  refine xe_aload_n dX12_readWinter_0 rfl ?_
  refine xe_iconst (v := 1) dX12_readWinter_1 rfl ?_
  refine xe_putZ dX12_readWinter_2 flX12_359 kk655 (xKK_lt kk655) nf12_55 rfl (Or.inr rfl) ?_
  refine xe_aload_n dX12_readWinter_5 rfl ?_
  refine xe_aload_n dX12_readWinter_6 rfl ?_
  refine xe_ldc2 (v := 131294708393330) dX12_readWinter_7 (xT_at 1666 (by decide +kernel) (by decide +kernel)) ?_
  refine xe_iconst (v := 0) dX12_readWinter_10 rfl ?_
  refine xe_sipush (v := 200) dX12_readWinter_11 rfl ?_
  refine xe_callV (args := [.long (131294708393330 : Int64), .int (0 : Int32), .int (200 : Int32)]) dX12_readWinter_14 vlX12_248 rfl rfl (Nat.le_of_ble_eq_true rfl) kk655 (xKK_lt kk655) rfl rfl k (Nat.le_refl _) (fun rv1 u1 w1 r1 k => ?_)
  obtain ⟨v1, rfl, rfl, k⟩ := k
  refine xe_putI dX12_readWinter_17 flX12_362 kk655 (xKK_lt kk655) nf12_47 rfl ?_
  refine xe_aload_n dX12_readWinter_20 rfl ?_
  refine xe_aload_n dX12_readWinter_21 rfl ?_
  refine xe_ldc2 (v := 29807) dX12_readWinter_22 (xT_at 1658 (by decide +kernel) (by decide +kernel)) ?_
  refine xe_aload_n dX12_readWinter_25 rfl ?_
  refine xe_getI dX12_readWinter_26 flX12_362 kk655 (xKK_lt kk655) rfl ?_
  refine xe_sipush (v := 200) dX12_readWinter_29 rfl ?_
  refine xe_callV (args := [.long (29807 : Int64), .int v1, .int (200 : Int32)]) dX12_readWinter_32 vlX12_248 rfl rfl (Nat.le_of_ble_eq_true rfl) kk655 (xKK_lt kk655) rfl rfl k (Nat.le_refl _) (fun rv2 u2 w2 r2 k => ?_)
  obtain ⟨v2, rfl, rfl, k⟩ := k
  refine xe_putI dX12_readWinter_35 flX12_365 kk655 (xKK_lt kk655) nf12_48 rfl ?_
  exact xe_return dX12_readWinter_38 trivial k

theorem CX12_readWinter {g : xGT} {d : Nat} {u : xU} {w : xW} {r : xQ} {P : xPost}
    (k : xCall g d mX12_told [.ref 655, .long (131294708393330 : Int64), .int (0 : Int32), .int (200 : Int32)] 698 (x2 u 655 55 (1 : Int32)) w r 698 (fun rv1 u1 w1 r1 => ∃ v1 : Int32, rv1 = some (.int v1) ∧ r = r1 ∧ xCall g d mX12_told [.ref 655, .long (29807 : Int64), .int v1, .int (200 : Int32)] 698 (x2 u1 655 47 v1) w1 r 698 (fun rv2 u2 w2 r2 => ∃ v2 : Int32, rv2 = some (.int v2) ∧ r = r2 ∧ P none (x2 u2 655 48 v2) w2 r))) :
    xCall g (d + 1) mX12_readWinter [.ref 655] 698 u w r 698 P :=
  xCall.of plX12 (Nat.le_of_ble_eq_true rfl) rfl (TX12_readWinter_0  k)

/-! FuneralPostModel.readLine -/

set_option maxRecDepth 20000 in
theorem TX12_readLine_0 {g : xGT} {d : Nat} {u : xU} {w : xW} {r : xQ} {P : xPost}
    (k : xCall g d mX12_isWord [.ref 655, .long (33329961647564645 : Int64)] 698 u w r 698 (fun rv1 u1 w1 r1 => ∃ v1 : Int32, rv1 = some (.int v1) ∧ u = u1 ∧ w = w1 ∧ r = r1 ∧ ((¬ (v1 = 0) ∧ ¬ ((7 : Int32) ≤ (u 655 43))) → xCall g d mX12_readVillage [.ref 655] 698 u w r 698 (fun rv6 u6 w6 r6 => rv6 = none ∧ r = r6 ∧ xEv g (d + 1) mX12_readLine 162 [some (.ref 655)] [] 698 u6 w6 r 698 P)) ∧ (¬ (¬ (v1 = 0) ∧ ¬ ((7 : Int32) ≤ (u 655 43))) → xCall g d mX12_isWord [.ref 655, .long (7823737 : Int64)] 698 u w r 698 (fun rv7 u7 w7 r7 => ∃ v7 : Int32, rv7 = some (.int v7) ∧ u = u7 ∧ w = w7 ∧ r = r7 ∧ ((¬ (v7 = 0) ∧ ¬ ((12 : Int32) ≤ (u 655 44))) → xCall g d mX12_readWay [.ref 655] 698 u w r 698 (fun rv12 u12 w12 r12 => rv12 = none ∧ r = r12 ∧ xEv g (d + 1) mX12_readLine 162 [some (.ref 655)] [] 698 u12 w12 r 698 P)) ∧ (¬ (¬ (v7 = 0) ∧ ¬ ((12 : Int32) ≤ (u 655 44))) → xCall g d mX12_isWord [.ref 655, .long (1651074418 : Int64)] 698 u w r 698 (fun rv13 u13 w13 r13 => ∃ v13 : Int32, rv13 = some (.int v13) ∧ u = u13 ∧ w = w13 ∧ r = r13 ∧ ((¬ (v13 = 0) ∧ ¬ ((6 : Int32) ≤ (u 655 45))) → xCall g d mX12_readBier [.ref 655] 698 u w r 698 (fun rv18 u18 w18 r18 => rv18 = none ∧ r = r18 ∧ xEv g (d + 1) mX12_readLine 162 [some (.ref 655)] [] 698 u18 w18 r 698 P)) ∧ (¬ (¬ (v13 = 0) ∧ ¬ ((6 : Int32) ≤ (u 655 45))) → xCall g d mX12_isWord [.ref 655, .long (119183001281906 : Int64)] 698 u w r 698 (fun rv19 u19 w19 r19 => ∃ v19 : Int32, rv19 = some (.int v19) ∧ u = u19 ∧ w = w19 ∧ r = r19 ∧ ((¬ (v19 = 0) ∧ ¬ ((8 : Int32) ≤ (u 655 46))) → xCall g d mX12_readLetter [.ref 655] 698 u w r 698 (fun rv24 u24 w24 r24 => rv24 = none ∧ r = r24 ∧ xEv g (d + 1) mX12_readLine 162 [some (.ref 655)] [] 698 u24 w24 r 698 P)) ∧ (¬ (¬ (v19 = 0) ∧ ¬ ((8 : Int32) ≤ (u 655 46))) → xCall g d mX12_isWord [.ref 655, .long (2002872692 : Int64)] 698 u w r 698 (fun rv25 u25 w25 r25 => ∃ v25 : Int32, rv25 = some (.int v25) ∧ u = u25 ∧ w = w25 ∧ r = r25 ∧ ((¬ (v25 = 0) ∧ (u 655 54) = 0) → xCall g d mX12_readWait [.ref 655] 698 (x2 u 655 54 (1 : Int32)) w r 698 (fun rv30 u30 w30 r30 => rv30 = none ∧ r = r30 ∧ xEv g (d + 1) mX12_readLine 162 [some (.ref 655)] [] 698 u30 w30 r 698 P)) ∧ (¬ (¬ (v25 = 0) ∧ (u 655 54) = 0) → xCall g d mX12_isWord [.ref 655, .long (131294708393330 : Int64)] 698 u w r 698 (fun rv31 u31 w31 r31 => ∃ v31 : Int32, rv31 = some (.int v31) ∧ u = u31 ∧ w = w31 ∧ r = r31 ∧ ((¬ (v31 = 0) ∧ (u 655 55) = 0) → xCall g d mX12_readWinter [.ref 655] 698 u w r 698 (fun rv36 u36 w36 r36 => rv36 = none ∧ r = r36 ∧ xEv g (d + 1) mX12_readLine 162 [some (.ref 655)] [] 698 u36 w36 r 698 P)) ∧ (¬ (¬ (v31 = 0) ∧ (u 655 55) = 0) → xCall g d mX12_wrong [.ref 655, .int (2 : Int32)] 698 u w r 698 (fun rv37 u37 w37 r37 => rv37 = none ∧ w = w37 ∧ r = r37 ∧ xEv g (d + 1) mX12_readLine 162 [some (.ref 655)] [] 698 u37 w r 698 P)))))))))))))) :
    xEv g (d + 1) mX12_readLine 0 [some (.ref 655)] [] 698 u w r 698 P := by
  refine xe_aload_n dX12_readLine_0 rfl ?_
  refine xe_ldc2 (v := 33329961647564645) dX12_readLine_1 (xT_at 1634 (by decide +kernel) (by decide +kernel)) ?_
  refine xe_callV (args := [.long (33329961647564645 : Int64)]) dX12_readLine_4 vlX12_230 rfl rfl (Nat.le_of_ble_eq_true rfl) kk655 (xKK_lt kk655) rfl rfl k (Nat.le_refl _) (fun rv1 u1 w1 r1 k => ?_)
  obtain ⟨v1, rfl, rfl, rfl, rfl, k⟩ := k
  have K48 : ¬ (¬ (v1 = 0) ∧ ¬ ((7 : Int32) ≤ (u 655 43))) → xEv g (d + 1) mX12_readLine 26 [some (.ref 655)] [] 698 u w r 698 P := fun c49 => by
    have k := k.2 c49
    refine xe_aload_n dX12_readLine_26 rfl ?_
    refine xe_ldc2 (v := 7823737) dX12_readLine_27 (xT_at 1655 (by decide +kernel) (by decide +kernel)) ?_
    refine xe_callV (args := [.long (7823737 : Int64)]) dX12_readLine_30 vlX12_230 rfl rfl (Nat.le_of_ble_eq_true rfl) kk655 (xKK_lt kk655) rfl rfl k (Nat.le_refl _) (fun rv7 u7 w7 r7 k => ?_)
    obtain ⟨v7, rfl, rfl, rfl, rfl, k⟩ := k
    have K46 : ¬ (¬ (v7 = 0) ∧ ¬ ((12 : Int32) ≤ (u 655 44))) → xEv g (d + 1) mX12_readLine 52 [some (.ref 655)] [] 698 u w r 698 P := fun c47 => by
      have k := k.2 c47
      refine xe_aload_n dX12_readLine_52 rfl ?_
      refine xe_ldc2 (v := 1651074418) dX12_readLine_53 (xT_at 1656 (by decide +kernel) (by decide +kernel)) ?_
      refine xe_callV (args := [.long (1651074418 : Int64)]) dX12_readLine_56 vlX12_230 rfl rfl (Nat.le_of_ble_eq_true rfl) kk655 (xKK_lt kk655) rfl rfl k (Nat.le_refl _) (fun rv13 u13 w13 r13 k => ?_)
      obtain ⟨v13, rfl, rfl, rfl, rfl, k⟩ := k
      have K44 : ¬ (¬ (v13 = 0) ∧ ¬ ((6 : Int32) ≤ (u 655 45))) → xEv g (d + 1) mX12_readLine 78 [some (.ref 655)] [] 698 u w r 698 P := fun c45 => by
        have k := k.2 c45
        refine xe_aload_n dX12_readLine_78 rfl ?_
        refine xe_ldc2 (v := 119183001281906) dX12_readLine_79 (xT_at 1661 (by decide +kernel) (by decide +kernel)) ?_
        refine xe_callV (args := [.long (119183001281906 : Int64)]) dX12_readLine_82 vlX12_230 rfl rfl (Nat.le_of_ble_eq_true rfl) kk655 (xKK_lt kk655) rfl rfl k (Nat.le_refl _) (fun rv19 u19 w19 r19 k => ?_)
        obtain ⟨v19, rfl, rfl, rfl, rfl, k⟩ := k
        have K42 : ¬ (¬ (v19 = 0) ∧ ¬ ((8 : Int32) ≤ (u 655 46))) → xEv g (d + 1) mX12_readLine 104 [some (.ref 655)] [] 698 u w r 698 P := fun c43 => by
          have k := k.2 c43
          refine xe_aload_n dX12_readLine_104 rfl ?_
          refine xe_ldc2 (v := 2002872692) dX12_readLine_105 (xT_at 1665 (by decide +kernel) (by decide +kernel)) ?_
          refine xe_callV (args := [.long (2002872692 : Int64)]) dX12_readLine_108 vlX12_230 rfl rfl (Nat.le_of_ble_eq_true rfl) kk655 (xKK_lt kk655) rfl rfl k (Nat.le_refl _) (fun rv25 u25 w25 r25 k => ?_)
          obtain ⟨v25, rfl, rfl, rfl, rfl, k⟩ := k
          have K40 : ¬ (¬ (v25 = 0) ∧ (u 655 54) = 0) → xEv g (d + 1) mX12_readLine 133 [some (.ref 655)] [] 698 u w r 698 P := fun c41 => by
            have k := k.2 c41
            refine xe_aload_n dX12_readLine_133 rfl ?_
            refine xe_ldc2 (v := 131294708393330) dX12_readLine_134 (xT_at 1666 (by decide +kernel) (by decide +kernel)) ?_
            refine xe_callV (args := [.long (131294708393330 : Int64)]) dX12_readLine_137 vlX12_230 rfl rfl (Nat.le_of_ble_eq_true rfl) kk655 (xKK_lt kk655) rfl rfl k (Nat.le_refl _) (fun rv31 u31 w31 r31 k => ?_)
            obtain ⟨v31, rfl, rfl, rfl, rfl, k⟩ := k
            have K38 : ¬ (¬ (v31 = 0) ∧ (u 655 55) = 0) → xEv g (d + 1) mX12_readLine 157 [some (.ref 655)] [] 698 u w r 698 P := fun c39 => by
              have k := k.2 c39
              refine xe_aload_n dX12_readLine_157 rfl ?_
              refine xe_iconst (v := 2) dX12_readLine_158 rfl ?_
              refine xe_callV (args := [.int (2 : Int32)]) dX12_readLine_159 vlX12_234 rfl rfl (Nat.le_of_ble_eq_true rfl) kk655 (xKK_lt kk655) rfl rfl k (Nat.le_refl _) (fun rv37 u37 w37 r37 k => ?_)
              obtain ⟨rfl, rfl, rfl, k⟩ := k
              exact k
            refine xe_if_eq (tgt := 157) dX12_readLine_140 rfl (fun c32 => ?_) (fun c33 => ?_)
            · exact K38 (fun q => (q.1 c32))
            · refine xe_aload_n dX12_readLine_143 rfl ?_
              refine xe_getI dX12_readLine_144 flX12_359 kk655 (xKK_lt kk655) rfl ?_
              refine xe_if_ne (tgt := 157) dX12_readLine_147 rfl (fun c34 => ?_) (fun c35 => ?_)
              · exact K38 (fun q => (c34 q.2))
              · have k := k.1 ⟨c33, c35⟩
                refine xe_aload_n dX12_readLine_150 rfl ?_
                refine xe_callV (args := []) dX12_readLine_151 vlX12_386 rfl rfl (Nat.le_of_ble_eq_true rfl) kk655 (xKK_lt kk655) rfl rfl k (Nat.le_refl _) (fun rv36 u36 w36 r36 k => ?_)
                obtain ⟨rfl, rfl, k⟩ := k
                refine xe_goto (tgt := 162) dX12_readLine_154 rfl ?_
                exact k
          refine xe_if_eq (tgt := 133) dX12_readLine_111 rfl (fun c26 => ?_) (fun c27 => ?_)
          · exact K40 (fun q => (q.1 c26))
          · refine xe_aload_n dX12_readLine_114 rfl ?_
            refine xe_getI dX12_readLine_115 flX12_380 kk655 (xKK_lt kk655) rfl ?_
            refine xe_if_ne (tgt := 133) dX12_readLine_118 rfl (fun c28 => ?_) (fun c29 => ?_)
            · exact K40 (fun q => (c28 q.2))
            · have k := k.1 ⟨c27, c29⟩
              refine xe_aload_n dX12_readLine_121 rfl ?_
              refine xe_iconst (v := 1) dX12_readLine_122 rfl ?_
              refine xe_putZ dX12_readLine_123 flX12_380 kk655 (xKK_lt kk655) nf12_54 rfl (Or.inr rfl) ?_
              refine xe_aload_n dX12_readLine_126 rfl ?_
              refine xe_callV (args := []) dX12_readLine_127 vlX12_383 rfl rfl (Nat.le_of_ble_eq_true rfl) kk655 (xKK_lt kk655) rfl rfl k (Nat.le_refl _) (fun rv30 u30 w30 r30 k => ?_)
              obtain ⟨rfl, rfl, k⟩ := k
              refine xe_goto (tgt := 162) dX12_readLine_130 rfl ?_
              exact k
        refine xe_if_eq (tgt := 104) dX12_readLine_85 rfl (fun c20 => ?_) (fun c21 => ?_)
        · exact K42 (fun q => (q.1 c20))
        · refine xe_aload_n dX12_readLine_88 rfl ?_
          refine xe_getI dX12_readLine_89 flX12_356 kk655 (xKK_lt kk655) rfl ?_
          refine xe_bipush (v := 8) dX12_readLine_92 rfl ?_
          refine xe_icmp_ge (tgt := 104) dX12_readLine_94 rfl (fun c22 => ?_) (fun c23 => ?_)
          · exact K42 (fun q => (q.2 c22))
          · have k := k.1 ⟨c21, c23⟩
            refine xe_aload_n dX12_readLine_97 rfl ?_
            refine xe_callV (args := []) dX12_readLine_98 vlX12_377 rfl rfl (Nat.le_of_ble_eq_true rfl) kk655 (xKK_lt kk655) rfl rfl k (Nat.le_refl _) (fun rv24 u24 w24 r24 k => ?_)
            obtain ⟨rfl, rfl, k⟩ := k
            refine xe_goto (tgt := 162) dX12_readLine_101 rfl ?_
            exact k
      refine xe_if_eq (tgt := 78) dX12_readLine_59 rfl (fun c14 => ?_) (fun c15 => ?_)
      · exact K44 (fun q => (q.1 c14))
      · refine xe_aload_n dX12_readLine_62 rfl ?_
        refine xe_getI dX12_readLine_63 flX12_342 kk655 (xKK_lt kk655) rfl ?_
        refine xe_bipush (v := 6) dX12_readLine_66 rfl ?_
        refine xe_icmp_ge (tgt := 78) dX12_readLine_68 rfl (fun c16 => ?_) (fun c17 => ?_)
        · exact K44 (fun q => (q.2 c16))
        · have k := k.1 ⟨c15, c17⟩
          refine xe_aload_n dX12_readLine_71 rfl ?_
          refine xe_callV (args := []) dX12_readLine_72 vlX12_374 rfl rfl (Nat.le_of_ble_eq_true rfl) kk655 (xKK_lt kk655) rfl rfl k (Nat.le_refl _) (fun rv18 u18 w18 r18 k => ?_)
          obtain ⟨rfl, rfl, k⟩ := k
          refine xe_goto (tgt := 162) dX12_readLine_75 rfl ?_
          exact k
    refine xe_if_eq (tgt := 52) dX12_readLine_33 rfl (fun c8 => ?_) (fun c9 => ?_)
    · exact K46 (fun q => (q.1 c8))
    · refine xe_aload_n dX12_readLine_36 rfl ?_
      refine xe_getI dX12_readLine_37 flX12_335 kk655 (xKK_lt kk655) rfl ?_
      refine xe_bipush (v := 12) dX12_readLine_40 rfl ?_
      refine xe_icmp_ge (tgt := 52) dX12_readLine_42 rfl (fun c10 => ?_) (fun c11 => ?_)
      · exact K46 (fun q => (q.2 c10))
      · have k := k.1 ⟨c9, c11⟩
        refine xe_aload_n dX12_readLine_45 rfl ?_
        refine xe_callV (args := []) dX12_readLine_46 vlX12_371 rfl rfl (Nat.le_of_ble_eq_true rfl) kk655 (xKK_lt kk655) rfl rfl k (Nat.le_refl _) (fun rv12 u12 w12 r12 k => ?_)
        obtain ⟨rfl, rfl, k⟩ := k
        refine xe_goto (tgt := 162) dX12_readLine_49 rfl ?_
        exact k
  refine xe_if_eq (tgt := 26) dX12_readLine_7 rfl (fun c2 => ?_) (fun c3 => ?_)
  · exact K48 (fun q => (q.1 c2))
  · refine xe_aload_n dX12_readLine_10 rfl ?_
    refine xe_getI dX12_readLine_11 flX12_258 kk655 (xKK_lt kk655) rfl ?_
    refine xe_bipush (v := 7) dX12_readLine_14 rfl ?_
    refine xe_icmp_ge (tgt := 26) dX12_readLine_16 rfl (fun c4 => ?_) (fun c5 => ?_)
    · exact K48 (fun q => (q.2 c4))
    · have k := k.1 ⟨c3, c5⟩
      refine xe_aload_n dX12_readLine_19 rfl ?_
      refine xe_callV (args := []) dX12_readLine_20 vlX12_368 rfl rfl (Nat.le_of_ble_eq_true rfl) kk655 (xKK_lt kk655) rfl rfl k (Nat.le_refl _) (fun rv6 u6 w6 r6 k => ?_)
      obtain ⟨rfl, rfl, k⟩ := k
      refine xe_goto (tgt := 162) dX12_readLine_23 rfl ?_
      exact k
