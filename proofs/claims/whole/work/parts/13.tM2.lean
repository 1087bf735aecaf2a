theorem CX12_readLine {g : xGT} {d : Nat} {u : xU} {w : xW} {r : xQ} {P : xPost}
    (k : xCall g d mX12_isWord [.ref 655, .long (33329961647564645 : Int64)] 698 u w r 698 (fun rv1 u1 w1 r1 => ∃ v1 : Int32, rv1 = some (.int v1) ∧ u = u1 ∧ w = w1 ∧ r = r1 ∧ ((¬ (v1 = 0) ∧ ¬ ((7 : Int32) ≤ (u 655 43))) → xCall g d mX12_readVillage [.ref 655] 698 u w r 698 (fun rv6 u6 w6 r6 => rv6 = none ∧ r = r6 ∧ xEv g (d + 1) mX12_readLine 162 [some (.ref 655)] [] 698 u6 w6 r 698 P)) ∧ (¬ (¬ (v1 = 0) ∧ ¬ ((7 : Int32) ≤ (u 655 43))) → xCall g d mX12_isWord [.ref 655, .long (7823737 : Int64)] 698 u w r 698 (fun rv7 u7 w7 r7 => ∃ v7 : Int32, rv7 = some (.int v7) ∧ u = u7 ∧ w = w7 ∧ r = r7 ∧ ((¬ (v7 = 0) ∧ ¬ ((12 : Int32) ≤ (u 655 44))) → xCall g d mX12_readWay [.ref 655] 698 u w r 698 (fun rv12 u12 w12 r12 => rv12 = none ∧ r = r12 ∧ xEv g (d + 1) mX12_readLine 162 [some (.ref 655)] [] 698 u12 w12 r 698 P)) ∧ (¬ (¬ (v7 = 0) ∧ ¬ ((12 : Int32) ≤ (u 655 44))) → xCall g d mX12_isWord [.ref 655, .long (1651074418 : Int64)] 698 u w r 698 (fun rv13 u13 w13 r13 => ∃ v13 : Int32, rv13 = some (.int v13) ∧ u = u13 ∧ w = w13 ∧ r = r13 ∧ ((¬ (v13 = 0) ∧ ¬ ((6 : Int32) ≤ (u 655 45))) → xCall g d mX12_readBier [.ref 655] 698 u w r 698 (fun rv18 u18 w18 r18 => rv18 = none ∧ r = r18 ∧ xEv g (d + 1) mX12_readLine 162 [some (.ref 655)] [] 698 u18 w18 r 698 P)) ∧ (¬ (¬ (v13 = 0) ∧ ¬ ((6 : Int32) ≤ (u 655 45))) → xCall g d mX12_isWord [.ref 655, .long (119183001281906 : Int64)] 698 u w r 698 (fun rv19 u19 w19 r19 => ∃ v19 : Int32, rv19 = some (.int v19) ∧ u = u19 ∧ w = w19 ∧ r = r19 ∧ ((¬ (v19 = 0) ∧ ¬ ((8 : Int32) ≤ (u 655 46))) → xCall g d mX12_readLetter [.ref 655] 698 u w r 698 (fun rv24 u24 w24 r24 => rv24 = none ∧ r = r24 ∧ xEv g (d + 1) mX12_readLine 162 [some (.ref 655)] [] 698 u24 w24 r 698 P)) ∧ (¬ (¬ (v19 = 0) ∧ ¬ ((8 : Int32) ≤ (u 655 46))) → xCall g d mX12_isWord [.ref 655, .long (2002872692 : Int64)] 698 u w r 698 (fun rv25 u25 w25 r25 => ∃ v25 : Int32, rv25 = some (.int v25) ∧ u = u25 ∧ w = w25 ∧ r = r25 ∧ ((¬ (v25 = 0) ∧ (u 655 54) = 0) → xCall g d mX12_readWait [.ref 655] 698 (x2 u 655 54 (1 : Int32)) w r 698 (fun rv30 u30 w30 r30 => rv30 = none ∧ r = r30 ∧ xEv g (d + 1) mX12_readLine 162 [some (.ref 655)] [] 698 u30 w30 r 698 P)) ∧ (¬ (¬ (v25 = 0) ∧ (u 655 54) = 0) → xCall g d mX12_isWord [.ref 655, .long (131294708393330 : Int64)] 698 u w r 698 (fun rv31 u31 w31 r31 => ∃ v31 : Int32, rv31 = some (.int v31) ∧ u = u31 ∧ w = w31 ∧ r = r31 ∧ ((¬ (v31 = 0) ∧ (u 655 55) = 0) → xCall g d mX12_readWinter [.ref 655] 698 u w r 698 (fun rv36 u36 w36 r36 => rv36 = none ∧ r = r36 ∧ xEv g (d + 1) mX12_readLine 162 [some (.ref 655)] [] 698 u36 w36 r 698 P)) ∧ (¬ (¬ (v31 = 0) ∧ (u 655 55) = 0) → xCall g d mX12_wrong [.ref 655, .int (2 : Int32)] 698 u w r 698 (fun rv37 u37 w37 r37 => rv37 = none ∧ w = w37 ∧ r = r37 ∧ xEv g (d + 1) mX12_readLine 162 [some (.ref 655)] [] 698 u37 w r 698 P)))))))))))))) :
    xCall g (d + 1) mX12_readLine [.ref 655] 698 u w r 698 P :=
  xCall.of plX12 (Nat.le_of_ble_eq_true rfl) rfl (TX12_readLine_0  k)

theorem TX12_readLine_162 {g : xGT} {d : Nat} {u : xU} {w : xW} {r : xQ} {P : xPost}
    (k : (((u 655 2) = 0 ∧ ¬ ((u 655 6) = (59 : Int32))) → xCall g d mX12_wrong [.ref 655, .int (2 : Int32)] 698 u w r 698 (fun rv54 u54 w54 r54 => rv54 = none ∧ w = w54 ∧ r = r54 ∧ xEv g (d + 1) mX12_readLine 183 [some (.ref 655)] [] 698 u54 w r 698 P)) ∧ (¬ ((u 655 2) = 0 ∧ ¬ ((u 655 6) = (59 : Int32))) → xEv g (d + 1) mX12_readLine 183 [some (.ref 655)] [] 698 u w r 698 P)) :
    xEv g (d + 1) mX12_readLine 162 [some (.ref 655)] [] 698 u w r 698 P := by
  refine xe_aload_n dX12_readLine_162 rfl ?_
  refine xe_getI dX12_readLine_163 flX12_185 kk655 (xKK_lt kk655) rfl ?_
  have K55 : ¬ ((u 655 2) = 0 ∧ ¬ ((u 655 6) = (59 : Int32))) → xEv g (d + 1) mX12_readLine 183 [some (.ref 655)] [] 698 u w r 698 P := fun c56 => by
    have k := k.2 c56
    exact k
  refine xe_if_ne (tgt := 183) dX12_readLine_166 rfl (fun c50 => ?_) (fun c51 => ?_)
  · exact K55 (fun q => (c50 q.1))
  · refine xe_aload_n dX12_readLine_169 rfl ?_
    refine xe_getI dX12_readLine_170 flX12_172 kk655 (xKK_lt kk655) rfl ?_
    refine xe_bipush (v := 59) dX12_readLine_173 rfl ?_
    refine xe_icmp_eq (tgt := 183) dX12_readLine_175 rfl (fun c52 => ?_) (fun c53 => ?_)
    · exact K55 (fun q => (q.2 c52))
    · have k := k.1 ⟨c51, c53⟩
      refine xe_aload_n dX12_readLine_178 rfl ?_
      refine xe_iconst (v := 2) dX12_readLine_179 rfl ?_
      refine xe_callV (args := [.int (2 : Int32)]) dX12_readLine_180 vlX12_234 rfl rfl (Nat.le_of_ble_eq_true rfl) kk655 (xKK_lt kk655) rfl rfl k (Nat.le_refl _) (fun rv54 u54 w54 r54 k => ?_)
      obtain ⟨rfl, rfl, rfl, k⟩ := k
      exact k

theorem TX12_readLine_183 {g : xGT} {d : Nat} {u : xU} {w : xW} {r : xQ} {P : xPost}
    (k : ((u 655 2) = 0 → xCall g d mX12_token [.ref 655] 698 u w r 698 (fun rv59 u59 w59 r59 => rv59 = none ∧ r = r59 ∧ P none u59 w59 r)) ∧ (¬ ((u 655 2) = 0) → P none u w r)) :
    xEv g (d + 1) mX12_readLine 183 [some (.ref 655)] [] 698 u w r 698 P := by
  refine xe_aload_n dX12_readLine_183 rfl ?_
  refine xe_getI dX12_readLine_184 flX12_185 kk655 (xKK_lt kk655) rfl ?_
  refine xe_if_ne (tgt := 194) dX12_readLine_187 rfl (fun c57 => ?_) (fun c58 => ?_)
  · have k := k.2 (fun q => (c57 q))
    exact xe_return dX12_readLine_194 trivial k
  · have k := k.1 c58
    refine xe_aload_n dX12_readLine_190 rfl ?_
    refine xe_callV (args := []) dX12_readLine_191 vlX12_237 rfl rfl (Nat.le_of_ble_eq_true rfl) kk655 (xKK_lt kk655) rfl rfl k (Nat.le_refl _) (fun rv59 u59 w59 r59 k => ?_)
    obtain ⟨rfl, rfl, k⟩ := k
    exact xe_return dX12_readLine_194 trivial k

/-! FuneralPostModel.readAll -/

theorem TX12_readAll_0 {g : xGT} {d : Nat} {u : xU} {w : xW} {r : xQ} {P : xPost}
    (k : xCall g d mX12_token [.ref 655] 698 (x2 (x2 (x2 (x2 (x2 (x2 (x2 (x2 (x2 (x2 (x2 (x2 (x2 (x2 (x2 u 655 5 (u 655 1)) 655 1 (0 : Int32)) 655 4 (0 : Int32)) 655 2 (0 : Int32)) 655 3 (-1 : Int32)) 655 43 (0 : Int32)) 655 44 (0 : Int32)) 655 45 (0 : Int32)) 655 46 (0 : Int32)) 655 47 (300 : Int32)) 655 48 (0 : Int32)) 655 54 (0 : Int32)) 655 55 (0 : Int32)) 655 20 (0 : Int32)) 655 17 (0 : Int32)) w r 698 (fun rv1 u1 w1 r1 => rv1 = none ∧ r = r1 ∧ xEv g (d + 1) mX12_readAll 84 [some (.ref 655)] [] 698 u1 w1 r 698 P)) :
    xEv g (d + 1) mX12_readAll 0 [some (.ref 655)] [] 698 u w r 698 P := by
  refine xe_aload_n dX12_readAll_0 rfl ?_
  refine xe_aload_n dX12_readAll_1 rfl ?_
  refine xe_getI dX12_readAll_2 flX12_145 kk655 (xKK_lt kk655) rfl ?_
  refine xe_putI dX12_readAll_5 flX12_155 kk655 (xKK_lt kk655) nf12_5 rfl ?_
  refine xe_aload_n dX12_readAll_8 rfl ?_
  refine xe_iconst (v := 0) dX12_readAll_9 rfl ?_
  refine xe_putI dX12_readAll_10 flX12_145 kk655 (xKK_lt kk655) nf12_1 rfl ?_
  refine xe_aload_n dX12_readAll_13 rfl ?_
  refine xe_iconst (v := 0) dX12_readAll_14 rfl ?_
  refine xe_putI dX12_readAll_15 flX12_152 kk655 (xKK_lt kk655) nf12_4 rfl ?_
  refine xe_aload_n dX12_readAll_18 rfl ?_
  refine xe_iconst (v := 0) dX12_readAll_19 rfl ?_
  refine xe_putI dX12_readAll_20 flX12_185 kk655 (xKK_lt kk655) nf12_2 rfl ?_
  refine xe_aload_n dX12_readAll_23 rfl ?_
  refine xe_iconst (v := -1) dX12_readAll_24 rfl ?_
  refine xe_putI dX12_readAll_25 flX12_13 kk655 (xKK_lt kk655) nf12_3 rfl ?_
  refine xe_aload_n dX12_readAll_28 rfl ?_
  refine xe_iconst (v := 0) dX12_readAll_29 rfl ?_
  refine xe_putI dX12_readAll_30 flX12_258 kk655 (xKK_lt kk655) nf12_43 rfl ?_
  refine xe_aload_n dX12_readAll_33 rfl ?_
  refine xe_iconst (v := 0) dX12_readAll_34 rfl ?_
  refine xe_putI dX12_readAll_35 flX12_335 kk655 (xKK_lt kk655) nf12_44 rfl ?_
  refine xe_aload_n dX12_readAll_38 rfl ?_
  refine xe_iconst (v := 0) dX12_readAll_39 rfl ?_
  refine xe_putI dX12_readAll_40 flX12_342 kk655 (xKK_lt kk655) nf12_45 rfl ?_
  refine xe_aload_n dX12_readAll_43 rfl ?_
  refine xe_iconst (v := 0) dX12_readAll_44 rfl ?_
  refine xe_putI dX12_readAll_45 flX12_356 kk655 (xKK_lt kk655) nf12_46 rfl ?_
  refine xe_aload_n dX12_readAll_48 rfl ?_
  refine xe_sipush (v := 300) dX12_readAll_49 rfl ?_
  refine xe_putI dX12_readAll_52 flX12_362 kk655 (xKK_lt kk655) nf12_47 rfl ?_
  refine xe_aload_n dX12_readAll_55 rfl ?_
  refine xe_iconst (v := 0) dX12_readAll_56 rfl ?_
  refine xe_putI dX12_readAll_57 flX12_365 kk655 (xKK_lt kk655) nf12_48 rfl ?_
  refine xe_aload_n dX12_readAll_60 rfl ?_
  refine xe_iconst (v := 0) dX12_readAll_61 rfl ?_
  refine xe_putZ dX12_readAll_62 flX12_380 kk655 (xKK_lt kk655) nf12_54 rfl (Or.inl rfl) ?_
  refine xe_aload_n dX12_readAll_65 rfl ?_
  refine xe_iconst (v := 0) dX12_readAll_66 rfl ?_
  refine xe_putZ dX12_readAll_67 flX12_359 kk655 (xKK_lt kk655) nf12_55 rfl (Or.inl rfl) ?_
  refine xe_aload_n dX12_readAll_70 rfl ?_
  refine xe_iconst (v := 0) dX12_readAll_71 rfl ?_
  refine xe_putI dX12_readAll_72 flX12_281 kk655 (xKK_lt kk655) nf12_20 rfl ?_
  refine xe_aload_n dX12_readAll_75 rfl ?_
  refine xe_iconst (v := 0) dX12_readAll_76 rfl ?_
  refine xe_putI dX12_readAll_77 flX12_265 kk655 (xKK_lt kk655) nf12_17 rfl ?_
  refine xe_aload_n dX12_readAll_80 rfl ?_
  refine xe_callV (args := []) dX12_readAll_81 vlX12_237 rfl rfl (Nat.le_of_ble_eq_true rfl) kk655 (xKK_lt kk655) rfl rfl k (Nat.le_refl _) (fun rv1 u1 w1 r1 k => ?_)
  obtain ⟨rfl, rfl, k⟩ := k
  exact k

theorem CX12_readAll {g : xGT} {d : Nat} {u : xU} {w : xW} {r : xQ} {P : xPost}
    (k : xCall g d mX12_token [.ref 655] 698 (x2 (x2 (x2 (x2 (x2 (x2 (x2 (x2 (x2 (x2 (x2 (x2 (x2 (x2 (x2 u 655 5 (u 655 1)) 655 1 (0 : Int32)) 655 4 (0 : Int32)) 655 2 (0 : Int32)) 655 3 (-1 : Int32)) 655 43 (0 : Int32)) 655 44 (0 : Int32)) 655 45 (0 : Int32)) 655 46 (0 : Int32)) 655 47 (300 : Int32)) 655 48 (0 : Int32)) 655 54 (0 : Int32)) 655 55 (0 : Int32)) 655 20 (0 : Int32)) 655 17 (0 : Int32)) w r 698 (fun rv1 u1 w1 r1 => rv1 = none ∧ r = r1 ∧ xEv g (d + 1) mX12_readAll 84 [some (.ref 655)] [] 698 u1 w1 r 698 P)) :
    xCall g (d + 1) mX12_readAll [.ref 655] 698 u w r 698 P :=
  xCall.of plX12 (Nat.le_of_ble_eq_true rfl) rfl (TX12_readAll_0  k)

theorem TX12_readAll_84 {g : xGT} {d : Nat} {u : xU} {w : xW} {r : xQ} {P : xPost}
    (k : (((u 655 2) = 0 ∧ ¬ ((u 655 6) = 0)) → xCall g d mX12_readLine [.ref 655] 698 u w r 698 (fun rv6 u6 w6 r6 => rv6 = none ∧ r = r6 ∧ xEv g (d + 1) mX12_readAll 84 [some (.ref 655)] [] 698 u6 w6 r 698 P)) ∧ (¬ ((u 655 2) = 0 ∧ ¬ ((u 655 6) = 0)) → P none u w r)) :
    xEv g (d + 1) mX12_readAll 84 [some (.ref 655)] [] 698 u w r 698 P := by
  refine xe_aload_n dX12_readAll_84 rfl ?_
  refine xe_getI dX12_readAll_85 flX12_185 kk655 (xKK_lt kk655) rfl ?_
  have K7 : ¬ ((u 655 2) = 0 ∧ ¬ ((u 655 6) = 0)) → xEv g (d + 1) mX12_readAll 105 [some (.ref 655)] [] 698 u w r 698 P := fun c8 => by
    have k := k.2 c8
    exact xe_return dX12_readAll_105 trivial k
  refine xe_if_ne (tgt := 105) dX12_readAll_88 rfl (fun c2 => ?_) (fun c3 => ?_)
  · exact K7 (fun q => (c2 q.1))
  · refine xe_aload_n dX12_readAll_91 rfl ?_
    refine xe_getI dX12_readAll_92 flX12_172 kk655 (xKK_lt kk655) rfl ?_
    refine xe_if_eq (tgt := 105) dX12_readAll_95 rfl (fun c4 => ?_) (fun c5 => ?_)
    · exact K7 (fun q => (q.2 c4))
    · have k := k.1 ⟨c3, c5⟩
      refine xe_aload_n dX12_readAll_98 rfl ?_
      refine xe_callV (args := []) dX12_readAll_99 vlX12_389 rfl rfl (Nat.le_of_ble_eq_true rfl) kk655 (xKK_lt kk655) rfl rfl k (Nat.le_refl _) (fun rv6 u6 w6 r6 k => ?_)
      obtain ⟨rfl, rfl, k⟩ := k
      refine xe_goto (tgt := 84) dX12_readAll_102 rfl ?_
      exact k

/-! FuneralPostModel.land -/

theorem TX12_land_0 {g : xGT} {d : Nat} {u : xU} {w : xW} {r : xQ} {P : xPost}
    (k : xCall g d mX12_readAll [.ref 655] 698 u w r 698 (fun rv1 u1 w1 r1 => rv1 = none ∧ r = r1 ∧ ((u1 655 2) ≤ 0 → ((u1 655 54) = 0 ∨ (u1 655 54) = 1) ∧ (xEv g (d + 1) mX12_land 90 [some (.ref 655), some (.int (0 : Int32))] [] 698 (x2 (x2 (x2 (x2 (x2 (x2 (x2 (x2 u1 655 49 (u1 655 43)) 655 50 (u1 655 44)) 655 51 (u1 655 45)) 655 52 (u1 655 47)) 655 53 (u1 655 48)) 655 21 (u1 655 20)) 655 56 (u1 655 54)) 655 18 (if (u1 655 54) = 0 then (0 : Int32) else (u1 655 17))) w1 r 698 P)) ∧ (¬ ((u1 655 2) ≤ 0) → P (some (.int (-1 : Int32))) u1 w1 r))) :
    xEv g (d + 1) mX12_land 0 [some (.ref 655), none] [] 698 u w r 698 P := by
  refine xe_aload_n dX12_land_0 rfl ?_
  refine xe_callV (args := []) dX12_land_1 vlX12_392 rfl rfl (Nat.le_of_ble_eq_true rfl) kk655 (xKK_lt kk655) rfl rfl k (Nat.le_refl _) (fun rv1 u1 w1 r1 k => ?_)
  obtain ⟨rfl, rfl, k⟩ := k
  refine xe_aload_n dX12_land_4 rfl ?_
  refine xe_getI dX12_land_5 flX12_185 kk655 (xKK_lt kk655) rfl ?_
  refine xe_if_le (tgt := 13) dX12_land_8 rfl (fun c2 => ?_) (fun c3 => ?_)
  · have k := k.1 c2
    refine xe_aload_n dX12_land_13 rfl ?_
    refine xe_aload_n dX12_land_14 rfl ?_
    refine xe_getI dX12_land_15 flX12_258 kk655 (xKK_lt kk655) rfl ?_
    refine xe_putI dX12_land_18 flX12_395 kk655 (xKK_lt kk655) nf12_49 rfl ?_
    refine xe_aload_n dX12_land_21 rfl ?_
    refine xe_aload_n dX12_land_22 rfl ?_
    refine xe_getI dX12_land_23 flX12_335 kk655 (xKK_lt kk655) rfl ?_
    refine xe_putI dX12_land_26 flX12_398 kk655 (xKK_lt kk655) nf12_50 rfl ?_
    refine xe_aload_n dX12_land_29 rfl ?_
    refine xe_aload_n dX12_land_30 rfl ?_
    refine xe_getI dX12_land_31 flX12_342 kk655 (xKK_lt kk655) rfl ?_
    refine xe_putI dX12_land_34 flX12_401 kk655 (xKK_lt kk655) nf12_51 rfl ?_
    refine xe_aload_n dX12_land_37 rfl ?_
    refine xe_aload_n dX12_land_38 rfl ?_
    refine xe_getI dX12_land_39 flX12_362 kk655 (xKK_lt kk655) rfl ?_
    refine xe_putI dX12_land_42 flX12_96 kk655 (xKK_lt kk655) nf12_52 rfl ?_
    refine xe_aload_n dX12_land_45 rfl ?_
    refine xe_aload_n dX12_land_46 rfl ?_
    refine xe_getI dX12_land_47 flX12_365 kk655 (xKK_lt kk655) rfl ?_
    refine xe_putI dX12_land_50 flX12_404 kk655 (xKK_lt kk655) nf12_53 rfl ?_
    refine xe_aload_n dX12_land_53 rfl ?_
    refine xe_aload_n dX12_land_54 rfl ?_
    refine xe_getI dX12_land_55 flX12_281 kk655 (xKK_lt kk655) rfl ?_
    refine xe_putI dX12_land_58 flX12_407 kk655 (xKK_lt kk655) nf12_21 rfl ?_
    refine xe_aload_n dX12_land_61 rfl ?_
    refine xe_aload_n dX12_land_62 rfl ?_
    refine xe_getI dX12_land_63 flX12_380 kk655 (xKK_lt kk655) rfl ?_
    obtain ⟨z4, k⟩ := k
    refine xe_putZ dX12_land_66 flX12_321 kk655 (xKK_lt kk655) nf12_56 rfl z4 ?_
    refine xe_aload_n dX12_land_69 rfl ?_
    refine xe_aload_n dX12_land_70 rfl ?_
    refine xe_getI dX12_land_71 flX12_380 kk655 (xKK_lt kk655) rfl ?_
    have K7 : xEv g (d + 1) mX12_land 85 [some (.ref 655), none] [.int (if (u1 655 54) = 0 then (0 : Int32) else (u1 655 17)), .ref 655] 698 (x2 (x2 (x2 (x2 (x2 (x2 (x2 u1 655 49 (u1 655 43)) 655 50 (u1 655 44)) 655 51 (u1 655 45)) 655 52 (u1 655 47)) 655 53 (u1 655 48)) 655 21 (u1 655 20)) 655 56 (u1 655 54)) w1 r 698 P := by
      refine xe_putI dX12_land_85 flX12_325 kk655 (xKK_lt kk655) nf12_18 rfl ?_
      refine xe_iconst (v := 0) dX12_land_88 rfl ?_
      refine xe_istore_n (ls' := [some (.ref 655), some (.int (0 : Int32))]) dX12_land_89 rfl (by decide) rfl ?_
      exact k
    refine xe_if_eq (tgt := 84) dX12_land_74 rfl (fun c5 => ?_) (fun c6 => ?_)
    · refine xe_iconst (v := 0) dX12_land_84 rfl ?_
      exact xtop (if_pos c5) K7
    · refine xe_aload_n dX12_land_77 rfl ?_
      refine xe_getI dX12_land_78 flX12_265 kk655 (xKK_lt kk655) rfl ?_
      refine xe_goto (tgt := 85) dX12_land_81 rfl ?_
      exact xtop (if_neg (fun q => (c6 q))) K7
  · have k := k.2 (fun q => (c3 q))
    refine xe_iconst (v := -1) dX12_land_11 rfl ?_
    exact xe_ireturn dX12_land_12 rfl k

theorem CX12_land {g : xGT} {d : Nat} {u : xU} {w : xW} {r : xQ} {P : xPost}
    (k : xCall g d mX12_readAll [.ref 655] 698 u w r 698 (fun rv1 u1 w1 r1 => rv1 = none ∧ r = r1 ∧ ((u1 655 2) ≤ 0 → ((u1 655 54) = 0 ∨ (u1 655 54) = 1) ∧ (xEv g (d + 1) mX12_land 90 [some (.ref 655), some (.int (0 : Int32))] [] 698 (x2 (x2 (x2 (x2 (x2 (x2 (x2 (x2 u1 655 49 (u1 655 43)) 655 50 (u1 655 44)) 655 51 (u1 655 45)) 655 52 (u1 655 47)) 655 53 (u1 655 48)) 655 21 (u1 655 20)) 655 56 (u1 655 54)) 655 18 (if (u1 655 54) = 0 then (0 : Int32) else (u1 655 17))) w1 r 698 P)) ∧ (¬ ((u1 655 2) ≤ 0) → P (some (.int (-1 : Int32))) u1 w1 r))) :
    xCall g (d + 1) mX12_land [.ref 655] 698 u w r 698 P :=
  xCall.of plX12 (Nat.le_of_ble_eq_true rfl) rfl (TX12_land_0  k)

theorem TX12_land_90 {g : xGT} {d : Nat} {i1 : Int32} {u : xU} {w : xW} {r : xQ} {P : xPost} (hr : xRf r)
    (k : ((u 655 18) ≤ i1 → xEv g (d + 1) mX12_land 130 [some (.ref 655), some (.int (0 : Int32))] [] 698 u w r 698 P) ∧ (¬ ((u 655 18) ≤ i1) → vp_in i1 320 ∧ (xEv g (d + 1) mX12_land 90 [some (.ref 655), some (.int (i1 + (1 : Int32)))] [] 698 (x2 (x2 u 660 i1.toNatClampNeg (u 658 i1.toNatClampNeg)) 661 i1.toNatClampNeg (u 659 i1.toNatClampNeg)) w r 698 P))) :
    xEv g (d + 1) mX12_land 90 [some (.ref 655), some (.int i1)] [] 698 u w r 698 P := by
  refine xe_iload_n dX12_land_90 rfl ?_
  refine xe_aload_n dX12_land_91 rfl ?_
  refine xe_getI dX12_land_92 flX12_325 kk655 (xKK_lt kk655) rfl ?_
  refine xe_icmp_ge (tgt := 128) dX12_land_95 rfl (fun c8 => ?_) (fun c9 => ?_)
  · have k := k.1 c8
    refine xe_iconst (v := 0) dX12_land_128 rfl ?_
    refine xe_istore_n (ls' := [some (.ref 655), some (.int (0 : Int32))]) dX12_land_129 rfl (by decide) rfl ?_
    exact k
  · have k := k.2 (fun q => (c9 q))
    refine xe_aload_n dX12_land_98 rfl ?_
    refine xe_getR (b := 660) dX12_land_99 flX12_27 kk655 (xKK_lt kk655) rfl (rf655_13 hr) ?_
    refine xe_iload_n dX12_land_102 rfl ?_
    refine xe_aload_n dX12_land_103 rfl ?_
    refine xe_getR (b := 658) dX12_land_104 flX12_21 kk655 (xKK_lt kk655) rfl (rf655_11 hr) ?_
    refine xe_iload_n dX12_land_107 rfl ?_
    obtain ⟨b10, k⟩ := k
    refine xe_iald dX12_land_108 kk658 (xKK_lt kk658) b10 ?_
    refine xe_iast dX12_land_109 kk660 (xKK_lt kk660) b10 ?_
    refine xe_aload_n dX12_land_110 rfl ?_
    refine xe_getR (b := 661) dX12_land_111 flX12_30 kk655 (xKK_lt kk655) rfl (rf655_14 hr) ?_
    refine xe_iload_n dX12_land_114 rfl ?_
    refine xe_aload_n dX12_land_115 rfl ?_
    refine xe_getR (b := 659) dX12_land_116 flX12_24 kk655 (xKK_lt kk655) rfl (rf655_12 hr) ?_
    refine xe_iload_n dX12_land_119 rfl ?_
    refine xe_iald dX12_land_120 kk659 (xKK_lt kk659) b10 ?_
    refine xe_iast dX12_land_121 kk661 (xKK_lt kk661) b10 ?_
    refine xe_iinc (v := (i1 + (1 : Int32))) (ls' := [some (.ref 655), some (.int (i1 + (1 : Int32)))]) dX12_land_122 rfl (by decide) rfl rfl ?_
    refine xe_goto (tgt := 90) dX12_land_125 rfl ?_
    exact k

theorem TX12_land_130 {g : xGT} {d : Nat} {i1 : Int32} {u : xU} {w : xW} {r : xQ} {P : xPost} (hr : xRf r)
    (k : ((12 : Int32) ≤ i1 → xEv g (d + 1) mX12_land 180 [some (.ref 655), some (.int (0 : Int32))] [] 698 u w r 698 P) ∧ (¬ ((12 : Int32) ≤ i1) → vp_in i1 12 ∧ (xEv g (d + 1) mX12_land 130 [some (.ref 655), some (.int (i1 + (1 : Int32)))] [] 698 (x2 (x2 (x2 u 668 i1.toNatClampNeg (u 665 i1.toNatClampNeg)) 669 i1.toNatClampNeg (u 666 i1.toNatClampNeg)) 670 i1.toNatClampNeg (u 667 i1.toNatClampNeg)) w r 698 P))) :
    xEv g (d + 1) mX12_land 130 [some (.ref 655), some (.int i1)] [] 698 u w r 698 P := by
  refine xe_iload_n dX12_land_130 rfl ?_
  refine xe_bipush (v := 12) dX12_land_131 rfl ?_
  refine xe_icmp_ge (tgt := 178) dX12_land_133 rfl (fun c11 => ?_) (fun c12 => ?_)
  · have k := k.1 c11
    refine xe_iconst (v := 0) dX12_land_178 rfl ?_
    refine xe_istore_n (ls' := [some (.ref 655), some (.int (0 : Int32))]) dX12_land_179 rfl (by decide) rfl ?_
    exact k
  · have k := k.2 (fun q => (c12 q))
    refine xe_aload_n dX12_land_136 rfl ?_
    refine xe_getR (b := 668) dX12_land_137 flX12_51 kk655 (xKK_lt kk655) rfl (rf655_28 hr) ?_
    refine xe_iload_n dX12_land_140 rfl ?_
    refine xe_aload_n dX12_land_141 rfl ?_
    refine xe_getR (b := 665) dX12_land_142 flX12_42 kk655 (xKK_lt kk655) rfl (rf655_25 hr) ?_
    refine xe_iload_n dX12_land_145 rfl ?_
    obtain ⟨b13, k⟩ := k
    refine xe_iald dX12_land_146 kk665 (xKK_lt kk665) b13 ?_
    refine xe_iast dX12_land_147 kk668 (xKK_lt kk668) b13 ?_
    refine xe_aload_n dX12_land_148 rfl ?_
    refine xe_getR (b := 669) dX12_land_149 flX12_54 kk655 (xKK_lt kk655) rfl (rf655_29 hr) ?_
    refine xe_iload_n dX12_land_152 rfl ?_
    refine xe_aload_n dX12_land_153 rfl ?_
    refine xe_getR (b := 666) dX12_land_154 flX12_45 kk655 (xKK_lt kk655) rfl (rf655_26 hr) ?_
    refine xe_iload_n dX12_land_157 rfl ?_
    refine xe_iald dX12_land_158 kk666 (xKK_lt kk666) b13 ?_
    refine xe_iast dX12_land_159 kk669 (xKK_lt kk669) b13 ?_
    refine xe_aload_n dX12_land_160 rfl ?_
    refine xe_getR (b := 670) dX12_land_161 flX12_57 kk655 (xKK_lt kk655) rfl (rf655_30 hr) ?_
    refine xe_iload_n dX12_land_164 rfl ?_
    refine xe_aload_n dX12_land_165 rfl ?_
    refine xe_getR (b := 667) dX12_land_166 flX12_48 kk655 (xKK_lt kk655) rfl (rf655_27 hr) ?_
    refine xe_iload_n dX12_land_169 rfl ?_
    refine xe_iald dX12_land_170 kk667 (xKK_lt kk667) b13 ?_
    refine xe_iast dX12_land_171 kk670 (xKK_lt kk670) b13 ?_
    refine xe_iinc (v := (i1 + (1 : Int32))) (ls' := [some (.ref 655), some (.int (i1 + (1 : Int32)))]) dX12_land_172 rfl (by decide) rfl rfl ?_
    refine xe_goto (tgt := 130) dX12_land_175 rfl ?_
    exact k

theorem TX12_land_180 {g : xGT} {d : Nat} {i1 : Int32} {u : xU} {w : xW} {r : xQ} {P : xPost} (hr : xRf r)
    (k : ((91 : Int32) ≤ i1 → xEv g (d + 1) mX12_land 201 [some (.ref 655), some (.int (0 : Int32))] [] 698 u w r 698 P) ∧ (¬ ((91 : Int32) ≤ i1) → vp_in i1 92 ∧ (xEv g (d + 1) mX12_land 180 [some (.ref 655), some (.int (i1 + (1 : Int32)))] [] 698 (x2 u 683 i1.toNatClampNeg (0 : Int32)) w r 698 P))) :
    xEv g (d + 1) mX12_land 180 [some (.ref 655), some (.int i1)] [] 698 u w r 698 P := by
  refine xe_iload_n dX12_land_180 rfl ?_
  refine xe_bipush (v := 91) dX12_land_181 rfl ?_
  refine xe_icmp_ge (tgt := 199) dX12_land_183 rfl (fun c14 => ?_) (fun c15 => ?_)
  · have k := k.1 c14
    refine xe_iconst (v := 0) dX12_land_199 rfl ?_
    refine xe_istore_n (ls' := [some (.ref 655), some (.int (0 : Int32))]) dX12_land_200 rfl (by decide) rfl ?_
    exact k
  · have k := k.2 (fun q => (c15 q))
    refine xe_aload_n dX12_land_186 rfl ?_
    refine xe_getR (b := 683) dX12_land_187 flX12_99 kk655 (xKK_lt kk655) rfl (rf655_57 hr) ?_
    refine xe_iload_n dX12_land_190 rfl ?_
    refine xe_iconst (v := 0) dX12_land_191 rfl ?_
    obtain ⟨b16, k⟩ := k
    refine xe_iast dX12_land_192 kk683 (xKK_lt kk683) b16 ?_
    refine xe_iinc (v := (i1 + (1 : Int32))) (ls' := [some (.ref 655), some (.int (i1 + (1 : Int32)))]) dX12_land_193 rfl (by decide) rfl rfl ?_
    refine xe_goto (tgt := 180) dX12_land_196 rfl ?_
    exact k

theorem TX12_land_201 {g : xGT} {d : Nat} {i1 : Int32} {u : xU} {w : xW} {r : xQ} {P : xPost} (hr : xRf r)
    (k : ((6 : Int32) ≤ i1 → xEv g (d + 1) mX12_land 311 [some (.ref 655), some (.int (0 : Int32))] [] 698 (x2 u 683 88 (u 655 46)) w r 698 P) ∧ (¬ ((6 : Int32) ≤ i1) → vp_in i1 6 ∧ (vp_in ((6 : Int32) + i1) 92 ∧ (vp_in ((12 : Int32) + i1) 92 ∧ (xEv g (d + 1) mX12_land 201 [some (.ref 655), some (.int (i1 + (1 : Int32)))] [] 698 (x2 (x2 (x2 (x2 (x2 (x2 u 675 i1.toNatClampNeg (u 671 i1.toNatClampNeg)) 676 i1.toNatClampNeg (u 672 i1.toNatClampNeg)) 677 i1.toNatClampNeg (u 673 i1.toNatClampNeg)) 678 i1.toNatClampNeg (u 674 i1.toNatClampNeg)) 683 ((6 : Int32) + i1).toNatClampNeg (if (u 655 51) ≤ i1 then (0 : Int32) else (u 671 i1.toNatClampNeg))) 683 ((12 : Int32) + i1).toNatClampNeg (-1 : Int32)) w r 698 P))))) :
    xEv g (d + 1) mX12_land 201 [some (.ref 655), some (.int i1)] [] 698 u w r 698 P := by
  refine xe_iload_n dX12_land_201 rfl ?_
  refine xe_bipush (v := 6) dX12_land_202 rfl ?_
  refine xe_icmp_ge (tgt := 298) dX12_land_204 rfl (fun c17 => ?_) (fun c18 => ?_)
  · have k := k.1 c17
    refine xe_aload_n dX12_land_298 rfl ?_
    refine xe_getR (b := 683) dX12_land_299 flX12_99 kk655 (xKK_lt kk655) rfl (rf655_57 hr) ?_
    refine xe_bipush (v := 88) dX12_land_302 rfl ?_
    refine xe_aload_n dX12_land_304 rfl ?_
    refine xe_getI dX12_land_305 flX12_356 kk655 (xKK_lt kk655) rfl ?_
    refine xe_iast dX12_land_308 kk683 (xKK_lt kk683) (show ¬ ((88 : Int32) < 0 ∨ 92 ≤ (88 : Int32).toNatClampNeg) from by decide) ?_
    refine xe_iconst (v := 0) dX12_land_309 rfl ?_
    refine xe_istore_n (ls' := [some (.ref 655), some (.int (0 : Int32))]) dX12_land_310 rfl (by decide) rfl ?_
    exact k
  · have k := k.2 (fun q => (c18 q))
    refine xe_aload_n dX12_land_207 rfl ?_
    refine xe_getR (b := 675) dX12_land_208 flX12_72 kk655 (xKK_lt kk655) rfl (rf655_35 hr) ?_
    refine xe_iload_n dX12_land_211 rfl ?_
    refine xe_aload_n dX12_land_212 rfl ?_
    refine xe_getR (b := 671) dX12_land_213 flX12_60 kk655 (xKK_lt kk655) rfl (rf655_31 hr) ?_
    refine xe_iload_n dX12_land_216 rfl ?_
    obtain ⟨b19, k⟩ := k
    refine xe_iald dX12_land_217 kk671 (xKK_lt kk671) b19 ?_
    refine xe_iast dX12_land_218 kk675 (xKK_lt kk675) b19 ?_
    refine xe_aload_n dX12_land_219 rfl ?_
    refine xe_getR (b := 676) dX12_land_220 flX12_75 kk655 (xKK_lt kk655) rfl (rf655_36 hr) ?_
    refine xe_iload_n dX12_land_223 rfl ?_
    refine xe_aload_n dX12_land_224 rfl ?_
    refine xe_getR (b := 672) dX12_land_225 flX12_63 kk655 (xKK_lt kk655) rfl (rf655_32 hr) ?_
    refine xe_iload_n dX12_land_228 rfl ?_
    refine xe_iald dX12_land_229 kk672 (xKK_lt kk672) b19 ?_
    refine xe_iast dX12_land_230 kk676 (xKK_lt kk676) b19 ?_
    refine xe_aload_n dX12_land_231 rfl ?_
    refine xe_getR (b := 677) dX12_land_232 flX12_78 kk655 (xKK_lt kk655) rfl (rf655_37 hr) ?_
    refine xe_iload_n dX12_land_235 rfl ?_
    refine xe_aload_n dX12_land_236 rfl ?_
    refine xe_getR (b := 673) dX12_land_237 flX12_66 kk655 (xKK_lt kk655) rfl (rf655_33 hr) ?_
    refine xe_iload_n dX12_land_240 rfl ?_
    refine xe_iald dX12_land_241 kk673 (xKK_lt kk673) b19 ?_
    refine xe_iast dX12_land_242 kk677 (xKK_lt kk677) b19 ?_
    refine xe_aload_n dX12_land_243 rfl ?_
    refine xe_getR (b := 678) dX12_land_244 flX12_81 kk655 (xKK_lt kk655) rfl (rf655_38 hr) ?_
    refine xe_iload_n dX12_land_247 rfl ?_
    refine xe_aload_n dX12_land_248 rfl ?_
    refine xe_getR (b := 674) dX12_land_249 flX12_69 kk655 (xKK_lt kk655) rfl (rf655_34 hr) ?_
    refine xe_iload_n dX12_land_252 rfl ?_
    refine xe_iald dX12_land_253 kk674 (xKK_lt kk674) b19 ?_
    refine xe_iast dX12_land_254 kk678 (xKK_lt kk678) b19 ?_
    refine xe_aload_n dX12_land_255 rfl ?_
    refine xe_getR (b := 683) dX12_land_256 flX12_99 kk655 (xKK_lt kk655) rfl (rf655_57 hr) ?_
    refine xe_bipush (v := 6) dX12_land_259 rfl ?_
    refine xe_iload_n dX12_land_261 rfl ?_
    refine xe_iadd dX12_land_262 ?_
    refine xe_iload_n dX12_land_263 rfl ?_
    refine xe_aload_n dX12_land_264 rfl ?_
    refine xe_getI dX12_land_265 flX12_401 kk655 (xKK_lt kk655) rfl ?_
    have K24 : xEv g (d + 1) mX12_land 281 [some (.ref 655), some (.int i1)] [.int (if (u 655 51) ≤ i1 then (0 : Int32) else (u 671 i1.toNatClampNeg)), .int ((6 : Int32) + i1), .ref 683] 698 (x2 (x2 (x2 (x2 u 675 i1.toNatClampNeg (u 671 i1.toNatClampNeg)) 676 i1.toNatClampNeg (u 672 i1.toNatClampNeg)) 677 i1.toNatClampNeg (u 673 i1.toNatClampNeg)) 678 i1.toNatClampNeg (u 674 i1.toNatClampNeg)) w r 698 P := by
      obtain ⟨b22, k⟩ := k
      refine xe_iast dX12_land_281 kk683 (xKK_lt kk683) b22 ?_
      refine xe_aload_n dX12_land_282 rfl ?_
      refine xe_getR (b := 683) dX12_land_283 flX12_99 kk655 (xKK_lt kk655) rfl (rf655_57 hr) ?_
      refine xe_bipush (v := 12) dX12_land_286 rfl ?_
      refine xe_iload_n dX12_land_288 rfl ?_
      refine xe_iadd dX12_land_289 ?_
      refine xe_iconst (v := -1) dX12_land_290 rfl ?_
      obtain ⟨b23, k⟩ := k
      refine xe_iast dX12_land_291 kk683 (xKK_lt kk683) b23 ?_
      refine xe_iinc (v := (i1 + (1 : Int32))) (ls' := [some (.ref 655), some (.int (i1 + (1 : Int32)))]) dX12_land_292 rfl (by decide) rfl rfl ?_
      refine xe_goto (tgt := 201) dX12_land_295 rfl ?_
      exact k
    refine xe_icmp_ge (tgt := 280) dX12_land_268 rfl (fun c20 => ?_) (fun c21 => ?_)
    · refine xe_iconst (v := 0) dX12_land_280 rfl ?_
      exact xtop (if_pos c20) K24
    · refine xe_aload_n dX12_land_271 rfl ?_
      refine xe_getR (b := 671) dX12_land_272 flX12_60 kk655 (xKK_lt kk655) rfl (rf655_31 hr) ?_
      refine xe_iload_n dX12_land_275 rfl ?_
      refine xe_iald dX12_land_276 kk671 (xKK_lt kk671) b19 ?_
      refine xe_goto (tgt := 281) dX12_land_277 rfl ?_
      exact xtop (if_neg (fun q => (c21 q))) K24

theorem TX12_land_311 {g : xGT} {d : Nat} {i1 : Int32} {u : xU} {w : xW} {r : xQ} {P : xPost} (hr : xRf r)
    (k : ((u 655 46) ≤ i1 → xEv g (d + 1) mX12_land 376 [some (.ref 655), some (.int (0 : Int32))] [] 698 (x2 (x2 (x2 (x2 u 655 63 (0 : Int32)) 655 64 (0 : Int32)) 655 73 (0 : Int32)) 655 68 (0 : Int32)) w r 698 P) ∧ (¬ ((u 655 46) ≤ i1) → vp_in i1 8 ∧ (xCall g d mX12_layLetter [.ref 655, .int i1, .int (u 679 i1.toNatClampNeg), .int (u 680 i1.toNatClampNeg), .int (u 681 i1.toNatClampNeg), .int (u 682 i1.toNatClampNeg)] 698 u w r 698 (fun rv28 u28 w28 r28 => rv28 = none ∧ w = w28 ∧ r = r28 ∧ xEv g (d + 1) mX12_land 311 [some (.ref 655), some (.int (i1 + (1 : Int32)))] [] 698 u28 w r 698 P)))) :
    xEv g (d + 1) mX12_land 311 [some (.ref 655), some (.int i1)] [] 698 u w r 698 P := by
  refine xe_iload_n dX12_land_311 rfl ?_
  refine xe_aload_n dX12_land_312 rfl ?_
  refine xe_getI dX12_land_313 flX12_356 kk655 (xKK_lt kk655) rfl ?_
  refine xe_icmp_ge (tgt := 354) dX12_land_316 rfl (fun c25 => ?_) (fun c26 => ?_)
  · have k := k.1 c25
    refine xe_aload_n dX12_land_354 rfl ?_
    refine xe_iconst (v := 0) dX12_land_355 rfl ?_
    refine xe_putI dX12_land_356 flX12_414 kk655 (xKK_lt kk655) nf12_63 rfl ?_
    refine xe_aload_n dX12_land_359 rfl ?_
    refine xe_iconst (v := 0) dX12_land_360 rfl ?_
    refine xe_putI dX12_land_361 flX12_417 kk655 (xKK_lt kk655) nf12_64 rfl ?_
    refine xe_aload_n dX12_land_364 rfl ?_
    refine xe_iconst (v := 0) dX12_land_365 rfl ?_
    refine xe_putI dX12_land_366 flX12_420 kk655 (xKK_lt kk655) nf12_73 rfl ?_
    refine xe_aload_n dX12_land_369 rfl ?_
    refine xe_iconst (v := 0) dX12_land_370 rfl ?_
    refine xe_putI dX12_land_371 flX12_423 kk655 (xKK_lt kk655) nf12_68 rfl ?_
    refine xe_iconst (v := 0) dX12_land_374 rfl ?_
    refine xe_istore_n (ls' := [some (.ref 655), some (.int (0 : Int32))]) dX12_land_375 rfl (by decide) rfl ?_
    exact k
  · have k := k.2 (fun q => (c26 q))
    refine xe_aload_n dX12_land_319 rfl ?_
    refine xe_iload_n dX12_land_320 rfl ?_
    refine xe_aload_n dX12_land_321 rfl ?_
    refine xe_getR (b := 679) dX12_land_322 flX12_84 kk655 (xKK_lt kk655) rfl (rf655_39 hr) ?_
    refine xe_iload_n dX12_land_325 rfl ?_
    obtain ⟨b27, k⟩ := k
    refine xe_iald dX12_land_326 kk679 (xKK_lt kk679) b27 ?_
    refine xe_aload_n dX12_land_327 rfl ?_
    refine xe_getR (b := 680) dX12_land_328 flX12_87 kk655 (xKK_lt kk655) rfl (rf655_40 hr) ?_
    refine xe_iload_n dX12_land_331 rfl ?_
    refine xe_iald dX12_land_332 kk680 (xKK_lt kk680) b27 ?_
    refine xe_aload_n dX12_land_333 rfl ?_
    refine xe_getR (b := 681) dX12_land_334 flX12_90 kk655 (xKK_lt kk655) rfl (rf655_41 hr) ?_
    refine xe_iload_n dX12_land_337 rfl ?_
    refine xe_iald dX12_land_338 kk681 (xKK_lt kk681) b27 ?_
    refine xe_aload_n dX12_land_339 rfl ?_
    refine xe_getR (b := 682) dX12_land_340 flX12_93 kk655 (xKK_lt kk655) rfl (rf655_42 hr) ?_
    refine xe_iload_n dX12_land_343 rfl ?_
    refine xe_iald dX12_land_344 kk682 (xKK_lt kk682) b27 ?_
    refine xe_callV (args := [.int i1, .int (u 679 i1.toNatClampNeg), .int (u 680 i1.toNatClampNeg), .int (u 681 i1.toNatClampNeg), .int (u 682 i1.toNatClampNeg)]) dX12_land_345 vlX12_410 rfl rfl (Nat.le_of_ble_eq_true rfl) kk655 (xKK_lt kk655) rfl rfl k (Nat.le_refl _) (fun rv28 u28 w28 r28 k => ?_)
    obtain ⟨rfl, rfl, rfl, k⟩ := k
    refine xe_iinc (v := (i1 + (1 : Int32))) (ls' := [some (.ref 655), some (.int (i1 + (1 : Int32)))]) dX12_land_348 rfl (by decide) rfl rfl ?_
    refine xe_goto (tgt := 311) dX12_land_351 rfl ?_
    exact k

theorem TX12_land_376 {g : xGT} {d : Nat} {i1 : Int32} {u : xU} {w : xW} {r : xQ} {P : xPost} (hr : xRf r)
    (k : ((3 : Int32) ≤ i1 → P (some (.int (u 655 46))) u w r) ∧ (¬ ((3 : Int32) ≤ i1) → vp_in i1 3 ∧ (xEv g (d + 1) mX12_land 376 [some (.ref 655), some (.int (i1 + (1 : Int32)))] [] 698 (x2 u 696 i1.toNatClampNeg (0 : Int32)) w r 698 P))) :
    xEv g (d + 1) mX12_land 376 [some (.ref 655), some (.int i1)] [] 698 u w r 698 P := by
  refine xe_iload_n dX12_land_376 rfl ?_
  refine xe_iconst (v := 3) dX12_land_377 rfl ?_
  refine xe_icmp_ge (tgt := 394) dX12_land_378 rfl (fun c29 => ?_) (fun c30 => ?_)
  · have k := k.1 c29
    refine xe_aload_n dX12_land_394 rfl ?_
    refine xe_getI dX12_land_395 flX12_356 kk655 (xKK_lt kk655) rfl ?_
    exact xe_ireturn dX12_land_398 rfl k
  · have k := k.2 (fun q => (c30 q))
    refine xe_aload_n dX12_land_381 rfl ?_
    refine xe_getR (b := 696) dX12_land_382 flX12_139 kk655 (xKK_lt kk655) rfl (rf655_76 hr) ?_
    refine xe_iload_n dX12_land_385 rfl ?_
    refine xe_iconst (v := 0) dX12_land_386 rfl ?_
    obtain ⟨b31, k⟩ := k
    refine xe_zast dX12_land_387 kk696 (xKK_lt kk696) b31 (Or.inl rfl) ?_
    refine xe_iinc (v := (i1 + (1 : Int32))) (ls' := [some (.ref 655), some (.int (i1 + (1 : Int32)))]) dX12_land_388 rfl (by decide) rfl rfl ?_
    refine xe_goto (tgt := 376) dX12_land_391 rfl ?_
    exact k

/-! FuneralPostModel.layLetter -/

theorem TX12_layLetter_0 {g : xGT} {d : Nat} {i1 i2 i3 i4 i5 : Int32} {u : xU} {w : xW} {r : xQ} {P : xPost} (hr : xRf r)
    (k : vp_in ((18 : Int32) + i1) 92 ∧ (vp_in ((28 : Int32) + i1) 92 ∧ (vp_in ((38 : Int32) + i1) 92 ∧ (vp_in ((48 : Int32) + i1) 92 ∧ (vp_in ((58 : Int32) + i1) 92 ∧ (vp_in ((68 : Int32) + i1) 92 ∧ (vp_in ((78 : Int32) + i1) 92 ∧ (P none (x2 (x2 (x2 (x2 (x2 (x2 (x2 u 683 ((18 : Int32) + i1).toNatClampNeg i2) 683 ((28 : Int32) + i1).toNatClampNeg (-1 : Int32)) 683 ((38 : Int32) + i1).toNatClampNeg (-1 : Int32)) 683 ((48 : Int32) + i1).toNatClampNeg (0 : Int32)) 683 ((58 : Int32) + i1).toNatClampNeg i3) 683 ((68 : Int32) + i1).toNatClampNeg i4) 683 ((78 : Int32) + i1).toNatClampNeg i5) w r)))))))) :
    xEv g d mX12_layLetter 0 [some (.ref 655), some (.int i1), some (.int i2), some (.int i3), some (.int i4), some (.int i5)] [] 698 u w r 698 P := by
  refine xe_aload_n dX12_layLetter_0 rfl ?_
  refine xe_getR (b := 683) dX12_layLetter_1 flX12_99 kk655 (xKK_lt kk655) rfl (rf655_57 hr) ?_
  refine xe_bipush (v := 18) dX12_layLetter_4 rfl ?_
  refine xe_iload_n dX12_layLetter_6 rfl ?_
  refine xe_iadd dX12_layLetter_7 ?_
  refine xe_iload_n dX12_layLetter_8 rfl ?_
  obtain ⟨b1, k⟩ := k
  refine xe_iast dX12_layLetter_9 kk683 (xKK_lt kk683) b1 ?_
  refine xe_aload_n dX12_layLetter_10 rfl ?_
  refine xe_getR (b := 683) dX12_layLetter_11 flX12_99 kk655 (xKK_lt kk655) rfl (rf655_57 hr) ?_
  refine xe_bipush (v := 28) dX12_layLetter_14 rfl ?_
  refine xe_iload_n dX12_layLetter_16 rfl ?_
  refine xe_iadd dX12_layLetter_17 ?_
  refine xe_iconst (v := -1) dX12_layLetter_18 rfl ?_
  obtain ⟨b2, k⟩ := k
  refine xe_iast dX12_layLetter_19 kk683 (xKK_lt kk683) b2 ?_
  refine xe_aload_n dX12_layLetter_20 rfl ?_
  refine xe_getR (b := 683) dX12_layLetter_21 flX12_99 kk655 (xKK_lt kk655) rfl (rf655_57 hr) ?_
  refine xe_bipush (v := 38) dX12_layLetter_24 rfl ?_
  refine xe_iload_n dX12_layLetter_26 rfl ?_
  refine xe_iadd dX12_layLetter_27 ?_
  refine xe_iconst (v := -1) dX12_layLetter_28 rfl ?_
  obtain ⟨b3, k⟩ := k
  refine xe_iast dX12_layLetter_29 kk683 (xKK_lt kk683) b3 ?_
  refine xe_aload_n dX12_layLetter_30 rfl ?_
  refine xe_getR (b := 683) dX12_layLetter_31 flX12_99 kk655 (xKK_lt kk655) rfl (rf655_57 hr) ?_
  refine xe_bipush (v := 48) dX12_layLetter_34 rfl ?_
  refine xe_iload_n dX12_layLetter_36 rfl ?_
  refine xe_iadd dX12_layLetter_37 ?_
  refine xe_iconst (v := 0) dX12_layLetter_38 rfl ?_
  obtain ⟨b4, k⟩ := k
  refine xe_iast dX12_layLetter_39 kk683 (xKK_lt kk683) b4 ?_
  refine xe_aload_n dX12_layLetter_40 rfl ?_
  refine xe_getR (b := 683) dX12_layLetter_41 flX12_99 kk655 (xKK_lt kk655) rfl (rf655_57 hr) ?_
  refine xe_bipush (v := 58) dX12_layLetter_44 rfl ?_
  refine xe_iload_n dX12_layLetter_46 rfl ?_
  refine xe_iadd dX12_layLetter_47 ?_
  refine xe_iload_n dX12_layLetter_48 rfl ?_
  obtain ⟨b5, k⟩ := k
  refine xe_iast dX12_layLetter_49 kk683 (xKK_lt kk683) b5 ?_
  refine xe_aload_n dX12_layLetter_50 rfl ?_
  refine xe_getR (b := 683) dX12_layLetter_51 flX12_99 kk655 (xKK_lt kk655) rfl (rf655_57 hr) ?_
  refine xe_bipush (v := 68) dX12_layLetter_54 rfl ?_
  refine xe_iload_n dX12_layLetter_56 rfl ?_
  refine xe_iadd dX12_layLetter_57 ?_
  refine xe_iload dX12_layLetter_58 rfl ?_
  obtain ⟨b6, k⟩ := k
  refine xe_iast dX12_layLetter_60 kk683 (xKK_lt kk683) b6 ?_
  refine xe_aload_n dX12_layLetter_61 rfl ?_
  refine xe_getR (b := 683) dX12_layLetter_62 flX12_99 kk655 (xKK_lt kk655) rfl (rf655_57 hr) ?_
  refine xe_bipush (v := 78) dX12_layLetter_65 rfl ?_
  refine xe_iload_n dX12_layLetter_67 rfl ?_
  refine xe_iadd dX12_layLetter_68 ?_
  refine xe_iload dX12_layLetter_69 rfl ?_
  obtain ⟨b7, k⟩ := k
  refine xe_iast dX12_layLetter_71 kk683 (xKK_lt kk683) b7 ?_
  exact xe_return dX12_layLetter_72 trivial k

theorem CX12_layLetter {g : xGT} {d : Nat} {i1 i2 i3 i4 i5 : Int32} {u : xU} {w : xW} {r : xQ} {P : xPost} (hr : xRf r)
    (k : vp_in ((18 : Int32) + i1) 92 ∧ (vp_in ((28 : Int32) + i1) 92 ∧ (vp_in ((38 : Int32) + i1) 92 ∧ (vp_in ((48 : Int32) + i1) 92 ∧ (vp_in ((58 : Int32) + i1) 92 ∧ (vp_in ((68 : Int32) + i1) 92 ∧ (vp_in ((78 : Int32) + i1) 92 ∧ (P none (x2 (x2 (x2 (x2 (x2 (x2 (x2 u 683 ((18 : Int32) + i1).toNatClampNeg i2) 683 ((28 : Int32) + i1).toNatClampNeg (-1 : Int32)) 683 ((38 : Int32) + i1).toNatClampNeg (-1 : Int32)) 683 ((48 : Int32) + i1).toNatClampNeg (0 : Int32)) 683 ((58 : Int32) + i1).toNatClampNeg i3) 683 ((68 : Int32) + i1).toNatClampNeg i4) 683 ((78 : Int32) + i1).toNatClampNeg i5) w r)))))))) :
    xCall g d mX12_layLetter [.ref 655, .int i1, .int i2, .int i3, .int i4, .int i5] 698 u w r 698 P :=
  xCall.of plX12 (Nat.le_of_ble_eq_true rfl) rfl (TX12_layLetter_0 hr k)

/-! FuneralPostModel.fault -/

theorem TX12_fault_0 {g : xGT} {d : Nat} {i1 : Int32} {u : xU} {w : xW} {r : xQ} {P : xPost}
    (k : (i1 = 0 → P (some (.int (u 655 2))) u w r) ∧ (¬ (i1 = 0) → (i1 = (1 : Int32) → P (some (.int (u 655 3))) u w r) ∧ (¬ (i1 = (1 : Int32)) → P (some (.int (-1 : Int32))) u w r))) :
    xEv g d mX12_fault 0 [some (.ref 655), some (.int i1)] [] 698 u w r 698 P := by
  refine xe_iload_n dX12_fault_0 rfl ?_
  refine xe_if_ne (tgt := 11) dX12_fault_1 rfl (fun c1 => ?_) (fun c2 => ?_)
  · have k := k.2 (fun q => (c1 q))
    refine xe_iload_n dX12_fault_11 rfl ?_
    refine xe_iconst (v := 1) dX12_fault_12 rfl ?_
    refine xe_icmp_ne (tgt := 23) dX12_fault_13 rfl (fun c3 => ?_) (fun c4 => ?_)
    · have k := k.2 (fun q => (c3 q))
      refine xe_iconst (v := -1) dX12_fault_23 rfl ?_
      exact xe_ireturn dX12_fault_24 rfl k
    · have k := k.1 c4
      refine xe_aload_n dX12_fault_16 rfl ?_
      refine xe_getI dX12_fault_17 flX12_13 kk655 (xKK_lt kk655) rfl ?_
      refine xe_goto (tgt := 24) dX12_fault_20 rfl ?_
      exact xe_ireturn dX12_fault_24 rfl k
  · have k := k.1 c2
    refine xe_aload_n dX12_fault_4 rfl ?_
    refine xe_getI dX12_fault_5 flX12_185 kk655 (xKK_lt kk655) rfl ?_
    refine xe_goto (tgt := 24) dX12_fault_8 rfl ?_
    exact xe_ireturn dX12_fault_24 rfl k

theorem CX12_fault {g : xGT} {d : Nat} {i1 : Int32} {u : xU} {w : xW} {r : xQ} {P : xPost}
    (k : (i1 = 0 → P (some (.int (u 655 2))) u w r) ∧ (¬ (i1 = 0) → (i1 = (1 : Int32) → P (some (.int (u 655 3))) u w r) ∧ (¬ (i1 = (1 : Int32)) → P (some (.int (-1 : Int32))) u w r))) :
    xCall g d mX12_fault [.ref 655, .int i1] 698 u w r 698 P :=
  xCall.of plX12 (Nat.le_of_ble_eq_true rfl) rfl (TX12_fault_0  k)

/-! FuneralPostModel.isIn -/

theorem TX12_isIn_0 {g : xGT} {d : Nat} {i0 i1 i2 : Int32} {u : xU} {w : xW} {r : xQ} {P : xPost}
    (k : P (some (.int (xb (¬ (i0 < i1) ∧ ¬ (i2 < i0))))) u w r) :
    xEv g d mX12_isIn 0 [some (.int i0), some (.int i1), some (.int i2)] [] 698 u w r 698 P := by
  refine xe_iload_n dX12_isIn_0 rfl ?_
  refine xe_iload_n dX12_isIn_1 rfl ?_
  have K5 : xEv g d mX12_isIn 15 [some (.int i0), some (.int i1), some (.int i2)] [.int (xb (¬ (i0 < i1) ∧ ¬ (i2 < i0)))] 698 u w r 698 P := by
    exact xe_ireturn dX12_isIn_15 (xrokZ (xb01 _)) k
  refine xe_icmp_lt (tgt := 14) dX12_isIn_2 rfl (fun c1 => ?_) (fun c2 => ?_)
  · refine xe_iconst (v := 0) dX12_isIn_14 rfl ?_
    exact xtop (xb_neg (show ¬ (¬ (i0 < i1) ∧ ¬ (i2 < i0)) from (fun q => (q.1 c1)))) K5
  · refine xe_iload_n dX12_isIn_5 rfl ?_
    refine xe_iload_n dX12_isIn_6 rfl ?_
    refine xe_icmp_gt (tgt := 14) dX12_isIn_7 rfl (fun c3 => ?_) (fun c4 => ?_)
    · refine xe_iconst (v := 0) dX12_isIn_14 rfl ?_
      exact xtop (xb_neg (show ¬ (¬ (i0 < i1) ∧ ¬ (i2 < i0)) from (fun q => (q.2 c3)))) K5
    · refine xe_iconst (v := 1) dX12_isIn_10 rfl ?_
      refine xe_goto (tgt := 15) dX12_isIn_11 rfl ?_
      exact xtop (xb_pos (show (¬ (i0 < i1) ∧ ¬ (i2 < i0)) from ⟨c2, c4⟩)) K5

theorem CX12_isIn {g : xGT} {d : Nat} {i0 i1 i2 : Int32} {u : xU} {w : xW} {r : xQ} {P : xPost}
    (k : P (some (.int (xb (¬ (i0 < i1) ∧ ¬ (i2 < i0))))) u w r) :
    xCall g d mX12_isIn [.int i0, .int i1, .int i2] 698 u w r 698 P :=
  xCall.of plX12 (Nat.le_of_ble_eq_true rfl) rfl (TX12_isIn_0  k)

/-! FuneralPostModel.isVillage -/

theorem TX12_isVillage_0 {g : xGT} {d : Nat} {i1 : Int32} {u : xU} {w : xW} {r : xQ} {P : xPost}
    (k : xCall g d mX12_isIn [.int i1, .int (0 : Int32), .int ((u 655 49) - (1 : Int32))] 698 u w r 698 (fun rv1 u1 w1 r1 => ∃ v1 : Int32, rv1 = some (.int v1) ∧ u = u1 ∧ w = w1 ∧ r = r1 ∧ (v1 = 0 ∨ v1 = 1) ∧ (P (some (.int v1)) u w r))) :
    xEv g (d + 1) mX12_isVillage 0 [some (.ref 655), some (.int i1)] [] 698 u w r 698 P := by
  refine xe_iload_n dX12_isVillage_0 rfl ?_
  refine xe_iconst (v := 0) dX12_isVillage_1 rfl ?_
  refine xe_aload_n dX12_isVillage_2 rfl ?_
  refine xe_getI dX12_isVillage_3 flX12_395 kk655 (xKK_lt kk655) rfl ?_
  refine xe_iconst (v := 1) dX12_isVillage_6 rfl ?_
  refine xe_isub dX12_isVillage_7 ?_
  refine xe_callS (args := [.int i1, .int (0 : Int32), .int ((u 655 49) - (1 : Int32))]) dX12_isVillage_8 slX12_426 rfl rfl (Nat.le_of_ble_eq_true rfl) k (Nat.le_refl _) (fun rv1 u1 w1 r1 k => ?_)
  obtain ⟨v1, rfl, rfl, rfl, rfl, k⟩ := k
  obtain ⟨z2, k⟩ := k
  exact xe_ireturn dX12_isVillage_11 (xrokZ z2) k

theorem CX12_isVillage {g : xGT} {d : Nat} {i1 : Int32} {u : xU} {w : xW} {r : xQ} {P : xPost}
    (k : xCall g d mX12_isIn [.int i1, .int (0 : Int32), .int ((u 655 49) - (1 : Int32))] 698 u w r 698 (fun rv1 u1 w1 r1 => ∃ v1 : Int32, rv1 = some (.int v1) ∧ u = u1 ∧ w = w1 ∧ r = r1 ∧ (v1 = 0 ∨ v1 = 1) ∧ (P (some (.int v1)) u w r))) :
    xCall g (d + 1) mX12_isVillage [.ref 655, .int i1] 698 u w r 698 P :=
  xCall.of plX12 (Nat.le_of_ble_eq_true rfl) rfl (TX12_isVillage_0  k)

/-! FuneralPostModel.isBier -/

theorem TX12_isBier_0 {g : xGT} {d : Nat} {i1 : Int32} {u : xU} {w : xW} {r : xQ} {P : xPost}
    (k : xCall g d mX12_isIn [.int i1, .int (0 : Int32), .int ((u 655 51) - (1 : Int32))] 698 u w r 698 (fun rv1 u1 w1 r1 => ∃ v1 : Int32, rv1 = some (.int v1) ∧ u = u1 ∧ w = w1 ∧ r = r1 ∧ (v1 = 0 ∨ v1 = 1) ∧ (P (some (.int v1)) u w r))) :
    xEv g (d + 1) mX12_isBier 0 [some (.ref 655), some (.int i1)] [] 698 u w r 698 P := by
  refine xe_iload_n dX12_isBier_0 rfl ?_
  refine xe_iconst (v := 0) dX12_isBier_1 rfl ?_
  refine xe_aload_n dX12_isBier_2 rfl ?_
  refine xe_getI dX12_isBier_3 flX12_401 kk655 (xKK_lt kk655) rfl ?_
  refine xe_iconst (v := 1) dX12_isBier_6 rfl ?_
  refine xe_isub dX12_isBier_7 ?_
  refine xe_callS (args := [.int i1, .int (0 : Int32), .int ((u 655 51) - (1 : Int32))]) dX12_isBier_8 slX12_426 rfl rfl (Nat.le_of_ble_eq_true rfl) k (Nat.le_refl _) (fun rv1 u1 w1 r1 k => ?_)
  obtain ⟨v1, rfl, rfl, rfl, rfl, k⟩ := k
  obtain ⟨z2, k⟩ := k
  exact xe_ireturn dX12_isBier_11 (xrokZ z2) k

theorem CX12_isBier {g : xGT} {d : Nat} {i1 : Int32} {u : xU} {w : xW} {r : xQ} {P : xPost}
    (k : xCall g d mX12_isIn [.int i1, .int (0 : Int32), .int ((u 655 51) - (1 : Int32))] 698 u w r 698 (fun rv1 u1 w1 r1 => ∃ v1 : Int32, rv1 = some (.int v1) ∧ u = u1 ∧ w = w1 ∧ r = r1 ∧ (v1 = 0 ∨ v1 = 1) ∧ (P (some (.int v1)) u w r))) :
    xCall g (d + 1) mX12_isBier [.ref 655, .int i1] 698 u w r 698 P :=
  xCall.of plX12 (Nat.le_of_ble_eq_true rfl) rfl (TX12_isBier_0  k)

/-! FuneralPostModel.isPosted -/

theorem TX12_isPosted_0 {g : xGT} {d : Nat} {i1 : Int32} {u : xU} {w : xW} {r : xQ} {P : xPost} (hr : xRf r)
    (k : xCall g d mX12_isIn [.int i1, .int (0 : Int32), .int ((u 683 88) - (1 : Int32))] 698 u w r 698 (fun rv1 u1 w1 r1 => ∃ v1 : Int32, rv1 = some (.int v1) ∧ u = u1 ∧ w = w1 ∧ r = r1 ∧ (v1 = 0 ∨ v1 = 1) ∧ (P (some (.int v1)) u w r))) :
    xEv g (d + 1) mX12_isPosted 0 [some (.ref 655), some (.int i1)] [] 698 u w r 698 P := by
  refine xe_iload_n dX12_isPosted_0 rfl ?_
  refine xe_iconst (v := 0) dX12_isPosted_1 rfl ?_
  refine xe_aload_n dX12_isPosted_2 rfl ?_
  refine xe_getR (b := 683) dX12_isPosted_3 flX12_99 kk655 (xKK_lt kk655) rfl (rf655_57 hr) ?_
  refine xe_bipush (v := 88) dX12_isPosted_6 rfl ?_
  refine xe_iald dX12_isPosted_8 kk683 (xKK_lt kk683) (show ¬ ((88 : Int32) < 0 ∨ 92 ≤ (88 : Int32).toNatClampNeg) from by decide) ?_
  refine xe_iconst (v := 1) dX12_isPosted_9 rfl ?_
  refine xe_isub dX12_isPosted_10 ?_
  refine xe_callS (args := [.int i1, .int (0 : Int32), .int ((u 683 88) - (1 : Int32))]) dX12_isPosted_11 slX12_426 rfl rfl (Nat.le_of_ble_eq_true rfl) k (Nat.le_refl _) (fun rv1 u1 w1 r1 k => ?_)
  obtain ⟨v1, rfl, rfl, rfl, rfl, k⟩ := k
  obtain ⟨z2, k⟩ := k
  exact xe_ireturn dX12_isPosted_14 (xrokZ z2) k

theorem CX12_isPosted {g : xGT} {d : Nat} {i1 : Int32} {u : xU} {w : xW} {r : xQ} {P : xPost} (hr : xRf r)
    (k : xCall g d mX12_isIn [.int i1, .int (0 : Int32), .int ((u 683 88) - (1 : Int32))] 698 u w r 698 (fun rv1 u1 w1 r1 => ∃ v1 : Int32, rv1 = some (.int v1) ∧ u = u1 ∧ w = w1 ∧ r = r1 ∧ (v1 = 0 ∨ v1 = 1) ∧ (P (some (.int v1)) u w r))) :
    xCall g (d + 1) mX12_isPosted [.ref 655, .int i1] 698 u w r 698 P :=
  xCall.of plX12 (Nat.le_of_ble_eq_true rfl) rfl (TX12_isPosted_0 hr k)

/-! FuneralPostModel.isClosed -/

theorem TX12_isClosed_0 {g : xGT} {d : Nat} {i1 : Int32} {u : xU} {w : xW} {r : xQ} {P : xPost} (hr : xRf r)
    (k : P (some (.int (xb ((((u 684 89) >>> (i1 &&& 31)) &&& (1 : Int32)) = (1 : Int32))))) u w r) :
    xEv g d mX12_isClosed 0 [some (.ref 655), some (.int i1)] [] 698 u w r 698 P := by
  refine xe_aload_n dX12_isClosed_0 rfl ?_
  refine xe_getR (b := 684) dX12_isClosed_1 flX12_102 kk655 (xKK_lt kk655) rfl (rf655_58 hr) ?_
  refine xe_bipush (v := 89) dX12_isClosed_4 rfl ?_
  refine xe_iald dX12_isClosed_6 kk684 (xKK_lt kk684) (show ¬ ((89 : Int32) < 0 ∨ 92 ≤ (89 : Int32).toNatClampNeg) from by decide) ?_
  refine xe_iload_n dX12_isClosed_7 rfl ?_
  refine xe_ishr dX12_isClosed_8 ?_
  refine xe_iconst (v := 1) dX12_isClosed_9 rfl ?_
  refine xe_iand dX12_isClosed_10 ?_
  refine xe_iconst (v := 1) dX12_isClosed_11 rfl ?_
  have K3 : xEv g d mX12_isClosed 20 [some (.ref 655), some (.int i1)] [.int (xb ((((u 684 89) >>> (i1 &&& 31)) &&& (1 : Int32)) = (1 : Int32)))] 698 u w r 698 P := by
    exact xe_ireturn dX12_isClosed_20 (xrokZ (xb01 _)) k
  refine xe_icmp_ne (tgt := 19) dX12_isClosed_12 rfl (fun c1 => ?_) (fun c2 => ?_)
  · refine xe_iconst (v := 0) dX12_isClosed_19 rfl ?_
    exact xtop (xb_neg (show ¬ ((((u 684 89) >>> (i1 &&& 31)) &&& (1 : Int32)) = (1 : Int32)) from (fun q => (c1 q)))) K3
  · refine xe_iconst (v := 1) dX12_isClosed_15 rfl ?_
    refine xe_goto (tgt := 20) dX12_isClosed_16 rfl ?_
    exact xtop (xb_pos (show (((u 684 89) >>> (i1 &&& 31)) &&& (1 : Int32)) = (1 : Int32) from c2)) K3

theorem CX12_isClosed {g : xGT} {d : Nat} {i1 : Int32} {u : xU} {w : xW} {r : xQ} {P : xPost} (hr : xRf r)
    (k : P (some (.int (xb ((((u 684 89) >>> (i1 &&& 31)) &&& (1 : Int32)) = (1 : Int32))))) u w r) :
    xCall g d mX12_isClosed [.ref 655, .int i1] 698 u w r 698 P :=
  xCall.of plX12 (Nat.le_of_ble_eq_true rfl) rfl (TX12_isClosed_0 hr k)

/-! FuneralPostModel.layFar -/

theorem TX12_layFar_0 {g : xGT} {d : Nat} {u : xU} {w : xW} {r : xQ} {P : xPost}
    (k : xEv g (d + 1) mX12_layFar 2 [some (.ref 655), some (.int (0 : Int32)), none, none, none] [] 698 u w r 698 P) :
    xEv g (d + 1) mX12_layFar 0 [some (.ref 655), none, none, none, none] [] 698 u w r 698 P := by
  refine xe_iconst (v := 0) dX12_layFar_0 rfl ?_
  refine xe_istore_n (ls' := [some (.ref 655), some (.int (0 : Int32)), none, none, none]) dX12_layFar_1 rfl (by decide) rfl ?_
  exact k

theorem CX12_layFar {g : xGT} {d : Nat} {u : xU} {w : xW} {r : xQ} {P : xPost}
    (k : xEv g (d + 1) mX12_layFar 2 [some (.ref 655), some (.int (0 : Int32)), none, none, none] [] 698 u w r 698 P) :
    xCall g (d + 1) mX12_layFar [.ref 655] 698 u w r 698 P :=
  xCall.of plX12 (Nat.le_of_ble_eq_true rfl) rfl (TX12_layFar_0  k)

theorem TX12_layFar_2 {g : xGT} {d : Nat} {i1 : Int32} {u : xU} {w : xW} {r : xQ} {P : xPost} (hr : xRf r)
    (k : ((49 : Int32) ≤ i1 → xEv g (d + 1) mX12_layFar 36 [some (.ref 655), some (.int (0 : Int32)), none, none, none] [] 698 u w r 698 P) ∧ (¬ ((49 : Int32) ≤ i1) → ¬ (8 : Int32) = 0 ∧ (vp_in i1 49 ∧ (xEv g (d + 1) mX12_layFar 2 [some (.ref 655), some (.int (i1 + (1 : Int32))), none, none, none] [] 698 (x2 u 685 i1.toNatClampNeg (if (i1 - i1 / (8 : Int32) * (8 : Int32)) = 0 then (0 : Int32) else (1000 : Int32))) w r 698 P)))) :
    xEv g (d + 1) mX12_layFar 2 [some (.ref 655), some (.int i1), none, none, none] [] 698 u w r 698 P := by
  refine xe_iload_n dX12_layFar_2 rfl ?_
  refine xe_bipush (v := 49) dX12_layFar_3 rfl ?_
  refine xe_icmp_ge (tgt := 34) dX12_layFar_5 rfl (fun c1 => ?_) (fun c2 => ?_)
  · have k := k.1 c1
    refine xe_iconst (v := 0) dX12_layFar_34 rfl ?_
    refine xe_istore_n (ls' := [some (.ref 655), some (.int (0 : Int32)), none, none, none]) dX12_layFar_35 rfl (by decide) rfl ?_
    exact k
  · have k := k.2 (fun q => (c2 q))
    refine xe_aload_n dX12_layFar_8 rfl ?_
    refine xe_getR (b := 685) dX12_layFar_9 flX12_105 kk655 (xKK_lt kk655) rfl (rf655_59 hr) ?_
    refine xe_iload_n dX12_layFar_12 rfl ?_
    refine xe_iload_n dX12_layFar_13 rfl ?_
    refine xe_bipush (v := 8) dX12_layFar_14 rfl ?_
    obtain ⟨z3, k⟩ := k
    refine xe_irem dX12_layFar_16 z3 ?_
    have K7 : xEv g (d + 1) mX12_layFar 27 [some (.ref 655), some (.int i1), none, none, none] [.int (if (i1 - i1 / (8 : Int32) * (8 : Int32)) = 0 then (0 : Int32) else (1000 : Int32)), .int i1, .ref 685] 698 u w r 698 P := by
      obtain ⟨b6, k⟩ := k
      refine xe_iast dX12_layFar_27 kk685 (xKK_lt kk685) b6 ?_
      refine xe_iinc (v := (i1 + (1 : Int32))) (ls' := [some (.ref 655), some (.int (i1 + (1 : Int32))), none, none, none]) dX12_layFar_28 rfl (by decide) rfl rfl ?_
      refine xe_goto (tgt := 2) dX12_layFar_31 rfl ?_
      exact k
    refine xe_if_ne (tgt := 24) dX12_layFar_17 rfl (fun c4 => ?_) (fun c5 => ?_)
    · refine xe_sipush (v := 1000) dX12_layFar_24 rfl ?_
      exact xtop (if_neg (fun q => (c4 q))) K7
    · refine xe_iconst (v := 0) dX12_layFar_20 rfl ?_
      refine xe_goto (tgt := 27) dX12_layFar_21 rfl ?_
      exact xtop (if_pos c5) K7

theorem TX12_layFar_36 {g : xGT} {d : Nat} {i1 : Int32} {u : xU} {w : xW} {r : xQ} {P : xPost} (hr : xRf r)
    (k : ((u 655 50) ≤ i1 → xEv g (d + 1) mX12_layFar 117 [some (.ref 655), some (.int (0 : Int32)), none, none, none] [] 698 u w r 698 P) ∧ (¬ ((u 655 50) ≤ i1) → xCall g d mX12_isClosed [.ref 655, .int i1] 698 u w r 698 (fun rv10 u10 w10 r10 => ∃ v10 : Int32, rv10 = some (.int v10) ∧ u = u10 ∧ w = w10 ∧ r = r10 ∧ (v10 = 0 → vp_in i1 12 ∧ (vp_in (((7 : Int32) * (u 668 i1.toNatClampNeg)) + (u 669 i1.toNatClampNeg)) 49 ∧ (vp_in (((7 : Int32) * (u 669 i1.toNatClampNeg)) + (u 668 i1.toNatClampNeg)) 49 ∧ (xEv g (d + 1) mX12_layFar 109 [some (.ref 655), some (.int i1), none, none, none] [] 698 (x2 (x2 u 685 (((7 : Int32) * (u 668 i1.toNatClampNeg)) + (u 669 i1.toNatClampNeg)).toNatClampNeg (u 670 i1.toNatClampNeg)) 685 (((7 : Int32) * (u 669 i1.toNatClampNeg)) + (u 668 i1.toNatClampNeg)).toNatClampNeg (u 670 i1.toNatClampNeg)) w r 698 P)))) ∧ (¬ (v10 = 0) → xEv g (d + 1) mX12_layFar 109 [some (.ref 655), some (.int i1), none, none, none] [] 698 u w r 698 P)))) :
    xEv g (d + 1) mX12_layFar 36 [some (.ref 655), some (.int i1), none, none, none] [] 698 u w r 698 P := by
  refine xe_iload_n dX12_layFar_36 rfl ?_
  refine xe_aload_n dX12_layFar_37 rfl ?_
  refine xe_getI dX12_layFar_38 flX12_398 kk655 (xKK_lt kk655) rfl ?_
  refine xe_icmp_ge (tgt := 115) dX12_layFar_41 rfl (fun c8 => ?_) (fun c9 => ?_)
  · have k := k.1 c8
    refine xe_iconst (v := 0) dX12_layFar_115 rfl ?_
    refine xe_istore_n (ls' := [some (.ref 655), some (.int (0 : Int32)), none, none, none]) dX12_layFar_116 rfl (by decide) rfl ?_
    exact k
  · have k := k.2 (fun q => (c9 q))
    refine xe_aload_n dX12_layFar_44 rfl ?_
    refine xe_iload_n dX12_layFar_45 rfl ?_
    refine xe_callV (args := [.int i1]) dX12_layFar_46 vlX12_430 rfl rfl (Nat.le_of_ble_eq_true rfl) kk655 (xKK_lt kk655) rfl rfl k (Nat.le_refl _) (fun rv10 u10 w10 r10 k => ?_)
    obtain ⟨v10, rfl, rfl, rfl, rfl, k⟩ := k
    refine xe_if_eq (tgt := 55) dX12_layFar_49 rfl (fun c11 => ?_) (fun c12 => ?_)
    · have k := k.1 c11
      refine xe_aload_n dX12_layFar_55 rfl ?_
      refine xe_getR (b := 685) dX12_layFar_56 flX12_105 kk655 (xKK_lt kk655) rfl (rf655_59 hr) ?_
      refine xe_bipush (v := 7) dX12_layFar_59 rfl ?_
      refine xe_aload_n dX12_layFar_61 rfl ?_
      refine xe_getR (b := 668) dX12_layFar_62 flX12_51 kk655 (xKK_lt kk655) rfl (rf655_28 hr) ?_
      refine xe_iload_n dX12_layFar_65 rfl ?_
      obtain ⟨b13, k⟩ := k
      refine xe_iald dX12_layFar_66 kk668 (xKK_lt kk668) b13 ?_
      refine xe_imul dX12_layFar_67 ?_
      refine xe_aload_n dX12_layFar_68 rfl ?_
      refine xe_getR (b := 669) dX12_layFar_69 flX12_54 kk655 (xKK_lt kk655) rfl (rf655_29 hr) ?_
      refine xe_iload_n dX12_layFar_72 rfl ?_
      refine xe_iald dX12_layFar_73 kk669 (xKK_lt kk669) b13 ?_
      refine xe_iadd dX12_layFar_74 ?_
      refine xe_aload_n dX12_layFar_75 rfl ?_
      refine xe_getR (b := 670) dX12_layFar_76 flX12_57 kk655 (xKK_lt kk655) rfl (rf655_30 hr) ?_
      refine xe_iload_n dX12_layFar_79 rfl ?_
      refine xe_iald dX12_layFar_80 kk670 (xKK_lt kk670) b13 ?_
      obtain ⟨b14, k⟩ := k
      refine xe_iast dX12_layFar_81 kk685 (xKK_lt kk685) b14 ?_
      refine xe_aload_n dX12_layFar_82 rfl ?_
      refine xe_getR (b := 685) dX12_layFar_83 flX12_105 kk655 (xKK_lt kk655) rfl (rf655_59 hr) ?_
      refine xe_bipush (v := 7) dX12_layFar_86 rfl ?_
      refine xe_aload_n dX12_layFar_88 rfl ?_
      refine xe_getR (b := 669) dX12_layFar_89 flX12_54 kk655 (xKK_lt kk655) rfl (rf655_29 hr) ?_
      refine xe_iload_n dX12_layFar_92 rfl ?_
      refine xe_iald dX12_layFar_93 kk669 (xKK_lt kk669) b13 ?_
      refine xe_imul dX12_layFar_94 ?_
      refine xe_aload_n dX12_layFar_95 rfl ?_
      refine xe_getR (b := 668) dX12_layFar_96 flX12_51 kk655 (xKK_lt kk655) rfl (rf655_28 hr) ?_
      refine xe_iload_n dX12_layFar_99 rfl ?_
      refine xe_iald dX12_layFar_100 kk668 (xKK_lt kk668) b13 ?_
      refine xe_iadd dX12_layFar_101 ?_
      refine xe_aload_n dX12_layFar_102 rfl ?_
      refine xe_getR (b := 670) dX12_layFar_103 flX12_57 kk655 (xKK_lt kk655) rfl (rf655_30 hr) ?_
      refine xe_iload_n dX12_layFar_106 rfl ?_
      refine xe_iald dX12_layFar_107 kk670 (xKK_lt kk670) b13 ?_
      obtain ⟨b15, k⟩ := k
      refine xe_iast dX12_layFar_108 kk685 (xKK_lt kk685) b15 ?_
      exact k
    · have k := k.2 (fun q => (c12 q))
      refine xe_goto (tgt := 109) dX12_layFar_52 rfl ?_
      exact k

theorem TX12_layFar_117 {g : xGT} {d : Nat} {i1 : Int32} {u : xU} {w : xW} {r : xQ} {P : xPost}
    (k : ((u 655 49) ≤ i1 → P none u w r) ∧ (¬ ((u 655 49) ≤ i1) → xEv g (d + 1) mX12_layFar 127 [some (.ref 655), some (.int i1), some (.int (0 : Int32)), none, none] [] 698 u w r 698 P)) :
    xEv g (d + 1) mX12_layFar 117 [some (.ref 655), some (.int i1), none, none, none] [] 698 u w r 698 P := by
  refine xe_iload_n dX12_layFar_117 rfl ?_
  refine xe_aload_n dX12_layFar_118 rfl ?_
  refine xe_getI dX12_layFar_119 flX12_395 kk655 (xKK_lt kk655) rfl ?_
  refine xe_icmp_ge (tgt := 217) dX12_layFar_122 rfl (fun c16 => ?_) (fun c17 => ?_)
  · have k := k.1 c16
    exact xe_return dX12_layFar_217 trivial k
  · have k := k.2 (fun q => (c17 q))
    refine xe_iconst (v := 0) dX12_layFar_125 rfl ?_
    refine xe_istore_n (ls' := [some (.ref 655), some (.int i1), some (.int (0 : Int32)), none, none]) dX12_layFar_126 rfl (by decide) rfl ?_
    exact k

theorem TX12_layFar_109 {g : xGT} {d : Nat} {i1 : Int32} {u : xU} {w : xW} {r : xQ} {P : xPost}
    (k : xEv g (d + 1) mX12_layFar 36 [some (.ref 655), some (.int (i1 + (1 : Int32))), none, none, none] [] 698 u w r 698 P) :
    xEv g (d + 1) mX12_layFar 109 [some (.ref 655), some (.int i1), none, none, none] [] 698 u w r 698 P := by
  refine xe_iinc (v := (i1 + (1 : Int32))) (ls' := [some (.ref 655), some (.int (i1 + (1 : Int32))), none, none, none]) dX12_layFar_109 rfl (by decide) rfl rfl ?_
  refine xe_goto (tgt := 36) dX12_layFar_112 rfl ?_
  exact k

theorem TX12_layFar_127 {g : xGT} {d : Nat} {i1 i2 : Int32} {u : xU} {w : xW} {r : xQ} {P : xPost}
    (k : ((u 655 49) ≤ i2 → xEv g (d + 1) mX12_layFar 117 [some (.ref 655), some (.int (i1 + (1 : Int32))), none, none, none] [] 698 u w r 698 P) ∧ (¬ ((u 655 49) ≤ i2) → xEv g (d + 1) mX12_layFar 137 [some (.ref 655), some (.int i1), some (.int i2), some (.int (0 : Int32)), none] [] 698 u w r 698 P)) :
    xEv g (d + 1) mX12_layFar 127 [some (.ref 655), some (.int i1), some (.int i2), none, none] [] 698 u w r 698 P := by
  refine xe_iload_n dX12_layFar_127 rfl ?_
  refine xe_aload_n dX12_layFar_128 rfl ?_
  refine xe_getI dX12_layFar_129 flX12_395 kk655 (xKK_lt kk655) rfl ?_
  refine xe_icmp_ge (tgt := 211) dX12_layFar_132 rfl (fun c18 => ?_) (fun c19 => ?_)
  · have k := k.1 c18
    refine xe_iinc (v := (i1 + (1 : Int32))) (ls' := [some (.ref 655), some (.int (i1 + (1 : Int32))), some (.int i2), none, none]) dX12_layFar_211 rfl (by decide) rfl rfl ?_
    refine xe_goto (tgt := 117) dX12_layFar_214 rfl ?_
    exact xEv.fewer (ls' := [some (.ref 655), some (.int (i1 + (1 : Int32))), none, none, none]) k (xfw_get (xfw_s (xfw_s (xfw_n (xfw_n (xfw_n (xfw_nil _)))))))
  · have k := k.2 (fun q => (c19 q))
    refine xe_iconst (v := 0) dX12_layFar_135 rfl ?_
    refine xe_istore_n (ls' := [some (.ref 655), some (.int i1), some (.int i2), some (.int (0 : Int32)), none]) dX12_layFar_136 rfl (by decide) rfl ?_
    exact k

theorem TX12_layFar_137 {g : xGT} {d : Nat} {i1 i2 i3 : Int32} {u : xU} {w : xW} {r : xQ} {P : xPost} (hr : xRf r)
    (k : ((u 655 49) ≤ i3 → xEv g (d + 1) mX12_layFar 127 [some (.ref 655), some (.int i1), some (.int (i2 + (1 : Int32))), none, none] [] 698 u w r 698 P) ∧ (¬ ((u 655 49) ≤ i3) → vp_in (((7 : Int32) * i2) + i1) 49 ∧ (vp_in (((7 : Int32) * i1) + i3) 49 ∧ (vp_in (((7 : Int32) * i2) + i3) 49 ∧ (((u 685 (((7 : Int32) * i2) + i3).toNatClampNeg) ≤ ((u 685 (((7 : Int32) * i2) + i1).toNatClampNeg) + (u 685 (((7 : Int32) * i1) + i3).toNatClampNeg)) → xEv g (d + 1) mX12_layFar 199 [some (.ref 655), some (.int i1), some (.int i2), some (.int i3), none] [] 698 u w r 698 P) ∧ (¬ ((u 685 (((7 : Int32) * i2) + i3).toNatClampNeg) ≤ ((u 685 (((7 : Int32) * i2) + i1).toNatClampNeg) + (u 685 (((7 : Int32) * i1) + i3).toNatClampNeg))) → xEv g (d + 1) mX12_layFar 199 [some (.ref 655), some (.int i1), some (.int i2), some (.int i3), none] [] 698 (x2 u 685 (((7 : Int32) * i2) + i3).toNatClampNeg ((u 685 (((7 : Int32) * i2) + i1).toNatClampNeg) + (u 685 (((7 : Int32) * i1) + i3).toNatClampNeg))) w r 698 P)))))) :
    xEv g (d + 1) mX12_layFar 137 [some (.ref 655), some (.int i1), some (.int i2), some (.int i3), none] [] 698 u w r 698 P := by
  refine xe_iload_n dX12_layFar_137 rfl ?_
  refine xe_aload_n dX12_layFar_138 rfl ?_
  refine xe_getI dX12_layFar_139 flX12_395 kk655 (xKK_lt kk655) rfl ?_
  refine xe_icmp_ge (tgt := 205) dX12_layFar_142 rfl (fun c20 => ?_) (fun c21 => ?_)
  · have k := k.1 c20
    refine xe_iinc (v := (i2 + (1 : Int32))) (ls' := [some (.ref 655), some (.int i1), some (.int (i2 + (1 : Int32))), some (.int i3), none]) dX12_layFar_205 rfl (by decide) rfl rfl ?_
    refine xe_goto (tgt := 127) dX12_layFar_208 rfl ?_
    exact xEv.fewer (ls' := [some (.ref 655), some (.int i1), some (.int (i2 + (1 : Int32))), none, none]) k (xfw_get (xfw_s (xfw_s (xfw_s (xfw_n (xfw_n (xfw_nil _)))))))
  · have k := k.2 (fun q => (c21 q))
    refine xe_aload_n dX12_layFar_145 rfl ?_
    refine xe_getR (b := 685) dX12_layFar_146 flX12_105 kk655 (xKK_lt kk655) rfl (rf655_59 hr) ?_
    refine xe_bipush (v := 7) dX12_layFar_149 rfl ?_
    refine xe_iload_n dX12_layFar_151 rfl ?_
    refine xe_imul dX12_layFar_152 ?_
    refine xe_iload_n dX12_layFar_153 rfl ?_
    refine xe_iadd dX12_layFar_154 ?_
    obtain ⟨b22, k⟩ := k
    refine xe_iald dX12_layFar_155 kk685 (xKK_lt kk685) b22 ?_
    refine xe_aload_n dX12_layFar_156 rfl ?_
    refine xe_getR (b := 685) dX12_layFar_157 flX12_105 kk655 (xKK_lt kk655) rfl (rf655_59 hr) ?_
    refine xe_bipush (v := 7) dX12_layFar_160 rfl ?_
    refine xe_iload_n dX12_layFar_162 rfl ?_
    refine xe_imul dX12_layFar_163 ?_
    refine xe_iload_n dX12_layFar_164 rfl ?_
    refine xe_iadd dX12_layFar_165 ?_
    obtain ⟨b23, k⟩ := k
    refine xe_iald dX12_layFar_166 kk685 (xKK_lt kk685) b23 ?_
    refine xe_iadd dX12_layFar_167 ?_
    refine xe_istore (ls' := [some (.ref 655), some (.int i1), some (.int i2), some (.int i3), some (.int ((u 685 (((7 : Int32) * i2) + i1).toNatClampNeg) + (u 685 (((7 : Int32) * i1) + i3).toNatClampNeg)))]) dX12_layFar_168 (by decide) rfl ?_
    refine xe_iload dX12_layFar_170 rfl ?_
    refine xe_aload_n dX12_layFar_172 rfl ?_
    refine xe_getR (b := 685) dX12_layFar_173 flX12_105 kk655 (xKK_lt kk655) rfl (rf655_59 hr) ?_
    refine xe_bipush (v := 7) dX12_layFar_176 rfl ?_
    refine xe_iload_n dX12_layFar_178 rfl ?_
    refine xe_imul dX12_layFar_179 ?_
    refine xe_iload_n dX12_layFar_180 rfl ?_
    refine xe_iadd dX12_layFar_181 ?_
    obtain ⟨b24, k⟩ := k
    refine xe_iald dX12_layFar_182 kk685 (xKK_lt kk685) b24 ?_
    refine xe_icmp_ge (tgt := 199) dX12_layFar_183 rfl (fun c25 => ?_) (fun c26 => ?_)
    · have k := k.1 c25
      exact xEv.fewer (ls' := [some (.ref 655), some (.int i1), some (.int i2), some (.int i3), none]) k (xfw_get (xfw_s (xfw_s (xfw_s (xfw_s (xfw_n (xfw_nil _)))))))
    · have k := k.2 (fun q => (c26 q))
      refine xe_aload_n dX12_layFar_186 rfl ?_
      refine xe_getR (b := 685) dX12_layFar_187 flX12_105 kk655 (xKK_lt kk655) rfl (rf655_59 hr) ?_
      refine xe_bipush (v := 7) dX12_layFar_190 rfl ?_
      refine xe_iload_n dX12_layFar_192 rfl ?_
      refine xe_imul dX12_layFar_193 ?_
      refine xe_iload_n dX12_layFar_194 rfl ?_
      refine xe_iadd dX12_layFar_195 ?_
      refine xe_iload dX12_layFar_196 rfl ?_
      refine xe_iast dX12_layFar_198 kk685 (xKK_lt kk685) b24 ?_
      exact xEv.fewer (ls' := [some (.ref 655), some (.int i1), some (.int i2), some (.int i3), none]) k (xfw_get (xfw_s (xfw_s (xfw_s (xfw_s (xfw_n (xfw_nil _)))))))

theorem TX12_layFar_199 {g : xGT} {d : Nat} {i1 i2 i3 : Int32} {u : xU} {w : xW} {r : xQ} {P : xPost}
    (k : xEv g (d + 1) mX12_layFar 137 [some (.ref 655), some (.int i1), some (.int i2), some (.int (i3 + (1 : Int32))), none] [] 698 u w r 698 P) :
    xEv g (d + 1) mX12_layFar 199 [some (.ref 655), some (.int i1), some (.int i2), some (.int i3), none] [] 698 u w r 698 P := by
  refine xe_iinc (v := (i3 + (1 : Int32))) (ls' := [some (.ref 655), some (.int i1), some (.int i2), some (.int (i3 + (1 : Int32))), none]) dX12_layFar_199 rfl (by decide) rfl rfl ?_
  refine xe_goto (tgt := 137) dX12_layFar_202 rfl ?_
  exact k

/-! FuneralPostModel.load -/

theorem TX12_load_0 {g : xGT} {d : Nat} {u : xU} {w : xW} {r : xQ} {P : xPost}
    (k : xEv g (d + 1) mX12_load 2 [some (.ref 655), some (.int (0 : Int32))] [] 698 u w r 698 P) :
    xEv g (d + 1) mX12_load 0 [some (.ref 655), none] [] 698 u w r 698 P := by
  refine xe_iconst (v := 0) dX12_load_0 rfl ?_
  refine xe_istore_n (ls' := [some (.ref 655), some (.int (0 : Int32))]) dX12_load_1 rfl (by decide) rfl ?_
  exact k

theorem CX12_load {g : xGT} {d : Nat} {u : xU} {w : xW} {r : xQ} {P : xPost}
    (k : xEv g (d + 1) mX12_load 2 [some (.ref 655), some (.int (0 : Int32))] [] 698 u w r 698 P) :
    xCall g (d + 1) mX12_load [.ref 655] 698 u w r 698 P :=
  xCall.of plX12 (Nat.le_of_ble_eq_true rfl) rfl (TX12_load_0  k)

theorem TX12_load_2 {g : xGT} {d : Nat} {i1 : Int32} {u : xU} {w : xW} {r : xQ} {P : xPost} (hr : xRf r)
    (k : ((91 : Int32) ≤ i1 → xCall g d mX12_layFar [.ref 655] 698 (x2 u 655 61 (0 : Int32)) w r 698 (fun rv3 u3 w3 r3 => rv3 = none ∧ w = w3 ∧ r = r3 ∧ P none u3 w r)) ∧ (¬ ((91 : Int32) ≤ i1) → vp_in i1 92 ∧ (xEv g (d + 1) mX12_load 2 [some (.ref 655), some (.int (i1 + (1 : Int32)))] [] 698 (x2 u 684 i1.toNatClampNeg (u 683 i1.toNatClampNeg)) w r 698 P))) :
    xEv g (d + 1) mX12_load 2 [some (.ref 655), some (.int i1)] [] 698 u w r 698 P := by
  refine xe_iload_n dX12_load_2 rfl ?_
  refine xe_bipush (v := 91) dX12_load_3 rfl ?_
  refine xe_icmp_ge (tgt := 26) dX12_load_5 rfl (fun c1 => ?_) (fun c2 => ?_)
  · have k := k.1 c1
    refine xe_aload_n dX12_load_26 rfl ?_
    refine xe_iconst (v := 0) dX12_load_27 rfl ?_
    refine xe_putI dX12_load_28 flX12_433 kk655 (xKK_lt kk655) nf12_61 rfl ?_
    refine xe_aload_n dX12_load_31 rfl ?_
    refine xe_callV (args := []) dX12_load_32 vlX12_436 rfl rfl (Nat.le_of_ble_eq_true rfl) kk655 (xKK_lt kk655) rfl rfl k (Nat.le_refl _) (fun rv3 u3 w3 r3 k => ?_)
    obtain ⟨rfl, rfl, rfl, k⟩ := k
    exact xe_return dX12_load_35 trivial k
  · have k := k.2 (fun q => (c2 q))
    refine xe_aload_n dX12_load_8 rfl ?_
    refine xe_getR (b := 684) dX12_load_9 flX12_102 kk655 (xKK_lt kk655) rfl (rf655_58 hr) ?_
    refine xe_iload_n dX12_load_12 rfl ?_
    refine xe_aload_n dX12_load_13 rfl ?_
    refine xe_getR (b := 683) dX12_load_14 flX12_99 kk655 (xKK_lt kk655) rfl (rf655_57 hr) ?_
    refine xe_iload_n dX12_load_17 rfl ?_
    obtain ⟨b4, k⟩ := k
    refine xe_iald dX12_load_18 kk683 (xKK_lt kk683) b4 ?_
    refine xe_iast dX12_load_19 kk684 (xKK_lt kk684) b4 ?_
    refine xe_iinc (v := (i1 + (1 : Int32))) (ls' := [some (.ref 655), some (.int (i1 + (1 : Int32)))]) dX12_load_20 rfl (by decide) rfl rfl ?_
    refine xe_goto (tgt := 2) dX12_load_23 rfl ?_
    exact k

/-! FuneralPostModel.farOf -/

theorem TX12_farOf_0 {g : xGT} {d : Nat} {i1 i2 : Int32} {u : xU} {w : xW} {r : xQ} {P : xPost} (hr : xRf r)
    (k : vp_in (((7 : Int32) * i1) + i2) 49 ∧ (P (some (.int (u 685 (((7 : Int32) * i1) + i2).toNatClampNeg))) u w r)) :
    xEv g d mX12_farOf 0 [some (.ref 655), some (.int i1), some (.int i2)] [] 698 u w r 698 P := by
  refine xe_aload_n dX12_farOf_0 rfl ?_
  refine xe_getR (b := 685) dX12_farOf_1 flX12_105 kk655 (xKK_lt kk655) rfl (rf655_59 hr) ?_
  refine xe_bipush (v := 7) dX12_farOf_4 rfl ?_
  refine xe_iload_n dX12_farOf_6 rfl ?_
  refine xe_imul dX12_farOf_7 ?_
  refine xe_iload_n dX12_farOf_8 rfl ?_
  refine xe_iadd dX12_farOf_9 ?_
  obtain ⟨b1, k⟩ := k
  refine xe_iald dX12_farOf_10 kk685 (xKK_lt kk685) b1 ?_
  exact xe_ireturn dX12_farOf_11 rfl k

theorem CX12_farOf {g : xGT} {d : Nat} {i1 i2 : Int32} {u : xU} {w : xW} {r : xQ} {P : xPost} (hr : xRf r)
    (k : vp_in (((7 : Int32) * i1) + i2) 49 ∧ (P (some (.int (u 685 (((7 : Int32) * i1) + i2).toNatClampNeg))) u w r)) :
    xCall g d mX12_farOf [.ref 655, .int i1, .int i2] 698 u w r 698 P :=
  xCall.of plX12 (Nat.le_of_ble_eq_true rfl) rfl (TX12_farOf_0 hr k)

/-! FuneralPostModel.openWays -/

theorem TX12_openWays_0 {g : xGT} {d : Nat} {i1 : Int32} {u : xU} {w : xW} {r : xQ} {P : xPost}
    (k : xEv g (d + 1) mX12_openWays 4 [some (.ref 655), some (.int i1), some (.int (0 : Int32)), some (.int (0 : Int32))] [] 698 u w r 698 P) :
    xEv g (d + 1) mX12_openWays 0 [some (.ref 655), some (.int i1), none, none] [] 698 u w r 698 P := by
  refine xe_iconst (v := 0) dX12_openWays_0 rfl ?_
  refine xe_istore_n (ls' := [some (.ref 655), some (.int i1), some (.int (0 : Int32)), none]) dX12_openWays_1 rfl (by decide) rfl ?_
  refine xe_iconst (v := 0) dX12_openWays_2 rfl ?_
  refine xe_istore_n (ls' := [some (.ref 655), some (.int i1), some (.int (0 : Int32)), some (.int (0 : Int32))]) dX12_openWays_3 rfl (by decide) rfl ?_
  exact k

theorem CX12_openWays {g : xGT} {d : Nat} {i1 : Int32} {u : xU} {w : xW} {r : xQ} {P : xPost}
    (k : xEv g (d + 1) mX12_openWays 4 [some (.ref 655), some (.int i1), some (.int (0 : Int32)), some (.int (0 : Int32))] [] 698 u w r 698 P) :
    xCall g (d + 1) mX12_openWays [.ref 655, .int i1] 698 u w r 698 P :=
  xCall.of plX12 (Nat.le_of_ble_eq_true rfl) rfl (TX12_openWays_0  k)

theorem TX12_openWays_4 {g : xGT} {d : Nat} {i1 i2 i3 : Int32} {u : xU} {w : xW} {r : xQ} {P : xPost} (hr : xRf r)
    (k : ((u 655 50) ≤ i3 → P (some (.int i2)) u w r) ∧ (¬ ((u 655 50) ≤ i3) → xCall g d mX12_isClosed [.ref 655, .int i3] 698 u w r 698 (fun rv3 u3 w3 r3 => ∃ v3 : Int32, rv3 = some (.int v3) ∧ u = u3 ∧ w = w3 ∧ r = r3 ∧ (v3 = 0 → vp_in i3 12 ∧ ((((u 668 i3.toNatClampNeg) = i1 ∨ (u 669 i3.toNatClampNeg) = i1) → xEv g (d + 1) mX12_openWays 46 [some (.ref 655), some (.int i1), none, some (.int i3)] [.int (1 : Int32), .int i2] 698 u w r 698 P) ∧ (¬ ((u 668 i3.toNatClampNeg) = i1 ∨ (u 669 i3.toNatClampNeg) = i1) → xEv g (d + 1) mX12_openWays 45 [some (.ref 655), some (.int i1), none, some (.int i3)] [.int i2] 698 u w r 698 P))) ∧ (¬ (v3 = 0) → xEv g (d + 1) mX12_openWays 45 [some (.ref 655), some (.int i1), none, some (.int i3)] [.int i2] 698 u w r 698 P)))) :
    xEv g (d + 1) mX12_openWays 4 [some (.ref 655), some (.int i1), some (.int i2), some (.int i3)] [] 698 u w r 698 P := by
  refine xe_iload_n dX12_openWays_4 rfl ?_
  refine xe_aload_n dX12_openWays_5 rfl ?_
  refine xe_getI dX12_openWays_6 flX12_398 kk655 (xKK_lt kk655) rfl ?_
  refine xe_icmp_ge (tgt := 57) dX12_openWays_9 rfl (fun c1 => ?_) (fun c2 => ?_)
  · have k := k.1 c1
    refine xe_iload_n dX12_openWays_57 rfl ?_
    exact xe_ireturn dX12_openWays_58 rfl k
  · have k := k.2 (fun q => (c2 q))
    refine xe_iload_n dX12_openWays_12 rfl ?_
    refine xe_aload_n dX12_openWays_13 rfl ?_
    refine xe_iload_n dX12_openWays_14 rfl ?_
    refine xe_callV (args := [.int i3]) dX12_openWays_15 vlX12_430 rfl rfl (Nat.le_of_ble_eq_true rfl) kk655 (xKK_lt kk655) rfl rfl k (Nat.le_refl _) (fun rv3 u3 w3 r3 k => ?_)
    obtain ⟨v3, rfl, rfl, rfl, rfl, k⟩ := k
    refine xe_if_ne (tgt := 45) dX12_openWays_18 rfl (fun c4 => ?_) (fun c5 => ?_)
    · have k := k.2 (fun q => (c4 q))
      exact xEv.fewer (ls' := [some (.ref 655), some (.int i1), none, some (.int i3)]) k (xfw_get (xfw_s (xfw_s (xfw_n (xfw_s (xfw_nil _))))))
    · have k := k.1 c5
      refine xe_aload_n dX12_openWays_21 rfl ?_
      refine xe_getR (b := 668) dX12_openWays_22 flX12_51 kk655 (xKK_lt kk655) rfl (rf655_28 hr) ?_
      refine xe_iload_n dX12_openWays_25 rfl ?_
      obtain ⟨b6, k⟩ := k
      refine xe_iald dX12_openWays_26 kk668 (xKK_lt kk668) b6 ?_
      refine xe_iload_n dX12_openWays_27 rfl ?_
      have K11 : ((u 668 i3.toNatClampNeg) = i1 ∨ (u 669 i3.toNatClampNeg) = i1) → xEv g (d + 1) mX12_openWays 41 [some (.ref 655), some (.int i1), some (.int i2), some (.int i3)] [.int i2] 698 u w r 698 P := fun c12 => by
        have k := k.1 c12
        refine xe_iconst (v := 1) dX12_openWays_41 rfl ?_
        refine xe_goto (tgt := 46) dX12_openWays_42 rfl ?_
        exact xEv.fewer (ls' := [some (.ref 655), some (.int i1), none, some (.int i3)]) k (xfw_get (xfw_s (xfw_s (xfw_n (xfw_s (xfw_nil _))))))
      refine xe_icmp_eq (tgt := 41) dX12_openWays_28 rfl (fun c7 => ?_) (fun c8 => ?_)
      · exact K11 (Or.inl c7)
      · refine xe_aload_n dX12_openWays_31 rfl ?_
        refine xe_getR (b := 669) dX12_openWays_32 flX12_54 kk655 (xKK_lt kk655) rfl (rf655_29 hr) ?_
        refine xe_iload_n dX12_openWays_35 rfl ?_
        refine xe_iald dX12_openWays_36 kk669 (xKK_lt kk669) b6 ?_
        refine xe_iload_n dX12_openWays_37 rfl ?_
        refine xe_icmp_ne (tgt := 45) dX12_openWays_38 rfl (fun c9 => ?_) (fun c10 => ?_)
        · have k := k.2 (fun q => (q.elim (fun z => (c8 z)) (fun z => (c9 z))))
          exact xEv.fewer (ls' := [some (.ref 655), some (.int i1), none, some (.int i3)]) k (xfw_get (xfw_s (xfw_s (xfw_n (xfw_s (xfw_nil _))))))
        · exact K11 (Or.inr c10)

theorem TX12_openWays_46 {g : xGT} {d : Nat} {i1 i3 z0 z1 : Int32} {u : xU} {w : xW} {r : xQ} {P : xPost}
    (k : xCall g d mX12_truth [.int z1] 698 u w r 698 (fun rv13 u13 w13 r13 => ∃ v13 : Int32, rv13 = some (.int v13) ∧ u = u13 ∧ w = w13 ∧ r = r13 ∧ xEv g (d + 1) mX12_openWays 4 [some (.ref 655), some (.int i1), some (.int (z0 + v13)), some (.int (i3 + (1 : Int32)))] [] 698 u w r 698 P)) :
    xEv g (d + 1) mX12_openWays 46 [some (.ref 655), some (.int i1), none, some (.int i3)] [.int z1, .int z0] 698 u w r 698 P := by
  refine xe_callS (args := [.int z1]) dX12_openWays_46 slX12_317 rfl rfl (Nat.le_of_ble_eq_true rfl) k (Nat.le_refl _) (fun rv13 u13 w13 r13 k => ?_)
  obtain ⟨v13, rfl, rfl, rfl, rfl, k⟩ := k
  refine xe_iadd dX12_openWays_49 ?_
  refine xe_istore_n (ls' := [some (.ref 655), some (.int i1), some (.int (z0 + v13)), some (.int i3)]) dX12_openWays_50 rfl (by decide) rfl ?_
  refine xe_iinc (v := (i3 + (1 : Int32))) (ls' := [some (.ref 655), some (.int i1), some (.int (z0 + v13)), some (.int (i3 + (1 : Int32)))]) dX12_openWays_51 rfl (by decide) rfl rfl ?_
  refine xe_goto (tgt := 4) dX12_openWays_54 rfl ?_
  exact k

theorem TX12_openWays_45 {g : xGT} {d : Nat} {i1 i3 z0 : Int32} {u : xU} {w : xW} {r : xQ} {P : xPost}
    (k : xEv g (d + 1) mX12_openWays 46 [some (.ref 655), some (.int i1), none, some (.int i3)] [.int (0 : Int32), .int z0] 698 u w r 698 P) :
    xEv g (d + 1) mX12_openWays 45 [some (.ref 655), some (.int i1), none, some (.int i3)] [.int z0] 698 u w r 698 P := by
  refine xe_iconst (v := 0) dX12_openWays_45 rfl ?_
  exact k

/-! FuneralPostModel.daysBetween -/

theorem TX12_daysBetween_0 {g : xGT} {d : Nat} {i1 i2 : Int32} {u : xU} {w : xW} {r : xQ} {P : xPost}
    (k : xEv g (d + 1) mX12_daysBetween 5 [some (.ref 655), some (.int i1), some (.int i2), some (.int (-1 : Int32)), some (.int (0 : Int32))] [] 698 u w r 698 P) :
    xEv g (d + 1) mX12_daysBetween 0 [some (.ref 655), some (.int i1), some (.int i2), none, none] [] 698 u w r 698 P := by
  refine xe_iconst (v := -1) dX12_daysBetween_0 rfl ?_
  refine xe_istore_n (ls' := [some (.ref 655), some (.int i1), some (.int i2), some (.int (-1 : Int32)), none]) dX12_daysBetween_1 rfl (by decide) rfl ?_
  refine xe_iconst (v := 0) dX12_daysBetween_2 rfl ?_
  refine xe_istore (ls' := [some (.ref 655), some (.int i1), some (.int i2), some (.int (-1 : Int32)), some (.int (0 : Int32))]) dX12_daysBetween_3 (by decide) rfl ?_
  exact k

theorem CX12_daysBetween {g : xGT} {d : Nat} {i1 i2 : Int32} {u : xU} {w : xW} {r : xQ} {P : xPost}
    (k : xEv g (d + 1) mX12_daysBetween 5 [some (.ref 655), some (.int i1), some (.int i2), some (.int (-1 : Int32)), some (.int (0 : Int32))] [] 698 u w r 698 P) :
    xCall g (d + 1) mX12_daysBetween [.ref 655, .int i1, .int i2] 698 u w r 698 P :=
  xCall.of plX12 (Nat.le_of_ble_eq_true rfl) rfl (TX12_daysBetween_0  k)

theorem TX12_daysBetween_5 {g : xGT} {d : Nat} {i1 i2 i3 i4 : Int32} {u : xU} {w : xW} {r : xQ} {P : xPost} (hr : xRf r)
    (k : ((u 655 50) ≤ i4 → P (some (.int i3)) u w r) ∧ (¬ ((u 655 50) ≤ i4) → xCall g d mX12_isClosed [.ref 655, .int i4] 698 u w r 698 (fun rv3 u3 w3 r3 => ∃ v3 : Int32, rv3 = some (.int v3) ∧ u = u3 ∧ w = w3 ∧ r = r3 ∧ (v3 = 0 → vp_in i4 12 ∧ (((¬ ((u 668 i4.toNatClampNeg) = i1) ∨ ¬ ((u 669 i4.toNatClampNeg) = i2)) → (((u 668 i4.toNatClampNeg) = i2 ∧ (u 669 i4.toNatClampNeg) = i1) → xEv g (d + 1) mX12_daysBetween 67 [some (.ref 655), some (.int i1), some (.int i2), none, some (.int i4)] [] 698 u w r 698 P) ∧ (¬ ((u 668 i4.toNatClampNeg) = i2 ∧ (u 669 i4.toNatClampNeg) = i1) → xEv g (d + 1) mX12_daysBetween 75 [some (.ref 655), some (.int i1), some (.int i2), some (.int i3), some (.int i4)] [] 698 u w r 698 P)) ∧ (¬ (¬ ((u 668 i4.toNatClampNeg) = i1) ∨ ¬ ((u 669 i4.toNatClampNeg) = i2)) → xEv g (d + 1) mX12_daysBetween 67 [some (.ref 655), some (.int i1), some (.int i2), none, some (.int i4)] [] 698 u w r 698 P))) ∧ (¬ (v3 = 0) → xEv g (d + 1) mX12_daysBetween 75 [some (.ref 655), some (.int i1), some (.int i2), some (.int i3), some (.int i4)] [] 698 u w r 698 P)))) :
    xEv g (d + 1) mX12_daysBetween 5 [some (.ref 655), some (.int i1), some (.int i2), some (.int i3), some (.int i4)] [] 698 u w r 698 P := by
  refine xe_iload dX12_daysBetween_5 rfl ?_
  refine xe_aload_n dX12_daysBetween_7 rfl ?_
  refine xe_getI dX12_daysBetween_8 flX12_398 kk655 (xKK_lt kk655) rfl ?_
  refine xe_icmp_ge (tgt := 81) dX12_daysBetween_11 rfl (fun c1 => ?_) (fun c2 => ?_)
  · have k := k.1 c1
    refine xe_iload_n dX12_daysBetween_81 rfl ?_
    exact xe_ireturn dX12_daysBetween_82 rfl k
  · have k := k.2 (fun q => (c2 q))
    refine xe_aload_n dX12_daysBetween_14 rfl ?_
    refine xe_iload dX12_daysBetween_15 rfl ?_
    refine xe_callV (args := [.int i4]) dX12_daysBetween_17 vlX12_430 rfl rfl (Nat.le_of_ble_eq_true rfl) kk655 (xKK_lt kk655) rfl rfl k (Nat.le_refl _) (fun rv3 u3 w3 r3 k => ?_)
    obtain ⟨v3, rfl, rfl, rfl, rfl, k⟩ := k
    refine xe_if_ne (tgt := 75) dX12_daysBetween_20 rfl (fun c4 => ?_) (fun c5 => ?_)
    · have k := k.2 (fun q => (c4 q))
      exact k
    · have k := k.1 c5
      refine xe_aload_n dX12_daysBetween_23 rfl ?_
      refine xe_getR (b := 668) dX12_daysBetween_24 flX12_51 kk655 (xKK_lt kk655) rfl (rf655_28 hr) ?_
      refine xe_iload dX12_daysBetween_27 rfl ?_
      obtain ⟨b6, k⟩ := k
      refine xe_iald dX12_daysBetween_29 kk668 (xKK_lt kk668) b6 ?_
      refine xe_iload_n dX12_daysBetween_30 rfl ?_
      have K17 : (¬ ((u 668 i4.toNatClampNeg) = i1) ∨ ¬ ((u 669 i4.toNatClampNeg) = i2)) → xEv g (d + 1) mX12_daysBetween 45 [some (.ref 655), some (.int i1), some (.int i2), some (.int i3), some (.int i4)] [] 698 u w r 698 P := fun c18 => by
        have k := k.1 c18
        refine xe_aload_n dX12_daysBetween_45 rfl ?_
        refine xe_getR (b := 668) dX12_daysBetween_46 flX12_51 kk655 (xKK_lt kk655) rfl (rf655_28 hr) ?_
        refine xe_iload dX12_daysBetween_49 rfl ?_
        refine xe_iald dX12_daysBetween_51 kk668 (xKK_lt kk668) b6 ?_
        refine xe_iload_n dX12_daysBetween_52 rfl ?_
        have K15 : ¬ ((u 668 i4.toNatClampNeg) = i2 ∧ (u 669 i4.toNatClampNeg) = i1) → xEv g (d + 1) mX12_daysBetween 75 [some (.ref 655), some (.int i1), some (.int i2), some (.int i3), some (.int i4)] [] 698 u w r 698 P := fun c16 => by
          have k := k.2 c16
          exact k
        refine xe_icmp_ne (tgt := 75) dX12_daysBetween_53 rfl (fun c11 => ?_) (fun c12 => ?_)
        · exact K15 (fun q => (c11 q.1))
        · refine xe_aload_n dX12_daysBetween_56 rfl ?_
          refine xe_getR (b := 669) dX12_daysBetween_57 flX12_54 kk655 (xKK_lt kk655) rfl (rf655_29 hr) ?_
          refine xe_iload dX12_daysBetween_60 rfl ?_
          refine xe_iald dX12_daysBetween_62 kk669 (xKK_lt kk669) b6 ?_
          refine xe_iload_n dX12_daysBetween_63 rfl ?_
          refine xe_icmp_ne (tgt := 75) dX12_daysBetween_64 rfl (fun c13 => ?_) (fun c14 => ?_)
          · exact K15 (fun q => (c13 q.2))
          · have k := k.1 ⟨c12, c14⟩
            exact xEv.fewer (ls' := [some (.ref 655), some (.int i1), some (.int i2), none, some (.int i4)]) k (xfw_get (xfw_s (xfw_s (xfw_s (xfw_n (xfw_s (xfw_nil _)))))))
      refine xe_icmp_ne (tgt := 45) dX12_daysBetween_31 rfl (fun c7 => ?_) (fun c8 => ?_)
      · exact K17 (Or.inl c7)
      · refine xe_aload_n dX12_daysBetween_34 rfl ?_
        refine xe_getR (b := 669) dX12_daysBetween_35 flX12_54 kk655 (xKK_lt kk655) rfl (rf655_29 hr) ?_
        refine xe_iload dX12_daysBetween_38 rfl ?_
        refine xe_iald dX12_daysBetween_40 kk669 (xKK_lt kk669) b6 ?_
        refine xe_iload_n dX12_daysBetween_41 rfl ?_
        refine xe_icmp_eq (tgt := 67) dX12_daysBetween_42 rfl (fun c9 => ?_) (fun c10 => ?_)
        · have k := k.2 (fun q => (q.elim (fun z => (z c8)) (fun z => (z c9))))
          exact xEv.fewer (ls' := [some (.ref 655), some (.int i1), some (.int i2), none, some (.int i4)]) k (xfw_get (xfw_s (xfw_s (xfw_s (xfw_n (xfw_s (xfw_nil _)))))))
        · exact K17 (Or.inr c10)

theorem TX12_daysBetween_67 {g : xGT} {d : Nat} {i1 i2 i4 : Int32} {u : xU} {w : xW} {r : xQ} {P : xPost} (hr : xRf r)
    (k : vp_in i4 12 ∧ (xEv g (d + 1) mX12_daysBetween 75 [some (.ref 655), some (.int i1), some (.int i2), some (.int (u 670 i4.toNatClampNeg)), some (.int i4)] [] 698 u w r 698 P)) :
    xEv g (d + 1) mX12_daysBetween 67 [some (.ref 655), some (.int i1), some (.int i2), none, some (.int i4)] [] 698 u w r 698 P := by
  refine xe_aload_n dX12_daysBetween_67 rfl ?_
  refine xe_getR (b := 670) dX12_daysBetween_68 flX12_57 kk655 (xKK_lt kk655) rfl (rf655_30 hr) ?_
  refine xe_iload dX12_daysBetween_71 rfl ?_
  obtain ⟨b19, k⟩ := k
  refine xe_iald dX12_daysBetween_73 kk670 (xKK_lt kk670) b19 ?_
  refine xe_istore_n (ls' := [some (.ref 655), some (.int i1), some (.int i2), some (.int (u 670 i4.toNatClampNeg)), some (.int i4)]) dX12_daysBetween_74 rfl (by decide) rfl ?_
  exact k

theorem TX12_daysBetween_75 {g : xGT} {d : Nat} {i1 i2 i3 i4 : Int32} {u : xU} {w : xW} {r : xQ} {P : xPost}
    (k : xEv g (d + 1) mX12_daysBetween 5 [some (.ref 655), some (.int i1), some (.int i2), some (.int i3), some (.int (i4 + (1 : Int32)))] [] 698 u w r 698 P) :
    xEv g (d + 1) mX12_daysBetween 75 [some (.ref 655), some (.int i1), some (.int i2), some (.int i3), some (.int i4)] [] 698 u w r 698 P := by
  refine xe_iinc (v := (i4 + (1 : Int32))) (ls' := [some (.ref 655), some (.int i1), some (.int i2), some (.int i3), some (.int (i4 + (1 : Int32)))]) dX12_daysBetween_75 rfl (by decide) rfl rfl ?_
  refine xe_goto (tgt := 5) dX12_daysBetween_78 rfl ?_
  exact k

/-! FuneralPostModel.nextFrom -/

theorem TX12_nextFrom_0 {g : xGT} {d : Nat} {i1 i2 : Int32} {u : xU} {w : xW} {r : xQ} {P : xPost}
    (k : (i1 = i2 → P (some (.int (-1 : Int32))) u w r) ∧ (¬ (i1 = i2) → xCall g d mX12_farOf [.ref 655, .int i1, .int i2] 698 u w r 698 (fun rv3 u3 w3 r3 => ∃ v3 : Int32, rv3 = some (.int v3) ∧ u = u3 ∧ w = w3 ∧ r = r3 ∧ (v3 < (1000 : Int32) → xEv g (d + 1) mX12_nextFrom 29 [some (.ref 655), some (.int i1), some (.int i2), some (.int (-1 : Int32)), some (.int (1000 : Int32)), some (.int (0 : Int32)), none] [] 698 u w r 698 P) ∧ (¬ (v3 < (1000 : Int32)) → P (some (.int (-1 : Int32))) u w r)))) :
    xEv g (d + 1) mX12_nextFrom 0 [some (.ref 655), some (.int i1), some (.int i2), none, none, none, none] [] 698 u w r 698 P := by
  refine xe_iload_n dX12_nextFrom_0 rfl ?_
  refine xe_iload_n dX12_nextFrom_1 rfl ?_
  refine xe_icmp_eq (tgt := 17) dX12_nextFrom_2 rfl (fun c1 => ?_) (fun c2 => ?_)
  · have k := k.1 c1
    refine xe_iconst (v := -1) dX12_nextFrom_17 rfl ?_
    exact xe_ireturn dX12_nextFrom_18 rfl k
  · have k := k.2 (fun q => (c2 q))
    refine xe_aload_n dX12_nextFrom_5 rfl ?_
    refine xe_iload_n dX12_nextFrom_6 rfl ?_
    refine xe_iload_n dX12_nextFrom_7 rfl ?_
    refine xe_callV (args := [.int i1, .int i2]) dX12_nextFrom_8 vlX12_439 rfl rfl (Nat.le_of_ble_eq_true rfl) kk655 (xKK_lt kk655) rfl rfl k (Nat.le_refl _) (fun rv3 u3 w3 r3 k => ?_)
    obtain ⟨v3, rfl, rfl, rfl, rfl, k⟩ := k
    refine xe_sipush (v := 1000) dX12_nextFrom_11 rfl ?_
    refine xe_icmp_lt (tgt := 19) dX12_nextFrom_14 rfl (fun c4 => ?_) (fun c5 => ?_)
    · have k := k.1 c4
      refine xe_iconst (v := -1) dX12_nextFrom_19 rfl ?_
      refine xe_istore_n (ls' := [some (.ref 655), some (.int i1), some (.int i2), some (.int (-1 : Int32)), none, none, none]) dX12_nextFrom_20 rfl (by decide) rfl ?_
      refine xe_sipush (v := 1000) dX12_nextFrom_21 rfl ?_
      refine xe_istore (ls' := [some (.ref 655), some (.int i1), some (.int i2), some (.int (-1 : Int32)), some (.int (1000 : Int32)), none, none]) dX12_nextFrom_24 (by decide) rfl ?_
      refine xe_iconst (v := 0) dX12_nextFrom_26 rfl ?_
      refine xe_istore (ls' := [some (.ref 655), some (.int i1), some (.int i2), some (.int (-1 : Int32)), some (.int (1000 : Int32)), some (.int (0 : Int32)), none]) dX12_nextFrom_27 (by decide) rfl ?_
      exact k
    · have k := k.2 (fun q => (c5 q))
      refine xe_iconst (v := -1) dX12_nextFrom_17 rfl ?_
      exact xe_ireturn dX12_nextFrom_18 rfl k

theorem CX12_nextFrom {g : xGT} {d : Nat} {i1 i2 : Int32} {u : xU} {w : xW} {r : xQ} {P : xPost}
    (k : (i1 = i2 → P (some (.int (-1 : Int32))) u w r) ∧ (¬ (i1 = i2) → xCall g d mX12_farOf [.ref 655, .int i1, .int i2] 698 u w r 698 (fun rv3 u3 w3 r3 => ∃ v3 : Int32, rv3 = some (.int v3) ∧ u = u3 ∧ w = w3 ∧ r = r3 ∧ (v3 < (1000 : Int32) → xEv g (d + 1) mX12_nextFrom 29 [some (.ref 655), some (.int i1), some (.int i2), some (.int (-1 : Int32)), some (.int (1000 : Int32)), some (.int (0 : Int32)), none] [] 698 u w r 698 P) ∧ (¬ (v3 < (1000 : Int32)) → P (some (.int (-1 : Int32))) u w r)))) :
    xCall g (d + 1) mX12_nextFrom [.ref 655, .int i1, .int i2] 698 u w r 698 P :=
  xCall.of plX12 (Nat.le_of_ble_eq_true rfl) rfl (TX12_nextFrom_0  k)

theorem TX12_nextFrom_29 {g : xGT} {d : Nat} {i1 i2 i3 i4 i5 : Int32} {u : xU} {w : xW} {r : xQ} {P : xPost}
    (k : ((u 655 49) ≤ i5 → P (some (.int i3)) u w r) ∧ (¬ ((u 655 49) ≤ i5) → xCall g d mX12_daysBetween [.ref 655, .int i1, .int i5] 698 u w r 698 (fun rv8 u8 w8 r8 => ∃ v8 : Int32, rv8 = some (.int v8) ∧ u = u8 ∧ w = w8 ∧ r = r8 ∧ (v8 < 0 → xEv g (d + 1) mX12_nextFrom 85 [some (.ref 655), some (.int i1), some (.int i2), some (.int i3), some (.int i4), some (.int i5), none] [] 698 u w r 698 P) ∧ (¬ (v8 < 0) → xCall g d mX12_farOf [.ref 655, .int i5, .int i2] 698 u w r 698 (fun rv11 u11 w11 r11 => ∃ v11 : Int32, rv11 = some (.int v11) ∧ u = u11 ∧ w = w11 ∧ r = r11 ∧ ((v8 + v11) < i4 → xCall g d mX12_farOf [.ref 655, .int i5, .int i2] 698 u w r 698 (fun rv14 u14 w14 r14 => ∃ v14 : Int32, rv14 = some (.int v14) ∧ u = u14 ∧ w = w14 ∧ r = r14 ∧ xEv g (d + 1) mX12_nextFrom 85 [some (.ref 655), some (.int i1), some (.int i2), some (.int i5), some (.int (v8 + v14)), some (.int i5), none] [] 698 u w r 698 P)) ∧ (¬ ((v8 + v11) < i4) → xEv g (d + 1) mX12_nextFrom 85 [some (.ref 655), some (.int i1), some (.int i2), some (.int i3), some (.int i4), some (.int i5), none] [] 698 u w r 698 P)))))) :
    xEv g (d + 1) mX12_nextFrom 29 [some (.ref 655), some (.int i1), some (.int i2), some (.int i3), some (.int i4), some (.int i5), none] [] 698 u w r 698 P := by
  refine xe_iload dX12_nextFrom_29 rfl ?_
  refine xe_aload_n dX12_nextFrom_31 rfl ?_
  refine xe_getI dX12_nextFrom_32 flX12_395 kk655 (xKK_lt kk655) rfl ?_
  refine xe_icmp_ge (tgt := 91) dX12_nextFrom_35 rfl (fun c6 => ?_) (fun c7 => ?_)
  · have k := k.1 c6
    refine xe_iload_n dX12_nextFrom_91 rfl ?_
    exact xe_ireturn dX12_nextFrom_92 rfl k
  · have k := k.2 (fun q => (c7 q))
    refine xe_aload_n dX12_nextFrom_38 rfl ?_
    refine xe_iload_n dX12_nextFrom_39 rfl ?_
    refine xe_iload dX12_nextFrom_40 rfl ?_
    refine xe_callV (args := [.int i1, .int i5]) dX12_nextFrom_42 vlX12_442 rfl rfl (Nat.le_of_ble_eq_true rfl) kk655 (xKK_lt kk655) rfl rfl k (Nat.le_refl _) (fun rv8 u8 w8 r8 k => ?_)
    obtain ⟨v8, rfl, rfl, rfl, rfl, k⟩ := k
    refine xe_istore (ls' := [some (.ref 655), some (.int i1), some (.int i2), some (.int i3), some (.int i4), some (.int i5), some (.int v8)]) dX12_nextFrom_45 (by decide) rfl ?_
    refine xe_iload dX12_nextFrom_47 rfl ?_
    refine xe_if_lt (tgt := 85) dX12_nextFrom_49 rfl (fun c9 => ?_) (fun c10 => ?_)
    · have k := k.1 c9
      exact xEv.fewer (ls' := [some (.ref 655), some (.int i1), some (.int i2), some (.int i3), some (.int i4), some (.int i5), none]) k (xfw_get (xfw_s (xfw_s (xfw_s (xfw_s (xfw_s (xfw_s (xfw_n (xfw_nil _)))))))))
    · have k := k.2 (fun q => (c10 q))
      refine xe_iload dX12_nextFrom_52 rfl ?_
      refine xe_aload_n dX12_nextFrom_54 rfl ?_
      refine xe_iload dX12_nextFrom_55 rfl ?_
      refine xe_iload_n dX12_nextFrom_57 rfl ?_
      refine xe_callV (args := [.int i5, .int i2]) dX12_nextFrom_58 vlX12_439 rfl rfl (Nat.le_of_ble_eq_true rfl) kk655 (xKK_lt kk655) rfl rfl k (Nat.le_refl _) (fun rv11 u11 w11 r11 k => ?_)
      obtain ⟨v11, rfl, rfl, rfl, rfl, k⟩ := k
      refine xe_iadd dX12_nextFrom_61 ?_
      refine xe_iload dX12_nextFrom_62 rfl ?_
      refine xe_icmp_lt (tgt := 70) dX12_nextFrom_64 rfl (fun c12 => ?_) (fun c13 => ?_)
      · have k := k.1 c12
        refine xe_iload dX12_nextFrom_70 rfl ?_
        refine xe_istore_n (ls' := [some (.ref 655), some (.int i1), some (.int i2), some (.int i5), some (.int i4), some (.int i5), some (.int v8)]) dX12_nextFrom_72 rfl (by decide) rfl ?_
        refine xe_iload dX12_nextFrom_73 rfl ?_
        refine xe_aload_n dX12_nextFrom_75 rfl ?_
        refine xe_iload dX12_nextFrom_76 rfl ?_
        refine xe_iload_n dX12_nextFrom_78 rfl ?_
        refine xe_callV (args := [.int i5, .int i2]) dX12_nextFrom_79 vlX12_439 rfl rfl (Nat.le_of_ble_eq_true rfl) kk655 (xKK_lt kk655) rfl rfl k (Nat.le_refl _) (fun rv14 u14 w14 r14 k => ?_)
        obtain ⟨v14, rfl, rfl, rfl, rfl, k⟩ := k
        refine xe_iadd dX12_nextFrom_82 ?_
        refine xe_istore (ls' := [some (.ref 655), some (.int i1), some (.int i2), some (.int i5), some (.int (v8 + v14)), some (.int i5), some (.int v8)]) dX12_nextFrom_83 (by decide) rfl ?_
        exact xEv.fewer (ls' := [some (.ref 655), some (.int i1), some (.int i2), some (.int i5), some (.int (v8 + v14)), some (.int i5), none]) k (xfw_get (xfw_s (xfw_s (xfw_s (xfw_s (xfw_s (xfw_s (xfw_n (xfw_nil _)))))))))
      · have k := k.2 (fun q => (c13 q))
        refine xe_goto (tgt := 85) dX12_nextFrom_67 rfl ?_
        exact xEv.fewer (ls' := [some (.ref 655), some (.int i1), some (.int i2), some (.int i3), some (.int i4), some (.int i5), none]) k (xfw_get (xfw_s (xfw_s (xfw_s (xfw_s (xfw_s (xfw_s (xfw_n (xfw_nil _)))))))))

theorem TX12_nextFrom_85 {g : xGT} {d : Nat} {i1 i2 i3 i4 i5 : Int32} {u : xU} {w : xW} {r : xQ} {P : xPost}
    (k : xEv g (d + 1) mX12_nextFrom 29 [some (.ref 655), some (.int i1), some (.int i2), some (.int i3), some (.int i4), some (.int (i5 + (1 : Int32))), none] [] 698 u w r 698 P) :
    xEv g (d + 1) mX12_nextFrom 85 [some (.ref 655), some (.int i1), some (.int i2), some (.int i3), some (.int i4), some (.int i5), none] [] 698 u w r 698 P := by
  refine xe_iinc (v := (i5 + (1 : Int32))) (ls' := [some (.ref 655), some (.int i1), some (.int i2), some (.int i3), some (.int i4), some (.int (i5 + (1 : Int32))), none]) dX12_nextFrom_85 rfl (by decide) rfl rfl ?_
  refine xe_goto (tgt := 29) dX12_nextFrom_88 rfl ?_
  exact k

/-! FuneralPostModel.restFrom -/

theorem TX12_restFrom_0 {g : xGT} {d : Nat} {i1 i2 : Int32} {u : xU} {w : xW} {r : xQ} {P : xPost}
    (k : xEv g (d + 1) mX12_restFrom 5 [some (.ref 655), none, some (.int i2), some (.int (0 : Int32)), some (.int i1)] [] 698 u w r 698 P) :
    xEv g (d + 1) mX12_restFrom 0 [some (.ref 655), some (.int i1), some (.int i2), none, none] [] 698 u w r 698 P := by
  refine xe_iconst (v := 0) dX12_restFrom_0 rfl ?_
  refine xe_istore_n (ls' := [some (.ref 655), some (.int i1), some (.int i2), some (.int (0 : Int32)), none]) dX12_restFrom_1 rfl (by decide) rfl ?_
  refine xe_iload_n dX12_restFrom_2 rfl ?_
  refine xe_istore (ls' := [some (.ref 655), some (.int i1), some (.int i2), some (.int (0 : Int32)), some (.int i1)]) dX12_restFrom_3 (by decide) rfl ?_
  exact xEv.fewer (ls' := [some (.ref 655), none, some (.int i2), some (.int (0 : Int32)), some (.int i1)]) k (xfw_get (xfw_s (xfw_n (xfw_s (xfw_s (xfw_s (xfw_nil _)))))))

theorem CX12_restFrom {g : xGT} {d : Nat} {i1 i2 : Int32} {u : xU} {w : xW} {r : xQ} {P : xPost}
    (k : xEv g (d + 1) mX12_restFrom 5 [some (.ref 655), none, some (.int i2), some (.int (0 : Int32)), some (.int i1)] [] 698 u w r 698 P) :
    xCall g (d + 1) mX12_restFrom [.ref 655, .int i1, .int i2] 698 u w r 698 P :=
  xCall.of plX12 (Nat.le_of_ble_eq_true rfl) rfl (TX12_restFrom_0  k)

theorem TX12_restFrom_5 {g : xGT} {d : Nat} {i2 i3 i4 : Int32} {u : xU} {w : xW} {r : xQ} {P : xPost}
    (k : (i4 < 0 → P (some (.int i3)) u w r) ∧ (¬ (i4 < 0) → xCall g d mX12_nextFrom [.ref 655, .int i4, .int i2] 698 u w r 698 (fun rv3 u3 w3 r3 => ∃ v3 : Int32, rv3 = some (.int v3) ∧ u = u3 ∧ w = w3 ∧ r = r3 ∧ xEv g (d + 1) mX12_restFrom 5 [some (.ref 655), none, some (.int i2), some (.int (i3 ||| ((1 : Int32) <<< (i4 &&& 31)))), some (.int v3)] [] 698 u w r 698 P))) :
    xEv g (d + 1) mX12_restFrom 5 [some (.ref 655), none, some (.int i2), some (.int i3), some (.int i4)] [] 698 u w r 698 P := by
  refine xe_iload dX12_restFrom_5 rfl ?_
  refine xe_if_lt (tgt := 29) dX12_restFrom_7 rfl (fun c1 => ?_) (fun c2 => ?_)
  · have k := k.1 c1
    refine xe_iload_n dX12_restFrom_29 rfl ?_
    exact xe_ireturn dX12_restFrom_30 rfl k
  · have k := k.2 (fun q => (c2 q))
    refine xe_iload_n dX12_restFrom_10 rfl ?_
    refine xe_iconst (v := 1) dX12_restFrom_11 rfl ?_
    refine xe_iload dX12_restFrom_12 rfl ?_
    refine xe_ishl dX12_restFrom_14 ?_
    refine xe_ior dX12_restFrom_15 ?_
    refine xe_istore_n (ls' := [some (.ref 655), none, some (.int i2), some (.int (i3 ||| ((1 : Int32) <<< (i4 &&& 31)))), some (.int i4)]) dX12_restFrom_16 rfl (by decide) rfl ?_
    refine xe_aload_n dX12_restFrom_17 rfl ?_
    refine xe_iload dX12_restFrom_18 rfl ?_
    refine xe_iload_n dX12_restFrom_20 rfl ?_
    refine xe_callV (args := [.int i4, .int i2]) dX12_restFrom_21 vlX12_445 rfl rfl (Nat.le_of_ble_eq_true rfl) kk655 (xKK_lt kk655) rfl rfl k (Nat.le_refl _) (fun rv3 u3 w3 r3 k => ?_)
    obtain ⟨v3, rfl, rfl, rfl, rfl, k⟩ := k
    refine xe_istore (ls' := [some (.ref 655), none, some (.int i2), some (.int (i3 ||| ((1 : Int32) <<< (i4 &&& 31)))), some (.int v3)]) dX12_restFrom_24 (by decide) rfl ?_
    refine xe_goto (tgt := 5) dX12_restFrom_26 rfl ?_
    exact k

/-! FuneralPostModel.restOf -/

theorem TX12_restOf_0 {g : xGT} {d : Nat} {i1 : Int32} {u : xU} {w : xW} {r : xQ} {P : xPost} (hr : xRf r)
    (k : vp_in ((6 : Int32) + i1) 92 ∧ (vp_in i1 6 ∧ (xCall g d mX12_restFrom [.ref 655, .int (u 684 ((6 : Int32) + i1).toNatClampNeg), .int (u 676 i1.toNatClampNeg)] 698 u w r 698 (fun rv3 u3 w3 r3 => ∃ v3 : Int32, rv3 = some (.int v3) ∧ u = u3 ∧ w = w3 ∧ r = r3 ∧ P (some (.int v3)) u w r)))) :
    xEv g (d + 1) mX12_restOf 0 [some (.ref 655), some (.int i1)] [] 698 u w r 698 P := by
  refine xe_aload_n dX12_restOf_0 rfl ?_
  refine xe_aload_n dX12_restOf_1 rfl ?_
  refine xe_getR (b := 684) dX12_restOf_2 flX12_102 kk655 (xKK_lt kk655) rfl (rf655_58 hr) ?_
  refine xe_bipush (v := 6) dX12_restOf_5 rfl ?_
  refine xe_iload_n dX12_restOf_7 rfl ?_
  refine xe_iadd dX12_restOf_8 ?_
  obtain ⟨b1, k⟩ := k
  refine xe_iald dX12_restOf_9 kk684 (xKK_lt kk684) b1 ?_
  refine xe_aload_n dX12_restOf_10 rfl ?_
  refine xe_getR (b := 676) dX12_restOf_11 flX12_75 kk655 (xKK_lt kk655) rfl (rf655_36 hr) ?_
  refine xe_iload_n dX12_restOf_14 rfl ?_
  obtain ⟨b2, k⟩ := k
  refine xe_iald dX12_restOf_15 kk676 (xKK_lt kk676) b2 ?_
  refine xe_callV (args := [.int (u 684 ((6 : Int32) + i1).toNatClampNeg), .int (u 676 i1.toNatClampNeg)]) dX12_restOf_16 vlX12_448 rfl rfl (Nat.le_of_ble_eq_true rfl) kk655 (xKK_lt kk655) rfl rfl k (Nat.le_refl _) (fun rv3 u3 w3 r3 k => ?_)
  obtain ⟨v3, rfl, rfl, rfl, rfl, k⟩ := k
  exact xe_ireturn dX12_restOf_19 rfl k

theorem CX12_restOf {g : xGT} {d : Nat} {i1 : Int32} {u : xU} {w : xW} {r : xQ} {P : xPost} (hr : xRf r)
    (k : vp_in ((6 : Int32) + i1) 92 ∧ (vp_in i1 6 ∧ (xCall g d mX12_restFrom [.ref 655, .int (u 684 ((6 : Int32) + i1).toNatClampNeg), .int (u 676 i1.toNatClampNeg)] 698 u w r 698 (fun rv3 u3 w3 r3 => ∃ v3 : Int32, rv3 = some (.int v3) ∧ u = u3 ∧ w = w3 ∧ r = r3 ∧ P (some (.int v3)) u w r)))) :
    xCall g (d + 1) mX12_restOf [.ref 655, .int i1] 698 u w r 698 P :=
  xCall.of plX12 (Nat.le_of_ble_eq_true rfl) rfl (TX12_restOf_0 hr k)

/-! FuneralPostModel.comeTo -/

set_option maxRecDepth 20000 in
theorem TX12_comeTo_0 {g : xGT} {d : Nat} {i1 i2 : Int32} {u : xU} {w : xW} {r : xQ} {P : xPost} (hr : xRf r)
    (k : vp_in i1 92 ∧ (vp_in ((6 : Int32) + i1) 92 ∧ (vp_in i1 6 ∧ (xCall g d mX12_openWays [.ref 655, .int i2] 698 (x2 (x2 (x2 (x2 u 684 i1.toNatClampNeg (1 : Int32)) 684 ((6 : Int32) + i1).toNatClampNeg i2) 664 0 (u 684 90)) 664 1 (u 678 i1.toNatClampNeg)) w r 698 (fun rv4 u4 w4 r4 => ∃ v4 : Int32, rv4 = some (.int v4) ∧ (x2 (x2 (x2 (x2 u 684 i1.toNatClampNeg (1 : Int32)) 684 ((6 : Int32) + i1).toNatClampNeg i2) 664 0 (u 684 90)) 664 1 (u 678 i1.toNatClampNeg)) = u4 ∧ w = w4 ∧ r = r4 ∧ xCall g d mX12_farOf [.ref 655, .int i2, .int (u 676 i1.toNatClampNeg)] 698 (x2 (x2 (x2 (x2 (x2 u 684 i1.toNatClampNeg (1 : Int32)) 684 ((6 : Int32) + i1).toNatClampNeg i2) 664 0 (u 684 90)) 664 1 (u 678 i1.toNatClampNeg)) 664 2 v4) w r 698 (fun rv5 u5 w5 r5 => ∃ v5 : Int32, rv5 = some (.int v5) ∧ (x2 (x2 (x2 (x2 (x2 u 684 i1.toNatClampNeg (1 : Int32)) 684 ((6 : Int32) + i1).toNatClampNeg i2) 664 0 (u 684 90)) 664 1 (u 678 i1.toNatClampNeg)) 664 2 v4) = u5 ∧ w = w5 ∧ r = r5 ∧ xCall g d mX12_waitHere [.ref 655] 698 (x2 (x2 (x2 (x2 (x2 (x2 u 684 i1.toNatClampNeg (1 : Int32)) 684 ((6 : Int32) + i1).toNatClampNeg i2) 664 0 (u 684 90)) 664 1 (u 678 i1.toNatClampNeg)) 664 2 v4) 664 3 v5) w r 698 (fun rv6 u6 w6 r6 => ∃ v6 : Int32, rv6 = some (.int v6) ∧ w = w6 ∧ r = r6 ∧ vp_in ((12 : Int32) + i1) 92 ∧ ((i2 = (u6 676 i1.toNatClampNeg) → xEv g (d + 1) mX12_comeTo 118 [some (.ref 655), some (.int i1), some (.int i2), none, some (.int (0 : Int32))] [] 698 (x2 (x2 (x2 u6 684 ((12 : Int32) + i1).toNatClampNeg ((u 684 90) + v6)) 684 i1.toNatClampNeg (3 : Int32)) 684 ((12 : Int32) + i1).toNatClampNeg (-1 : Int32)) w r 698 P) ∧ (¬ (i2 = (u6 676 i1.toNatClampNeg)) → P none (x2 u6 684 ((12 : Int32) + i1).toNatClampNeg ((u 684 90) + v6)) w r))))))))) :
    xEv g (d + 1) mX12_comeTo 0 [some (.ref 655), some (.int i1), some (.int i2), none, none] [] 698 u w r 698 P := by
  refine xe_aload_n dX12_comeTo_0 rfl ?_
  refine xe_getR (b := 684) dX12_comeTo_1 flX12_102 kk655 (xKK_lt kk655) rfl (rf655_58 hr) ?_
  refine xe_bipush (v := 90) dX12_comeTo_4 rfl ?_
  refine xe_iald dX12_comeTo_6 kk684 (xKK_lt kk684) (show ¬ ((90 : Int32) < 0 ∨ 92 ≤ (90 : Int32).toNatClampNeg) from by decide) ?_
  refine xe_istore_n (ls' := [some (.ref 655), some (.int i1), some (.int i2), some (.int (u 684 90)), none]) dX12_comeTo_7 rfl (by decide) rfl ?_
  refine xe_aload_n dX12_comeTo_8 rfl ?_
  refine xe_getR (b := 684) dX12_comeTo_9 flX12_102 kk655 (xKK_lt kk655) rfl (rf655_58 hr) ?_
  refine xe_iload_n dX12_comeTo_12 rfl ?_
  refine xe_iconst (v := 1) dX12_comeTo_13 rfl ?_
  obtain ⟨b1, k⟩ := k
  refine xe_iast dX12_comeTo_14 kk684 (xKK_lt kk684) b1 ?_
  refine xe_aload_n dX12_comeTo_15 rfl ?_
  refine xe_getR (b := 684) dX12_comeTo_16 flX12_102 kk655 (xKK_lt kk655) rfl (rf655_58 hr) ?_
  refine xe_bipush (v := 6) dX12_comeTo_19 rfl ?_
  refine xe_iload_n dX12_comeTo_21 rfl ?_
  refine xe_iadd dX12_comeTo_22 ?_
  refine xe_iload_n dX12_comeTo_23 rfl ?_
  obtain ⟨b2, k⟩ := k
  refine xe_iast dX12_comeTo_24 kk684 (xKK_lt kk684) b2 ?_
  refine xe_aload_n dX12_comeTo_25 rfl ?_
  refine xe_getR (b := 664) dX12_comeTo_26 flX12_39 kk655 (xKK_lt kk655) rfl (rf655_24 hr) ?_
  refine xe_iconst (v := 0) dX12_comeTo_29 rfl ?_
  refine xe_iload_n dX12_comeTo_30 rfl ?_
  refine xe_iast dX12_comeTo_31 kk664 (xKK_lt kk664) (show ¬ ((0 : Int32) < 0 ∨ 4 ≤ (0 : Int32).toNatClampNeg) from by decide) ?_
  refine xe_aload_n dX12_comeTo_32 rfl ?_
  refine xe_getR (b := 664) dX12_comeTo_33 flX12_39 kk655 (xKK_lt kk655) rfl (rf655_24 hr) ?_
  refine xe_iconst (v := 1) dX12_comeTo_36 rfl ?_
  refine xe_aload_n dX12_comeTo_37 rfl ?_
  refine xe_getR (b := 678) dX12_comeTo_38 flX12_81 kk655 (xKK_lt kk655) rfl (rf655_38 hr) ?_
  refine xe_iload_n dX12_comeTo_41 rfl ?_
  obtain ⟨b3, k⟩ := k
  refine xe_iald dX12_comeTo_42 kk678 (xKK_lt kk678) b3 ?_
  refine xe_iast dX12_comeTo_43 kk664 (xKK_lt kk664) (show ¬ ((1 : Int32) < 0 ∨ 4 ≤ (1 : Int32).toNatClampNeg) from by decide) ?_
  refine xe_aload_n dX12_comeTo_44 rfl ?_
  refine xe_getR (b := 664) dX12_comeTo_45 flX12_39 kk655 (xKK_lt kk655) rfl (rf655_24 hr) ?_
  refine xe_iconst (v := 2) dX12_comeTo_48 rfl ?_
  refine xe_aload_n dX12_comeTo_49 rfl ?_
  refine xe_iload_n dX12_comeTo_50 rfl ?_
  refine xe_callV (args := [.int i2]) dX12_comeTo_51 vlX12_451 rfl rfl (Nat.le_of_ble_eq_true rfl) kk655 (xKK_lt kk655) rfl rfl k (Nat.le_refl _) (fun rv4 u4 w4 r4 k => ?_)
  obtain ⟨v4, rfl, rfl, rfl, rfl, k⟩ := k
  refine xe_iast dX12_comeTo_54 kk664 (xKK_lt kk664) (show ¬ ((2 : Int32) < 0 ∨ 4 ≤ (2 : Int32).toNatClampNeg) from by decide) ?_
  refine xe_aload_n dX12_comeTo_55 rfl ?_
  refine xe_getR (b := 664) dX12_comeTo_56 flX12_39 kk655 (xKK_lt kk655) rfl (rf655_24 hr) ?_
  refine xe_iconst (v := 3) dX12_comeTo_59 rfl ?_
  refine xe_aload_n dX12_comeTo_60 rfl ?_
  refine xe_iload_n dX12_comeTo_61 rfl ?_
  refine xe_aload_n dX12_comeTo_62 rfl ?_
  refine xe_getR (b := 676) dX12_comeTo_63 flX12_75 kk655 (xKK_lt kk655) rfl (rf655_36 hr) ?_
  refine xe_iload_n dX12_comeTo_66 rfl ?_
  refine xe_iald dX12_comeTo_67 kk676 (xKK_lt kk676) b3 ?_
  refine xe_callV (args := [.int i2, .int (u 676 i1.toNatClampNeg)]) dX12_comeTo_68 vlX12_439 rfl rfl (Nat.le_of_ble_eq_true rfl) kk655 (xKK_lt kk655) rfl rfl k (Nat.le_refl _) (fun rv5 u5 w5 r5 k => ?_)
  obtain ⟨v5, rfl, rfl, rfl, rfl, k⟩ := k
  refine xe_iast dX12_comeTo_71 kk664 (xKK_lt kk664) (show ¬ ((3 : Int32) < 0 ∨ 4 ≤ (3 : Int32).toNatClampNeg) from by decide) ?_
  refine xe_aload_n dX12_comeTo_72 rfl ?_
  refine xe_getR (b := 684) dX12_comeTo_73 flX12_102 kk655 (xKK_lt kk655) rfl (rf655_58 hr) ?_
  refine xe_bipush (v := 12) dX12_comeTo_76 rfl ?_
  refine xe_iload_n dX12_comeTo_78 rfl ?_
  refine xe_iadd dX12_comeTo_79 ?_
  refine xe_iload_n dX12_comeTo_80 rfl ?_
  refine xe_aload_n dX12_comeTo_81 rfl ?_
  refine xe_callV (args := []) dX12_comeTo_82 vlX12_454 rfl rfl (Nat.le_of_ble_eq_true rfl) kk655 (xKK_lt kk655) rfl rfl k (Nat.le_refl _) (fun rv6 u6 w6 r6 k => ?_)
  obtain ⟨v6, rfl, rfl, rfl, k⟩ := k
  refine xe_iadd dX12_comeTo_85 ?_
  obtain ⟨b7, k⟩ := k
  refine xe_iast dX12_comeTo_86 kk684 (xKK_lt kk684) b7 ?_
  refine xe_iload_n dX12_comeTo_87 rfl ?_
  refine xe_aload_n dX12_comeTo_88 rfl ?_
  refine xe_getR (b := 676) dX12_comeTo_89 flX12_75 kk655 (xKK_lt kk655) rfl (rf655_36 hr) ?_
  refine xe_iload_n dX12_comeTo_92 rfl ?_
  refine xe_iald dX12_comeTo_93 kk676 (xKK_lt kk676) b3 ?_
  refine xe_icmp_eq (tgt := 98) dX12_comeTo_94 rfl (fun c8 => ?_) (fun c9 => ?_)
  · have k := k.1 c8
    refine xe_aload_n dX12_comeTo_98 rfl ?_
    refine xe_getR (b := 684) dX12_comeTo_99 flX12_102 kk655 (xKK_lt kk655) rfl (rf655_58 hr) ?_
    refine xe_iload_n dX12_comeTo_102 rfl ?_
    refine xe_iconst (v := 3) dX12_comeTo_103 rfl ?_
    refine xe_iast dX12_comeTo_104 kk684 (xKK_lt kk684) b1 ?_
    refine xe_aload_n dX12_comeTo_105 rfl ?_
    refine xe_getR (b := 684) dX12_comeTo_106 flX12_102 kk655 (xKK_lt kk655) rfl (rf655_58 hr) ?_
    refine xe_bipush (v := 12) dX12_comeTo_109 rfl ?_
    refine xe_iload_n dX12_comeTo_111 rfl ?_
    refine xe_iadd dX12_comeTo_112 ?_
    refine xe_iconst (v := -1) dX12_comeTo_113 rfl ?_
    refine xe_iast dX12_comeTo_114 kk684 (xKK_lt kk684) b7 ?_
    refine xe_iconst (v := 0) dX12_comeTo_115 rfl ?_
    refine xe_istore (ls' := [some (.ref 655), some (.int i1), some (.int i2), some (.int (u 684 90)), some (.int (0 : Int32))]) dX12_comeTo_116 (by decide) rfl ?_
    exact xEv.fewer (ls' := [some (.ref 655), some (.int i1), some (.int i2), none, some (.int (0 : Int32))]) k (xfw_get (xfw_s (xfw_s (xfw_s (xfw_n (xfw_s (xfw_nil _)))))))
  · have k := k.2 (fun q => (c9 q))
    exact xe_return dX12_comeTo_97 trivial k

theorem CX12_comeTo {g : xGT} {d : Nat} {i1 i2 : Int32} {u : xU} {w : xW} {r : xQ} {P : xPost} (hr : xRf r)
    (k : vp_in i1 92 ∧ (vp_in ((6 : Int32) + i1) 92 ∧ (vp_in i1 6 ∧ (xCall g d mX12_openWays [.ref 655, .int i2] 698 (x2 (x2 (x2 (x2 u 684 i1.toNatClampNeg (1 : Int32)) 684 ((6 : Int32) + i1).toNatClampNeg i2) 664 0 (u 684 90)) 664 1 (u 678 i1.toNatClampNeg)) w r 698 (fun rv4 u4 w4 r4 => ∃ v4 : Int32, rv4 = some (.int v4) ∧ (x2 (x2 (x2 (x2 u 684 i1.toNatClampNeg (1 : Int32)) 684 ((6 : Int32) + i1).toNatClampNeg i2) 664 0 (u 684 90)) 664 1 (u 678 i1.toNatClampNeg)) = u4 ∧ w = w4 ∧ r = r4 ∧ xCall g d mX12_farOf [.ref 655, .int i2, .int (u 676 i1.toNatClampNeg)] 698 (x2 (x2 (x2 (x2 (x2 u 684 i1.toNatClampNeg (1 : Int32)) 684 ((6 : Int32) + i1).toNatClampNeg i2) 664 0 (u 684 90)) 664 1 (u 678 i1.toNatClampNeg)) 664 2 v4) w r 698 (fun rv5 u5 w5 r5 => ∃ v5 : Int32, rv5 = some (.int v5) ∧ (x2 (x2 (x2 (x2 (x2 u 684 i1.toNatClampNeg (1 : Int32)) 684 ((6 : Int32) + i1).toNatClampNeg i2) 664 0 (u 684 90)) 664 1 (u 678 i1.toNatClampNeg)) 664 2 v4) = u5 ∧ w = w5 ∧ r = r5 ∧ xCall g d mX12_waitHere [.ref 655] 698 (x2 (x2 (x2 (x2 (x2 (x2 u 684 i1.toNatClampNeg (1 : Int32)) 684 ((6 : Int32) + i1).toNatClampNeg i2) 664 0 (u 684 90)) 664 1 (u 678 i1.toNatClampNeg)) 664 2 v4) 664 3 v5) w r 698 (fun rv6 u6 w6 r6 => ∃ v6 : Int32, rv6 = some (.int v6) ∧ w = w6 ∧ r = r6 ∧ vp_in ((12 : Int32) + i1) 92 ∧ ((i2 = (u6 676 i1.toNatClampNeg) → xEv g (d + 1) mX12_comeTo 118 [some (.ref 655), some (.int i1), some (.int i2), none, some (.int (0 : Int32))] [] 698 (x2 (x2 (x2 u6 684 ((12 : Int32) + i1).toNatClampNeg ((u 684 90) + v6)) 684 i1.toNatClampNeg (3 : Int32)) 684 ((12 : Int32) + i1).toNatClampNeg (-1 : Int32)) w r 698 P) ∧ (¬ (i2 = (u6 676 i1.toNatClampNeg)) → P none (x2 u6 684 ((12 : Int32) + i1).toNatClampNeg ((u 684 90) + v6)) w r))))))))) :
    xCall g (d + 1) mX12_comeTo [.ref 655, .int i1, .int i2] 698 u w r 698 P :=
  xCall.of plX12 (Nat.le_of_ble_eq_true rfl) rfl (TX12_comeTo_0 hr k)

theorem TX12_comeTo_118 {g : xGT} {d : Nat} {i1 i2 i4 : Int32} {u : xU} {w : xW} {r : xQ} {P : xPost} (hr : xRf r)
    (k : ((u 684 88) ≤ i4 → P none u w r) ∧ (¬ ((u 684 88) ≤ i4) → vp_in ((28 : Int32) + i4) 92 ∧ (((u 684 ((28 : Int32) + i4).toNatClampNeg) = i1 → vp_in ((18 : Int32) + i4) 92 ∧ (xEv g (d + 1) mX12_comeTo 169 [some (.ref 655), some (.int i1), some (.int i2), none, some (.int i4)] [] 698 (x2 (x2 u 684 ((28 : Int32) + i4).toNatClampNeg (-1 : Int32)) 684 ((18 : Int32) + i4).toNatClampNeg i2) w r 698 P)) ∧ (¬ ((u 684 ((28 : Int32) + i4).toNatClampNeg) = i1) → xEv g (d + 1) mX12_comeTo 169 [some (.ref 655), some (.int i1), some (.int i2), none, some (.int i4)] [] 698 u w r 698 P)))) :
    xEv g (d + 1) mX12_comeTo 118 [some (.ref 655), some (.int i1), some (.int i2), none, some (.int i4)] [] 698 u w r 698 P := by
  refine xe_iload dX12_comeTo_118 rfl ?_
  refine xe_aload_n dX12_comeTo_120 rfl ?_
  refine xe_getR (b := 684) dX12_comeTo_121 flX12_102 kk655 (xKK_lt kk655) rfl (rf655_58 hr) ?_
  refine xe_bipush (v := 88) dX12_comeTo_124 rfl ?_
  refine xe_iald dX12_comeTo_126 kk684 (xKK_lt kk684) (show ¬ ((88 : Int32) < 0 ∨ 92 ≤ (88 : Int32).toNatClampNeg) from by decide) ?_
  refine xe_icmp_ge (tgt := 175) dX12_comeTo_127 rfl (fun c10 => ?_) (fun c11 => ?_)
  · have k := k.1 c10
    exact xe_return dX12_comeTo_175 trivial k
  · have k := k.2 (fun q => (c11 q))
    refine xe_aload_n dX12_comeTo_130 rfl ?_
    refine xe_getR (b := 684) dX12_comeTo_131 flX12_102 kk655 (xKK_lt kk655) rfl (rf655_58 hr) ?_
    refine xe_bipush (v := 28) dX12_comeTo_134 rfl ?_
    refine xe_iload dX12_comeTo_136 rfl ?_
    refine xe_iadd dX12_comeTo_138 ?_
    obtain ⟨b12, k⟩ := k
    refine xe_iald dX12_comeTo_139 kk684 (xKK_lt kk684) b12 ?_
    refine xe_iload_n dX12_comeTo_140 rfl ?_
    refine xe_icmp_eq (tgt := 147) dX12_comeTo_141 rfl (fun c13 => ?_) (fun c14 => ?_)
    · have k := k.1 c13
      refine xe_aload_n dX12_comeTo_147 rfl ?_
      refine xe_getR (b := 684) dX12_comeTo_148 flX12_102 kk655 (xKK_lt kk655) rfl (rf655_58 hr) ?_
      refine xe_bipush (v := 28) dX12_comeTo_151 rfl ?_
      refine xe_iload dX12_comeTo_153 rfl ?_
      refine xe_iadd dX12_comeTo_155 ?_
      refine xe_iconst (v := -1) dX12_comeTo_156 rfl ?_
      refine xe_iast dX12_comeTo_157 kk684 (xKK_lt kk684) b12 ?_
      refine xe_aload_n dX12_comeTo_158 rfl ?_
      refine xe_getR (b := 684) dX12_comeTo_159 flX12_102 kk655 (xKK_lt kk655) rfl (rf655_58 hr) ?_
      refine xe_bipush (v := 18) dX12_comeTo_162 rfl ?_
      refine xe_iload dX12_comeTo_164 rfl ?_
      refine xe_iadd dX12_comeTo_166 ?_
      refine xe_iload_n dX12_comeTo_167 rfl ?_
      obtain ⟨b15, k⟩ := k
      refine xe_iast dX12_comeTo_168 kk684 (xKK_lt kk684) b15 ?_
      exact k
    · have k := k.2 (fun q => (c14 q))
      refine xe_goto (tgt := 169) dX12_comeTo_144 rfl ?_
      exact k

theorem TX12_comeTo_169 {g : xGT} {d : Nat} {i1 i2 i4 : Int32} {u : xU} {w : xW} {r : xQ} {P : xPost}
    (k : xEv g (d + 1) mX12_comeTo 118 [some (.ref 655), some (.int i1), some (.int i2), none, some (.int (i4 + (1 : Int32)))] [] 698 u w r 698 P) :
    xEv g (d + 1) mX12_comeTo 169 [some (.ref 655), some (.int i1), some (.int i2), none, some (.int i4)] [] 698 u w r 698 P := by
  refine xe_iinc (v := (i4 + (1 : Int32))) (ls' := [some (.ref 655), some (.int i1), some (.int i2), none, some (.int (i4 + (1 : Int32)))]) dX12_comeTo_169 rfl (by decide) rfl rfl ?_
  refine xe_goto (tgt := 118) dX12_comeTo_172 rfl ?_
  exact k

/-! FuneralPostModel.stepOne -/

theorem TX12_stepOne_0 {g : xGT} {d : Nat} {u : xU} {w : xW} {r : xQ} {P : xPost}
    (k : xEv g (d + 1) mX12_stepOne 2 [some (.ref 655), some (.int (0 : Int32))] [] 698 u w r 698 P) :
    xEv g (d + 1) mX12_stepOne 0 [some (.ref 655), none] [] 698 u w r 698 P := by
  refine xe_iconst (v := 0) dX12_stepOne_0 rfl ?_
  refine xe_istore_n (ls' := [some (.ref 655), some (.int (0 : Int32))]) dX12_stepOne_1 rfl (by decide) rfl ?_
  exact k

theorem CX12_stepOne {g : xGT} {d : Nat} {u : xU} {w : xW} {r : xQ} {P : xPost}
    (k : xEv g (d + 1) mX12_stepOne 2 [some (.ref 655), some (.int (0 : Int32))] [] 698 u w r 698 P) :
    xCall g (d + 1) mX12_stepOne [.ref 655] 698 u w r 698 P :=
  xCall.of plX12 (Nat.le_of_ble_eq_true rfl) rfl (TX12_stepOne_0  k)

set_option maxRecDepth 20000 in
theorem TX12_stepOne_2 {g : xGT} {d : Nat} {i1 : Int32} {u : xU} {w : xW} {r : xQ} {P : xPost} (hr : xRf r)
    (k : ((u 655 51) ≤ i1 → P none u w r) ∧ (¬ ((u 655 51) ≤ i1) → vp_in i1 92 ∧ (((u 684 i1.toNatClampNeg) = 0 → vp_in i1 6) ∧ ((((u 684 i1.toNatClampNeg) = 0 ∧ (u 677 i1.toNatClampNeg) = (u 684 90)) → vp_in i1 6 ∧ (xCall g d mX12_comeTo [.ref 655, .int i1, .int (u 675 i1.toNatClampNeg)] 698 u w r 698 (fun rv10 u10 w10 r10 => rv10 = none ∧ w = w10 ∧ r = r10 ∧ xEv g (d + 1) mX12_stepOne 92 [some (.ref 655), some (.int i1)] [] 698 u10 w r 698 P))) ∧ (¬ ((u 684 i1.toNatClampNeg) = 0 ∧ (u 677 i1.toNatClampNeg) = (u 684 90)) → ((u 684 i1.toNatClampNeg) = (2 : Int32) → vp_in ((12 : Int32) + i1) 92) ∧ ((((u 684 i1.toNatClampNeg) = (2 : Int32) ∧ (u 684 ((12 : Int32) + i1).toNatClampNeg) = (u 684 90)) → vp_in ((6 : Int32) + i1) 92 ∧ (xCall g d mX12_comeTo [.ref 655, .int i1, .int (u 684 ((6 : Int32) + i1).toNatClampNeg)] 698 u w r 698 (fun rv17 u17 w17 r17 => rv17 = none ∧ w = w17 ∧ r = r17 ∧ xEv g (d + 1) mX12_stepOne 92 [some (.ref 655), some (.int i1)] [] 698 u17 w r 698 P))) ∧ (¬ ((u 684 i1.toNatClampNeg) = (2 : Int32) ∧ (u 684 ((12 : Int32) + i1).toNatClampNeg) = (u 684 90)) → xEv g (d + 1) mX12_stepOne 92 [some (.ref 655), some (.int i1)] [] 698 u w r 698 P))))))) :
    xEv g (d + 1) mX12_stepOne 2 [some (.ref 655), some (.int i1)] [] 698 u w r 698 P := by
  refine xe_iload_n dX12_stepOne_2 rfl ?_
  refine xe_aload_n dX12_stepOne_3 rfl ?_
  refine xe_getI dX12_stepOne_4 flX12_401 kk655 (xKK_lt kk655) rfl ?_
  refine xe_icmp_ge (tgt := 98) dX12_stepOne_7 rfl (fun c1 => ?_) (fun c2 => ?_)
  · have k := k.1 c1
    exact xe_return dX12_stepOne_98 trivial k
  · have k := k.2 (fun q => (c2 q))
    refine xe_aload_n dX12_stepOne_10 rfl ?_
    refine xe_getR (b := 684) dX12_stepOne_11 flX12_102 kk655 (xKK_lt kk655) rfl (rf655_58 hr) ?_
    refine xe_iload_n dX12_stepOne_14 rfl ?_
    obtain ⟨b3, k⟩ := k
    refine xe_iald dX12_stepOne_15 kk684 (xKK_lt kk684) b3 ?_
    obtain ⟨b6, k⟩ := k
    have K20 : ¬ ((u 684 i1.toNatClampNeg) = 0 ∧ (u 677 i1.toNatClampNeg) = (u 684 90)) → xEv g (d + 1) mX12_stepOne 49 [some (.ref 655), some (.int i1)] [] 698 u w r 698 P := fun c21 => by
      have k := k.2 c21
      refine xe_aload_n dX12_stepOne_49 rfl ?_
      refine xe_getR (b := 684) dX12_stepOne_50 flX12_102 kk655 (xKK_lt kk655) rfl (rf655_58 hr) ?_
      refine xe_iload_n dX12_stepOne_53 rfl ?_
      refine xe_iald dX12_stepOne_54 kk684 (xKK_lt kk684) b3 ?_
      refine xe_iconst (v := 2) dX12_stepOne_55 rfl ?_
      obtain ⟨b13, k⟩ := k
      have K18 : ¬ ((u 684 i1.toNatClampNeg) = (2 : Int32) ∧ (u 684 ((12 : Int32) + i1).toNatClampNeg) = (u 684 90)) → xEv g (d + 1) mX12_stepOne 92 [some (.ref 655), some (.int i1)] [] 698 u w r 698 P := fun c19 => by
        have k := k.2 c19
        exact k
      refine xe_icmp_ne (tgt := 92) dX12_stepOne_56 rfl (fun c11 => ?_) (fun c12 => ?_)
      · exact K18 (fun q => (c11 q.1))
      · refine xe_aload_n dX12_stepOne_59 rfl ?_
        refine xe_getR (b := 684) dX12_stepOne_60 flX12_102 kk655 (xKK_lt kk655) rfl (rf655_58 hr) ?_
        refine xe_bipush (v := 12) dX12_stepOne_63 rfl ?_
        refine xe_iload_n dX12_stepOne_65 rfl ?_
        refine xe_iadd dX12_stepOne_66 ?_
        refine xe_iald dX12_stepOne_67 kk684 (xKK_lt kk684) (b13 c12) ?_
        refine xe_aload_n dX12_stepOne_68 rfl ?_
        refine xe_getR (b := 684) dX12_stepOne_69 flX12_102 kk655 (xKK_lt kk655) rfl (rf655_58 hr) ?_
        refine xe_bipush (v := 90) dX12_stepOne_72 rfl ?_
        refine xe_iald dX12_stepOne_74 kk684 (xKK_lt kk684) (show ¬ ((90 : Int32) < 0 ∨ 92 ≤ (90 : Int32).toNatClampNeg) from by decide) ?_
        refine xe_icmp_ne (tgt := 92) dX12_stepOne_75 rfl (fun c14 => ?_) (fun c15 => ?_)
        · exact K18 (fun q => (c14 q.2))
        · have k := k.1 ⟨c12, c15⟩
          refine xe_aload_n dX12_stepOne_78 rfl ?_
          refine xe_iload_n dX12_stepOne_79 rfl ?_
          refine xe_aload_n dX12_stepOne_80 rfl ?_
          refine xe_getR (b := 684) dX12_stepOne_81 flX12_102 kk655 (xKK_lt kk655) rfl (rf655_58 hr) ?_
          refine xe_bipush (v := 6) dX12_stepOne_84 rfl ?_
          refine xe_iload_n dX12_stepOne_86 rfl ?_
          refine xe_iadd dX12_stepOne_87 ?_
          obtain ⟨b16, k⟩ := k
          refine xe_iald dX12_stepOne_88 kk684 (xKK_lt kk684) b16 ?_
          refine xe_callV (args := [.int i1, .int (u 684 ((6 : Int32) + i1).toNatClampNeg)]) dX12_stepOne_89 vlX12_457 rfl rfl (Nat.le_of_ble_eq_true rfl) kk655 (xKK_lt kk655) rfl rfl k (Nat.le_refl _) (fun rv17 u17 w17 r17 k => ?_)
          obtain ⟨rfl, rfl, rfl, k⟩ := k
          exact k
    refine xe_if_ne (tgt := 49) dX12_stepOne_16 rfl (fun c4 => ?_) (fun c5 => ?_)
    · exact K20 (fun q => (c4 q.1))
    · refine xe_aload_n dX12_stepOne_19 rfl ?_
      refine xe_getR (b := 677) dX12_stepOne_20 flX12_78 kk655 (xKK_lt kk655) rfl (rf655_37 hr) ?_
      refine xe_iload_n dX12_stepOne_23 rfl ?_
      refine xe_iald dX12_stepOne_24 kk677 (xKK_lt kk677) (b6 c5) ?_
      refine xe_aload_n dX12_stepOne_25 rfl ?_
      refine xe_getR (b := 684) dX12_stepOne_26 flX12_102 kk655 (xKK_lt kk655) rfl (rf655_58 hr) ?_
      refine xe_bipush (v := 90) dX12_stepOne_29 rfl ?_
      refine xe_iald dX12_stepOne_31 kk684 (xKK_lt kk684) (show ¬ ((90 : Int32) < 0 ∨ 92 ≤ (90 : Int32).toNatClampNeg) from by decide) ?_
      refine xe_icmp_ne (tgt := 49) dX12_stepOne_32 rfl (fun c7 => ?_) (fun c8 => ?_)
      · exact K20 (fun q => (c7 q.2))
      · have k := k.1 ⟨c5, c8⟩
        refine xe_aload_n dX12_stepOne_35 rfl ?_
        refine xe_iload_n dX12_stepOne_36 rfl ?_
        refine xe_aload_n dX12_stepOne_37 rfl ?_
        refine xe_getR (b := 675) dX12_stepOne_38 flX12_72 kk655 (xKK_lt kk655) rfl (rf655_35 hr) ?_
        refine xe_iload_n dX12_stepOne_41 rfl ?_
        obtain ⟨b9, k⟩ := k
        refine xe_iald dX12_stepOne_42 kk675 (xKK_lt kk675) b9 ?_
        refine xe_callV (args := [.int i1, .int (u 675 i1.toNatClampNeg)]) dX12_stepOne_43 vlX12_457 rfl rfl (Nat.le_of_ble_eq_true rfl) kk655 (xKK_lt kk655) rfl rfl k (Nat.le_refl _) (fun rv10 u10 w10 r10 k => ?_)
        obtain ⟨rfl, rfl, rfl, k⟩ := k
        refine xe_goto (tgt := 92) dX12_stepOne_46 rfl ?_
        exact k

theorem TX12_stepOne_92 {g : xGT} {d : Nat} {i1 : Int32} {u : xU} {w : xW} {r : xQ} {P : xPost}
    (k : xEv g (d + 1) mX12_stepOne 2 [some (.ref 655), some (.int (i1 + (1 : Int32)))] [] 698 u w r 698 P) :
    xEv g (d + 1) mX12_stepOne 92 [some (.ref 655), some (.int i1)] [] 698 u w r 698 P := by
  refine xe_iinc (v := (i1 + (1 : Int32))) (ls' := [some (.ref 655), some (.int (i1 + (1 : Int32)))]) dX12_stepOne_92 rfl (by decide) rfl rfl ?_
  refine xe_goto (tgt := 2) dX12_stepOne_95 rfl ?_
  exact k

/-! FuneralPostModel.standsAt -/

theorem TX12_standsAt_0 {g : xGT} {d : Nat} {i1 i2 : Int32} {u : xU} {w : xW} {r : xQ} {P : xPost} (hr : xRf r)
    (k : vp_in i1 92 ∧ (((u 684 i1.toNatClampNeg) = (1 : Int32) → vp_in ((6 : Int32) + i1) 92) ∧ (P (some (.int (xb ((u 684 i1.toNatClampNeg) = (1 : Int32) ∧ (u 684 ((6 : Int32) + i1).toNatClampNeg) = i2)))) u w r))) :
    xEv g d mX12_standsAt 0 [some (.ref 655), some (.int i1), some (.int i2)] [] 698 u w r 698 P := by
  refine xe_aload_n dX12_standsAt_0 rfl ?_
  refine xe_getR (b := 684) dX12_standsAt_1 flX12_102 kk655 (xKK_lt kk655) rfl (rf655_58 hr) ?_
  refine xe_iload_n dX12_standsAt_4 rfl ?_
  obtain ⟨b1, k⟩ := k
  refine xe_iald dX12_standsAt_5 kk684 (xKK_lt kk684) b1 ?_
  refine xe_iconst (v := 1) dX12_standsAt_6 rfl ?_
  obtain ⟨b4, k⟩ := k
  have K7 : xEv g d mX12_standsAt 28 [some (.ref 655), some (.int i1), some (.int i2)] [.int (xb ((u 684 i1.toNatClampNeg) = (1 : Int32) ∧ (u 684 ((6 : Int32) + i1).toNatClampNeg) = i2))] 698 u w r 698 P := by
    exact xe_ireturn dX12_standsAt_28 (xrokZ (xb01 _)) k
  refine xe_icmp_ne (tgt := 27) dX12_standsAt_7 rfl (fun c2 => ?_) (fun c3 => ?_)
  · refine xe_iconst (v := 0) dX12_standsAt_27 rfl ?_
    exact xtop (xb_neg (show ¬ ((u 684 i1.toNatClampNeg) = (1 : Int32) ∧ (u 684 ((6 : Int32) + i1).toNatClampNeg) = i2) from (fun q => (c2 q.1)))) K7
  · refine xe_aload_n dX12_standsAt_10 rfl ?_
    refine xe_getR (b := 684) dX12_standsAt_11 flX12_102 kk655 (xKK_lt kk655) rfl (rf655_58 hr) ?_
    refine xe_bipush (v := 6) dX12_standsAt_14 rfl ?_
    refine xe_iload_n dX12_standsAt_16 rfl ?_
    refine xe_iadd dX12_standsAt_17 ?_
    refine xe_iald dX12_standsAt_18 kk684 (xKK_lt kk684) (b4 c3) ?_
    refine xe_iload_n dX12_standsAt_19 rfl ?_
    refine xe_icmp_ne (tgt := 27) dX12_standsAt_20 rfl (fun c5 => ?_) (fun c6 => ?_)
    · refine xe_iconst (v := 0) dX12_standsAt_27 rfl ?_
      exact xtop (xb_neg (show ¬ ((u 684 i1.toNatClampNeg) = (1 : Int32) ∧ (u 684 ((6 : Int32) + i1).toNatClampNeg) = i2) from (fun q => (c5 q.2)))) K7
    · refine xe_iconst (v := 1) dX12_standsAt_23 rfl ?_
      refine xe_goto (tgt := 28) dX12_standsAt_24 rfl ?_
      exact xtop (xb_pos (show ((u 684 i1.toNatClampNeg) = (1 : Int32) ∧ (u 684 ((6 : Int32) + i1).toNatClampNeg) = i2) from ⟨c3, c6⟩)) K7

theorem CX12_standsAt {g : xGT} {d : Nat} {i1 i2 : Int32} {u : xU} {w : xW} {r : xQ} {P : xPost} (hr : xRf r)
    (k : vp_in i1 92 ∧ (((u 684 i1.toNatClampNeg) = (1 : Int32) → vp_in ((6 : Int32) + i1) 92) ∧ (P (some (.int (xb ((u 684 i1.toNatClampNeg) = (1 : Int32) ∧ (u 684 ((6 : Int32) + i1).toNatClampNeg) = i2)))) u w r))) :
    xCall g d mX12_standsAt [.ref 655, .int i1, .int i2] 698 u w r 698 P :=
  xCall.of plX12 (Nat.le_of_ble_eq_true rfl) rfl (TX12_standsAt_0 hr k)

/-! FuneralPostModel.villageOf -/

theorem TX12_villageOf_0 {g : xGT} {d : Nat} {i1 : Int32} {u : xU} {w : xW} {r : xQ} {P : xPost} (hr : xRf r)
    (k : vp_in ((28 : Int32) + i1) 92 ∧ (vp_in ((38 : Int32) + i1) 92 ∧ (((u 684 ((38 : Int32) + i1).toNatClampNeg) < 0 → (0 ≤ (u 684 ((28 : Int32) + i1).toNatClampNeg) → vp_in (u 684 ((28 : Int32) + i1).toNatClampNeg) 92 ∧ (((u 684 (u 684 ((28 : Int32) + i1).toNatClampNeg).toNatClampNeg) = (1 : Int32) → vp_in ((6 : Int32) + (u 684 ((28 : Int32) + i1).toNatClampNeg)) 92 ∧ (P (some (.int (u 684 ((6 : Int32) + (u 684 ((28 : Int32) + i1).toNatClampNeg)).toNatClampNeg))) u w r)) ∧ (¬ ((u 684 (u 684 ((28 : Int32) + i1).toNatClampNeg).toNatClampNeg) = (1 : Int32)) → P (some (.int (-1 : Int32))) u w r))) ∧ (¬ (0 ≤ (u 684 ((28 : Int32) + i1).toNatClampNeg)) → vp_in ((18 : Int32) + i1) 92 ∧ (P (some (.int (u 684 ((18 : Int32) + i1).toNatClampNeg))) u w r))) ∧ (¬ ((u 684 ((38 : Int32) + i1).toNatClampNeg) < 0) → P (some (.int (-1 : Int32))) u w r)))) :
    xEv g d mX12_villageOf 0 [some (.ref 655), some (.int i1), none] [] 698 u w r 698 P := by
  refine xe_aload_n dX12_villageOf_0 rfl ?_
  refine xe_getR (b := 684) dX12_villageOf_1 flX12_102 kk655 (xKK_lt kk655) rfl (rf655_58 hr) ?_
  refine xe_bipush (v := 28) dX12_villageOf_4 rfl ?_
  refine xe_iload_n dX12_villageOf_6 rfl ?_
  refine xe_iadd dX12_villageOf_7 ?_
  obtain ⟨b1, k⟩ := k
  refine xe_iald dX12_villageOf_8 kk684 (xKK_lt kk684) b1 ?_
  refine xe_istore_n (ls' := [some (.ref 655), some (.int i1), some (.int (u 684 ((28 : Int32) + i1).toNatClampNeg))]) dX12_villageOf_9 rfl (by decide) rfl ?_
  refine xe_aload_n dX12_villageOf_10 rfl ?_
  refine xe_getR (b := 684) dX12_villageOf_11 flX12_102 kk655 (xKK_lt kk655) rfl (rf655_58 hr) ?_
  refine xe_bipush (v := 38) dX12_villageOf_14 rfl ?_
  refine xe_iload_n dX12_villageOf_16 rfl ?_
  refine xe_iadd dX12_villageOf_17 ?_
  obtain ⟨b2, k⟩ := k
  refine xe_iald dX12_villageOf_18 kk684 (xKK_lt kk684) b2 ?_
  refine xe_if_lt (tgt := 26) dX12_villageOf_19 rfl (fun c3 => ?_) (fun c4 => ?_)
  · have k := k.1 c3
    refine xe_iload_n dX12_villageOf_26 rfl ?_
    refine xe_if_ge (tgt := 42) dX12_villageOf_27 rfl (fun c5 => ?_) (fun c6 => ?_)
    · have k := k.1 c5
      refine xe_aload_n dX12_villageOf_42 rfl ?_
      refine xe_getR (b := 684) dX12_villageOf_43 flX12_102 kk655 (xKK_lt kk655) rfl (rf655_58 hr) ?_
      refine xe_iload_n dX12_villageOf_46 rfl ?_
      obtain ⟨b7, k⟩ := k
      refine xe_iald dX12_villageOf_47 kk684 (xKK_lt kk684) b7 ?_
      refine xe_iconst (v := 1) dX12_villageOf_48 rfl ?_
      refine xe_icmp_ne (tgt := 64) dX12_villageOf_49 rfl (fun c8 => ?_) (fun c9 => ?_)
      · have k := k.2 (fun q => (c8 q))
        refine xe_iconst (v := -1) dX12_villageOf_64 rfl ?_
        exact xe_ireturn dX12_villageOf_65 rfl k
      · have k := k.1 c9
        refine xe_aload_n dX12_villageOf_52 rfl ?_
        refine xe_getR (b := 684) dX12_villageOf_53 flX12_102 kk655 (xKK_lt kk655) rfl (rf655_58 hr) ?_
        refine xe_bipush (v := 6) dX12_villageOf_56 rfl ?_
        refine xe_iload_n dX12_villageOf_58 rfl ?_
        refine xe_iadd dX12_villageOf_59 ?_
        obtain ⟨b10, k⟩ := k
        refine xe_iald dX12_villageOf_60 kk684 (xKK_lt kk684) b10 ?_
        refine xe_goto (tgt := 65) dX12_villageOf_61 rfl ?_
        exact xe_ireturn dX12_villageOf_65 rfl k
    · have k := k.2 (fun q => (c6 q))
      refine xe_aload_n dX12_villageOf_30 rfl ?_
      refine xe_getR (b := 684) dX12_villageOf_31 flX12_102 kk655 (xKK_lt kk655) rfl (rf655_58 hr) ?_
      refine xe_bipush (v := 18) dX12_villageOf_34 rfl ?_
      refine xe_iload_n dX12_villageOf_36 rfl ?_
      refine xe_iadd dX12_villageOf_37 ?_
      obtain ⟨b11, k⟩ := k
      refine xe_iald dX12_villageOf_38 kk684 (xKK_lt kk684) b11 ?_
      refine xe_goto (tgt := 65) dX12_villageOf_39 rfl ?_
      exact xe_ireturn dX12_villageOf_65 rfl k
  · have k := k.2 (fun q => (c4 q))
    refine xe_iconst (v := -1) dX12_villageOf_22 rfl ?_
    refine xe_goto (tgt := 65) dX12_villageOf_23 rfl ?_
    exact xe_ireturn dX12_villageOf_65 rfl k

theorem CX12_villageOf {g : xGT} {d : Nat} {i1 : Int32} {u : xU} {w : xW} {r : xQ} {P : xPost} (hr : xRf r)
    (k : vp_in ((28 : Int32) + i1) 92 ∧ (vp_in ((38 : Int32) + i1) 92 ∧ (((u 684 ((38 : Int32) + i1).toNatClampNeg) < 0 → (0 ≤ (u 684 ((28 : Int32) + i1).toNatClampNeg) → vp_in (u 684 ((28 : Int32) + i1).toNatClampNeg) 92 ∧ (((u 684 (u 684 ((28 : Int32) + i1).toNatClampNeg).toNatClampNeg) = (1 : Int32) → vp_in ((6 : Int32) + (u 684 ((28 : Int32) + i1).toNatClampNeg)) 92 ∧ (P (some (.int (u 684 ((6 : Int32) + (u 684 ((28 : Int32) + i1).toNatClampNeg)).toNatClampNeg))) u w r)) ∧ (¬ ((u 684 (u 684 ((28 : Int32) + i1).toNatClampNeg).toNatClampNeg) = (1 : Int32)) → P (some (.int (-1 : Int32))) u w r))) ∧ (¬ (0 ≤ (u 684 ((28 : Int32) + i1).toNatClampNeg)) → vp_in ((18 : Int32) + i1) 92 ∧ (P (some (.int (u 684 ((18 : Int32) + i1).toNatClampNeg))) u w r))) ∧ (¬ ((u 684 ((38 : Int32) + i1).toNatClampNeg) < 0) → P (some (.int (-1 : Int32))) u w r)))) :
    xCall g d mX12_villageOf [.ref 655, .int i1] 698 u w r 698 P :=
  xCall.of plX12 (Nat.le_of_ble_eq_true rfl) rfl (TX12_villageOf_0 hr k)

/-! FuneralPostModel.stepTwo -/

theorem TX12_stepTwo_0 {g : xGT} {d : Nat} {u : xU} {w : xW} {r : xQ} {P : xPost}
    (k : xEv g (d + 1) mX12_stepTwo 4 [some (.ref 655), some (.int (0 : Int32)), some (.int (0 : Int32))] [] 698 u w r 698 P) :
    xEv g (d + 1) mX12_stepTwo 0 [some (.ref 655), none, none] [] 698 u w r 698 P := by
  refine xe_iconst (v := 0) dX12_stepTwo_0 rfl ?_
  refine xe_istore_n (ls' := [some (.ref 655), some (.int (0 : Int32)), none]) dX12_stepTwo_1 rfl (by decide) rfl ?_
  refine xe_iconst (v := 0) dX12_stepTwo_2 rfl ?_
  refine xe_istore_n (ls' := [some (.ref 655), some (.int (0 : Int32)), some (.int (0 : Int32))]) dX12_stepTwo_3 rfl (by decide) rfl ?_
  exact k

theorem CX12_stepTwo {g : xGT} {d : Nat} {u : xU} {w : xW} {r : xQ} {P : xPost}
    (k : xEv g (d + 1) mX12_stepTwo 4 [some (.ref 655), some (.int (0 : Int32)), some (.int (0 : Int32))] [] 698 u w r 698 P) :
    xCall g (d + 1) mX12_stepTwo [.ref 655] 698 u w r 698 P :=
  xCall.of plX12 (Nat.le_of_ble_eq_true rfl) rfl (TX12_stepTwo_0  k)

theorem TX12_stepTwo_4 {g : xGT} {d : Nat} {i1 i2 : Int32} {u : xU} {w : xW} {r : xQ} {P : xPost} (hr : xRf r)
    (k : ((u 684 88) ≤ i2 → P (some (.int i1)) u w r) ∧ (¬ ((u 684 88) ≤ i2) → xCall g d mX12_villageOf [.ref 655, .int i2] 698 u w r 698 (fun rv3 u3 w3 r3 => ∃ v3 : Int32, rv3 = some (.int v3) ∧ u = u3 ∧ w = w3 ∧ r = r3 ∧ (v3 < 0 → xEv g (d + 1) mX12_stepTwo 82 [some (.ref 655), some (.int i1), some (.int i2)] [] 698 u w r 698 P) ∧ (¬ (v3 < 0) → xCall g d mX12_villageOf [.ref 655, .int i2] 698 u w r 698 (fun rv6 u6 w6 r6 => ∃ v6 : Int32, rv6 = some (.int v6) ∧ u = u6 ∧ w = w6 ∧ r = r6 ∧ vp_in ((58 : Int32) + i2) 92 ∧ ((v6 = (u 684 ((58 : Int32) + i2).toNatClampNeg) → vp_in ((38 : Int32) + i2) 92 ∧ (vp_in ((18 : Int32) + i2) 92 ∧ (vp_in ((28 : Int32) + i2) 92 ∧ (xEv g (d + 1) mX12_stepTwo 82 [some (.ref 655), some (.int (i1 + (1 : Int32))), some (.int i2)] [] 698 (x2 (x2 (x2 u 684 ((38 : Int32) + i2).toNatClampNeg (u 684 90)) 684 ((18 : Int32) + i2).toNatClampNeg (-1 : Int32)) 684 ((28 : Int32) + i2).toNatClampNeg (-1 : Int32)) w r 698 P)))) ∧ (¬ (v6 = (u 684 ((58 : Int32) + i2).toNatClampNeg)) → xEv g (d + 1) mX12_stepTwo 82 [some (.ref 655), some (.int i1), some (.int i2)] [] 698 u w r 698 P))))))) :
    xEv g (d + 1) mX12_stepTwo 4 [some (.ref 655), some (.int i1), some (.int i2)] [] 698 u w r 698 P := by
  refine xe_iload_n dX12_stepTwo_4 rfl ?_
  refine xe_aload_n dX12_stepTwo_5 rfl ?_
  refine xe_getR (b := 684) dX12_stepTwo_6 flX12_102 kk655 (xKK_lt kk655) rfl (rf655_58 hr) ?_
  refine xe_bipush (v := 88) dX12_stepTwo_9 rfl ?_
  refine xe_iald dX12_stepTwo_11 kk684 (xKK_lt kk684) (show ¬ ((88 : Int32) < 0 ∨ 92 ≤ (88 : Int32).toNatClampNeg) from by decide) ?_
  refine xe_icmp_ge (tgt := 88) dX12_stepTwo_12 rfl (fun c1 => ?_) (fun c2 => ?_)
  · have k := k.1 c1
    refine xe_iload_n dX12_stepTwo_88 rfl ?_
    exact xe_ireturn dX12_stepTwo_89 rfl k
  · have k := k.2 (fun q => (c2 q))
    refine xe_aload_n dX12_stepTwo_15 rfl ?_
    refine xe_iload_n dX12_stepTwo_16 rfl ?_
    refine xe_callV (args := [.int i2]) dX12_stepTwo_17 vlX12_460 rfl rfl (Nat.le_of_ble_eq_true rfl) kk655 (xKK_lt kk655) rfl rfl k (Nat.le_refl _) (fun rv3 u3 w3 r3 k => ?_)
    obtain ⟨v3, rfl, rfl, rfl, rfl, k⟩ := k
    refine xe_if_lt (tgt := 82) dX12_stepTwo_20 rfl (fun c4 => ?_) (fun c5 => ?_)
    · have k := k.1 c4
      exact k
    · have k := k.2 (fun q => (c5 q))
      refine xe_aload_n dX12_stepTwo_23 rfl ?_
      refine xe_iload_n dX12_stepTwo_24 rfl ?_
      refine xe_callV (args := [.int i2]) dX12_stepTwo_25 vlX12_460 rfl rfl (Nat.le_of_ble_eq_true rfl) kk655 (xKK_lt kk655) rfl rfl k (Nat.le_refl _) (fun rv6 u6 w6 r6 k => ?_)
      obtain ⟨v6, rfl, rfl, rfl, rfl, k⟩ := k
      refine xe_aload_n dX12_stepTwo_28 rfl ?_
      refine xe_getR (b := 684) dX12_stepTwo_29 flX12_102 kk655 (xKK_lt kk655) rfl (rf655_58 hr) ?_
      refine xe_bipush (v := 58) dX12_stepTwo_32 rfl ?_
      refine xe_iload_n dX12_stepTwo_34 rfl ?_
      refine xe_iadd dX12_stepTwo_35 ?_
      obtain ⟨b7, k⟩ := k
      refine xe_iald dX12_stepTwo_36 kk684 (xKK_lt kk684) b7 ?_
      refine xe_icmp_eq (tgt := 43) dX12_stepTwo_37 rfl (fun c8 => ?_) (fun c9 => ?_)
      · have k := k.1 c8
        refine xe_aload_n dX12_stepTwo_43 rfl ?_
        refine xe_getR (b := 684) dX12_stepTwo_44 flX12_102 kk655 (xKK_lt kk655) rfl (rf655_58 hr) ?_
        refine xe_bipush (v := 38) dX12_stepTwo_47 rfl ?_
        refine xe_iload_n dX12_stepTwo_49 rfl ?_
        refine xe_iadd dX12_stepTwo_50 ?_
        refine xe_aload_n dX12_stepTwo_51 rfl ?_
        refine xe_getR (b := 684) dX12_stepTwo_52 flX12_102 kk655 (xKK_lt kk655) rfl (rf655_58 hr) ?_
        refine xe_bipush (v := 90) dX12_stepTwo_55 rfl ?_
        refine xe_iald dX12_stepTwo_57 kk684 (xKK_lt kk684) (show ¬ ((90 : Int32) < 0 ∨ 92 ≤ (90 : Int32).toNatClampNeg) from by decide) ?_
        obtain ⟨b10, k⟩ := k
        refine xe_iast dX12_stepTwo_58 kk684 (xKK_lt kk684) b10 ?_
        refine xe_aload_n dX12_stepTwo_59 rfl ?_
        refine xe_getR (b := 684) dX12_stepTwo_60 flX12_102 kk655 (xKK_lt kk655) rfl (rf655_58 hr) ?_
        refine xe_bipush (v := 18) dX12_stepTwo_63 rfl ?_
        refine xe_iload_n dX12_stepTwo_65 rfl ?_
        refine xe_iadd dX12_stepTwo_66 ?_
        refine xe_iconst (v := -1) dX12_stepTwo_67 rfl ?_
        obtain ⟨b11, k⟩ := k
        refine xe_iast dX12_stepTwo_68 kk684 (xKK_lt kk684) b11 ?_
        refine xe_aload_n dX12_stepTwo_69 rfl ?_
        refine xe_getR (b := 684) dX12_stepTwo_70 flX12_102 kk655 (xKK_lt kk655) rfl (rf655_58 hr) ?_
        refine xe_bipush (v := 28) dX12_stepTwo_73 rfl ?_
        refine xe_iload_n dX12_stepTwo_75 rfl ?_
        refine xe_iadd dX12_stepTwo_76 ?_
        refine xe_iconst (v := -1) dX12_stepTwo_77 rfl ?_
        obtain ⟨b12, k⟩ := k
        refine xe_iast dX12_stepTwo_78 kk684 (xKK_lt kk684) b12 ?_
        refine xe_iinc (v := (i1 + (1 : Int32))) (ls' := [some (.ref 655), some (.int (i1 + (1 : Int32))), some (.int i2)]) dX12_stepTwo_79 rfl (by decide) rfl rfl ?_
        exact k
      · have k := k.2 (fun q => (c9 q))
        refine xe_goto (tgt := 82) dX12_stepTwo_40 rfl ?_
        exact k

theorem TX12_stepTwo_82 {g : xGT} {d : Nat} {i1 i2 : Int32} {u : xU} {w : xW} {r : xQ} {P : xPost}
    (k : xEv g (d + 1) mX12_stepTwo 4 [some (.ref 655), some (.int i1), some (.int (i2 + (1 : Int32)))] [] 698 u w r 698 P) :
    xEv g (d + 1) mX12_stepTwo 82 [some (.ref 655), some (.int i1), some (.int i2)] [] 698 u w r 698 P := by
  refine xe_iinc (v := (i2 + (1 : Int32))) (ls' := [some (.ref 655), some (.int i1), some (.int (i2 + (1 : Int32)))]) dX12_stepTwo_82 rfl (by decide) rfl rfl ?_
  refine xe_goto (tgt := 4) dX12_stepTwo_85 rfl ?_
  exact k

/-! FuneralPostModel.lettersIn -/

theorem TX12_lettersIn_0 {g : xGT} {d : Nat} {i1 : Int32} {u : xU} {w : xW} {r : xQ} {P : xPost}
    (k : xEv g (d + 1) mX12_lettersIn 4 [some (.ref 655), some (.int i1), some (.int (0 : Int32)), some (.int (0 : Int32))] [] 698 u w r 698 P) :
    xEv g (d + 1) mX12_lettersIn 0 [some (.ref 655), some (.int i1), none, none] [] 698 u w r 698 P := by
  refine xe_iconst (v := 0) dX12_lettersIn_0 rfl ?_
  refine xe_istore_n (ls' := [some (.ref 655), some (.int i1), some (.int (0 : Int32)), none]) dX12_lettersIn_1 rfl (by decide) rfl ?_
  refine xe_iconst (v := 0) dX12_lettersIn_2 rfl ?_
  refine xe_istore_n (ls' := [some (.ref 655), some (.int i1), some (.int (0 : Int32)), some (.int (0 : Int32))]) dX12_lettersIn_3 rfl (by decide) rfl ?_
  exact k

theorem CX12_lettersIn {g : xGT} {d : Nat} {i1 : Int32} {u : xU} {w : xW} {r : xQ} {P : xPost}
    (k : xEv g (d + 1) mX12_lettersIn 4 [some (.ref 655), some (.int i1), some (.int (0 : Int32)), some (.int (0 : Int32))] [] 698 u w r 698 P) :
    xCall g (d + 1) mX12_lettersIn [.ref 655, .int i1] 698 u w r 698 P :=
  xCall.of plX12 (Nat.le_of_ble_eq_true rfl) rfl (TX12_lettersIn_0  k)

theorem TX12_lettersIn_4 {g : xGT} {d : Nat} {i1 i2 i3 : Int32} {u : xU} {w : xW} {r : xQ} {P : xPost} (hr : xRf r)
    (k : ((u 684 88) ≤ i3 → P (some (.int i2)) u w r) ∧ (¬ ((u 684 88) ≤ i3) → vp_in ((28 : Int32) + i3) 92 ∧ (xCall g d mX12_truth [.int (xb ((u 684 ((28 : Int32) + i3).toNatClampNeg) = i1))] 698 u w r 698 (fun rv6 u6 w6 r6 => ∃ v6 : Int32, rv6 = some (.int v6) ∧ u = u6 ∧ w = w6 ∧ r = r6 ∧ xEv g (d + 1) mX12_lettersIn 4 [some (.ref 655), some (.int i1), some (.int (i2 + v6)), some (.int (i3 + (1 : Int32)))] [] 698 u w r 698 P)))) :
    xEv g (d + 1) mX12_lettersIn 4 [some (.ref 655), some (.int i1), some (.int i2), some (.int i3)] [] 698 u w r 698 P := by
  refine xe_iload_n dX12_lettersIn_4 rfl ?_
  refine xe_aload_n dX12_lettersIn_5 rfl ?_
  refine xe_getR (b := 684) dX12_lettersIn_6 flX12_102 kk655 (xKK_lt kk655) rfl (rf655_58 hr) ?_
  refine xe_bipush (v := 88) dX12_lettersIn_9 rfl ?_
  refine xe_iald dX12_lettersIn_11 kk684 (xKK_lt kk684) (show ¬ ((88 : Int32) < 0 ∨ 92 ≤ (88 : Int32).toNatClampNeg) from by decide) ?_
  refine xe_icmp_ge (tgt := 45) dX12_lettersIn_12 rfl (fun c1 => ?_) (fun c2 => ?_)
  · have k := k.1 c1
    refine xe_iload_n dX12_lettersIn_45 rfl ?_
    exact xe_ireturn dX12_lettersIn_46 rfl k
  · have k := k.2 (fun q => (c2 q))
    refine xe_iload_n dX12_lettersIn_15 rfl ?_
    refine xe_aload_n dX12_lettersIn_16 rfl ?_
    refine xe_getR (b := 684) dX12_lettersIn_17 flX12_102 kk655 (xKK_lt kk655) rfl (rf655_58 hr) ?_
    refine xe_bipush (v := 28) dX12_lettersIn_20 rfl ?_
    refine xe_iload_n dX12_lettersIn_22 rfl ?_
    refine xe_iadd dX12_lettersIn_23 ?_
    obtain ⟨b3, k⟩ := k
    refine xe_iald dX12_lettersIn_24 kk684 (xKK_lt kk684) b3 ?_
    refine xe_iload_n dX12_lettersIn_25 rfl ?_
    have K7 : xEv g (d + 1) mX12_lettersIn 34 [some (.ref 655), some (.int i1), some (.int i2), some (.int i3)] [.int (xb ((u 684 ((28 : Int32) + i3).toNatClampNeg) = i1)), .int i2] 698 u w r 698 P := by
      refine xe_callS (args := [.int (xb ((u 684 ((28 : Int32) + i3).toNatClampNeg) = i1))]) dX12_lettersIn_34 slX12_317 rfl rfl (Nat.le_of_ble_eq_true rfl) k (Nat.le_refl _) (fun rv6 u6 w6 r6 k => ?_)
      obtain ⟨v6, rfl, rfl, rfl, rfl, k⟩ := k
      refine xe_iadd dX12_lettersIn_37 ?_
      refine xe_istore_n (ls' := [some (.ref 655), some (.int i1), some (.int (i2 + v6)), some (.int i3)]) dX12_lettersIn_38 rfl (by decide) rfl ?_
      refine xe_iinc (v := (i3 + (1 : Int32))) (ls' := [some (.ref 655), some (.int i1), some (.int (i2 + v6)), some (.int (i3 + (1 : Int32)))]) dX12_lettersIn_39 rfl (by decide) rfl rfl ?_
      refine xe_goto (tgt := 4) dX12_lettersIn_42 rfl ?_
      exact k
    refine xe_icmp_ne (tgt := 33) dX12_lettersIn_26 rfl (fun c4 => ?_) (fun c5 => ?_)
    · refine xe_iconst (v := 0) dX12_lettersIn_33 rfl ?_
      exact xtop (xb_neg (show ¬ ((u 684 ((28 : Int32) + i3).toNatClampNeg) = i1) from (fun q => (c4 q)))) K7
    · refine xe_iconst (v := 1) dX12_lettersIn_29 rfl ?_
      refine xe_goto (tgt := 34) dX12_lettersIn_30 rfl ?_
      exact xtop (xb_pos (show (u 684 ((28 : Int32) + i3).toNatClampNeg) = i1 from c5)) K7

/-! FuneralPostModel.nearOf -/

theorem TX12_nearOf_0 {g : xGT} {d : Nat} {i1 i2 : Int32} {u : xU} {w : xW} {r : xQ} {P : xPost}
    (k : xCall g d mX12_restOf [.ref 655, .int i1] 698 u w r 698 (fun rv1 u1 w1 r1 => ∃ v1 : Int32, rv1 = some (.int v1) ∧ u = u1 ∧ w = w1 ∧ r = r1 ∧ xEv g (d + 1) mX12_nearOf 14 [some (.ref 655), none, some (.int i2), some (.int v1), some (.int (1000 : Int32)), some (.int (0 : Int32))] [] 698 u w r 698 P)) :
    xEv g (d + 1) mX12_nearOf 0 [some (.ref 655), some (.int i1), some (.int i2), none, none, none] [] 698 u w r 698 P := by
  refine xe_aload_n dX12_nearOf_0 rfl ?_
  refine xe_iload_n dX12_nearOf_1 rfl ?_
  refine xe_callV (args := [.int i1]) dX12_nearOf_2 vlX12_463 rfl rfl (Nat.le_of_ble_eq_true rfl) kk655 (xKK_lt kk655) rfl rfl k (Nat.le_refl _) (fun rv1 u1 w1 r1 k => ?_)
  obtain ⟨v1, rfl, rfl, rfl, rfl, k⟩ := k
  refine xe_istore_n (ls' := [some (.ref 655), some (.int i1), some (.int i2), some (.int v1), none, none]) dX12_nearOf_5 rfl (by decide) rfl ?_
  refine xe_sipush (v := 1000) dX12_nearOf_6 rfl ?_
  refine xe_istore (ls' := [some (.ref 655), some (.int i1), some (.int i2), some (.int v1), some (.int (1000 : Int32)), none]) dX12_nearOf_9 (by decide) rfl ?_
  refine xe_iconst (v := 0) dX12_nearOf_11 rfl ?_
  refine xe_istore (ls' := [some (.ref 655), some (.int i1), some (.int i2), some (.int v1), some (.int (1000 : Int32)), some (.int (0 : Int32))]) dX12_nearOf_12 (by decide) rfl ?_
  exact xEv.fewer (ls' := [some (.ref 655), none, some (.int i2), some (.int v1), some (.int (1000 : Int32)), some (.int (0 : Int32))]) k (xfw_get (xfw_s (xfw_n (xfw_s (xfw_s (xfw_s (xfw_s (xfw_nil _))))))))

theorem CX12_nearOf {g : xGT} {d : Nat} {i1 i2 : Int32} {u : xU} {w : xW} {r : xQ} {P : xPost}
    (k : xCall g d mX12_restOf [.ref 655, .int i1] 698 u w r 698 (fun rv1 u1 w1 r1 => ∃ v1 : Int32, rv1 = some (.int v1) ∧ u = u1 ∧ w = w1 ∧ r = r1 ∧ xEv g (d + 1) mX12_nearOf 14 [some (.ref 655), none, some (.int i2), some (.int v1), some (.int (1000 : Int32)), some (.int (0 : Int32))] [] 698 u w r 698 P)) :
    xCall g (d + 1) mX12_nearOf [.ref 655, .int i1, .int i2] 698 u w r 698 P :=
  xCall.of plX12 (Nat.le_of_ble_eq_true rfl) rfl (TX12_nearOf_0  k)

theorem TX12_nearOf_14 {g : xGT} {d : Nat} {i2 i3 i4 i5 : Int32} {u : xU} {w : xW} {r : xQ} {P : xPost}
    (k : ((u 655 49) ≤ i5 → P (some (.int i4)) u w r) ∧ (¬ ((u 655 49) ≤ i5) → (((i3 >>> (i5 &&& 31)) &&& (1 : Int32)) = (1 : Int32) → xCall g d mX12_farOf [.ref 655, .int i5, .int i2] 698 u w r 698 (fun rv6 u6 w6 r6 => ∃ v6 : Int32, rv6 = some (.int v6) ∧ u = u6 ∧ w = w6 ∧ r = r6 ∧ (i4 ≤ v6 → xEv g (d + 1) mX12_nearOf 54 [some (.ref 655), none, some (.int i2), some (.int i3), some (.int i4), some (.int i5)] [] 698 u w r 698 P) ∧ (¬ (i4 ≤ v6) → xCall g d mX12_farOf [.ref 655, .int i5, .int i2] 698 u w r 698 (fun rv9 u9 w9 r9 => ∃ v9 : Int32, rv9 = some (.int v9) ∧ u = u9 ∧ w = w9 ∧ r = r9 ∧ xEv g (d + 1) mX12_nearOf 54 [some (.ref 655), none, some (.int i2), some (.int i3), some (.int v9), some (.int i5)] [] 698 u w r 698 P)))) ∧ (¬ (((i3 >>> (i5 &&& 31)) &&& (1 : Int32)) = (1 : Int32)) → xEv g (d + 1) mX12_nearOf 54 [some (.ref 655), none, some (.int i2), some (.int i3), some (.int i4), some (.int i5)] [] 698 u w r 698 P))) :
    xEv g (d + 1) mX12_nearOf 14 [some (.ref 655), none, some (.int i2), some (.int i3), some (.int i4), some (.int i5)] [] 698 u w r 698 P := by
  refine xe_iload dX12_nearOf_14 rfl ?_
  refine xe_aload_n dX12_nearOf_16 rfl ?_
  refine xe_getI dX12_nearOf_17 flX12_395 kk655 (xKK_lt kk655) rfl ?_
  refine xe_icmp_ge (tgt := 60) dX12_nearOf_20 rfl (fun c2 => ?_) (fun c3 => ?_)
  · have k := k.1 c2
    refine xe_iload dX12_nearOf_60 rfl ?_
    exact xe_ireturn dX12_nearOf_62 rfl k
  · have k := k.2 (fun q => (c3 q))
    refine xe_iload_n dX12_nearOf_23 rfl ?_
    refine xe_iload dX12_nearOf_24 rfl ?_
    refine xe_ishr dX12_nearOf_26 ?_
    refine xe_iconst (v := 1) dX12_nearOf_27 rfl ?_
    refine xe_iand dX12_nearOf_28 ?_
    refine xe_iconst (v := 1) dX12_nearOf_29 rfl ?_
    refine xe_icmp_ne (tgt := 54) dX12_nearOf_30 rfl (fun c4 => ?_) (fun c5 => ?_)
    · have k := k.2 (fun q => (c4 q))
      exact k
    · have k := k.1 c5
      refine xe_aload_n dX12_nearOf_33 rfl ?_
      refine xe_iload dX12_nearOf_34 rfl ?_
      refine xe_iload_n dX12_nearOf_36 rfl ?_
      refine xe_callV (args := [.int i5, .int i2]) dX12_nearOf_37 vlX12_439 rfl rfl (Nat.le_of_ble_eq_true rfl) kk655 (xKK_lt kk655) rfl rfl k (Nat.le_refl _) (fun rv6 u6 w6 r6 k => ?_)
      obtain ⟨v6, rfl, rfl, rfl, rfl, k⟩ := k
      refine xe_iload dX12_nearOf_40 rfl ?_
      refine xe_icmp_ge (tgt := 54) dX12_nearOf_42 rfl (fun c7 => ?_) (fun c8 => ?_)
      · have k := k.1 c7
        exact k
      · have k := k.2 (fun q => (c8 q))
        refine xe_aload_n dX12_nearOf_45 rfl ?_
        refine xe_iload dX12_nearOf_46 rfl ?_
        refine xe_iload_n dX12_nearOf_48 rfl ?_
        refine xe_callV (args := [.int i5, .int i2]) dX12_nearOf_49 vlX12_439 rfl rfl (Nat.le_of_ble_eq_true rfl) kk655 (xKK_lt kk655) rfl rfl k (Nat.le_refl _) (fun rv9 u9 w9 r9 k => ?_)
        obtain ⟨v9, rfl, rfl, rfl, rfl, k⟩ := k
        refine xe_istore (ls' := [some (.ref 655), none, some (.int i2), some (.int i3), some (.int v9), some (.int i5)]) dX12_nearOf_52 (by decide) rfl ?_
        exact k

theorem TX12_nearOf_54 {g : xGT} {d : Nat} {i2 i3 i4 i5 : Int32} {u : xU} {w : xW} {r : xQ} {P : xPost}
    (k : xEv g (d + 1) mX12_nearOf 14 [some (.ref 655), none, some (.int i2), some (.int i3), some (.int i4), some (.int (i5 + (1 : Int32)))] [] 698 u w r 698 P) :
    xEv g (d + 1) mX12_nearOf 54 [some (.ref 655), none, some (.int i2), some (.int i3), some (.int i4), some (.int i5)] [] 698 u w r 698 P := by
  refine xe_iinc (v := (i5 + (1 : Int32))) (ls' := [some (.ref 655), none, some (.int i2), some (.int i3), some (.int i4), some (.int (i5 + (1 : Int32)))]) dX12_nearOf_54 rfl (by decide) rfl rfl ?_
  refine xe_goto (tgt := 14) dX12_nearOf_57 rfl ?_
  exact k

/-! FuneralPostModel.putInto -/

theorem TX12_putInto_0 {g : xGT} {d : Nat} {i1 i2 : Int32} {u : xU} {w : xW} {r : xQ} {P : xPost} (hr : xRf r)
    (k : vp_in ((28 : Int32) + i1) 92 ∧ (((u 684 ((28 : Int32) + i1).toNatClampNeg) = i2 → P none u w r) ∧ (¬ ((u 684 ((28 : Int32) + i1).toNatClampNeg) = i2) → vp_in ((18 : Int32) + i1) 92 ∧ (vp_in ((48 : Int32) + i1) 92 ∧ (((0 < i1 ∨ (u 655 61) = (20 : Int32)) → P none (x2 (x2 (x2 u 684 ((28 : Int32) + i1).toNatClampNeg i2) 684 ((18 : Int32) + i1).toNatClampNeg (-1 : Int32)) 684 ((48 : Int32) + i1).toNatClampNeg (((x2 (x2 u 684 ((28 : Int32) + i1).toNatClampNeg i2) 684 ((18 : Int32) + i1).toNatClampNeg (-1 : Int32)) 684 ((48 : Int32) + i1).toNatClampNeg) + (1 : Int32))) w r) ∧ (¬ (0 < i1 ∨ (u 655 61) = (20 : Int32)) → vp_in (u 655 61) 20 ∧ (P none (x2 (x2 (x2 (x2 (x2 u 684 ((28 : Int32) + i1).toNatClampNeg i2) 684 ((18 : Int32) + i1).toNatClampNeg (-1 : Int32)) 684 ((48 : Int32) + i1).toNatClampNeg (((x2 (x2 u 684 ((28 : Int32) + i1).toNatClampNeg i2) 684 ((18 : Int32) + i1).toNatClampNeg (-1 : Int32)) 684 ((48 : Int32) + i1).toNatClampNeg) + (1 : Int32))) 686 (u 655 61).toNatClampNeg i2) 655 61 ((u 655 61) + (1 : Int32))) w r))))))) :
    xEv g d mX12_putInto 0 [some (.ref 655), some (.int i1), some (.int i2)] [] 698 u w r 698 P := by
  refine xe_aload_n dX12_putInto_0 rfl ?_
  refine xe_getR (b := 684) dX12_putInto_1 flX12_102 kk655 (xKK_lt kk655) rfl (rf655_58 hr) ?_
  refine xe_bipush (v := 28) dX12_putInto_4 rfl ?_
  refine xe_iload_n dX12_putInto_6 rfl ?_
  refine xe_iadd dX12_putInto_7 ?_
  obtain ⟨b1, k⟩ := k
  refine xe_iald dX12_putInto_8 kk684 (xKK_lt kk684) b1 ?_
  refine xe_iload_n dX12_putInto_9 rfl ?_
  refine xe_icmp_ne (tgt := 14) dX12_putInto_10 rfl (fun c2 => ?_) (fun c3 => ?_)
  · have k := k.2 (fun q => (c2 q))
    refine xe_aload_n dX12_putInto_14 rfl ?_
    refine xe_getR (b := 684) dX12_putInto_15 flX12_102 kk655 (xKK_lt kk655) rfl (rf655_58 hr) ?_
    refine xe_bipush (v := 28) dX12_putInto_18 rfl ?_
    refine xe_iload_n dX12_putInto_20 rfl ?_
    refine xe_iadd dX12_putInto_21 ?_
    refine xe_iload_n dX12_putInto_22 rfl ?_
    refine xe_iast dX12_putInto_23 kk684 (xKK_lt kk684) b1 ?_
    refine xe_aload_n dX12_putInto_24 rfl ?_
    refine xe_getR (b := 684) dX12_putInto_25 flX12_102 kk655 (xKK_lt kk655) rfl (rf655_58 hr) ?_
    refine xe_bipush (v := 18) dX12_putInto_28 rfl ?_
    refine xe_iload_n dX12_putInto_30 rfl ?_
    refine xe_iadd dX12_putInto_31 ?_
    refine xe_iconst (v := -1) dX12_putInto_32 rfl ?_
    obtain ⟨b4, k⟩ := k
    refine xe_iast dX12_putInto_33 kk684 (xKK_lt kk684) b4 ?_
    refine xe_aload_n dX12_putInto_34 rfl ?_
    refine xe_getR (b := 684) dX12_putInto_35 flX12_102 kk655 (xKK_lt kk655) rfl (rf655_58 hr) ?_
    refine xe_bipush (v := 48) dX12_putInto_38 rfl ?_
    refine xe_iload_n dX12_putInto_40 rfl ?_
    refine xe_iadd dX12_putInto_41 ?_
    refine xe_dup2 dX12_putInto_42 rfl rfl ?_
    obtain ⟨b5, k⟩ := k
    refine xe_iald dX12_putInto_43 kk684 (xKK_lt kk684) b5 ?_
    refine xe_iconst (v := 1) dX12_putInto_44 rfl ?_
    refine xe_iadd dX12_putInto_45 ?_
    refine xe_iast dX12_putInto_46 kk684 (xKK_lt kk684) b5 ?_
    refine xe_iload_n dX12_putInto_47 rfl ?_
    have K11 : (0 < i1 ∨ (u 655 61) = (20 : Int32)) → xEv g d mX12_putInto 60 [some (.ref 655), some (.int i1), some (.int i2)] [] 698 (x2 (x2 (x2 u 684 ((28 : Int32) + i1).toNatClampNeg i2) 684 ((18 : Int32) + i1).toNatClampNeg (-1 : Int32)) 684 ((48 : Int32) + i1).toNatClampNeg (((x2 (x2 u 684 ((28 : Int32) + i1).toNatClampNeg i2) 684 ((18 : Int32) + i1).toNatClampNeg (-1 : Int32)) 684 ((48 : Int32) + i1).toNatClampNeg) + (1 : Int32))) w r 698 P := fun c12 => by
      have k := k.1 c12
      exact xe_return dX12_putInto_60 trivial k
    refine xe_if_gt (tgt := 60) dX12_putInto_48 rfl (fun c6 => ?_) (fun c7 => ?_)
    · exact K11 (Or.inl c6)
    · refine xe_aload_n dX12_putInto_51 rfl ?_
      refine xe_getI dX12_putInto_52 flX12_433 kk655 (xKK_lt kk655) rfl ?_
      refine xe_bipush (v := 20) dX12_putInto_55 rfl ?_
      refine xe_icmp_ne (tgt := 61) dX12_putInto_57 rfl (fun c8 => ?_) (fun c9 => ?_)
      · have k := k.2 (fun q => (q.elim (fun z => (c7 z)) (fun z => (c8 z))))
        refine xe_aload_n dX12_putInto_61 rfl ?_
        refine xe_getR (b := 686) dX12_putInto_62 flX12_108 kk655 (xKK_lt kk655) rfl (rf655_60 hr) ?_
        refine xe_aload_n dX12_putInto_65 rfl ?_
        refine xe_getI dX12_putInto_66 flX12_433 kk655 (xKK_lt kk655) rfl ?_
        refine xe_iload_n dX12_putInto_69 rfl ?_
        obtain ⟨b10, k⟩ := k
        refine xe_iast dX12_putInto_70 kk686 (xKK_lt kk686) b10 ?_
        refine xe_aload_n dX12_putInto_71 rfl ?_
        refine xe_dup dX12_putInto_72 rfl ?_
        refine xe_getI dX12_putInto_73 flX12_433 kk655 (xKK_lt kk655) rfl ?_
        refine xe_iconst (v := 1) dX12_putInto_76 rfl ?_
        refine xe_iadd dX12_putInto_77 ?_
        refine xe_putI dX12_putInto_78 flX12_433 kk655 (xKK_lt kk655) nf12_61 rfl ?_
        exact xe_return dX12_putInto_81 trivial k
      · exact K11 (Or.inr c9)
  · have k := k.1 c3
    exact xe_return dX12_putInto_13 trivial k

theorem CX12_putInto {g : xGT} {d : Nat} {i1 i2 : Int32} {u : xU} {w : xW} {r : xQ} {P : xPost} (hr : xRf r)
    (k : vp_in ((28 : Int32) + i1) 92 ∧ (((u 684 ((28 : Int32) + i1).toNatClampNeg) = i2 → P none u w r) ∧ (¬ ((u 684 ((28 : Int32) + i1).toNatClampNeg) = i2) → vp_in ((18 : Int32) + i1) 92 ∧ (vp_in ((48 : Int32) + i1) 92 ∧ (((0 < i1 ∨ (u 655 61) = (20 : Int32)) → P none (x2 (x2 (x2 u 684 ((28 : Int32) + i1).toNatClampNeg i2) 684 ((18 : Int32) + i1).toNatClampNeg (-1 : Int32)) 684 ((48 : Int32) + i1).toNatClampNeg (((x2 (x2 u 684 ((28 : Int32) + i1).toNatClampNeg i2) 684 ((18 : Int32) + i1).toNatClampNeg (-1 : Int32)) 684 ((48 : Int32) + i1).toNatClampNeg) + (1 : Int32))) w r) ∧ (¬ (0 < i1 ∨ (u 655 61) = (20 : Int32)) → vp_in (u 655 61) 20 ∧ (P none (x2 (x2 (x2 (x2 (x2 u 684 ((28 : Int32) + i1).toNatClampNeg i2) 684 ((18 : Int32) + i1).toNatClampNeg (-1 : Int32)) 684 ((48 : Int32) + i1).toNatClampNeg (((x2 (x2 u 684 ((28 : Int32) + i1).toNatClampNeg i2) 684 ((18 : Int32) + i1).toNatClampNeg (-1 : Int32)) 684 ((48 : Int32) + i1).toNatClampNeg) + (1 : Int32))) 686 (u 655 61).toNatClampNeg i2) 655 61 ((u 655 61) + (1 : Int32))) w r))))))) :
    xCall g d mX12_putInto [.ref 655, .int i1, .int i2] 698 u w r 698 P :=
  xCall.of plX12 (Nat.le_of_ble_eq_true rfl) rfl (TX12_putInto_0 hr k)

/-! FuneralPostModel.handOn -/

theorem TX12_handOn_0 {g : xGT} {d : Nat} {i1 i2 : Int32} {u : xU} {w : xW} {r : xQ} {P : xPost} (hr : xRf r)
    (k : vp_in ((28 : Int32) + i1) 92 ∧ (vp_in ((58 : Int32) + i1) 92 ∧ (xCall g d mX12_farOf [.ref 655, .int i2, .int (u 684 ((58 : Int32) + i1).toNatClampNeg)] 698 u w r 698 (fun rv3 u3 w3 r3 => ∃ v3 : Int32, rv3 = some (.int v3) ∧ u = u3 ∧ w = w3 ∧ r = r3 ∧ ((u 684 ((28 : Int32) + i1).toNatClampNeg) < 0 → xEv g (d + 1) mX12_handOn 71 [some (.ref 655), some (.int i1), some (.int i2), some (.int (u 684 ((28 : Int32) + i1).toNatClampNeg)), some (.int (-1 : Int32)), some (.int v3), none, none] [] 698 u w r 698 P) ∧ (¬ ((u 684 ((28 : Int32) + i1).toNatClampNeg) < 0) → xCall g d mX12_nearOf [.ref 655, .int (u 684 ((28 : Int32) + i1).toNatClampNeg), .int (u 684 ((58 : Int32) + i1).toNatClampNeg)] 698 u w r 698 (fun rv6 u6 w6 r6 => ∃ v6 : Int32, rv6 = some (.int v6) ∧ u = u6 ∧ w = w6 ∧ r = r6 ∧ (v3 ≤ v6 → xEv g (d + 1) mX12_handOn 71 [some (.ref 655), some (.int i1), some (.int i2), some (.int (u 684 ((28 : Int32) + i1).toNatClampNeg)), some (.int (-1 : Int32)), some (.int v3), none, none] [] 698 u w r 698 P) ∧ (¬ (v3 ≤ v6) → xCall g d mX12_nearOf [.ref 655, .int (u 684 ((28 : Int32) + i1).toNatClampNeg), .int (u 684 ((58 : Int32) + i1).toNatClampNeg)] 698 u w r 698 (fun rv9 u9 w9 r9 => ∃ v9 : Int32, rv9 = some (.int v9) ∧ u = u9 ∧ w = w9 ∧ r = r9 ∧ xEv g (d + 1) mX12_handOn 71 [some (.ref 655), some (.int i1), some (.int i2), some (.int (u 684 ((28 : Int32) + i1).toNatClampNeg)), some (.int (u 684 ((28 : Int32) + i1).toNatClampNeg)), some (.int v9), none, none] [] 698 u w r 698 P)))))))) :
    xEv g (d + 1) mX12_handOn 0 [some (.ref 655), some (.int i1), some (.int i2), none, none, none, none, none] [] 698 u w r 698 P := by
  refine xe_aload_n dX12_handOn_0 rfl ?_
  refine xe_getR (b := 684) dX12_handOn_1 flX12_102 kk655 (xKK_lt kk655) rfl (rf655_58 hr) ?_
  refine xe_bipush (v := 28) dX12_handOn_4 rfl ?_
  refine xe_iload_n dX12_handOn_6 rfl ?_
  refine xe_iadd dX12_handOn_7 ?_
  obtain ⟨b1, k⟩ := k
  refine xe_iald dX12_handOn_8 kk684 (xKK_lt kk684) b1 ?_
  refine xe_istore_n (ls' := [some (.ref 655), some (.int i1), some (.int i2), some (.int (u 684 ((28 : Int32) + i1).toNatClampNeg)), none, none, none, none]) dX12_handOn_9 rfl (by decide) rfl ?_
  refine xe_iconst (v := -1) dX12_handOn_10 rfl ?_
  refine xe_istore (ls' := [some (.ref 655), some (.int i1), some (.int i2), some (.int (u 684 ((28 : Int32) + i1).toNatClampNeg)), some (.int (-1 : Int32)), none, none, none]) dX12_handOn_11 (by decide) rfl ?_
  refine xe_aload_n dX12_handOn_13 rfl ?_
  refine xe_iload_n dX12_handOn_14 rfl ?_
  refine xe_aload_n dX12_handOn_15 rfl ?_
  refine xe_getR (b := 684) dX12_handOn_16 flX12_102 kk655 (xKK_lt kk655) rfl (rf655_58 hr) ?_
  refine xe_bipush (v := 58) dX12_handOn_19 rfl ?_
  refine xe_iload_n dX12_handOn_21 rfl ?_
  refine xe_iadd dX12_handOn_22 ?_
  obtain ⟨b2, k⟩ := k
  refine xe_iald dX12_handOn_23 kk684 (xKK_lt kk684) b2 ?_
  refine xe_callV (args := [.int i2, .int (u 684 ((58 : Int32) + i1).toNatClampNeg)]) dX12_handOn_24 vlX12_439 rfl rfl (Nat.le_of_ble_eq_true rfl) kk655 (xKK_lt kk655) rfl rfl k (Nat.le_refl _) (fun rv3 u3 w3 r3 k => ?_)
  obtain ⟨v3, rfl, rfl, rfl, rfl, k⟩ := k
  refine xe_istore (ls' := [some (.ref 655), some (.int i1), some (.int i2), some (.int (u 684 ((28 : Int32) + i1).toNatClampNeg)), some (.int (-1 : Int32)), some (.int v3), none, none]) dX12_handOn_27 (by decide) rfl ?_
  refine xe_iload_n dX12_handOn_29 rfl ?_
  refine xe_if_lt (tgt := 71) dX12_handOn_30 rfl (fun c4 => ?_) (fun c5 => ?_)
  · have k := k.1 c4
    exact k
  · have k := k.2 (fun q => (c5 q))
    refine xe_aload_n dX12_handOn_33 rfl ?_
    refine xe_iload_n dX12_handOn_34 rfl ?_
    refine xe_aload_n dX12_handOn_35 rfl ?_
    refine xe_getR (b := 684) dX12_handOn_36 flX12_102 kk655 (xKK_lt kk655) rfl (rf655_58 hr) ?_
    refine xe_bipush (v := 58) dX12_handOn_39 rfl ?_
    refine xe_iload_n dX12_handOn_41 rfl ?_
    refine xe_iadd dX12_handOn_42 ?_
    refine xe_iald dX12_handOn_43 kk684 (xKK_lt kk684) b2 ?_
    refine xe_callV (args := [.int (u 684 ((28 : Int32) + i1).toNatClampNeg), .int (u 684 ((58 : Int32) + i1).toNatClampNeg)]) dX12_handOn_44 vlX12_466 rfl rfl (Nat.le_of_ble_eq_true rfl) kk655 (xKK_lt kk655) rfl rfl k (Nat.le_refl _) (fun rv6 u6 w6 r6 k => ?_)
    obtain ⟨v6, rfl, rfl, rfl, rfl, k⟩ := k
    refine xe_iload dX12_handOn_47 rfl ?_
    refine xe_icmp_ge (tgt := 71) dX12_handOn_49 rfl (fun c7 => ?_) (fun c8 => ?_)
    · have k := k.1 c7
      exact k
    · have k := k.2 (fun q => (c8 q))
      refine xe_iload_n dX12_handOn_52 rfl ?_
      refine xe_istore (ls' := [some (.ref 655), some (.int i1), some (.int i2), some (.int (u 684 ((28 : Int32) + i1).toNatClampNeg)), some (.int (u 684 ((28 : Int32) + i1).toNatClampNeg)), some (.int v3), none, none]) dX12_handOn_53 (by decide) rfl ?_
      refine xe_aload_n dX12_handOn_55 rfl ?_
      refine xe_iload_n dX12_handOn_56 rfl ?_
      refine xe_aload_n dX12_handOn_57 rfl ?_
      refine xe_getR (b := 684) dX12_handOn_58 flX12_102 kk655 (xKK_lt kk655) rfl (rf655_58 hr) ?_
      refine xe_bipush (v := 58) dX12_handOn_61 rfl ?_
      refine xe_iload_n dX12_handOn_63 rfl ?_
      refine xe_iadd dX12_handOn_64 ?_
      refine xe_iald dX12_handOn_65 kk684 (xKK_lt kk684) b2 ?_
      refine xe_callV (args := [.int (u 684 ((28 : Int32) + i1).toNatClampNeg), .int (u 684 ((58 : Int32) + i1).toNatClampNeg)]) dX12_handOn_66 vlX12_466 rfl rfl (Nat.le_of_ble_eq_true rfl) kk655 (xKK_lt kk655) rfl rfl k (Nat.le_refl _) (fun rv9 u9 w9 r9 k => ?_)
      obtain ⟨v9, rfl, rfl, rfl, rfl, k⟩ := k
      refine xe_istore (ls' := [some (.ref 655), some (.int i1), some (.int i2), some (.int (u 684 ((28 : Int32) + i1).toNatClampNeg)), some (.int (u 684 ((28 : Int32) + i1).toNatClampNeg)), some (.int v9), none, none]) dX12_handOn_69 (by decide) rfl ?_
      exact k

theorem CX12_handOn {g : xGT} {d : Nat} {i1 i2 : Int32} {u : xU} {w : xW} {r : xQ} {P : xPost} (hr : xRf r)
    (k : vp_in ((28 : Int32) + i1) 92 ∧ (vp_in ((58 : Int32) + i1) 92 ∧ (xCall g d mX12_farOf [.ref 655, .int i2, .int (u 684 ((58 : Int32) + i1).toNatClampNeg)] 698 u w r 698 (fun rv3 u3 w3 r3 => ∃ v3 : Int32, rv3 = some (.int v3) ∧ u = u3 ∧ w = w3 ∧ r = r3 ∧ ((u 684 ((28 : Int32) + i1).toNatClampNeg) < 0 → xEv g (d + 1) mX12_handOn 71 [some (.ref 655), some (.int i1), some (.int i2), some (.int (u 684 ((28 : Int32) + i1).toNatClampNeg)), some (.int (-1 : Int32)), some (.int v3), none, none] [] 698 u w r 698 P) ∧ (¬ ((u 684 ((28 : Int32) + i1).toNatClampNeg) < 0) → xCall g d mX12_nearOf [.ref 655, .int (u 684 ((28 : Int32) + i1).toNatClampNeg), .int (u 684 ((58 : Int32) + i1).toNatClampNeg)] 698 u w r 698 (fun rv6 u6 w6 r6 => ∃ v6 : Int32, rv6 = some (.int v6) ∧ u = u6 ∧ w = w6 ∧ r = r6 ∧ (v3 ≤ v6 → xEv g (d + 1) mX12_handOn 71 [some (.ref 655), some (.int i1), some (.int i2), some (.int (u 684 ((28 : Int32) + i1).toNatClampNeg)), some (.int (-1 : Int32)), some (.int v3), none, none] [] 698 u w r 698 P) ∧ (¬ (v3 ≤ v6) → xCall g d mX12_nearOf [.ref 655, .int (u 684 ((28 : Int32) + i1).toNatClampNeg), .int (u 684 ((58 : Int32) + i1).toNatClampNeg)] 698 u w r 698 (fun rv9 u9 w9 r9 => ∃ v9 : Int32, rv9 = some (.int v9) ∧ u = u9 ∧ w = w9 ∧ r = r9 ∧ xEv g (d + 1) mX12_handOn 71 [some (.ref 655), some (.int i1), some (.int i2), some (.int (u 684 ((28 : Int32) + i1).toNatClampNeg)), some (.int (u 684 ((28 : Int32) + i1).toNatClampNeg)), some (.int v9), none, none] [] 698 u w r 698 P)))))))) :
    xCall g (d + 1) mX12_handOn [.ref 655, .int i1, .int i2] 698 u w r 698 P :=
  xCall.of plX12 (Nat.le_of_ble_eq_true rfl) rfl (TX12_handOn_0 hr k)

theorem TX12_handOn_71 {g : xGT} {d : Nat} {i1 i2 i3 i4 i5 : Int32} {u : xU} {w : xW} {r : xQ} {P : xPost}
    (k : xEv g (d + 1) mX12_handOn 74 [some (.ref 655), some (.int i1), some (.int i2), some (.int i3), some (.int i4), some (.int i5), some (.int (0 : Int32)), none] [] 698 u w r 698 P) :
    xEv g (d + 1) mX12_handOn 71 [some (.ref 655), some (.int i1), some (.int i2), some (.int i3), some (.int i4), some (.int i5), none, none] [] 698 u w r 698 P := by
  refine xe_iconst (v := 0) dX12_handOn_71 rfl ?_
  refine xe_istore (ls' := [some (.ref 655), some (.int i1), some (.int i2), some (.int i3), some (.int i4), some (.int i5), some (.int (0 : Int32)), none]) dX12_handOn_72 (by decide) rfl ?_
  exact k

set_option maxRecDepth 20000 in
theorem TX12_handOn_74 {g : xGT} {d : Nat} {i1 i2 i3 i4 i5 i6 : Int32} {u : xU} {w : xW} {r : xQ} {P : xPost} (hr : xRf r)
    (k : ((u 655 51) ≤ i6 → (i4 < 0 → vp_in ((28 : Int32) + i1) 92 ∧ (vp_in ((18 : Int32) + i1) 92 ∧ (P none (x2 (x2 u 684 ((28 : Int32) + i1).toNatClampNeg (-1 : Int32)) 684 ((18 : Int32) + i1).toNatClampNeg i2) w r))) ∧ (¬ (i4 < 0) → xCall g d mX12_putInto [.ref 655, .int i1, .int i4] 698 u w r 698 (fun rv16 u16 w16 r16 => rv16 = none ∧ w = w16 ∧ r = r16 ∧ P none u16 w r))) ∧ (¬ ((u 655 51) ≤ i6) → xCall g d mX12_standsAt [.ref 655, .int i6, .int i2] 698 u w r 698 (fun rv17 u17 w17 r17 => ∃ v17 : Int32, rv17 = some (.int v17) ∧ u = u17 ∧ w = w17 ∧ r = r17 ∧ ((¬ (v17 = 0) ∧ ¬ (i6 = i3)) → xCall g d mX12_lettersIn [.ref 655, .int i6] 698 u w r 698 (fun rv22 u22 w22 r22 => ∃ v22 : Int32, rv22 = some (.int v22) ∧ u = u22 ∧ w = w22 ∧ r = r22 ∧ vp_in i6 6 ∧ ((v22 = (u 678 i6.toNatClampNeg) → xEv g (d + 1) mX12_handOn 153 [some (.ref 655), some (.int i1), some (.int i2), some (.int i3), some (.int i4), some (.int i5), some (.int i6), none] [] 698 u w r 698 P) ∧ (¬ (v22 = (u 678 i6.toNatClampNeg)) → vp_in ((58 : Int32) + i1) 92 ∧ (xCall g d mX12_nearOf [.ref 655, .int i6, .int (u 684 ((58 : Int32) + i1).toNatClampNeg)] 698 u w r 698 (fun rv27 u27 w27 r27 => ∃ v27 : Int32, rv27 = some (.int v27) ∧ u = u27 ∧ w = w27 ∧ r = r27 ∧ (v27 < i5 → xEv g (d + 1) mX12_handOn 153 [some (.ref 655), some (.int i1), some (.int i2), some (.int i3), some (.int i6), some (.int v27), some (.int i6), none] [] 698 u w r 698 P) ∧ (¬ (v27 < i5) → xEv g (d + 1) mX12_handOn 153 [some (.ref 655), some (.int i1), some (.int i2), some (.int i3), some (.int i4), some (.int i5), some (.int i6), none] [] 698 u w r 698 P))))))) ∧ (¬ (¬ (v17 = 0) ∧ ¬ (i6 = i3)) → xEv g (d + 1) mX12_handOn 153 [some (.ref 655), some (.int i1), some (.int i2), some (.int i3), some (.int i4), some (.int i5), some (.int i6), none] [] 698 u w r 698 P)))) :
    xEv g (d + 1) mX12_handOn 74 [some (.ref 655), some (.int i1), some (.int i2), some (.int i3), some (.int i4), some (.int i5), some (.int i6), none] [] 698 u w r 698 P := by
  refine xe_iload dX12_handOn_74 rfl ?_
  refine xe_aload_n dX12_handOn_76 rfl ?_
  refine xe_getI dX12_handOn_77 flX12_401 kk655 (xKK_lt kk655) rfl ?_
  refine xe_icmp_ge (tgt := 159) dX12_handOn_80 rfl (fun c10 => ?_) (fun c11 => ?_)
  · have k := k.1 c10
    refine xe_iload dX12_handOn_159 rfl ?_
    refine xe_if_lt (tgt := 174) dX12_handOn_161 rfl (fun c12 => ?_) (fun c13 => ?_)
    · have k := k.1 c12
      refine xe_aload_n dX12_handOn_174 rfl ?_
      refine xe_getR (b := 684) dX12_handOn_175 flX12_102 kk655 (xKK_lt kk655) rfl (rf655_58 hr) ?_
      refine xe_bipush (v := 28) dX12_handOn_178 rfl ?_
      refine xe_iload_n dX12_handOn_180 rfl ?_
      refine xe_iadd dX12_handOn_181 ?_
      refine xe_iconst (v := -1) dX12_handOn_182 rfl ?_
      obtain ⟨b14, k⟩ := k
      refine xe_iast dX12_handOn_183 kk684 (xKK_lt kk684) b14 ?_
      refine xe_aload_n dX12_handOn_184 rfl ?_
      refine xe_getR (b := 684) dX12_handOn_185 flX12_102 kk655 (xKK_lt kk655) rfl (rf655_58 hr) ?_
      refine xe_bipush (v := 18) dX12_handOn_188 rfl ?_
      refine xe_iload_n dX12_handOn_190 rfl ?_
      refine xe_iadd dX12_handOn_191 ?_
      refine xe_iload_n dX12_handOn_192 rfl ?_
      obtain ⟨b15, k⟩ := k
      refine xe_iast dX12_handOn_193 kk684 (xKK_lt kk684) b15 ?_
      exact xe_return dX12_handOn_194 trivial k
    · have k := k.2 (fun q => (c13 q))
      refine xe_aload_n dX12_handOn_164 rfl ?_
      refine xe_iload_n dX12_handOn_165 rfl ?_
      refine xe_iload dX12_handOn_166 rfl ?_
      refine xe_callV (args := [.int i1, .int i4]) dX12_handOn_168 vlX12_475 rfl rfl (Nat.le_of_ble_eq_true rfl) kk655 (xKK_lt kk655) rfl rfl k (Nat.le_refl _) (fun rv16 u16 w16 r16 k => ?_)
      obtain ⟨rfl, rfl, rfl, k⟩ := k
      refine xe_goto (tgt := 194) dX12_handOn_171 rfl ?_
      exact xe_return dX12_handOn_194 trivial k
  · have k := k.2 (fun q => (c11 q))
    refine xe_aload_n dX12_handOn_83 rfl ?_
    refine xe_iload dX12_handOn_84 rfl ?_
    refine xe_iload_n dX12_handOn_86 rfl ?_
    refine xe_callV (args := [.int i6, .int i2]) dX12_handOn_87 vlX12_469 rfl rfl (Nat.le_of_ble_eq_true rfl) kk655 (xKK_lt kk655) rfl rfl k (Nat.le_refl _) (fun rv17 u17 w17 r17 k => ?_)
    obtain ⟨v17, rfl, rfl, rfl, rfl, k⟩ := k
    have K30 : ¬ (¬ (v17 = 0) ∧ ¬ (i6 = i3)) → xEv g (d + 1) mX12_handOn 153 [some (.ref 655), some (.int i1), some (.int i2), some (.int i3), some (.int i4), some (.int i5), some (.int i6), none] [] 698 u w r 698 P := fun c31 => by
      have k := k.2 c31
      exact k
    refine xe_if_eq (tgt := 153) dX12_handOn_90 rfl (fun c18 => ?_) (fun c19 => ?_)
    · exact K30 (fun q => (q.1 c18))
    · refine xe_iload dX12_handOn_93 rfl ?_
      refine xe_iload_n dX12_handOn_95 rfl ?_
      refine xe_icmp_eq (tgt := 153) dX12_handOn_96 rfl (fun c20 => ?_) (fun c21 => ?_)
      · exact K30 (fun q => (q.2 c20))
      · have k := k.1 ⟨c19, c21⟩
        refine xe_aload_n dX12_handOn_99 rfl ?_
        refine xe_iload dX12_handOn_100 rfl ?_
        refine xe_callV (args := [.int i6]) dX12_handOn_102 vlX12_472 rfl rfl (Nat.le_of_ble_eq_true rfl) kk655 (xKK_lt kk655) rfl rfl k (Nat.le_refl _) (fun rv22 u22 w22 r22 k => ?_)
        obtain ⟨v22, rfl, rfl, rfl, rfl, k⟩ := k
        refine xe_aload_n dX12_handOn_105 rfl ?_
        refine xe_getR (b := 678) dX12_handOn_106 flX12_81 kk655 (xKK_lt kk655) rfl (rf655_38 hr) ?_
        refine xe_iload dX12_handOn_109 rfl ?_
        obtain ⟨b23, k⟩ := k
        refine xe_iald dX12_handOn_111 kk678 (xKK_lt kk678) b23 ?_
        refine xe_icmp_ne (tgt := 118) dX12_handOn_112 rfl (fun c24 => ?_) (fun c25 => ?_)
        · have k := k.2 (fun q => (c24 q))
          refine xe_aload_n dX12_handOn_118 rfl ?_
          refine xe_iload dX12_handOn_119 rfl ?_
          refine xe_aload_n dX12_handOn_121 rfl ?_
          refine xe_getR (b := 684) dX12_handOn_122 flX12_102 kk655 (xKK_lt kk655) rfl (rf655_58 hr) ?_
          refine xe_bipush (v := 58) dX12_handOn_125 rfl ?_
          refine xe_iload_n dX12_handOn_127 rfl ?_
          refine xe_iadd dX12_handOn_128 ?_
          obtain ⟨b26, k⟩ := k
          refine xe_iald dX12_handOn_129 kk684 (xKK_lt kk684) b26 ?_
          refine xe_callV (args := [.int i6, .int (u 684 ((58 : Int32) + i1).toNatClampNeg)]) dX12_handOn_130 vlX12_466 rfl rfl (Nat.le_of_ble_eq_true rfl) kk655 (xKK_lt kk655) rfl rfl k (Nat.le_refl _) (fun rv27 u27 w27 r27 k => ?_)
          obtain ⟨v27, rfl, rfl, rfl, rfl, k⟩ := k
          refine xe_istore (ls' := [some (.ref 655), some (.int i1), some (.int i2), some (.int i3), some (.int i4), some (.int i5), some (.int i6), some (.int v27)]) dX12_handOn_133 (by decide) rfl ?_
          refine xe_iload dX12_handOn_135 rfl ?_
          refine xe_iload dX12_handOn_137 rfl ?_
          refine xe_icmp_lt (tgt := 145) dX12_handOn_139 rfl (fun c28 => ?_) (fun c29 => ?_)
          · have k := k.1 c28
            refine xe_iload dX12_handOn_145 rfl ?_
            refine xe_istore (ls' := [some (.ref 655), some (.int i1), some (.int i2), some (.int i3), some (.int i6), some (.int i5), some (.int i6), some (.int v27)]) dX12_handOn_147 (by decide) rfl ?_
            refine xe_iload dX12_handOn_149 rfl ?_
            refine xe_istore (ls' := [some (.ref 655), some (.int i1), some (.int i2), some (.int i3), some (.int i6), some (.int v27), some (.int i6), some (.int v27)]) dX12_handOn_151 (by decide) rfl ?_
            exact xEv.fewer (ls' := [some (.ref 655), some (.int i1), some (.int i2), some (.int i3), some (.int i6), some (.int v27), some (.int i6), none]) k (xfw_get (xfw_s (xfw_s (xfw_s (xfw_s (xfw_s (xfw_s (xfw_s (xfw_n (xfw_nil _))))))))))
          · have k := k.2 (fun q => (c29 q))
            refine xe_goto (tgt := 153) dX12_handOn_142 rfl ?_
            exact xEv.fewer (ls' := [some (.ref 655), some (.int i1), some (.int i2), some (.int i3), some (.int i4), some (.int i5), some (.int i6), none]) k (xfw_get (xfw_s (xfw_s (xfw_s (xfw_s (xfw_s (xfw_s (xfw_s (xfw_n (xfw_nil _))))))))))
        · have k := k.1 c25
          refine xe_goto (tgt := 153) dX12_handOn_115 rfl ?_
          exact k

theorem TX12_handOn_153 {g : xGT} {d : Nat} {i1 i2 i3 i4 i5 i6 : Int32} {u : xU} {w : xW} {r : xQ} {P : xPost}
    (k : xEv g (d + 1) mX12_handOn 74 [some (.ref 655), some (.int i1), some (.int i2), some (.int i3), some (.int i4), some (.int i5), some (.int (i6 + (1 : Int32))), none] [] 698 u w r 698 P) :
    xEv g (d + 1) mX12_handOn 153 [some (.ref 655), some (.int i1), some (.int i2), some (.int i3), some (.int i4), some (.int i5), some (.int i6), none] [] 698 u w r 698 P := by
  refine xe_iinc (v := (i6 + (1 : Int32))) (ls' := [some (.ref 655), some (.int i1), some (.int i2), some (.int i3), some (.int i4), some (.int i5), some (.int (i6 + (1 : Int32))), none]) dX12_handOn_153 rfl (by decide) rfl rfl ?_
  refine xe_goto (tgt := 74) dX12_handOn_156 rfl ?_
  exact k

/-! FuneralPostModel.stepThree -/

theorem TX12_stepThree_0 {g : xGT} {d : Nat} {u : xU} {w : xW} {r : xQ} {P : xPost}
    (k : xEv g (d + 1) mX12_stepThree 2 [some (.ref 655), some (.int (0 : Int32)), none] [] 698 u w r 698 P) :
    xEv g (d + 1) mX12_stepThree 0 [some (.ref 655), none, none] [] 698 u w r 698 P := by
  refine xe_iconst (v := 0) dX12_stepThree_0 rfl ?_
  refine xe_istore_n (ls' := [some (.ref 655), some (.int (0 : Int32)), none]) dX12_stepThree_1 rfl (by decide) rfl ?_
  exact k

theorem CX12_stepThree {g : xGT} {d : Nat} {u : xU} {w : xW} {r : xQ} {P : xPost}
    (k : xEv g (d + 1) mX12_stepThree 2 [some (.ref 655), some (.int (0 : Int32)), none] [] 698 u w r 698 P) :
    xCall g (d + 1) mX12_stepThree [.ref 655] 698 u w r 698 P :=
  xCall.of plX12 (Nat.le_of_ble_eq_true rfl) rfl (TX12_stepThree_0  k)

theorem TX12_stepThree_2 {g : xGT} {d : Nat} {i1 : Int32} {u : xU} {w : xW} {r : xQ} {P : xPost}
    (k : ((u 655 49) ≤ i1 → P none u w r) ∧ (¬ ((u 655 49) ≤ i1) → xEv g (d + 1) mX12_stepThree 12 [some (.ref 655), some (.int i1), some (.int (0 : Int32))] [] 698 u w r 698 P)) :
    xEv g (d + 1) mX12_stepThree 2 [some (.ref 655), some (.int i1), none] [] 698 u w r 698 P := by
  refine xe_iload_n dX12_stepThree_2 rfl ?_
  refine xe_aload_n dX12_stepThree_3 rfl ?_
  refine xe_getI dX12_stepThree_4 flX12_395 kk655 (xKK_lt kk655) rfl ?_
  refine xe_icmp_ge (tgt := 50) dX12_stepThree_7 rfl (fun c1 => ?_) (fun c2 => ?_)
  · have k := k.1 c1
    exact xe_return dX12_stepThree_50 trivial k
  · have k := k.2 (fun q => (c2 q))
    refine xe_iconst (v := 0) dX12_stepThree_10 rfl ?_
    refine xe_istore_n (ls' := [some (.ref 655), some (.int i1), some (.int (0 : Int32))]) dX12_stepThree_11 rfl (by decide) rfl ?_
    exact k

theorem TX12_stepThree_12 {g : xGT} {d : Nat} {i1 i2 : Int32} {u : xU} {w : xW} {r : xQ} {P : xPost} (hr : xRf r)
    (k : ((u 684 88) ≤ i2 → xEv g (d + 1) mX12_stepThree 2 [some (.ref 655), some (.int (i1 + (1 : Int32))), none] [] 698 u w r 698 P) ∧ (¬ ((u 684 88) ≤ i2) → xCall g d mX12_villageOf [.ref 655, .int i2] 698 u w r 698 (fun rv5 u5 w5 r5 => ∃ v5 : Int32, rv5 = some (.int v5) ∧ u = u5 ∧ w = w5 ∧ r = r5 ∧ (v5 = i1 → xCall g d mX12_handOn [.ref 655, .int i2, .int i1] 698 u w r 698 (fun rv8 u8 w8 r8 => rv8 = none ∧ w = w8 ∧ r = r8 ∧ xEv g (d + 1) mX12_stepThree 38 [some (.ref 655), some (.int i1), some (.int i2)] [] 698 u8 w r 698 P)) ∧ (¬ (v5 = i1) → xEv g (d + 1) mX12_stepThree 38 [some (.ref 655), some (.int i1), some (.int i2)] [] 698 u w r 698 P)))) :
    xEv g (d + 1) mX12_stepThree 12 [some (.ref 655), some (.int i1), some (.int i2)] [] 698 u w r 698 P := by
  refine xe_iload_n dX12_stepThree_12 rfl ?_
  refine xe_aload_n dX12_stepThree_13 rfl ?_
  refine xe_getR (b := 684) dX12_stepThree_14 flX12_102 kk655 (xKK_lt kk655) rfl (rf655_58 hr) ?_
  refine xe_bipush (v := 88) dX12_stepThree_17 rfl ?_
  refine xe_iald dX12_stepThree_19 kk684 (xKK_lt kk684) (show ¬ ((88 : Int32) < 0 ∨ 92 ≤ (88 : Int32).toNatClampNeg) from by decide) ?_
  refine xe_icmp_ge (tgt := 44) dX12_stepThree_20 rfl (fun c3 => ?_) (fun c4 => ?_)
  · have k := k.1 c3
    refine xe_iinc (v := (i1 + (1 : Int32))) (ls' := [some (.ref 655), some (.int (i1 + (1 : Int32))), some (.int i2)]) dX12_stepThree_44 rfl (by decide) rfl rfl ?_
    refine xe_goto (tgt := 2) dX12_stepThree_47 rfl ?_
    exact xEv.fewer (ls' := [some (.ref 655), some (.int (i1 + (1 : Int32))), none]) k (xfw_get (xfw_s (xfw_s (xfw_n (xfw_nil _)))))
  · have k := k.2 (fun q => (c4 q))
    refine xe_aload_n dX12_stepThree_23 rfl ?_
    refine xe_iload_n dX12_stepThree_24 rfl ?_
    refine xe_callV (args := [.int i2]) dX12_stepThree_25 vlX12_460 rfl rfl (Nat.le_of_ble_eq_true rfl) kk655 (xKK_lt kk655) rfl rfl k (Nat.le_refl _) (fun rv5 u5 w5 r5 k => ?_)
    obtain ⟨v5, rfl, rfl, rfl, rfl, k⟩ := k
    refine xe_iload_n dX12_stepThree_28 rfl ?_
    refine xe_icmp_ne (tgt := 38) dX12_stepThree_29 rfl (fun c6 => ?_) (fun c7 => ?_)
    · have k := k.2 (fun q => (c6 q))
      exact k
    · have k := k.1 c7
      refine xe_aload_n dX12_stepThree_32 rfl ?_
      refine xe_iload_n dX12_stepThree_33 rfl ?_
      refine xe_iload_n dX12_stepThree_34 rfl ?_
      refine xe_callV (args := [.int i2, .int i1]) dX12_stepThree_35 vlX12_478 rfl rfl (Nat.le_of_ble_eq_true rfl) kk655 (xKK_lt kk655) rfl rfl k (Nat.le_refl _) (fun rv8 u8 w8 r8 k => ?_)
      obtain ⟨rfl, rfl, rfl, k⟩ := k
      exact k

theorem TX12_stepThree_38 {g : xGT} {d : Nat} {i1 i2 : Int32} {u : xU} {w : xW} {r : xQ} {P : xPost}
    (k : xEv g (d + 1) mX12_stepThree 12 [some (.ref 655), some (.int i1), some (.int (i2 + (1 : Int32)))] [] 698 u w r 698 P) :
    xEv g (d + 1) mX12_stepThree 38 [some (.ref 655), some (.int i1), some (.int i2)] [] 698 u w r 698 P := by
  refine xe_iinc (v := (i2 + (1 : Int32))) (ls' := [some (.ref 655), some (.int i1), some (.int (i2 + (1 : Int32)))]) dX12_stepThree_38 rfl (by decide) rfl rfl ?_
  refine xe_goto (tgt := 12) dX12_stepThree_41 rfl ?_
  exact k

/-! FuneralPostModel.stepFour -/

theorem TX12_stepFour_0 {g : xGT} {d : Nat} {u : xU} {w : xW} {r : xQ} {P : xPost} (hr : xRf r)
    (k : xEv g (d + 1) mX12_stepFour 10 [some (.ref 655), some (.int (u 684 90)), some (.int (0 : Int32)), none] [] 698 u w r 698 P) :
    xEv g (d + 1) mX12_stepFour 0 [some (.ref 655), none, none, none] [] 698 u w r 698 P := by
  refine xe_aload_n dX12_stepFour_0 rfl ?_
  refine xe_getR (b := 684) dX12_stepFour_1 flX12_102 kk655 (xKK_lt kk655) rfl (rf655_58 hr) ?_
  refine xe_bipush (v := 90) dX12_stepFour_4 rfl ?_
  refine xe_iald dX12_stepFour_6 kk684 (xKK_lt kk684) (show ¬ ((90 : Int32) < 0 ∨ 92 ≤ (90 : Int32).toNatClampNeg) from by decide) ?_
  refine xe_istore_n (ls' := [some (.ref 655), some (.int (u 684 90)), none, none]) dX12_stepFour_7 rfl (by decide) rfl ?_
  refine xe_iconst (v := 0) dX12_stepFour_8 rfl ?_
  refine xe_istore_n (ls' := [some (.ref 655), some (.int (u 684 90)), some (.int (0 : Int32)), none]) dX12_stepFour_9 rfl (by decide) rfl ?_
  exact k

theorem CX12_stepFour {g : xGT} {d : Nat} {u : xU} {w : xW} {r : xQ} {P : xPost} (hr : xRf r)
    (k : xEv g (d + 1) mX12_stepFour 10 [some (.ref 655), some (.int (u 684 90)), some (.int (0 : Int32)), none] [] 698 u w r 698 P) :
    xCall g (d + 1) mX12_stepFour [.ref 655] 698 u w r 698 P :=
  xCall.of plX12 (Nat.le_of_ble_eq_true rfl) rfl (TX12_stepFour_0 hr k)

set_option maxRecDepth 20000 in
theorem TX12_stepFour_10 {g : xGT} {d : Nat} {i1 i2 : Int32} {u : xU} {w : xW} {r : xQ} {P : xPost} (hr : xRf r)
    (k : ((u 655 51) ≤ i2 → P none (x2 u 684 90 ((u 684 90) + (1 : Int32))) w r) ∧ (¬ ((u 655 51) ≤ i2) → vp_in i2 92 ∧ (((u 684 i2.toNatClampNeg) = (1 : Int32) → vp_in ((12 : Int32) + i2) 92) ∧ ((((u 684 i2.toNatClampNeg) = (1 : Int32) ∧ ¬ (i1 < (u 684 ((12 : Int32) + i2).toNatClampNeg))) → xCall g d mX12_isIn [.int i1, .int (u 655 52), .int (u 655 53)] 698 u w r 698 (fun rv9 u9 w9 r9 => ∃ v9 : Int32, rv9 = some (.int v9) ∧ u = u9 ∧ w = w9 ∧ r = r9 ∧ (v9 = 0 → vp_in ((6 : Int32) + i2) 92 ∧ (vp_in i2 6 ∧ (xCall g d mX12_nextFrom [.ref 655, .int (u 684 ((6 : Int32) + i2).toNatClampNeg), .int (u 676 i2.toNatClampNeg)] 698 u w r 698 (fun rv14 u14 w14 r14 => ∃ v14 : Int32, rv14 = some (.int v14) ∧ u = u14 ∧ w = w14 ∧ r = r14 ∧ (0 ≤ v14 → xCall g d mX12_daysBetween [.ref 655, .int ((x2 u 684 i2.toNatClampNeg (2 : Int32)) 684 ((6 : Int32) + i2).toNatClampNeg), .int v14] 698 (x2 u 684 i2.toNatClampNeg (2 : Int32)) w r 698 (fun rv17 u17 w17 r17 => ∃ v17 : Int32, rv17 = some (.int v17) ∧ (x2 u 684 i2.toNatClampNeg (2 : Int32)) = u17 ∧ w = w17 ∧ r = r17 ∧ vp_in ((12 : Int32) + i2) 92 ∧ (xEv g (d + 1) mX12_stepFour 128 [some (.ref 655), some (.int i1), some (.int i2), none] [] 698 (x2 (x2 (x2 u 684 i2.toNatClampNeg (2 : Int32)) 684 ((12 : Int32) + i2).toNatClampNeg (i1 + v17)) 684 ((6 : Int32) + i2).toNatClampNeg v14) w r 698 P))) ∧ (¬ (0 ≤ v14) → xEv g (d + 1) mX12_stepFour 128 [some (.ref 655), some (.int i1), some (.int i2), none] [] 698 u w r 698 P))))) ∧ (¬ (v9 = 0) → xEv g (d + 1) mX12_stepFour 128 [some (.ref 655), some (.int i1), some (.int i2), none] [] 698 u w r 698 P))) ∧ (¬ ((u 684 i2.toNatClampNeg) = (1 : Int32) ∧ ¬ (i1 < (u 684 ((12 : Int32) + i2).toNatClampNeg))) → xEv g (d + 1) mX12_stepFour 128 [some (.ref 655), some (.int i1), some (.int i2), none] [] 698 u w r 698 P))))) :
    xEv g (d + 1) mX12_stepFour 10 [some (.ref 655), some (.int i1), some (.int i2), none] [] 698 u w r 698 P := by
  refine xe_iload_n dX12_stepFour_10 rfl ?_
  refine xe_aload_n dX12_stepFour_11 rfl ?_
  refine xe_getI dX12_stepFour_12 flX12_401 kk655 (xKK_lt kk655) rfl ?_
  refine xe_icmp_ge (tgt := 134) dX12_stepFour_15 rfl (fun c1 => ?_) (fun c2 => ?_)
  · have k := k.1 c1
    refine xe_aload_n dX12_stepFour_134 rfl ?_
    refine xe_getR (b := 684) dX12_stepFour_135 flX12_102 kk655 (xKK_lt kk655) rfl (rf655_58 hr) ?_
    refine xe_bipush (v := 90) dX12_stepFour_138 rfl ?_
    refine xe_dup2 dX12_stepFour_140 rfl rfl ?_
    refine xe_iald dX12_stepFour_141 kk684 (xKK_lt kk684) (show ¬ ((90 : Int32) < 0 ∨ 92 ≤ (90 : Int32).toNatClampNeg) from by decide) ?_
    refine xe_iconst (v := 1) dX12_stepFour_142 rfl ?_
    refine xe_iadd dX12_stepFour_143 ?_
    refine xe_iast dX12_stepFour_144 kk684 (xKK_lt kk684) (show ¬ ((90 : Int32) < 0 ∨ 92 ≤ (90 : Int32).toNatClampNeg) from by decide) ?_
    exact xe_return dX12_stepFour_145 trivial k
  · have k := k.2 (fun q => (c2 q))
    refine xe_aload_n dX12_stepFour_18 rfl ?_
    refine xe_getR (b := 684) dX12_stepFour_19 flX12_102 kk655 (xKK_lt kk655) rfl (rf655_58 hr) ?_
    refine xe_iload_n dX12_stepFour_22 rfl ?_
    obtain ⟨b3, k⟩ := k
    refine xe_iald dX12_stepFour_23 kk684 (xKK_lt kk684) b3 ?_
    refine xe_iconst (v := 1) dX12_stepFour_24 rfl ?_
    obtain ⟨b6, k⟩ := k
    have K19 : ¬ ((u 684 i2.toNatClampNeg) = (1 : Int32) ∧ ¬ (i1 < (u 684 ((12 : Int32) + i2).toNatClampNeg))) → xEv g (d + 1) mX12_stepFour 128 [some (.ref 655), some (.int i1), some (.int i2), none] [] 698 u w r 698 P := fun c20 => by
      have k := k.2 c20
      exact k
    refine xe_icmp_ne (tgt := 128) dX12_stepFour_25 rfl (fun c4 => ?_) (fun c5 => ?_)
    · exact K19 (fun q => (c4 q.1))
    · refine xe_iload_n dX12_stepFour_28 rfl ?_
      refine xe_aload_n dX12_stepFour_29 rfl ?_
      refine xe_getR (b := 684) dX12_stepFour_30 flX12_102 kk655 (xKK_lt kk655) rfl (rf655_58 hr) ?_
      refine xe_bipush (v := 12) dX12_stepFour_33 rfl ?_
      refine xe_iload_n dX12_stepFour_35 rfl ?_
      refine xe_iadd dX12_stepFour_36 ?_
      refine xe_iald dX12_stepFour_37 kk684 (xKK_lt kk684) (b6 c5) ?_
      refine xe_icmp_lt (tgt := 128) dX12_stepFour_38 rfl (fun c7 => ?_) (fun c8 => ?_)
      · exact K19 (fun q => (q.2 c7))
      · have k := k.1 ⟨c5, c8⟩
        refine xe_iload_n dX12_stepFour_41 rfl ?_
        refine xe_aload_n dX12_stepFour_42 rfl ?_
        refine xe_getI dX12_stepFour_43 flX12_96 kk655 (xKK_lt kk655) rfl ?_
        refine xe_aload_n dX12_stepFour_46 rfl ?_
        refine xe_getI dX12_stepFour_47 flX12_404 kk655 (xKK_lt kk655) rfl ?_
        refine xe_callS (args := [.int i1, .int (u 655 52), .int (u 655 53)]) dX12_stepFour_50 slX12_426 rfl rfl (Nat.le_of_ble_eq_true rfl) k (Nat.le_refl _) (fun rv9 u9 w9 r9 k => ?_)
        obtain ⟨v9, rfl, rfl, rfl, rfl, k⟩ := k
        refine xe_if_eq (tgt := 59) dX12_stepFour_53 rfl (fun c10 => ?_) (fun c11 => ?_)
        · have k := k.1 c10
          refine xe_aload_n dX12_stepFour_59 rfl ?_
          refine xe_aload_n dX12_stepFour_60 rfl ?_
          refine xe_getR (b := 684) dX12_stepFour_61 flX12_102 kk655 (xKK_lt kk655) rfl (rf655_58 hr) ?_
          refine xe_bipush (v := 6) dX12_stepFour_64 rfl ?_
          refine xe_iload_n dX12_stepFour_66 rfl ?_
          refine xe_iadd dX12_stepFour_67 ?_
          obtain ⟨b12, k⟩ := k
          refine xe_iald dX12_stepFour_68 kk684 (xKK_lt kk684) b12 ?_
          refine xe_aload_n dX12_stepFour_69 rfl ?_
          refine xe_getR (b := 676) dX12_stepFour_70 flX12_75 kk655 (xKK_lt kk655) rfl (rf655_36 hr) ?_
          refine xe_iload_n dX12_stepFour_73 rfl ?_
          obtain ⟨b13, k⟩ := k
          refine xe_iald dX12_stepFour_74 kk676 (xKK_lt kk676) b13 ?_
          refine xe_callV (args := [.int (u 684 ((6 : Int32) + i2).toNatClampNeg), .int (u 676 i2.toNatClampNeg)]) dX12_stepFour_75 vlX12_445 rfl rfl (Nat.le_of_ble_eq_true rfl) kk655 (xKK_lt kk655) rfl rfl k (Nat.le_refl _) (fun rv14 u14 w14 r14 k => ?_)
          obtain ⟨v14, rfl, rfl, rfl, rfl, k⟩ := k
          refine xe_istore_n (ls' := [some (.ref 655), some (.int i1), some (.int i2), some (.int v14)]) dX12_stepFour_78 rfl (by decide) rfl ?_
          refine xe_iload_n dX12_stepFour_79 rfl ?_
          refine xe_if_ge (tgt := 86) dX12_stepFour_80 rfl (fun c15 => ?_) (fun c16 => ?_)
          · have k := k.1 c15
            refine xe_aload_n dX12_stepFour_86 rfl ?_
            refine xe_getR (b := 684) dX12_stepFour_87 flX12_102 kk655 (xKK_lt kk655) rfl (rf655_58 hr) ?_
            refine xe_iload_n dX12_stepFour_90 rfl ?_
            refine xe_iconst (v := 2) dX12_stepFour_91 rfl ?_
            refine xe_iast dX12_stepFour_92 kk684 (xKK_lt kk684) b3 ?_
            refine xe_aload_n dX12_stepFour_93 rfl ?_
            refine xe_getR (b := 684) dX12_stepFour_94 flX12_102 kk655 (xKK_lt kk655) rfl (rf655_58 hr) ?_
            refine xe_bipush (v := 12) dX12_stepFour_97 rfl ?_
            refine xe_iload_n dX12_stepFour_99 rfl ?_
            refine xe_iadd dX12_stepFour_100 ?_
            refine xe_iload_n dX12_stepFour_101 rfl ?_
            refine xe_aload_n dX12_stepFour_102 rfl ?_
            refine xe_aload_n dX12_stepFour_103 rfl ?_
            refine xe_getR (b := 684) dX12_stepFour_104 flX12_102 kk655 (xKK_lt kk655) rfl (rf655_58 hr) ?_
            refine xe_bipush (v := 6) dX12_stepFour_107 rfl ?_
            refine xe_iload_n dX12_stepFour_109 rfl ?_
            refine xe_iadd dX12_stepFour_110 ?_
            refine xe_iald dX12_stepFour_111 kk684 (xKK_lt kk684) b12 ?_
            refine xe_iload_n dX12_stepFour_112 rfl ?_
            refine xe_callV (args := [.int ((x2 u 684 i2.toNatClampNeg (2 : Int32)) 684 ((6 : Int32) + i2).toNatClampNeg), .int v14]) dX12_stepFour_113 vlX12_442 rfl rfl (Nat.le_of_ble_eq_true rfl) kk655 (xKK_lt kk655) rfl rfl k (Nat.le_refl _) (fun rv17 u17 w17 r17 k => ?_)
            obtain ⟨v17, rfl, rfl, rfl, rfl, k⟩ := k
            refine xe_iadd dX12_stepFour_116 ?_
            obtain ⟨b18, k⟩ := k
            refine xe_iast dX12_stepFour_117 kk684 (xKK_lt kk684) b18 ?_
            refine xe_aload_n dX12_stepFour_118 rfl ?_
            refine xe_getR (b := 684) dX12_stepFour_119 flX12_102 kk655 (xKK_lt kk655) rfl (rf655_58 hr) ?_
            refine xe_bipush (v := 6) dX12_stepFour_122 rfl ?_
            refine xe_iload_n dX12_stepFour_124 rfl ?_
            refine xe_iadd dX12_stepFour_125 ?_
            refine xe_iload_n dX12_stepFour_126 rfl ?_
            refine xe_iast dX12_stepFour_127 kk684 (xKK_lt kk684) b12 ?_
            exact xEv.fewer (ls' := [some (.ref 655), some (.int i1), some (.int i2), none]) k (xfw_get (xfw_s (xfw_s (xfw_s (xfw_n (xfw_nil _))))))
          · have k := k.2 (fun q => (c16 q))
            refine xe_goto (tgt := 128) dX12_stepFour_83 rfl ?_
            exact xEv.fewer (ls' := [some (.ref 655), some (.int i1), some (.int i2), none]) k (xfw_get (xfw_s (xfw_s (xfw_s (xfw_n (xfw_nil _))))))
        · have k := k.2 (fun q => (c11 q))
          refine xe_goto (tgt := 128) dX12_stepFour_56 rfl ?_
          exact k

theorem TX12_stepFour_128 {g : xGT} {d : Nat} {i1 i2 : Int32} {u : xU} {w : xW} {r : xQ} {P : xPost}
    (k : xEv g (d + 1) mX12_stepFour 10 [some (.ref 655), some (.int i1), some (.int (i2 + (1 : Int32))), none] [] 698 u w r 698 P) :
    xEv g (d + 1) mX12_stepFour 128 [some (.ref 655), some (.int i1), some (.int i2), none] [] 698 u w r 698 P := by
  refine xe_iinc (v := (i2 + (1 : Int32))) (ls' := [some (.ref 655), some (.int i1), some (.int (i2 + (1 : Int32))), none]) dX12_stepFour_128 rfl (by decide) rfl rfl ?_
  refine xe_goto (tgt := 10) dX12_stepFour_131 rfl ?_
  exact k

/-! FuneralPostModel.goDay -/

theorem TX12_goDay_0 {g : xGT} {d : Nat} {u : xU} {w : xW} {r : xQ} {P : xPost}
    (k : xCall g d mX12_stepOne [.ref 655] 698 u w r 698 (fun rv1 u1 w1 r1 => rv1 = none ∧ w = w1 ∧ r = r1 ∧ xCall g d mX12_stepTwo [.ref 655] 698 u1 w r 698 (fun rv2 u2 w2 r2 => ∃ v2 : Int32, rv2 = some (.int v2) ∧ w = w2 ∧ r = r2 ∧ xCall g d mX12_stepThree [.ref 655] 698 u2 w r 698 (fun rv3 u3 w3 r3 => rv3 = none ∧ w = w3 ∧ r = r3 ∧ xCall g d mX12_stepFour [.ref 655] 698 u3 w r 698 (fun rv4 u4 w4 r4 => rv4 = none ∧ w = w4 ∧ r = r4 ∧ P (some (.int v2)) u4 w r))))) :
    xEv g (d + 1) mX12_goDay 0 [some (.ref 655), none] [] 698 u w r 698 P := by
  refine xe_aload_n dX12_goDay_0 rfl ?_
  refine xe_callV (args := []) dX12_goDay_1 vlX12_481 rfl rfl (Nat.le_of_ble_eq_true rfl) kk655 (xKK_lt kk655) rfl rfl k (Nat.le_refl _) (fun rv1 u1 w1 r1 k => ?_)
  obtain ⟨rfl, rfl, rfl, k⟩ := k
  refine xe_aload_n dX12_goDay_4 rfl ?_
  refine xe_callV (args := []) dX12_goDay_5 vlX12_484 rfl rfl (Nat.le_of_ble_eq_true rfl) kk655 (xKK_lt kk655) rfl rfl k (Nat.le_refl _) (fun rv2 u2 w2 r2 k => ?_)
  obtain ⟨v2, rfl, rfl, rfl, k⟩ := k
  refine xe_istore_n (ls' := [some (.ref 655), some (.int v2)]) dX12_goDay_8 rfl (by decide) rfl ?_
  refine xe_aload_n dX12_goDay_9 rfl ?_
  refine xe_callV (args := []) dX12_goDay_10 vlX12_487 rfl rfl (Nat.le_of_ble_eq_true rfl) kk655 (xKK_lt kk655) rfl rfl k (Nat.le_refl _) (fun rv3 u3 w3 r3 k => ?_)
  obtain ⟨rfl, rfl, rfl, k⟩ := k
  refine xe_aload_n dX12_goDay_13 rfl ?_
  refine xe_callV (args := []) dX12_goDay_14 vlX12_490 rfl rfl (Nat.le_of_ble_eq_true rfl) kk655 (xKK_lt kk655) rfl rfl k (Nat.le_refl _) (fun rv4 u4 w4 r4 k => ?_)
  obtain ⟨rfl, rfl, rfl, k⟩ := k
  refine xe_iload_n dX12_goDay_17 rfl ?_
  exact xe_ireturn dX12_goDay_18 rfl k

theorem CX12_goDay {g : xGT} {d : Nat} {u : xU} {w : xW} {r : xQ} {P : xPost}
    (k : xCall g d mX12_stepOne [.ref 655] 698 u w r 698 (fun rv1 u1 w1 r1 => rv1 = none ∧ w = w1 ∧ r = r1 ∧ xCall g d mX12_stepTwo [.ref 655] 698 u1 w r 698 (fun rv2 u2 w2 r2 => ∃ v2 : Int32, rv2 = some (.int v2) ∧ w = w2 ∧ r = r2 ∧ xCall g d mX12_stepThree [.ref 655] 698 u2 w r 698 (fun rv3 u3 w3 r3 => rv3 = none ∧ w = w3 ∧ r = r3 ∧ xCall g d mX12_stepFour [.ref 655] 698 u3 w r 698 (fun rv4 u4 w4 r4 => rv4 = none ∧ w = w4 ∧ r = r4 ∧ P (some (.int v2)) u4 w r))))) :
    xCall g (d + 1) mX12_goDay [.ref 655] 698 u w r 698 P :=
  xCall.of plX12 (Nat.le_of_ble_eq_true rfl) rfl (TX12_goDay_0  k)

/-! FuneralPostModel.bier -/

set_option maxRecDepth 20000 in
theorem TX12_bier_0 {g : xGT} {d : Nat} {i1 i2 : Int32} {u : xU} {w : xW} {r : xQ} {P : xPost} (hr : xRf r)
    (k : xCall g d mX12_isBier [.ref 655, .int i1] 698 u w r 698 (fun rv1 u1 w1 r1 => ∃ v1 : Int32, rv1 = some (.int v1) ∧ u = u1 ∧ w = w1 ∧ r = r1 ∧ (v1 = 0 → P (some (.int (-2 : Int32))) u w r) ∧ (¬ (v1 = 0) → xCall g d mX12_load [.ref 655] 698 u w r 698 (fun rv4 u4 w4 r4 => rv4 = none ∧ w = w4 ∧ r = r4 ∧ (i2 = 0 → vp_in i1 92 ∧ (P (some (.int (u4 684 i1.toNatClampNeg))) u4 w r)) ∧ (i2 = 1 → vp_in ((6 : Int32) + i1) 92 ∧ (P (some (.int (u4 684 ((6 : Int32) + i1).toNatClampNeg))) u4 w r)) ∧ (i2 = 2 → vp_in ((12 : Int32) + i1) 92 ∧ (P (some (.int (u4 684 ((12 : Int32) + i1).toNatClampNeg))) u4 w r)) ∧ (i2 = 3 → xCall g d mX12_lettersIn [.ref 655, .int i1] 698 u4 w r 698 (fun rv8 u8 w8 r8 => ∃ v8 : Int32, rv8 = some (.int v8) ∧ u4 = u8 ∧ w = w8 ∧ r = r8 ∧ P (some (.int v8)) u4 w r)) ∧ (i2 = 4 → vp_in i1 6 ∧ (P (some (.int (u4 676 i1.toNatClampNeg))) u4 w r)) ∧ (i2 = 5 → vp_in i1 92 ∧ (((u4 684 i1.toNatClampNeg) = (1 : Int32) → xCall g d mX12_restOf [.ref 655, .int i1] 698 u4 w r 698 (fun rv13 u13 w13 r13 => ∃ v13 : Int32, rv13 = some (.int v13) ∧ u4 = u13 ∧ w = w13 ∧ r = r13 ∧ P (some (.int v13)) u4 w r)) ∧ (¬ ((u4 684 i1.toNatClampNeg) = (1 : Int32)) → P (some (.int (0 : Int32))) u4 w r))) ∧ (¬ i2 = 0 → ¬ i2 = 1 → ¬ i2 = 2 → ¬ i2 = 3 → ¬ i2 = 4 → ¬ i2 = 5 → P (some (.int (-2 : Int32))) u4 w r))))) :
    xEv g (d + 1) mX12_bier 0 [some (.ref 655), some (.int i1), some (.int i2)] [] 698 u w r 698 P := by
  refine xe_aload_n dX12_bier_0 rfl ?_
  refine xe_iload_n dX12_bier_1 rfl ?_
  refine xe_callV (args := [.int i1]) dX12_bier_2 vlX12_493 rfl rfl (Nat.le_of_ble_eq_true rfl) kk655 (xKK_lt kk655) rfl rfl k (Nat.le_refl _) (fun rv1 u1 w1 r1 k => ?_)
  obtain ⟨v1, rfl, rfl, rfl, rfl, k⟩ := k
  refine xe_if_ne (tgt := 11) dX12_bier_5 rfl (fun c2 => ?_) (fun c3 => ?_)
  · have k := k.2 (fun q => (c2 q))
    refine xe_aload_n dX12_bier_11 rfl ?_
    refine xe_callV (args := []) dX12_bier_12 vlX12_496 rfl rfl (Nat.le_of_ble_eq_true rfl) kk655 (xKK_lt kk655) rfl rfl k (Nat.le_refl _) (fun rv4 u4 w4 r4 k => ?_)
    obtain ⟨rfl, rfl, rfl, k⟩ := k
    refine xe_iload_n dX12_bier_15 rfl ?_
    by_cases c14 : i2 = 0
    · have k := k.1 c14
      refine xe_tableIn (tgt := 56) dX12_bier_16 (by rw [c14]; decide) (by rw [c14]; decide) (by rw [c14]; rfl) rfl ?_
      refine xe_aload_n dX12_bier_56 rfl ?_
      refine xe_getR (b := 684) dX12_bier_57 flX12_102 kk655 (xKK_lt kk655) rfl (rf655_58 hr) ?_
      refine xe_iload_n dX12_bier_60 rfl ?_
      obtain ⟨b5, k⟩ := k
      refine xe_iald dX12_bier_61 kk684 (xKK_lt kk684) b5 ?_
      exact xe_ireturn dX12_bier_62 rfl k
    by_cases c15 : i2 = 1
    · have k := k.2.1 c15
      refine xe_tableIn (tgt := 63) dX12_bier_16 (by rw [c15]; decide) (by rw [c15]; decide) (by rw [c15]; rfl) rfl ?_
      refine xe_aload_n dX12_bier_63 rfl ?_
      refine xe_getR (b := 684) dX12_bier_64 flX12_102 kk655 (xKK_lt kk655) rfl (rf655_58 hr) ?_
      refine xe_bipush (v := 6) dX12_bier_67 rfl ?_
      refine xe_iload_n dX12_bier_69 rfl ?_
      refine xe_iadd dX12_bier_70 ?_
      obtain ⟨b6, k⟩ := k
      refine xe_iald dX12_bier_71 kk684 (xKK_lt kk684) b6 ?_
      exact xe_ireturn dX12_bier_72 rfl k
    by_cases c16 : i2 = 2
    · have k := k.2.2.1 c16
      refine xe_tableIn (tgt := 73) dX12_bier_16 (by rw [c16]; decide) (by rw [c16]; decide) (by rw [c16]; rfl) rfl ?_
      refine xe_aload_n dX12_bier_73 rfl ?_
      refine xe_getR (b := 684) dX12_bier_74 flX12_102 kk655 (xKK_lt kk655) rfl (rf655_58 hr) ?_
      refine xe_bipush (v := 12) dX12_bier_77 rfl ?_
      refine xe_iload_n dX12_bier_79 rfl ?_
      refine xe_iadd dX12_bier_80 ?_
      obtain ⟨b7, k⟩ := k
      refine xe_iald dX12_bier_81 kk684 (xKK_lt kk684) b7 ?_
      exact xe_ireturn dX12_bier_82 rfl k
    by_cases c17 : i2 = 3
    · have k := k.2.2.2.1 c17
      refine xe_tableIn (tgt := 83) dX12_bier_16 (by rw [c17]; decide) (by rw [c17]; decide) (by rw [c17]; rfl) rfl ?_
      refine xe_aload_n dX12_bier_83 rfl ?_
      refine xe_iload_n dX12_bier_84 rfl ?_
      refine xe_callV (args := [.int i1]) dX12_bier_85 vlX12_472 rfl rfl (Nat.le_of_ble_eq_true rfl) kk655 (xKK_lt kk655) rfl rfl k (Nat.le_refl _) (fun rv8 u8 w8 r8 k => ?_)
      obtain ⟨v8, rfl, rfl, rfl, rfl, k⟩ := k
      exact xe_ireturn dX12_bier_88 rfl k
    by_cases c18 : i2 = 4
    · have k := k.2.2.2.2.1 c18
      refine xe_tableIn (tgt := 89) dX12_bier_16 (by rw [c18]; decide) (by rw [c18]; decide) (by rw [c18]; rfl) rfl ?_
      refine xe_aload_n dX12_bier_89 rfl ?_
      refine xe_getR (b := 676) dX12_bier_90 flX12_75 kk655 (xKK_lt kk655) rfl (rf655_36 hr) ?_
      refine xe_iload_n dX12_bier_93 rfl ?_
      obtain ⟨b9, k⟩ := k
      refine xe_iald dX12_bier_94 kk676 (xKK_lt kk676) b9 ?_
      exact xe_ireturn dX12_bier_95 rfl k
    by_cases c19 : i2 = 5
    · have k := k.2.2.2.2.2.1 c19
      refine xe_tableIn (tgt := 96) dX12_bier_16 (by rw [c19]; decide) (by rw [c19]; decide) (by rw [c19]; rfl) rfl ?_
      refine xe_aload_n dX12_bier_96 rfl ?_
      refine xe_getR (b := 684) dX12_bier_97 flX12_102 kk655 (xKK_lt kk655) rfl (rf655_58 hr) ?_
      refine xe_iload_n dX12_bier_100 rfl ?_
      obtain ⟨b10, k⟩ := k
      refine xe_iald dX12_bier_101 kk684 (xKK_lt kk684) b10 ?_
      refine xe_iconst (v := 1) dX12_bier_102 rfl ?_
      refine xe_icmp_ne (tgt := 114) dX12_bier_103 rfl (fun c11 => ?_) (fun c12 => ?_)
      · have k := k.2 (fun q => (c11 q))
        refine xe_iconst (v := 0) dX12_bier_114 rfl ?_
        exact xe_ireturn dX12_bier_115 rfl k
      · have k := k.1 c12
        refine xe_aload_n dX12_bier_106 rfl ?_
        refine xe_iload_n dX12_bier_107 rfl ?_
        refine xe_callV (args := [.int i1]) dX12_bier_108 vlX12_463 rfl rfl (Nat.le_of_ble_eq_true rfl) kk655 (xKK_lt kk655) rfl rfl k (Nat.le_refl _) (fun rv13 u13 w13 r13 k => ?_)
        obtain ⟨v13, rfl, rfl, rfl, rfl, k⟩ := k
        refine xe_goto (tgt := 115) dX12_bier_111 rfl ?_
        exact xe_ireturn dX12_bier_115 rfl k
    have k := k.2.2.2.2.2.2 c14 c15 c16 c17 c18 c19
    have K20 : xEv g (d + 1) mX12_bier 116 [some (.ref 655), some (.int i1), some (.int i2)] [] 698 u4 w r 698 P := by
      refine xe_bipush (v := -2) dX12_bier_116 rfl ?_
      exact xe_ireturn dX12_bier_118 rfl k
    by_cases hlo : i2.toInt < 0 ∨ 5 < i2.toInt
    · exact xe_tableOut (tgt := 116) dX12_bier_16 hlo rfl K20
    · exact absurd (xsw_0_5_6 c14 c15 c16 c17 c18 c19 hlo) (fun h => h)
  · have k := k.1 c3
    refine xe_bipush (v := -2) dX12_bier_8 rfl ?_
    exact xe_ireturn dX12_bier_10 rfl k

theorem CX12_bier {g : xGT} {d : Nat} {i1 i2 : Int32} {u : xU} {w : xW} {r : xQ} {P : xPost} (hr : xRf r)
    (k : xCall g d mX12_isBier [.ref 655, .int i1] 698 u w r 698 (fun rv1 u1 w1 r1 => ∃ v1 : Int32, rv1 = some (.int v1) ∧ u = u1 ∧ w = w1 ∧ r = r1 ∧ (v1 = 0 → P (some (.int (-2 : Int32))) u w r) ∧ (¬ (v1 = 0) → xCall g d mX12_load [.ref 655] 698 u w r 698 (fun rv4 u4 w4 r4 => rv4 = none ∧ w = w4 ∧ r = r4 ∧ (i2 = 0 → vp_in i1 92 ∧ (P (some (.int (u4 684 i1.toNatClampNeg))) u4 w r)) ∧ (i2 = 1 → vp_in ((6 : Int32) + i1) 92 ∧ (P (some (.int (u4 684 ((6 : Int32) + i1).toNatClampNeg))) u4 w r)) ∧ (i2 = 2 → vp_in ((12 : Int32) + i1) 92 ∧ (P (some (.int (u4 684 ((12 : Int32) + i1).toNatClampNeg))) u4 w r)) ∧ (i2 = 3 → xCall g d mX12_lettersIn [.ref 655, .int i1] 698 u4 w r 698 (fun rv8 u8 w8 r8 => ∃ v8 : Int32, rv8 = some (.int v8) ∧ u4 = u8 ∧ w = w8 ∧ r = r8 ∧ P (some (.int v8)) u4 w r)) ∧ (i2 = 4 → vp_in i1 6 ∧ (P (some (.int (u4 676 i1.toNatClampNeg))) u4 w r)) ∧ (i2 = 5 → vp_in i1 92 ∧ (((u4 684 i1.toNatClampNeg) = (1 : Int32) → xCall g d mX12_restOf [.ref 655, .int i1] 698 u4 w r 698 (fun rv13 u13 w13 r13 => ∃ v13 : Int32, rv13 = some (.int v13) ∧ u4 = u13 ∧ w = w13 ∧ r = r13 ∧ P (some (.int v13)) u4 w r)) ∧ (¬ ((u4 684 i1.toNatClampNeg) = (1 : Int32)) → P (some (.int (0 : Int32))) u4 w r))) ∧ (¬ i2 = 0 → ¬ i2 = 1 → ¬ i2 = 2 → ¬ i2 = 3 → ¬ i2 = 4 → ¬ i2 = 5 → P (some (.int (-2 : Int32))) u4 w r))))) :
    xCall g (d + 1) mX12_bier [.ref 655, .int i1, .int i2] 698 u w r 698 P :=
  xCall.of plX12 (Nat.le_of_ble_eq_true rfl) rfl (TX12_bier_0 hr k)

/-! FuneralPostModel.letter -/

set_option maxRecDepth 20000 in
theorem TX12_letter_0 {g : xGT} {d : Nat} {i1 i2 : Int32} {u : xU} {w : xW} {r : xQ} {P : xPost} (hr : xRf r)
    (k : xCall g d mX12_isPosted [.ref 655, .int i1] 698 u w r 698 (fun rv1 u1 w1 r1 => ∃ v1 : Int32, rv1 = some (.int v1) ∧ u = u1 ∧ w = w1 ∧ r = r1 ∧ (v1 = 0 → P (some (.int (-2 : Int32))) u w r) ∧ (¬ (v1 = 0) → (i2 = 0 → vp_in ((18 : Int32) + i1) 92 ∧ (P (some (.int (u 683 ((18 : Int32) + i1).toNatClampNeg))) u w r)) ∧ (i2 = 1 → vp_in ((28 : Int32) + i1) 92 ∧ (P (some (.int (u 683 ((28 : Int32) + i1).toNatClampNeg))) u w r)) ∧ (i2 = 2 → vp_in ((38 : Int32) + i1) 92 ∧ (P (some (.int (u 683 ((38 : Int32) + i1).toNatClampNeg))) u w r)) ∧ (i2 = 3 → vp_in ((58 : Int32) + i1) 92 ∧ (P (some (.int (u 683 ((58 : Int32) + i1).toNatClampNeg))) u w r)) ∧ (i2 = 4 → vp_in ((68 : Int32) + i1) 92 ∧ (P (some (.int (u 683 ((68 : Int32) + i1).toNatClampNeg))) u w r)) ∧ (i2 = 5 → vp_in ((78 : Int32) + i1) 92 ∧ (P (some (.int (u 683 ((78 : Int32) + i1).toNatClampNeg))) u w r)) ∧ (i2 = 6 → vp_in ((48 : Int32) + i1) 92 ∧ (P (some (.int (u 683 ((48 : Int32) + i1).toNatClampNeg))) u w r)) ∧ (¬ i2 = 0 → ¬ i2 = 1 → ¬ i2 = 2 → ¬ i2 = 3 → ¬ i2 = 4 → ¬ i2 = 5 → ¬ i2 = 6 → P (some (.int (-2 : Int32))) u w r)))) :
    xEv g (d + 1) mX12_letter 0 [some (.ref 655), some (.int i1), some (.int i2)] [] 698 u w r 698 P := by
  refine xe_aload_n dX12_letter_0 rfl ?_
  refine xe_iload_n dX12_letter_1 rfl ?_
  refine xe_callV (args := [.int i1]) dX12_letter_2 vlX12_499 rfl rfl (Nat.le_of_ble_eq_true rfl) kk655 (xKK_lt kk655) rfl rfl k (Nat.le_refl _) (fun rv1 u1 w1 r1 k => ?_)
  obtain ⟨v1, rfl, rfl, rfl, rfl, k⟩ := k
  refine xe_if_ne (tgt := 11) dX12_letter_5 rfl (fun c2 => ?_) (fun c3 => ?_)
  · have k := k.2 (fun q => (c2 q))
    refine xe_iload_n dX12_letter_11 rfl ?_
    by_cases c11 : i2 = 0
    · have k := k.1 c11
      refine xe_tableIn (tgt := 56) dX12_letter_12 (by rw [c11]; decide) (by rw [c11]; decide) (by rw [c11]; rfl) rfl ?_
      refine xe_aload_n dX12_letter_56 rfl ?_
      refine xe_getR (b := 683) dX12_letter_57 flX12_99 kk655 (xKK_lt kk655) rfl (rf655_57 hr) ?_
      refine xe_bipush (v := 18) dX12_letter_60 rfl ?_
      refine xe_iload_n dX12_letter_62 rfl ?_
      refine xe_iadd dX12_letter_63 ?_
      obtain ⟨b4, k⟩ := k
      refine xe_iald dX12_letter_64 kk683 (xKK_lt kk683) b4 ?_
      exact xe_ireturn dX12_letter_65 rfl k
    by_cases c12 : i2 = 1
    · have k := k.2.1 c12
      refine xe_tableIn (tgt := 66) dX12_letter_12 (by rw [c12]; decide) (by rw [c12]; decide) (by rw [c12]; rfl) rfl ?_
      refine xe_aload_n dX12_letter_66 rfl ?_
      refine xe_getR (b := 683) dX12_letter_67 flX12_99 kk655 (xKK_lt kk655) rfl (rf655_57 hr) ?_
      refine xe_bipush (v := 28) dX12_letter_70 rfl ?_
      refine xe_iload_n dX12_letter_72 rfl ?_
      refine xe_iadd dX12_letter_73 ?_
      obtain ⟨b5, k⟩ := k
      refine xe_iald dX12_letter_74 kk683 (xKK_lt kk683) b5 ?_
      exact xe_ireturn dX12_letter_75 rfl k
    by_cases c13 : i2 = 2
    · have k := k.2.2.1 c13
      refine xe_tableIn (tgt := 76) dX12_letter_12 (by rw [c13]; decide) (by rw [c13]; decide) (by rw [c13]; rfl) rfl ?_
      refine xe_aload_n dX12_letter_76 rfl ?_
      refine xe_getR (b := 683) dX12_letter_77 flX12_99 kk655 (xKK_lt kk655) rfl (rf655_57 hr) ?_
      refine xe_bipush (v := 38) dX12_letter_80 rfl ?_
      refine xe_iload_n dX12_letter_82 rfl ?_
      refine xe_iadd dX12_letter_83 ?_
      obtain ⟨b6, k⟩ := k
      refine xe_iald dX12_letter_84 kk683 (xKK_lt kk683) b6 ?_
      exact xe_ireturn dX12_letter_85 rfl k
    by_cases c14 : i2 = 3
    · have k := k.2.2.2.1 c14
      refine xe_tableIn (tgt := 86) dX12_letter_12 (by rw [c14]; decide) (by rw [c14]; decide) (by rw [c14]; rfl) rfl ?_
      refine xe_aload_n dX12_letter_86 rfl ?_
      refine xe_getR (b := 683) dX12_letter_87 flX12_99 kk655 (xKK_lt kk655) rfl (rf655_57 hr) ?_
      refine xe_bipush (v := 58) dX12_letter_90 rfl ?_
      refine xe_iload_n dX12_letter_92 rfl ?_
      refine xe_iadd dX12_letter_93 ?_
      obtain ⟨b7, k⟩ := k
      refine xe_iald dX12_letter_94 kk683 (xKK_lt kk683) b7 ?_
      exact xe_ireturn dX12_letter_95 rfl k
    by_cases c15 : i2 = 4
    · have k := k.2.2.2.2.1 c15
      refine xe_tableIn (tgt := 96) dX12_letter_12 (by rw [c15]; decide) (by rw [c15]; decide) (by rw [c15]; rfl) rfl ?_
      refine xe_aload_n dX12_letter_96 rfl ?_
      refine xe_getR (b := 683) dX12_letter_97 flX12_99 kk655 (xKK_lt kk655) rfl (rf655_57 hr) ?_
      refine xe_bipush (v := 68) dX12_letter_100 rfl ?_
      refine xe_iload_n dX12_letter_102 rfl ?_
      refine xe_iadd dX12_letter_103 ?_
      obtain ⟨b8, k⟩ := k
      refine xe_iald dX12_letter_104 kk683 (xKK_lt kk683) b8 ?_
      exact xe_ireturn dX12_letter_105 rfl k
    by_cases c16 : i2 = 5
    · have k := k.2.2.2.2.2.1 c16
      refine xe_tableIn (tgt := 106) dX12_letter_12 (by rw [c16]; decide) (by rw [c16]; decide) (by rw [c16]; rfl) rfl ?_
      refine xe_aload_n dX12_letter_106 rfl ?_
      refine xe_getR (b := 683) dX12_letter_107 flX12_99 kk655 (xKK_lt kk655) rfl (rf655_57 hr) ?_
      refine xe_bipush (v := 78) dX12_letter_110 rfl ?_
      refine xe_iload_n dX12_letter_112 rfl ?_
      refine xe_iadd dX12_letter_113 ?_
      obtain ⟨b9, k⟩ := k
      refine xe_iald dX12_letter_114 kk683 (xKK_lt kk683) b9 ?_
      exact xe_ireturn dX12_letter_115 rfl k
    by_cases c17 : i2 = 6
    · have k := k.2.2.2.2.2.2.1 c17
      refine xe_tableIn (tgt := 116) dX12_letter_12 (by rw [c17]; decide) (by rw [c17]; decide) (by rw [c17]; rfl) rfl ?_
      refine xe_aload_n dX12_letter_116 rfl ?_
      refine xe_getR (b := 683) dX12_letter_117 flX12_99 kk655 (xKK_lt kk655) rfl (rf655_57 hr) ?_
      refine xe_bipush (v := 48) dX12_letter_120 rfl ?_
      refine xe_iload_n dX12_letter_122 rfl ?_
      refine xe_iadd dX12_letter_123 ?_
      obtain ⟨b10, k⟩ := k
      refine xe_iald dX12_letter_124 kk683 (xKK_lt kk683) b10 ?_
      exact xe_ireturn dX12_letter_125 rfl k
    have k := k.2.2.2.2.2.2.2 c11 c12 c13 c14 c15 c16 c17
    have K18 : xEv g (d + 1) mX12_letter 126 [some (.ref 655), some (.int i1), some (.int i2)] [] 698 u w r 698 P := by
      refine xe_bipush (v := -2) dX12_letter_126 rfl ?_
      exact xe_ireturn dX12_letter_128 rfl k
    by_cases hlo : i2.toInt < 0 ∨ 6 < i2.toInt
    · exact xe_tableOut (tgt := 126) dX12_letter_12 hlo rfl K18
    · exact absurd (xsw_0_6_7 c11 c12 c13 c14 c15 c16 c17 hlo) (fun h => h)
  · have k := k.1 c3
    refine xe_bipush (v := -2) dX12_letter_8 rfl ?_
    exact xe_ireturn dX12_letter_10 rfl k

theorem CX12_letter {g : xGT} {d : Nat} {i1 i2 : Int32} {u : xU} {w : xW} {r : xQ} {P : xPost} (hr : xRf r)
    (k : xCall g d mX12_isPosted [.ref 655, .int i1] 698 u w r 698 (fun rv1 u1 w1 r1 => ∃ v1 : Int32, rv1 = some (.int v1) ∧ u = u1 ∧ w = w1 ∧ r = r1 ∧ (v1 = 0 → P (some (.int (-2 : Int32))) u w r) ∧ (¬ (v1 = 0) → (i2 = 0 → vp_in ((18 : Int32) + i1) 92 ∧ (P (some (.int (u 683 ((18 : Int32) + i1).toNatClampNeg))) u w r)) ∧ (i2 = 1 → vp_in ((28 : Int32) + i1) 92 ∧ (P (some (.int (u 683 ((28 : Int32) + i1).toNatClampNeg))) u w r)) ∧ (i2 = 2 → vp_in ((38 : Int32) + i1) 92 ∧ (P (some (.int (u 683 ((38 : Int32) + i1).toNatClampNeg))) u w r)) ∧ (i2 = 3 → vp_in ((58 : Int32) + i1) 92 ∧ (P (some (.int (u 683 ((58 : Int32) + i1).toNatClampNeg))) u w r)) ∧ (i2 = 4 → vp_in ((68 : Int32) + i1) 92 ∧ (P (some (.int (u 683 ((68 : Int32) + i1).toNatClampNeg))) u w r)) ∧ (i2 = 5 → vp_in ((78 : Int32) + i1) 92 ∧ (P (some (.int (u 683 ((78 : Int32) + i1).toNatClampNeg))) u w r)) ∧ (i2 = 6 → vp_in ((48 : Int32) + i1) 92 ∧ (P (some (.int (u 683 ((48 : Int32) + i1).toNatClampNeg))) u w r)) ∧ (¬ i2 = 0 → ¬ i2 = 1 → ¬ i2 = 2 → ¬ i2 = 3 → ¬ i2 = 4 → ¬ i2 = 5 → ¬ i2 = 6 → P (some (.int (-2 : Int32))) u w r)))) :
    xCall g (d + 1) mX12_letter [.ref 655, .int i1, .int i2] 698 u w r 698 P :=
  xCall.of plX12 (Nat.le_of_ble_eq_true rfl) rfl (TX12_letter_0 hr k)

/-! FuneralPostModel.pileOf -/

theorem TX12_pileOf_0 {g : xGT} {d : Nat} {i1 : Int32} {u : xU} {w : xW} {r : xQ} {P : xPost}
    (k : xEv g (d + 1) mX12_pileOf 4 [some (.ref 655), some (.int i1), some (.int (0 : Int32)), some (.int (0 : Int32))] [] 698 u w r 698 P) :
    xEv g (d + 1) mX12_pileOf 0 [some (.ref 655), some (.int i1), none, none] [] 698 u w r 698 P := by
  refine xe_iconst (v := 0) dX12_pileOf_0 rfl ?_
  refine xe_istore_n (ls' := [some (.ref 655), some (.int i1), some (.int (0 : Int32)), none]) dX12_pileOf_1 rfl (by decide) rfl ?_
  refine xe_iconst (v := 0) dX12_pileOf_2 rfl ?_
  refine xe_istore_n (ls' := [some (.ref 655), some (.int i1), some (.int (0 : Int32)), some (.int (0 : Int32))]) dX12_pileOf_3 rfl (by decide) rfl ?_
  exact k

theorem CX12_pileOf {g : xGT} {d : Nat} {i1 : Int32} {u : xU} {w : xW} {r : xQ} {P : xPost}
    (k : xEv g (d + 1) mX12_pileOf 4 [some (.ref 655), some (.int i1), some (.int (0 : Int32)), some (.int (0 : Int32))] [] 698 u w r 698 P) :
    xCall g (d + 1) mX12_pileOf [.ref 655, .int i1] 698 u w r 698 P :=
  xCall.of plX12 (Nat.le_of_ble_eq_true rfl) rfl (TX12_pileOf_0  k)

theorem TX12_pileOf_4 {g : xGT} {d : Nat} {i1 i2 i3 : Int32} {u : xU} {w : xW} {r : xQ} {P : xPost} (hr : xRf r)
    (k : ((u 684 88) ≤ i3 → P (some (.int i2)) u w r) ∧ (¬ ((u 684 88) ≤ i3) → vp_in ((18 : Int32) + i3) 92 ∧ (xCall g d mX12_truth [.int (xb ((u 684 ((18 : Int32) + i3).toNatClampNeg) = i1))] 698 u w r 698 (fun rv6 u6 w6 r6 => ∃ v6 : Int32, rv6 = some (.int v6) ∧ u = u6 ∧ w = w6 ∧ r = r6 ∧ xEv g (d + 1) mX12_pileOf 4 [some (.ref 655), some (.int i1), some (.int (i2 ||| (v6 <<< (i3 &&& 31)))), some (.int (i3 + (1 : Int32)))] [] 698 u w r 698 P)))) :
    xEv g (d + 1) mX12_pileOf 4 [some (.ref 655), some (.int i1), some (.int i2), some (.int i3)] [] 698 u w r 698 P := by
  refine xe_iload_n dX12_pileOf_4 rfl ?_
  refine xe_aload_n dX12_pileOf_5 rfl ?_
  refine xe_getR (b := 684) dX12_pileOf_6 flX12_102 kk655 (xKK_lt kk655) rfl (rf655_58 hr) ?_
  refine xe_bipush (v := 88) dX12_pileOf_9 rfl ?_
  refine xe_iald dX12_pileOf_11 kk684 (xKK_lt kk684) (show ¬ ((88 : Int32) < 0 ∨ 92 ≤ (88 : Int32).toNatClampNeg) from by decide) ?_
  refine xe_icmp_ge (tgt := 47) dX12_pileOf_12 rfl (fun c1 => ?_) (fun c2 => ?_)
  · have k := k.1 c1
    refine xe_iload_n dX12_pileOf_47 rfl ?_
    exact xe_ireturn dX12_pileOf_48 rfl k
  · have k := k.2 (fun q => (c2 q))
    refine xe_iload_n dX12_pileOf_15 rfl ?_
    refine xe_aload_n dX12_pileOf_16 rfl ?_
    refine xe_getR (b := 684) dX12_pileOf_17 flX12_102 kk655 (xKK_lt kk655) rfl (rf655_58 hr) ?_
    refine xe_bipush (v := 18) dX12_pileOf_20 rfl ?_
    refine xe_iload_n dX12_pileOf_22 rfl ?_
    refine xe_iadd dX12_pileOf_23 ?_
    obtain ⟨b3, k⟩ := k
    refine xe_iald dX12_pileOf_24 kk684 (xKK_lt kk684) b3 ?_
    refine xe_iload_n dX12_pileOf_25 rfl ?_
    have K7 : xEv g (d + 1) mX12_pileOf 34 [some (.ref 655), some (.int i1), some (.int i2), some (.int i3)] [.int (xb ((u 684 ((18 : Int32) + i3).toNatClampNeg) = i1)), .int i2] 698 u w r 698 P := by
      refine xe_callS (args := [.int (xb ((u 684 ((18 : Int32) + i3).toNatClampNeg) = i1))]) dX12_pileOf_34 slX12_317 rfl rfl (Nat.le_of_ble_eq_true rfl) k (Nat.le_refl _) (fun rv6 u6 w6 r6 k => ?_)
      obtain ⟨v6, rfl, rfl, rfl, rfl, k⟩ := k
      refine xe_iload_n dX12_pileOf_37 rfl ?_
      refine xe_ishl dX12_pileOf_38 ?_
      refine xe_ior dX12_pileOf_39 ?_
      refine xe_istore_n (ls' := [some (.ref 655), some (.int i1), some (.int (i2 ||| (v6 <<< (i3 &&& 31)))), some (.int i3)]) dX12_pileOf_40 rfl (by decide) rfl ?_
      refine xe_iinc (v := (i3 + (1 : Int32))) (ls' := [some (.ref 655), some (.int i1), some (.int (i2 ||| (v6 <<< (i3 &&& 31)))), some (.int (i3 + (1 : Int32)))]) dX12_pileOf_41 rfl (by decide) rfl rfl ?_
      refine xe_goto (tgt := 4) dX12_pileOf_44 rfl ?_
      exact k
    refine xe_icmp_ne (tgt := 33) dX12_pileOf_26 rfl (fun c4 => ?_) (fun c5 => ?_)
    · refine xe_iconst (v := 0) dX12_pileOf_33 rfl ?_
      exact xtop (xb_neg (show ¬ ((u 684 ((18 : Int32) + i3).toNatClampNeg) = i1) from (fun q => (c4 q)))) K7
    · refine xe_iconst (v := 1) dX12_pileOf_29 rfl ?_
      refine xe_goto (tgt := 34) dX12_pileOf_30 rfl ?_
      exact xtop (xb_pos (show (u 684 ((18 : Int32) + i3).toNatClampNeg) = i1 from c5)) K7

/-! FuneralPostModel.standing -/

theorem TX12_standing_0 {g : xGT} {d : Nat} {i1 : Int32} {u : xU} {w : xW} {r : xQ} {P : xPost}
    (k : xEv g (d + 1) mX12_standing 4 [some (.ref 655), some (.int i1), some (.int (0 : Int32)), some (.int (0 : Int32))] [] 698 u w r 698 P) :
    xEv g (d + 1) mX12_standing 0 [some (.ref 655), some (.int i1), none, none] [] 698 u w r 698 P := by
  refine xe_iconst (v := 0) dX12_standing_0 rfl ?_
  refine xe_istore_n (ls' := [some (.ref 655), some (.int i1), some (.int (0 : Int32)), none]) dX12_standing_1 rfl (by decide) rfl ?_
  refine xe_iconst (v := 0) dX12_standing_2 rfl ?_
  refine xe_istore_n (ls' := [some (.ref 655), some (.int i1), some (.int (0 : Int32)), some (.int (0 : Int32))]) dX12_standing_3 rfl (by decide) rfl ?_
  exact k

theorem CX12_standing {g : xGT} {d : Nat} {i1 : Int32} {u : xU} {w : xW} {r : xQ} {P : xPost}
    (k : xEv g (d + 1) mX12_standing 4 [some (.ref 655), some (.int i1), some (.int (0 : Int32)), some (.int (0 : Int32))] [] 698 u w r 698 P) :
    xCall g (d + 1) mX12_standing [.ref 655, .int i1] 698 u w r 698 P :=
  xCall.of plX12 (Nat.le_of_ble_eq_true rfl) rfl (TX12_standing_0  k)

theorem TX12_standing_4 {g : xGT} {d : Nat} {i1 i2 i3 : Int32} {u : xU} {w : xW} {r : xQ} {P : xPost}
    (k : ((u 655 51) ≤ i3 → P (some (.int i2)) u w r) ∧ (¬ ((u 655 51) ≤ i3) → xCall g d mX12_standsAt [.ref 655, .int i3, .int i1] 698 u w r 698 (fun rv3 u3 w3 r3 => ∃ v3 : Int32, rv3 = some (.int v3) ∧ u = u3 ∧ w = w3 ∧ r = r3 ∧ xCall g d mX12_truth [.int v3] 698 u w r 698 (fun rv4 u4 w4 r4 => ∃ v4 : Int32, rv4 = some (.int v4) ∧ u = u4 ∧ w = w4 ∧ r = r4 ∧ xEv g (d + 1) mX12_standing 4 [some (.ref 655), some (.int i1), some (.int (i2 ||| (v4 <<< (i3 &&& 31)))), some (.int (i3 + (1 : Int32)))] [] 698 u w r 698 P)))) :
    xEv g (d + 1) mX12_standing 4 [some (.ref 655), some (.int i1), some (.int i2), some (.int i3)] [] 698 u w r 698 P := by
  refine xe_iload_n dX12_standing_4 rfl ?_
  refine xe_aload_n dX12_standing_5 rfl ?_
  refine xe_getI dX12_standing_6 flX12_401 kk655 (xKK_lt kk655) rfl ?_
  refine xe_icmp_ge (tgt := 32) dX12_standing_9 rfl (fun c1 => ?_) (fun c2 => ?_)
  · have k := k.1 c1
    refine xe_iload_n dX12_standing_32 rfl ?_
    exact xe_ireturn dX12_standing_33 rfl k
  · have k := k.2 (fun q => (c2 q))
    refine xe_iload_n dX12_standing_12 rfl ?_
    refine xe_aload_n dX12_standing_13 rfl ?_
    refine xe_iload_n dX12_standing_14 rfl ?_
    refine xe_iload_n dX12_standing_15 rfl ?_
    refine xe_callV (args := [.int i3, .int i1]) dX12_standing_16 vlX12_469 rfl rfl (Nat.le_of_ble_eq_true rfl) kk655 (xKK_lt kk655) rfl rfl k (Nat.le_refl _) (fun rv3 u3 w3 r3 k => ?_)
    obtain ⟨v3, rfl, rfl, rfl, rfl, k⟩ := k
    refine xe_callS (args := [.int v3]) dX12_standing_19 slX12_317 rfl rfl (Nat.le_of_ble_eq_true rfl) k (Nat.le_refl _) (fun rv4 u4 w4 r4 k => ?_)
    obtain ⟨v4, rfl, rfl, rfl, rfl, k⟩ := k
    refine xe_iload_n dX12_standing_22 rfl ?_
    refine xe_ishl dX12_standing_23 ?_
    refine xe_ior dX12_standing_24 ?_
    refine xe_istore_n (ls' := [some (.ref 655), some (.int i1), some (.int (i2 ||| (v4 <<< (i3 &&& 31)))), some (.int i3)]) dX12_standing_25 rfl (by decide) rfl ?_
    refine xe_iinc (v := (i3 + (1 : Int32))) (ls' := [some (.ref 655), some (.int i1), some (.int (i2 ||| (v4 <<< (i3 &&& 31)))), some (.int (i3 + (1 : Int32)))]) dX12_standing_26 rfl (by decide) rfl rfl ?_
    refine xe_goto (tgt := 4) dX12_standing_29 rfl ?_
    exact k

/-! FuneralPostModel.besideOf -/

theorem TX12_besideOf_0 {g : xGT} {d : Nat} {i1 : Int32} {u : xU} {w : xW} {r : xQ} {P : xPost}
    (k : xEv g (d + 1) mX12_besideOf 4 [some (.ref 655), some (.int i1), some (.int (0 : Int32)), some (.int (0 : Int32))] [] 698 u w r 698 P) :
    xEv g (d + 1) mX12_besideOf 0 [some (.ref 655), some (.int i1), none, none] [] 698 u w r 698 P := by
  refine xe_iconst (v := 0) dX12_besideOf_0 rfl ?_
  refine xe_istore_n (ls' := [some (.ref 655), some (.int i1), some (.int (0 : Int32)), none]) dX12_besideOf_1 rfl (by decide) rfl ?_
  refine xe_iconst (v := 0) dX12_besideOf_2 rfl ?_
  refine xe_istore_n (ls' := [some (.ref 655), some (.int i1), some (.int (0 : Int32)), some (.int (0 : Int32))]) dX12_besideOf_3 rfl (by decide) rfl ?_
  exact k

theorem CX12_besideOf {g : xGT} {d : Nat} {i1 : Int32} {u : xU} {w : xW} {r : xQ} {P : xPost}
    (k : xEv g (d + 1) mX12_besideOf 4 [some (.ref 655), some (.int i1), some (.int (0 : Int32)), some (.int (0 : Int32))] [] 698 u w r 698 P) :
    xCall g (d + 1) mX12_besideOf [.ref 655, .int i1] 698 u w r 698 P :=
  xCall.of plX12 (Nat.le_of_ble_eq_true rfl) rfl (TX12_besideOf_0  k)

theorem TX12_besideOf_4 {g : xGT} {d : Nat} {i1 i2 i3 : Int32} {u : xU} {w : xW} {r : xQ} {P : xPost}
    (k : ((u 655 49) ≤ i3 → P (some (.int i2)) u w r) ∧ (¬ ((u 655 49) ≤ i3) → xCall g d mX12_daysBetween [.ref 655, .int i1, .int i3] 698 u w r 698 (fun rv3 u3 w3 r3 => ∃ v3 : Int32, rv3 = some (.int v3) ∧ u = u3 ∧ w = w3 ∧ r = r3 ∧ xCall g d mX12_truth [.int (xb (¬ (v3 < 0)))] 698 u w r 698 (fun rv6 u6 w6 r6 => ∃ v6 : Int32, rv6 = some (.int v6) ∧ u = u6 ∧ w = w6 ∧ r = r6 ∧ xEv g (d + 1) mX12_besideOf 4 [some (.ref 655), some (.int i1), some (.int (i2 ||| (v6 <<< (i3 &&& 31)))), some (.int (i3 + (1 : Int32)))] [] 698 u w r 698 P)))) :
    xEv g (d + 1) mX12_besideOf 4 [some (.ref 655), some (.int i1), some (.int i2), some (.int i3)] [] 698 u w r 698 P := by
  refine xe_iload_n dX12_besideOf_4 rfl ?_
  refine xe_aload_n dX12_besideOf_5 rfl ?_
  refine xe_getI dX12_besideOf_6 flX12_395 kk655 (xKK_lt kk655) rfl ?_
  refine xe_icmp_ge (tgt := 40) dX12_besideOf_9 rfl (fun c1 => ?_) (fun c2 => ?_)
  · have k := k.1 c1
    refine xe_iload_n dX12_besideOf_40 rfl ?_
    exact xe_ireturn dX12_besideOf_41 rfl k
  · have k := k.2 (fun q => (c2 q))
    refine xe_iload_n dX12_besideOf_12 rfl ?_
    refine xe_aload_n dX12_besideOf_13 rfl ?_
    refine xe_iload_n dX12_besideOf_14 rfl ?_
    refine xe_iload_n dX12_besideOf_15 rfl ?_
    refine xe_callV (args := [.int i1, .int i3]) dX12_besideOf_16 vlX12_442 rfl rfl (Nat.le_of_ble_eq_true rfl) kk655 (xKK_lt kk655) rfl rfl k (Nat.le_refl _) (fun rv3 u3 w3 r3 k => ?_)
    obtain ⟨v3, rfl, rfl, rfl, rfl, k⟩ := k
    have K7 : xEv g (d + 1) mX12_besideOf 27 [some (.ref 655), some (.int i1), some (.int i2), some (.int i3)] [.int (xb (¬ (v3 < 0))), .int i2] 698 u w r 698 P := by
      refine xe_callS (args := [.int (xb (¬ (v3 < 0)))]) dX12_besideOf_27 slX12_317 rfl rfl (Nat.le_of_ble_eq_true rfl) k (Nat.le_refl _) (fun rv6 u6 w6 r6 k => ?_)
      obtain ⟨v6, rfl, rfl, rfl, rfl, k⟩ := k
      refine xe_iload_n dX12_besideOf_30 rfl ?_
      refine xe_ishl dX12_besideOf_31 ?_
      refine xe_ior dX12_besideOf_32 ?_
      refine xe_istore_n (ls' := [some (.ref 655), some (.int i1), some (.int (i2 ||| (v6 <<< (i3 &&& 31)))), some (.int i3)]) dX12_besideOf_33 rfl (by decide) rfl ?_
      refine xe_iinc (v := (i3 + (1 : Int32))) (ls' := [some (.ref 655), some (.int i1), some (.int (i2 ||| (v6 <<< (i3 &&& 31)))), some (.int (i3 + (1 : Int32)))]) dX12_besideOf_34 rfl (by decide) rfl rfl ?_
      refine xe_goto (tgt := 4) dX12_besideOf_37 rfl ?_
      exact k
    refine xe_if_lt (tgt := 26) dX12_besideOf_19 rfl (fun c4 => ?_) (fun c5 => ?_)
    · refine xe_iconst (v := 0) dX12_besideOf_26 rfl ?_
      exact xtop (xb_neg (p := ¬ (v3 < 0)) (fun q => q c4)) K7
    · refine xe_iconst (v := 1) dX12_besideOf_22 rfl ?_
      refine xe_goto (tgt := 27) dX12_besideOf_23 rfl ?_
      exact xtop (xb_pos (show ¬ (v3 < 0) from (fun q => (c5 q)))) K7

/-! FuneralPostModel.village -/

theorem TX12_village_0 {g : xGT} {d : Nat} {i1 i2 : Int32} {u : xU} {w : xW} {r : xQ} {P : xPost}
    (k : xCall g d mX12_isVillage [.ref 655, .int i1] 698 u w r 698 (fun rv1 u1 w1 r1 => ∃ v1 : Int32, rv1 = some (.int v1) ∧ u = u1 ∧ w = w1 ∧ r = r1 ∧ (v1 = 0 → P (some (.int (-1 : Int32))) u w r) ∧ (¬ (v1 = 0) → xCall g d mX12_load [.ref 655] 698 u w r 698 (fun rv4 u4 w4 r4 => rv4 = none ∧ w = w4 ∧ r = r4 ∧ (i2 = 0 → xCall g d mX12_pileOf [.ref 655, .int i1] 698 u4 w r 698 (fun rv7 u7 w7 r7 => ∃ v7 : Int32, rv7 = some (.int v7) ∧ u4 = u7 ∧ w = w7 ∧ r = r7 ∧ P (some (.int v7)) u4 w r)) ∧ (¬ (i2 = 0) → (i2 = (1 : Int32) → xCall g d mX12_standing [.ref 655, .int i1] 698 u4 w r 698 (fun rv10 u10 w10 r10 => ∃ v10 : Int32, rv10 = some (.int v10) ∧ u4 = u10 ∧ w = w10 ∧ r = r10 ∧ P (some (.int v10)) u4 w r)) ∧ (¬ (i2 = (1 : Int32)) → (i2 = (2 : Int32) → xCall g d mX12_besideOf [.ref 655, .int i1] 698 u4 w r 698 (fun rv13 u13 w13 r13 => ∃ v13 : Int32, rv13 = some (.int v13) ∧ u4 = u13 ∧ w = w13 ∧ r = r13 ∧ P (some (.int v13)) u4 w r)) ∧ (¬ (i2 = (2 : Int32)) → P (some (.int (-1 : Int32))) u4 w r))))))) :
    xEv g (d + 1) mX12_village 0 [some (.ref 655), some (.int i1), some (.int i2)] [] 698 u w r 698 P := by
  refine xe_aload_n dX12_village_0 rfl ?_
  refine xe_iload_n dX12_village_1 rfl ?_
  refine xe_callV (args := [.int i1]) dX12_village_2 vlX12_502 rfl rfl (Nat.le_of_ble_eq_true rfl) kk655 (xKK_lt kk655) rfl rfl k (Nat.le_refl _) (fun rv1 u1 w1 r1 k => ?_)
  obtain ⟨v1, rfl, rfl, rfl, rfl, k⟩ := k
  refine xe_if_ne (tgt := 10) dX12_village_5 rfl (fun c2 => ?_) (fun c3 => ?_)
  · have k := k.2 (fun q => (c2 q))
    refine xe_aload_n dX12_village_10 rfl ?_
    refine xe_callV (args := []) dX12_village_11 vlX12_496 rfl rfl (Nat.le_of_ble_eq_true rfl) kk655 (xKK_lt kk655) rfl rfl k (Nat.le_refl _) (fun rv4 u4 w4 r4 k => ?_)
    obtain ⟨rfl, rfl, rfl, k⟩ := k
    refine xe_iload_n dX12_village_14 rfl ?_
    refine xe_if_ne (tgt := 26) dX12_village_15 rfl (fun c5 => ?_) (fun c6 => ?_)
    · have k := k.2 (fun q => (c5 q))
      refine xe_iload_n dX12_village_26 rfl ?_
      refine xe_iconst (v := 1) dX12_village_27 rfl ?_
      refine xe_icmp_ne (tgt := 39) dX12_village_28 rfl (fun c8 => ?_) (fun c9 => ?_)
      · have k := k.2 (fun q => (c8 q))
        refine xe_iload_n dX12_village_39 rfl ?_
        refine xe_iconst (v := 2) dX12_village_40 rfl ?_
        refine xe_icmp_ne (tgt := 52) dX12_village_41 rfl (fun c11 => ?_) (fun c12 => ?_)
        · have k := k.2 (fun q => (c11 q))
          refine xe_iconst (v := -1) dX12_village_52 rfl ?_
          exact xe_ireturn dX12_village_53 rfl k
        · have k := k.1 c12
          refine xe_aload_n dX12_village_44 rfl ?_
          refine xe_iload_n dX12_village_45 rfl ?_
          refine xe_callV (args := [.int i1]) dX12_village_46 vlX12_511 rfl rfl (Nat.le_of_ble_eq_true rfl) kk655 (xKK_lt kk655) rfl rfl k (Nat.le_refl _) (fun rv13 u13 w13 r13 k => ?_)
          obtain ⟨v13, rfl, rfl, rfl, rfl, k⟩ := k
          refine xe_goto (tgt := 53) dX12_village_49 rfl ?_
          exact xe_ireturn dX12_village_53 rfl k
      · have k := k.1 c9
        refine xe_aload_n dX12_village_31 rfl ?_
        refine xe_iload_n dX12_village_32 rfl ?_
        refine xe_callV (args := [.int i1]) dX12_village_33 vlX12_508 rfl rfl (Nat.le_of_ble_eq_true rfl) kk655 (xKK_lt kk655) rfl rfl k (Nat.le_refl _) (fun rv10 u10 w10 r10 k => ?_)
        obtain ⟨v10, rfl, rfl, rfl, rfl, k⟩ := k
        refine xe_goto (tgt := 53) dX12_village_36 rfl ?_
        exact xe_ireturn dX12_village_53 rfl k
    · have k := k.1 c6
      refine xe_aload_n dX12_village_18 rfl ?_
      refine xe_iload_n dX12_village_19 rfl ?_
      refine xe_callV (args := [.int i1]) dX12_village_20 vlX12_505 rfl rfl (Nat.le_of_ble_eq_true rfl) kk655 (xKK_lt kk655) rfl rfl k (Nat.le_refl _) (fun rv7 u7 w7 r7 k => ?_)
      obtain ⟨v7, rfl, rfl, rfl, rfl, k⟩ := k
      refine xe_goto (tgt := 53) dX12_village_23 rfl ?_
      exact xe_ireturn dX12_village_53 rfl k
  · have k := k.1 c3
    refine xe_iconst (v := -1) dX12_village_8 rfl ?_
    exact xe_ireturn dX12_village_9 rfl k

theorem CX12_village {g : xGT} {d : Nat} {i1 i2 : Int32} {u : xU} {w : xW} {r : xQ} {P : xPost}
    (k : xCall g d mX12_isVillage [.ref 655, .int i1] 698 u w r 698 (fun rv1 u1 w1 r1 => ∃ v1 : Int32, rv1 = some (.int v1) ∧ u = u1 ∧ w = w1 ∧ r = r1 ∧ (v1 = 0 → P (some (.int (-1 : Int32))) u w r) ∧ (¬ (v1 = 0) → xCall g d mX12_load [.ref 655] 698 u w r 698 (fun rv4 u4 w4 r4 => rv4 = none ∧ w = w4 ∧ r = r4 ∧ (i2 = 0 → xCall g d mX12_pileOf [.ref 655, .int i1] 698 u4 w r 698 (fun rv7 u7 w7 r7 => ∃ v7 : Int32, rv7 = some (.int v7) ∧ u4 = u7 ∧ w = w7 ∧ r = r7 ∧ P (some (.int v7)) u4 w r)) ∧ (¬ (i2 = 0) → (i2 = (1 : Int32) → xCall g d mX12_standing [.ref 655, .int i1] 698 u4 w r 698 (fun rv10 u10 w10 r10 => ∃ v10 : Int32, rv10 = some (.int v10) ∧ u4 = u10 ∧ w = w10 ∧ r = r10 ∧ P (some (.int v10)) u4 w r)) ∧ (¬ (i2 = (1 : Int32)) → (i2 = (2 : Int32) → xCall g d mX12_besideOf [.ref 655, .int i1] 698 u4 w r 698 (fun rv13 u13 w13 r13 => ∃ v13 : Int32, rv13 = some (.int v13) ∧ u4 = u13 ∧ w = w13 ∧ r = r13 ∧ P (some (.int v13)) u4 w r)) ∧ (¬ (i2 = (2 : Int32)) → P (some (.int (-1 : Int32))) u4 w r))))))) :
    xCall g (d + 1) mX12_village [.ref 655, .int i1, .int i2] 698 u w r 698 P :=
  xCall.of plX12 (Nat.le_of_ble_eq_true rfl) rfl (TX12_village_0  k)

/-! FuneralPostModel.far -/

theorem TX12_far_0 {g : xGT} {d : Nat} {i1 i2 : Int32} {u : xU} {w : xW} {r : xQ} {P : xPost}
    (k : xCall g d mX12_isVillage [.ref 655, .int i1] 698 u w r 698 (fun rv1 u1 w1 r1 => ∃ v1 : Int32, rv1 = some (.int v1) ∧ u = u1 ∧ w = w1 ∧ r = r1 ∧ (v1 = 0 → P (some (.int (-1 : Int32))) u w r) ∧ (¬ (v1 = 0) → xCall g d mX12_isVillage [.ref 655, .int i2] 698 u w r 698 (fun rv4 u4 w4 r4 => ∃ v4 : Int32, rv4 = some (.int v4) ∧ u = u4 ∧ w = w4 ∧ r = r4 ∧ (v4 = 0 → P (some (.int (-1 : Int32))) u w r) ∧ (¬ (v4 = 0) → xCall g d mX12_load [.ref 655] 698 u w r 698 (fun rv7 u7 w7 r7 => rv7 = none ∧ w = w7 ∧ r = r7 ∧ xCall g d mX12_farOf [.ref 655, .int i1, .int i2] 698 u7 w r 698 (fun rv8 u8 w8 r8 => ∃ v8 : Int32, rv8 = some (.int v8) ∧ u7 = u8 ∧ w = w8 ∧ r = r8 ∧ P (some (.int v8)) u7 w r))))))) :
    xEv g (d + 1) mX12_far 0 [some (.ref 655), some (.int i1), some (.int i2)] [] 698 u w r 698 P := by
  refine xe_aload_n dX12_far_0 rfl ?_
  refine xe_iload_n dX12_far_1 rfl ?_
  refine xe_callV (args := [.int i1]) dX12_far_2 vlX12_502 rfl rfl (Nat.le_of_ble_eq_true rfl) kk655 (xKK_lt kk655) rfl rfl k (Nat.le_refl _) (fun rv1 u1 w1 r1 k => ?_)
  obtain ⟨v1, rfl, rfl, rfl, rfl, k⟩ := k
  refine xe_if_eq (tgt := 16) dX12_far_5 rfl (fun c2 => ?_) (fun c3 => ?_)
  · have k := k.1 c2
    refine xe_iconst (v := -1) dX12_far_16 rfl ?_
    exact xe_ireturn dX12_far_17 rfl k
  · have k := k.2 (fun q => (c3 q))
    refine xe_aload_n dX12_far_8 rfl ?_
    refine xe_iload_n dX12_far_9 rfl ?_
    refine xe_callV (args := [.int i2]) dX12_far_10 vlX12_502 rfl rfl (Nat.le_of_ble_eq_true rfl) kk655 (xKK_lt kk655) rfl rfl k (Nat.le_refl _) (fun rv4 u4 w4 r4 k => ?_)
    obtain ⟨v4, rfl, rfl, rfl, rfl, k⟩ := k
    refine xe_if_ne (tgt := 18) dX12_far_13 rfl (fun c5 => ?_) (fun c6 => ?_)
    · have k := k.2 (fun q => (c5 q))
      refine xe_aload_n dX12_far_18 rfl ?_
      refine xe_callV (args := []) dX12_far_19 vlX12_496 rfl rfl (Nat.le_of_ble_eq_true rfl) kk655 (xKK_lt kk655) rfl rfl k (Nat.le_refl _) (fun rv7 u7 w7 r7 k => ?_)
      obtain ⟨rfl, rfl, rfl, k⟩ := k
      refine xe_aload_n dX12_far_22 rfl ?_
      refine xe_iload_n dX12_far_23 rfl ?_
      refine xe_iload_n dX12_far_24 rfl ?_
      refine xe_callV (args := [.int i1, .int i2]) dX12_far_25 vlX12_439 rfl rfl (Nat.le_of_ble_eq_true rfl) kk655 (xKK_lt kk655) rfl rfl k (Nat.le_refl _) (fun rv8 u8 w8 r8 k => ?_)
      obtain ⟨v8, rfl, rfl, rfl, rfl, k⟩ := k
      exact xe_ireturn dX12_far_28 rfl k
    · have k := k.1 c6
      refine xe_iconst (v := -1) dX12_far_16 rfl ?_
      exact xe_ireturn dX12_far_17 rfl k

theorem CX12_far {g : xGT} {d : Nat} {i1 i2 : Int32} {u : xU} {w : xW} {r : xQ} {P : xPost}
    (k : xCall g d mX12_isVillage [.ref 655, .int i1] 698 u w r 698 (fun rv1 u1 w1 r1 => ∃ v1 : Int32, rv1 = some (.int v1) ∧ u = u1 ∧ w = w1 ∧ r = r1 ∧ (v1 = 0 → P (some (.int (-1 : Int32))) u w r) ∧ (¬ (v1 = 0) → xCall g d mX12_isVillage [.ref 655, .int i2] 698 u w r 698 (fun rv4 u4 w4 r4 => ∃ v4 : Int32, rv4 = some (.int v4) ∧ u = u4 ∧ w = w4 ∧ r = r4 ∧ (v4 = 0 → P (some (.int (-1 : Int32))) u w r) ∧ (¬ (v4 = 0) → xCall g d mX12_load [.ref 655] 698 u w r 698 (fun rv7 u7 w7 r7 => rv7 = none ∧ w = w7 ∧ r = r7 ∧ xCall g d mX12_farOf [.ref 655, .int i1, .int i2] 698 u7 w r 698 (fun rv8 u8 w8 r8 => ∃ v8 : Int32, rv8 = some (.int v8) ∧ u7 = u8 ∧ w = w8 ∧ r = r8 ∧ P (some (.int v8)) u7 w r))))))) :
    xCall g (d + 1) mX12_far [.ref 655, .int i1, .int i2] 698 u w r 698 P :=
  xCall.of plX12 (Nat.le_of_ble_eq_true rfl) rfl (TX12_far_0  k)

/-! FuneralPostModel.act -/

theorem TX12_act_0 {g : xGT} {d : Nat} {u : xU} {w : xW} {r : xQ} {P : xPost}
    (k : ((u 655 63) = (40 : Int32) → xEv g d mX12_act 11 [some (.ref 655), some (.int (0 : Int32))] [] 698 u w r 698 P) ∧ (¬ ((u 655 63) = (40 : Int32)) → xEv g d mX12_act 49 [some (.ref 655), none] [] 698 u w r 698 P)) :
    xEv g d mX12_act 0 [some (.ref 655), none] [] 698 u w r 698 P := by
  refine xe_aload_n dX12_act_0 rfl ?_
  refine xe_getI dX12_act_1 flX12_414 kk655 (xKK_lt kk655) rfl ?_
  refine xe_bipush (v := 40) dX12_act_4 rfl ?_
  refine xe_icmp_ne (tgt := 49) dX12_act_6 rfl (fun c1 => ?_) (fun c2 => ?_)
  · have k := k.2 (fun q => (c1 q))
    exact k
  · have k := k.1 c2
    refine xe_iconst (v := 0) dX12_act_9 rfl ?_
    refine xe_istore_n (ls' := [some (.ref 655), some (.int (0 : Int32))]) dX12_act_10 rfl (by decide) rfl ?_
    exact k

theorem CX12_act {g : xGT} {d : Nat} {u : xU} {w : xW} {r : xQ} {P : xPost}
    (k : ((u 655 63) = (40 : Int32) → xEv g d mX12_act 11 [some (.ref 655), some (.int (0 : Int32))] [] 698 u w r 698 P) ∧ (¬ ((u 655 63) = (40 : Int32)) → xEv g d mX12_act 49 [some (.ref 655), none] [] 698 u w r 698 P)) :
    xCall g d mX12_act [.ref 655] 698 u w r 698 P :=
  xCall.of plX12 (Nat.le_of_ble_eq_true rfl) rfl (TX12_act_0  k)

theorem TX12_act_11 {g : xGT} {d : Nat} {i1 : Int32} {u : xU} {w : xW} {r : xQ} {P : xPost} (hr : xRf r)
    (k : ((3588 : Int32) ≤ i1 → xEv g d mX12_act 49 [some (.ref 655), none] [] 698 (x2 u 655 63 ((u 655 63) - (1 : Int32))) w r 698 P) ∧ (¬ ((3588 : Int32) ≤ i1) → vp_in ((92 : Int32) + i1) 3680 ∧ (vp_in i1 3680 ∧ (xEv g d mX12_act 11 [some (.ref 655), some (.int (i1 + (1 : Int32)))] [] 698 (x2 u 687 i1.toNatClampNeg (u 687 ((92 : Int32) + i1).toNatClampNeg)) w r 698 P)))) :
    xEv g d mX12_act 11 [some (.ref 655), some (.int i1)] [] 698 u w r 698 P := by
  refine xe_iload_n dX12_act_11 rfl ?_
  refine xe_sipush (v := 3588) dX12_act_12 rfl ?_
  refine xe_icmp_ge (tgt := 39) dX12_act_15 rfl (fun c3 => ?_) (fun c4 => ?_)
  · have k := k.1 c3
    refine xe_aload_n dX12_act_39 rfl ?_
    refine xe_dup dX12_act_40 rfl ?_
    refine xe_getI dX12_act_41 flX12_414 kk655 (xKK_lt kk655) rfl ?_
    refine xe_iconst (v := 1) dX12_act_44 rfl ?_
    refine xe_isub dX12_act_45 ?_
    refine xe_putI dX12_act_46 flX12_414 kk655 (xKK_lt kk655) nf12_63 rfl ?_
    exact xEv.fewer (ls' := [some (.ref 655), none]) k (xfw_get (xfw_s (xfw_n (xfw_nil _))))
  · have k := k.2 (fun q => (c4 q))
    refine xe_aload_n dX12_act_18 rfl ?_
    refine xe_getR (b := 687) dX12_act_19 flX12_111 kk655 (xKK_lt kk655) rfl (rf655_62 hr) ?_
    refine xe_iload_n dX12_act_22 rfl ?_
    refine xe_aload_n dX12_act_23 rfl ?_
    refine xe_getR (b := 687) dX12_act_24 flX12_111 kk655 (xKK_lt kk655) rfl (rf655_62 hr) ?_
    refine xe_bipush (v := 92) dX12_act_27 rfl ?_
    refine xe_iload_n dX12_act_29 rfl ?_
    refine xe_iadd dX12_act_30 ?_
    obtain ⟨b5, k⟩ := k
    refine xe_iald dX12_act_31 kk687 (xKK_lt kk687) b5 ?_
    obtain ⟨b6, k⟩ := k
    refine xe_iast dX12_act_32 kk687 (xKK_lt kk687) b6 ?_
    refine xe_iinc (v := (i1 + (1 : Int32))) (ls' := [some (.ref 655), some (.int (i1 + (1 : Int32)))]) dX12_act_33 rfl (by decide) rfl rfl ?_
    refine xe_goto (tgt := 11) dX12_act_36 rfl ?_
    exact k

theorem TX12_act_49 {g : xGT} {d : Nat} {u : xU} {w : xW} {r : xQ} {P : xPost}
    (k : xEv g d mX12_act 51 [some (.ref 655), some (.int (0 : Int32))] [] 698 u w r 698 P) :
    xEv g d mX12_act 49 [some (.ref 655), none] [] 698 u w r 698 P := by
  refine xe_iconst (v := 0) dX12_act_49 rfl ?_
  refine xe_istore_n (ls' := [some (.ref 655), some (.int (0 : Int32))]) dX12_act_50 rfl (by decide) rfl ?_
  exact k

theorem TX12_act_51 {g : xGT} {d : Nat} {i1 : Int32} {u : xU} {w : xW} {r : xQ} {P : xPost} (hr : xRf r)
    (k : ((91 : Int32) ≤ i1 → P none (x2 (x2 u 655 63 ((u 655 63) + (1 : Int32))) 655 64 (0 : Int32)) w r) ∧ (¬ ((91 : Int32) ≤ i1) → vp_in i1 92 ∧ (vp_in (((92 : Int32) * (u 655 63)) + i1) 3680 ∧ (xEv g d mX12_act 51 [some (.ref 655), some (.int (i1 + (1 : Int32)))] [] 698 (x2 u 687 (((92 : Int32) * (u 655 63)) + i1).toNatClampNeg (u 683 i1.toNatClampNeg)) w r 698 P)))) :
    xEv g d mX12_act 51 [some (.ref 655), some (.int i1)] [] 698 u w r 698 P := by
  refine xe_iload_n dX12_act_51 rfl ?_
  refine xe_bipush (v := 91) dX12_act_52 rfl ?_
  refine xe_icmp_ge (tgt := 83) dX12_act_54 rfl (fun c7 => ?_) (fun c8 => ?_)
  · have k := k.1 c7
    refine xe_aload_n dX12_act_83 rfl ?_
    refine xe_dup dX12_act_84 rfl ?_
    refine xe_getI dX12_act_85 flX12_414 kk655 (xKK_lt kk655) rfl ?_
    refine xe_iconst (v := 1) dX12_act_88 rfl ?_
    refine xe_iadd dX12_act_89 ?_
    refine xe_putI dX12_act_90 flX12_414 kk655 (xKK_lt kk655) nf12_63 rfl ?_
    refine xe_aload_n dX12_act_93 rfl ?_
    refine xe_iconst (v := 0) dX12_act_94 rfl ?_
    refine xe_putI dX12_act_95 flX12_417 kk655 (xKK_lt kk655) nf12_64 rfl ?_
    exact xe_return dX12_act_98 trivial k
  · have k := k.2 (fun q => (c8 q))
    refine xe_aload_n dX12_act_57 rfl ?_
    refine xe_getR (b := 687) dX12_act_58 flX12_111 kk655 (xKK_lt kk655) rfl (rf655_62 hr) ?_
    refine xe_bipush (v := 92) dX12_act_61 rfl ?_
    refine xe_aload_n dX12_act_63 rfl ?_
    refine xe_getI dX12_act_64 flX12_414 kk655 (xKK_lt kk655) rfl ?_
    refine xe_imul dX12_act_67 ?_
    refine xe_iload_n dX12_act_68 rfl ?_
    refine xe_iadd dX12_act_69 ?_
    refine xe_aload_n dX12_act_70 rfl ?_
    refine xe_getR (b := 683) dX12_act_71 flX12_99 kk655 (xKK_lt kk655) rfl (rf655_57 hr) ?_
    refine xe_iload_n dX12_act_74 rfl ?_
    obtain ⟨b9, k⟩ := k
    refine xe_iald dX12_act_75 kk683 (xKK_lt kk683) b9 ?_
    obtain ⟨b10, k⟩ := k
    refine xe_iast dX12_act_76 kk687 (xKK_lt kk687) b10 ?_
    refine xe_iinc (v := (i1 + (1 : Int32))) (ls' := [some (.ref 655), some (.int (i1 + (1 : Int32)))]) dX12_act_77 rfl (by decide) rfl rfl ?_
    refine xe_goto (tgt := 51) dX12_act_80 rfl ?_
    exact k

/-! FuneralPostModel.exchange -/

theorem TX12_exchange_0 {g : xGT} {d : Nat} {i1 : Int32} {u : xU} {w : xW} {r : xQ} {P : xPost}
    (k : xEv g d mX12_exchange 2 [some (.ref 655), some (.int i1), some (.int (0 : Int32)), none] [] 698 u w r 698 P) :
    xEv g d mX12_exchange 0 [some (.ref 655), some (.int i1), none, none] [] 698 u w r 698 P := by
  refine xe_iconst (v := 0) dX12_exchange_0 rfl ?_
  refine xe_istore_n (ls' := [some (.ref 655), some (.int i1), some (.int (0 : Int32)), none]) dX12_exchange_1 rfl (by decide) rfl ?_
  exact k

theorem CX12_exchange {g : xGT} {d : Nat} {i1 : Int32} {u : xU} {w : xW} {r : xQ} {P : xPost}
    (k : xEv g d mX12_exchange 2 [some (.ref 655), some (.int i1), some (.int (0 : Int32)), none] [] 698 u w r 698 P) :
    xCall g d mX12_exchange [.ref 655, .int i1] 698 u w r 698 P :=
  xCall.of plX12 (Nat.le_of_ble_eq_true rfl) rfl (TX12_exchange_0  k)

theorem TX12_exchange_2 {g : xGT} {d : Nat} {i1 i2 : Int32} {u : xU} {w : xW} {r : xQ} {P : xPost} (hr : xRf r)
    (k : ((91 : Int32) ≤ i2 → P none u w r) ∧ (¬ ((91 : Int32) ≤ i2) → vp_in (i1 + i2) 3680 ∧ (vp_in i2 92 ∧ (xEv g d mX12_exchange 2 [some (.ref 655), some (.int i1), some (.int (i2 + (1 : Int32))), none] [] 698 (x2 (x2 u 687 (i1 + i2).toNatClampNeg (u 683 i2.toNatClampNeg)) 683 i2.toNatClampNeg (u 687 (i1 + i2).toNatClampNeg)) w r 698 P)))) :
    xEv g d mX12_exchange 2 [some (.ref 655), some (.int i1), some (.int i2), none] [] 698 u w r 698 P := by
  refine xe_iload_n dX12_exchange_2 rfl ?_
  refine xe_bipush (v := 91) dX12_exchange_3 rfl ?_
  refine xe_icmp_ge (tgt := 44) dX12_exchange_5 rfl (fun c1 => ?_) (fun c2 => ?_)
  · have k := k.1 c1
    exact xe_return dX12_exchange_44 trivial k
  · have k := k.2 (fun q => (c2 q))
    refine xe_aload_n dX12_exchange_8 rfl ?_
    refine xe_getR (b := 687) dX12_exchange_9 flX12_111 kk655 (xKK_lt kk655) rfl (rf655_62 hr) ?_
    refine xe_iload_n dX12_exchange_12 rfl ?_
    refine xe_iload_n dX12_exchange_13 rfl ?_
    refine xe_iadd dX12_exchange_14 ?_
    obtain ⟨b3, k⟩ := k
    refine xe_iald dX12_exchange_15 kk687 (xKK_lt kk687) b3 ?_
    refine xe_istore_n (ls' := [some (.ref 655), some (.int i1), some (.int i2), some (.int (u 687 (i1 + i2).toNatClampNeg))]) dX12_exchange_16 rfl (by decide) rfl ?_
    refine xe_aload_n dX12_exchange_17 rfl ?_
    refine xe_getR (b := 687) dX12_exchange_18 flX12_111 kk655 (xKK_lt kk655) rfl (rf655_62 hr) ?_
    refine xe_iload_n dX12_exchange_21 rfl ?_
    refine xe_iload_n dX12_exchange_22 rfl ?_
    refine xe_iadd dX12_exchange_23 ?_
    refine xe_aload_n dX12_exchange_24 rfl ?_
    refine xe_getR (b := 683) dX12_exchange_25 flX12_99 kk655 (xKK_lt kk655) rfl (rf655_57 hr) ?_
    refine xe_iload_n dX12_exchange_28 rfl ?_
    obtain ⟨b4, k⟩ := k
    refine xe_iald dX12_exchange_29 kk683 (xKK_lt kk683) b4 ?_
    refine xe_iast dX12_exchange_30 kk687 (xKK_lt kk687) b3 ?_
    refine xe_aload_n dX12_exchange_31 rfl ?_
    refine xe_getR (b := 683) dX12_exchange_32 flX12_99 kk655 (xKK_lt kk655) rfl (rf655_57 hr) ?_
    refine xe_iload_n dX12_exchange_35 rfl ?_
    refine xe_iload_n dX12_exchange_36 rfl ?_
    refine xe_iast dX12_exchange_37 kk683 (xKK_lt kk683) b4 ?_
    refine xe_iinc (v := (i2 + (1 : Int32))) (ls' := [some (.ref 655), some (.int i1), some (.int (i2 + (1 : Int32))), some (.int (u 687 (i1 + i2).toNatClampNeg))]) dX12_exchange_38 rfl (by decide) rfl rfl ?_
    refine xe_goto (tgt := 2) dX12_exchange_41 rfl ?_
    exact xEv.fewer (ls' := [some (.ref 655), some (.int i1), some (.int (i2 + (1 : Int32))), none]) k (xfw_get (xfw_s (xfw_s (xfw_s (xfw_n (xfw_nil _))))))

/-! FuneralPostModel.keep -/

theorem TX12_keep_0 {g : xGT} {d : Nat} {u : xU} {w : xW} {r : xQ} {P : xPost}
    (k : xEv g d mX12_keep 2 [some (.ref 655), some (.int (0 : Int32))] [] 698 u w r 698 P) :
    xEv g d mX12_keep 0 [some (.ref 655), none] [] 698 u w r 698 P := by
  refine xe_iconst (v := 0) dX12_keep_0 rfl ?_
  refine xe_istore_n (ls' := [some (.ref 655), some (.int (0 : Int32))]) dX12_keep_1 rfl (by decide) rfl ?_
  exact k
