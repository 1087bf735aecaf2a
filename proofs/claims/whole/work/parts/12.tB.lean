/-! Course.goBy -/

theorem TX0_goBy_0 {g : xGT} {d : Nat} {s : Nat} {u : xU} {w : xW} {r : xQ} {P : xPost}
    (k : xCall g d mX0_arrive [.ref 52, .ref s] 698 u w r 698 (fun rv1 u1 w1 r1 => rv1 = none ∧ w = w1 ∧ r = r1 ∧ xCall g d mX0_bringHome [.ref s] 698 u1 w r 698 (fun rv2 u2 w2 r2 => ∃ v2 : Int32, rv2 = some (.int v2) ∧ w = w2 ∧ r = r2 ∧ xCall g d mX0_handOn [.ref 52, .ref s] 698 u2 w r 698 (fun rv3 u3 w3 r3 => rv3 = none ∧ w = w3 ∧ r = r3 ∧ xCall g d mX0_depart [.ref 52, .ref s] 698 u3 w r 698 (fun rv4 u4 w4 r4 => rv4 = none ∧ w = w4 ∧ r = r4 ∧ P (some (.int v2)) u4 w r))))) :
    xEv g (d + 1) mX0_goBy 0 [some (.ref 52), some (.ref s), none] [] 698 u w r 698 P := by
  refine xe_aload_n dX0_goBy_0 rfl ?_
  refine xe_aload_n dX0_goBy_1 rfl ?_
  refine xe_callV (args := [.ref s]) dX0_goBy_2 vlX0_22 rfl rfl (Nat.le_of_ble_eq_true rfl) kk52 (xKK_lt kk52) rfl rfl k (Nat.le_refl _) (fun rv1 u1 w1 r1 k => ?_)
  obtain ⟨rfl, rfl, rfl, k⟩ := k
  refine xe_aload_n dX0_goBy_5 rfl ?_
  refine xe_callS (args := [.ref s]) dX0_goBy_6 slX0_26 rfl rfl (Nat.le_of_ble_eq_true rfl) k (Nat.le_refl _) (fun rv2 u2 w2 r2 k => ?_)
  obtain ⟨v2, rfl, rfl, rfl, k⟩ := k
  refine xe_istore_n (ls' := [some (.ref 52), some (.ref s), some (.int v2)]) dX0_goBy_9 rfl (by decide) rfl ?_
  refine xe_aload_n dX0_goBy_10 rfl ?_
  refine xe_aload_n dX0_goBy_11 rfl ?_
  refine xe_callV (args := [.ref s]) dX0_goBy_12 vlX0_30 rfl rfl (Nat.le_of_ble_eq_true rfl) kk52 (xKK_lt kk52) rfl rfl k (Nat.le_refl _) (fun rv3 u3 w3 r3 k => ?_)
  obtain ⟨rfl, rfl, rfl, k⟩ := k
  refine xe_aload_n dX0_goBy_15 rfl ?_
  refine xe_aload_n dX0_goBy_16 rfl ?_
  refine xe_callV (args := [.ref s]) dX0_goBy_17 vlX0_33 rfl rfl (Nat.le_of_ble_eq_true rfl) kk52 (xKK_lt kk52) rfl rfl k (Nat.le_refl _) (fun rv4 u4 w4 r4 k => ?_)
  obtain ⟨rfl, rfl, rfl, k⟩ := k
  refine xe_iload_n dX0_goBy_20 rfl ?_
  exact xe_ireturn dX0_goBy_21 rfl k

theorem CX0_goBy {g : xGT} {d : Nat} {s : Nat} {u : xU} {w : xW} {r : xQ} {P : xPost}
    (k : xCall g d mX0_arrive [.ref 52, .ref s] 698 u w r 698 (fun rv1 u1 w1 r1 => rv1 = none ∧ w = w1 ∧ r = r1 ∧ xCall g d mX0_bringHome [.ref s] 698 u1 w r 698 (fun rv2 u2 w2 r2 => ∃ v2 : Int32, rv2 = some (.int v2) ∧ w = w2 ∧ r = r2 ∧ xCall g d mX0_handOn [.ref 52, .ref s] 698 u2 w r 698 (fun rv3 u3 w3 r3 => rv3 = none ∧ w = w3 ∧ r = r3 ∧ xCall g d mX0_depart [.ref 52, .ref s] 698 u3 w r 698 (fun rv4 u4 w4 r4 => rv4 = none ∧ w = w4 ∧ r = r4 ∧ P (some (.int v2)) u4 w r))))) :
    xCall g (d + 1) mX0_goBy [.ref 52, .ref s] 698 u w r 698 P :=
  xCall.of plX0 (Nat.le_of_ble_eq_true rfl) rfl (TX0_goBy_0  k)

/-! Course.arrive -/

theorem TX0_arrive_0 {g : xGT} {d : Nat} {s : Nat} {u : xU} {w : xW} {r : xQ} {P : xPost}
    (k : xEv g (d + 1) mX0_arrive 2 [some (.ref 52), some (.ref s), some (.int (0 : Int32)), none, none, none] [] 698 u w r 698 P) :
    xEv g (d + 1) mX0_arrive 0 [some (.ref 52), some (.ref s), none, none, none, none] [] 698 u w r 698 P := by
  refine xe_iconst (v := 0) dX0_arrive_0 rfl ?_
  refine xe_istore_n (ls' := [some (.ref 52), some (.ref s), some (.int (0 : Int32)), none, none, none]) dX0_arrive_1 rfl (by decide) rfl ?_
  exact k

theorem CX0_arrive {g : xGT} {d : Nat} {s : Nat} {u : xU} {w : xW} {r : xQ} {P : xPost}
    (k : xEv g (d + 1) mX0_arrive 2 [some (.ref 52), some (.ref s), some (.int (0 : Int32)), none, none, none] [] 698 u w r 698 P) :
    xCall g (d + 1) mX0_arrive [.ref 52, .ref s] 698 u w r 698 P :=
  xCall.of plX0 (Nat.le_of_ble_eq_true rfl) rfl (TX0_arrive_0  k)

set_option maxRecDepth 20000 in
theorem TX0_arrive_2 {g : xGT} {d : Nat} {i2 : Int32} {s l : Nat} {u : xU} {w : xW} {r : xQ} {P : xPost} (h_s : xSt s) (q_s : xSr s r) (h_l : xLd l) (q_l : xLr l r) (hm_course : r 52 1 = some l)
    (k : ((u l 5) ≤ i2 → P none u w r) ∧ (¬ ((u l 5) ≤ i2) → vp_in i2 6 ∧ (((¬ ((xb ((u (s + 1) i2.toNatClampNeg) = 0 ∧ (u (l + 6) i2.toNatClampNeg) = (u s 0))) = 0) ∨ ¬ ((xb ((u (s + 1) i2.toNatClampNeg) = (2 : Int32) ∧ (u (s + 3) i2.toNatClampNeg) = (u s 0))) = 0)) → ((u (s + 2) i2.toNatClampNeg) = (u (l + 5) i2.toNatClampNeg) → xCall g d mX0_bury [.ref s, .int i2] 698 u w r 698 (fun rv18 u18 w18 r18 => rv18 = none ∧ w = w18 ∧ r = r18 ∧ xEv g (d + 1) mX0_arrive 132 [some (.ref 52), some (.ref s), some (.int i2), none, none, none] [] 698 u18 w r 698 P)) ∧ (¬ ((u (s + 2) i2.toNatClampNeg) = (u (l + 5) i2.toNatClampNeg)) → xCall g d mX0_stay [.ref 52, .ref s, .int i2] 698 (x2 u (s + 1) i2.toNatClampNeg (1 : Int32)) w r 698 (fun rv19 u19 w19 r19 => ∃ v19 : Int32, rv19 = some (.int v19) ∧ w = w19 ∧ r = r19 ∧ xEv g (d + 1) mX0_arrive 132 [some (.ref 52), some (.ref s), some (.int i2), none, none, none] [] 698 (x2 u19 (s + 3) i2.toNatClampNeg (((x2 u (s + 1) i2.toNatClampNeg (1 : Int32)) s 0) + v19)) w r 698 P))) ∧ (¬ (¬ ((xb ((u (s + 1) i2.toNatClampNeg) = 0 ∧ (u (l + 6) i2.toNatClampNeg) = (u s 0))) = 0) ∨ ¬ ((xb ((u (s + 1) i2.toNatClampNeg) = (2 : Int32) ∧ (u (s + 3) i2.toNatClampNeg) = (u s 0))) = 0)) → xEv g (d + 1) mX0_arrive 132 [some (.ref 52), some (.ref s), some (.int i2), none, none, none] [] 698 u w r 698 P)))) :
    xEv g (d + 1) mX0_arrive 2 [some (.ref 52), some (.ref s), some (.int i2), none, none, none] [] 698 u w r 698 P := by
  refine xe_iload_n dX0_arrive_2 rfl ?_
  refine xe_aload_n dX0_arrive_3 rfl ?_
  refine xe_getR (b := l) dX0_arrive_4 flX0_18 kk52 (xKK_lt kk52) rfl hm_course ?_
  refine xe_getI dX0_arrive_7 flX0_36 h_l.k0 (xKK_lt h_l.k0) rfl ?_
  refine xe_icmp_ge (tgt := 138) dX0_arrive_10 rfl (fun c1 => ?_) (fun c2 => ?_)
  · have k := k.1 c1
    exact xe_return dX0_arrive_138 trivial k
  · have k := k.2 (fun q => (c2 q))
    refine xe_aload_n dX0_arrive_13 rfl ?_
    refine xe_getR (b := (s + 1)) dX0_arrive_14 flX0_42 h_s.k0 (xKK_lt h_s.k0) rfl q_s.f3 ?_
    refine xe_iload_n dX0_arrive_17 rfl ?_
    obtain ⟨b3, k⟩ := k
    refine xe_iald dX0_arrive_18 h_s.k1 (xKK_lt h_s.k1) b3 ?_
    refine xe_istore_n (ls' := [some (.ref 52), some (.ref s), some (.int i2), some (.int (u (s + 1) i2.toNatClampNeg)), none, none]) dX0_arrive_19 rfl (by decide) rfl ?_
    refine xe_iload_n dX0_arrive_20 rfl ?_
    have K23 : xEv g (d + 1) mX0_arrive 45 [some (.ref 52), some (.ref s), some (.int i2), some (.int (u (s + 1) i2.toNatClampNeg)), none, none] [.int (xb ((u (s + 1) i2.toNatClampNeg) = 0 ∧ (u (l + 6) i2.toNatClampNeg) = (u s 0)))] 698 u w r 698 P := by
      refine xe_istore (ls' := [some (.ref 52), some (.ref s), some (.int i2), some (.int (u (s + 1) i2.toNatClampNeg)), some (.int (xb ((u (s + 1) i2.toNatClampNeg) = 0 ∧ (u (l + 6) i2.toNatClampNeg) = (u s 0)))), none]) dX0_arrive_45 (by decide) rfl ?_
      refine xe_iload_n dX0_arrive_47 rfl ?_
      refine xe_iconst (v := 2) dX0_arrive_48 rfl ?_
      have K22 : xEv g (d + 1) mX0_arrive 70 [some (.ref 52), some (.ref s), some (.int i2), some (.int (u (s + 1) i2.toNatClampNeg)), some (.int (xb ((u (s + 1) i2.toNatClampNeg) = 0 ∧ (u (l + 6) i2.toNatClampNeg) = (u s 0)))), none] [.int (xb ((u (s + 1) i2.toNatClampNeg) = (2 : Int32) ∧ (u (s + 3) i2.toNatClampNeg) = (u s 0)))] 698 u w r 698 P := by
        refine xe_istore (ls' := [some (.ref 52), some (.ref s), some (.int i2), some (.int (u (s + 1) i2.toNatClampNeg)), some (.int (xb ((u (s + 1) i2.toNatClampNeg) = 0 ∧ (u (l + 6) i2.toNatClampNeg) = (u s 0)))), some (.int (xb ((u (s + 1) i2.toNatClampNeg) = (2 : Int32) ∧ (u (s + 3) i2.toNatClampNeg) = (u s 0))))]) dX0_arrive_70 (by decide) rfl ?_
        refine xe_iload dX0_arrive_72 rfl ?_
        have K20 : (¬ ((xb ((u (s + 1) i2.toNatClampNeg) = 0 ∧ (u (l + 6) i2.toNatClampNeg) = (u s 0))) = 0) ∨ ¬ ((xb ((u (s + 1) i2.toNatClampNeg) = (2 : Int32) ∧ (u (s + 3) i2.toNatClampNeg) = (u s 0))) = 0)) → xEv g (d + 1) mX0_arrive 82 [some (.ref 52), some (.ref s), some (.int i2), some (.int (u (s + 1) i2.toNatClampNeg)), some (.int (xb ((u (s + 1) i2.toNatClampNeg) = 0 ∧ (u (l + 6) i2.toNatClampNeg) = (u s 0)))), some (.int (xb ((u (s + 1) i2.toNatClampNeg) = (2 : Int32) ∧ (u (s + 3) i2.toNatClampNeg) = (u s 0))))] [] 698 u w r 698 P := fun c21 => by
          have k := k.1 c21
          refine xe_aload_n dX0_arrive_82 rfl ?_
          refine xe_getR (b := (s + 2)) dX0_arrive_83 flX0_57 h_s.k0 (xKK_lt h_s.k0) rfl q_s.f4 ?_
          refine xe_iload_n dX0_arrive_86 rfl ?_
          refine xe_iald dX0_arrive_87 h_s.k2 (xKK_lt h_s.k2) b3 ?_
          refine xe_aload_n dX0_arrive_88 rfl ?_
          refine xe_getR (b := l) dX0_arrive_89 flX0_18 kk52 (xKK_lt kk52) rfl hm_course ?_
          refine xe_getR (b := (l + 5)) dX0_arrive_92 flX0_60 h_l.k0 (xKK_lt h_l.k0) rfl q_l.1.f7 ?_
          refine xe_iload_n dX0_arrive_95 rfl ?_
          refine xe_iald dX0_arrive_96 h_l.k5 (xKK_lt h_l.k5) b3 ?_
          refine xe_icmp_ne (tgt := 108) dX0_arrive_97 rfl (fun c16 => ?_) (fun c17 => ?_)
          · have k := k.2 (fun q => (c16 q))
            refine xe_aload_n dX0_arrive_108 rfl ?_
            refine xe_getR (b := (s + 1)) dX0_arrive_109 flX0_42 h_s.k0 (xKK_lt h_s.k0) rfl q_s.f3 ?_
            refine xe_iload_n dX0_arrive_112 rfl ?_
            refine xe_iconst (v := 1) dX0_arrive_113 rfl ?_
            refine xe_iast dX0_arrive_114 h_s.k1 (xKK_lt h_s.k1) b3 ?_
            refine xe_aload_n dX0_arrive_115 rfl ?_
            refine xe_getR (b := (s + 3)) dX0_arrive_116 flX0_54 h_s.k0 (xKK_lt h_s.k0) rfl q_s.f5 ?_
            refine xe_iload_n dX0_arrive_119 rfl ?_
            refine xe_aload_n dX0_arrive_120 rfl ?_
            refine xe_getI dX0_arrive_121 flX0_51 h_s.k0 (xKK_lt h_s.k0) rfl ?_
            refine xe_aload_n dX0_arrive_124 rfl ?_
            refine xe_aload_n dX0_arrive_125 rfl ?_
            refine xe_iload_n dX0_arrive_126 rfl ?_
            refine xe_callV (args := [.ref s, .int i2]) dX0_arrive_127 vlX0_67 rfl rfl (Nat.le_of_ble_eq_true rfl) kk52 (xKK_lt kk52) rfl rfl k (Nat.le_refl _) (fun rv19 u19 w19 r19 k => ?_)
            obtain ⟨v19, rfl, rfl, rfl, k⟩ := k
            refine xe_iadd dX0_arrive_130 ?_
            refine xe_iast dX0_arrive_131 h_s.k3 (xKK_lt h_s.k3) b3 ?_
            exact xEv.fewer (ls' := [some (.ref 52), some (.ref s), some (.int i2), none, none, none]) k (xfw_get (xfw_s (xfw_s (xfw_s (xfw_n (xfw_n (xfw_n (xfw_nil _))))))))
          · have k := k.1 c17
            refine xe_aload_n dX0_arrive_100 rfl ?_
            refine xe_iload_n dX0_arrive_101 rfl ?_
            refine xe_callS (args := [.ref s, .int i2]) dX0_arrive_102 slX0_63 rfl rfl (Nat.le_of_ble_eq_true rfl) k (Nat.le_refl _) (fun rv18 u18 w18 r18 k => ?_)
            obtain ⟨rfl, rfl, rfl, k⟩ := k
            refine xe_goto (tgt := 132) dX0_arrive_105 rfl ?_
            exact xEv.fewer (ls' := [some (.ref 52), some (.ref s), some (.int i2), none, none, none]) k (xfw_get (xfw_s (xfw_s (xfw_s (xfw_n (xfw_n (xfw_n (xfw_nil _))))))))
        refine xe_if_ne (tgt := 82) dX0_arrive_74 rfl (fun c12 => ?_) (fun c13 => ?_)
        · exact K20 (Or.inl c12)
        · refine xe_iload dX0_arrive_77 rfl ?_
          refine xe_if_eq (tgt := 132) dX0_arrive_79 rfl (fun c14 => ?_) (fun c15 => ?_)
          · have k := k.2 (fun q => (q.elim (fun z => (z c13)) (fun z => (z c14))))
            exact xEv.fewer (ls' := [some (.ref 52), some (.ref s), some (.int i2), none, none, none]) k (xfw_get (xfw_s (xfw_s (xfw_s (xfw_n (xfw_n (xfw_n (xfw_nil _))))))))
          · exact K20 (Or.inr c15)
      refine xe_icmp_ne (tgt := 69) dX0_arrive_49 rfl (fun c8 => ?_) (fun c9 => ?_)
      · refine xe_iconst (v := 0) dX0_arrive_69 rfl ?_
        exact xtop (xb_neg (show ¬ ((u (s + 1) i2.toNatClampNeg) = (2 : Int32) ∧ (u (s + 3) i2.toNatClampNeg) = (u s 0)) from (fun q => (c8 q.1)))) K22
      · refine xe_aload_n dX0_arrive_52 rfl ?_
        refine xe_getR (b := (s + 3)) dX0_arrive_53 flX0_54 h_s.k0 (xKK_lt h_s.k0) rfl q_s.f5 ?_
        refine xe_iload_n dX0_arrive_56 rfl ?_
        refine xe_iald dX0_arrive_57 h_s.k3 (xKK_lt h_s.k3) b3 ?_
        refine xe_aload_n dX0_arrive_58 rfl ?_
        refine xe_getI dX0_arrive_59 flX0_51 h_s.k0 (xKK_lt h_s.k0) rfl ?_
        refine xe_icmp_ne (tgt := 69) dX0_arrive_62 rfl (fun c10 => ?_) (fun c11 => ?_)
        · refine xe_iconst (v := 0) dX0_arrive_69 rfl ?_
          exact xtop (xb_neg (show ¬ ((u (s + 1) i2.toNatClampNeg) = (2 : Int32) ∧ (u (s + 3) i2.toNatClampNeg) = (u s 0)) from (fun q => (c10 q.2)))) K22
        · refine xe_iconst (v := 1) dX0_arrive_65 rfl ?_
          refine xe_goto (tgt := 70) dX0_arrive_66 rfl ?_
          exact xtop (xb_pos (show ((u (s + 1) i2.toNatClampNeg) = (2 : Int32) ∧ (u (s + 3) i2.toNatClampNeg) = (u s 0)) from ⟨c9, c11⟩)) K22
    refine xe_if_ne (tgt := 44) dX0_arrive_21 rfl (fun c4 => ?_) (fun c5 => ?_)
    · refine xe_iconst (v := 0) dX0_arrive_44 rfl ?_
      exact xtop (xb_neg (show ¬ ((u (s + 1) i2.toNatClampNeg) = 0 ∧ (u (l + 6) i2.toNatClampNeg) = (u s 0)) from (fun q => (c4 q.1)))) K23
    · refine xe_aload_n dX0_arrive_24 rfl ?_
      refine xe_getR (b := l) dX0_arrive_25 flX0_18 kk52 (xKK_lt kk52) rfl hm_course ?_
      refine xe_getR (b := (l + 6)) dX0_arrive_28 flX0_48 h_l.k0 (xKK_lt h_l.k0) rfl q_l.1.f8 ?_
      refine xe_iload_n dX0_arrive_31 rfl ?_
      refine xe_iald dX0_arrive_32 h_l.k6 (xKK_lt h_l.k6) b3 ?_
      refine xe_aload_n dX0_arrive_33 rfl ?_
      refine xe_getI dX0_arrive_34 flX0_51 h_s.k0 (xKK_lt h_s.k0) rfl ?_
      refine xe_icmp_ne (tgt := 44) dX0_arrive_37 rfl (fun c6 => ?_) (fun c7 => ?_)
      · refine xe_iconst (v := 0) dX0_arrive_44 rfl ?_
        exact xtop (xb_neg (show ¬ ((u (s + 1) i2.toNatClampNeg) = 0 ∧ (u (l + 6) i2.toNatClampNeg) = (u s 0)) from (fun q => (c6 q.2)))) K23
      · refine xe_iconst (v := 1) dX0_arrive_40 rfl ?_
        refine xe_goto (tgt := 45) dX0_arrive_41 rfl ?_
        exact xtop (xb_pos (show ((u (s + 1) i2.toNatClampNeg) = 0 ∧ (u (l + 6) i2.toNatClampNeg) = (u s 0)) from ⟨c5, c7⟩)) K23

theorem TX0_arrive_132 {g : xGT} {d : Nat} {i2 : Int32} {s : Nat} {u : xU} {w : xW} {r : xQ} {P : xPost}
    (k : xEv g (d + 1) mX0_arrive 2 [some (.ref 52), some (.ref s), some (.int (i2 + (1 : Int32))), none, none, none] [] 698 u w r 698 P) :
    xEv g (d + 1) mX0_arrive 132 [some (.ref 52), some (.ref s), some (.int i2), none, none, none] [] 698 u w r 698 P := by
  refine xe_iinc (v := (i2 + (1 : Int32))) (ls' := [some (.ref 52), some (.ref s), some (.int (i2 + (1 : Int32))), none, none, none]) dX0_arrive_132 rfl (by decide) rfl rfl ?_
  refine xe_goto (tgt := 2) dX0_arrive_135 rfl ?_
  exact k

/-! Course.depart -/

theorem TX0_depart_0 {g : xGT} {d : Nat} {s l : Nat} {u : xU} {w : xW} {r : xQ} {P : xPost} (h_s : xSt s) (h_l : xLd l) (hm_course : r 52 1 = some l)
    (k : xCall g d mX2_isWinter [.ref l, .int (u s 0)] 698 u w r 698 (fun rv1 u1 w1 r1 => ∃ v1 : Int32, rv1 = some (.int v1) ∧ u = u1 ∧ w = w1 ∧ r = r1 ∧ xEv g (d + 1) mX0_depart 14 [some (.ref 52), some (.ref s), some (.int v1), some (.int (0 : Int32)), none, none] [] 698 u w r 698 P)) :
    xEv g (d + 1) mX0_depart 0 [some (.ref 52), some (.ref s), none, none, none, none] [] 698 u w r 698 P := by
  refine xe_aload_n dX0_depart_0 rfl ?_
  refine xe_getR (b := l) dX0_depart_1 flX0_18 kk52 (xKK_lt kk52) rfl hm_course ?_
  refine xe_aload_n dX0_depart_4 rfl ?_
  refine xe_getI dX0_depart_5 flX0_51 h_s.k0 (xKK_lt h_s.k0) rfl ?_
  refine xe_callV (args := [.int (u s 0)]) dX0_depart_8 vlX0_71 rfl rfl (Nat.le_of_ble_eq_true rfl) h_l.k0 (xKK_lt h_l.k0) rfl rfl k (Nat.le_refl _) (fun rv1 u1 w1 r1 k => ?_)
  obtain ⟨v1, rfl, rfl, rfl, rfl, k⟩ := k
  refine xe_istore_n (ls' := [some (.ref 52), some (.ref s), some (.int v1), none, none, none]) dX0_depart_11 rfl (by decide) rfl ?_
  refine xe_iconst (v := 0) dX0_depart_12 rfl ?_
  refine xe_istore_n (ls' := [some (.ref 52), some (.ref s), some (.int v1), some (.int (0 : Int32)), none, none]) dX0_depart_13 rfl (by decide) rfl ?_
  exact k

theorem CX0_depart {g : xGT} {d : Nat} {s l : Nat} {u : xU} {w : xW} {r : xQ} {P : xPost} (h_s : xSt s) (h_l : xLd l) (hm_course : r 52 1 = some l)
    (k : xCall g d mX2_isWinter [.ref l, .int (u s 0)] 698 u w r 698 (fun rv1 u1 w1 r1 => ∃ v1 : Int32, rv1 = some (.int v1) ∧ u = u1 ∧ w = w1 ∧ r = r1 ∧ xEv g (d + 1) mX0_depart 14 [some (.ref 52), some (.ref s), some (.int v1), some (.int (0 : Int32)), none, none] [] 698 u w r 698 P)) :
    xCall g (d + 1) mX0_depart [.ref 52, .ref s] 698 u w r 698 P :=
  xCall.of plX0 (Nat.le_of_ble_eq_true rfl) rfl (TX0_depart_0 h_s h_l hm_course k)

set_option maxRecDepth 20000 in
theorem TX0_depart_14 {g : xGT} {d : Nat} {i2 i3 : Int32} {s l : Nat} {u : xU} {w : xW} {r : xQ} {P : xPost} (hr : xRf r) (h_s : xSt s) (q_s : xSr s r) (h_l : xLd l) (q_l : xLr l r) (hm_course : r 52 1 = some l)
    (k : ((u l 5) ≤ i3 → P none (x2 u s 0 ((u s 0) + (1 : Int32))) w r) ∧ (¬ ((u l 5) ≤ i3) → xCall g d mX9_standsIn [.ref s, .int i3] 698 u w r 698 (fun rv4 u4 w4 r4 => ∃ v4 : Int32, rv4 = some (.int v4) ∧ u = u4 ∧ w = w4 ∧ r = r4 ∧ vp_in i3 6 ∧ (xCall g d mX8_nextOf [.ref 53, .int v4, .int (u (l + 5) i3.toNatClampNeg)] 698 u w r 698 (fun rv6 u6 w6 r6 => ∃ v6 : Int32, rv6 = some (.int v6) ∧ u = u6 ∧ w = w6 ∧ r = r6 ∧ ((i2 = 0 ∧ (¬ (v6 = (-1 : Int32)) ∧ ¬ ((u s 0) < (u (s + 3) i3.toNatClampNeg)))) → xCall g d mX8_daysOfWay [.ref 53, .int v4, .int v6] 698 (x2 u (s + 1) i3.toNatClampNeg (2 : Int32)) w r 698 (fun rv13 u13 w13 r13 => ∃ v13 : Int32, rv13 = some (.int v13) ∧ (x2 u (s + 1) i3.toNatClampNeg (2 : Int32)) = u13 ∧ w = w13 ∧ r = r13 ∧ xEv g (d + 1) mX0_depart 112 [some (.ref 52), some (.ref s), some (.int i2), some (.int i3), none, none] [] 698 (x2 (x2 (x2 u (s + 1) i3.toNatClampNeg (2 : Int32)) (s + 3) i3.toNatClampNeg (((x2 u (s + 1) i3.toNatClampNeg (2 : Int32)) s 0) + v13)) (s + 2) i3.toNatClampNeg v6) w r 698 P)) ∧ (¬ (i2 = 0 ∧ (¬ (v6 = (-1 : Int32)) ∧ ¬ ((u s 0) < (u (s + 3) i3.toNatClampNeg)))) → xEv g (d + 1) mX0_depart 112 [some (.ref 52), some (.ref s), some (.int i2), some (.int i3), none, none] [] 698 u w r 698 P)))))) :
    xEv g (d + 1) mX0_depart 14 [some (.ref 52), some (.ref s), some (.int i2), some (.int i3), none, none] [] 698 u w r 698 P := by
  refine xe_iload_n dX0_depart_14 rfl ?_
  refine xe_aload_n dX0_depart_15 rfl ?_
  refine xe_getR (b := l) dX0_depart_16 flX0_18 kk52 (xKK_lt kk52) rfl hm_course ?_
  refine xe_getI dX0_depart_19 flX0_36 h_l.k0 (xKK_lt h_l.k0) rfl ?_
  refine xe_icmp_ge (tgt := 118) dX0_depart_22 rfl (fun c2 => ?_) (fun c3 => ?_)
  · have k := k.1 c2
    refine xe_aload_n dX0_depart_118 rfl ?_
    refine xe_dup dX0_depart_119 rfl ?_
    refine xe_getI dX0_depart_120 flX0_51 h_s.k0 (xKK_lt h_s.k0) rfl ?_
    refine xe_iconst (v := 1) dX0_depart_123 rfl ?_
    refine xe_iadd dX0_depart_124 ?_
    refine xe_putI dX0_depart_125 flX0_51 h_s.k0 (xKK_lt h_s.k0) nf9_0 rfl ?_
    exact xe_return dX0_depart_128 trivial k
  · have k := k.2 (fun q => (c3 q))
    refine xe_aload_n dX0_depart_25 rfl ?_
    refine xe_iload_n dX0_depart_26 rfl ?_
    refine xe_callV (args := [.int i3]) dX0_depart_27 vlX0_75 rfl rfl (Nat.le_of_ble_eq_true rfl) h_s.k0 (xKK_lt h_s.k0) rfl rfl k (Nat.le_refl _) (fun rv4 u4 w4 r4 k => ?_)
    obtain ⟨v4, rfl, rfl, rfl, rfl, k⟩ := k
    refine xe_istore (ls' := [some (.ref 52), some (.ref s), some (.int i2), some (.int i3), some (.int v4), none]) dX0_depart_30 (by decide) rfl ?_
    refine xe_aload_n dX0_depart_32 rfl ?_
    refine xe_getR (b := 53) dX0_depart_33 flX0_12 kk52 (xKK_lt kk52) rfl (rf52_0 hr) ?_
    refine xe_iload dX0_depart_36 rfl ?_
    refine xe_aload_n dX0_depart_38 rfl ?_
    refine xe_getR (b := l) dX0_depart_39 flX0_18 kk52 (xKK_lt kk52) rfl hm_course ?_
    refine xe_getR (b := (l + 5)) dX0_depart_42 flX0_60 h_l.k0 (xKK_lt h_l.k0) rfl q_l.1.f7 ?_
    refine xe_iload_n dX0_depart_45 rfl ?_
    obtain ⟨b5, k⟩ := k
    refine xe_iald dX0_depart_46 h_l.k5 (xKK_lt h_l.k5) b5 ?_
    refine xe_callV (args := [.int v4, .int (u (l + 5) i3.toNatClampNeg)]) dX0_depart_47 vlX0_79 rfl rfl (Nat.le_of_ble_eq_true rfl) kk53 (xKK_lt kk53) rfl rfl k (Nat.le_refl _) (fun rv6 u6 w6 r6 k => ?_)
    obtain ⟨v6, rfl, rfl, rfl, rfl, k⟩ := k
    refine xe_istore (ls' := [some (.ref 52), some (.ref s), some (.int i2), some (.int i3), some (.int v4), some (.int v6)]) dX0_depart_50 (by decide) rfl ?_
    refine xe_iload_n dX0_depart_52 rfl ?_
    have K14 : ¬ (i2 = 0 ∧ (¬ (v6 = (-1 : Int32)) ∧ ¬ ((u s 0) < (u (s + 3) i3.toNatClampNeg)))) → xEv g (d + 1) mX0_depart 112 [some (.ref 52), some (.ref s), some (.int i2), some (.int i3), some (.int v4), some (.int v6)] [] 698 u w r 698 P := fun c15 => by
      have k := k.2 c15
      exact xEv.fewer (ls' := [some (.ref 52), some (.ref s), some (.int i2), some (.int i3), none, none]) k (xfw_get (xfw_s (xfw_s (xfw_s (xfw_s (xfw_n (xfw_n (xfw_nil _))))))))
    refine xe_if_ne (tgt := 112) dX0_depart_53 rfl (fun c7 => ?_) (fun c8 => ?_)
    · exact K14 (fun q => (c7 q.1))
    · refine xe_iload dX0_depart_56 rfl ?_
      refine xe_iconst (v := -1) dX0_depart_58 rfl ?_
      refine xe_icmp_eq (tgt := 112) dX0_depart_59 rfl (fun c9 => ?_) (fun c10 => ?_)
      · exact K14 (fun q => (q.2.1 c9))
      · refine xe_aload_n dX0_depart_62 rfl ?_
        refine xe_getR (b := (s + 3)) dX0_depart_63 flX0_54 h_s.k0 (xKK_lt h_s.k0) rfl q_s.f5 ?_
        refine xe_iload_n dX0_depart_66 rfl ?_
        refine xe_iald dX0_depart_67 h_s.k3 (xKK_lt h_s.k3) b5 ?_
        refine xe_aload_n dX0_depart_68 rfl ?_
        refine xe_getI dX0_depart_69 flX0_51 h_s.k0 (xKK_lt h_s.k0) rfl ?_
        refine xe_icmp_gt (tgt := 112) dX0_depart_72 rfl (fun c11 => ?_) (fun c12 => ?_)
        · exact K14 (fun q => (q.2.2 c11))
        · have k := k.1 ⟨c8, ⟨c10, c12⟩⟩
          refine xe_aload_n dX0_depart_75 rfl ?_
          refine xe_getR (b := (s + 1)) dX0_depart_76 flX0_42 h_s.k0 (xKK_lt h_s.k0) rfl q_s.f3 ?_
          refine xe_iload_n dX0_depart_79 rfl ?_
          refine xe_iconst (v := 2) dX0_depart_80 rfl ?_
          refine xe_iast dX0_depart_81 h_s.k1 (xKK_lt h_s.k1) b5 ?_
          refine xe_aload_n dX0_depart_82 rfl ?_
          refine xe_getR (b := (s + 3)) dX0_depart_83 flX0_54 h_s.k0 (xKK_lt h_s.k0) rfl q_s.f5 ?_
          refine xe_iload_n dX0_depart_86 rfl ?_
          refine xe_aload_n dX0_depart_87 rfl ?_
          refine xe_getI dX0_depart_88 flX0_51 h_s.k0 (xKK_lt h_s.k0) rfl ?_
          refine xe_aload_n dX0_depart_91 rfl ?_
          refine xe_getR (b := 53) dX0_depart_92 flX0_12 kk52 (xKK_lt kk52) rfl (rf52_0 hr) ?_
          refine xe_iload dX0_depart_95 rfl ?_
          refine xe_iload dX0_depart_97 rfl ?_
          refine xe_callV (args := [.int v4, .int v6]) dX0_depart_99 vlX0_83 rfl rfl (Nat.le_of_ble_eq_true rfl) kk53 (xKK_lt kk53) rfl rfl k (Nat.le_refl _) (fun rv13 u13 w13 r13 k => ?_)
          obtain ⟨v13, rfl, rfl, rfl, rfl, k⟩ := k
          refine xe_iadd dX0_depart_102 ?_
          refine xe_iast dX0_depart_103 h_s.k3 (xKK_lt h_s.k3) b5 ?_
          refine xe_aload_n dX0_depart_104 rfl ?_
          refine xe_getR (b := (s + 2)) dX0_depart_105 flX0_57 h_s.k0 (xKK_lt h_s.k0) rfl q_s.f4 ?_
          refine xe_iload_n dX0_depart_108 rfl ?_
          refine xe_iload dX0_depart_109 rfl ?_
          refine xe_iast dX0_depart_111 h_s.k2 (xKK_lt h_s.k2) b5 ?_
          exact xEv.fewer (ls' := [some (.ref 52), some (.ref s), some (.int i2), some (.int i3), none, none]) k (xfw_get (xfw_s (xfw_s (xfw_s (xfw_s (xfw_n (xfw_n (xfw_nil _))))))))

theorem TX0_depart_112 {g : xGT} {d : Nat} {i2 i3 : Int32} {s : Nat} {u : xU} {w : xW} {r : xQ} {P : xPost}
    (k : xEv g (d + 1) mX0_depart 14 [some (.ref 52), some (.ref s), some (.int i2), some (.int (i3 + (1 : Int32))), none, none] [] 698 u w r 698 P) :
    xEv g (d + 1) mX0_depart 112 [some (.ref 52), some (.ref s), some (.int i2), some (.int i3), none, none] [] 698 u w r 698 P := by
  refine xe_iinc (v := (i3 + (1 : Int32))) (ls' := [some (.ref 52), some (.ref s), some (.int i2), some (.int (i3 + (1 : Int32))), none, none]) dX0_depart_112 rfl (by decide) rfl rfl ?_
  refine xe_goto (tgt := 14) dX0_depart_115 rfl ?_
  exact k

/-! Course.isStill -/

theorem TX0_isStill_0 {g : xGT} {d : Nat} {s : Nat} {u : xU} {w : xW} {r : xQ} {P : xPost}
    (k : xEv g (d + 1) mX0_isStill 2 [some (.ref 52), some (.ref s), some (.int (0 : Int32)), none, none] [] 698 u w r 698 P) :
    xEv g (d + 1) mX0_isStill 0 [some (.ref 52), some (.ref s), none, none, none] [] 698 u w r 698 P := by
  refine xe_iconst (v := 0) dX0_isStill_0 rfl ?_
  refine xe_istore_n (ls' := [some (.ref 52), some (.ref s), some (.int (0 : Int32)), none, none]) dX0_isStill_1 rfl (by decide) rfl ?_
  exact k

theorem CX0_isStill {g : xGT} {d : Nat} {s : Nat} {u : xU} {w : xW} {r : xQ} {P : xPost}
    (k : xEv g (d + 1) mX0_isStill 2 [some (.ref 52), some (.ref s), some (.int (0 : Int32)), none, none] [] 698 u w r 698 P) :
    xCall g (d + 1) mX0_isStill [.ref 52, .ref s] 698 u w r 698 P :=
  xCall.of plX0 (Nat.le_of_ble_eq_true rfl) rfl (TX0_isStill_0  k)

theorem TX0_isStill_2 {g : xGT} {d : Nat} {i2 : Int32} {s l : Nat} {u : xU} {w : xW} {r : xQ} {P : xPost} (hr : xRf r) (h_s : xSt s) (h_l : xLd l) (q_l : xLr l r) (hm_course : r 52 1 = some l)
    (k : ((u l 5) ≤ i2 → P (some (.int (1 : Int32))) u w r) ∧ (¬ ((u l 5) ≤ i2) → xCall g d mX9_standsIn [.ref s, .int i2] 698 u w r 698 (fun rv3 u3 w3 r3 => ∃ v3 : Int32, rv3 = some (.int v3) ∧ u = u3 ∧ w = w3 ∧ r = r3 ∧ (v3 = (-1 : Int32) → xEv g (d + 1) mX0_isStill 49 [some (.ref 52), some (.ref s), some (.int i2), none, none] [] 698 u w r 698 P) ∧ (¬ (v3 = (-1 : Int32)) → vp_in i2 6 ∧ (xCall g d mX8_nextOf [.ref 53, .int v3, .int (u (l + 5) i2.toNatClampNeg)] 698 u w r 698 (fun rv7 u7 w7 r7 => ∃ v7 : Int32, rv7 = some (.int v7) ∧ u = u7 ∧ w = w7 ∧ r = r7 ∧ (v7 = (-1 : Int32) → xEv g (d + 1) mX0_isStill 50 [some (.ref 52), some (.ref s), some (.int i2), none, none] [.int (1 : Int32)] 698 u w r 698 P) ∧ (¬ (v7 = (-1 : Int32)) → xEv g (d + 1) mX0_isStill 49 [some (.ref 52), some (.ref s), some (.int i2), none, none] [] 698 u w r 698 P))))))) :
    xEv g (d + 1) mX0_isStill 2 [some (.ref 52), some (.ref s), some (.int i2), none, none] [] 698 u w r 698 P := by
  refine xe_iload_n dX0_isStill_2 rfl ?_
  refine xe_aload_n dX0_isStill_3 rfl ?_
  refine xe_getR (b := l) dX0_isStill_4 flX0_18 kk52 (xKK_lt kk52) rfl hm_course ?_
  refine xe_getI dX0_isStill_7 flX0_36 h_l.k0 (xKK_lt h_l.k0) rfl ?_
  refine xe_icmp_ge (tgt := 75) dX0_isStill_10 rfl (fun c1 => ?_) (fun c2 => ?_)
  · have k := k.1 c1
    refine xe_iconst (v := 1) dX0_isStill_75 rfl ?_
    exact xe_ireturn dX0_isStill_76 (xrokZ (Or.inr rfl)) k
  · have k := k.2 (fun q => (c2 q))
    refine xe_aload_n dX0_isStill_13 rfl ?_
    refine xe_iload_n dX0_isStill_14 rfl ?_
    refine xe_callV (args := [.int i2]) dX0_isStill_15 vlX0_75 rfl rfl (Nat.le_of_ble_eq_true rfl) h_s.k0 (xKK_lt h_s.k0) rfl rfl k (Nat.le_refl _) (fun rv3 u3 w3 r3 k => ?_)
    obtain ⟨v3, rfl, rfl, rfl, rfl, k⟩ := k
    refine xe_istore_n (ls' := [some (.ref 52), some (.ref s), some (.int i2), some (.int v3), none]) dX0_isStill_18 rfl (by decide) rfl ?_
    refine xe_iload_n dX0_isStill_19 rfl ?_
    refine xe_iconst (v := -1) dX0_isStill_20 rfl ?_
    refine xe_icmp_eq (tgt := 49) dX0_isStill_21 rfl (fun c4 => ?_) (fun c5 => ?_)
    · have k := k.1 c4
      exact xEv.fewer (ls' := [some (.ref 52), some (.ref s), some (.int i2), none, none]) k (xfw_get (xfw_s (xfw_s (xfw_s (xfw_n (xfw_n (xfw_nil _)))))))
    · have k := k.2 (fun q => (c5 q))
      refine xe_aload_n dX0_isStill_24 rfl ?_
      refine xe_getR (b := 53) dX0_isStill_25 flX0_12 kk52 (xKK_lt kk52) rfl (rf52_0 hr) ?_
      refine xe_iload_n dX0_isStill_28 rfl ?_
      refine xe_aload_n dX0_isStill_29 rfl ?_
      refine xe_getR (b := l) dX0_isStill_30 flX0_18 kk52 (xKK_lt kk52) rfl hm_course ?_
      refine xe_getR (b := (l + 5)) dX0_isStill_33 flX0_60 h_l.k0 (xKK_lt h_l.k0) rfl q_l.1.f7 ?_
      refine xe_iload_n dX0_isStill_36 rfl ?_
      obtain ⟨b6, k⟩ := k
      refine xe_iald dX0_isStill_37 h_l.k5 (xKK_lt h_l.k5) b6 ?_
      refine xe_callV (args := [.int v3, .int (u (l + 5) i2.toNatClampNeg)]) dX0_isStill_38 vlX0_79 rfl rfl (Nat.le_of_ble_eq_true rfl) kk53 (xKK_lt kk53) rfl rfl k (Nat.le_refl _) (fun rv7 u7 w7 r7 k => ?_)
      obtain ⟨v7, rfl, rfl, rfl, rfl, k⟩ := k
      refine xe_iconst (v := -1) dX0_isStill_41 rfl ?_
      refine xe_icmp_ne (tgt := 49) dX0_isStill_42 rfl (fun c8 => ?_) (fun c9 => ?_)
      · have k := k.2 (fun q => (c8 q))
        exact xEv.fewer (ls' := [some (.ref 52), some (.ref s), some (.int i2), none, none]) k (xfw_get (xfw_s (xfw_s (xfw_s (xfw_n (xfw_n (xfw_nil _)))))))
      · have k := k.1 c9
        refine xe_iconst (v := 1) dX0_isStill_45 rfl ?_
        refine xe_goto (tgt := 50) dX0_isStill_46 rfl ?_
        exact xEv.fewer (ls' := [some (.ref 52), some (.ref s), some (.int i2), none, none]) k (xfw_get (xfw_s (xfw_s (xfw_s (xfw_n (xfw_n (xfw_nil _)))))))

theorem TX0_isStill_49 {g : xGT} {d : Nat} {i2 : Int32} {s : Nat} {u : xU} {w : xW} {r : xQ} {P : xPost}
    (k : xEv g (d + 1) mX0_isStill 50 [some (.ref 52), some (.ref s), some (.int i2), none, none] [.int (0 : Int32)] 698 u w r 698 P) :
    xEv g (d + 1) mX0_isStill 49 [some (.ref 52), some (.ref s), some (.int i2), none, none] [] 698 u w r 698 P := by
  refine xe_iconst (v := 0) dX0_isStill_49 rfl ?_
  exact k

theorem TX0_isStill_50 {g : xGT} {d : Nat} {i2 z0 : Int32} {s : Nat} {u : xU} {w : xW} {r : xQ} {P : xPost} (h_s : xSt s) (q_s : xSr s r)
    (k : vp_in i2 6 ∧ (((¬ ((u (s + 1) i2.toNatClampNeg) = (3 : Int32)) ∧ z0 = 0) → P (some (.int (0 : Int32))) u w r) ∧ (¬ (¬ ((u (s + 1) i2.toNatClampNeg) = (3 : Int32)) ∧ z0 = 0) → xEv g (d + 1) mX0_isStill 2 [some (.ref 52), some (.ref s), some (.int (i2 + (1 : Int32))), none, none] [] 698 u w r 698 P))) :
    xEv g (d + 1) mX0_isStill 50 [some (.ref 52), some (.ref s), some (.int i2), none, none] [.int z0] 698 u w r 698 P := by
  refine xe_istore (ls' := [some (.ref 52), some (.ref s), some (.int i2), none, some (.int z0)]) dX0_isStill_50 (by decide) rfl ?_
  refine xe_aload_n dX0_isStill_52 rfl ?_
  refine xe_getR (b := (s + 1)) dX0_isStill_53 flX0_42 h_s.k0 (xKK_lt h_s.k0) rfl q_s.f3 ?_
  refine xe_iload_n dX0_isStill_56 rfl ?_
  obtain ⟨b10, k⟩ := k
  refine xe_iald dX0_isStill_57 h_s.k1 (xKK_lt h_s.k1) b10 ?_
  refine xe_iconst (v := 3) dX0_isStill_58 rfl ?_
  have K15 : ¬ (¬ ((u (s + 1) i2.toNatClampNeg) = (3 : Int32)) ∧ z0 = 0) → xEv g (d + 1) mX0_isStill 69 [some (.ref 52), some (.ref s), some (.int i2), none, some (.int z0)] [] 698 u w r 698 P := fun c16 => by
    have k := k.2 c16
    refine xe_iinc (v := (i2 + (1 : Int32))) (ls' := [some (.ref 52), some (.ref s), some (.int (i2 + (1 : Int32))), none, some (.int z0)]) dX0_isStill_69 rfl (by decide) rfl rfl ?_
    refine xe_goto (tgt := 2) dX0_isStill_72 rfl ?_
    exact xEv.fewer (ls' := [some (.ref 52), some (.ref s), some (.int (i2 + (1 : Int32))), none, none]) k (xfw_get (xfw_s (xfw_s (xfw_s (xfw_n (xfw_n (xfw_nil _)))))))
  refine xe_icmp_eq (tgt := 69) dX0_isStill_59 rfl (fun c11 => ?_) (fun c12 => ?_)
  · exact K15 (fun q => (q.1 c11))
  · refine xe_iload dX0_isStill_62 rfl ?_
    refine xe_if_ne (tgt := 69) dX0_isStill_64 rfl (fun c13 => ?_) (fun c14 => ?_)
    · exact K15 (fun q => (c13 q.2))
    · have k := k.1 ⟨c12, c14⟩
      refine xe_iconst (v := 0) dX0_isStill_67 rfl ?_
      exact xe_ireturn dX0_isStill_68 (xrokZ (Or.inl rfl)) k

/-! Course.restOf -/

theorem TX0_restOf_0 {g : xGT} {d : Nat} {i2 : Int32} {s l : Nat} {u : xU} {w : xW} {r : xQ} {P : xPost} (hr : xRf r) (h_s : xSt s) (h_l : xLd l) (q_l : xLr l r) (hm_course : r 52 1 = some l)
    (k : xCall g d mX9_standsIn [.ref s, .int i2] 698 u w r 698 (fun rv1 u1 w1 r1 => ∃ v1 : Int32, rv1 = some (.int v1) ∧ u = u1 ∧ w = w1 ∧ r = r1 ∧ xCall g d mX11_cell [.ref (l + 5), .int i2] 698 u w r 698 (fun rv2 u2 w2 r2 => ∃ v2 : Int32, rv2 = some (.int v2) ∧ u = u2 ∧ w = w2 ∧ r = r2 ∧ xCall g d mX8_passed [.ref 53, .int v1, .int v2] 698 u w r 698 (fun rv3 u3 w3 r3 => ∃ v3 : Int32, rv3 = some (.int v3) ∧ u = u3 ∧ w = w3 ∧ r = r3 ∧ P (some (.int v3)) u w r)))) :
    xEv g (d + 1) mX0_restOf 0 [some (.ref 52), some (.ref s), some (.int i2)] [] 698 u w r 698 P := by
  refine xe_aload_n dX0_restOf_0 rfl ?_
  refine xe_getR (b := 53) dX0_restOf_1 flX0_12 kk52 (xKK_lt kk52) rfl (rf52_0 hr) ?_
  refine xe_aload_n dX0_restOf_4 rfl ?_
  refine xe_iload_n dX0_restOf_5 rfl ?_
  refine xe_callV (args := [.int i2]) dX0_restOf_6 vlX0_75 rfl rfl (Nat.le_of_ble_eq_true rfl) h_s.k0 (xKK_lt h_s.k0) rfl rfl k (Nat.le_refl _) (fun rv1 u1 w1 r1 k => ?_)
  obtain ⟨v1, rfl, rfl, rfl, rfl, k⟩ := k
  refine xe_aload_n dX0_restOf_9 rfl ?_
  refine xe_getR (b := l) dX0_restOf_10 flX0_18 kk52 (xKK_lt kk52) rfl hm_course ?_
  refine xe_getR (b := (l + 5)) dX0_restOf_13 flX0_60 h_l.k0 (xKK_lt h_l.k0) rfl q_l.1.f7 ?_
  refine xe_iload_n dX0_restOf_16 rfl ?_
  refine xe_callSN (args := [.ref (l + 5), .int i2]) dX0_restOf_17 snX0_86 rfl rfl (Nat.le_of_ble_eq_true rfl) k (Nat.le_refl _) (fun rv2 u2 w2 r2 k => ?_)
  obtain ⟨v2, rfl, rfl, rfl, rfl, k⟩ := k
  refine xe_callV (args := [.int v1, .int v2]) dX0_restOf_20 vlX0_90 rfl rfl (Nat.le_of_ble_eq_true rfl) kk53 (xKK_lt kk53) rfl rfl k (Nat.le_refl _) (fun rv3 u3 w3 r3 k => ?_)
  obtain ⟨v3, rfl, rfl, rfl, rfl, k⟩ := k
  exact xe_ireturn dX0_restOf_23 rfl k

theorem CX0_restOf {g : xGT} {d : Nat} {i2 : Int32} {s l : Nat} {u : xU} {w : xW} {r : xQ} {P : xPost} (hr : xRf r) (h_s : xSt s) (h_l : xLd l) (q_l : xLr l r) (hm_course : r 52 1 = some l)
    (k : xCall g d mX9_standsIn [.ref s, .int i2] 698 u w r 698 (fun rv1 u1 w1 r1 => ∃ v1 : Int32, rv1 = some (.int v1) ∧ u = u1 ∧ w = w1 ∧ r = r1 ∧ xCall g d mX11_cell [.ref (l + 5), .int i2] 698 u w r 698 (fun rv2 u2 w2 r2 => ∃ v2 : Int32, rv2 = some (.int v2) ∧ u = u2 ∧ w = w2 ∧ r = r2 ∧ xCall g d mX8_passed [.ref 53, .int v1, .int v2] 698 u w r 698 (fun rv3 u3 w3 r3 => ∃ v3 : Int32, rv3 = some (.int v3) ∧ u = u3 ∧ w = w3 ∧ r = r3 ∧ P (some (.int v3)) u w r)))) :
    xCall g (d + 1) mX0_restOf [.ref 52, .ref s, .int i2] 698 u w r 698 P :=
  xCall.of plX0 (Nat.le_of_ble_eq_true rfl) rfl (TX0_restOf_0 hr h_s h_l q_l hm_course k)

/-! Course.stay -/

theorem TX0_stay_0 {g : xGT} {d : Nat} {i2 : Int32} {s l : Nat} {u : xU} {w : xW} {r : xQ} {P : xPost} (hr : xRf r) (h_s : xSt s) (q_s : xSr s r) (h_l : xLd l) (q_l : xLr l r) (hm_course : r 52 1 = some l)
    (k : vp_in i2 6 ∧ (xCall g d mX8_distance [.ref 53, .int (u (s + 2) i2.toNatClampNeg), .int (u (l + 5) i2.toNatClampNeg)] 698 u w r 698 (fun rv2 u2 w2 r2 => ∃ v2 : Int32, rv2 = some (.int v2) ∧ u = u2 ∧ w = w2 ∧ r = r2 ∧ xCall g d mX8_waysAt [.ref 53, .int (u (s + 2) i2.toNatClampNeg)] 698 u w r 698 (fun rv3 u3 w3 r3 => ∃ v3 : Int32, rv3 = some (.int v3) ∧ u = u3 ∧ w = w3 ∧ r = r3 ∧ xCall g d mX1_value [.ref (l + 12), .int (u s 0), .int (u (l + 7) i2.toNatClampNeg), .int v3, .int v2] 698 u w r 698 (fun rv4 u4 w4 r4 => ∃ v4 : Int32, rv4 = some (.int v4) ∧ w = w4 ∧ r = r4 ∧ P (some (.int (if (0 : Int32) < (if v4 < (9 : Int32) then v4 else (9 : Int32)) then (if v4 < (9 : Int32) then v4 else (9 : Int32)) else (0 : Int32)))) u4 w r))))) :
    xEv g (d + 1) mX0_stay 0 [some (.ref 52), some (.ref s), some (.int i2), none, none, none] [] 698 u w r 698 P := by
  refine xe_aload_n dX0_stay_0 rfl ?_
  refine xe_getR (b := (s + 2)) dX0_stay_1 flX0_57 h_s.k0 (xKK_lt h_s.k0) rfl q_s.f4 ?_
  refine xe_iload_n dX0_stay_4 rfl ?_
  obtain ⟨b1, k⟩ := k
  refine xe_iald dX0_stay_5 h_s.k2 (xKK_lt h_s.k2) b1 ?_
  refine xe_istore_n (ls' := [some (.ref 52), some (.ref s), some (.int i2), some (.int (u (s + 2) i2.toNatClampNeg)), none, none]) dX0_stay_6 rfl (by decide) rfl ?_
  refine xe_aload_n dX0_stay_7 rfl ?_
  refine xe_getR (b := 53) dX0_stay_8 flX0_12 kk52 (xKK_lt kk52) rfl (rf52_0 hr) ?_
  refine xe_iload_n dX0_stay_11 rfl ?_
  refine xe_aload_n dX0_stay_12 rfl ?_
  refine xe_getR (b := l) dX0_stay_13 flX0_18 kk52 (xKK_lt kk52) rfl hm_course ?_
  refine xe_getR (b := (l + 5)) dX0_stay_16 flX0_60 h_l.k0 (xKK_lt h_l.k0) rfl q_l.1.f7 ?_
  refine xe_iload_n dX0_stay_19 rfl ?_
  refine xe_iald dX0_stay_20 h_l.k5 (xKK_lt h_l.k5) b1 ?_
  refine xe_callV (args := [.int (u (s + 2) i2.toNatClampNeg), .int (u (l + 5) i2.toNatClampNeg)]) dX0_stay_21 vlX0_93 rfl rfl (Nat.le_of_ble_eq_true rfl) kk53 (xKK_lt kk53) rfl rfl k (Nat.le_refl _) (fun rv2 u2 w2 r2 k => ?_)
  obtain ⟨v2, rfl, rfl, rfl, rfl, k⟩ := k
  refine xe_istore (ls' := [some (.ref 52), some (.ref s), some (.int i2), some (.int (u (s + 2) i2.toNatClampNeg)), some (.int v2), none]) dX0_stay_24 (by decide) rfl ?_
  refine xe_aload_n dX0_stay_26 rfl ?_
  refine xe_getR (b := l) dX0_stay_27 flX0_18 kk52 (xKK_lt kk52) rfl hm_course ?_
  refine xe_getR (b := (l + 12)) dX0_stay_30 flX0_96 h_l.k0 (xKK_lt h_l.k0) rfl q_l.1.f17 ?_
  refine xe_aload_n dX0_stay_33 rfl ?_
  refine xe_getI dX0_stay_34 flX0_51 h_s.k0 (xKK_lt h_s.k0) rfl ?_
  refine xe_aload_n dX0_stay_37 rfl ?_
  refine xe_getR (b := l) dX0_stay_38 flX0_18 kk52 (xKK_lt kk52) rfl hm_course ?_
  refine xe_getR (b := (l + 7)) dX0_stay_41 flX0_100 h_l.k0 (xKK_lt h_l.k0) rfl q_l.1.f9 ?_
  refine xe_iload_n dX0_stay_44 rfl ?_
  refine xe_iald dX0_stay_45 h_l.k7 (xKK_lt h_l.k7) b1 ?_
  refine xe_aload_n dX0_stay_46 rfl ?_
  refine xe_getR (b := 53) dX0_stay_47 flX0_12 kk52 (xKK_lt kk52) rfl (rf52_0 hr) ?_
  refine xe_iload_n dX0_stay_50 rfl ?_
  refine xe_callV (args := [.int (u (s + 2) i2.toNatClampNeg)]) dX0_stay_51 vlX0_103 rfl rfl (Nat.le_of_ble_eq_true rfl) kk53 (xKK_lt kk53) rfl rfl k (Nat.le_refl _) (fun rv3 u3 w3 r3 k => ?_)
  obtain ⟨v3, rfl, rfl, rfl, rfl, k⟩ := k
  refine xe_iload dX0_stay_54 rfl ?_
  refine xe_callV (args := [.int (u s 0), .int (u (l + 7) i2.toNatClampNeg), .int v3, .int v2]) dX0_stay_56 vlX0_106 rfl rfl (Nat.le_of_ble_eq_true rfl) h_l.fm.k0 (xKK_lt h_l.fm.k0) rfl rfl k (Nat.le_refl _) (fun rv4 u4 w4 r4 k => ?_)
  obtain ⟨v4, rfl, rfl, rfl, k⟩ := k
  refine xe_istore (ls' := [some (.ref 52), some (.ref s), some (.int i2), some (.int (u (s + 2) i2.toNatClampNeg)), some (.int v2), some (.int v4)]) dX0_stay_59 (by decide) rfl ?_
  refine xe_iconst (v := 0) dX0_stay_61 rfl ?_
  refine xe_bipush (v := 9) dX0_stay_62 rfl ?_
  refine xe_iload dX0_stay_64 rfl ?_
  refine xe_mmin dX0_stay_66 mlX0_112 (Nat.le_of_ble_eq_true rfl) ?_
  refine xe_mmax dX0_stay_69 mlX0_117 (Nat.le_of_ble_eq_true rfl) ?_
  exact xe_ireturn dX0_stay_72 rfl k

theorem CX0_stay {g : xGT} {d : Nat} {i2 : Int32} {s l : Nat} {u : xU} {w : xW} {r : xQ} {P : xPost} (hr : xRf r) (h_s : xSt s) (q_s : xSr s r) (h_l : xLd l) (q_l : xLr l r) (hm_course : r 52 1 = some l)
    (k : vp_in i2 6 ∧ (xCall g d mX8_distance [.ref 53, .int (u (s + 2) i2.toNatClampNeg), .int (u (l + 5) i2.toNatClampNeg)] 698 u w r 698 (fun rv2 u2 w2 r2 => ∃ v2 : Int32, rv2 = some (.int v2) ∧ u = u2 ∧ w = w2 ∧ r = r2 ∧ xCall g d mX8_waysAt [.ref 53, .int (u (s + 2) i2.toNatClampNeg)] 698 u w r 698 (fun rv3 u3 w3 r3 => ∃ v3 : Int32, rv3 = some (.int v3) ∧ u = u3 ∧ w = w3 ∧ r = r3 ∧ xCall g d mX1_value [.ref (l + 12), .int (u s 0), .int (u (l + 7) i2.toNatClampNeg), .int v3, .int v2] 698 u w r 698 (fun rv4 u4 w4 r4 => ∃ v4 : Int32, rv4 = some (.int v4) ∧ w = w4 ∧ r = r4 ∧ P (some (.int (if (0 : Int32) < (if v4 < (9 : Int32) then v4 else (9 : Int32)) then (if v4 < (9 : Int32) then v4 else (9 : Int32)) else (0 : Int32)))) u4 w r))))) :
    xCall g (d + 1) mX0_stay [.ref 52, .ref s, .int i2] 698 u w r 698 P :=
  xCall.of plX0 (Nat.le_of_ble_eq_true rfl) rfl (TX0_stay_0 hr h_s q_s h_l q_l hm_course k)

/-! Course.bury -/

theorem TX0_bury_0 {g : xGT} {d : Nat} {i1 : Int32} {s : Nat} {u : xU} {w : xW} {r : xQ} {P : xPost} (h_s : xSt s) (q_s : xSr s r)
    (k : vp_in i1 6 ∧ (xEv g (d + 1) mX0_bury 19 [some (.ref s), some (.int i1), some (.int (0 : Int32))] [] 698 (x2 (x2 u (s + 1) i1.toNatClampNeg (3 : Int32)) (s + 3) i1.toNatClampNeg ((x2 u (s + 1) i1.toNatClampNeg (3 : Int32)) s 0)) w r 698 P)) :
    xEv g (d + 1) mX0_bury 0 [some (.ref s), some (.int i1), none] [] 698 u w r 698 P := by
  refine xe_aload_n dX0_bury_0 rfl ?_
  refine xe_getR (b := (s + 1)) dX0_bury_1 flX0_42 h_s.k0 (xKK_lt h_s.k0) rfl q_s.f3 ?_
  refine xe_iload_n dX0_bury_4 rfl ?_
  refine xe_iconst (v := 3) dX0_bury_5 rfl ?_
  obtain ⟨b1, k⟩ := k
  refine xe_iast dX0_bury_6 h_s.k1 (xKK_lt h_s.k1) b1 ?_
  refine xe_aload_n dX0_bury_7 rfl ?_
  refine xe_getR (b := (s + 3)) dX0_bury_8 flX0_54 h_s.k0 (xKK_lt h_s.k0) rfl q_s.f5 ?_
  refine xe_iload_n dX0_bury_11 rfl ?_
  refine xe_aload_n dX0_bury_12 rfl ?_
  refine xe_getI dX0_bury_13 flX0_51 h_s.k0 (xKK_lt h_s.k0) rfl ?_
  refine xe_iast dX0_bury_16 h_s.k3 (xKK_lt h_s.k3) b1 ?_
  refine xe_iconst (v := 0) dX0_bury_17 rfl ?_
  refine xe_istore_n (ls' := [some (.ref s), some (.int i1), some (.int (0 : Int32))]) dX0_bury_18 rfl (by decide) rfl ?_
  exact k

theorem CX0_bury {g : xGT} {d : Nat} {i1 : Int32} {s : Nat} {u : xU} {w : xW} {r : xQ} {P : xPost} (h_s : xSt s) (q_s : xSr s r)
    (k : vp_in i1 6 ∧ (xEv g (d + 1) mX0_bury 19 [some (.ref s), some (.int i1), some (.int (0 : Int32))] [] 698 (x2 (x2 u (s + 1) i1.toNatClampNeg (3 : Int32)) (s + 3) i1.toNatClampNeg ((x2 u (s + 1) i1.toNatClampNeg (3 : Int32)) s 0)) w r 698 P)) :
    xCall g (d + 1) mX0_bury [.ref s, .int i1] 698 u w r 698 P :=
  xCall.of plX0 (Nat.le_of_ble_eq_true rfl) rfl (TX0_bury_0 h_s q_s k)

theorem TX0_bury_19 {g : xGT} {d : Nat} {i1 i2 : Int32} {s : Nat} {u : xU} {w : xW} {r : xQ} {P : xPost} (h_s : xSt s) (q_s : xSr s r)
    (k : ((u s 2) ≤ i2 → P none u w r) ∧ (¬ ((u s 2) ≤ i2) → vp_in i2 10 ∧ (((u (s + 6) i2.toNatClampNeg) = i1 → vp_in i1 6 ∧ (xCall g d mX9_putInPile [.ref s, .int i2, .int (u (s + 2) i1.toNatClampNeg)] 698 u w r 698 (fun rv8 u8 w8 r8 => rv8 = none ∧ w = w8 ∧ r = r8 ∧ xEv g (d + 1) mX0_bury 48 [some (.ref s), some (.int i1), some (.int i2)] [] 698 u8 w r 698 P))) ∧ (¬ ((u (s + 6) i2.toNatClampNeg) = i1) → xEv g (d + 1) mX0_bury 48 [some (.ref s), some (.int i1), some (.int i2)] [] 698 u w r 698 P)))) :
    xEv g (d + 1) mX0_bury 19 [some (.ref s), some (.int i1), some (.int i2)] [] 698 u w r 698 P := by
  refine xe_iload_n dX0_bury_19 rfl ?_
  refine xe_aload_n dX0_bury_20 rfl ?_
  refine xe_getI dX0_bury_21 flX0_120 h_s.k0 (xKK_lt h_s.k0) rfl ?_
  refine xe_icmp_ge (tgt := 54) dX0_bury_24 rfl (fun c2 => ?_) (fun c3 => ?_)
  · have k := k.1 c2
    exact xe_return dX0_bury_54 trivial k
  · have k := k.2 (fun q => (c3 q))
    refine xe_aload_n dX0_bury_27 rfl ?_
    refine xe_getR (b := (s + 6)) dX0_bury_28 flX0_123 h_s.k0 (xKK_lt h_s.k0) rfl q_s.f8 ?_
    refine xe_iload_n dX0_bury_31 rfl ?_
    obtain ⟨b4, k⟩ := k
    refine xe_iald dX0_bury_32 h_s.k6 (xKK_lt h_s.k6) b4 ?_
    refine xe_iload_n dX0_bury_33 rfl ?_
    refine xe_icmp_ne (tgt := 48) dX0_bury_34 rfl (fun c5 => ?_) (fun c6 => ?_)
    · have k := k.2 (fun q => (c5 q))
      exact k
    · have k := k.1 c6
      refine xe_aload_n dX0_bury_37 rfl ?_
      refine xe_iload_n dX0_bury_38 rfl ?_
      refine xe_aload_n dX0_bury_39 rfl ?_
      refine xe_getR (b := (s + 2)) dX0_bury_40 flX0_57 h_s.k0 (xKK_lt h_s.k0) rfl q_s.f4 ?_
      refine xe_iload_n dX0_bury_43 rfl ?_
      obtain ⟨b7, k⟩ := k
      refine xe_iald dX0_bury_44 h_s.k2 (xKK_lt h_s.k2) b7 ?_
      refine xe_callV (args := [.int i2, .int (u (s + 2) i1.toNatClampNeg)]) dX0_bury_45 vlX0_126 rfl rfl (Nat.le_of_ble_eq_true rfl) h_s.k0 (xKK_lt h_s.k0) rfl rfl k (Nat.le_refl _) (fun rv8 u8 w8 r8 k => ?_)
      obtain ⟨rfl, rfl, rfl, k⟩ := k
      exact k

theorem TX0_bury_48 {g : xGT} {d : Nat} {i1 i2 : Int32} {s : Nat} {u : xU} {w : xW} {r : xQ} {P : xPost}
    (k : xEv g (d + 1) mX0_bury 19 [some (.ref s), some (.int i1), some (.int (i2 + (1 : Int32)))] [] 698 u w r 698 P) :
    xEv g (d + 1) mX0_bury 48 [some (.ref s), some (.int i1), some (.int i2)] [] 698 u w r 698 P := by
  refine xe_iinc (v := (i2 + (1 : Int32))) (ls' := [some (.ref s), some (.int i1), some (.int (i2 + (1 : Int32)))]) dX0_bury_48 rfl (by decide) rfl rfl ?_
  refine xe_goto (tgt := 19) dX0_bury_51 rfl ?_
  exact k

/-! Course.bringHome -/

theorem TX0_bringHome_0 {g : xGT} {d : Nat} {s : Nat} {u : xU} {w : xW} {r : xQ} {P : xPost}
    (k : xEv g (d + 1) mX0_bringHome 4 [some (.ref s), some (.int (0 : Int32)), some (.int (0 : Int32))] [] 698 u w r 698 P) :
    xEv g (d + 1) mX0_bringHome 0 [some (.ref s), none, none] [] 698 u w r 698 P := by
  refine xe_iconst (v := 0) dX0_bringHome_0 rfl ?_
  refine xe_istore_n (ls' := [some (.ref s), some (.int (0 : Int32)), none]) dX0_bringHome_1 rfl (by decide) rfl ?_
  refine xe_iconst (v := 0) dX0_bringHome_2 rfl ?_
  refine xe_istore_n (ls' := [some (.ref s), some (.int (0 : Int32)), some (.int (0 : Int32))]) dX0_bringHome_3 rfl (by decide) rfl ?_
  exact k

theorem CX0_bringHome {g : xGT} {d : Nat} {s : Nat} {u : xU} {w : xW} {r : xQ} {P : xPost}
    (k : xEv g (d + 1) mX0_bringHome 4 [some (.ref s), some (.int (0 : Int32)), some (.int (0 : Int32))] [] 698 u w r 698 P) :
    xCall g (d + 1) mX0_bringHome [.ref s] 698 u w r 698 P :=
  xCall.of plX0 (Nat.le_of_ble_eq_true rfl) rfl (TX0_bringHome_0  k)

theorem TX0_bringHome_4 {g : xGT} {d : Nat} {i1 i2 : Int32} {s : Nat} {u : xU} {w : xW} {r : xQ} {P : xPost} (h_s : xSt s) (q_s : xSr s r)
    (k : ((u s 2) ≤ i2 → P (some (.int i1)) u w r) ∧ (¬ ((u s 2) ≤ i2) → xCall g d mX9_spotOf [.ref s, .int i2] 698 u w r 698 (fun rv3 u3 w3 r3 => ∃ v3 : Int32, rv3 = some (.int v3) ∧ u = u3 ∧ w = w3 ∧ r = r3 ∧ vp_in i2 10 ∧ ((v3 = (u (s + 8) i2.toNatClampNeg) → xCall g d mX9_putHome [.ref s, .int i2] 698 u w r 698 (fun rv7 u7 w7 r7 => rv7 = none ∧ w = w7 ∧ r = r7 ∧ xEv g (d + 1) mX0_bringHome 34 [some (.ref s), some (.int (i1 + (1 : Int32))), some (.int i2)] [] 698 u7 w r 698 P)) ∧ (¬ (v3 = (u (s + 8) i2.toNatClampNeg)) → xEv g (d + 1) mX0_bringHome 34 [some (.ref s), some (.int i1), some (.int i2)] [] 698 u w r 698 P))))) :
    xEv g (d + 1) mX0_bringHome 4 [some (.ref s), some (.int i1), some (.int i2)] [] 698 u w r 698 P := by
  refine xe_iload_n dX0_bringHome_4 rfl ?_
  refine xe_aload_n dX0_bringHome_5 rfl ?_
  refine xe_getI dX0_bringHome_6 flX0_120 h_s.k0 (xKK_lt h_s.k0) rfl ?_
  refine xe_icmp_ge (tgt := 40) dX0_bringHome_9 rfl (fun c1 => ?_) (fun c2 => ?_)
  · have k := k.1 c1
    refine xe_iload_n dX0_bringHome_40 rfl ?_
    exact xe_ireturn dX0_bringHome_41 rfl k
  · have k := k.2 (fun q => (c2 q))
    refine xe_aload_n dX0_bringHome_12 rfl ?_
    refine xe_iload_n dX0_bringHome_13 rfl ?_
    refine xe_callV (args := [.int i2]) dX0_bringHome_14 vlX0_130 rfl rfl (Nat.le_of_ble_eq_true rfl) h_s.k0 (xKK_lt h_s.k0) rfl rfl k (Nat.le_refl _) (fun rv3 u3 w3 r3 k => ?_)
    obtain ⟨v3, rfl, rfl, rfl, rfl, k⟩ := k
    refine xe_aload_n dX0_bringHome_17 rfl ?_
    refine xe_getR (b := (s + 8)) dX0_bringHome_18 flX0_133 h_s.k0 (xKK_lt h_s.k0) rfl q_s.f10 ?_
    refine xe_iload_n dX0_bringHome_21 rfl ?_
    obtain ⟨b4, k⟩ := k
    refine xe_iald dX0_bringHome_22 h_s.k8 (xKK_lt h_s.k8) b4 ?_
    refine xe_icmp_ne (tgt := 34) dX0_bringHome_23 rfl (fun c5 => ?_) (fun c6 => ?_)
    · have k := k.2 (fun q => (c5 q))
      exact k
    · have k := k.1 c6
      refine xe_aload_n dX0_bringHome_26 rfl ?_
      refine xe_iload_n dX0_bringHome_27 rfl ?_
      refine xe_callV (args := [.int i2]) dX0_bringHome_28 vlX0_136 rfl rfl (Nat.le_of_ble_eq_true rfl) h_s.k0 (xKK_lt h_s.k0) rfl rfl k (Nat.le_refl _) (fun rv7 u7 w7 r7 k => ?_)
      obtain ⟨rfl, rfl, rfl, k⟩ := k
      refine xe_iinc (v := (i1 + (1 : Int32))) (ls' := [some (.ref s), some (.int (i1 + (1 : Int32))), some (.int i2)]) dX0_bringHome_31 rfl (by decide) rfl rfl ?_
      exact k

theorem TX0_bringHome_34 {g : xGT} {d : Nat} {i1 i2 : Int32} {s : Nat} {u : xU} {w : xW} {r : xQ} {P : xPost}
    (k : xEv g (d + 1) mX0_bringHome 4 [some (.ref s), some (.int i1), some (.int (i2 + (1 : Int32)))] [] 698 u w r 698 P) :
    xEv g (d + 1) mX0_bringHome 34 [some (.ref s), some (.int i1), some (.int i2)] [] 698 u w r 698 P := by
  refine xe_iinc (v := (i2 + (1 : Int32))) (ls' := [some (.ref s), some (.int i1), some (.int (i2 + (1 : Int32)))]) dX0_bringHome_34 rfl (by decide) rfl rfl ?_
  refine xe_goto (tgt := 4) dX0_bringHome_37 rfl ?_
  exact k

/-! Course.handOn -/

theorem TX0_handOn_0 {g : xGT} {d : Nat} {s : Nat} {u : xU} {w : xW} {r : xQ} {P : xPost}
    (k : xEv g (d + 1) mX0_handOn 2 [some (.ref 52), some (.ref s), some (.int (0 : Int32)), none, none] [] 698 u w r 698 P) :
    xEv g (d + 1) mX0_handOn 0 [some (.ref 52), some (.ref s), none, none, none] [] 698 u w r 698 P := by
  refine xe_iconst (v := 0) dX0_handOn_0 rfl ?_
  refine xe_istore_n (ls' := [some (.ref 52), some (.ref s), some (.int (0 : Int32)), none, none]) dX0_handOn_1 rfl (by decide) rfl ?_
  exact k

theorem CX0_handOn {g : xGT} {d : Nat} {s : Nat} {u : xU} {w : xW} {r : xQ} {P : xPost}
    (k : xEv g (d + 1) mX0_handOn 2 [some (.ref 52), some (.ref s), some (.int (0 : Int32)), none, none] [] 698 u w r 698 P) :
    xCall g (d + 1) mX0_handOn [.ref 52, .ref s] 698 u w r 698 P :=
  xCall.of plX0 (Nat.le_of_ble_eq_true rfl) rfl (TX0_handOn_0  k)

theorem TX0_handOn_2 {g : xGT} {d : Nat} {i2 : Int32} {s : Nat} {u : xU} {w : xW} {r : xQ} {P : xPost} (h_s : xSt s)
    (k : ((u s 2) ≤ i2 → P none u w r) ∧ (¬ ((u s 2) ≤ i2) → xCall g d mX9_spotOf [.ref s, .int i2] 698 u w r 698 (fun rv3 u3 w3 r3 => ∃ v3 : Int32, rv3 = some (.int v3) ∧ u = u3 ∧ w = w3 ∧ r = r3 ∧ (v3 = (-1 : Int32) → xEv g (d + 1) mX0_handOn 52 [some (.ref 52), some (.ref s), some (.int i2), none, none] [] 698 u w r 698 P) ∧ (¬ (v3 = (-1 : Int32)) → xCall g d mX0_bestBier [.ref 52, .ref s, .int i2, .int v3] 698 u w r 698 (fun rv6 u6 w6 r6 => ∃ v6 : Int32, rv6 = some (.int v6) ∧ u = u6 ∧ w = w6 ∧ r = r6 ∧ (v6 = (-1 : Int32) → xCall g d mX9_putInPile [.ref s, .int i2, .int v3] 698 u w r 698 (fun rv9 u9 w9 r9 => rv9 = none ∧ w = w9 ∧ r = r9 ∧ xEv g (d + 1) mX0_handOn 52 [some (.ref 52), some (.ref s), some (.int i2), none, none] [] 698 u9 w r 698 P)) ∧ (¬ (v6 = (-1 : Int32)) → xCall g d mX9_putInBier [.ref s, .int i2, .int v6] 698 u w r 698 (fun rv10 u10 w10 r10 => rv10 = none ∧ w = w10 ∧ r = r10 ∧ xEv g (d + 1) mX0_handOn 52 [some (.ref 52), some (.ref s), some (.int i2), none, none] [] 698 u10 w r 698 P))))))) :
    xEv g (d + 1) mX0_handOn 2 [some (.ref 52), some (.ref s), some (.int i2), none, none] [] 698 u w r 698 P := by
  refine xe_iload_n dX0_handOn_2 rfl ?_
  refine xe_aload_n dX0_handOn_3 rfl ?_
  refine xe_getI dX0_handOn_4 flX0_120 h_s.k0 (xKK_lt h_s.k0) rfl ?_
  refine xe_icmp_ge (tgt := 58) dX0_handOn_7 rfl (fun c1 => ?_) (fun c2 => ?_)
  · have k := k.1 c1
    exact xe_return dX0_handOn_58 trivial k
  · have k := k.2 (fun q => (c2 q))
    refine xe_aload_n dX0_handOn_10 rfl ?_
    refine xe_iload_n dX0_handOn_11 rfl ?_
    refine xe_callV (args := [.int i2]) dX0_handOn_12 vlX0_130 rfl rfl (Nat.le_of_ble_eq_true rfl) h_s.k0 (xKK_lt h_s.k0) rfl rfl k (Nat.le_refl _) (fun rv3 u3 w3 r3 k => ?_)
    obtain ⟨v3, rfl, rfl, rfl, rfl, k⟩ := k
    refine xe_istore_n (ls' := [some (.ref 52), some (.ref s), some (.int i2), some (.int v3), none]) dX0_handOn_15 rfl (by decide) rfl ?_
    refine xe_iload_n dX0_handOn_16 rfl ?_
    refine xe_iconst (v := -1) dX0_handOn_17 rfl ?_
    refine xe_icmp_eq (tgt := 52) dX0_handOn_18 rfl (fun c4 => ?_) (fun c5 => ?_)
    · have k := k.1 c4
      exact xEv.fewer (ls' := [some (.ref 52), some (.ref s), some (.int i2), none, none]) k (xfw_get (xfw_s (xfw_s (xfw_s (xfw_n (xfw_n (xfw_nil _)))))))
    · have k := k.2 (fun q => (c5 q))
      refine xe_aload_n dX0_handOn_21 rfl ?_
      refine xe_aload_n dX0_handOn_22 rfl ?_
      refine xe_iload_n dX0_handOn_23 rfl ?_
      refine xe_iload_n dX0_handOn_24 rfl ?_
      refine xe_callV (args := [.ref s, .int i2, .int v3]) dX0_handOn_25 vlX0_140 rfl rfl (Nat.le_of_ble_eq_true rfl) kk52 (xKK_lt kk52) rfl rfl k (Nat.le_refl _) (fun rv6 u6 w6 r6 k => ?_)
      obtain ⟨v6, rfl, rfl, rfl, rfl, k⟩ := k
      refine xe_istore (ls' := [some (.ref 52), some (.ref s), some (.int i2), some (.int v3), some (.int v6)]) dX0_handOn_28 (by decide) rfl ?_
      refine xe_iload dX0_handOn_30 rfl ?_
      refine xe_iconst (v := -1) dX0_handOn_32 rfl ?_
      refine xe_icmp_ne (tgt := 45) dX0_handOn_33 rfl (fun c7 => ?_) (fun c8 => ?_)
      · have k := k.2 (fun q => (c7 q))
        refine xe_aload_n dX0_handOn_45 rfl ?_
        refine xe_iload_n dX0_handOn_46 rfl ?_
        refine xe_iload dX0_handOn_47 rfl ?_
        refine xe_callV (args := [.int i2, .int v6]) dX0_handOn_49 vlX0_144 rfl rfl (Nat.le_of_ble_eq_true rfl) h_s.k0 (xKK_lt h_s.k0) rfl rfl k (Nat.le_refl _) (fun rv10 u10 w10 r10 k => ?_)
        obtain ⟨rfl, rfl, rfl, k⟩ := k
        exact xEv.fewer (ls' := [some (.ref 52), some (.ref s), some (.int i2), none, none]) k (xfw_get (xfw_s (xfw_s (xfw_s (xfw_n (xfw_n (xfw_nil _)))))))
      · have k := k.1 c8
        refine xe_aload_n dX0_handOn_36 rfl ?_
        refine xe_iload_n dX0_handOn_37 rfl ?_
        refine xe_iload_n dX0_handOn_38 rfl ?_
        refine xe_callV (args := [.int i2, .int v3]) dX0_handOn_39 vlX0_126 rfl rfl (Nat.le_of_ble_eq_true rfl) h_s.k0 (xKK_lt h_s.k0) rfl rfl k (Nat.le_refl _) (fun rv9 u9 w9 r9 k => ?_)
        obtain ⟨rfl, rfl, rfl, k⟩ := k
        refine xe_goto (tgt := 52) dX0_handOn_42 rfl ?_
        exact xEv.fewer (ls' := [some (.ref 52), some (.ref s), some (.int i2), none, none]) k (xfw_get (xfw_s (xfw_s (xfw_s (xfw_n (xfw_n (xfw_nil _)))))))

theorem TX0_handOn_52 {g : xGT} {d : Nat} {i2 : Int32} {s : Nat} {u : xU} {w : xW} {r : xQ} {P : xPost}
    (k : xEv g (d + 1) mX0_handOn 2 [some (.ref 52), some (.ref s), some (.int (i2 + (1 : Int32))), none, none] [] 698 u w r 698 P) :
    xEv g (d + 1) mX0_handOn 52 [some (.ref 52), some (.ref s), some (.int i2), none, none] [] 698 u w r 698 P := by
  refine xe_iinc (v := (i2 + (1 : Int32))) (ls' := [some (.ref 52), some (.ref s), some (.int (i2 + (1 : Int32))), none, none]) dX0_handOn_52 rfl (by decide) rfl rfl ?_
  refine xe_goto (tgt := 2) dX0_handOn_55 rfl ?_
  exact k

/-! Course.bestBier -/

theorem TX0_bestBier_0 {g : xGT} {d : Nat} {i2 i3 : Int32} {s : Nat} {u : xU} {w : xW} {r : xQ} {P : xPost} (hr : xRf r) (h_s : xSt s) (q_s : xSr s r)
    (k : vp_in i2 10 ∧ (xCall g d mX8_distance [.ref 53, .int i3, .int (u (s + 8) i2.toNatClampNeg)] 698 u w r 698 (fun rv2 u2 w2 r2 => ∃ v2 : Int32, rv2 = some (.int v2) ∧ u = u2 ∧ w = w2 ∧ r = r2 ∧ xEv g (d + 1) mX0_bestBier 34 [some (.ref 52), some (.ref s), none, some (.int i3), some (.int (u (s + 8) i2.toNatClampNeg)), some (.int (u (s + 6) i2.toNatClampNeg)), some (.int (-1 : Int32)), some (.int v2), some (.int (0 : Int32)), none, none] [] 698 u w r 698 P))) :
    xEv g (d + 1) mX0_bestBier 0 [some (.ref 52), some (.ref s), some (.int i2), some (.int i3), none, none, none, none, none, none, none] [] 698 u w r 698 P := by
  refine xe_aload_n dX0_bestBier_0 rfl ?_
  refine xe_getR (b := (s + 8)) dX0_bestBier_1 flX0_133 h_s.k0 (xKK_lt h_s.k0) rfl q_s.f10 ?_
  refine xe_iload_n dX0_bestBier_4 rfl ?_
  obtain ⟨b1, k⟩ := k
  refine xe_iald dX0_bestBier_5 h_s.k8 (xKK_lt h_s.k8) b1 ?_
  refine xe_istore (ls' := [some (.ref 52), some (.ref s), some (.int i2), some (.int i3), some (.int (u (s + 8) i2.toNatClampNeg)), none, none, none, none, none, none]) dX0_bestBier_6 (by decide) rfl ?_
  refine xe_aload_n dX0_bestBier_8 rfl ?_
  refine xe_getR (b := (s + 6)) dX0_bestBier_9 flX0_123 h_s.k0 (xKK_lt h_s.k0) rfl q_s.f8 ?_
  refine xe_iload_n dX0_bestBier_12 rfl ?_
  refine xe_iald dX0_bestBier_13 h_s.k6 (xKK_lt h_s.k6) b1 ?_
  refine xe_istore (ls' := [some (.ref 52), some (.ref s), some (.int i2), some (.int i3), some (.int (u (s + 8) i2.toNatClampNeg)), some (.int (u (s + 6) i2.toNatClampNeg)), none, none, none, none, none]) dX0_bestBier_14 (by decide) rfl ?_
  refine xe_iconst (v := -1) dX0_bestBier_16 rfl ?_
  refine xe_istore (ls' := [some (.ref 52), some (.ref s), some (.int i2), some (.int i3), some (.int (u (s + 8) i2.toNatClampNeg)), some (.int (u (s + 6) i2.toNatClampNeg)), some (.int (-1 : Int32)), none, none, none, none]) dX0_bestBier_17 (by decide) rfl ?_
  refine xe_aload_n dX0_bestBier_19 rfl ?_
  refine xe_getR (b := 53) dX0_bestBier_20 flX0_12 kk52 (xKK_lt kk52) rfl (rf52_0 hr) ?_
  refine xe_iload_n dX0_bestBier_23 rfl ?_
  refine xe_iload dX0_bestBier_24 rfl ?_
  refine xe_callV (args := [.int i3, .int (u (s + 8) i2.toNatClampNeg)]) dX0_bestBier_26 vlX0_93 rfl rfl (Nat.le_of_ble_eq_true rfl) kk53 (xKK_lt kk53) rfl rfl k (Nat.le_refl _) (fun rv2 u2 w2 r2 k => ?_)
  obtain ⟨v2, rfl, rfl, rfl, rfl, k⟩ := k
  refine xe_istore (ls' := [some (.ref 52), some (.ref s), some (.int i2), some (.int i3), some (.int (u (s + 8) i2.toNatClampNeg)), some (.int (u (s + 6) i2.toNatClampNeg)), some (.int (-1 : Int32)), some (.int v2), none, none, none]) dX0_bestBier_29 (by decide) rfl ?_
  refine xe_iconst (v := 0) dX0_bestBier_31 rfl ?_
  refine xe_istore (ls' := [some (.ref 52), some (.ref s), some (.int i2), some (.int i3), some (.int (u (s + 8) i2.toNatClampNeg)), some (.int (u (s + 6) i2.toNatClampNeg)), some (.int (-1 : Int32)), some (.int v2), some (.int (0 : Int32)), none, none]) dX0_bestBier_32 (by decide) rfl ?_
  exact xEv.fewer (ls' := [some (.ref 52), some (.ref s), none, some (.int i3), some (.int (u (s + 8) i2.toNatClampNeg)), some (.int (u (s + 6) i2.toNatClampNeg)), some (.int (-1 : Int32)), some (.int v2), some (.int (0 : Int32)), none, none]) k (xfw_get (xfw_s (xfw_s (xfw_n (xfw_s (xfw_s (xfw_s (xfw_s (xfw_s (xfw_s (xfw_n (xfw_n (xfw_nil _)))))))))))))

theorem CX0_bestBier {g : xGT} {d : Nat} {i2 i3 : Int32} {s : Nat} {u : xU} {w : xW} {r : xQ} {P : xPost} (hr : xRf r) (h_s : xSt s) (q_s : xSr s r)
    (k : vp_in i2 10 ∧ (xCall g d mX8_distance [.ref 53, .int i3, .int (u (s + 8) i2.toNatClampNeg)] 698 u w r 698 (fun rv2 u2 w2 r2 => ∃ v2 : Int32, rv2 = some (.int v2) ∧ u = u2 ∧ w = w2 ∧ r = r2 ∧ xEv g (d + 1) mX0_bestBier 34 [some (.ref 52), some (.ref s), none, some (.int i3), some (.int (u (s + 8) i2.toNatClampNeg)), some (.int (u (s + 6) i2.toNatClampNeg)), some (.int (-1 : Int32)), some (.int v2), some (.int (0 : Int32)), none, none] [] 698 u w r 698 P))) :
    xCall g (d + 1) mX0_bestBier [.ref 52, .ref s, .int i2, .int i3] 698 u w r 698 P :=
  xCall.of plX0 (Nat.le_of_ble_eq_true rfl) rfl (TX0_bestBier_0 hr h_s q_s k)

set_option maxRecDepth 20000 in
theorem TX0_bestBier_34 {g : xGT} {d : Nat} {i3 i4 i5 i6 i7 i8 : Int32} {s l : Nat} {u : xU} {w : xW} {r : xQ} {P : xPost} (hr : xRf r) (h_s : xSt s) (q_s : xSr s r) (h_l : xLd l) (q_l : xLr l r) (hm_course : r 52 1 = some l)
    (k : ((u l 5) ≤ i8 → P (some (.int i6)) u w r) ∧ (¬ ((u l 5) ≤ i8) → (¬ (i8 = i5) → vp_in i8 6) ∧ (xCall g d mX9_standsIn [.ref s, .int i8] 698 u w r 698 (fun rv10 u10 w10 r10 => ∃ v10 : Int32, rv10 = some (.int v10) ∧ u = u10 ∧ w = w10 ∧ r = r10 ∧ ((v10 = i3 ∧ ¬ ((xb (i8 = i5 ∨ ¬ ((u (l + 7) i8.toNatClampNeg) ≤ (u (s + 4) i8.toNatClampNeg)))) = 0)) → vp_in i8 6 ∧ (xCall g d mX8_nearest [.ref 53, .int i3, .int (u (l + 5) i8.toNatClampNeg), .int i4] 698 u w r 698 (fun rv16 u16 w16 r16 => ∃ v16 : Int32, rv16 = some (.int v16) ∧ u = u16 ∧ w = w16 ∧ r = r16 ∧ (v16 < i7 → xEv g (d + 1) mX0_bestBier 144 [some (.ref 52), some (.ref s), none, some (.int i3), some (.int i4), some (.int i5), none, none, some (.int i8), none, some (.int v16)] [] 698 u w r 698 P) ∧ (¬ (v16 < i7) → ((v16 = i7 ∧ (¬ (i6 = (-1 : Int32)) ∧ i8 = i5)) → xEv g (d + 1) mX0_bestBier 144 [some (.ref 52), some (.ref s), none, some (.int i3), some (.int i4), some (.int i5), none, none, some (.int i8), none, some (.int v16)] [] 698 u w r 698 P) ∧ (¬ (v16 = i7 ∧ (¬ (i6 = (-1 : Int32)) ∧ i8 = i5)) → xEv g (d + 1) mX0_bestBier 152 [some (.ref 52), some (.ref s), none, some (.int i3), some (.int i4), some (.int i5), some (.int i6), some (.int i7), some (.int i8), none, none] [] 698 u w r 698 P))))) ∧ (¬ (v10 = i3 ∧ ¬ ((xb (i8 = i5 ∨ ¬ ((u (l + 7) i8.toNatClampNeg) ≤ (u (s + 4) i8.toNatClampNeg)))) = 0)) → xEv g (d + 1) mX0_bestBier 152 [some (.ref 52), some (.ref s), none, some (.int i3), some (.int i4), some (.int i5), some (.int i6), some (.int i7), some (.int i8), none, none] [] 698 u w r 698 P))))) :
    xEv g (d + 1) mX0_bestBier 34 [some (.ref 52), some (.ref s), none, some (.int i3), some (.int i4), some (.int i5), some (.int i6), some (.int i7), some (.int i8), none, none] [] 698 u w r 698 P := by
  refine xe_iload dX0_bestBier_34 rfl ?_
  refine xe_aload_n dX0_bestBier_36 rfl ?_
  refine xe_getR (b := l) dX0_bestBier_37 flX0_18 kk52 (xKK_lt kk52) rfl hm_course ?_
  refine xe_getI dX0_bestBier_40 flX0_36 h_l.k0 (xKK_lt h_l.k0) rfl ?_
  refine xe_icmp_ge (tgt := 158) dX0_bestBier_43 rfl (fun c3 => ?_) (fun c4 => ?_)
  · have k := k.1 c3
    refine xe_iload dX0_bestBier_158 rfl ?_
    exact xe_ireturn dX0_bestBier_160 rfl k
  · have k := k.2 (fun q => (c4 q))
    refine xe_iload dX0_bestBier_46 rfl ?_
    refine xe_iload dX0_bestBier_48 rfl ?_
    obtain ⟨b7, k⟩ := k
    have K29 : xEv g (d + 1) mX0_bestBier 78 [some (.ref 52), some (.ref s), none, some (.int i3), some (.int i4), some (.int i5), some (.int i6), some (.int i7), some (.int i8), none, none] [.int (xb (i8 = i5 ∨ ¬ ((u (l + 7) i8.toNatClampNeg) ≤ (u (s + 4) i8.toNatClampNeg))))] 698 u w r 698 P := by
      refine xe_istore (ls' := [some (.ref 52), some (.ref s), none, some (.int i3), some (.int i4), some (.int i5), some (.int i6), some (.int i7), some (.int i8), some (.int (xb (i8 = i5 ∨ ¬ ((u (l + 7) i8.toNatClampNeg) ≤ (u (s + 4) i8.toNatClampNeg))))), none]) dX0_bestBier_78 (by decide) rfl ?_
      refine xe_aload_n dX0_bestBier_80 rfl ?_
      refine xe_iload dX0_bestBier_81 rfl ?_
      refine xe_callV (args := [.int i8]) dX0_bestBier_83 vlX0_75 rfl rfl (Nat.le_of_ble_eq_true rfl) h_s.k0 (xKK_lt h_s.k0) rfl rfl k (Nat.le_refl _) (fun rv10 u10 w10 r10 k => ?_)
      obtain ⟨v10, rfl, rfl, rfl, rfl, k⟩ := k
      refine xe_iload_n dX0_bestBier_86 rfl ?_
      have K27 : ¬ (v10 = i3 ∧ ¬ ((xb (i8 = i5 ∨ ¬ ((u (l + 7) i8.toNatClampNeg) ≤ (u (s + 4) i8.toNatClampNeg)))) = 0)) → xEv g (d + 1) mX0_bestBier 152 [some (.ref 52), some (.ref s), none, some (.int i3), some (.int i4), some (.int i5), some (.int i6), some (.int i7), some (.int i8), some (.int (xb (i8 = i5 ∨ ¬ ((u (l + 7) i8.toNatClampNeg) ≤ (u (s + 4) i8.toNatClampNeg))))), none] [] 698 u w r 698 P := fun c28 => by
        have k := k.2 c28
        exact xEv.fewer (ls' := [some (.ref 52), some (.ref s), none, some (.int i3), some (.int i4), some (.int i5), some (.int i6), some (.int i7), some (.int i8), none, none]) k (xfw_get (xfw_s (xfw_s (xfw_n (xfw_s (xfw_s (xfw_s (xfw_s (xfw_s (xfw_s (xfw_n (xfw_n (xfw_nil _)))))))))))))
      refine xe_icmp_ne (tgt := 152) dX0_bestBier_87 rfl (fun c11 => ?_) (fun c12 => ?_)
      · exact K27 (fun q => (c11 q.1))
      · refine xe_iload dX0_bestBier_90 rfl ?_
        refine xe_if_eq (tgt := 152) dX0_bestBier_92 rfl (fun c13 => ?_) (fun c14 => ?_)
        · exact K27 (fun q => (q.2 c13))
        · have k := k.1 ⟨c12, c14⟩
          refine xe_aload_n dX0_bestBier_95 rfl ?_
          refine xe_getR (b := 53) dX0_bestBier_96 flX0_12 kk52 (xKK_lt kk52) rfl (rf52_0 hr) ?_
          refine xe_iload_n dX0_bestBier_99 rfl ?_
          refine xe_aload_n dX0_bestBier_100 rfl ?_
          refine xe_getR (b := l) dX0_bestBier_101 flX0_18 kk52 (xKK_lt kk52) rfl hm_course ?_
          refine xe_getR (b := (l + 5)) dX0_bestBier_104 flX0_60 h_l.k0 (xKK_lt h_l.k0) rfl q_l.1.f7 ?_
          refine xe_iload dX0_bestBier_107 rfl ?_
          obtain ⟨b15, k⟩ := k
          refine xe_iald dX0_bestBier_109 h_l.k5 (xKK_lt h_l.k5) b15 ?_
          refine xe_iload dX0_bestBier_110 rfl ?_
          refine xe_callV (args := [.int i3, .int (u (l + 5) i8.toNatClampNeg), .int i4]) dX0_bestBier_112 vlX0_150 rfl rfl (Nat.le_of_ble_eq_true rfl) kk53 (xKK_lt kk53) rfl rfl k (Nat.le_refl _) (fun rv16 u16 w16 r16 k => ?_)
          obtain ⟨v16, rfl, rfl, rfl, rfl, k⟩ := k
          refine xe_istore (ls' := [some (.ref 52), some (.ref s), none, some (.int i3), some (.int i4), some (.int i5), some (.int i6), some (.int i7), some (.int i8), some (.int (xb (i8 = i5 ∨ ¬ ((u (l + 7) i8.toNatClampNeg) ≤ (u (s + 4) i8.toNatClampNeg))))), some (.int v16)]) dX0_bestBier_115 (by decide) rfl ?_
          refine xe_iload dX0_bestBier_117 rfl ?_
          refine xe_iload dX0_bestBier_119 rfl ?_
          refine xe_icmp_lt (tgt := 144) dX0_bestBier_121 rfl (fun c17 => ?_) (fun c18 => ?_)
          · have k := k.1 c17
            exact xEv.fewer (ls' := [some (.ref 52), some (.ref s), none, some (.int i3), some (.int i4), some (.int i5), none, none, some (.int i8), none, some (.int v16)]) k (xfw_get (xfw_s (xfw_s (xfw_n (xfw_s (xfw_s (xfw_s (xfw_n (xfw_n (xfw_s (xfw_n (xfw_s (xfw_nil _)))))))))))))
          · have k := k.2 (fun q => (c18 q))
            refine xe_iload dX0_bestBier_124 rfl ?_
            refine xe_iload dX0_bestBier_126 rfl ?_
            have K25 : ¬ (v16 = i7 ∧ (¬ (i6 = (-1 : Int32)) ∧ i8 = i5)) → xEv g (d + 1) mX0_bestBier 152 [some (.ref 52), some (.ref s), none, some (.int i3), some (.int i4), some (.int i5), some (.int i6), some (.int i7), some (.int i8), some (.int (xb (i8 = i5 ∨ ¬ ((u (l + 7) i8.toNatClampNeg) ≤ (u (s + 4) i8.toNatClampNeg))))), some (.int v16)] [] 698 u w r 698 P := fun c26 => by
              have k := k.2 c26
              exact xEv.fewer (ls' := [some (.ref 52), some (.ref s), none, some (.int i3), some (.int i4), some (.int i5), some (.int i6), some (.int i7), some (.int i8), none, none]) k (xfw_get (xfw_s (xfw_s (xfw_n (xfw_s (xfw_s (xfw_s (xfw_s (xfw_s (xfw_s (xfw_n (xfw_n (xfw_nil _)))))))))))))
            refine xe_icmp_ne (tgt := 152) dX0_bestBier_128 rfl (fun c19 => ?_) (fun c20 => ?_)
            · exact K25 (fun q => (c19 q.1))
            · refine xe_iload dX0_bestBier_131 rfl ?_
              refine xe_iconst (v := -1) dX0_bestBier_133 rfl ?_
              refine xe_icmp_eq (tgt := 152) dX0_bestBier_134 rfl (fun c21 => ?_) (fun c22 => ?_)
              · exact K25 (fun q => (q.2.1 c21))
              · refine xe_iload dX0_bestBier_137 rfl ?_
                refine xe_iload dX0_bestBier_139 rfl ?_
                refine xe_icmp_ne (tgt := 152) dX0_bestBier_141 rfl (fun c23 => ?_) (fun c24 => ?_)
                · exact K25 (fun q => (c23 q.2.2))
                · have k := k.1 ⟨c20, ⟨c22, c24⟩⟩
                  exact xEv.fewer (ls' := [some (.ref 52), some (.ref s), none, some (.int i3), some (.int i4), some (.int i5), none, none, some (.int i8), none, some (.int v16)]) k (xfw_get (xfw_s (xfw_s (xfw_n (xfw_s (xfw_s (xfw_s (xfw_n (xfw_n (xfw_s (xfw_n (xfw_s (xfw_nil _)))))))))))))
    refine xe_icmp_eq (tgt := 73) dX0_bestBier_50 rfl (fun c5 => ?_) (fun c6 => ?_)
    · refine xe_iconst (v := 1) dX0_bestBier_73 rfl ?_
      refine xe_goto (tgt := 78) dX0_bestBier_74 rfl ?_
      exact xtop (xb_pos (show (i8 = i5 ∨ ¬ ((u (l + 7) i8.toNatClampNeg) ≤ (u (s + 4) i8.toNatClampNeg))) from (Or.inl c5))) K29
    · refine xe_aload_n dX0_bestBier_53 rfl ?_
      refine xe_getR (b := (s + 4)) dX0_bestBier_54 flX0_147 h_s.k0 (xKK_lt h_s.k0) rfl q_s.f6 ?_
      refine xe_iload dX0_bestBier_57 rfl ?_
      refine xe_iald dX0_bestBier_59 h_s.k4 (xKK_lt h_s.k4) (b7 c6) ?_
      refine xe_aload_n dX0_bestBier_60 rfl ?_
      refine xe_getR (b := l) dX0_bestBier_61 flX0_18 kk52 (xKK_lt kk52) rfl hm_course ?_
      refine xe_getR (b := (l + 7)) dX0_bestBier_64 flX0_100 h_l.k0 (xKK_lt h_l.k0) rfl q_l.1.f9 ?_
      refine xe_iload dX0_bestBier_67 rfl ?_
      refine xe_iald dX0_bestBier_69 h_l.k7 (xKK_lt h_l.k7) (b7 c6) ?_
      refine xe_icmp_ge (tgt := 77) dX0_bestBier_70 rfl (fun c8 => ?_) (fun c9 => ?_)
      · refine xe_iconst (v := 0) dX0_bestBier_77 rfl ?_
        exact xtop (xb_neg (show ¬ (i8 = i5 ∨ ¬ ((u (l + 7) i8.toNatClampNeg) ≤ (u (s + 4) i8.toNatClampNeg))) from (fun q => (q.elim (fun z => (c6 z)) (fun z => (z c8)))))) K29
      · refine xe_iconst (v := 1) dX0_bestBier_73 rfl ?_
        refine xe_goto (tgt := 78) dX0_bestBier_74 rfl ?_
        exact xtop (xb_pos (show (i8 = i5 ∨ ¬ ((u (l + 7) i8.toNatClampNeg) ≤ (u (s + 4) i8.toNatClampNeg))) from (Or.inr c9))) K29

theorem TX0_bestBier_144 {g : xGT} {d : Nat} {i3 i4 i5 i8 i10 : Int32} {s : Nat} {u : xU} {w : xW} {r : xQ} {P : xPost}
    (k : xEv g (d + 1) mX0_bestBier 152 [some (.ref 52), some (.ref s), none, some (.int i3), some (.int i4), some (.int i5), some (.int i8), some (.int i10), some (.int i8), none, none] [] 698 u w r 698 P) :
    xEv g (d + 1) mX0_bestBier 144 [some (.ref 52), some (.ref s), none, some (.int i3), some (.int i4), some (.int i5), none, none, some (.int i8), none, some (.int i10)] [] 698 u w r 698 P := by
  refine xe_iload dX0_bestBier_144 rfl ?_
  refine xe_istore (ls' := [some (.ref 52), some (.ref s), none, some (.int i3), some (.int i4), some (.int i5), some (.int i8), none, some (.int i8), none, some (.int i10)]) dX0_bestBier_146 (by decide) rfl ?_
  refine xe_iload dX0_bestBier_148 rfl ?_
  refine xe_istore (ls' := [some (.ref 52), some (.ref s), none, some (.int i3), some (.int i4), some (.int i5), some (.int i8), some (.int i10), some (.int i8), none, some (.int i10)]) dX0_bestBier_150 (by decide) rfl ?_
  exact xEv.fewer (ls' := [some (.ref 52), some (.ref s), none, some (.int i3), some (.int i4), some (.int i5), some (.int i8), some (.int i10), some (.int i8), none, none]) k (xfw_get (xfw_s (xfw_s (xfw_n (xfw_s (xfw_s (xfw_s (xfw_s (xfw_s (xfw_s (xfw_n (xfw_n (xfw_nil _)))))))))))))

theorem TX0_bestBier_152 {g : xGT} {d : Nat} {i3 i4 i5 i6 i7 i8 : Int32} {s : Nat} {u : xU} {w : xW} {r : xQ} {P : xPost}
    (k : xEv g (d + 1) mX0_bestBier 34 [some (.ref 52), some (.ref s), none, some (.int i3), some (.int i4), some (.int i5), some (.int i6), some (.int i7), some (.int (i8 + (1 : Int32))), none, none] [] 698 u w r 698 P) :
    xEv g (d + 1) mX0_bestBier 152 [some (.ref 52), some (.ref s), none, some (.int i3), some (.int i4), some (.int i5), some (.int i6), some (.int i7), some (.int i8), none, none] [] 698 u w r 698 P := by
  refine xe_iinc (v := (i8 + (1 : Int32))) (ls' := [some (.ref 52), some (.ref s), none, some (.int i3), some (.int i4), some (.int i5), some (.int i6), some (.int i7), some (.int (i8 + (1 : Int32))), none, none]) dX0_bestBier_152 rfl (by decide) rfl rfl ?_
  refine xe_goto (tgt := 34) dX0_bestBier_155 rfl ?_
  exact k

/-! Reader.readLine -/

set_option maxRecDepth 20000 in
theorem TX7_readLine_0 {g : xGT} {d : Nat} {l : Nat} {u : xU} {w : xW} {r : xQ} {P : xPost} (hr : xRf r) (h_l : xLd l) (hm_reader : r 9 4 = some l)
    (k : xCall g d mX10_kindAt [.ref 10, .int (u 9 7)] 698 u w r 698 (fun rv1 u1 w1 r1 => ∃ v1 : Int32, rv1 = some (.int v1) ∧ u = u1 ∧ w = w1 ∧ r = r1 ∧ xCall g d mX7_mayBegin [.ref 9, .int v1] 698 u w r 698 (fun rv2 u2 w2 r2 => ∃ v2 : Int32, rv2 = some (.int v2) ∧ u = u2 ∧ w = w2 ∧ r = r2 ∧ (v2 = 0 → xCall g d mX7_fail [.ref 9, .int (2 : Int32)] 698 u w r 698 (fun rv5 u5 w5 r5 => rv5 = none ∧ w = w5 ∧ r = r5 ∧ P none u5 w r)) ∧ (¬ (v2 = 0) → (v1 = 15 → xCall g d mX7_readNewName [.ref 9, .ref 16] 698 (x2 u 9 7 ((u 9 7) + (1 : Int32))) w r 698 (fun rv6 u6 w6 r6 => rv6 = none ∧ r = r6 ∧ xEv g (d + 1) mX7_readLine 136 [some (.ref 9), none] [] 698 (x2 u6 l 0 (u6 16 1)) w6 r 698 P)) ∧ (v1 = 16 → xCall g d mX7_readWay [.ref 9] 698 (x2 u 9 7 ((u 9 7) + (1 : Int32))) w r 698 (fun rv7 u7 w7 r7 => rv7 = none ∧ w = w7 ∧ r = r7 ∧ xEv g (d + 1) mX7_readLine 136 [some (.ref 9), none] [] 698 u7 w r 698 P)) ∧ (v1 = 17 → xCall g d mX7_readBier [.ref 9] 698 (x2 u 9 7 ((u 9 7) + (1 : Int32))) w r 698 (fun rv8 u8 w8 r8 => rv8 = none ∧ r = r8 ∧ xEv g (d + 1) mX7_readLine 136 [some (.ref 9), none] [] 698 u8 w8 r 698 P)) ∧ (v1 = 18 → xCall g d mX7_readLetter [.ref 9] 698 (x2 u 9 7 ((u 9 7) + (1 : Int32))) w r 698 (fun rv9 u9 w9 r9 => rv9 = none ∧ r = r9 ∧ xEv g (d + 1) mX7_readLine 136 [some (.ref 9), none] [] 698 u9 w9 r 698 P)) ∧ (v1 = 19 → xCall g d mX7_readFormula [.ref 9, .int (0 : Int32), .int (0 : Int32)] 698 (x2 (x2 u 9 7 ((u 9 7) + (1 : Int32))) 9 5 (1 : Int32)) w r 698 (fun rv10 u10 w10 r10 => rv10 = none ∧ w = w10 ∧ r = r10 ∧ xEv g (d + 1) mX7_readLine 136 [some (.ref 9), none] [] 698 u10 w r 698 P)) ∧ (¬ v1 = 15 → ¬ v1 = 16 → ¬ v1 = 17 → ¬ v1 = 18 → ¬ v1 = 19 → xCall g d mX7_readWinter [.ref 9] 698 (x2 u 9 7 ((u 9 7) + (1 : Int32))) w r 698 (fun rv11 u11 w11 r11 => rv11 = none ∧ w = w11 ∧ r = r11 ∧ xEv g (d + 1) mX7_readLine 136 [some (.ref 9), none] [] 698 u11 w r 698 P)))))) :
    xEv g (d + 1) mX7_readLine 0 [some (.ref 9), none] [] 698 u w r 698 P := by
  refine xe_aload_n dX7_readLine_0 rfl ?_
  refine xe_getR (b := 10) dX7_readLine_1 flX7_12 kk9 (xKK_lt kk9) rfl (rf9_0 hr) ?_
  refine xe_aload_n dX7_readLine_4 rfl ?_
  refine xe_getI dX7_readLine_5 flX7_56 kk9 (xKK_lt kk9) rfl ?_
  refine xe_callV (args := [.int (u 9 7)]) dX7_readLine_8 vlX7_72 rfl rfl (Nat.le_of_ble_eq_true rfl) kk10 (xKK_lt kk10) rfl rfl k (Nat.le_refl _) (fun rv1 u1 w1 r1 k => ?_)
  obtain ⟨v1, rfl, rfl, rfl, rfl, k⟩ := k
  refine xe_istore_n (ls' := [some (.ref 9), some (.int v1)]) dX7_readLine_11 rfl (by decide) rfl ?_
  refine xe_aload_n dX7_readLine_12 rfl ?_
  refine xe_iload_n dX7_readLine_13 rfl ?_
  refine xe_callV (args := [.int v1]) dX7_readLine_14 vlX7_76 rfl rfl (Nat.le_of_ble_eq_true rfl) kk9 (xKK_lt kk9) rfl rfl k (Nat.le_refl _) (fun rv2 u2 w2 r2 k => ?_)
  obtain ⟨v2, rfl, rfl, rfl, rfl, k⟩ := k
  refine xe_if_ne (tgt := 26) dX7_readLine_17 rfl (fun c3 => ?_) (fun c4 => ?_)
  · have k := k.2 (fun q => (c3 q))
    refine xe_aload_n dX7_readLine_26 rfl ?_
    refine xe_dup dX7_readLine_27 rfl ?_
    refine xe_getI dX7_readLine_28 flX7_56 kk9 (xKK_lt kk9) rfl ?_
    refine xe_iconst (v := 1) dX7_readLine_31 rfl ?_
    refine xe_iadd dX7_readLine_32 ?_
    refine xe_putI dX7_readLine_33 flX7_56 kk9 (xKK_lt kk9) nf7_7 rfl ?_
    refine xe_iload_n dX7_readLine_36 rfl ?_
    by_cases c12 : v1 = 15
    · have k := k.1 c12
      refine xe_tableIn (tgt := 72) dX7_readLine_37 (by rw [c12]; decide) (by rw [c12]; decide) (by rw [c12]; rfl) rfl ?_
      refine xe_aload_n dX7_readLine_72 rfl ?_
      refine xe_aload_n dX7_readLine_73 rfl ?_
      refine xe_getR (b := 16) dX7_readLine_74 flX7_23 kk9 (xKK_lt kk9) rfl (rf9_1 hr) ?_
      refine xe_callV (args := [.ref 16]) dX7_readLine_77 vlX7_82 rfl rfl (Nat.le_of_ble_eq_true rfl) kk9 (xKK_lt kk9) rfl rfl k (Nat.le_refl _) (fun rv6 u6 w6 r6 k => ?_)
      obtain ⟨rfl, rfl, k⟩ := k
      refine xe_aload_n dX7_readLine_80 rfl ?_
      refine xe_getR (b := l) dX7_readLine_81 flX7_37 kk9 (xKK_lt kk9) rfl hm_reader ?_
      refine xe_aload_n dX7_readLine_84 rfl ?_
      refine xe_getR (b := 16) dX7_readLine_85 flX7_23 kk9 (xKK_lt kk9) rfl (rf9_1 hr) ?_
      refine xe_getI dX7_readLine_88 flX7_46 nm16.k0 (xKK_lt nm16.k0) rfl ?_
      refine xe_putI dX7_readLine_91 flX7_86 h_l.k0 (xKK_lt h_l.k0) nf2_0 rfl ?_
      refine xe_goto (tgt := 136) dX7_readLine_94 rfl ?_
      exact xEv.fewer (ls' := [some (.ref 9), none]) k (xfw_get (xfw_s (xfw_n (xfw_nil _))))
    by_cases c13 : v1 = 16
    · have k := k.2.1 c13
      refine xe_tableIn (tgt := 97) dX7_readLine_37 (by rw [c13]; decide) (by rw [c13]; decide) (by rw [c13]; rfl) rfl ?_
      refine xe_aload_n dX7_readLine_97 rfl ?_
      refine xe_callV (args := []) dX7_readLine_98 vlX7_89 rfl rfl (Nat.le_of_ble_eq_true rfl) kk9 (xKK_lt kk9) rfl rfl k (Nat.le_refl _) (fun rv7 u7 w7 r7 k => ?_)
      obtain ⟨rfl, rfl, rfl, k⟩ := k
      refine xe_goto (tgt := 136) dX7_readLine_101 rfl ?_
      exact xEv.fewer (ls' := [some (.ref 9), none]) k (xfw_get (xfw_s (xfw_n (xfw_nil _))))
    by_cases c14 : v1 = 17
    · have k := k.2.2.1 c14
      refine xe_tableIn (tgt := 104) dX7_readLine_37 (by rw [c14]; decide) (by rw [c14]; decide) (by rw [c14]; rfl) rfl ?_
      refine xe_aload_n dX7_readLine_104 rfl ?_
      refine xe_callV (args := []) dX7_readLine_105 vlX7_92 rfl rfl (Nat.le_of_ble_eq_true rfl) kk9 (xKK_lt kk9) rfl rfl k (Nat.le_refl _) (fun rv8 u8 w8 r8 k => ?_)
      obtain ⟨rfl, rfl, k⟩ := k
      refine xe_goto (tgt := 136) dX7_readLine_108 rfl ?_
      exact xEv.fewer (ls' := [some (.ref 9), none]) k (xfw_get (xfw_s (xfw_n (xfw_nil _))))
    by_cases c15 : v1 = 18
    · have k := k.2.2.2.1 c15
      refine xe_tableIn (tgt := 111) dX7_readLine_37 (by rw [c15]; decide) (by rw [c15]; decide) (by rw [c15]; rfl) rfl ?_
      refine xe_aload_n dX7_readLine_111 rfl ?_
      refine xe_callV (args := []) dX7_readLine_112 vlX7_95 rfl rfl (Nat.le_of_ble_eq_true rfl) kk9 (xKK_lt kk9) rfl rfl k (Nat.le_refl _) (fun rv9 u9 w9 r9 k => ?_)
      obtain ⟨rfl, rfl, k⟩ := k
      refine xe_goto (tgt := 136) dX7_readLine_115 rfl ?_
      exact xEv.fewer (ls' := [some (.ref 9), none]) k (xfw_get (xfw_s (xfw_n (xfw_nil _))))
    by_cases c16 : v1 = 19
    · have k := k.2.2.2.2.1 c16
      refine xe_tableIn (tgt := 118) dX7_readLine_37 (by rw [c16]; decide) (by rw [c16]; decide) (by rw [c16]; rfl) rfl ?_
      refine xe_aload_n dX7_readLine_118 rfl ?_
      refine xe_iconst (v := 1) dX7_readLine_119 rfl ?_
      refine xe_putZ dX7_readLine_120 flX7_49 kk9 (xKK_lt kk9) nf7_5 rfl (Or.inr rfl) ?_
      refine xe_aload_n dX7_readLine_123 rfl ?_
      refine xe_iconst (v := 0) dX7_readLine_124 rfl ?_
      refine xe_iconst (v := 0) dX7_readLine_125 rfl ?_
      refine xe_callV (args := [.int (0 : Int32), .int (0 : Int32)]) dX7_readLine_126 vlX7_98 rfl rfl (Nat.le_of_ble_eq_true rfl) kk9 (xKK_lt kk9) rfl rfl k (Nat.le_refl _) (fun rv10 u10 w10 r10 k => ?_)
      obtain ⟨rfl, rfl, rfl, k⟩ := k
      refine xe_goto (tgt := 136) dX7_readLine_129 rfl ?_
      exact xEv.fewer (ls' := [some (.ref 9), none]) k (xfw_get (xfw_s (xfw_n (xfw_nil _))))
    have k := k.2.2.2.2.2 c12 c13 c14 c15 c16
    have K17 : xEv g (d + 1) mX7_readLine 132 [some (.ref 9), some (.int v1)] [] 698 (x2 u 9 7 ((u 9 7) + (1 : Int32))) w r 698 P := by
      refine xe_aload_n dX7_readLine_132 rfl ?_
      refine xe_callV (args := []) dX7_readLine_133 vlX7_102 rfl rfl (Nat.le_of_ble_eq_true rfl) kk9 (xKK_lt kk9) rfl rfl k (Nat.le_refl _) (fun rv11 u11 w11 r11 k => ?_)
      obtain ⟨rfl, rfl, rfl, k⟩ := k
      exact xEv.fewer (ls' := [some (.ref 9), none]) k (xfw_get (xfw_s (xfw_n (xfw_nil _))))
    by_cases hlo : v1.toInt < 15 ∨ 19 < v1.toInt
    · exact xe_tableOut (tgt := 132) dX7_readLine_37 hlo rfl K17
    · exact absurd (xsw_15_19_5 c12 c13 c14 c15 c16 hlo) (fun h => h)
  · have k := k.1 c4
    refine xe_aload_n dX7_readLine_20 rfl ?_
    refine xe_iconst (v := 2) dX7_readLine_21 rfl ?_
    refine xe_callV (args := [.int (2 : Int32)]) dX7_readLine_22 vlX7_79 rfl rfl (Nat.le_of_ble_eq_true rfl) kk9 (xKK_lt kk9) rfl rfl k (Nat.le_refl _) (fun rv5 u5 w5 r5 k => ?_)
    obtain ⟨rfl, rfl, rfl, k⟩ := k
    exact xe_return dX7_readLine_25 trivial k

theorem CX7_readLine {g : xGT} {d : Nat} {l : Nat} {u : xU} {w : xW} {r : xQ} {P : xPost} (hr : xRf r) (h_l : xLd l) (hm_reader : r 9 4 = some l)
    (k : xCall g d mX10_kindAt [.ref 10, .int (u 9 7)] 698 u w r 698 (fun rv1 u1 w1 r1 => ∃ v1 : Int32, rv1 = some (.int v1) ∧ u = u1 ∧ w = w1 ∧ r = r1 ∧ xCall g d mX7_mayBegin [.ref 9, .int v1] 698 u w r 698 (fun rv2 u2 w2 r2 => ∃ v2 : Int32, rv2 = some (.int v2) ∧ u = u2 ∧ w = w2 ∧ r = r2 ∧ (v2 = 0 → xCall g d mX7_fail [.ref 9, .int (2 : Int32)] 698 u w r 698 (fun rv5 u5 w5 r5 => rv5 = none ∧ w = w5 ∧ r = r5 ∧ P none u5 w r)) ∧ (¬ (v2 = 0) → (v1 = 15 → xCall g d mX7_readNewName [.ref 9, .ref 16] 698 (x2 u 9 7 ((u 9 7) + (1 : Int32))) w r 698 (fun rv6 u6 w6 r6 => rv6 = none ∧ r = r6 ∧ xEv g (d + 1) mX7_readLine 136 [some (.ref 9), none] [] 698 (x2 u6 l 0 (u6 16 1)) w6 r 698 P)) ∧ (v1 = 16 → xCall g d mX7_readWay [.ref 9] 698 (x2 u 9 7 ((u 9 7) + (1 : Int32))) w r 698 (fun rv7 u7 w7 r7 => rv7 = none ∧ w = w7 ∧ r = r7 ∧ xEv g (d + 1) mX7_readLine 136 [some (.ref 9), none] [] 698 u7 w r 698 P)) ∧ (v1 = 17 → xCall g d mX7_readBier [.ref 9] 698 (x2 u 9 7 ((u 9 7) + (1 : Int32))) w r 698 (fun rv8 u8 w8 r8 => rv8 = none ∧ r = r8 ∧ xEv g (d + 1) mX7_readLine 136 [some (.ref 9), none] [] 698 u8 w8 r 698 P)) ∧ (v1 = 18 → xCall g d mX7_readLetter [.ref 9] 698 (x2 u 9 7 ((u 9 7) + (1 : Int32))) w r 698 (fun rv9 u9 w9 r9 => rv9 = none ∧ r = r9 ∧ xEv g (d + 1) mX7_readLine 136 [some (.ref 9), none] [] 698 u9 w9 r 698 P)) ∧ (v1 = 19 → xCall g d mX7_readFormula [.ref 9, .int (0 : Int32), .int (0 : Int32)] 698 (x2 (x2 u 9 7 ((u 9 7) + (1 : Int32))) 9 5 (1 : Int32)) w r 698 (fun rv10 u10 w10 r10 => rv10 = none ∧ w = w10 ∧ r = r10 ∧ xEv g (d + 1) mX7_readLine 136 [some (.ref 9), none] [] 698 u10 w r 698 P)) ∧ (¬ v1 = 15 → ¬ v1 = 16 → ¬ v1 = 17 → ¬ v1 = 18 → ¬ v1 = 19 → xCall g d mX7_readWinter [.ref 9] 698 (x2 u 9 7 ((u 9 7) + (1 : Int32))) w r 698 (fun rv11 u11 w11 r11 => rv11 = none ∧ w = w11 ∧ r = r11 ∧ xEv g (d + 1) mX7_readLine 136 [some (.ref 9), none] [] 698 u11 w r 698 P)))))) :
    xCall g (d + 1) mX7_readLine [.ref 9] 698 u w r 698 P :=
  xCall.of plX7 (Nat.le_of_ble_eq_true rfl) rfl (TX7_readLine_0 hr h_l hm_reader k)

theorem TX7_readLine_136 {g : xGT} {d : Nat} {u : xU} {w : xW} {r : xQ} {P : xPost}
    (k : xCall g d mX7_want [.ref 9, .int (4 : Int32)] 698 u w r 698 (fun rv18 u18 w18 r18 => rv18 = none ∧ w = w18 ∧ r = r18 ∧ P none u18 w r)) :
    xEv g (d + 1) mX7_readLine 136 [some (.ref 9), none] [] 698 u w r 698 P := by
  refine xe_aload_n dX7_readLine_136 rfl ?_
  refine xe_iconst (v := 4) dX7_readLine_137 rfl ?_
  refine xe_callV (args := [.int (4 : Int32)]) dX7_readLine_138 vlX7_105 rfl rfl (Nat.le_of_ble_eq_true rfl) kk9 (xKK_lt kk9) rfl rfl k (Nat.le_refl _) (fun rv18 u18 w18 r18 k => ?_)
  obtain ⟨rfl, rfl, rfl, k⟩ := k
  exact xe_return dX7_readLine_141 trivial k

/-! Reader.mayBegin -/

set_option maxRecDepth 20000 in
theorem TX7_mayBegin_0 {g : xGT} {d : Nat} {i1 : Int32} {l : Nat} {u : xU} {w : xW} {r : xQ} {P : xPost} (hr : xRf r) (h_l : xLd l) (hm_reader : r 9 4 = some l)
    (k : (i1 = 15 → xCall g d mX5_isFull [.ref 16] 698 u w r 698 (fun rv1 u1 w1 r1 => ∃ v1 : Int32, rv1 = some (.int v1) ∧ u = u1 ∧ w = w1 ∧ r = r1 ∧ P (some (.int (xb (v1 = 0)))) u w r)) ∧ (i1 = 16 → P (some (.int (xb (¬ ((12 : Int32) ≤ (u l 1)))))) u w r) ∧ (i1 = 17 → xCall g d mX5_isFull [.ref 18] 698 u w r 698 (fun rv8 u8 w8 r8 => ∃ v8 : Int32, rv8 = some (.int v8) ∧ u = u8 ∧ w = w8 ∧ r = r8 ∧ P (some (.int (xb (v8 = 0)))) u w r)) ∧ (i1 = 18 → xCall g d mX5_isFull [.ref 20] 698 u w r 698 (fun rv12 u12 w12 r12 => ∃ v12 : Int32, rv12 = some (.int v12) ∧ u = u12 ∧ w = w12 ∧ r = r12 ∧ P (some (.int (xb (v12 = 0)))) u w r)) ∧ (i1 = 19 → P (some (.int (xb ((u 9 5) = 0)))) u w r) ∧ (i1 = 20 → P (some (.int (xb ((u 9 6) = 0)))) u w r) ∧ (¬ i1 = 15 → ¬ i1 = 16 → ¬ i1 = 17 → ¬ i1 = 18 → ¬ i1 = 19 → ¬ i1 = 20 → P (some (.int (0 : Int32))) u w r)) :
    xEv g (d + 1) mX7_mayBegin 0 [some (.ref 9), some (.int i1)] [] 698 u w r 698 P := by
  refine xe_iload_n dX7_mayBegin_0 rfl ?_
  by_cases c22 : i1 = 15
  · have k := k.1 c22
    refine xe_tableIn (tgt := 40) dX7_mayBegin_1 (by rw [c22]; decide) (by rw [c22]; decide) (by rw [c22]; rfl) rfl ?_
    refine xe_aload_n dX7_mayBegin_40 rfl ?_
    refine xe_getR (b := 16) dX7_mayBegin_41 flX7_23 kk9 (xKK_lt kk9) rfl (rf9_1 hr) ?_
    refine xe_callV (args := []) dX7_mayBegin_44 vlX7_108 rfl rfl (Nat.le_of_ble_eq_true rfl) nm16.k0 (xKK_lt nm16.k0) rfl rfl k (Nat.le_refl _) (fun rv1 u1 w1 r1 k => ?_)
    obtain ⟨v1, rfl, rfl, rfl, rfl, k⟩ := k
    have K4 : xEv g (d + 1) mX7_mayBegin 55 [some (.ref 9), some (.int i1)] [.int (xb (v1 = 0))] 698 u w r 698 P := by
      exact xe_ireturn dX7_mayBegin_55 (xrokZ (xb01 _)) k
    refine xe_if_ne (tgt := 54) dX7_mayBegin_47 rfl (fun c2 => ?_) (fun c3 => ?_)
    · refine xe_iconst (v := 0) dX7_mayBegin_54 rfl ?_
      exact xtop (xb_neg (show ¬ (v1 = 0) from (fun q => (c2 q)))) K4
    · refine xe_iconst (v := 1) dX7_mayBegin_50 rfl ?_
      refine xe_goto (tgt := 55) dX7_mayBegin_51 rfl ?_
      exact xtop (xb_pos (show v1 = 0 from c3)) K4
  by_cases c23 : i1 = 16
  · have k := k.2.1 c23
    refine xe_tableIn (tgt := 56) dX7_mayBegin_1 (by rw [c23]; decide) (by rw [c23]; decide) (by rw [c23]; rfl) rfl ?_
    refine xe_aload_n dX7_mayBegin_56 rfl ?_
    refine xe_getR (b := l) dX7_mayBegin_57 flX7_37 kk9 (xKK_lt kk9) rfl hm_reader ?_
    refine xe_getI dX7_mayBegin_60 flX7_112 h_l.k0 (xKK_lt h_l.k0) rfl ?_
    refine xe_bipush (v := 12) dX7_mayBegin_63 rfl ?_
    have K7 : xEv g (d + 1) mX7_mayBegin 73 [some (.ref 9), some (.int i1)] [.int (xb (¬ ((12 : Int32) ≤ (u l 1))))] 698 u w r 698 P := by
      exact xe_ireturn dX7_mayBegin_73 (xrokZ (xb01 _)) k
    refine xe_icmp_ge (tgt := 72) dX7_mayBegin_65 rfl (fun c5 => ?_) (fun c6 => ?_)
    · refine xe_iconst (v := 0) dX7_mayBegin_72 rfl ?_
      exact xtop (xb_neg (p := ¬ ((12 : Int32) ≤ (u l 1))) (fun q => q c5)) K7
    · refine xe_iconst (v := 1) dX7_mayBegin_68 rfl ?_
      refine xe_goto (tgt := 73) dX7_mayBegin_69 rfl ?_
      exact xtop (xb_pos (show ¬ ((12 : Int32) ≤ (u l 1)) from (fun q => (c6 q)))) K7
  by_cases c24 : i1 = 17
  · have k := k.2.2.1 c24
    refine xe_tableIn (tgt := 74) dX7_mayBegin_1 (by rw [c24]; decide) (by rw [c24]; decide) (by rw [c24]; rfl) rfl ?_
    refine xe_aload_n dX7_mayBegin_74 rfl ?_
    refine xe_getR (b := 18) dX7_mayBegin_75 flX7_27 kk9 (xKK_lt kk9) rfl (rf9_2 hr) ?_
    refine xe_callV (args := []) dX7_mayBegin_78 vlX7_108 rfl rfl (Nat.le_of_ble_eq_true rfl) nm18.k0 (xKK_lt nm18.k0) rfl rfl k (Nat.le_refl _) (fun rv8 u8 w8 r8 k => ?_)
    obtain ⟨v8, rfl, rfl, rfl, rfl, k⟩ := k
    have K11 : xEv g (d + 1) mX7_mayBegin 89 [some (.ref 9), some (.int i1)] [.int (xb (v8 = 0))] 698 u w r 698 P := by
      exact xe_ireturn dX7_mayBegin_89 (xrokZ (xb01 _)) k
    refine xe_if_ne (tgt := 88) dX7_mayBegin_81 rfl (fun c9 => ?_) (fun c10 => ?_)
    · refine xe_iconst (v := 0) dX7_mayBegin_88 rfl ?_
      exact xtop (xb_neg (show ¬ (v8 = 0) from (fun q => (c9 q)))) K11
    · refine xe_iconst (v := 1) dX7_mayBegin_84 rfl ?_
      refine xe_goto (tgt := 89) dX7_mayBegin_85 rfl ?_
      exact xtop (xb_pos (show v8 = 0 from c10)) K11
  by_cases c25 : i1 = 18
  · have k := k.2.2.2.1 c25
    refine xe_tableIn (tgt := 90) dX7_mayBegin_1 (by rw [c25]; decide) (by rw [c25]; decide) (by rw [c25]; rfl) rfl ?_
    refine xe_aload_n dX7_mayBegin_90 rfl ?_
    refine xe_getR (b := 20) dX7_mayBegin_91 flX7_30 kk9 (xKK_lt kk9) rfl (rf9_3 hr) ?_
    refine xe_callV (args := []) dX7_mayBegin_94 vlX7_108 rfl rfl (Nat.le_of_ble_eq_true rfl) nm20.k0 (xKK_lt nm20.k0) rfl rfl k (Nat.le_refl _) (fun rv12 u12 w12 r12 k => ?_)
    obtain ⟨v12, rfl, rfl, rfl, rfl, k⟩ := k
    have K15 : xEv g (d + 1) mX7_mayBegin 105 [some (.ref 9), some (.int i1)] [.int (xb (v12 = 0))] 698 u w r 698 P := by
      exact xe_ireturn dX7_mayBegin_105 (xrokZ (xb01 _)) k
    refine xe_if_ne (tgt := 104) dX7_mayBegin_97 rfl (fun c13 => ?_) (fun c14 => ?_)
    · refine xe_iconst (v := 0) dX7_mayBegin_104 rfl ?_
      exact xtop (xb_neg (show ¬ (v12 = 0) from (fun q => (c13 q)))) K15
    · refine xe_iconst (v := 1) dX7_mayBegin_100 rfl ?_
      refine xe_goto (tgt := 105) dX7_mayBegin_101 rfl ?_
      exact xtop (xb_pos (show v12 = 0 from c14)) K15
  by_cases c26 : i1 = 19
  · have k := k.2.2.2.2.1 c26
    refine xe_tableIn (tgt := 106) dX7_mayBegin_1 (by rw [c26]; decide) (by rw [c26]; decide) (by rw [c26]; rfl) rfl ?_
    refine xe_aload_n dX7_mayBegin_106 rfl ?_
    refine xe_getI dX7_mayBegin_107 flX7_49 kk9 (xKK_lt kk9) rfl ?_
    have K18 : xEv g (d + 1) mX7_mayBegin 118 [some (.ref 9), some (.int i1)] [.int (xb ((u 9 5) = 0))] 698 u w r 698 P := by
      exact xe_ireturn dX7_mayBegin_118 (xrokZ (xb01 _)) k
    refine xe_if_ne (tgt := 117) dX7_mayBegin_110 rfl (fun c16 => ?_) (fun c17 => ?_)
    · refine xe_iconst (v := 0) dX7_mayBegin_117 rfl ?_
      exact xtop (xb_neg (show ¬ ((u 9 5) = 0) from (fun q => (c16 q)))) K18
    · refine xe_iconst (v := 1) dX7_mayBegin_113 rfl ?_
      refine xe_goto (tgt := 118) dX7_mayBegin_114 rfl ?_
      exact xtop (xb_pos (show (u 9 5) = 0 from c17)) K18
  by_cases c27 : i1 = 20
  · have k := k.2.2.2.2.2.1 c27
    refine xe_tableIn (tgt := 119) dX7_mayBegin_1 (by rw [c27]; decide) (by rw [c27]; decide) (by rw [c27]; rfl) rfl ?_
    refine xe_aload_n dX7_mayBegin_119 rfl ?_
    refine xe_getI dX7_mayBegin_120 flX7_53 kk9 (xKK_lt kk9) rfl ?_
    have K21 : xEv g (d + 1) mX7_mayBegin 131 [some (.ref 9), some (.int i1)] [.int (xb ((u 9 6) = 0))] 698 u w r 698 P := by
      exact xe_ireturn dX7_mayBegin_131 (xrokZ (xb01 _)) k
    refine xe_if_ne (tgt := 130) dX7_mayBegin_123 rfl (fun c19 => ?_) (fun c20 => ?_)
    · refine xe_iconst (v := 0) dX7_mayBegin_130 rfl ?_
      exact xtop (xb_neg (show ¬ ((u 9 6) = 0) from (fun q => (c19 q)))) K21
    · refine xe_iconst (v := 1) dX7_mayBegin_126 rfl ?_
      refine xe_goto (tgt := 131) dX7_mayBegin_127 rfl ?_
      exact xtop (xb_pos (show (u 9 6) = 0 from c20)) K21
  have k := k.2.2.2.2.2.2 c22 c23 c24 c25 c26 c27
  have K28 : xEv g (d + 1) mX7_mayBegin 132 [some (.ref 9), some (.int i1)] [] 698 u w r 698 P := by
    refine xe_iconst (v := 0) dX7_mayBegin_132 rfl ?_
    exact xe_ireturn dX7_mayBegin_133 (xrokZ (Or.inl rfl)) k
  by_cases hlo : i1.toInt < 15 ∨ 20 < i1.toInt
  · exact xe_tableOut (tgt := 132) dX7_mayBegin_1 hlo rfl K28
  · exact absurd (xsw_15_20_6 c22 c23 c24 c25 c26 c27 hlo) (fun h => h)

theorem CX7_mayBegin {g : xGT} {d : Nat} {i1 : Int32} {l : Nat} {u : xU} {w : xW} {r : xQ} {P : xPost} (hr : xRf r) (h_l : xLd l) (hm_reader : r 9 4 = some l)
    (k : (i1 = 15 → xCall g d mX5_isFull [.ref 16] 698 u w r 698 (fun rv1 u1 w1 r1 => ∃ v1 : Int32, rv1 = some (.int v1) ∧ u = u1 ∧ w = w1 ∧ r = r1 ∧ P (some (.int (xb (v1 = 0)))) u w r)) ∧ (i1 = 16 → P (some (.int (xb (¬ ((12 : Int32) ≤ (u l 1)))))) u w r) ∧ (i1 = 17 → xCall g d mX5_isFull [.ref 18] 698 u w r 698 (fun rv8 u8 w8 r8 => ∃ v8 : Int32, rv8 = some (.int v8) ∧ u = u8 ∧ w = w8 ∧ r = r8 ∧ P (some (.int (xb (v8 = 0)))) u w r)) ∧ (i1 = 18 → xCall g d mX5_isFull [.ref 20] 698 u w r 698 (fun rv12 u12 w12 r12 => ∃ v12 : Int32, rv12 = some (.int v12) ∧ u = u12 ∧ w = w12 ∧ r = r12 ∧ P (some (.int (xb (v12 = 0)))) u w r)) ∧ (i1 = 19 → P (some (.int (xb ((u 9 5) = 0)))) u w r) ∧ (i1 = 20 → P (some (.int (xb ((u 9 6) = 0)))) u w r) ∧ (¬ i1 = 15 → ¬ i1 = 16 → ¬ i1 = 17 → ¬ i1 = 18 → ¬ i1 = 19 → ¬ i1 = 20 → P (some (.int (0 : Int32))) u w r)) :
    xCall g (d + 1) mX7_mayBegin [.ref 9, .int i1] 698 u w r 698 P :=
  xCall.of plX7 (Nat.le_of_ble_eq_true rfl) rfl (TX7_mayBegin_0 hr h_l hm_reader k)

/-! Reader.readWay -/

theorem TX7_readWay_0 {g : xGT} {d : Nat} {l : Nat} {u : xU} {w : xW} {r : xQ} {P : xPost} (h_l : xLd l) (hm_reader : r 9 4 = some l)
    (k : xCall g d mX7_readVillage [.ref 9, .int (-1 : Int32)] 698 u w r 698 (fun rv1 u1 w1 r1 => ∃ v1 : Int32, rv1 = some (.int v1) ∧ w = w1 ∧ r = r1 ∧ xCall g d mX7_readVillage [.ref 9, .int v1] 698 u1 w r 698 (fun rv2 u2 w2 r2 => ∃ v2 : Int32, rv2 = some (.int v2) ∧ w = w2 ∧ r = r2 ∧ ((u2 9 8) = 0 → xCall g d mX2_hasWay [.ref l, .int v1, .int v2] 698 u2 w r 698 (fun rv5 u5 w5 r5 => ∃ v5 : Int32, rv5 = some (.int v5) ∧ u2 = u5 ∧ w = w5 ∧ r = r5 ∧ (v5 = 0 → xEv g (d + 1) mX7_readWay 46 [some (.ref 9), some (.int v1), none, some (.int v2), none] [] 698 u2 w r 698 P) ∧ (¬ (v5 = 0) → xCall g d mX7_fail [.ref 9, .int (3 : Int32)] 698 (x2 u2 9 7 (u1 9 7)) w r 698 (fun rv8 u8 w8 r8 => rv8 = none ∧ w = w8 ∧ r = r8 ∧ xEv g (d + 1) mX7_readWay 46 [some (.ref 9), some (.int v1), none, some (.int v2), none] [] 698 u8 w r 698 P)))) ∧ (¬ ((u2 9 8) = 0) → xEv g (d + 1) mX7_readWay 46 [some (.ref 9), some (.int v1), none, some (.int v2), none] [] 698 u2 w r 698 P)))) :
    xEv g (d + 1) mX7_readWay 0 [some (.ref 9), none, none, none, none] [] 698 u w r 698 P := by
  refine xe_aload_n dX7_readWay_0 rfl ?_
  refine xe_iconst (v := -1) dX7_readWay_1 rfl ?_
  refine xe_callV (args := [.int (-1 : Int32)]) dX7_readWay_2 vlX7_115 rfl rfl (Nat.le_of_ble_eq_true rfl) kk9 (xKK_lt kk9) rfl rfl k (Nat.le_refl _) (fun rv1 u1 w1 r1 k => ?_)
  obtain ⟨v1, rfl, rfl, rfl, k⟩ := k
  refine xe_istore_n (ls' := [some (.ref 9), some (.int v1), none, none, none]) dX7_readWay_5 rfl (by decide) rfl ?_
  refine xe_aload_n dX7_readWay_6 rfl ?_
  refine xe_getI dX7_readWay_7 flX7_56 kk9 (xKK_lt kk9) rfl ?_
  refine xe_istore_n (ls' := [some (.ref 9), some (.int v1), some (.int (u1 9 7)), none, none]) dX7_readWay_10 rfl (by decide) rfl ?_
  refine xe_aload_n dX7_readWay_11 rfl ?_
  refine xe_iload_n dX7_readWay_12 rfl ?_
  refine xe_callV (args := [.int v1]) dX7_readWay_13 vlX7_115 rfl rfl (Nat.le_of_ble_eq_true rfl) kk9 (xKK_lt kk9) rfl rfl k (Nat.le_refl _) (fun rv2 u2 w2 r2 k => ?_)
  obtain ⟨v2, rfl, rfl, rfl, k⟩ := k
  refine xe_istore_n (ls' := [some (.ref 9), some (.int v1), some (.int (u1 9 7)), some (.int v2), none]) dX7_readWay_16 rfl (by decide) rfl ?_
  refine xe_aload_n dX7_readWay_17 rfl ?_
  refine xe_getI dX7_readWay_18 flX7_59 kk9 (xKK_lt kk9) rfl ?_
  refine xe_if_ne (tgt := 46) dX7_readWay_21 rfl (fun c3 => ?_) (fun c4 => ?_)
  · have k := k.2 (fun q => (c3 q))
    exact xEv.fewer (ls' := [some (.ref 9), some (.int v1), none, some (.int v2), none]) k (xfw_get (xfw_s (xfw_s (xfw_n (xfw_s (xfw_n (xfw_nil _)))))))
  · have k := k.1 c4
    refine xe_aload_n dX7_readWay_24 rfl ?_
    refine xe_getR (b := l) dX7_readWay_25 flX7_37 kk9 (xKK_lt kk9) rfl hm_reader ?_
    refine xe_iload_n dX7_readWay_28 rfl ?_
    refine xe_iload_n dX7_readWay_29 rfl ?_
    refine xe_callV (args := [.int v1, .int v2]) dX7_readWay_30 vlX7_118 rfl rfl (Nat.le_of_ble_eq_true rfl) h_l.k0 (xKK_lt h_l.k0) rfl rfl k (Nat.le_refl _) (fun rv5 u5 w5 r5 k => ?_)
    obtain ⟨v5, rfl, rfl, rfl, rfl, k⟩ := k
    refine xe_if_eq (tgt := 46) dX7_readWay_33 rfl (fun c6 => ?_) (fun c7 => ?_)
    · have k := k.1 c6
      exact xEv.fewer (ls' := [some (.ref 9), some (.int v1), none, some (.int v2), none]) k (xfw_get (xfw_s (xfw_s (xfw_n (xfw_s (xfw_n (xfw_nil _)))))))
    · have k := k.2 (fun q => (c7 q))
      refine xe_aload_n dX7_readWay_36 rfl ?_
      refine xe_iload_n dX7_readWay_37 rfl ?_
      refine xe_putI dX7_readWay_38 flX7_56 kk9 (xKK_lt kk9) nf7_7 rfl ?_
      refine xe_aload_n dX7_readWay_41 rfl ?_
      refine xe_iconst (v := 3) dX7_readWay_42 rfl ?_
      refine xe_callV (args := [.int (3 : Int32)]) dX7_readWay_43 vlX7_79 rfl rfl (Nat.le_of_ble_eq_true rfl) kk9 (xKK_lt kk9) rfl rfl k (Nat.le_refl _) (fun rv8 u8 w8 r8 k => ?_)
      obtain ⟨rfl, rfl, rfl, k⟩ := k
      exact xEv.fewer (ls' := [some (.ref 9), some (.int v1), none, some (.int v2), none]) k (xfw_get (xfw_s (xfw_s (xfw_n (xfw_s (xfw_n (xfw_nil _)))))))

theorem CX7_readWay {g : xGT} {d : Nat} {l : Nat} {u : xU} {w : xW} {r : xQ} {P : xPost} (h_l : xLd l) (hm_reader : r 9 4 = some l)
    (k : xCall g d mX7_readVillage [.ref 9, .int (-1 : Int32)] 698 u w r 698 (fun rv1 u1 w1 r1 => ∃ v1 : Int32, rv1 = some (.int v1) ∧ w = w1 ∧ r = r1 ∧ xCall g d mX7_readVillage [.ref 9, .int v1] 698 u1 w r 698 (fun rv2 u2 w2 r2 => ∃ v2 : Int32, rv2 = some (.int v2) ∧ w = w2 ∧ r = r2 ∧ ((u2 9 8) = 0 → xCall g d mX2_hasWay [.ref l, .int v1, .int v2] 698 u2 w r 698 (fun rv5 u5 w5 r5 => ∃ v5 : Int32, rv5 = some (.int v5) ∧ u2 = u5 ∧ w = w5 ∧ r = r5 ∧ (v5 = 0 → xEv g (d + 1) mX7_readWay 46 [some (.ref 9), some (.int v1), none, some (.int v2), none] [] 698 u2 w r 698 P) ∧ (¬ (v5 = 0) → xCall g d mX7_fail [.ref 9, .int (3 : Int32)] 698 (x2 u2 9 7 (u1 9 7)) w r 698 (fun rv8 u8 w8 r8 => rv8 = none ∧ w = w8 ∧ r = r8 ∧ xEv g (d + 1) mX7_readWay 46 [some (.ref 9), some (.int v1), none, some (.int v2), none] [] 698 u8 w r 698 P)))) ∧ (¬ ((u2 9 8) = 0) → xEv g (d + 1) mX7_readWay 46 [some (.ref 9), some (.int v1), none, some (.int v2), none] [] 698 u2 w r 698 P)))) :
    xCall g (d + 1) mX7_readWay [.ref 9] 698 u w r 698 P :=
  xCall.of plX7 (Nat.le_of_ble_eq_true rfl) rfl (TX7_readWay_0 h_l hm_reader k)

theorem TX7_readWay_46 {g : xGT} {d : Nat} {i1 i3 : Int32} {l : Nat} {u : xU} {w : xW} {r : xQ} {P : xPost} (h_l : xLd l) (hm_reader : r 9 4 = some l)
    (k : xCall g d mX7_readNumber [.ref 9, .int (1 : Int32), .int (9 : Int32)] 698 u w r 698 (fun rv9 u9 w9 r9 => ∃ v9 : Int32, rv9 = some (.int v9) ∧ w = w9 ∧ r = r9 ∧ ((u9 9 8) = 0 → xCall g d mX2_addWay [.ref l, .int i1, .int i3, .int v9] 698 u9 w r 698 (fun rv12 u12 w12 r12 => rv12 = none ∧ w = w12 ∧ r = r12 ∧ P none u12 w r)) ∧ (¬ ((u9 9 8) = 0) → P none u9 w r))) :
    xEv g (d + 1) mX7_readWay 46 [some (.ref 9), some (.int i1), none, some (.int i3), none] [] 698 u w r 698 P := by
  refine xe_aload_n dX7_readWay_46 rfl ?_
  refine xe_iconst (v := 1) dX7_readWay_47 rfl ?_
  refine xe_bipush (v := 9) dX7_readWay_48 rfl ?_
  refine xe_callV (args := [.int (1 : Int32), .int (9 : Int32)]) dX7_readWay_50 vlX7_122 rfl rfl (Nat.le_of_ble_eq_true rfl) kk9 (xKK_lt kk9) rfl rfl k (Nat.le_refl _) (fun rv9 u9 w9 r9 k => ?_)
  obtain ⟨v9, rfl, rfl, rfl, k⟩ := k
  refine xe_istore (ls' := [some (.ref 9), some (.int i1), none, some (.int i3), some (.int v9)]) dX7_readWay_53 (by decide) rfl ?_
  refine xe_aload_n dX7_readWay_55 rfl ?_
  refine xe_getI dX7_readWay_56 flX7_59 kk9 (xKK_lt kk9) rfl ?_
  refine xe_if_ne (tgt := 73) dX7_readWay_59 rfl (fun c10 => ?_) (fun c11 => ?_)
  · have k := k.2 (fun q => (c10 q))
    exact xe_return dX7_readWay_73 trivial k
  · have k := k.1 c11
    refine xe_aload_n dX7_readWay_62 rfl ?_
    refine xe_getR (b := l) dX7_readWay_63 flX7_37 kk9 (xKK_lt kk9) rfl hm_reader ?_
    refine xe_iload_n dX7_readWay_66 rfl ?_
    refine xe_iload_n dX7_readWay_67 rfl ?_
    refine xe_iload dX7_readWay_68 rfl ?_
    refine xe_callV (args := [.int i1, .int i3, .int v9]) dX7_readWay_70 vlX7_126 rfl rfl (Nat.le_of_ble_eq_true rfl) h_l.k0 (xKK_lt h_l.k0) rfl rfl k (Nat.le_refl _) (fun rv12 u12 w12 r12 k => ?_)
    obtain ⟨rfl, rfl, rfl, k⟩ := k
    exact xe_return dX7_readWay_73 trivial k

/-! Reader.readBier -/

theorem TX7_readBier_0 {g : xGT} {d : Nat} {u : xU} {w : xW} {r : xQ} {P : xPost} (hr : xRf r)
    (k : xCall g d mX7_readNewName [.ref 9, .ref 18] 698 u w r 698 (fun rv1 u1 w1 r1 => rv1 = none ∧ r = r1 ∧ xCall g d mX7_want [.ref 9, .int (21 : Int32)] 698 u1 w1 r 698 (fun rv2 u2 w2 r2 => rv2 = none ∧ w1 = w2 ∧ r = r2 ∧ xCall g d mX7_readVillage [.ref 9, .int (-1 : Int32)] 698 u2 w1 r 698 (fun rv3 u3 w3 r3 => ∃ v3 : Int32, rv3 = some (.int v3) ∧ w1 = w3 ∧ r = r3 ∧ xCall g d mX7_want [.ref 9, .int (22 : Int32)] 698 u3 w1 r 698 (fun rv4 u4 w4 r4 => rv4 = none ∧ w1 = w4 ∧ r = r4 ∧ xCall g d mX7_readVillage [.ref 9, .int v3] 698 u4 w1 r 698 (fun rv5 u5 w5 r5 => ∃ v5 : Int32, rv5 = some (.int v5) ∧ w1 = w5 ∧ r = r5 ∧ xCall g d mX7_want [.ref 9, .int (23 : Int32)] 698 u5 w1 r 698 (fun rv6 u6 w6 r6 => rv6 = none ∧ w1 = w6 ∧ r = r6 ∧ xCall g d mX7_readNumber [.ref 9, .int (0 : Int32), .int (60 : Int32)] 698 u6 w1 r 698 (fun rv7 u7 w7 r7 => ∃ v7 : Int32, rv7 = some (.int v7) ∧ w1 = w7 ∧ r = r7 ∧ xCall g d mX7_sees [.ref 9, .int (24 : Int32)] 698 u7 w1 r 698 (fun rv8 u8 w8 r8 => ∃ v8 : Int32, rv8 = some (.int v8) ∧ u7 = u8 ∧ w1 = w8 ∧ r = r8 ∧ (v8 = 0 → xEv g (d + 1) mX7_readBier 77 [some (.ref 9), some (.int v3), some (.int v5), some (.int v7), some (.int (2 : Int32))] [] 698 u7 w1 r 698 P) ∧ (¬ (v8 = 0) → xCall g d mX7_readNumber [.ref 9, .int (1 : Int32), .int (9 : Int32)] 698 (x2 u7 9 7 ((u7 9 7) + (1 : Int32))) w1 r 698 (fun rv11 u11 w11 r11 => ∃ v11 : Int32, rv11 = some (.int v11) ∧ w1 = w11 ∧ r = r11 ∧ xEv g (d + 1) mX7_readBier 77 [some (.ref 9), some (.int v3), some (.int v5), some (.int v7), some (.int v11)] [] 698 u11 w1 r 698 P))))))))))) :
    xEv g (d + 1) mX7_readBier 0 [some (.ref 9), none, none, none, none] [] 698 u w r 698 P := by
  refine xe_aload_n dX7_readBier_0 rfl ?_
  refine xe_aload_n dX7_readBier_1 rfl ?_
  refine xe_getR (b := 18) dX7_readBier_2 flX7_27 kk9 (xKK_lt kk9) rfl (rf9_2 hr) ?_
  refine xe_callV (args := [.ref 18]) dX7_readBier_5 vlX7_82 rfl rfl (Nat.le_of_ble_eq_true rfl) kk9 (xKK_lt kk9) rfl rfl k (Nat.le_refl _) (fun rv1 u1 w1 r1 k => ?_)
  obtain ⟨rfl, rfl, k⟩ := k
  refine xe_aload_n dX7_readBier_8 rfl ?_
  refine xe_bipush (v := 21) dX7_readBier_9 rfl ?_
  refine xe_callV (args := [.int (21 : Int32)]) dX7_readBier_11 vlX7_105 rfl rfl (Nat.le_of_ble_eq_true rfl) kk9 (xKK_lt kk9) rfl rfl k (Nat.le_refl _) (fun rv2 u2 w2 r2 k => ?_)
  obtain ⟨rfl, rfl, rfl, k⟩ := k
  refine xe_aload_n dX7_readBier_14 rfl ?_
  refine xe_iconst (v := -1) dX7_readBier_15 rfl ?_
  refine xe_callV (args := [.int (-1 : Int32)]) dX7_readBier_16 vlX7_115 rfl rfl (Nat.le_of_ble_eq_true rfl) kk9 (xKK_lt kk9) rfl rfl k (Nat.le_refl _) (fun rv3 u3 w3 r3 k => ?_)
  obtain ⟨v3, rfl, rfl, rfl, k⟩ := k
  refine xe_istore_n (ls' := [some (.ref 9), some (.int v3), none, none, none]) dX7_readBier_19 rfl (by decide) rfl ?_
  refine xe_aload_n dX7_readBier_20 rfl ?_
  refine xe_bipush (v := 22) dX7_readBier_21 rfl ?_
  refine xe_callV (args := [.int (22 : Int32)]) dX7_readBier_23 vlX7_105 rfl rfl (Nat.le_of_ble_eq_true rfl) kk9 (xKK_lt kk9) rfl rfl k (Nat.le_refl _) (fun rv4 u4 w4 r4 k => ?_)
  obtain ⟨rfl, rfl, rfl, k⟩ := k
  refine xe_aload_n dX7_readBier_26 rfl ?_
  refine xe_iload_n dX7_readBier_27 rfl ?_
  refine xe_callV (args := [.int v3]) dX7_readBier_28 vlX7_115 rfl rfl (Nat.le_of_ble_eq_true rfl) kk9 (xKK_lt kk9) rfl rfl k (Nat.le_refl _) (fun rv5 u5 w5 r5 k => ?_)
  obtain ⟨v5, rfl, rfl, rfl, k⟩ := k
  refine xe_istore_n (ls' := [some (.ref 9), some (.int v3), some (.int v5), none, none]) dX7_readBier_31 rfl (by decide) rfl ?_
  refine xe_aload_n dX7_readBier_32 rfl ?_
  refine xe_bipush (v := 23) dX7_readBier_33 rfl ?_
  refine xe_callV (args := [.int (23 : Int32)]) dX7_readBier_35 vlX7_105 rfl rfl (Nat.le_of_ble_eq_true rfl) kk9 (xKK_lt kk9) rfl rfl k (Nat.le_refl _) (fun rv6 u6 w6 r6 k => ?_)
  obtain ⟨rfl, rfl, rfl, k⟩ := k
  refine xe_aload_n dX7_readBier_38 rfl ?_
  refine xe_iconst (v := 0) dX7_readBier_39 rfl ?_
  refine xe_bipush (v := 60) dX7_readBier_40 rfl ?_
  refine xe_callV (args := [.int (0 : Int32), .int (60 : Int32)]) dX7_readBier_42 vlX7_122 rfl rfl (Nat.le_of_ble_eq_true rfl) kk9 (xKK_lt kk9) rfl rfl k (Nat.le_refl _) (fun rv7 u7 w7 r7 k => ?_)
  obtain ⟨v7, rfl, rfl, rfl, k⟩ := k
  refine xe_istore_n (ls' := [some (.ref 9), some (.int v3), some (.int v5), some (.int v7), none]) dX7_readBier_45 rfl (by decide) rfl ?_
  refine xe_iconst (v := 2) dX7_readBier_46 rfl ?_
  refine xe_istore (ls' := [some (.ref 9), some (.int v3), some (.int v5), some (.int v7), some (.int (2 : Int32))]) dX7_readBier_47 (by decide) rfl ?_
  refine xe_aload_n dX7_readBier_49 rfl ?_
  refine xe_bipush (v := 24) dX7_readBier_50 rfl ?_
  refine xe_callV (args := [.int (24 : Int32)]) dX7_readBier_52 vlX7_65 rfl rfl (Nat.le_of_ble_eq_true rfl) kk9 (xKK_lt kk9) rfl rfl k (Nat.le_refl _) (fun rv8 u8 w8 r8 k => ?_)
  obtain ⟨v8, rfl, rfl, rfl, rfl, k⟩ := k
  refine xe_if_eq (tgt := 77) dX7_readBier_55 rfl (fun c9 => ?_) (fun c10 => ?_)
  · have k := k.1 c9
    exact k
  · have k := k.2 (fun q => (c10 q))
    refine xe_aload_n dX7_readBier_58 rfl ?_
    refine xe_dup dX7_readBier_59 rfl ?_
    refine xe_getI dX7_readBier_60 flX7_56 kk9 (xKK_lt kk9) rfl ?_
    refine xe_iconst (v := 1) dX7_readBier_63 rfl ?_
    refine xe_iadd dX7_readBier_64 ?_
    refine xe_putI dX7_readBier_65 flX7_56 kk9 (xKK_lt kk9) nf7_7 rfl ?_
    refine xe_aload_n dX7_readBier_68 rfl ?_
    refine xe_iconst (v := 1) dX7_readBier_69 rfl ?_
    refine xe_bipush (v := 9) dX7_readBier_70 rfl ?_
    refine xe_callV (args := [.int (1 : Int32), .int (9 : Int32)]) dX7_readBier_72 vlX7_122 rfl rfl (Nat.le_of_ble_eq_true rfl) kk9 (xKK_lt kk9) rfl rfl k (Nat.le_refl _) (fun rv11 u11 w11 r11 k => ?_)
    obtain ⟨v11, rfl, rfl, rfl, k⟩ := k
    refine xe_istore (ls' := [some (.ref 9), some (.int v3), some (.int v5), some (.int v7), some (.int v11)]) dX7_readBier_75 (by decide) rfl ?_
    exact k

theorem CX7_readBier {g : xGT} {d : Nat} {u : xU} {w : xW} {r : xQ} {P : xPost} (hr : xRf r)
    (k : xCall g d mX7_readNewName [.ref 9, .ref 18] 698 u w r 698 (fun rv1 u1 w1 r1 => rv1 = none ∧ r = r1 ∧ xCall g d mX7_want [.ref 9, .int (21 : Int32)] 698 u1 w1 r 698 (fun rv2 u2 w2 r2 => rv2 = none ∧ w1 = w2 ∧ r = r2 ∧ xCall g d mX7_readVillage [.ref 9, .int (-1 : Int32)] 698 u2 w1 r 698 (fun rv3 u3 w3 r3 => ∃ v3 : Int32, rv3 = some (.int v3) ∧ w1 = w3 ∧ r = r3 ∧ xCall g d mX7_want [.ref 9, .int (22 : Int32)] 698 u3 w1 r 698 (fun rv4 u4 w4 r4 => rv4 = none ∧ w1 = w4 ∧ r = r4 ∧ xCall g d mX7_readVillage [.ref 9, .int v3] 698 u4 w1 r 698 (fun rv5 u5 w5 r5 => ∃ v5 : Int32, rv5 = some (.int v5) ∧ w1 = w5 ∧ r = r5 ∧ xCall g d mX7_want [.ref 9, .int (23 : Int32)] 698 u5 w1 r 698 (fun rv6 u6 w6 r6 => rv6 = none ∧ w1 = w6 ∧ r = r6 ∧ xCall g d mX7_readNumber [.ref 9, .int (0 : Int32), .int (60 : Int32)] 698 u6 w1 r 698 (fun rv7 u7 w7 r7 => ∃ v7 : Int32, rv7 = some (.int v7) ∧ w1 = w7 ∧ r = r7 ∧ xCall g d mX7_sees [.ref 9, .int (24 : Int32)] 698 u7 w1 r 698 (fun rv8 u8 w8 r8 => ∃ v8 : Int32, rv8 = some (.int v8) ∧ u7 = u8 ∧ w1 = w8 ∧ r = r8 ∧ (v8 = 0 → xEv g (d + 1) mX7_readBier 77 [some (.ref 9), some (.int v3), some (.int v5), some (.int v7), some (.int (2 : Int32))] [] 698 u7 w1 r 698 P) ∧ (¬ (v8 = 0) → xCall g d mX7_readNumber [.ref 9, .int (1 : Int32), .int (9 : Int32)] 698 (x2 u7 9 7 ((u7 9 7) + (1 : Int32))) w1 r 698 (fun rv11 u11 w11 r11 => ∃ v11 : Int32, rv11 = some (.int v11) ∧ w1 = w11 ∧ r = r11 ∧ xEv g (d + 1) mX7_readBier 77 [some (.ref 9), some (.int v3), some (.int v5), some (.int v7), some (.int v11)] [] 698 u11 w1 r 698 P))))))))))) :
    xCall g (d + 1) mX7_readBier [.ref 9] 698 u w r 698 P :=
  xCall.of plX7 (Nat.le_of_ble_eq_true rfl) rfl (TX7_readBier_0 hr k)

theorem TX7_readBier_77 {g : xGT} {d : Nat} {i1 i2 i3 i4 : Int32} {l : Nat} {u : xU} {w : xW} {r : xQ} {P : xPost} (h_l : xLd l) (hm_reader : r 9 4 = some l)
    (k : ((u 9 8) = 0 → xCall g d mX2_addBier [.ref l, .int i1, .int i2, .int i3, .int i4] 698 u w r 698 (fun rv14 u14 w14 r14 => rv14 = none ∧ w = w14 ∧ r = r14 ∧ P none u14 w r)) ∧ (¬ ((u 9 8) = 0) → P none u w r)) :
    xEv g (d + 1) mX7_readBier 77 [some (.ref 9), some (.int i1), some (.int i2), some (.int i3), some (.int i4)] [] 698 u w r 698 P := by
  refine xe_aload_n dX7_readBier_77 rfl ?_
  refine xe_getI dX7_readBier_78 flX7_59 kk9 (xKK_lt kk9) rfl ?_
  refine xe_if_ne (tgt := 96) dX7_readBier_81 rfl (fun c12 => ?_) (fun c13 => ?_)
  · have k := k.2 (fun q => (c12 q))
    exact xe_return dX7_readBier_96 trivial k
  · have k := k.1 c13
    refine xe_aload_n dX7_readBier_84 rfl ?_
    refine xe_getR (b := l) dX7_readBier_85 flX7_37 kk9 (xKK_lt kk9) rfl hm_reader ?_
    refine xe_iload_n dX7_readBier_88 rfl ?_
    refine xe_iload_n dX7_readBier_89 rfl ?_
    refine xe_iload_n dX7_readBier_90 rfl ?_
    refine xe_iload dX7_readBier_91 rfl ?_
    refine xe_callV (args := [.int i1, .int i2, .int i3, .int i4]) dX7_readBier_93 vlX7_130 rfl rfl (Nat.le_of_ble_eq_true rfl) h_l.k0 (xKK_lt h_l.k0) rfl rfl k (Nat.le_refl _) (fun rv14 u14 w14 r14 k => ?_)
    obtain ⟨rfl, rfl, rfl, k⟩ := k
    exact xe_return dX7_readBier_96 trivial k

/-! Reader.readLetter -/

theorem TX7_readLetter_0 {g : xGT} {d : Nat} {u : xU} {w : xW} {r : xQ} {P : xPost} (hr : xRf r)
    (k : xCall g d mX7_readNewName [.ref 9, .ref 20] 698 u w r 698 (fun rv1 u1 w1 r1 => rv1 = none ∧ r = r1 ∧ xCall g d mX7_want [.ref 9, .int (25 : Int32)] 698 u1 w1 r 698 (fun rv2 u2 w2 r2 => rv2 = none ∧ w1 = w2 ∧ r = r2 ∧ xCall g d mX7_readVillage [.ref 9, .int (-1 : Int32)] 698 u2 w1 r 698 (fun rv3 u3 w3 r3 => ∃ v3 : Int32, rv3 = some (.int v3) ∧ w1 = w3 ∧ r = r3 ∧ xCall g d mX7_want [.ref 9, .int (22 : Int32)] 698 u3 w1 r 698 (fun rv4 u4 w4 r4 => rv4 = none ∧ w1 = w4 ∧ r = r4 ∧ xCall g d mX7_readVillage [.ref 9, .int v3] 698 u4 w1 r 698 (fun rv5 u5 w5 r5 => ∃ v5 : Int32, rv5 = some (.int v5) ∧ w1 = w5 ∧ r = r5 ∧ xCall g d mX7_sees [.ref 9, .int (26 : Int32)] 698 u5 w1 r 698 (fun rv6 u6 w6 r6 => ∃ v6 : Int32, rv6 = some (.int v6) ∧ u5 = u6 ∧ w1 = w6 ∧ r = r6 ∧ (v6 = 0 → xEv g (d + 1) mX7_readLetter 64 [some (.ref 9), some (.int v3), some (.int v5), some (.int (200 : Int32)), none] [] 698 u5 w1 r 698 P) ∧ (¬ (v6 = 0) → xCall g d mX7_readNumber [.ref 9, .int (0 : Int32), .int (200 : Int32)] 698 (x2 u5 9 7 ((u5 9 7) + (1 : Int32))) w1 r 698 (fun rv9 u9 w9 r9 => ∃ v9 : Int32, rv9 = some (.int v9) ∧ w1 = w9 ∧ r = r9 ∧ xEv g (d + 1) mX7_readLetter 64 [some (.ref 9), some (.int v3), some (.int v5), some (.int v9), none] [] 698 u9 w1 r 698 P))))))))) :
    xEv g (d + 1) mX7_readLetter 0 [some (.ref 9), none, none, none, none] [] 698 u w r 698 P := by
  refine xe_aload_n dX7_readLetter_0 rfl ?_
  refine xe_aload_n dX7_readLetter_1 rfl ?_
  refine xe_getR (b := 20) dX7_readLetter_2 flX7_30 kk9 (xKK_lt kk9) rfl (rf9_3 hr) ?_
  refine xe_callV (args := [.ref 20]) dX7_readLetter_5 vlX7_82 rfl rfl (Nat.le_of_ble_eq_true rfl) kk9 (xKK_lt kk9) rfl rfl k (Nat.le_refl _) (fun rv1 u1 w1 r1 k => ?_)
  obtain ⟨rfl, rfl, k⟩ := k
  refine xe_aload_n dX7_readLetter_8 rfl ?_
  refine xe_bipush (v := 25) dX7_readLetter_9 rfl ?_
  refine xe_callV (args := [.int (25 : Int32)]) dX7_readLetter_11 vlX7_105 rfl rfl (Nat.le_of_ble_eq_true rfl) kk9 (xKK_lt kk9) rfl rfl k (Nat.le_refl _) (fun rv2 u2 w2 r2 k => ?_)
  obtain ⟨rfl, rfl, rfl, k⟩ := k
  refine xe_aload_n dX7_readLetter_14 rfl ?_
  refine xe_iconst (v := -1) dX7_readLetter_15 rfl ?_
  refine xe_callV (args := [.int (-1 : Int32)]) dX7_readLetter_16 vlX7_115 rfl rfl (Nat.le_of_ble_eq_true rfl) kk9 (xKK_lt kk9) rfl rfl k (Nat.le_refl _) (fun rv3 u3 w3 r3 k => ?_)
  obtain ⟨v3, rfl, rfl, rfl, k⟩ := k
  refine xe_istore_n (ls' := [some (.ref 9), some (.int v3), none, none, none]) dX7_readLetter_19 rfl (by decide) rfl ?_
  refine xe_aload_n dX7_readLetter_20 rfl ?_
  refine xe_bipush (v := 22) dX7_readLetter_21 rfl ?_
  refine xe_callV (args := [.int (22 : Int32)]) dX7_readLetter_23 vlX7_105 rfl rfl (Nat.le_of_ble_eq_true rfl) kk9 (xKK_lt kk9) rfl rfl k (Nat.le_refl _) (fun rv4 u4 w4 r4 k => ?_)
  obtain ⟨rfl, rfl, rfl, k⟩ := k
  refine xe_aload_n dX7_readLetter_26 rfl ?_
  refine xe_iload_n dX7_readLetter_27 rfl ?_
  refine xe_callV (args := [.int v3]) dX7_readLetter_28 vlX7_115 rfl rfl (Nat.le_of_ble_eq_true rfl) kk9 (xKK_lt kk9) rfl rfl k (Nat.le_refl _) (fun rv5 u5 w5 r5 k => ?_)
  obtain ⟨v5, rfl, rfl, rfl, k⟩ := k
  refine xe_istore_n (ls' := [some (.ref 9), some (.int v3), some (.int v5), none, none]) dX7_readLetter_31 rfl (by decide) rfl ?_
  refine xe_sipush (v := 200) dX7_readLetter_32 rfl ?_
  refine xe_istore_n (ls' := [some (.ref 9), some (.int v3), some (.int v5), some (.int (200 : Int32)), none]) dX7_readLetter_35 rfl (by decide) rfl ?_
  refine xe_aload_n dX7_readLetter_36 rfl ?_
  refine xe_bipush (v := 26) dX7_readLetter_37 rfl ?_
  refine xe_callV (args := [.int (26 : Int32)]) dX7_readLetter_39 vlX7_65 rfl rfl (Nat.le_of_ble_eq_true rfl) kk9 (xKK_lt kk9) rfl rfl k (Nat.le_refl _) (fun rv6 u6 w6 r6 k => ?_)
  obtain ⟨v6, rfl, rfl, rfl, rfl, k⟩ := k
  refine xe_if_eq (tgt := 64) dX7_readLetter_42 rfl (fun c7 => ?_) (fun c8 => ?_)
  · have k := k.1 c7
    exact k
  · have k := k.2 (fun q => (c8 q))
    refine xe_aload_n dX7_readLetter_45 rfl ?_
    refine xe_dup dX7_readLetter_46 rfl ?_
    refine xe_getI dX7_readLetter_47 flX7_56 kk9 (xKK_lt kk9) rfl ?_
    refine xe_iconst (v := 1) dX7_readLetter_50 rfl ?_
    refine xe_iadd dX7_readLetter_51 ?_
    refine xe_putI dX7_readLetter_52 flX7_56 kk9 (xKK_lt kk9) nf7_7 rfl ?_
    refine xe_aload_n dX7_readLetter_55 rfl ?_
    refine xe_iconst (v := 0) dX7_readLetter_56 rfl ?_
    refine xe_sipush (v := 200) dX7_readLetter_57 rfl ?_
    refine xe_callV (args := [.int (0 : Int32), .int (200 : Int32)]) dX7_readLetter_60 vlX7_122 rfl rfl (Nat.le_of_ble_eq_true rfl) kk9 (xKK_lt kk9) rfl rfl k (Nat.le_refl _) (fun rv9 u9 w9 r9 k => ?_)
    obtain ⟨v9, rfl, rfl, rfl, k⟩ := k
    refine xe_istore_n (ls' := [some (.ref 9), some (.int v3), some (.int v5), some (.int v9), none]) dX7_readLetter_63 rfl (by decide) rfl ?_
    exact k

theorem CX7_readLetter {g : xGT} {d : Nat} {u : xU} {w : xW} {r : xQ} {P : xPost} (hr : xRf r)
    (k : xCall g d mX7_readNewName [.ref 9, .ref 20] 698 u w r 698 (fun rv1 u1 w1 r1 => rv1 = none ∧ r = r1 ∧ xCall g d mX7_want [.ref 9, .int (25 : Int32)] 698 u1 w1 r 698 (fun rv2 u2 w2 r2 => rv2 = none ∧ w1 = w2 ∧ r = r2 ∧ xCall g d mX7_readVillage [.ref 9, .int (-1 : Int32)] 698 u2 w1 r 698 (fun rv3 u3 w3 r3 => ∃ v3 : Int32, rv3 = some (.int v3) ∧ w1 = w3 ∧ r = r3 ∧ xCall g d mX7_want [.ref 9, .int (22 : Int32)] 698 u3 w1 r 698 (fun rv4 u4 w4 r4 => rv4 = none ∧ w1 = w4 ∧ r = r4 ∧ xCall g d mX7_readVillage [.ref 9, .int v3] 698 u4 w1 r 698 (fun rv5 u5 w5 r5 => ∃ v5 : Int32, rv5 = some (.int v5) ∧ w1 = w5 ∧ r = r5 ∧ xCall g d mX7_sees [.ref 9, .int (26 : Int32)] 698 u5 w1 r 698 (fun rv6 u6 w6 r6 => ∃ v6 : Int32, rv6 = some (.int v6) ∧ u5 = u6 ∧ w1 = w6 ∧ r = r6 ∧ (v6 = 0 → xEv g (d + 1) mX7_readLetter 64 [some (.ref 9), some (.int v3), some (.int v5), some (.int (200 : Int32)), none] [] 698 u5 w1 r 698 P) ∧ (¬ (v6 = 0) → xCall g d mX7_readNumber [.ref 9, .int (0 : Int32), .int (200 : Int32)] 698 (x2 u5 9 7 ((u5 9 7) + (1 : Int32))) w1 r 698 (fun rv9 u9 w9 r9 => ∃ v9 : Int32, rv9 = some (.int v9) ∧ w1 = w9 ∧ r = r9 ∧ xEv g (d + 1) mX7_readLetter 64 [some (.ref 9), some (.int v3), some (.int v5), some (.int v9), none] [] 698 u9 w1 r 698 P))))))))) :
    xCall g (d + 1) mX7_readLetter [.ref 9] 698 u w r 698 P :=
  xCall.of plX7 (Nat.le_of_ble_eq_true rfl) rfl (TX7_readLetter_0 hr k)

theorem TX7_readLetter_64 {g : xGT} {d : Nat} {i1 i2 i3 : Int32} {u : xU} {w : xW} {r : xQ} {P : xPost}
    (k : xCall g d mX7_sees [.ref 9, .int (27 : Int32)] 698 u w r 698 (fun rv10 u10 w10 r10 => ∃ v10 : Int32, rv10 = some (.int v10) ∧ u = u10 ∧ w = w10 ∧ r = r10 ∧ (v10 = 0 → xEv g (d + 1) mX7_readLetter 95 [some (.ref 9), some (.int i1), some (.int i2), some (.int i3), some (.int (1 : Int32))] [] 698 u w r 698 P) ∧ (¬ (v10 = 0) → xCall g d mX7_readNumber [.ref 9, .int (1 : Int32), .int (9 : Int32)] 698 (x2 u 9 7 ((u 9 7) + (1 : Int32))) w r 698 (fun rv13 u13 w13 r13 => ∃ v13 : Int32, rv13 = some (.int v13) ∧ w = w13 ∧ r = r13 ∧ xEv g (d + 1) mX7_readLetter 95 [some (.ref 9), some (.int i1), some (.int i2), some (.int i3), some (.int v13)] [] 698 u13 w r 698 P)))) :
    xEv g (d + 1) mX7_readLetter 64 [some (.ref 9), some (.int i1), some (.int i2), some (.int i3), none] [] 698 u w r 698 P := by
  refine xe_iconst (v := 1) dX7_readLetter_64 rfl ?_
  refine xe_istore (ls' := [some (.ref 9), some (.int i1), some (.int i2), some (.int i3), some (.int (1 : Int32))]) dX7_readLetter_65 (by decide) rfl ?_
  refine xe_aload_n dX7_readLetter_67 rfl ?_
  refine xe_bipush (v := 27) dX7_readLetter_68 rfl ?_
  refine xe_callV (args := [.int (27 : Int32)]) dX7_readLetter_70 vlX7_65 rfl rfl (Nat.le_of_ble_eq_true rfl) kk9 (xKK_lt kk9) rfl rfl k (Nat.le_refl _) (fun rv10 u10 w10 r10 k => ?_)
  obtain ⟨v10, rfl, rfl, rfl, rfl, k⟩ := k
  refine xe_if_eq (tgt := 95) dX7_readLetter_73 rfl (fun c11 => ?_) (fun c12 => ?_)
  · have k := k.1 c11
    exact k
  · have k := k.2 (fun q => (c12 q))
    refine xe_aload_n dX7_readLetter_76 rfl ?_
    refine xe_dup dX7_readLetter_77 rfl ?_
    refine xe_getI dX7_readLetter_78 flX7_56 kk9 (xKK_lt kk9) rfl ?_
    refine xe_iconst (v := 1) dX7_readLetter_81 rfl ?_
    refine xe_iadd dX7_readLetter_82 ?_
    refine xe_putI dX7_readLetter_83 flX7_56 kk9 (xKK_lt kk9) nf7_7 rfl ?_
    refine xe_aload_n dX7_readLetter_86 rfl ?_
    refine xe_iconst (v := 1) dX7_readLetter_87 rfl ?_
    refine xe_bipush (v := 9) dX7_readLetter_88 rfl ?_
    refine xe_callV (args := [.int (1 : Int32), .int (9 : Int32)]) dX7_readLetter_90 vlX7_122 rfl rfl (Nat.le_of_ble_eq_true rfl) kk9 (xKK_lt kk9) rfl rfl k (Nat.le_refl _) (fun rv13 u13 w13 r13 k => ?_)
    obtain ⟨v13, rfl, rfl, rfl, k⟩ := k
    refine xe_istore (ls' := [some (.ref 9), some (.int i1), some (.int i2), some (.int i3), some (.int v13)]) dX7_readLetter_93 (by decide) rfl ?_
    exact k

theorem TX7_readLetter_95 {g : xGT} {d : Nat} {i1 i2 i3 i4 : Int32} {l : Nat} {u : xU} {w : xW} {r : xQ} {P : xPost} (h_l : xLd l) (hm_reader : r 9 4 = some l)
    (k : ((u 9 8) = 0 → xCall g d mX2_addLetter [.ref l, .int i1, .int i2, .int i3, .int i4] 698 u w r 698 (fun rv16 u16 w16 r16 => rv16 = none ∧ w = w16 ∧ r = r16 ∧ P none u16 w r)) ∧ (¬ ((u 9 8) = 0) → P none u w r)) :
    xEv g (d + 1) mX7_readLetter 95 [some (.ref 9), some (.int i1), some (.int i2), some (.int i3), some (.int i4)] [] 698 u w r 698 P := by
  refine xe_aload_n dX7_readLetter_95 rfl ?_
  refine xe_getI dX7_readLetter_96 flX7_59 kk9 (xKK_lt kk9) rfl ?_
  refine xe_if_ne (tgt := 114) dX7_readLetter_99 rfl (fun c14 => ?_) (fun c15 => ?_)
  · have k := k.2 (fun q => (c14 q))
    exact xe_return dX7_readLetter_114 trivial k
  · have k := k.1 c15
    refine xe_aload_n dX7_readLetter_102 rfl ?_
    refine xe_getR (b := l) dX7_readLetter_103 flX7_37 kk9 (xKK_lt kk9) rfl hm_reader ?_
    refine xe_iload_n dX7_readLetter_106 rfl ?_
    refine xe_iload_n dX7_readLetter_107 rfl ?_
    refine xe_iload_n dX7_readLetter_108 rfl ?_
    refine xe_iload dX7_readLetter_109 rfl ?_
    refine xe_callV (args := [.int i1, .int i2, .int i3, .int i4]) dX7_readLetter_111 vlX7_134 rfl rfl (Nat.le_of_ble_eq_true rfl) h_l.k0 (xKK_lt h_l.k0) rfl rfl k (Nat.le_refl _) (fun rv16 u16 w16 r16 k => ?_)
    obtain ⟨rfl, rfl, rfl, k⟩ := k
    exact xe_return dX7_readLetter_114 trivial k

/-! Reader.readWinter -/

theorem TX7_readWinter_0 {g : xGT} {d : Nat} {l : Nat} {u : xU} {w : xW} {r : xQ} {P : xPost} (h_l : xLd l) (hm_reader : r 9 4 = some l)
    (k : xCall g d mX7_readNumber [.ref 9, .int (0 : Int32), .int (200 : Int32)] 698 (x2 u 9 6 (1 : Int32)) w r 698 (fun rv1 u1 w1 r1 => ∃ v1 : Int32, rv1 = some (.int v1) ∧ w = w1 ∧ r = r1 ∧ xCall g d mX7_want [.ref 9, .int (22 : Int32)] 698 (x2 u1 l 15 v1) w r 698 (fun rv2 u2 w2 r2 => rv2 = none ∧ w = w2 ∧ r = r2 ∧ xCall g d mX7_readNumber [.ref 9, .int (u2 l 15), .int (200 : Int32)] 698 u2 w r 698 (fun rv3 u3 w3 r3 => ∃ v3 : Int32, rv3 = some (.int v3) ∧ w = w3 ∧ r = r3 ∧ P none (x2 u3 l 16 v3) w r)))) :
    xEv g (d + 1) mX7_readWinter 0 [some (.ref 9)] [] 698 u w r 698 P := by
  refine xe_aload_n dX7_readWinter_0 rfl ?_
  refine xe_iconst (v := 1) dX7_readWinter_1 rfl ?_
  refine xe_putZ dX7_readWinter_2 flX7_53 kk9 (xKK_lt kk9) nf7_6 rfl (Or.inr rfl) ?_
  refine xe_aload_n dX7_readWinter_5 rfl ?_
  refine xe_getR (b := l) dX7_readWinter_6 flX7_37 kk9 (xKK_lt kk9) rfl hm_reader ?_
  refine xe_aload_n dX7_readWinter_9 rfl ?_
  refine xe_iconst (v := 0) dX7_readWinter_10 rfl ?_
  refine xe_sipush (v := 200) dX7_readWinter_11 rfl ?_
  refine xe_callV (args := [.int (0 : Int32), .int (200 : Int32)]) dX7_readWinter_14 vlX7_122 rfl rfl (Nat.le_of_ble_eq_true rfl) kk9 (xKK_lt kk9) rfl rfl k (Nat.le_refl _) (fun rv1 u1 w1 r1 k => ?_)
  obtain ⟨v1, rfl, rfl, rfl, k⟩ := k
  refine xe_putI dX7_readWinter_17 flX7_137 h_l.k0 (xKK_lt h_l.k0) nf2_15 rfl ?_
  refine xe_aload_n dX7_readWinter_20 rfl ?_
  refine xe_bipush (v := 22) dX7_readWinter_21 rfl ?_
  refine xe_callV (args := [.int (22 : Int32)]) dX7_readWinter_23 vlX7_105 rfl rfl (Nat.le_of_ble_eq_true rfl) kk9 (xKK_lt kk9) rfl rfl k (Nat.le_refl _) (fun rv2 u2 w2 r2 k => ?_)
  obtain ⟨rfl, rfl, rfl, k⟩ := k
  refine xe_aload_n dX7_readWinter_26 rfl ?_
  refine xe_getR (b := l) dX7_readWinter_27 flX7_37 kk9 (xKK_lt kk9) rfl hm_reader ?_
  refine xe_aload_n dX7_readWinter_30 rfl ?_
  refine xe_aload_n dX7_readWinter_31 rfl ?_
  refine xe_getR (b := l) dX7_readWinter_32 flX7_37 kk9 (xKK_lt kk9) rfl hm_reader ?_
  refine xe_getI dX7_readWinter_35 flX7_137 h_l.k0 (xKK_lt h_l.k0) rfl ?_
  refine xe_sipush (v := 200) dX7_readWinter_38 rfl ?_
  refine xe_callV (args := [.int (u2 l 15), .int (200 : Int32)]) dX7_readWinter_41 vlX7_122 rfl rfl (Nat.le_of_ble_eq_true rfl) kk9 (xKK_lt kk9) rfl rfl k (Nat.le_refl _) (fun rv3 u3 w3 r3 k => ?_)
  obtain ⟨v3, rfl, rfl, rfl, k⟩ := k
  refine xe_putI dX7_readWinter_44 flX7_140 h_l.k0 (xKK_lt h_l.k0) nf2_16 rfl ?_
  exact xe_return dX7_readWinter_47 trivial k

theorem CX7_readWinter {g : xGT} {d : Nat} {l : Nat} {u : xU} {w : xW} {r : xQ} {P : xPost} (h_l : xLd l) (hm_reader : r 9 4 = some l)
    (k : xCall g d mX7_readNumber [.ref 9, .int (0 : Int32), .int (200 : Int32)] 698 (x2 u 9 6 (1 : Int32)) w r 698 (fun rv1 u1 w1 r1 => ∃ v1 : Int32, rv1 = some (.int v1) ∧ w = w1 ∧ r = r1 ∧ xCall g d mX7_want [.ref 9, .int (22 : Int32)] 698 (x2 u1 l 15 v1) w r 698 (fun rv2 u2 w2 r2 => rv2 = none ∧ w = w2 ∧ r = r2 ∧ xCall g d mX7_readNumber [.ref 9, .int (u2 l 15), .int (200 : Int32)] 698 u2 w r 698 (fun rv3 u3 w3 r3 => ∃ v3 : Int32, rv3 = some (.int v3) ∧ w = w3 ∧ r = r3 ∧ P none (x2 u3 l 16 v3) w r)))) :
    xCall g (d + 1) mX7_readWinter [.ref 9] 698 u w r 698 P :=
  xCall.of plX7 (Nat.le_of_ble_eq_true rfl) rfl (TX7_readWinter_0 h_l hm_reader k)

/-! Reader.readFormula -/

theorem TX7_readFormula_0 {g : xGT} {d : Nat} {i1 i2 : Int32} {u : xU} {w : xW} {r : xQ} {P : xPost}
    (k : (i1 ≤ (4 : Int32) → (i1 = (2 : Int32) → xCall g d mX7_sees [.ref 9, .int (30 : Int32)] 698 u w r 698 (fun rv5 u5 w5 r5 => ∃ v5 : Int32, rv5 = some (.int v5) ∧ u = u5 ∧ w = w5 ∧ r = r5 ∧ (v5 = 0 → xEv g (d + 1) mX7_readFormula 35 [some (.ref 9), some (.int i1), some (.int i2), none, none, none] [] 698 u w r 698 P) ∧ (¬ (v5 = 0) → xCall g d mX7_readNot [.ref 9, .int i2] 698 u w r 698 (fun rv8 u8 w8 r8 => rv8 = none ∧ w = w8 ∧ r = r8 ∧ P none u8 w r)))) ∧ (¬ (i1 = (2 : Int32)) → xEv g (d + 1) mX7_readFormula 35 [some (.ref 9), some (.int i1), some (.int i2), none, none, none] [] 698 u w r 698 P)) ∧ (¬ (i1 ≤ (4 : Int32)) → xCall g d mX7_readUnit [.ref 9, .int i2] 698 u w r 698 (fun rv9 u9 w9 r9 => rv9 = none ∧ w = w9 ∧ r = r9 ∧ P none u9 w r))) :
    xEv g (d + 1) mX7_readFormula 0 [some (.ref 9), some (.int i1), some (.int i2), none, none, none] [] 698 u w r 698 P := by
  refine xe_iload_n dX7_readFormula_0 rfl ?_
  refine xe_iconst (v := 4) dX7_readFormula_1 rfl ?_
  refine xe_icmp_le (tgt := 13) dX7_readFormula_2 rfl (fun c1 => ?_) (fun c2 => ?_)
  · have k := k.1 c1
    refine xe_iload_n dX7_readFormula_13 rfl ?_
    refine xe_iconst (v := 2) dX7_readFormula_14 rfl ?_
    refine xe_icmp_ne (tgt := 35) dX7_readFormula_15 rfl (fun c3 => ?_) (fun c4 => ?_)
    · have k := k.2 (fun q => (c3 q))
      exact k
    · have k := k.1 c4
      refine xe_aload_n dX7_readFormula_18 rfl ?_
      refine xe_bipush (v := 30) dX7_readFormula_19 rfl ?_
      refine xe_callV (args := [.int (30 : Int32)]) dX7_readFormula_21 vlX7_65 rfl rfl (Nat.le_of_ble_eq_true rfl) kk9 (xKK_lt kk9) rfl rfl k (Nat.le_refl _) (fun rv5 u5 w5 r5 k => ?_)
      obtain ⟨v5, rfl, rfl, rfl, rfl, k⟩ := k
      refine xe_if_eq (tgt := 35) dX7_readFormula_24 rfl (fun c6 => ?_) (fun c7 => ?_)
      · have k := k.1 c6
        exact k
      · have k := k.2 (fun q => (c7 q))
        refine xe_aload_n dX7_readFormula_27 rfl ?_
        refine xe_iload_n dX7_readFormula_28 rfl ?_
        refine xe_callV (args := [.int i2]) dX7_readFormula_29 vlX7_146 rfl rfl (Nat.le_of_ble_eq_true rfl) kk9 (xKK_lt kk9) rfl rfl k (Nat.le_refl _) (fun rv8 u8 w8 r8 k => ?_)
        obtain ⟨rfl, rfl, rfl, k⟩ := k
        refine xe_goto (tgt := 140) dX7_readFormula_32 rfl ?_
        exact xe_return dX7_readFormula_140 trivial k
  · have k := k.2 (fun q => (c2 q))
    refine xe_aload_n dX7_readFormula_5 rfl ?_
    refine xe_iload_n dX7_readFormula_6 rfl ?_
    refine xe_callV (args := [.int i2]) dX7_readFormula_7 vlX7_143 rfl rfl (Nat.le_of_ble_eq_true rfl) kk9 (xKK_lt kk9) rfl rfl k (Nat.le_refl _) (fun rv9 u9 w9 r9 k => ?_)
    obtain ⟨rfl, rfl, rfl, k⟩ := k
    refine xe_goto (tgt := 140) dX7_readFormula_10 rfl ?_
    exact xe_return dX7_readFormula_140 trivial k

theorem CX7_readFormula {g : xGT} {d : Nat} {i1 i2 : Int32} {u : xU} {w : xW} {r : xQ} {P : xPost}
    (k : (i1 ≤ (4 : Int32) → (i1 = (2 : Int32) → xCall g d mX7_sees [.ref 9, .int (30 : Int32)] 698 u w r 698 (fun rv5 u5 w5 r5 => ∃ v5 : Int32, rv5 = some (.int v5) ∧ u = u5 ∧ w = w5 ∧ r = r5 ∧ (v5 = 0 → xEv g (d + 1) mX7_readFormula 35 [some (.ref 9), some (.int i1), some (.int i2), none, none, none] [] 698 u w r 698 P) ∧ (¬ (v5 = 0) → xCall g d mX7_readNot [.ref 9, .int i2] 698 u w r 698 (fun rv8 u8 w8 r8 => rv8 = none ∧ w = w8 ∧ r = r8 ∧ P none u8 w r)))) ∧ (¬ (i1 = (2 : Int32)) → xEv g (d + 1) mX7_readFormula 35 [some (.ref 9), some (.int i1), some (.int i2), none, none, none] [] 698 u w r 698 P)) ∧ (¬ (i1 ≤ (4 : Int32)) → xCall g d mX7_readUnit [.ref 9, .int i2] 698 u w r 698 (fun rv9 u9 w9 r9 => rv9 = none ∧ w = w9 ∧ r = r9 ∧ P none u9 w r))) :
    xCall g (d + 1) mX7_readFormula [.ref 9, .int i1, .int i2] 698 u w r 698 P :=
  xCall.of plX7 (Nat.le_of_ble_eq_true rfl) rfl (TX7_readFormula_0  k)

theorem TX7_readFormula_35 {g : xGT} {d : Nat} {i1 i2 : Int32} {u : xU} {w : xW} {r : xQ} {P : xPost}
    (k : xCall g d mX7_readFormula [.ref 9, .int (i1 + (1 : Int32)), .int i2] 698 u w r 698 (fun rv10 u10 w10 r10 => rv10 = none ∧ w = w10 ∧ r = r10 ∧ xEv g (d + 1) mX7_readFormula 59 [some (.ref 9), some (.int i1), some (.int i2), some (.int (if i1 = (2 : Int32) then (1 : Int32) else (1600 : Int32))), some (.int (0 : Int32)), none] [] 698 u10 w r 698 P)) :
    xEv g (d + 1) mX7_readFormula 35 [some (.ref 9), some (.int i1), some (.int i2), none, none, none] [] 698 u w r 698 P := by
  refine xe_aload_n dX7_readFormula_35 rfl ?_
  refine xe_iload_n dX7_readFormula_36 rfl ?_
  refine xe_iconst (v := 1) dX7_readFormula_37 rfl ?_
  refine xe_iadd dX7_readFormula_38 ?_
  refine xe_iload_n dX7_readFormula_39 rfl ?_
  refine xe_callV (args := [.int (i1 + (1 : Int32)), .int i2]) dX7_readFormula_40 vlX7_98 rfl rfl (Nat.le_of_ble_eq_true rfl) kk9 (xKK_lt kk9) rfl rfl k (Nat.le_refl _) (fun rv10 u10 w10 r10 k => ?_)
  obtain ⟨rfl, rfl, rfl, k⟩ := k
  refine xe_iload_n dX7_readFormula_43 rfl ?_
  refine xe_iconst (v := 2) dX7_readFormula_44 rfl ?_
  have K13 : xEv g (d + 1) mX7_readFormula 55 [some (.ref 9), some (.int i1), some (.int i2), none, none, none] [.int (if i1 = (2 : Int32) then (1 : Int32) else (1600 : Int32))] 698 u10 w r 698 P := by
    refine xe_istore_n (ls' := [some (.ref 9), some (.int i1), some (.int i2), some (.int (if i1 = (2 : Int32) then (1 : Int32) else (1600 : Int32))), none, none]) dX7_readFormula_55 rfl (by decide) rfl ?_
    refine xe_iconst (v := 0) dX7_readFormula_56 rfl ?_
    refine xe_istore (ls' := [some (.ref 9), some (.int i1), some (.int i2), some (.int (if i1 = (2 : Int32) then (1 : Int32) else (1600 : Int32))), some (.int (0 : Int32)), none]) dX7_readFormula_57 (by decide) rfl ?_
    exact k
  refine xe_icmp_ne (tgt := 52) dX7_readFormula_45 rfl (fun c11 => ?_) (fun c12 => ?_)
  · refine xe_sipush (v := 1600) dX7_readFormula_52 rfl ?_
    exact xtop (if_neg (fun q => (c11 q))) K13
  · refine xe_iconst (v := 1) dX7_readFormula_48 rfl ?_
    refine xe_goto (tgt := 55) dX7_readFormula_49 rfl ?_
    exact xtop (if_pos c12) K13

theorem TX7_readFormula_59 {g : xGT} {d : Nat} {i1 i2 i3 i4 : Int32} {l : Nat} {u : xU} {w : xW} {r : xQ} {P : xPost} (hr : xRf r) (h_l : xLd l) (q_l : xLr l r) (hm_reader : r 9 4 = some l)
    (k : ((¬ (i3 ≤ i4) ∧ (u 9 8) = 0) → xCall g d mX10_kindAt [.ref 10, .int (u 9 7)] 698 u w r 698 (fun rv18 u18 w18 r18 => ∃ v18 : Int32, rv18 = some (.int v18) ∧ u = u18 ∧ w = w18 ∧ r = r18 ∧ xCall g d mX7_isOperator [.int v18, .int i1] 698 u w r 698 (fun rv19 u19 w19 r19 => ∃ v19 : Int32, rv19 = some (.int v19) ∧ u = u19 ∧ w = w19 ∧ r = r19 ∧ (v19 = 0 → P none u w r) ∧ (¬ (v19 = 0) → xCall g d mX10_kindAt [.ref 10, .int (u 9 7)] 698 u w r 698 (fun rv22 u22 w22 r22 => ∃ v22 : Int32, rv22 = some (.int v22) ∧ u = u22 ∧ w = w22 ∧ r = r22 ∧ xCall g d mX7_readFormula [.ref 9, .int (i1 + (1 : Int32)), .int i2] 698 (x2 u 9 7 ((u 9 7) + (1 : Int32))) w r 698 (fun rv23 u23 w23 r23 => rv23 = none ∧ w = w23 ∧ r = r23 ∧ xCall g d mX1_add [.ref (l + 12), .int (-v22)] 698 u23 w r 698 (fun rv24 u24 w24 r24 => rv24 = none ∧ w = w24 ∧ r = r24 ∧ xEv g (d + 1) mX7_readFormula 59 [some (.ref 9), some (.int i1), some (.int i2), some (.int i3), some (.int (i4 + (1 : Int32))), none] [] 698 u24 w r 698 P))))))) ∧ (¬ (¬ (i3 ≤ i4) ∧ (u 9 8) = 0) → P none u w r)) :
    xEv g (d + 1) mX7_readFormula 59 [some (.ref 9), some (.int i1), some (.int i2), some (.int i3), some (.int i4), none] [] 698 u w r 698 P := by
  refine xe_iload dX7_readFormula_59 rfl ?_
  refine xe_iload_n dX7_readFormula_61 rfl ?_
  have K25 : ¬ (¬ (i3 ≤ i4) ∧ (u 9 8) = 0) → xEv g (d + 1) mX7_readFormula 140 [some (.ref 9), some (.int i1), some (.int i2), some (.int i3), some (.int i4), none] [] 698 u w r 698 P := fun c26 => by
    have k := k.2 c26
    exact xe_return dX7_readFormula_140 trivial k
  refine xe_icmp_ge (tgt := 140) dX7_readFormula_62 rfl (fun c14 => ?_) (fun c15 => ?_)
  · exact K25 (fun q => (q.1 c14))
  · refine xe_aload_n dX7_readFormula_65 rfl ?_
    refine xe_getI dX7_readFormula_66 flX7_59 kk9 (xKK_lt kk9) rfl ?_
    refine xe_if_ne (tgt := 140) dX7_readFormula_69 rfl (fun c16 => ?_) (fun c17 => ?_)
    · exact K25 (fun q => (c16 q.2))
    · have k := k.1 ⟨c15, c17⟩
      refine xe_aload_n dX7_readFormula_72 rfl ?_
      refine xe_getR (b := 10) dX7_readFormula_73 flX7_12 kk9 (xKK_lt kk9) rfl (rf9_0 hr) ?_
      refine xe_aload_n dX7_readFormula_76 rfl ?_
      refine xe_getI dX7_readFormula_77 flX7_56 kk9 (xKK_lt kk9) rfl ?_
      refine xe_callV (args := [.int (u 9 7)]) dX7_readFormula_80 vlX7_72 rfl rfl (Nat.le_of_ble_eq_true rfl) kk10 (xKK_lt kk10) rfl rfl k (Nat.le_refl _) (fun rv18 u18 w18 r18 k => ?_)
      obtain ⟨v18, rfl, rfl, rfl, rfl, k⟩ := k
      refine xe_iload_n dX7_readFormula_83 rfl ?_
      refine xe_callS (args := [.int v18, .int i1]) dX7_readFormula_84 slX7_149 rfl rfl (Nat.le_of_ble_eq_true rfl) k (Nat.le_refl _) (fun rv19 u19 w19 r19 k => ?_)
      obtain ⟨v19, rfl, rfl, rfl, rfl, k⟩ := k
      refine xe_if_eq (tgt := 140) dX7_readFormula_87 rfl (fun c20 => ?_) (fun c21 => ?_)
      · have k := k.1 c20
        exact xe_return dX7_readFormula_140 trivial k
      · have k := k.2 (fun q => (c21 q))
        refine xe_aload_n dX7_readFormula_90 rfl ?_
        refine xe_getR (b := 10) dX7_readFormula_91 flX7_12 kk9 (xKK_lt kk9) rfl (rf9_0 hr) ?_
        refine xe_aload_n dX7_readFormula_94 rfl ?_
        refine xe_getI dX7_readFormula_95 flX7_56 kk9 (xKK_lt kk9) rfl ?_
        refine xe_callV (args := [.int (u 9 7)]) dX7_readFormula_98 vlX7_72 rfl rfl (Nat.le_of_ble_eq_true rfl) kk10 (xKK_lt kk10) rfl rfl k (Nat.le_refl _) (fun rv22 u22 w22 r22 k => ?_)
        obtain ⟨v22, rfl, rfl, rfl, rfl, k⟩ := k
        refine xe_istore (ls' := [some (.ref 9), some (.int i1), some (.int i2), some (.int i3), some (.int i4), some (.int v22)]) dX7_readFormula_101 (by decide) rfl ?_
        refine xe_aload_n dX7_readFormula_103 rfl ?_
        refine xe_dup dX7_readFormula_104 rfl ?_
        refine xe_getI dX7_readFormula_105 flX7_56 kk9 (xKK_lt kk9) rfl ?_
        refine xe_iconst (v := 1) dX7_readFormula_108 rfl ?_
        refine xe_iadd dX7_readFormula_109 ?_
        refine xe_putI dX7_readFormula_110 flX7_56 kk9 (xKK_lt kk9) nf7_7 rfl ?_
        refine xe_aload_n dX7_readFormula_113 rfl ?_
        refine xe_iload_n dX7_readFormula_114 rfl ?_
        refine xe_iconst (v := 1) dX7_readFormula_115 rfl ?_
        refine xe_iadd dX7_readFormula_116 ?_
        refine xe_iload_n dX7_readFormula_117 rfl ?_
        refine xe_callV (args := [.int (i1 + (1 : Int32)), .int i2]) dX7_readFormula_118 vlX7_98 rfl rfl (Nat.le_of_ble_eq_true rfl) kk9 (xKK_lt kk9) rfl rfl k (Nat.le_refl _) (fun rv23 u23 w23 r23 k => ?_)
        obtain ⟨rfl, rfl, rfl, k⟩ := k
        refine xe_aload_n dX7_readFormula_121 rfl ?_
        refine xe_getR (b := l) dX7_readFormula_122 flX7_37 kk9 (xKK_lt kk9) rfl hm_reader ?_
        refine xe_getR (b := (l + 12)) dX7_readFormula_125 flX7_152 h_l.k0 (xKK_lt h_l.k0) rfl q_l.1.f17 ?_
        refine xe_iload dX7_readFormula_128 rfl ?_
        refine xe_ineg dX7_readFormula_130 ?_
        refine xe_callV (args := [.int (-v22)]) dX7_readFormula_131 vlX7_156 rfl rfl (Nat.le_of_ble_eq_true rfl) h_l.fm.k0 (xKK_lt h_l.fm.k0) rfl rfl k (Nat.le_refl _) (fun rv24 u24 w24 r24 k => ?_)
        obtain ⟨rfl, rfl, rfl, k⟩ := k
        refine xe_iinc (v := (i4 + (1 : Int32))) (ls' := [some (.ref 9), some (.int i1), some (.int i2), some (.int i3), some (.int (i4 + (1 : Int32))), some (.int v22)]) dX7_readFormula_134 rfl (by decide) rfl rfl ?_
        refine xe_goto (tgt := 59) dX7_readFormula_137 rfl ?_
        exact xEv.fewer (ls' := [some (.ref 9), some (.int i1), some (.int i2), some (.int i3), some (.int (i4 + (1 : Int32))), none]) k (xfw_get (xfw_s (xfw_s (xfw_s (xfw_s (xfw_s (xfw_n (xfw_nil _))))))))

/-! Reader.readNot -/

theorem TX7_readNot_0 {g : xGT} {d : Nat} {i1 : Int32} {l : Nat} {u : xU} {w : xW} {r : xQ} {P : xPost} (h_l : xLd l) (q_l : xLr l r) (hm_reader : r 9 4 = some l)
    (k : (i1 ≤ (6 : Int32) → xCall g d mX7_readFormula [.ref 9, .int (2 : Int32), .int (i1 + (1 : Int32))] 698 (x2 u 9 7 ((u 9 7) + (1 : Int32))) w r 698 (fun rv3 u3 w3 r3 => rv3 = none ∧ w = w3 ∧ r = r3 ∧ xCall g d mX1_add [.ref (l + 12), .int (-30 : Int32)] 698 u3 w r 698 (fun rv4 u4 w4 r4 => rv4 = none ∧ w = w4 ∧ r = r4 ∧ P none u4 w r))) ∧ (¬ (i1 ≤ (6 : Int32)) → xCall g d mX7_fail [.ref 9, .int (2 : Int32)] 698 u w r 698 (fun rv5 u5 w5 r5 => rv5 = none ∧ w = w5 ∧ r = r5 ∧ P none u5 w r))) :
    xEv g (d + 1) mX7_readNot 0 [some (.ref 9), some (.int i1)] [] 698 u w r 698 P := by
  refine xe_iload_n dX7_readNot_0 rfl ?_
  refine xe_bipush (v := 6) dX7_readNot_1 rfl ?_
  refine xe_icmp_le (tgt := 12) dX7_readNot_3 rfl (fun c1 => ?_) (fun c2 => ?_)
  · have k := k.1 c1
    refine xe_aload_n dX7_readNot_12 rfl ?_
    refine xe_dup dX7_readNot_13 rfl ?_
    refine xe_getI dX7_readNot_14 flX7_56 kk9 (xKK_lt kk9) rfl ?_
    refine xe_iconst (v := 1) dX7_readNot_17 rfl ?_
    refine xe_iadd dX7_readNot_18 ?_
    refine xe_putI dX7_readNot_19 flX7_56 kk9 (xKK_lt kk9) nf7_7 rfl ?_
    refine xe_aload_n dX7_readNot_22 rfl ?_
    refine xe_iconst (v := 2) dX7_readNot_23 rfl ?_
    refine xe_iload_n dX7_readNot_24 rfl ?_
    refine xe_iconst (v := 1) dX7_readNot_25 rfl ?_
    refine xe_iadd dX7_readNot_26 ?_
    refine xe_callV (args := [.int (2 : Int32), .int (i1 + (1 : Int32))]) dX7_readNot_27 vlX7_98 rfl rfl (Nat.le_of_ble_eq_true rfl) kk9 (xKK_lt kk9) rfl rfl k (Nat.le_refl _) (fun rv3 u3 w3 r3 k => ?_)
    obtain ⟨rfl, rfl, rfl, k⟩ := k
    refine xe_aload_n dX7_readNot_30 rfl ?_
    refine xe_getR (b := l) dX7_readNot_31 flX7_37 kk9 (xKK_lt kk9) rfl hm_reader ?_
    refine xe_getR (b := (l + 12)) dX7_readNot_34 flX7_152 h_l.k0 (xKK_lt h_l.k0) rfl q_l.1.f17 ?_
    refine xe_bipush (v := -30) dX7_readNot_37 rfl ?_
    refine xe_callV (args := [.int (-30 : Int32)]) dX7_readNot_39 vlX7_156 rfl rfl (Nat.le_of_ble_eq_true rfl) h_l.fm.k0 (xKK_lt h_l.fm.k0) rfl rfl k (Nat.le_refl _) (fun rv4 u4 w4 r4 k => ?_)
    obtain ⟨rfl, rfl, rfl, k⟩ := k
    exact xe_return dX7_readNot_42 trivial k
  · have k := k.2 (fun q => (c2 q))
    refine xe_aload_n dX7_readNot_6 rfl ?_
    refine xe_iconst (v := 2) dX7_readNot_7 rfl ?_
    refine xe_callV (args := [.int (2 : Int32)]) dX7_readNot_8 vlX7_79 rfl rfl (Nat.le_of_ble_eq_true rfl) kk9 (xKK_lt kk9) rfl rfl k (Nat.le_refl _) (fun rv5 u5 w5 r5 k => ?_)
    obtain ⟨rfl, rfl, rfl, k⟩ := k
    exact xe_return dX7_readNot_11 trivial k

theorem CX7_readNot {g : xGT} {d : Nat} {i1 : Int32} {l : Nat} {u : xU} {w : xW} {r : xQ} {P : xPost} (h_l : xLd l) (q_l : xLr l r) (hm_reader : r 9 4 = some l)
    (k : (i1 ≤ (6 : Int32) → xCall g d mX7_readFormula [.ref 9, .int (2 : Int32), .int (i1 + (1 : Int32))] 698 (x2 u 9 7 ((u 9 7) + (1 : Int32))) w r 698 (fun rv3 u3 w3 r3 => rv3 = none ∧ w = w3 ∧ r = r3 ∧ xCall g d mX1_add [.ref (l + 12), .int (-30 : Int32)] 698 u3 w r 698 (fun rv4 u4 w4 r4 => rv4 = none ∧ w = w4 ∧ r = r4 ∧ P none u4 w r))) ∧ (¬ (i1 ≤ (6 : Int32)) → xCall g d mX7_fail [.ref 9, .int (2 : Int32)] 698 u w r 698 (fun rv5 u5 w5 r5 => rv5 = none ∧ w = w5 ∧ r = r5 ∧ P none u5 w r))) :
    xCall g (d + 1) mX7_readNot [.ref 9, .int i1] 698 u w r 698 P :=
  xCall.of plX7 (Nat.le_of_ble_eq_true rfl) rfl (TX7_readNot_0 h_l q_l hm_reader k)

/-! Reader.readUnit -/

set_option maxRecDepth 20000 in
theorem TX7_readUnit_0 {g : xGT} {d : Nat} {i1 : Int32} {l : Nat} {u : xU} {w : xW} {r : xQ} {P : xPost} (hr : xRf r) (h_l : xLd l) (q_l : xLr l r) (hm_reader : r 9 4 = some l)
    (k : xCall g d mX10_kindAt [.ref 10, .int (u 9 7)] 698 u w r 698 (fun rv1 u1 w1 r1 => ∃ v1 : Int32, rv1 = some (.int v1) ∧ u = u1 ∧ w = w1 ∧ r = r1 ∧ ((u 9 8) = 0 → (((¬ ((xb (v1 = (5 : Int32))) = 0) ∧ (xb (¬ ((xb (v1 = (5 : Int32))) = 0) ∧ ¬ (i1 ≤ (6 : Int32)))) = 0) ∨ ((xb (v1 = (5 : Int32))) = 0 ∧ (¬ ((xb (v1 = (3 : Int32) ∨ (v1 = (31 : Int32) ∨ (v1 = (24 : Int32) ∨ (v1 = (32 : Int32) ∨ v1 = (33 : Int32)))))) = 0) ∧ (xb (¬ ((xb (v1 = (5 : Int32))) = 0) ∧ ¬ (i1 ≤ (6 : Int32)))) = 0))) → xCall g d mX1_isFull [.ref (l + 12)] 698 u w r 698 (fun rv28 u28 w28 r28 => ∃ v28 : Int32, rv28 = some (.int v28) ∧ u = u28 ∧ w = w28 ∧ r = r28 ∧ (v28 = 0 → xCall g d mX10_valueAt [.ref 10, .int ((x2 u (l + 12) 3 ((u (l + 12) 3) + (1 : Int32))) 9 7)] 698 (x2 u (l + 12) 3 ((u (l + 12) 3) + (1 : Int32))) w r 698 (fun rv31 u31 w31 r31 => ∃ v31 : Int64, rv31 = some (.long v31) ∧ (x2 u (l + 12) 3 ((u (l + 12) 3) + (1 : Int32))) = u31 ∧ w = w31 ∧ r = r31 ∧ ((xb (v1 = (5 : Int32))) = 0 → xCall g d mX1_add [.ref (l + 12), .int (if v1 = (3 : Int32) then v31.toInt32 else (-v1))] 698 (x2 (x2 u (l + 12) 3 ((u (l + 12) 3) + (1 : Int32))) 9 7 (((x2 u (l + 12) 3 ((u (l + 12) 3) + (1 : Int32))) 9 7) + (1 : Int32))) w r 698 (fun rv36 u36 w36 r36 => rv36 = none ∧ w = w36 ∧ r = r36 ∧ P none u36 w r)) ∧ (¬ ((xb (v1 = (5 : Int32))) = 0) → xCall g d mX7_readFormula [.ref 9, .int (0 : Int32), .int (i1 + (1 : Int32))] 698 (x2 (x2 u (l + 12) 3 ((u (l + 12) 3) + (1 : Int32))) 9 7 (((x2 u (l + 12) 3 ((u (l + 12) 3) + (1 : Int32))) 9 7) + (1 : Int32))) w r 698 (fun rv38 u38 w38 r38 => rv38 = none ∧ w = w38 ∧ r = r38 ∧ xCall g d mX7_want [.ref 9, .int (6 : Int32)] 698 u38 w r 698 (fun rv39 u39 w39 r39 => rv39 = none ∧ w = w39 ∧ r = r39 ∧ P none u39 w r))))) ∧ (¬ (v28 = 0) → xEv g (d + 1) mX7_readUnit 110 [some (.ref 9), none, none, none, none, none, none] [] 698 u w r 698 P))) ∧ (¬ ((¬ ((xb (v1 = (5 : Int32))) = 0) ∧ (xb (¬ ((xb (v1 = (5 : Int32))) = 0) ∧ ¬ (i1 ≤ (6 : Int32)))) = 0) ∨ ((xb (v1 = (5 : Int32))) = 0 ∧ (¬ ((xb (v1 = (3 : Int32) ∨ (v1 = (31 : Int32) ∨ (v1 = (24 : Int32) ∨ (v1 = (32 : Int32) ∨ v1 = (33 : Int32)))))) = 0) ∧ (xb (¬ ((xb (v1 = (5 : Int32))) = 0) ∧ ¬ (i1 ≤ (6 : Int32)))) = 0))) → xEv g (d + 1) mX7_readUnit 110 [some (.ref 9), none, none, none, none, none, none] [] 698 u w r 698 P)) ∧ (¬ ((u 9 8) = 0) → xEv g (d + 1) mX7_readUnit 110 [some (.ref 9), none, none, none, none, none, none] [] 698 u w r 698 P))) :
    xEv g (d + 1) mX7_readUnit 0 [some (.ref 9), some (.int i1), none, none, none, none, none] [] 698 u w r 698 P := by
  refine xe_aload_n dX7_readUnit_0 rfl ?_
  refine xe_getR (b := 10) dX7_readUnit_1 flX7_12 kk9 (xKK_lt kk9) rfl (rf9_0 hr) ?_
  refine xe_aload_n dX7_readUnit_4 rfl ?_
  refine xe_getI dX7_readUnit_5 flX7_56 kk9 (xKK_lt kk9) rfl ?_
  refine xe_callV (args := [.int (u 9 7)]) dX7_readUnit_8 vlX7_72 rfl rfl (Nat.le_of_ble_eq_true rfl) kk10 (xKK_lt kk10) rfl rfl k (Nat.le_refl _) (fun rv1 u1 w1 r1 k => ?_)
  obtain ⟨v1, rfl, rfl, rfl, rfl, k⟩ := k
  refine xe_istore_n (ls' := [some (.ref 9), some (.int i1), some (.int v1), none, none, none, none]) dX7_readUnit_11 rfl (by decide) rfl ?_
  refine xe_iload_n dX7_readUnit_12 rfl ?_
  refine xe_iconst (v := 5) dX7_readUnit_13 rfl ?_
  have K46 : xEv g (d + 1) mX7_readUnit 22 [some (.ref 9), some (.int i1), some (.int v1), none, none, none, none] [.int (xb (v1 = (5 : Int32)))] 698 u w r 698 P := by
    refine xe_istore_n (ls' := [some (.ref 9), some (.int i1), some (.int v1), some (.int (xb (v1 = (5 : Int32)))), none, none, none]) dX7_readUnit_22 rfl (by decide) rfl ?_
    refine xe_iload_n dX7_readUnit_23 rfl ?_
    refine xe_iconst (v := 3) dX7_readUnit_24 rfl ?_
    have K45 : xEv g (d + 1) mX7_readUnit 57 [some (.ref 9), some (.int i1), some (.int v1), some (.int (xb (v1 = (5 : Int32)))), none, none, none] [.int (xb (v1 = (3 : Int32) ∨ (v1 = (31 : Int32) ∨ (v1 = (24 : Int32) ∨ (v1 = (32 : Int32) ∨ v1 = (33 : Int32))))))] 698 u w r 698 P := by
      refine xe_istore (ls' := [some (.ref 9), some (.int i1), some (.int v1), some (.int (xb (v1 = (5 : Int32)))), some (.int (xb (v1 = (3 : Int32) ∨ (v1 = (31 : Int32) ∨ (v1 = (24 : Int32) ∨ (v1 = (32 : Int32) ∨ v1 = (33 : Int32))))))), none, none]) dX7_readUnit_57 (by decide) rfl ?_
      refine xe_iload_n dX7_readUnit_59 rfl ?_
      have K44 : xEv g (d + 1) mX7_readUnit 74 [some (.ref 9), some (.int i1), some (.int v1), some (.int (xb (v1 = (5 : Int32)))), some (.int (xb (v1 = (3 : Int32) ∨ (v1 = (31 : Int32) ∨ (v1 = (24 : Int32) ∨ (v1 = (32 : Int32) ∨ v1 = (33 : Int32))))))), none, none] [.int (xb (¬ ((xb (v1 = (5 : Int32))) = 0) ∧ ¬ (i1 ≤ (6 : Int32))))] 698 u w r 698 P := by
        refine xe_istore (ls' := [some (.ref 9), some (.int i1), some (.int v1), some (.int (xb (v1 = (5 : Int32)))), some (.int (xb (v1 = (3 : Int32) ∨ (v1 = (31 : Int32) ∨ (v1 = (24 : Int32) ∨ (v1 = (32 : Int32) ∨ v1 = (33 : Int32))))))), some (.int (xb (¬ ((xb (v1 = (5 : Int32))) = 0) ∧ ¬ (i1 ≤ (6 : Int32))))), none]) dX7_readUnit_74 (by decide) rfl ?_
        refine xe_aload_n dX7_readUnit_76 rfl ?_
        refine xe_getI dX7_readUnit_77 flX7_59 kk9 (xKK_lt kk9) rfl ?_
        refine xe_if_ne (tgt := 110) dX7_readUnit_80 rfl (fun c18 => ?_) (fun c19 => ?_)
        · have k := k.2 (fun q => (c18 q))
          exact xEv.fewer (ls' := [some (.ref 9), none, none, none, none, none, none]) k (xfw_get (xfw_s (xfw_n (xfw_n (xfw_n (xfw_n (xfw_n (xfw_n (xfw_nil _)))))))))
        · have k := k.1 c19
          refine xe_iload_n dX7_readUnit_83 rfl ?_
          have K40 : ((¬ ((xb (v1 = (5 : Int32))) = 0) ∧ (xb (¬ ((xb (v1 = (5 : Int32))) = 0) ∧ ¬ (i1 ≤ (6 : Int32)))) = 0) ∨ ((xb (v1 = (5 : Int32))) = 0 ∧ (¬ ((xb (v1 = (3 : Int32) ∨ (v1 = (31 : Int32) ∨ (v1 = (24 : Int32) ∨ (v1 = (32 : Int32) ∨ v1 = (33 : Int32)))))) = 0) ∧ (xb (¬ ((xb (v1 = (5 : Int32))) = 0) ∧ ¬ (i1 ≤ (6 : Int32)))) = 0))) → xEv g (d + 1) mX7_readUnit 97 [some (.ref 9), some (.int i1), some (.int v1), some (.int (xb (v1 = (5 : Int32)))), some (.int (xb (v1 = (3 : Int32) ∨ (v1 = (31 : Int32) ∨ (v1 = (24 : Int32) ∨ (v1 = (32 : Int32) ∨ v1 = (33 : Int32))))))), some (.int (xb (¬ ((xb (v1 = (5 : Int32))) = 0) ∧ ¬ (i1 ≤ (6 : Int32))))), none] [] 698 u w r 698 P := fun c41 => by
            have k := k.1 c41
            refine xe_aload_n dX7_readUnit_97 rfl ?_
            refine xe_getR (b := l) dX7_readUnit_98 flX7_37 kk9 (xKK_lt kk9) rfl hm_reader ?_
            refine xe_getR (b := (l + 12)) dX7_readUnit_101 flX7_152 h_l.k0 (xKK_lt h_l.k0) rfl q_l.1.f17 ?_
            refine xe_callV (args := []) dX7_readUnit_104 vlX7_161 rfl rfl (Nat.le_of_ble_eq_true rfl) h_l.fm.k0 (xKK_lt h_l.fm.k0) rfl rfl k (Nat.le_refl _) (fun rv28 u28 w28 r28 k => ?_)
            obtain ⟨v28, rfl, rfl, rfl, rfl, k⟩ := k
            refine xe_if_eq (tgt := 116) dX7_readUnit_107 rfl (fun c29 => ?_) (fun c30 => ?_)
            · have k := k.1 c29
              refine xe_aload_n dX7_readUnit_116 rfl ?_
              refine xe_getR (b := l) dX7_readUnit_117 flX7_37 kk9 (xKK_lt kk9) rfl hm_reader ?_
              refine xe_getR (b := (l + 12)) dX7_readUnit_120 flX7_152 h_l.k0 (xKK_lt h_l.k0) rfl q_l.1.f17 ?_
              refine xe_dup dX7_readUnit_123 rfl ?_
              refine xe_getI dX7_readUnit_124 flX7_162 h_l.fm.k0 (xKK_lt h_l.fm.k0) rfl ?_
              refine xe_iconst (v := 1) dX7_readUnit_127 rfl ?_
              refine xe_iadd dX7_readUnit_128 ?_
              refine xe_putI dX7_readUnit_129 flX7_162 h_l.fm.k0 (xKK_lt h_l.fm.k0) nf1_3 rfl ?_
              refine xe_aload_n dX7_readUnit_132 rfl ?_
              refine xe_getR (b := 10) dX7_readUnit_133 flX7_12 kk9 (xKK_lt kk9) rfl (rf9_0 hr) ?_
              refine xe_aload_n dX7_readUnit_136 rfl ?_
              refine xe_getI dX7_readUnit_137 flX7_56 kk9 (xKK_lt kk9) rfl ?_
              refine xe_callV (args := [.int ((x2 u (l + 12) 3 ((u (l + 12) 3) + (1 : Int32))) 9 7)]) dX7_readUnit_140 vlX7_165 rfl rfl (Nat.le_of_ble_eq_true rfl) kk10 (xKK_lt kk10) rfl rfl k (Nat.le_refl _) (fun rv31 u31 w31 r31 k => ?_)
              obtain ⟨v31, rfl, rfl, rfl, rfl, k⟩ := k
              refine xe_l2i dX7_readUnit_143 ?_
              refine xe_istore (ls' := [some (.ref 9), some (.int i1), some (.int v1), some (.int (xb (v1 = (5 : Int32)))), some (.int (xb (v1 = (3 : Int32) ∨ (v1 = (31 : Int32) ∨ (v1 = (24 : Int32) ∨ (v1 = (32 : Int32) ∨ v1 = (33 : Int32))))))), some (.int (xb (¬ ((xb (v1 = (5 : Int32))) = 0) ∧ ¬ (i1 ≤ (6 : Int32))))), some (.int v31.toInt32)]) dX7_readUnit_144 (by decide) rfl ?_
              refine xe_aload_n dX7_readUnit_146 rfl ?_
              refine xe_dup dX7_readUnit_147 rfl ?_
              refine xe_getI dX7_readUnit_148 flX7_56 kk9 (xKK_lt kk9) rfl ?_
              refine xe_iconst (v := 1) dX7_readUnit_151 rfl ?_
              refine xe_iadd dX7_readUnit_152 ?_
              refine xe_putI dX7_readUnit_153 flX7_56 kk9 (xKK_lt kk9) nf7_7 rfl ?_
              refine xe_iload_n dX7_readUnit_156 rfl ?_
              refine xe_if_eq (tgt := 177) dX7_readUnit_157 rfl (fun c32 => ?_) (fun c33 => ?_)
              · have k := k.1 c32
                refine xe_aload_n dX7_readUnit_177 rfl ?_
                refine xe_getR (b := l) dX7_readUnit_178 flX7_37 kk9 (xKK_lt kk9) rfl hm_reader ?_
                refine xe_getR (b := (l + 12)) dX7_readUnit_181 flX7_152 h_l.k0 (xKK_lt h_l.k0) rfl q_l.1.f17 ?_
                refine xe_iload_n dX7_readUnit_184 rfl ?_
                refine xe_iconst (v := 3) dX7_readUnit_185 rfl ?_
                have K37 : xEv g (d + 1) mX7_readUnit 196 [some (.ref 9), some (.int i1), some (.int v1), some (.int (xb (v1 = (5 : Int32)))), some (.int (xb (v1 = (3 : Int32) ∨ (v1 = (31 : Int32) ∨ (v1 = (24 : Int32) ∨ (v1 = (32 : Int32) ∨ v1 = (33 : Int32))))))), some (.int (xb (¬ ((xb (v1 = (5 : Int32))) = 0) ∧ ¬ (i1 ≤ (6 : Int32))))), some (.int v31.toInt32)] [.int (if v1 = (3 : Int32) then v31.toInt32 else (-v1)), .ref (l + 12)] 698 (x2 (x2 u (l + 12) 3 ((u (l + 12) 3) + (1 : Int32))) 9 7 (((x2 u (l + 12) 3 ((u (l + 12) 3) + (1 : Int32))) 9 7) + (1 : Int32))) w r 698 P := by
                  refine xe_callV (args := [.int (if v1 = (3 : Int32) then v31.toInt32 else (-v1))]) dX7_readUnit_196 vlX7_156 rfl rfl (Nat.le_of_ble_eq_true rfl) h_l.fm.k0 (xKK_lt h_l.fm.k0) rfl rfl k (Nat.le_refl _) (fun rv36 u36 w36 r36 k => ?_)
                  obtain ⟨rfl, rfl, rfl, k⟩ := k
                  exact xe_return dX7_readUnit_199 trivial k
                refine xe_icmp_ne (tgt := 194) dX7_readUnit_186 rfl (fun c34 => ?_) (fun c35 => ?_)
                · refine xe_iload_n dX7_readUnit_194 rfl ?_
                  refine xe_ineg dX7_readUnit_195 ?_
                  exact xtop (if_neg (fun q => (c34 q))) K37
                · refine xe_iload dX7_readUnit_189 rfl ?_
                  refine xe_goto (tgt := 196) dX7_readUnit_191 rfl ?_
                  exact xtop (if_pos c35) K37
              · have k := k.2 (fun q => (c33 q))
                refine xe_aload_n dX7_readUnit_160 rfl ?_
                refine xe_iconst (v := 0) dX7_readUnit_161 rfl ?_
                refine xe_iload_n dX7_readUnit_162 rfl ?_
                refine xe_iconst (v := 1) dX7_readUnit_163 rfl ?_
                refine xe_iadd dX7_readUnit_164 ?_
                refine xe_callV (args := [.int (0 : Int32), .int (i1 + (1 : Int32))]) dX7_readUnit_165 vlX7_98 rfl rfl (Nat.le_of_ble_eq_true rfl) kk9 (xKK_lt kk9) rfl rfl k (Nat.le_refl _) (fun rv38 u38 w38 r38 k => ?_)
                obtain ⟨rfl, rfl, rfl, k⟩ := k
                refine xe_aload_n dX7_readUnit_168 rfl ?_
                refine xe_bipush (v := 6) dX7_readUnit_169 rfl ?_
                refine xe_callV (args := [.int (6 : Int32)]) dX7_readUnit_171 vlX7_105 rfl rfl (Nat.le_of_ble_eq_true rfl) kk9 (xKK_lt kk9) rfl rfl k (Nat.le_refl _) (fun rv39 u39 w39 r39 k => ?_)
                obtain ⟨rfl, rfl, rfl, k⟩ := k
                refine xe_goto (tgt := 199) dX7_readUnit_174 rfl ?_
                exact xe_return dX7_readUnit_199 trivial k
            · have k := k.2 (fun q => (c30 q))
              exact xEv.fewer (ls' := [some (.ref 9), none, none, none, none, none, none]) k (xfw_get (xfw_s (xfw_n (xfw_n (xfw_n (xfw_n (xfw_n (xfw_n (xfw_nil _)))))))))
          have K42 : ¬ ((¬ ((xb (v1 = (5 : Int32))) = 0) ∧ (xb (¬ ((xb (v1 = (5 : Int32))) = 0) ∧ ¬ (i1 ≤ (6 : Int32)))) = 0) ∨ ((xb (v1 = (5 : Int32))) = 0 ∧ (¬ ((xb (v1 = (3 : Int32) ∨ (v1 = (31 : Int32) ∨ (v1 = (24 : Int32) ∨ (v1 = (32 : Int32) ∨ v1 = (33 : Int32)))))) = 0) ∧ (xb (¬ ((xb (v1 = (5 : Int32))) = 0) ∧ ¬ (i1 ≤ (6 : Int32)))) = 0))) → xEv g (d + 1) mX7_readUnit 110 [some (.ref 9), some (.int i1), some (.int v1), some (.int (xb (v1 = (5 : Int32)))), some (.int (xb (v1 = (3 : Int32) ∨ (v1 = (31 : Int32) ∨ (v1 = (24 : Int32) ∨ (v1 = (32 : Int32) ∨ v1 = (33 : Int32))))))), some (.int (xb (¬ ((xb (v1 = (5 : Int32))) = 0) ∧ ¬ (i1 ≤ (6 : Int32))))), none] [] 698 u w r 698 P := fun c43 => by
            have k := k.2 c43
            exact xEv.fewer (ls' := [some (.ref 9), none, none, none, none, none, none]) k (xfw_get (xfw_s (xfw_n (xfw_n (xfw_n (xfw_n (xfw_n (xfw_n (xfw_nil _)))))))))
          refine xe_if_ne (tgt := 92) dX7_readUnit_84 rfl (fun c20 => ?_) (fun c23 => ?_)
          · refine xe_iload dX7_readUnit_92 rfl ?_
            refine xe_if_ne (tgt := 110) dX7_readUnit_94 rfl (fun c21 => ?_) (fun c22 => ?_)
            · exact K42 (fun q => (q.elim (fun z => (c21 z.2)) (fun z => (c20 z.1))))
            · exact K40 (Or.inl ⟨c20, c22⟩)
          · refine xe_iload dX7_readUnit_87 rfl ?_
            refine xe_if_eq (tgt := 110) dX7_readUnit_89 rfl (fun c24 => ?_) (fun c25 => ?_)
            · exact K42 (fun q => (q.elim (fun z => (z.1 c23)) (fun z => (z.2.1 c24))))
            · refine xe_iload dX7_readUnit_92 rfl ?_
              refine xe_if_ne (tgt := 110) dX7_readUnit_94 rfl (fun c26 => ?_) (fun c27 => ?_)
              · exact K42 (fun q => (q.elim (fun z => (z.1 c23)) (fun z => (c26 z.2.2))))
              · exact K40 (Or.inr ⟨c23, ⟨c25, c27⟩⟩)
      refine xe_if_eq (tgt := 73) dX7_readUnit_60 rfl (fun c14 => ?_) (fun c15 => ?_)
      · refine xe_iconst (v := 0) dX7_readUnit_73 rfl ?_
        exact xtop (xb_neg (show ¬ (¬ ((xb (v1 = (5 : Int32))) = 0) ∧ ¬ (i1 ≤ (6 : Int32))) from (fun q => (q.1 c14)))) K44
      · refine xe_iload_n dX7_readUnit_63 rfl ?_
        refine xe_bipush (v := 6) dX7_readUnit_64 rfl ?_
        refine xe_icmp_le (tgt := 73) dX7_readUnit_66 rfl (fun c16 => ?_) (fun c17 => ?_)
        · refine xe_iconst (v := 0) dX7_readUnit_73 rfl ?_
          exact xtop (xb_neg (show ¬ (¬ ((xb (v1 = (5 : Int32))) = 0) ∧ ¬ (i1 ≤ (6 : Int32))) from (fun q => (q.2 c16)))) K44
        · refine xe_iconst (v := 1) dX7_readUnit_69 rfl ?_
          refine xe_goto (tgt := 74) dX7_readUnit_70 rfl ?_
          exact xtop (xb_pos (show (¬ ((xb (v1 = (5 : Int32))) = 0) ∧ ¬ (i1 ≤ (6 : Int32))) from ⟨c15, c17⟩)) K44
    refine xe_icmp_eq (tgt := 52) dX7_readUnit_25 rfl (fun c4 => ?_) (fun c5 => ?_)
    · refine xe_iconst (v := 1) dX7_readUnit_52 rfl ?_
      refine xe_goto (tgt := 57) dX7_readUnit_53 rfl ?_
      exact xtop (xb_pos (show (v1 = (3 : Int32) ∨ (v1 = (31 : Int32) ∨ (v1 = (24 : Int32) ∨ (v1 = (32 : Int32) ∨ v1 = (33 : Int32))))) from (Or.inl c4))) K45
    · refine xe_iload_n dX7_readUnit_28 rfl ?_
      refine xe_bipush (v := 31) dX7_readUnit_29 rfl ?_
      refine xe_icmp_eq (tgt := 52) dX7_readUnit_31 rfl (fun c6 => ?_) (fun c7 => ?_)
      · refine xe_iconst (v := 1) dX7_readUnit_52 rfl ?_
        refine xe_goto (tgt := 57) dX7_readUnit_53 rfl ?_
        exact xtop (xb_pos (show (v1 = (3 : Int32) ∨ (v1 = (31 : Int32) ∨ (v1 = (24 : Int32) ∨ (v1 = (32 : Int32) ∨ v1 = (33 : Int32))))) from (Or.inr (Or.inl c6)))) K45
      · refine xe_iload_n dX7_readUnit_34 rfl ?_
        refine xe_bipush (v := 24) dX7_readUnit_35 rfl ?_
        refine xe_icmp_eq (tgt := 52) dX7_readUnit_37 rfl (fun c8 => ?_) (fun c9 => ?_)
        · refine xe_iconst (v := 1) dX7_readUnit_52 rfl ?_
          refine xe_goto (tgt := 57) dX7_readUnit_53 rfl ?_
          exact xtop (xb_pos (show (v1 = (3 : Int32) ∨ (v1 = (31 : Int32) ∨ (v1 = (24 : Int32) ∨ (v1 = (32 : Int32) ∨ v1 = (33 : Int32))))) from (Or.inr (Or.inr (Or.inl c8))))) K45
        · refine xe_iload_n dX7_readUnit_40 rfl ?_
          refine xe_bipush (v := 32) dX7_readUnit_41 rfl ?_
          refine xe_icmp_eq (tgt := 52) dX7_readUnit_43 rfl (fun c10 => ?_) (fun c11 => ?_)
          · refine xe_iconst (v := 1) dX7_readUnit_52 rfl ?_
            refine xe_goto (tgt := 57) dX7_readUnit_53 rfl ?_
            exact xtop (xb_pos (show (v1 = (3 : Int32) ∨ (v1 = (31 : Int32) ∨ (v1 = (24 : Int32) ∨ (v1 = (32 : Int32) ∨ v1 = (33 : Int32))))) from (Or.inr (Or.inr (Or.inr (Or.inl c10)))))) K45
          · refine xe_iload_n dX7_readUnit_46 rfl ?_
            refine xe_bipush (v := 33) dX7_readUnit_47 rfl ?_
            refine xe_icmp_ne (tgt := 56) dX7_readUnit_49 rfl (fun c12 => ?_) (fun c13 => ?_)
            · refine xe_iconst (v := 0) dX7_readUnit_56 rfl ?_
              exact xtop (xb_neg (show ¬ (v1 = (3 : Int32) ∨ (v1 = (31 : Int32) ∨ (v1 = (24 : Int32) ∨ (v1 = (32 : Int32) ∨ v1 = (33 : Int32))))) from (fun q => (q.elim (fun z => (c5 z)) (fun z => (z.elim (fun z => (c7 z)) (fun z => (z.elim (fun z => (c9 z)) (fun z => (z.elim (fun z => (c11 z)) (fun z => (c12 z)))))))))))) K45
            · refine xe_iconst (v := 1) dX7_readUnit_52 rfl ?_
              refine xe_goto (tgt := 57) dX7_readUnit_53 rfl ?_
              exact xtop (xb_pos (show (v1 = (3 : Int32) ∨ (v1 = (31 : Int32) ∨ (v1 = (24 : Int32) ∨ (v1 = (32 : Int32) ∨ v1 = (33 : Int32))))) from (Or.inr (Or.inr (Or.inr (Or.inr c13)))))) K45
  refine xe_icmp_ne (tgt := 21) dX7_readUnit_14 rfl (fun c2 => ?_) (fun c3 => ?_)
  · refine xe_iconst (v := 0) dX7_readUnit_21 rfl ?_
    exact xtop (xb_neg (show ¬ (v1 = (5 : Int32)) from (fun q => (c2 q)))) K46
  · refine xe_iconst (v := 1) dX7_readUnit_17 rfl ?_
    refine xe_goto (tgt := 22) dX7_readUnit_18 rfl ?_
    exact xtop (xb_pos (show v1 = (5 : Int32) from c3)) K46

theorem CX7_readUnit {g : xGT} {d : Nat} {i1 : Int32} {l : Nat} {u : xU} {w : xW} {r : xQ} {P : xPost} (hr : xRf r) (h_l : xLd l) (q_l : xLr l r) (hm_reader : r 9 4 = some l)
    (k : xCall g d mX10_kindAt [.ref 10, .int (u 9 7)] 698 u w r 698 (fun rv1 u1 w1 r1 => ∃ v1 : Int32, rv1 = some (.int v1) ∧ u = u1 ∧ w = w1 ∧ r = r1 ∧ ((u 9 8) = 0 → (((¬ ((xb (v1 = (5 : Int32))) = 0) ∧ (xb (¬ ((xb (v1 = (5 : Int32))) = 0) ∧ ¬ (i1 ≤ (6 : Int32)))) = 0) ∨ ((xb (v1 = (5 : Int32))) = 0 ∧ (¬ ((xb (v1 = (3 : Int32) ∨ (v1 = (31 : Int32) ∨ (v1 = (24 : Int32) ∨ (v1 = (32 : Int32) ∨ v1 = (33 : Int32)))))) = 0) ∧ (xb (¬ ((xb (v1 = (5 : Int32))) = 0) ∧ ¬ (i1 ≤ (6 : Int32)))) = 0))) → xCall g d mX1_isFull [.ref (l + 12)] 698 u w r 698 (fun rv28 u28 w28 r28 => ∃ v28 : Int32, rv28 = some (.int v28) ∧ u = u28 ∧ w = w28 ∧ r = r28 ∧ (v28 = 0 → xCall g d mX10_valueAt [.ref 10, .int ((x2 u (l + 12) 3 ((u (l + 12) 3) + (1 : Int32))) 9 7)] 698 (x2 u (l + 12) 3 ((u (l + 12) 3) + (1 : Int32))) w r 698 (fun rv31 u31 w31 r31 => ∃ v31 : Int64, rv31 = some (.long v31) ∧ (x2 u (l + 12) 3 ((u (l + 12) 3) + (1 : Int32))) = u31 ∧ w = w31 ∧ r = r31 ∧ ((xb (v1 = (5 : Int32))) = 0 → xCall g d mX1_add [.ref (l + 12), .int (if v1 = (3 : Int32) then v31.toInt32 else (-v1))] 698 (x2 (x2 u (l + 12) 3 ((u (l + 12) 3) + (1 : Int32))) 9 7 (((x2 u (l + 12) 3 ((u (l + 12) 3) + (1 : Int32))) 9 7) + (1 : Int32))) w r 698 (fun rv36 u36 w36 r36 => rv36 = none ∧ w = w36 ∧ r = r36 ∧ P none u36 w r)) ∧ (¬ ((xb (v1 = (5 : Int32))) = 0) → xCall g d mX7_readFormula [.ref 9, .int (0 : Int32), .int (i1 + (1 : Int32))] 698 (x2 (x2 u (l + 12) 3 ((u (l + 12) 3) + (1 : Int32))) 9 7 (((x2 u (l + 12) 3 ((u (l + 12) 3) + (1 : Int32))) 9 7) + (1 : Int32))) w r 698 (fun rv38 u38 w38 r38 => rv38 = none ∧ w = w38 ∧ r = r38 ∧ xCall g d mX7_want [.ref 9, .int (6 : Int32)] 698 u38 w r 698 (fun rv39 u39 w39 r39 => rv39 = none ∧ w = w39 ∧ r = r39 ∧ P none u39 w r))))) ∧ (¬ (v28 = 0) → xEv g (d + 1) mX7_readUnit 110 [some (.ref 9), none, none, none, none, none, none] [] 698 u w r 698 P))) ∧ (¬ ((¬ ((xb (v1 = (5 : Int32))) = 0) ∧ (xb (¬ ((xb (v1 = (5 : Int32))) = 0) ∧ ¬ (i1 ≤ (6 : Int32)))) = 0) ∨ ((xb (v1 = (5 : Int32))) = 0 ∧ (¬ ((xb (v1 = (3 : Int32) ∨ (v1 = (31 : Int32) ∨ (v1 = (24 : Int32) ∨ (v1 = (32 : Int32) ∨ v1 = (33 : Int32)))))) = 0) ∧ (xb (¬ ((xb (v1 = (5 : Int32))) = 0) ∧ ¬ (i1 ≤ (6 : Int32)))) = 0))) → xEv g (d + 1) mX7_readUnit 110 [some (.ref 9), none, none, none, none, none, none] [] 698 u w r 698 P)) ∧ (¬ ((u 9 8) = 0) → xEv g (d + 1) mX7_readUnit 110 [some (.ref 9), none, none, none, none, none, none] [] 698 u w r 698 P))) :
    xCall g (d + 1) mX7_readUnit [.ref 9, .int i1] 698 u w r 698 P :=
  xCall.of plX7 (Nat.le_of_ble_eq_true rfl) rfl (TX7_readUnit_0 hr h_l q_l hm_reader k)

theorem TX7_readUnit_110 {g : xGT} {d : Nat} {u : xU} {w : xW} {r : xQ} {P : xPost}
    (k : xCall g d mX7_fail [.ref 9, .int (2 : Int32)] 698 u w r 698 (fun rv47 u47 w47 r47 => rv47 = none ∧ w = w47 ∧ r = r47 ∧ P none u47 w r)) :
    xEv g (d + 1) mX7_readUnit 110 [some (.ref 9), none, none, none, none, none, none] [] 698 u w r 698 P := by
  refine xe_aload_n dX7_readUnit_110 rfl ?_
  refine xe_iconst (v := 2) dX7_readUnit_111 rfl ?_
  refine xe_callV (args := [.int (2 : Int32)]) dX7_readUnit_112 vlX7_79 rfl rfl (Nat.le_of_ble_eq_true rfl) kk9 (xKK_lt kk9) rfl rfl k (Nat.le_refl _) (fun rv47 u47 w47 r47 k => ?_)
  obtain ⟨rfl, rfl, rfl, k⟩ := k
  exact xe_return dX7_readUnit_115 trivial k

/-! Reader.isOperator -/

set_option maxRecDepth 20000 in
theorem TX7_isOperator_0 {g : xGT} {d : Nat} {i0 i1 : Int32} {u : xU} {w : xW} {r : xQ} {P : xPost}
    (k : (i1 = 0 → P (some (.int (xb (i0 = (28 : Int32))))) u w r) ∧ (i1 = 1 → P (some (.int (xb (i0 = (29 : Int32))))) u w r) ∧ (i1 = 2 → P (some (.int (xb (i0 = (7 : Int32) ∨ (i0 = (8 : Int32) ∨ i0 = (9 : Int32)))))) u w r) ∧ (i1 = 3 → P (some (.int (xb (i0 = (10 : Int32) ∨ i0 = (11 : Int32))))) u w r) ∧ (¬ i1 = 0 → ¬ i1 = 1 → ¬ i1 = 2 → ¬ i1 = 3 → P (some (.int (xb (i0 = (12 : Int32) ∨ (i0 = (13 : Int32) ∨ i0 = (14 : Int32)))))) u w r)) :
    xEv g d mX7_isOperator 0 [some (.int i0), some (.int i1)] [] 698 u w r 698 P := by
  refine xe_iload_n dX7_isOperator_0 rfl ?_
  by_cases c26 : i1 = 0
  · have k := k.1 c26
    refine xe_tableIn (tgt := 32) dX7_isOperator_1 (by rw [c26]; decide) (by rw [c26]; decide) (by rw [c26]; rfl) rfl ?_
    refine xe_iload_n dX7_isOperator_32 rfl ?_
    refine xe_bipush (v := 28) dX7_isOperator_33 rfl ?_
    have K3 : xEv g d mX7_isOperator 43 [some (.int i0), some (.int i1)] [.int (xb (i0 = (28 : Int32)))] 698 u w r 698 P := by
      exact xe_ireturn dX7_isOperator_43 (xrokZ (xb01 _)) k
    refine xe_icmp_ne (tgt := 42) dX7_isOperator_35 rfl (fun c1 => ?_) (fun c2 => ?_)
    · refine xe_iconst (v := 0) dX7_isOperator_42 rfl ?_
      exact xtop (xb_neg (show ¬ (i0 = (28 : Int32)) from (fun q => (c1 q)))) K3
    · refine xe_iconst (v := 1) dX7_isOperator_38 rfl ?_
      refine xe_goto (tgt := 43) dX7_isOperator_39 rfl ?_
      exact xtop (xb_pos (show i0 = (28 : Int32) from c2)) K3
  by_cases c27 : i1 = 1
  · have k := k.2.1 c27
    refine xe_tableIn (tgt := 44) dX7_isOperator_1 (by rw [c27]; decide) (by rw [c27]; decide) (by rw [c27]; rfl) rfl ?_
    refine xe_iload_n dX7_isOperator_44 rfl ?_
    refine xe_bipush (v := 29) dX7_isOperator_45 rfl ?_
    have K6 : xEv g d mX7_isOperator 55 [some (.int i0), some (.int i1)] [.int (xb (i0 = (29 : Int32)))] 698 u w r 698 P := by
      exact xe_ireturn dX7_isOperator_55 (xrokZ (xb01 _)) k
    refine xe_icmp_ne (tgt := 54) dX7_isOperator_47 rfl (fun c4 => ?_) (fun c5 => ?_)
    · refine xe_iconst (v := 0) dX7_isOperator_54 rfl ?_
      exact xtop (xb_neg (show ¬ (i0 = (29 : Int32)) from (fun q => (c4 q)))) K6
    · refine xe_iconst (v := 1) dX7_isOperator_50 rfl ?_
      refine xe_goto (tgt := 55) dX7_isOperator_51 rfl ?_
      exact xtop (xb_pos (show i0 = (29 : Int32) from c5)) K6
  by_cases c28 : i1 = 2
  · have k := k.2.2.1 c28
    refine xe_tableIn (tgt := 56) dX7_isOperator_1 (by rw [c28]; decide) (by rw [c28]; decide) (by rw [c28]; rfl) rfl ?_
    refine xe_iload_n dX7_isOperator_56 rfl ?_
    refine xe_bipush (v := 7) dX7_isOperator_57 rfl ?_
    have K13 : xEv g d mX7_isOperator 79 [some (.int i0), some (.int i1)] [.int (xb (i0 = (7 : Int32) ∨ (i0 = (8 : Int32) ∨ i0 = (9 : Int32))))] 698 u w r 698 P := by
      exact xe_ireturn dX7_isOperator_79 (xrokZ (xb01 _)) k
    refine xe_icmp_eq (tgt := 74) dX7_isOperator_59 rfl (fun c7 => ?_) (fun c8 => ?_)
    · refine xe_iconst (v := 1) dX7_isOperator_74 rfl ?_
      refine xe_goto (tgt := 79) dX7_isOperator_75 rfl ?_
      exact xtop (xb_pos (show (i0 = (7 : Int32) ∨ (i0 = (8 : Int32) ∨ i0 = (9 : Int32))) from (Or.inl c7))) K13
    · refine xe_iload_n dX7_isOperator_62 rfl ?_
      refine xe_bipush (v := 8) dX7_isOperator_63 rfl ?_
      refine xe_icmp_eq (tgt := 74) dX7_isOperator_65 rfl (fun c9 => ?_) (fun c10 => ?_)
      · refine xe_iconst (v := 1) dX7_isOperator_74 rfl ?_
        refine xe_goto (tgt := 79) dX7_isOperator_75 rfl ?_
        exact xtop (xb_pos (show (i0 = (7 : Int32) ∨ (i0 = (8 : Int32) ∨ i0 = (9 : Int32))) from (Or.inr (Or.inl c9)))) K13
      · refine xe_iload_n dX7_isOperator_68 rfl ?_
        refine xe_bipush (v := 9) dX7_isOperator_69 rfl ?_
        refine xe_icmp_ne (tgt := 78) dX7_isOperator_71 rfl (fun c11 => ?_) (fun c12 => ?_)
        · refine xe_iconst (v := 0) dX7_isOperator_78 rfl ?_
          exact xtop (xb_neg (show ¬ (i0 = (7 : Int32) ∨ (i0 = (8 : Int32) ∨ i0 = (9 : Int32))) from (fun q => (q.elim (fun z => (c8 z)) (fun z => (z.elim (fun z => (c10 z)) (fun z => (c11 z)))))))) K13
        · refine xe_iconst (v := 1) dX7_isOperator_74 rfl ?_
          refine xe_goto (tgt := 79) dX7_isOperator_75 rfl ?_
          exact xtop (xb_pos (show (i0 = (7 : Int32) ∨ (i0 = (8 : Int32) ∨ i0 = (9 : Int32))) from (Or.inr (Or.inr c12)))) K13
  by_cases c29 : i1 = 3
  · have k := k.2.2.2.1 c29
    refine xe_tableIn (tgt := 80) dX7_isOperator_1 (by rw [c29]; decide) (by rw [c29]; decide) (by rw [c29]; rfl) rfl ?_
    refine xe_iload_n dX7_isOperator_80 rfl ?_
    refine xe_bipush (v := 10) dX7_isOperator_81 rfl ?_
    have K18 : xEv g d mX7_isOperator 97 [some (.int i0), some (.int i1)] [.int (xb (i0 = (10 : Int32) ∨ i0 = (11 : Int32)))] 698 u w r 698 P := by
      exact xe_ireturn dX7_isOperator_97 (xrokZ (xb01 _)) k
    refine xe_icmp_eq (tgt := 92) dX7_isOperator_83 rfl (fun c14 => ?_) (fun c15 => ?_)
    · refine xe_iconst (v := 1) dX7_isOperator_92 rfl ?_
      refine xe_goto (tgt := 97) dX7_isOperator_93 rfl ?_
      exact xtop (xb_pos (show (i0 = (10 : Int32) ∨ i0 = (11 : Int32)) from (Or.inl c14))) K18
    · refine xe_iload_n dX7_isOperator_86 rfl ?_
      refine xe_bipush (v := 11) dX7_isOperator_87 rfl ?_
      refine xe_icmp_ne (tgt := 96) dX7_isOperator_89 rfl (fun c16 => ?_) (fun c17 => ?_)
      · refine xe_iconst (v := 0) dX7_isOperator_96 rfl ?_
        exact xtop (xb_neg (show ¬ (i0 = (10 : Int32) ∨ i0 = (11 : Int32)) from (fun q => (q.elim (fun z => (c15 z)) (fun z => (c16 z)))))) K18
      · refine xe_iconst (v := 1) dX7_isOperator_92 rfl ?_
        refine xe_goto (tgt := 97) dX7_isOperator_93 rfl ?_
        exact xtop (xb_pos (show (i0 = (10 : Int32) ∨ i0 = (11 : Int32)) from (Or.inr c17))) K18
  have k := k.2.2.2.2 c26 c27 c28 c29
  have K30 : xEv g d mX7_isOperator 98 [some (.int i0), some (.int i1)] [] 698 u w r 698 P := by
    refine xe_iload_n dX7_isOperator_98 rfl ?_
    refine xe_bipush (v := 12) dX7_isOperator_99 rfl ?_
    have K25 : xEv g d mX7_isOperator 121 [some (.int i0), some (.int i1)] [.int (xb (i0 = (12 : Int32) ∨ (i0 = (13 : Int32) ∨ i0 = (14 : Int32))))] 698 u w r 698 P := by
      exact xe_ireturn dX7_isOperator_121 (xrokZ (xb01 _)) k
    refine xe_icmp_eq (tgt := 116) dX7_isOperator_101 rfl (fun c19 => ?_) (fun c20 => ?_)
    · refine xe_iconst (v := 1) dX7_isOperator_116 rfl ?_
      refine xe_goto (tgt := 121) dX7_isOperator_117 rfl ?_
      exact xtop (xb_pos (show (i0 = (12 : Int32) ∨ (i0 = (13 : Int32) ∨ i0 = (14 : Int32))) from (Or.inl c19))) K25
    · refine xe_iload_n dX7_isOperator_104 rfl ?_
      refine xe_bipush (v := 13) dX7_isOperator_105 rfl ?_
      refine xe_icmp_eq (tgt := 116) dX7_isOperator_107 rfl (fun c21 => ?_) (fun c22 => ?_)
      · refine xe_iconst (v := 1) dX7_isOperator_116 rfl ?_
        refine xe_goto (tgt := 121) dX7_isOperator_117 rfl ?_
        exact xtop (xb_pos (show (i0 = (12 : Int32) ∨ (i0 = (13 : Int32) ∨ i0 = (14 : Int32))) from (Or.inr (Or.inl c21)))) K25
      · refine xe_iload_n dX7_isOperator_110 rfl ?_
        refine xe_bipush (v := 14) dX7_isOperator_111 rfl ?_
        refine xe_icmp_ne (tgt := 120) dX7_isOperator_113 rfl (fun c23 => ?_) (fun c24 => ?_)
        · refine xe_iconst (v := 0) dX7_isOperator_120 rfl ?_
          exact xtop (xb_neg (show ¬ (i0 = (12 : Int32) ∨ (i0 = (13 : Int32) ∨ i0 = (14 : Int32))) from (fun q => (q.elim (fun z => (c20 z)) (fun z => (z.elim (fun z => (c22 z)) (fun z => (c23 z)))))))) K25
        · refine xe_iconst (v := 1) dX7_isOperator_116 rfl ?_
          refine xe_goto (tgt := 121) dX7_isOperator_117 rfl ?_
          exact xtop (xb_pos (show (i0 = (12 : Int32) ∨ (i0 = (13 : Int32) ∨ i0 = (14 : Int32))) from (Or.inr (Or.inr c24)))) K25
  by_cases hlo : i1.toInt < 0 ∨ 3 < i1.toInt
  · exact xe_tableOut (tgt := 98) dX7_isOperator_1 hlo rfl K30
  · exact absurd (xsw_0_3_4 c26 c27 c28 c29 hlo) (fun h => h)

theorem CX7_isOperator {g : xGT} {d : Nat} {i0 i1 : Int32} {u : xU} {w : xW} {r : xQ} {P : xPost}
    (k : (i1 = 0 → P (some (.int (xb (i0 = (28 : Int32))))) u w r) ∧ (i1 = 1 → P (some (.int (xb (i0 = (29 : Int32))))) u w r) ∧ (i1 = 2 → P (some (.int (xb (i0 = (7 : Int32) ∨ (i0 = (8 : Int32) ∨ i0 = (9 : Int32)))))) u w r) ∧ (i1 = 3 → P (some (.int (xb (i0 = (10 : Int32) ∨ i0 = (11 : Int32))))) u w r) ∧ (¬ i1 = 0 → ¬ i1 = 1 → ¬ i1 = 2 → ¬ i1 = 3 → P (some (.int (xb (i0 = (12 : Int32) ∨ (i0 = (13 : Int32) ∨ i0 = (14 : Int32)))))) u w r)) :
    xCall g d mX7_isOperator [.int i0, .int i1] 698 u w r 698 P :=
  xCall.of plX7 (Nat.le_of_ble_eq_true rfl) rfl (TX7_isOperator_0  k)

/-! Reader.sees -/

theorem TX7_sees_0 {g : xGT} {d : Nat} {i1 : Int32} {u : xU} {w : xW} {r : xQ} {P : xPost} (hr : xRf r)
    (k : ((u 9 8) = 0 → xCall g d mX10_kindAt [.ref 10, .int (u 9 7)] 698 u w r 698 (fun rv3 u3 w3 r3 => ∃ v3 : Int32, rv3 = some (.int v3) ∧ u = u3 ∧ w = w3 ∧ r = r3 ∧ (v3 = i1 → P (some (.int (1 : Int32))) u w r) ∧ (¬ (v3 = i1) → P (some (.int (0 : Int32))) u w r))) ∧ (¬ ((u 9 8) = 0) → P (some (.int (0 : Int32))) u w r)) :
    xEv g (d + 1) mX7_sees 0 [some (.ref 9), some (.int i1)] [] 698 u w r 698 P := by
  refine xe_aload_n dX7_sees_0 rfl ?_
  refine xe_getI dX7_sees_1 flX7_59 kk9 (xKK_lt kk9) rfl ?_
  refine xe_if_ne (tgt := 26) dX7_sees_4 rfl (fun c1 => ?_) (fun c2 => ?_)
  · have k := k.2 (fun q => (c1 q))
    refine xe_iconst (v := 0) dX7_sees_26 rfl ?_
    exact xe_ireturn dX7_sees_27 (xrokZ (Or.inl rfl)) k
  · have k := k.1 c2
    refine xe_aload_n dX7_sees_7 rfl ?_
    refine xe_getR (b := 10) dX7_sees_8 flX7_12 kk9 (xKK_lt kk9) rfl (rf9_0 hr) ?_
    refine xe_aload_n dX7_sees_11 rfl ?_
    refine xe_getI dX7_sees_12 flX7_56 kk9 (xKK_lt kk9) rfl ?_
    refine xe_callV (args := [.int (u 9 7)]) dX7_sees_15 vlX7_72 rfl rfl (Nat.le_of_ble_eq_true rfl) kk10 (xKK_lt kk10) rfl rfl k (Nat.le_refl _) (fun rv3 u3 w3 r3 k => ?_)
    obtain ⟨v3, rfl, rfl, rfl, rfl, k⟩ := k
    refine xe_iload_n dX7_sees_18 rfl ?_
    refine xe_icmp_ne (tgt := 26) dX7_sees_19 rfl (fun c4 => ?_) (fun c5 => ?_)
    · have k := k.2 (fun q => (c4 q))
      refine xe_iconst (v := 0) dX7_sees_26 rfl ?_
      exact xe_ireturn dX7_sees_27 (xrokZ (Or.inl rfl)) k
    · have k := k.1 c5
      refine xe_iconst (v := 1) dX7_sees_22 rfl ?_
      refine xe_goto (tgt := 27) dX7_sees_23 rfl ?_
      exact xe_ireturn dX7_sees_27 (xrokZ (Or.inr rfl)) k

theorem CX7_sees {g : xGT} {d : Nat} {i1 : Int32} {u : xU} {w : xW} {r : xQ} {P : xPost} (hr : xRf r)
    (k : ((u 9 8) = 0 → xCall g d mX10_kindAt [.ref 10, .int (u 9 7)] 698 u w r 698 (fun rv3 u3 w3 r3 => ∃ v3 : Int32, rv3 = some (.int v3) ∧ u = u3 ∧ w = w3 ∧ r = r3 ∧ (v3 = i1 → P (some (.int (1 : Int32))) u w r) ∧ (¬ (v3 = i1) → P (some (.int (0 : Int32))) u w r))) ∧ (¬ ((u 9 8) = 0) → P (some (.int (0 : Int32))) u w r)) :
    xCall g (d + 1) mX7_sees [.ref 9, .int i1] 698 u w r 698 P :=
  xCall.of plX7 (Nat.le_of_ble_eq_true rfl) rfl (TX7_sees_0 hr k)

/-! Reader.want -/

theorem TX7_want_0 {g : xGT} {d : Nat} {i1 : Int32} {u : xU} {w : xW} {r : xQ} {P : xPost}
    (k : xCall g d mX7_sees [.ref 9, .int i1] 698 u w r 698 (fun rv1 u1 w1 r1 => ∃ v1 : Int32, rv1 = some (.int v1) ∧ u = u1 ∧ w = w1 ∧ r = r1 ∧ (v1 = 0 → xCall g d mX7_fail [.ref 9, .int (2 : Int32)] 698 u w r 698 (fun rv4 u4 w4 r4 => rv4 = none ∧ w = w4 ∧ r = r4 ∧ P none u4 w r)) ∧ (¬ (v1 = 0) → P none (x2 u 9 7 ((u 9 7) + (1 : Int32))) w r))) :
    xEv g (d + 1) mX7_want 0 [some (.ref 9), some (.int i1)] [] 698 u w r 698 P := by
  refine xe_aload_n dX7_want_0 rfl ?_
  refine xe_iload_n dX7_want_1 rfl ?_
  refine xe_callV (args := [.int i1]) dX7_want_2 vlX7_65 rfl rfl (Nat.le_of_ble_eq_true rfl) kk9 (xKK_lt kk9) rfl rfl k (Nat.le_refl _) (fun rv1 u1 w1 r1 k => ?_)
  obtain ⟨v1, rfl, rfl, rfl, rfl, k⟩ := k
  refine xe_if_eq (tgt := 21) dX7_want_5 rfl (fun c2 => ?_) (fun c3 => ?_)
  · have k := k.1 c2
    refine xe_aload_n dX7_want_21 rfl ?_
    refine xe_iconst (v := 2) dX7_want_22 rfl ?_
    refine xe_callV (args := [.int (2 : Int32)]) dX7_want_23 vlX7_79 rfl rfl (Nat.le_of_ble_eq_true rfl) kk9 (xKK_lt kk9) rfl rfl k (Nat.le_refl _) (fun rv4 u4 w4 r4 k => ?_)
    obtain ⟨rfl, rfl, rfl, k⟩ := k
    exact xe_return dX7_want_26 trivial k
  · have k := k.2 (fun q => (c3 q))
    refine xe_aload_n dX7_want_8 rfl ?_
    refine xe_dup dX7_want_9 rfl ?_
    refine xe_getI dX7_want_10 flX7_56 kk9 (xKK_lt kk9) rfl ?_
    refine xe_iconst (v := 1) dX7_want_13 rfl ?_
    refine xe_iadd dX7_want_14 ?_
    refine xe_putI dX7_want_15 flX7_56 kk9 (xKK_lt kk9) nf7_7 rfl ?_
    refine xe_goto (tgt := 26) dX7_want_18 rfl ?_
    exact xe_return dX7_want_26 trivial k

theorem CX7_want {g : xGT} {d : Nat} {i1 : Int32} {u : xU} {w : xW} {r : xQ} {P : xPost}
    (k : xCall g d mX7_sees [.ref 9, .int i1] 698 u w r 698 (fun rv1 u1 w1 r1 => ∃ v1 : Int32, rv1 = some (.int v1) ∧ u = u1 ∧ w = w1 ∧ r = r1 ∧ (v1 = 0 → xCall g d mX7_fail [.ref 9, .int (2 : Int32)] 698 u w r 698 (fun rv4 u4 w4 r4 => rv4 = none ∧ w = w4 ∧ r = r4 ∧ P none u4 w r)) ∧ (¬ (v1 = 0) → P none (x2 u 9 7 ((u 9 7) + (1 : Int32))) w r))) :
    xCall g (d + 1) mX7_want [.ref 9, .int i1] 698 u w r 698 P :=
  xCall.of plX7 (Nat.le_of_ble_eq_true rfl) rfl (TX7_want_0  k)

/-! Reader.readNewName -/

theorem TX7_readNewName_0 {g : xGT} {d : Nat} {n m : Nat} {u : xU} {w : xW} {r : xQ} {P : xPost} (hr : xRf r) (h_n : xNm n m)
    (k : xCall g d mX7_sees [.ref 9, .int (2 : Int32)] 698 u w r 698 (fun rv1 u1 w1 r1 => ∃ v1 : Int32, rv1 = some (.int v1) ∧ u = u1 ∧ w = w1 ∧ r = r1 ∧ (v1 = 0 → xCall g d mX7_fail [.ref 9, .int (2 : Int32)] 698 u w r 698 (fun rv4 u4 w4 r4 => rv4 = none ∧ w = w4 ∧ r = r4 ∧ P none u4 w r)) ∧ (¬ (v1 = 0) → xCall g d mX10_valueAt [.ref 10, .int (u 9 7)] 698 u w r 698 (fun rv5 u5 w5 r5 => ∃ v5 : Int64, rv5 = some (.long v5) ∧ u = u5 ∧ w = w5 ∧ r = r5 ∧ xCall g d mX5_find [.ref n, .long v5] 698 u w r 698 (fun rv6 u6 w6 r6 => ∃ v6 : Int32, rv6 = some (.int v6) ∧ u = u6 ∧ w = w6 ∧ r = r6 ∧ (v6 = (-1 : Int32) → xCall g d mX10_valueAt [.ref 10, .int (u 9 7)] 698 u w r 698 (fun rv9 u9 w9 r9 => ∃ v9 : Int64, rv9 = some (.long v9) ∧ u = u9 ∧ w = w9 ∧ r = r9 ∧ xCall g d mX5_add [.ref n, .long v9] 698 u w r 698 (fun rv10 u10 w10 r10 => rv10 = none ∧ r = r10 ∧ P none (x2 u10 9 7 ((u10 9 7) + (1 : Int32))) w10 r))) ∧ (¬ (v6 = (-1 : Int32)) → xCall g d mX7_fail [.ref 9, .int (3 : Int32)] 698 u w r 698 (fun rv11 u11 w11 r11 => rv11 = none ∧ w = w11 ∧ r = r11 ∧ P none u11 w r))))))) :
    xEv g (d + 1) mX7_readNewName 0 [some (.ref 9), some (.ref n)] [] 698 u w r 698 P := by
  refine xe_aload_n dX7_readNewName_0 rfl ?_
  refine xe_iconst (v := 2) dX7_readNewName_1 rfl ?_
  refine xe_callV (args := [.int (2 : Int32)]) dX7_readNewName_2 vlX7_65 rfl rfl (Nat.le_of_ble_eq_true rfl) kk9 (xKK_lt kk9) rfl rfl k (Nat.le_refl _) (fun rv1 u1 w1 r1 k => ?_)
  obtain ⟨v1, rfl, rfl, rfl, rfl, k⟩ := k
  refine xe_if_ne (tgt := 16) dX7_readNewName_5 rfl (fun c2 => ?_) (fun c3 => ?_)
  · have k := k.2 (fun q => (c2 q))
    refine xe_aload_n dX7_readNewName_16 rfl ?_
    refine xe_aload_n dX7_readNewName_17 rfl ?_
    refine xe_getR (b := 10) dX7_readNewName_18 flX7_12 kk9 (xKK_lt kk9) rfl (rf9_0 hr) ?_
    refine xe_aload_n dX7_readNewName_21 rfl ?_
    refine xe_getI dX7_readNewName_22 flX7_56 kk9 (xKK_lt kk9) rfl ?_
    refine xe_callV (args := [.int (u 9 7)]) dX7_readNewName_25 vlX7_165 rfl rfl (Nat.le_of_ble_eq_true rfl) kk10 (xKK_lt kk10) rfl rfl k (Nat.le_refl _) (fun rv5 u5 w5 r5 k => ?_)
    obtain ⟨v5, rfl, rfl, rfl, rfl, k⟩ := k
    refine xe_callV (args := [.long v5]) dX7_readNewName_28 vlX7_169 rfl rfl (Nat.le_of_ble_eq_true rfl) h_n.k0 (xKK_lt h_n.k0) rfl rfl k (Nat.le_refl _) (fun rv6 u6 w6 r6 k => ?_)
    obtain ⟨v6, rfl, rfl, rfl, rfl, k⟩ := k
    refine xe_iconst (v := -1) dX7_readNewName_31 rfl ?_
    refine xe_icmp_eq (tgt := 43) dX7_readNewName_32 rfl (fun c7 => ?_) (fun c8 => ?_)
    · have k := k.1 c7
      refine xe_aload_n dX7_readNewName_43 rfl ?_
      refine xe_aload_n dX7_readNewName_44 rfl ?_
      refine xe_getR (b := 10) dX7_readNewName_45 flX7_12 kk9 (xKK_lt kk9) rfl (rf9_0 hr) ?_
      refine xe_aload_n dX7_readNewName_48 rfl ?_
      refine xe_getI dX7_readNewName_49 flX7_56 kk9 (xKK_lt kk9) rfl ?_
      refine xe_callV (args := [.int (u 9 7)]) dX7_readNewName_52 vlX7_165 rfl rfl (Nat.le_of_ble_eq_true rfl) kk10 (xKK_lt kk10) rfl rfl k (Nat.le_refl _) (fun rv9 u9 w9 r9 k => ?_)
      obtain ⟨v9, rfl, rfl, rfl, rfl, k⟩ := k
      refine xe_callV (args := [.long v9]) dX7_readNewName_55 vlX7_173 rfl rfl (Nat.le_of_ble_eq_true rfl) h_n.k0 (xKK_lt h_n.k0) rfl rfl k (Nat.le_refl _) (fun rv10 u10 w10 r10 k => ?_)
      obtain ⟨rfl, rfl, k⟩ := k
      refine xe_aload_n dX7_readNewName_58 rfl ?_
      refine xe_dup dX7_readNewName_59 rfl ?_
      refine xe_getI dX7_readNewName_60 flX7_56 kk9 (xKK_lt kk9) rfl ?_
      refine xe_iconst (v := 1) dX7_readNewName_63 rfl ?_
      refine xe_iadd dX7_readNewName_64 ?_
      refine xe_putI dX7_readNewName_65 flX7_56 kk9 (xKK_lt kk9) nf7_7 rfl ?_
      exact xe_return dX7_readNewName_68 trivial k
    · have k := k.2 (fun q => (c8 q))
      refine xe_aload_n dX7_readNewName_35 rfl ?_
      refine xe_iconst (v := 3) dX7_readNewName_36 rfl ?_
      refine xe_callV (args := [.int (3 : Int32)]) dX7_readNewName_37 vlX7_79 rfl rfl (Nat.le_of_ble_eq_true rfl) kk9 (xKK_lt kk9) rfl rfl k (Nat.le_refl _) (fun rv11 u11 w11 r11 k => ?_)
      obtain ⟨rfl, rfl, rfl, k⟩ := k
      refine xe_goto (tgt := 68) dX7_readNewName_40 rfl ?_
      exact xe_return dX7_readNewName_68 trivial k
  · have k := k.1 c3
    refine xe_aload_n dX7_readNewName_8 rfl ?_
    refine xe_iconst (v := 2) dX7_readNewName_9 rfl ?_
    refine xe_callV (args := [.int (2 : Int32)]) dX7_readNewName_10 vlX7_79 rfl rfl (Nat.le_of_ble_eq_true rfl) kk9 (xKK_lt kk9) rfl rfl k (Nat.le_refl _) (fun rv4 u4 w4 r4 k => ?_)
    obtain ⟨rfl, rfl, rfl, k⟩ := k
    refine xe_goto (tgt := 68) dX7_readNewName_13 rfl ?_
    exact xe_return dX7_readNewName_68 trivial k

theorem CX7_readNewName {g : xGT} {d : Nat} {n m : Nat} {u : xU} {w : xW} {r : xQ} {P : xPost} (hr : xRf r) (h_n : xNm n m)
    (k : xCall g d mX7_sees [.ref 9, .int (2 : Int32)] 698 u w r 698 (fun rv1 u1 w1 r1 => ∃ v1 : Int32, rv1 = some (.int v1) ∧ u = u1 ∧ w = w1 ∧ r = r1 ∧ (v1 = 0 → xCall g d mX7_fail [.ref 9, .int (2 : Int32)] 698 u w r 698 (fun rv4 u4 w4 r4 => rv4 = none ∧ w = w4 ∧ r = r4 ∧ P none u4 w r)) ∧ (¬ (v1 = 0) → xCall g d mX10_valueAt [.ref 10, .int (u 9 7)] 698 u w r 698 (fun rv5 u5 w5 r5 => ∃ v5 : Int64, rv5 = some (.long v5) ∧ u = u5 ∧ w = w5 ∧ r = r5 ∧ xCall g d mX5_find [.ref n, .long v5] 698 u w r 698 (fun rv6 u6 w6 r6 => ∃ v6 : Int32, rv6 = some (.int v6) ∧ u = u6 ∧ w = w6 ∧ r = r6 ∧ (v6 = (-1 : Int32) → xCall g d mX10_valueAt [.ref 10, .int (u 9 7)] 698 u w r 698 (fun rv9 u9 w9 r9 => ∃ v9 : Int64, rv9 = some (.long v9) ∧ u = u9 ∧ w = w9 ∧ r = r9 ∧ xCall g d mX5_add [.ref n, .long v9] 698 u w r 698 (fun rv10 u10 w10 r10 => rv10 = none ∧ r = r10 ∧ P none (x2 u10 9 7 ((u10 9 7) + (1 : Int32))) w10 r))) ∧ (¬ (v6 = (-1 : Int32)) → xCall g d mX7_fail [.ref 9, .int (3 : Int32)] 698 u w r 698 (fun rv11 u11 w11 r11 => rv11 = none ∧ w = w11 ∧ r = r11 ∧ P none u11 w r))))))) :
    xCall g (d + 1) mX7_readNewName [.ref 9, .ref n] 698 u w r 698 P :=
  xCall.of plX7 (Nat.le_of_ble_eq_true rfl) rfl (TX7_readNewName_0 hr h_n k)

/-! Reader.readVillage -/

theorem TX7_readVillage_0 {g : xGT} {d : Nat} {i1 : Int32} {u : xU} {w : xW} {r : xQ} {P : xPost} (hr : xRf r)
    (k : xCall g d mX7_sees [.ref 9, .int (2 : Int32)] 698 u w r 698 (fun rv1 u1 w1 r1 => ∃ v1 : Int32, rv1 = some (.int v1) ∧ u = u1 ∧ w = w1 ∧ r = r1 ∧ (v1 = 0 → xCall g d mX7_fail [.ref 9, .int (2 : Int32)] 698 u w r 698 (fun rv4 u4 w4 r4 => rv4 = none ∧ w = w4 ∧ r = r4 ∧ P (some (.int (-1 : Int32))) u4 w r)) ∧ (¬ (v1 = 0) → xCall g d mX10_valueAt [.ref 10, .int (u 9 7)] 698 u w r 698 (fun rv5 u5 w5 r5 => ∃ v5 : Int64, rv5 = some (.long v5) ∧ u = u5 ∧ w = w5 ∧ r = r5 ∧ xCall g d mX5_find [.ref 16, .long v5] 698 u w r 698 (fun rv6 u6 w6 r6 => ∃ v6 : Int32, rv6 = some (.int v6) ∧ u = u6 ∧ w = w6 ∧ r = r6 ∧ (v6 = (-1 : Int32) → xCall g d mX7_fail [.ref 9, .int (5 : Int32)] 698 u w r 698 (fun rv9 u9 w9 r9 => rv9 = none ∧ w = w9 ∧ r = r9 ∧ P (some (.int v6)) u9 w r)) ∧ (¬ (v6 = (-1 : Int32)) → (v6 = i1 → xCall g d mX7_fail [.ref 9, .int (3 : Int32)] 698 u w r 698 (fun rv12 u12 w12 r12 => rv12 = none ∧ w = w12 ∧ r = r12 ∧ P (some (.int v6)) u12 w r)) ∧ (¬ (v6 = i1) → P (some (.int v6)) (x2 u 9 7 ((u 9 7) + (1 : Int32))) w r))))))) :
    xEv g (d + 1) mX7_readVillage 0 [some (.ref 9), some (.int i1), none] [] 698 u w r 698 P := by
  refine xe_aload_n dX7_readVillage_0 rfl ?_
  refine xe_iconst (v := 2) dX7_readVillage_1 rfl ?_
  refine xe_callV (args := [.int (2 : Int32)]) dX7_readVillage_2 vlX7_65 rfl rfl (Nat.le_of_ble_eq_true rfl) kk9 (xKK_lt kk9) rfl rfl k (Nat.le_refl _) (fun rv1 u1 w1 r1 k => ?_)
  obtain ⟨v1, rfl, rfl, rfl, rfl, k⟩ := k
  refine xe_if_ne (tgt := 15) dX7_readVillage_5 rfl (fun c2 => ?_) (fun c3 => ?_)
  · have k := k.2 (fun q => (c2 q))
    refine xe_aload_n dX7_readVillage_15 rfl ?_
    refine xe_getR (b := 16) dX7_readVillage_16 flX7_23 kk9 (xKK_lt kk9) rfl (rf9_1 hr) ?_
    refine xe_aload_n dX7_readVillage_19 rfl ?_
    refine xe_getR (b := 10) dX7_readVillage_20 flX7_12 kk9 (xKK_lt kk9) rfl (rf9_0 hr) ?_
    refine xe_aload_n dX7_readVillage_23 rfl ?_
    refine xe_getI dX7_readVillage_24 flX7_56 kk9 (xKK_lt kk9) rfl ?_
    refine xe_callV (args := [.int (u 9 7)]) dX7_readVillage_27 vlX7_165 rfl rfl (Nat.le_of_ble_eq_true rfl) kk10 (xKK_lt kk10) rfl rfl k (Nat.le_refl _) (fun rv5 u5 w5 r5 k => ?_)
    obtain ⟨v5, rfl, rfl, rfl, rfl, k⟩ := k
    refine xe_callV (args := [.long v5]) dX7_readVillage_30 vlX7_169 rfl rfl (Nat.le_of_ble_eq_true rfl) nm16.k0 (xKK_lt nm16.k0) rfl rfl k (Nat.le_refl _) (fun rv6 u6 w6 r6 k => ?_)
    obtain ⟨v6, rfl, rfl, rfl, rfl, k⟩ := k
    refine xe_istore_n (ls' := [some (.ref 9), some (.int i1), some (.int v6)]) dX7_readVillage_33 rfl (by decide) rfl ?_
    refine xe_iload_n dX7_readVillage_34 rfl ?_
    refine xe_iconst (v := -1) dX7_readVillage_35 rfl ?_
    refine xe_icmp_ne (tgt := 47) dX7_readVillage_36 rfl (fun c7 => ?_) (fun c8 => ?_)
    · have k := k.2 (fun q => (c7 q))
      refine xe_iload_n dX7_readVillage_47 rfl ?_
      refine xe_iload_n dX7_readVillage_48 rfl ?_
      refine xe_icmp_ne (tgt := 60) dX7_readVillage_49 rfl (fun c10 => ?_) (fun c11 => ?_)
      · have k := k.2 (fun q => (c10 q))
        refine xe_aload_n dX7_readVillage_60 rfl ?_
        refine xe_dup dX7_readVillage_61 rfl ?_
        refine xe_getI dX7_readVillage_62 flX7_56 kk9 (xKK_lt kk9) rfl ?_
        refine xe_iconst (v := 1) dX7_readVillage_65 rfl ?_
        refine xe_iadd dX7_readVillage_66 ?_
        refine xe_putI dX7_readVillage_67 flX7_56 kk9 (xKK_lt kk9) nf7_7 rfl ?_
        refine xe_iload_n dX7_readVillage_70 rfl ?_
        exact xe_ireturn dX7_readVillage_71 rfl k
      · have k := k.1 c11
        refine xe_aload_n dX7_readVillage_52 rfl ?_
        refine xe_iconst (v := 3) dX7_readVillage_53 rfl ?_
        refine xe_callV (args := [.int (3 : Int32)]) dX7_readVillage_54 vlX7_79 rfl rfl (Nat.le_of_ble_eq_true rfl) kk9 (xKK_lt kk9) rfl rfl k (Nat.le_refl _) (fun rv12 u12 w12 r12 k => ?_)
        obtain ⟨rfl, rfl, rfl, k⟩ := k
        refine xe_goto (tgt := 70) dX7_readVillage_57 rfl ?_
        refine xe_iload_n dX7_readVillage_70 rfl ?_
        exact xe_ireturn dX7_readVillage_71 rfl k
    · have k := k.1 c8
      refine xe_aload_n dX7_readVillage_39 rfl ?_
      refine xe_iconst (v := 5) dX7_readVillage_40 rfl ?_
      refine xe_callV (args := [.int (5 : Int32)]) dX7_readVillage_41 vlX7_79 rfl rfl (Nat.le_of_ble_eq_true rfl) kk9 (xKK_lt kk9) rfl rfl k (Nat.le_refl _) (fun rv9 u9 w9 r9 k => ?_)
      obtain ⟨rfl, rfl, rfl, k⟩ := k
      refine xe_goto (tgt := 70) dX7_readVillage_44 rfl ?_
      refine xe_iload_n dX7_readVillage_70 rfl ?_
      exact xe_ireturn dX7_readVillage_71 rfl k
  · have k := k.1 c3
    refine xe_aload_n dX7_readVillage_8 rfl ?_
    refine xe_iconst (v := 2) dX7_readVillage_9 rfl ?_
    refine xe_callV (args := [.int (2 : Int32)]) dX7_readVillage_10 vlX7_79 rfl rfl (Nat.le_of_ble_eq_true rfl) kk9 (xKK_lt kk9) rfl rfl k (Nat.le_refl _) (fun rv4 u4 w4 r4 k => ?_)
    obtain ⟨rfl, rfl, rfl, k⟩ := k
    refine xe_iconst (v := -1) dX7_readVillage_13 rfl ?_
    exact xe_ireturn dX7_readVillage_14 rfl k

theorem CX7_readVillage {g : xGT} {d : Nat} {i1 : Int32} {u : xU} {w : xW} {r : xQ} {P : xPost} (hr : xRf r)
    (k : xCall g d mX7_sees [.ref 9, .int (2 : Int32)] 698 u w r 698 (fun rv1 u1 w1 r1 => ∃ v1 : Int32, rv1 = some (.int v1) ∧ u = u1 ∧ w = w1 ∧ r = r1 ∧ (v1 = 0 → xCall g d mX7_fail [.ref 9, .int (2 : Int32)] 698 u w r 698 (fun rv4 u4 w4 r4 => rv4 = none ∧ w = w4 ∧ r = r4 ∧ P (some (.int (-1 : Int32))) u4 w r)) ∧ (¬ (v1 = 0) → xCall g d mX10_valueAt [.ref 10, .int (u 9 7)] 698 u w r 698 (fun rv5 u5 w5 r5 => ∃ v5 : Int64, rv5 = some (.long v5) ∧ u = u5 ∧ w = w5 ∧ r = r5 ∧ xCall g d mX5_find [.ref 16, .long v5] 698 u w r 698 (fun rv6 u6 w6 r6 => ∃ v6 : Int32, rv6 = some (.int v6) ∧ u = u6 ∧ w = w6 ∧ r = r6 ∧ (v6 = (-1 : Int32) → xCall g d mX7_fail [.ref 9, .int (5 : Int32)] 698 u w r 698 (fun rv9 u9 w9 r9 => rv9 = none ∧ w = w9 ∧ r = r9 ∧ P (some (.int v6)) u9 w r)) ∧ (¬ (v6 = (-1 : Int32)) → (v6 = i1 → xCall g d mX7_fail [.ref 9, .int (3 : Int32)] 698 u w r 698 (fun rv12 u12 w12 r12 => rv12 = none ∧ w = w12 ∧ r = r12 ∧ P (some (.int v6)) u12 w r)) ∧ (¬ (v6 = i1) → P (some (.int v6)) (x2 u 9 7 ((u 9 7) + (1 : Int32))) w r))))))) :
    xCall g (d + 1) mX7_readVillage [.ref 9, .int i1] 698 u w r 698 P :=
  xCall.of plX7 (Nat.le_of_ble_eq_true rfl) rfl (TX7_readVillage_0 hr k)

/-! Reader.readNumber -/

theorem TX7_readNumber_0 {g : xGT} {d : Nat} {i1 i2 : Int32} {u : xU} {w : xW} {r : xQ} {P : xPost} (hr : xRf r)
    (k : xCall g d mX7_sees [.ref 9, .int (3 : Int32)] 698 u w r 698 (fun rv1 u1 w1 r1 => ∃ v1 : Int32, rv1 = some (.int v1) ∧ u = u1 ∧ w = w1 ∧ r = r1 ∧ (v1 = 0 → xCall g d mX7_fail [.ref 9, .int (2 : Int32)] 698 u w r 698 (fun rv4 u4 w4 r4 => rv4 = none ∧ w = w4 ∧ r = r4 ∧ P (some (.int i1)) u4 w r)) ∧ (¬ (v1 = 0) → xCall g d mX10_valueAt [.ref 10, .int (u 9 7)] 698 u w r 698 (fun rv5 u5 w5 r5 => ∃ v5 : Int64, rv5 = some (.long v5) ∧ u = u5 ∧ w = w5 ∧ r = r5 ∧ ((v5.toInt32 < i1 ∨ ¬ (v5.toInt32 ≤ i2)) → xCall g d mX7_fail [.ref 9, .int (4 : Int32)] 698 u w r 698 (fun rv10 u10 w10 r10 => rv10 = none ∧ w = w10 ∧ r = r10 ∧ P (some (.int i1)) u10 w r)) ∧ (¬ (v5.toInt32 < i1 ∨ ¬ (v5.toInt32 ≤ i2)) → P (some (.int v5.toInt32)) (x2 u 9 7 ((u 9 7) + (1 : Int32))) w r))))) :
    xEv g (d + 1) mX7_readNumber 0 [some (.ref 9), some (.int i1), some (.int i2), none] [] 698 u w r 698 P := by
  refine xe_aload_n dX7_readNumber_0 rfl ?_
  refine xe_iconst (v := 3) dX7_readNumber_1 rfl ?_
  refine xe_callV (args := [.int (3 : Int32)]) dX7_readNumber_2 vlX7_65 rfl rfl (Nat.le_of_ble_eq_true rfl) kk9 (xKK_lt kk9) rfl rfl k (Nat.le_refl _) (fun rv1 u1 w1 r1 k => ?_)
  obtain ⟨v1, rfl, rfl, rfl, rfl, k⟩ := k
  refine xe_if_ne (tgt := 15) dX7_readNumber_5 rfl (fun c2 => ?_) (fun c3 => ?_)
  · have k := k.2 (fun q => (c2 q))
    refine xe_aload_n dX7_readNumber_15 rfl ?_
    refine xe_getR (b := 10) dX7_readNumber_16 flX7_12 kk9 (xKK_lt kk9) rfl (rf9_0 hr) ?_
    refine xe_aload_n dX7_readNumber_19 rfl ?_
    refine xe_getI dX7_readNumber_20 flX7_56 kk9 (xKK_lt kk9) rfl ?_
    refine xe_callV (args := [.int (u 9 7)]) dX7_readNumber_23 vlX7_165 rfl rfl (Nat.le_of_ble_eq_true rfl) kk10 (xKK_lt kk10) rfl rfl k (Nat.le_refl _) (fun rv5 u5 w5 r5 k => ?_)
    obtain ⟨v5, rfl, rfl, rfl, rfl, k⟩ := k
    refine xe_l2i dX7_readNumber_26 ?_
    refine xe_istore_n (ls' := [some (.ref 9), some (.int i1), some (.int i2), some (.int v5.toInt32)]) dX7_readNumber_27 rfl (by decide) rfl ?_
    refine xe_iload_n dX7_readNumber_28 rfl ?_
    refine xe_iload_n dX7_readNumber_29 rfl ?_
    have K11 : (v5.toInt32 < i1 ∨ ¬ (v5.toInt32 ≤ i2)) → xEv g (d + 1) mX7_readNumber 38 [some (.ref 9), some (.int i1), some (.int i2), some (.int v5.toInt32)] [] 698 u w r 698 P := fun c12 => by
      have k := k.1 c12
      refine xe_aload_n dX7_readNumber_38 rfl ?_
      refine xe_iconst (v := 4) dX7_readNumber_39 rfl ?_
      refine xe_callV (args := [.int (4 : Int32)]) dX7_readNumber_40 vlX7_79 rfl rfl (Nat.le_of_ble_eq_true rfl) kk9 (xKK_lt kk9) rfl rfl k (Nat.le_refl _) (fun rv10 u10 w10 r10 k => ?_)
      obtain ⟨rfl, rfl, rfl, k⟩ := k
      refine xe_iload_n dX7_readNumber_43 rfl ?_
      exact xe_ireturn dX7_readNumber_44 rfl k
    refine xe_icmp_lt (tgt := 38) dX7_readNumber_30 rfl (fun c6 => ?_) (fun c7 => ?_)
    · exact K11 (Or.inl c6)
    · refine xe_iload_n dX7_readNumber_33 rfl ?_
      refine xe_iload_n dX7_readNumber_34 rfl ?_
      refine xe_icmp_le (tgt := 45) dX7_readNumber_35 rfl (fun c8 => ?_) (fun c9 => ?_)
      · have k := k.2 (fun q => (q.elim (fun z => (c7 z)) (fun z => (z c8))))
        refine xe_aload_n dX7_readNumber_45 rfl ?_
        refine xe_dup dX7_readNumber_46 rfl ?_
        refine xe_getI dX7_readNumber_47 flX7_56 kk9 (xKK_lt kk9) rfl ?_
        refine xe_iconst (v := 1) dX7_readNumber_50 rfl ?_
        refine xe_iadd dX7_readNumber_51 ?_
        refine xe_putI dX7_readNumber_52 flX7_56 kk9 (xKK_lt kk9) nf7_7 rfl ?_
        refine xe_iload_n dX7_readNumber_55 rfl ?_
        exact xe_ireturn dX7_readNumber_56 rfl k
      · exact K11 (Or.inr c9)
  · have k := k.1 c3
    refine xe_aload_n dX7_readNumber_8 rfl ?_
    refine xe_iconst (v := 2) dX7_readNumber_9 rfl ?_
    refine xe_callV (args := [.int (2 : Int32)]) dX7_readNumber_10 vlX7_79 rfl rfl (Nat.le_of_ble_eq_true rfl) kk9 (xKK_lt kk9) rfl rfl k (Nat.le_refl _) (fun rv4 u4 w4 r4 k => ?_)
    obtain ⟨rfl, rfl, rfl, k⟩ := k
    refine xe_iload_n dX7_readNumber_13 rfl ?_
    exact xe_ireturn dX7_readNumber_14 rfl k

theorem CX7_readNumber {g : xGT} {d : Nat} {i1 i2 : Int32} {u : xU} {w : xW} {r : xQ} {P : xPost} (hr : xRf r)
    (k : xCall g d mX7_sees [.ref 9, .int (3 : Int32)] 698 u w r 698 (fun rv1 u1 w1 r1 => ∃ v1 : Int32, rv1 = some (.int v1) ∧ u = u1 ∧ w = w1 ∧ r = r1 ∧ (v1 = 0 → xCall g d mX7_fail [.ref 9, .int (2 : Int32)] 698 u w r 698 (fun rv4 u4 w4 r4 => rv4 = none ∧ w = w4 ∧ r = r4 ∧ P (some (.int i1)) u4 w r)) ∧ (¬ (v1 = 0) → xCall g d mX10_valueAt [.ref 10, .int (u 9 7)] 698 u w r 698 (fun rv5 u5 w5 r5 => ∃ v5 : Int64, rv5 = some (.long v5) ∧ u = u5 ∧ w = w5 ∧ r = r5 ∧ ((v5.toInt32 < i1 ∨ ¬ (v5.toInt32 ≤ i2)) → xCall g d mX7_fail [.ref 9, .int (4 : Int32)] 698 u w r 698 (fun rv10 u10 w10 r10 => rv10 = none ∧ w = w10 ∧ r = r10 ∧ P (some (.int i1)) u10 w r)) ∧ (¬ (v5.toInt32 < i1 ∨ ¬ (v5.toInt32 ≤ i2)) → P (some (.int v5.toInt32)) (x2 u 9 7 ((u 9 7) + (1 : Int32))) w r))))) :
    xCall g (d + 1) mX7_readNumber [.ref 9, .int i1, .int i2] 698 u w r 698 P :=
  xCall.of plX7 (Nat.le_of_ble_eq_true rfl) rfl (TX7_readNumber_0 hr k)

/-! Reader.fail -/

theorem TX7_fail_0 {g : xGT} {d : Nat} {i1 : Int32} {u : xU} {w : xW} {r : xQ} {P : xPost} (hr : xRf r)
    (k : ((u 9 8) = 0 → xCall g d mX10_kindAt [.ref 10, .int (u 9 7)] 698 u w r 698 (fun rv3 u3 w3 r3 => ∃ v3 : Int32, rv3 = some (.int v3) ∧ u = u3 ∧ w = w3 ∧ r = r3 ∧ xCall g d mX10_placeAt [.ref 10, .int (u 9 7)] 698 (x2 u 9 8 (if v3 = (1 : Int32) then (1 : Int32) else i1)) w r 698 (fun rv6 u6 w6 r6 => ∃ v6 : Int32, rv6 = some (.int v6) ∧ (x2 u 9 8 (if v3 = (1 : Int32) then (1 : Int32) else i1)) = u6 ∧ w = w6 ∧ r = r6 ∧ P none (x2 (x2 u 9 8 (if v3 = (1 : Int32) then (1 : Int32) else i1)) 9 9 v6) w r))) ∧ (¬ ((u 9 8) = 0) → P none u w r)) :
    xEv g (d + 1) mX7_fail 0 [some (.ref 9), some (.int i1)] [] 698 u w r 698 P := by
  refine xe_aload_n dX7_fail_0 rfl ?_
  refine xe_getI dX7_fail_1 flX7_59 kk9 (xKK_lt kk9) rfl ?_
  refine xe_if_ne (tgt := 46) dX7_fail_4 rfl (fun c1 => ?_) (fun c2 => ?_)
  · have k := k.2 (fun q => (c1 q))
    exact xe_return dX7_fail_46 trivial k
  · have k := k.1 c2
    refine xe_aload_n dX7_fail_7 rfl ?_
    refine xe_aload_n dX7_fail_8 rfl ?_
    refine xe_getR (b := 10) dX7_fail_9 flX7_12 kk9 (xKK_lt kk9) rfl (rf9_0 hr) ?_
    refine xe_aload_n dX7_fail_12 rfl ?_
    refine xe_getI dX7_fail_13 flX7_56 kk9 (xKK_lt kk9) rfl ?_
    refine xe_callV (args := [.int (u 9 7)]) dX7_fail_16 vlX7_72 rfl rfl (Nat.le_of_ble_eq_true rfl) kk10 (xKK_lt kk10) rfl rfl k (Nat.le_refl _) (fun rv3 u3 w3 r3 k => ?_)
    obtain ⟨v3, rfl, rfl, rfl, rfl, k⟩ := k
    refine xe_iconst (v := 1) dX7_fail_19 rfl ?_
    have K7 : xEv g (d + 1) mX7_fail 28 [some (.ref 9), some (.int i1)] [.int (if v3 = (1 : Int32) then (1 : Int32) else i1), .ref 9] 698 u w r 698 P := by
      refine xe_putI dX7_fail_28 flX7_59 kk9 (xKK_lt kk9) nf7_8 rfl ?_
      refine xe_aload_n dX7_fail_31 rfl ?_
      refine xe_aload_n dX7_fail_32 rfl ?_
      refine xe_getR (b := 10) dX7_fail_33 flX7_12 kk9 (xKK_lt kk9) rfl (rf9_0 hr) ?_
      refine xe_aload_n dX7_fail_36 rfl ?_
      refine xe_getI dX7_fail_37 flX7_56 kk9 (xKK_lt kk9) rfl ?_
      refine xe_callV (args := [.int (u 9 7)]) dX7_fail_40 vlX7_176 rfl rfl (Nat.le_of_ble_eq_true rfl) kk10 (xKK_lt kk10) rfl rfl k (Nat.le_refl _) (fun rv6 u6 w6 r6 k => ?_)
      obtain ⟨v6, rfl, rfl, rfl, rfl, k⟩ := k
      refine xe_putI dX7_fail_43 flX7_33 kk9 (xKK_lt kk9) nf7_9 rfl ?_
      exact xe_return dX7_fail_46 trivial k
    refine xe_icmp_ne (tgt := 27) dX7_fail_20 rfl (fun c4 => ?_) (fun c5 => ?_)
    · refine xe_iload_n dX7_fail_27 rfl ?_
      exact xtop (if_neg (fun q => (c4 q))) K7
    · refine xe_iconst (v := 1) dX7_fail_23 rfl ?_
      refine xe_goto (tgt := 28) dX7_fail_24 rfl ?_
      exact xtop (if_pos c5) K7

theorem CX7_fail {g : xGT} {d : Nat} {i1 : Int32} {u : xU} {w : xW} {r : xQ} {P : xPost} (hr : xRf r)
    (k : ((u 9 8) = 0 → xCall g d mX10_kindAt [.ref 10, .int (u 9 7)] 698 u w r 698 (fun rv3 u3 w3 r3 => ∃ v3 : Int32, rv3 = some (.int v3) ∧ u = u3 ∧ w = w3 ∧ r = r3 ∧ xCall g d mX10_placeAt [.ref 10, .int (u 9 7)] 698 (x2 u 9 8 (if v3 = (1 : Int32) then (1 : Int32) else i1)) w r 698 (fun rv6 u6 w6 r6 => ∃ v6 : Int32, rv6 = some (.int v6) ∧ (x2 u 9 8 (if v3 = (1 : Int32) then (1 : Int32) else i1)) = u6 ∧ w = w6 ∧ r = r6 ∧ P none (x2 (x2 u 9 8 (if v3 = (1 : Int32) then (1 : Int32) else i1)) 9 9 v6) w r))) ∧ (¬ ((u 9 8) = 0) → P none u w r)) :
    xCall g (d + 1) mX7_fail [.ref 9, .int i1] 698 u w r 698 P :=
  xCall.of plX7 (Nat.le_of_ble_eq_true rfl) rfl (TX7_fail_0 hr k)

/-! Tokens.putFour -/

theorem TX10_putFour_0 {g : xGT} {d : Nat} {i1 : Int32} {u : xU} {w : xW} {r : xQ} {P : xPost}
    (k : xEv g d mX10_putFour 3 [some (.ref 10), some (.int i1), some (.int (24 : Int32))] [] 698 u w r 698 P) :
    xEv g d mX10_putFour 0 [some (.ref 10), some (.int i1), none] [] 698 u w r 698 P := by
  refine xe_bipush (v := 24) dX10_putFour_0 rfl ?_
  refine xe_istore_n (ls' := [some (.ref 10), some (.int i1), some (.int (24 : Int32))]) dX10_putFour_2 rfl (by decide) rfl ?_
  exact k

theorem CX10_putFour {g : xGT} {d : Nat} {i1 : Int32} {u : xU} {w : xW} {r : xQ} {P : xPost}
    (k : xEv g d mX10_putFour 3 [some (.ref 10), some (.int i1), some (.int (24 : Int32))] [] 698 u w r 698 P) :
    xCall g d mX10_putFour [.ref 10, .int i1] 698 u w r 698 P :=
  xCall.of plX10 (Nat.le_of_ble_eq_true rfl) rfl (TX10_putFour_0  k)

theorem TX10_putFour_3 {g : xGT} {d : Nat} {i1 i2 : Int32} {u : xU} {w : xW} {r : xQ} {P : xPost} (hr : xRf r)
    (k : (i2 < 0 → P none u w r) ∧ (¬ (i2 < 0) → ((¬ ((u 10 1) < 0) ∧ ¬ ((1600 : Int32) ≤ (u 10 1))) → vp_in (u 10 1) 1600 ∧ (xEv g d mX10_putFour 49 [some (.ref 10), some (.int i1), some (.int i2)] [] 698 (x2 (x2 u 11 (u 10 1).toNatClampNeg ((i1 >>> (i2 &&& 31)).toInt8.toInt32).toInt8.toInt32) 10 1 ((u 10 1) + (1 : Int32))) w r 698 P)) ∧ (¬ (¬ ((u 10 1) < 0) ∧ ¬ ((1600 : Int32) ≤ (u 10 1))) → xEv g d mX10_putFour 49 [some (.ref 10), some (.int i1), some (.int i2)] [] 698 u w r 698 P))) :
    xEv g d mX10_putFour 3 [some (.ref 10), some (.int i1), some (.int i2)] [] 698 u w r 698 P := by
  refine xe_iload_n dX10_putFour_3 rfl ?_
  refine xe_if_lt (tgt := 55) dX10_putFour_4 rfl (fun c1 => ?_) (fun c2 => ?_)
  · have k := k.1 c1
    exact xe_return dX10_putFour_55 trivial k
  · have k := k.2 (fun q => (c2 q))
    refine xe_aload_n dX10_putFour_7 rfl ?_
    refine xe_getI dX10_putFour_8 flX10_45 kk10 (xKK_lt kk10) rfl ?_
    have K8 : ¬ (¬ ((u 10 1) < 0) ∧ ¬ ((1600 : Int32) ≤ (u 10 1))) → xEv g d mX10_putFour 49 [some (.ref 10), some (.int i1), some (.int i2)] [] 698 u w r 698 P := fun c9 => by
      have k := k.2 c9
      exact k
    refine xe_if_lt (tgt := 49) dX10_putFour_11 rfl (fun c3 => ?_) (fun c4 => ?_)
    · exact K8 (fun q => (q.1 c3))
    · refine xe_aload_n dX10_putFour_14 rfl ?_
      refine xe_getI dX10_putFour_15 flX10_45 kk10 (xKK_lt kk10) rfl ?_
      refine xe_aload_n dX10_putFour_18 rfl ?_
      refine xe_getR (b := 11) dX10_putFour_19 flX10_9 kk10 (xKK_lt kk10) rfl (rf10_0 hr) ?_
      refine xe_alen (v := (1600 : Int32)) dX10_putFour_22 kk11 (xKK_lt kk11) (by simp) rfl ?_
      refine xe_icmp_ge (tgt := 49) dX10_putFour_23 rfl (fun c5 => ?_) (fun c6 => ?_)
      · exact K8 (fun q => (q.2 c5))
      · have k := k.1 ⟨c4, c6⟩
        refine xe_aload_n dX10_putFour_26 rfl ?_
        refine xe_getR (b := 11) dX10_putFour_27 flX10_9 kk10 (xKK_lt kk10) rfl (rf10_0 hr) ?_
        refine xe_aload_n dX10_putFour_30 rfl ?_
        refine xe_getI dX10_putFour_31 flX10_45 kk10 (xKK_lt kk10) rfl ?_
        refine xe_iload_n dX10_putFour_34 rfl ?_
        refine xe_iload_n dX10_putFour_35 rfl ?_
        refine xe_ishr dX10_putFour_36 ?_
        refine xe_i2b dX10_putFour_37 ?_
        obtain ⟨b7, k⟩ := k
        refine xe_bast dX10_putFour_38 kk11 (xKK_lt kk11) b7 ?_
        refine xe_aload_n dX10_putFour_39 rfl ?_
        refine xe_dup dX10_putFour_40 rfl ?_
        refine xe_getI dX10_putFour_41 flX10_45 kk10 (xKK_lt kk10) rfl ?_
        refine xe_iconst (v := 1) dX10_putFour_44 rfl ?_
        refine xe_iadd dX10_putFour_45 ?_
        refine xe_putI dX10_putFour_46 flX10_45 kk10 (xKK_lt kk10) nf10_1 rfl ?_
        exact k

theorem TX10_putFour_49 {g : xGT} {d : Nat} {i1 i2 : Int32} {u : xU} {w : xW} {r : xQ} {P : xPost}
    (k : xEv g d mX10_putFour 3 [some (.ref 10), some (.int i1), some (.int (i2 + (-8 : Int32)))] [] 698 u w r 698 P) :
    xEv g d mX10_putFour 49 [some (.ref 10), some (.int i1), some (.int i2)] [] 698 u w r 698 P := by
  refine xe_iinc (v := (i2 + (-8 : Int32))) (ls' := [some (.ref 10), some (.int i1), some (.int (i2 + (-8 : Int32)))]) dX10_putFour_49 rfl (by decide) rfl rfl ?_
  refine xe_goto (tgt := 3) dX10_putFour_52 rfl ?_
  exact k

/-! Tokens.kindAt -/

theorem TX10_kindAt_0 {g : xGT} {d : Nat} {i1 : Int32} {u : xU} {w : xW} {r : xQ} {P : xPost} (hr : xRf r)
    (k : ((¬ (i1 < 0) ∧ ¬ ((u 10 5) ≤ i1)) → vp_in i1 1601) ∧ (P (some (.int (if (¬ (i1 < 0) ∧ ¬ ((u 10 5) ≤ i1)) then (u 12 i1.toNatClampNeg) else (0 : Int32)))) u w r)) :
    xEv g d mX10_kindAt 0 [some (.ref 10), some (.int i1)] [] 698 u w r 698 P := by
  refine xe_iload_n dX10_kindAt_0 rfl ?_
  obtain ⟨b5, k⟩ := k
  have K6 : xEv g d mX10_kindAt 22 [some (.ref 10), some (.int i1)] [.int (if (¬ (i1 < 0) ∧ ¬ ((u 10 5) ≤ i1)) then (u 12 i1.toNatClampNeg) else (0 : Int32))] 698 u w r 698 P := by
    exact xe_ireturn dX10_kindAt_22 rfl k
  refine xe_if_lt (tgt := 21) dX10_kindAt_1 rfl (fun c1 => ?_) (fun c2 => ?_)
  · refine xe_iconst (v := 0) dX10_kindAt_21 rfl ?_
    exact xtop (if_neg (fun q => (q.1 c1))) K6
  · refine xe_iload_n dX10_kindAt_4 rfl ?_
    refine xe_aload_n dX10_kindAt_5 rfl ?_
    refine xe_getI dX10_kindAt_6 flX10_48 kk10 (xKK_lt kk10) rfl ?_
    refine xe_icmp_ge (tgt := 21) dX10_kindAt_9 rfl (fun c3 => ?_) (fun c4 => ?_)
    · refine xe_iconst (v := 0) dX10_kindAt_21 rfl ?_
      exact xtop (if_neg (fun q => (q.2 c3))) K6
    · refine xe_aload_n dX10_kindAt_12 rfl ?_
      refine xe_getR (b := 12) dX10_kindAt_13 flX10_15 kk10 (xKK_lt kk10) rfl (rf10_2 hr) ?_
      refine xe_iload_n dX10_kindAt_16 rfl ?_
      refine xe_iald dX10_kindAt_17 kk12 (xKK_lt kk12) (b5 ⟨c2, c4⟩) ?_
      refine xe_goto (tgt := 22) dX10_kindAt_18 rfl ?_
      exact xtop (if_pos ⟨c2, c4⟩) K6

theorem CX10_kindAt {g : xGT} {d : Nat} {i1 : Int32} {u : xU} {w : xW} {r : xQ} {P : xPost} (hr : xRf r)
    (k : ((¬ (i1 < 0) ∧ ¬ ((u 10 5) ≤ i1)) → vp_in i1 1601) ∧ (P (some (.int (if (¬ (i1 < 0) ∧ ¬ ((u 10 5) ≤ i1)) then (u 12 i1.toNatClampNeg) else (0 : Int32)))) u w r)) :
    xCall g d mX10_kindAt [.ref 10, .int i1] 698 u w r 698 P :=
  xCall.of plX10 (Nat.le_of_ble_eq_true rfl) rfl (TX10_kindAt_0 hr k)

/-! Tokens.valueAt -/

theorem TX10_valueAt_0 {g : xGT} {d : Nat} {i1 : Int32} {u : xU} {w : xW} {r : xQ} {P : xPost} (hr : xRf r)
    (k : ((¬ (i1 < 0) ∧ ¬ ((u 10 5) ≤ i1)) → vp_in i1 1601 ∧ (P (some (.long (w 13 i1.toNatClampNeg))) u w r)) ∧ (¬ (¬ (i1 < 0) ∧ ¬ ((u 10 5) ≤ i1)) → P (some (.long (0 : Int64))) u w r)) :
    xEv g d mX10_valueAt 0 [some (.ref 10), some (.int i1)] [] 698 u w r 698 P := by
  refine xe_iload_n dX10_valueAt_0 rfl ?_
  have K7 : ¬ (¬ (i1 < 0) ∧ ¬ ((u 10 5) ≤ i1)) → xEv g d mX10_valueAt 21 [some (.ref 10), some (.int i1)] [] 698 u w r 698 P := fun c8 => by
    have k := k.2 c8
    refine xe_lconst (v := 0) dX10_valueAt_21 rfl ?_
    exact xe_lreturn dX10_valueAt_22 trivial k
  refine xe_if_lt (tgt := 21) dX10_valueAt_1 rfl (fun c1 => ?_) (fun c2 => ?_)
  · exact K7 (fun q => (q.1 c1))
  · refine xe_iload_n dX10_valueAt_4 rfl ?_
    refine xe_aload_n dX10_valueAt_5 rfl ?_
    refine xe_getI dX10_valueAt_6 flX10_48 kk10 (xKK_lt kk10) rfl ?_
    refine xe_icmp_ge (tgt := 21) dX10_valueAt_9 rfl (fun c3 => ?_) (fun c4 => ?_)
    · exact K7 (fun q => (q.2 c3))
    · have k := k.1 ⟨c2, c4⟩
      refine xe_aload_n dX10_valueAt_12 rfl ?_
      refine xe_getR (b := 13) dX10_valueAt_13 flX10_19 kk10 (xKK_lt kk10) rfl (rf10_3 hr) ?_
      refine xe_iload_n dX10_valueAt_16 rfl ?_
      obtain ⟨b6, k⟩ := k
      refine xe_lald dX10_valueAt_17 kk13 (xKK_lt kk13) b6 ?_
      refine xe_goto (tgt := 22) dX10_valueAt_18 rfl ?_
      exact xe_lreturn dX10_valueAt_22 trivial k

theorem CX10_valueAt {g : xGT} {d : Nat} {i1 : Int32} {u : xU} {w : xW} {r : xQ} {P : xPost} (hr : xRf r)
    (k : ((¬ (i1 < 0) ∧ ¬ ((u 10 5) ≤ i1)) → vp_in i1 1601 ∧ (P (some (.long (w 13 i1.toNatClampNeg))) u w r)) ∧ (¬ (¬ (i1 < 0) ∧ ¬ ((u 10 5) ≤ i1)) → P (some (.long (0 : Int64))) u w r)) :
    xCall g d mX10_valueAt [.ref 10, .int i1] 698 u w r 698 P :=
  xCall.of plX10 (Nat.le_of_ble_eq_true rfl) rfl (TX10_valueAt_0 hr k)

/-! Tokens.placeAt -/

theorem TX10_placeAt_0 {g : xGT} {d : Nat} {i1 : Int32} {u : xU} {w : xW} {r : xQ} {P : xPost} (hr : xRf r)
    (k : ((¬ (i1 < 0) ∧ ¬ ((u 10 5) ≤ i1)) → vp_in i1 1601) ∧ (P (some (.int (if (¬ (i1 < 0) ∧ ¬ ((u 10 5) ≤ i1)) then (u 14 i1.toNatClampNeg) else (u 10 1)))) u w r)) :
    xEv g d mX10_placeAt 0 [some (.ref 10), some (.int i1)] [] 698 u w r 698 P := by
  refine xe_iload_n dX10_placeAt_0 rfl ?_
  obtain ⟨b5, k⟩ := k
  have K6 : xEv g d mX10_placeAt 25 [some (.ref 10), some (.int i1)] [.int (if (¬ (i1 < 0) ∧ ¬ ((u 10 5) ≤ i1)) then (u 14 i1.toNatClampNeg) else (u 10 1))] 698 u w r 698 P := by
    exact xe_ireturn dX10_placeAt_25 rfl k
  refine xe_if_lt (tgt := 21) dX10_placeAt_1 rfl (fun c1 => ?_) (fun c2 => ?_)
  · refine xe_aload_n dX10_placeAt_21 rfl ?_
    refine xe_getI dX10_placeAt_22 flX10_45 kk10 (xKK_lt kk10) rfl ?_
    exact xtop (if_neg (fun q => (q.1 c1))) K6
  · refine xe_iload_n dX10_placeAt_4 rfl ?_
    refine xe_aload_n dX10_placeAt_5 rfl ?_
    refine xe_getI dX10_placeAt_6 flX10_48 kk10 (xKK_lt kk10) rfl ?_
    refine xe_icmp_ge (tgt := 21) dX10_placeAt_9 rfl (fun c3 => ?_) (fun c4 => ?_)
    · refine xe_aload_n dX10_placeAt_21 rfl ?_
      refine xe_getI dX10_placeAt_22 flX10_45 kk10 (xKK_lt kk10) rfl ?_
      exact xtop (if_neg (fun q => (q.2 c3))) K6
    · refine xe_aload_n dX10_placeAt_12 rfl ?_
      refine xe_getR (b := 14) dX10_placeAt_13 flX10_23 kk10 (xKK_lt kk10) rfl (rf10_4 hr) ?_
      refine xe_iload_n dX10_placeAt_16 rfl ?_
      refine xe_iald dX10_placeAt_17 kk14 (xKK_lt kk14) (b5 ⟨c2, c4⟩) ?_
      refine xe_goto (tgt := 25) dX10_placeAt_18 rfl ?_
      exact xtop (if_pos ⟨c2, c4⟩) K6

theorem CX10_placeAt {g : xGT} {d : Nat} {i1 : Int32} {u : xU} {w : xW} {r : xQ} {P : xPost} (hr : xRf r)
    (k : ((¬ (i1 < 0) ∧ ¬ ((u 10 5) ≤ i1)) → vp_in i1 1601) ∧ (P (some (.int (if (¬ (i1 < 0) ∧ ¬ ((u 10 5) ≤ i1)) then (u 14 i1.toNatClampNeg) else (u 10 1)))) u w r)) :
    xCall g d mX10_placeAt [.ref 10, .int i1] 698 u w r 698 P :=
  xCall.of plX10 (Nat.le_of_ble_eq_true rfl) rfl (TX10_placeAt_0 hr k)

/-! Tokens.byteAt -/

theorem TX10_byteAt_0 {g : xGT} {d : Nat} {i1 : Int32} {u : xU} {w : xW} {r : xQ} {P : xPost} (hr : xRf r)
    (k : ((¬ (i1 < 0) ∧ (¬ ((u 10 1) ≤ i1) ∧ ¬ ((1600 : Int32) ≤ i1))) → vp_in i1 1600) ∧ (P (some (.int (if (¬ (i1 < 0) ∧ (¬ ((u 10 1) ≤ i1) ∧ ¬ ((1600 : Int32) ≤ i1))) then ((u 11 i1.toNatClampNeg) &&& (255 : Int32)) else (0 : Int32)))) u w r)) :
    xEv g d mX10_byteAt 0 [some (.ref 10), some (.int i1)] [] 698 u w r 698 P := by
  refine xe_iload_n dX10_byteAt_0 rfl ?_
  obtain ⟨b7, k⟩ := k
  have K8 : xEv g d mX10_byteAt 35 [some (.ref 10), some (.int i1)] [.int (if (¬ (i1 < 0) ∧ (¬ ((u 10 1) ≤ i1) ∧ ¬ ((1600 : Int32) ≤ i1))) then ((u 11 i1.toNatClampNeg) &&& (255 : Int32)) else (0 : Int32))] 698 u w r 698 P := by
    exact xe_ireturn dX10_byteAt_35 rfl k
  refine xe_if_lt (tgt := 34) dX10_byteAt_1 rfl (fun c1 => ?_) (fun c2 => ?_)
  · refine xe_iconst (v := 0) dX10_byteAt_34 rfl ?_
    exact xtop (if_neg (fun q => (q.1 c1))) K8
  · refine xe_iload_n dX10_byteAt_4 rfl ?_
    refine xe_aload_n dX10_byteAt_5 rfl ?_
    refine xe_getI dX10_byteAt_6 flX10_45 kk10 (xKK_lt kk10) rfl ?_
    refine xe_icmp_ge (tgt := 34) dX10_byteAt_9 rfl (fun c3 => ?_) (fun c4 => ?_)
    · refine xe_iconst (v := 0) dX10_byteAt_34 rfl ?_
      exact xtop (if_neg (fun q => (q.2.1 c3))) K8
    · refine xe_iload_n dX10_byteAt_12 rfl ?_
      refine xe_aload_n dX10_byteAt_13 rfl ?_
      refine xe_getR (b := 11) dX10_byteAt_14 flX10_9 kk10 (xKK_lt kk10) rfl (rf10_0 hr) ?_
      refine xe_alen (v := (1600 : Int32)) dX10_byteAt_17 kk11 (xKK_lt kk11) (by simp) rfl ?_
      refine xe_icmp_ge (tgt := 34) dX10_byteAt_18 rfl (fun c5 => ?_) (fun c6 => ?_)
      · refine xe_iconst (v := 0) dX10_byteAt_34 rfl ?_
        exact xtop (if_neg (fun q => (q.2.2 c5))) K8
      · refine xe_aload_n dX10_byteAt_21 rfl ?_
        refine xe_getR (b := 11) dX10_byteAt_22 flX10_9 kk10 (xKK_lt kk10) rfl (rf10_0 hr) ?_
        refine xe_iload_n dX10_byteAt_25 rfl ?_
        refine xe_bald dX10_byteAt_26 kk11 (xKK_lt kk11) (b7 ⟨c2, ⟨c4, c6⟩⟩) ?_
        refine xe_sipush (v := 255) dX10_byteAt_27 rfl ?_
        refine xe_iand dX10_byteAt_30 ?_
        refine xe_goto (tgt := 35) dX10_byteAt_31 rfl ?_
        exact xtop (if_pos ⟨c2, ⟨c4, c6⟩⟩) K8

theorem CX10_byteAt {g : xGT} {d : Nat} {i1 : Int32} {u : xU} {w : xW} {r : xQ} {P : xPost} (hr : xRf r)
    (k : ((¬ (i1 < 0) ∧ (¬ ((u 10 1) ≤ i1) ∧ ¬ ((1600 : Int32) ≤ i1))) → vp_in i1 1600) ∧ (P (some (.int (if (¬ (i1 < 0) ∧ (¬ ((u 10 1) ≤ i1) ∧ ¬ ((1600 : Int32) ≤ i1))) then ((u 11 i1.toNatClampNeg) &&& (255 : Int32)) else (0 : Int32)))) u w r)) :
    xCall g d mX10_byteAt [.ref 10, .int i1] 698 u w r 698 P :=
  xCall.of plX10 (Nat.le_of_ble_eq_true rfl) rfl (TX10_byteAt_0 hr k)

/-! Tokens.addWord -/

theorem TX10_addWord_0 {g : xGT} {d : Nat} {i1 : Int32} {u : xU} {w : xW} {r : xQ} {P : xPost}
    (k : xEv g (d + 1) mX10_addWord 8 [some (.ref 10), some (.int i1), some (.long (0 : Int64)), none, some (.int i1), some (.int (0 : Int32))] [] 698 u w r 698 P) :
    xEv g (d + 1) mX10_addWord 0 [some (.ref 10), some (.int i1), none, none, none, none] [] 698 u w r 698 P := by
  refine xe_lconst (v := 0) dX10_addWord_0 rfl ?_
  refine xe_lstore_n (ls' := [some (.ref 10), some (.int i1), some (.long (0 : Int64)), none, none, none]) dX10_addWord_1 rfl (by decide) rfl ?_
  refine xe_iload_n dX10_addWord_2 rfl ?_
  refine xe_istore (ls' := [some (.ref 10), some (.int i1), some (.long (0 : Int64)), none, some (.int i1), none]) dX10_addWord_3 (by decide) rfl ?_
  refine xe_iconst (v := 0) dX10_addWord_5 rfl ?_
  refine xe_istore (ls' := [some (.ref 10), some (.int i1), some (.long (0 : Int64)), none, some (.int i1), some (.int (0 : Int32))]) dX10_addWord_6 (by decide) rfl ?_
  exact k

theorem CX10_addWord {g : xGT} {d : Nat} {i1 : Int32} {u : xU} {w : xW} {r : xQ} {P : xPost}
    (k : xEv g (d + 1) mX10_addWord 8 [some (.ref 10), some (.int i1), some (.long (0 : Int64)), none, some (.int i1), some (.int (0 : Int32))] [] 698 u w r 698 P) :
    xCall g (d + 1) mX10_addWord [.ref 10, .int i1] 698 u w r 698 P :=
  xCall.of plX10 (Nat.le_of_ble_eq_true rfl) rfl (TX10_addWord_0  k)

theorem TX10_addWord_8 {g : xGT} {d : Nat} {i1 i4 i5 : Int32} {y2 : Int64} {u : xU} {w : xW} {r : xQ} {P : xPost}
    (k : ((1600 : Int32) ≤ i5 → xEv g (d + 1) mX10_addWord 48 [some (.ref 10), some (.int i1), some (.long y2), none, some (.int i4), none] [] 698 u w r 698 P) ∧ (¬ ((1600 : Int32) ≤ i5) → xCall g d mX10_byteAt [.ref 10, .int i4] 698 u w r 698 (fun rv3 u3 w3 r3 => ∃ v3 : Int32, rv3 = some (.int v3) ∧ u = u3 ∧ w = w3 ∧ r = r3 ∧ xCall g d mX10_isLetter [.int v3] 698 u w r 698 (fun rv4 u4 w4 r4 => ∃ v4 : Int32, rv4 = some (.int v4) ∧ u = u4 ∧ w = w4 ∧ r = r4 ∧ (v4 = 0 → xEv g (d + 1) mX10_addWord 48 [some (.ref 10), some (.int i1), some (.long y2), none, some (.int i4), none] [] 698 u w r 698 P) ∧ (¬ (v4 = 0) → xCall g d mX10_byteAt [.ref 10, .int i4] 698 u w r 698 (fun rv7 u7 w7 r7 => ∃ v7 : Int32, rv7 = some (.int v7) ∧ u = u7 ∧ w = w7 ∧ r = r7 ∧ xCall g d mX10_packedWith [.long y2, .int v7] 698 u w r 698 (fun rv8 u8 w8 r8 => ∃ v8 : Int64, rv8 = some (.long v8) ∧ u = u8 ∧ w = w8 ∧ r = r8 ∧ xEv g (d + 1) mX10_addWord 8 [some (.ref 10), some (.int i1), some (.long v8), none, some (.int (i4 + (1 : Int32))), some (.int (i5 + (1 : Int32)))] [] 698 u w r 698 P))))))) :
    xEv g (d + 1) mX10_addWord 8 [some (.ref 10), some (.int i1), some (.long y2), none, some (.int i4), some (.int i5)] [] 698 u w r 698 P := by
  refine xe_iload dX10_addWord_8 rfl ?_
  refine xe_sipush (v := 1600) dX10_addWord_10 rfl ?_
  refine xe_icmp_ge (tgt := 48) dX10_addWord_13 rfl (fun c1 => ?_) (fun c2 => ?_)
  · have k := k.1 c1
    exact xEv.fewer (ls' := [some (.ref 10), some (.int i1), some (.long y2), none, some (.int i4), none]) k (xfw_get (xfw_s (xfw_s (xfw_s (xfw_n (xfw_s (xfw_n (xfw_nil _))))))))
  · have k := k.2 (fun q => (c2 q))
    refine xe_aload_n dX10_addWord_16 rfl ?_
    refine xe_iload dX10_addWord_17 rfl ?_
    refine xe_callV (args := [.int i4]) dX10_addWord_19 vlX10_51 rfl rfl (Nat.le_of_ble_eq_true rfl) kk10 (xKK_lt kk10) rfl rfl k (Nat.le_refl _) (fun rv3 u3 w3 r3 k => ?_)
    obtain ⟨v3, rfl, rfl, rfl, rfl, k⟩ := k
    refine xe_callS (args := [.int v3]) dX10_addWord_22 slX10_55 rfl rfl (Nat.le_of_ble_eq_true rfl) k (Nat.le_refl _) (fun rv4 u4 w4 r4 k => ?_)
    obtain ⟨v4, rfl, rfl, rfl, rfl, k⟩ := k
    refine xe_if_eq (tgt := 48) dX10_addWord_25 rfl (fun c5 => ?_) (fun c6 => ?_)
    · have k := k.1 c5
      exact xEv.fewer (ls' := [some (.ref 10), some (.int i1), some (.long y2), none, some (.int i4), none]) k (xfw_get (xfw_s (xfw_s (xfw_s (xfw_n (xfw_s (xfw_n (xfw_nil _))))))))
    · have k := k.2 (fun q => (c6 q))
      refine xe_lload_n dX10_addWord_28 rfl ?_
      refine xe_aload_n dX10_addWord_29 rfl ?_
      refine xe_iload dX10_addWord_30 rfl ?_
      refine xe_callV (args := [.int i4]) dX10_addWord_32 vlX10_51 rfl rfl (Nat.le_of_ble_eq_true rfl) kk10 (xKK_lt kk10) rfl rfl k (Nat.le_refl _) (fun rv7 u7 w7 r7 k => ?_)
      obtain ⟨v7, rfl, rfl, rfl, rfl, k⟩ := k
      refine xe_callS (args := [.long y2, .int v7]) dX10_addWord_35 slX10_41 rfl rfl (Nat.le_of_ble_eq_true rfl) k (Nat.le_refl _) (fun rv8 u8 w8 r8 k => ?_)
      obtain ⟨v8, rfl, rfl, rfl, rfl, k⟩ := k
      refine xe_lstore_n (ls' := [some (.ref 10), some (.int i1), some (.long v8), none, some (.int i4), some (.int i5)]) dX10_addWord_38 rfl (by decide) rfl ?_
      refine xe_iinc (v := (i4 + (1 : Int32))) (ls' := [some (.ref 10), some (.int i1), some (.long v8), none, some (.int (i4 + (1 : Int32))), some (.int i5)]) dX10_addWord_39 rfl (by decide) rfl rfl ?_
      refine xe_iinc (v := (i5 + (1 : Int32))) (ls' := [some (.ref 10), some (.int i1), some (.long v8), none, some (.int (i4 + (1 : Int32))), some (.int (i5 + (1 : Int32)))]) dX10_addWord_42 rfl (by decide) rfl rfl ?_
      refine xe_goto (tgt := 8) dX10_addWord_45 rfl ?_
      exact k

theorem TX10_addWord_48 {g : xGT} {d : Nat} {i1 i4 : Int32} {y2 : Int64} {u : xU} {w : xW} {r : xQ} {P : xPost}
    (k : ((i4 - i1) ≤ (8 : Int32) → xCall g d mX10_kindOfWord [.ref 10, .long y2] 698 u w r 698 (fun rv11 u11 w11 r11 => ∃ v11 : Int32, rv11 = some (.int v11) ∧ u = u11 ∧ w = w11 ∧ r = r11 ∧ xEv g (d + 1) mX10_addWord 67 [none, some (.int i1), some (.long y2), none, some (.int i4), none] [.int v11, .ref 10] 698 u w r 698 P)) ∧ (¬ ((i4 - i1) ≤ (8 : Int32)) → xEv g (d + 1) mX10_addWord 67 [none, some (.int i1), some (.long y2), none, some (.int i4), none] [.int (1 : Int32), .ref 10] 698 u w r 698 P)) :
    xEv g (d + 1) mX10_addWord 48 [some (.ref 10), some (.int i1), some (.long y2), none, some (.int i4), none] [] 698 u w r 698 P := by
  refine xe_aload_n dX10_addWord_48 rfl ?_
  refine xe_iload dX10_addWord_49 rfl ?_
  refine xe_iload_n dX10_addWord_51 rfl ?_
  refine xe_isub dX10_addWord_52 ?_
  refine xe_bipush (v := 8) dX10_addWord_53 rfl ?_
  refine xe_icmp_le (tgt := 62) dX10_addWord_55 rfl (fun c9 => ?_) (fun c10 => ?_)
  · have k := k.1 c9
    refine xe_aload_n dX10_addWord_62 rfl ?_
    refine xe_lload_n dX10_addWord_63 rfl ?_
    refine xe_callV (args := [.long y2]) dX10_addWord_64 vlX10_77 rfl rfl (Nat.le_of_ble_eq_true rfl) kk10 (xKK_lt kk10) rfl rfl k (Nat.le_refl _) (fun rv11 u11 w11 r11 k => ?_)
    obtain ⟨v11, rfl, rfl, rfl, rfl, k⟩ := k
    exact xEv.fewer (ls' := [none, some (.int i1), some (.long y2), none, some (.int i4), none]) k (xfw_get (xfw_n (xfw_s (xfw_s (xfw_n (xfw_s (xfw_n (xfw_nil _))))))))
  · have k := k.2 (fun q => (c10 q))
    refine xe_iconst (v := 1) dX10_addWord_58 rfl ?_
    refine xe_goto (tgt := 67) dX10_addWord_59 rfl ?_
    exact xEv.fewer (ls' := [none, some (.int i1), some (.long y2), none, some (.int i4), none]) k (xfw_get (xfw_n (xfw_s (xfw_s (xfw_n (xfw_s (xfw_n (xfw_nil _))))))))

theorem TX10_addWord_67 {g : xGT} {d : Nat} {i1 i4 z1 : Int32} {y2 : Int64} {u : xU} {w : xW} {r : xQ} {P : xPost}
    (k : xCall g d mX10_add [.ref 10, .int z1, .long y2, .int i1] 698 u w r 698 (fun rv12 u12 w12 r12 => rv12 = none ∧ r = r12 ∧ P (some (.int i4)) u12 w12 r)) :
    xEv g (d + 1) mX10_addWord 67 [none, some (.int i1), some (.long y2), none, some (.int i4), none] [.int z1, .ref 10] 698 u w r 698 P := by
  refine xe_lload_n dX10_addWord_67 rfl ?_
  refine xe_iload_n dX10_addWord_68 rfl ?_
  refine xe_callV (args := [.int z1, .long y2, .int i1]) dX10_addWord_69 vlX10_73 rfl rfl (Nat.le_of_ble_eq_true rfl) kk10 (xKK_lt kk10) rfl rfl k (Nat.le_refl _) (fun rv12 u12 w12 r12 k => ?_)
  obtain ⟨rfl, rfl, k⟩ := k
  refine xe_iload dX10_addWord_72 rfl ?_
  exact xe_ireturn dX10_addWord_74 rfl k

/-! Tokens.addNumber -/

theorem TX10_addNumber_0 {g : xGT} {d : Nat} {i1 : Int32} {u : xU} {w : xW} {r : xQ} {P : xPost}
    (k : xEv g (d + 1) mX10_addNumber 7 [some (.ref 10), some (.int i1), some (.int (0 : Int32)), some (.int i1), some (.int (0 : Int32))] [] 698 u w r 698 P) :
    xEv g (d + 1) mX10_addNumber 0 [some (.ref 10), some (.int i1), none, none, none] [] 698 u w r 698 P := by
  refine xe_iconst (v := 0) dX10_addNumber_0 rfl ?_
  refine xe_istore_n (ls' := [some (.ref 10), some (.int i1), some (.int (0 : Int32)), none, none]) dX10_addNumber_1 rfl (by decide) rfl ?_
  refine xe_iload_n dX10_addNumber_2 rfl ?_
  refine xe_istore_n (ls' := [some (.ref 10), some (.int i1), some (.int (0 : Int32)), some (.int i1), none]) dX10_addNumber_3 rfl (by decide) rfl ?_
  refine xe_iconst (v := 0) dX10_addNumber_4 rfl ?_
  refine xe_istore (ls' := [some (.ref 10), some (.int i1), some (.int (0 : Int32)), some (.int i1), some (.int (0 : Int32))]) dX10_addNumber_5 (by decide) rfl ?_
  exact k

theorem CX10_addNumber {g : xGT} {d : Nat} {i1 : Int32} {u : xU} {w : xW} {r : xQ} {P : xPost}
    (k : xEv g (d + 1) mX10_addNumber 7 [some (.ref 10), some (.int i1), some (.int (0 : Int32)), some (.int i1), some (.int (0 : Int32))] [] 698 u w r 698 P) :
    xCall g (d + 1) mX10_addNumber [.ref 10, .int i1] 698 u w r 698 P :=
  xCall.of plX10 (Nat.le_of_ble_eq_true rfl) rfl (TX10_addNumber_0  k)

theorem TX10_addNumber_7 {g : xGT} {d : Nat} {i1 i2 i3 i4 : Int32} {u : xU} {w : xW} {r : xQ} {P : xPost}
    (k : ((1600 : Int32) ≤ i4 → xEv g (d + 1) mX10_addNumber 49 [some (.ref 10), some (.int i1), some (.int i2), some (.int i3), none] [] 698 u w r 698 P) ∧ (¬ ((1600 : Int32) ≤ i4) → xCall g d mX10_byteAt [.ref 10, .int i3] 698 u w r 698 (fun rv3 u3 w3 r3 => ∃ v3 : Int32, rv3 = some (.int v3) ∧ u = u3 ∧ w = w3 ∧ r = r3 ∧ xCall g d mX10_isDigit [.int v3] 698 u w r 698 (fun rv4 u4 w4 r4 => ∃ v4 : Int32, rv4 = some (.int v4) ∧ u = u4 ∧ w = w4 ∧ r = r4 ∧ (v4 = 0 → xEv g (d + 1) mX10_addNumber 49 [some (.ref 10), some (.int i1), some (.int i2), some (.int i3), none] [] 698 u w r 698 P) ∧ (¬ (v4 = 0) → xCall g d mX10_byteAt [.ref 10, .int i3] 698 u w r 698 (fun rv7 u7 w7 r7 => ∃ v7 : Int32, rv7 = some (.int v7) ∧ u = u7 ∧ w = w7 ∧ r = r7 ∧ xEv g (d + 1) mX10_addNumber 7 [some (.ref 10), some (.int i1), some (.int (((i2 * (10 : Int32)) + v7) - (48 : Int32))), some (.int (i3 + (1 : Int32))), some (.int (i4 + (1 : Int32)))] [] 698 u w r 698 P)))))) :
    xEv g (d + 1) mX10_addNumber 7 [some (.ref 10), some (.int i1), some (.int i2), some (.int i3), some (.int i4)] [] 698 u w r 698 P := by
  refine xe_iload dX10_addNumber_7 rfl ?_
  refine xe_sipush (v := 1600) dX10_addNumber_9 rfl ?_
  refine xe_icmp_ge (tgt := 49) dX10_addNumber_12 rfl (fun c1 => ?_) (fun c2 => ?_)
  · have k := k.1 c1
    exact xEv.fewer (ls' := [some (.ref 10), some (.int i1), some (.int i2), some (.int i3), none]) k (xfw_get (xfw_s (xfw_s (xfw_s (xfw_s (xfw_n (xfw_nil _)))))))
  · have k := k.2 (fun q => (c2 q))
    refine xe_aload_n dX10_addNumber_15 rfl ?_
    refine xe_iload_n dX10_addNumber_16 rfl ?_
    refine xe_callV (args := [.int i3]) dX10_addNumber_17 vlX10_51 rfl rfl (Nat.le_of_ble_eq_true rfl) kk10 (xKK_lt kk10) rfl rfl k (Nat.le_refl _) (fun rv3 u3 w3 r3 k => ?_)
    obtain ⟨v3, rfl, rfl, rfl, rfl, k⟩ := k
    refine xe_callS (args := [.int v3]) dX10_addNumber_20 slX10_62 rfl rfl (Nat.le_of_ble_eq_true rfl) k (Nat.le_refl _) (fun rv4 u4 w4 r4 k => ?_)
    obtain ⟨v4, rfl, rfl, rfl, rfl, k⟩ := k
    refine xe_if_eq (tgt := 49) dX10_addNumber_23 rfl (fun c5 => ?_) (fun c6 => ?_)
    · have k := k.1 c5
      exact xEv.fewer (ls' := [some (.ref 10), some (.int i1), some (.int i2), some (.int i3), none]) k (xfw_get (xfw_s (xfw_s (xfw_s (xfw_s (xfw_n (xfw_nil _)))))))
    · have k := k.2 (fun q => (c6 q))
      refine xe_iload_n dX10_addNumber_26 rfl ?_
      refine xe_bipush (v := 10) dX10_addNumber_27 rfl ?_
      refine xe_imul dX10_addNumber_29 ?_
      refine xe_aload_n dX10_addNumber_30 rfl ?_
      refine xe_iload_n dX10_addNumber_31 rfl ?_
      refine xe_callV (args := [.int i3]) dX10_addNumber_32 vlX10_51 rfl rfl (Nat.le_of_ble_eq_true rfl) kk10 (xKK_lt kk10) rfl rfl k (Nat.le_refl _) (fun rv7 u7 w7 r7 k => ?_)
      obtain ⟨v7, rfl, rfl, rfl, rfl, k⟩ := k
      refine xe_iadd dX10_addNumber_35 ?_
      refine xe_bipush (v := 48) dX10_addNumber_36 rfl ?_
      refine xe_isub dX10_addNumber_38 ?_
      refine xe_istore_n (ls' := [some (.ref 10), some (.int i1), some (.int (((i2 * (10 : Int32)) + v7) - (48 : Int32))), some (.int i3), some (.int i4)]) dX10_addNumber_39 rfl (by decide) rfl ?_
      refine xe_iinc (v := (i3 + (1 : Int32))) (ls' := [some (.ref 10), some (.int i1), some (.int (((i2 * (10 : Int32)) + v7) - (48 : Int32))), some (.int (i3 + (1 : Int32))), some (.int i4)]) dX10_addNumber_40 rfl (by decide) rfl rfl ?_
      refine xe_iinc (v := (i4 + (1 : Int32))) (ls' := [some (.ref 10), some (.int i1), some (.int (((i2 * (10 : Int32)) + v7) - (48 : Int32))), some (.int (i3 + (1 : Int32))), some (.int (i4 + (1 : Int32)))]) dX10_addNumber_43 rfl (by decide) rfl rfl ?_
      refine xe_goto (tgt := 7) dX10_addNumber_46 rfl ?_
      exact k

theorem TX10_addNumber_49 {g : xGT} {d : Nat} {i1 i2 i3 : Int32} {u : xU} {w : xW} {r : xQ} {P : xPost}
    (k : ((4 : Int32) < (i3 - i1) → xEv g (d + 1) mX10_addNumber 71 [some (.ref 10), some (.int i1), some (.int i2), some (.int i3), none] [] 698 u w r 698 P) ∧ (¬ ((4 : Int32) < (i3 - i1)) → xCall g d mX10_byteAt [.ref 10, .int i3] 698 u w r 698 (fun rv10 u10 w10 r10 => ∃ v10 : Int32, rv10 = some (.int v10) ∧ u = u10 ∧ w = w10 ∧ r = r10 ∧ xCall g d mX10_isLetter [.int v10] 698 u w r 698 (fun rv11 u11 w11 r11 => ∃ v11 : Int32, rv11 = some (.int v11) ∧ u = u11 ∧ w = w11 ∧ r = r11 ∧ (v11 = 0 → xEv g (d + 1) mX10_addNumber 72 [some (.ref 10), some (.int i1), some (.int i2), some (.int i3), none] [.int (1 : Int32)] 698 u w r 698 P) ∧ (¬ (v11 = 0) → xEv g (d + 1) mX10_addNumber 71 [some (.ref 10), some (.int i1), some (.int i2), some (.int i3), none] [] 698 u w r 698 P))))) :
    xEv g (d + 1) mX10_addNumber 49 [some (.ref 10), some (.int i1), some (.int i2), some (.int i3), none] [] 698 u w r 698 P := by
  refine xe_iload_n dX10_addNumber_49 rfl ?_
  refine xe_iload_n dX10_addNumber_50 rfl ?_
  refine xe_isub dX10_addNumber_51 ?_
  refine xe_iconst (v := 4) dX10_addNumber_52 rfl ?_
  refine xe_icmp_gt (tgt := 71) dX10_addNumber_53 rfl (fun c8 => ?_) (fun c9 => ?_)
  · have k := k.1 c8
    exact k
  · have k := k.2 (fun q => (c9 q))
    refine xe_aload_n dX10_addNumber_56 rfl ?_
    refine xe_iload_n dX10_addNumber_57 rfl ?_
    refine xe_callV (args := [.int i3]) dX10_addNumber_58 vlX10_51 rfl rfl (Nat.le_of_ble_eq_true rfl) kk10 (xKK_lt kk10) rfl rfl k (Nat.le_refl _) (fun rv10 u10 w10 r10 k => ?_)
    obtain ⟨v10, rfl, rfl, rfl, rfl, k⟩ := k
    refine xe_callS (args := [.int v10]) dX10_addNumber_61 slX10_55 rfl rfl (Nat.le_of_ble_eq_true rfl) k (Nat.le_refl _) (fun rv11 u11 w11 r11 k => ?_)
    obtain ⟨v11, rfl, rfl, rfl, rfl, k⟩ := k
    refine xe_if_ne (tgt := 71) dX10_addNumber_64 rfl (fun c12 => ?_) (fun c13 => ?_)
    · have k := k.2 (fun q => (c12 q))
      exact k
    · have k := k.1 c13
      refine xe_iconst (v := 1) dX10_addNumber_67 rfl ?_
      refine xe_goto (tgt := 72) dX10_addNumber_68 rfl ?_
      exact k

theorem TX10_addNumber_71 {g : xGT} {d : Nat} {i1 i2 i3 : Int32} {u : xU} {w : xW} {r : xQ} {P : xPost}
    (k : xEv g (d + 1) mX10_addNumber 72 [some (.ref 10), some (.int i1), some (.int i2), some (.int i3), none] [.int (0 : Int32)] 698 u w r 698 P) :
    xEv g (d + 1) mX10_addNumber 71 [some (.ref 10), some (.int i1), some (.int i2), some (.int i3), none] [] 698 u w r 698 P := by
  refine xe_iconst (v := 0) dX10_addNumber_71 rfl ?_
  exact k

theorem TX10_addNumber_72 {g : xGT} {d : Nat} {i1 i2 i3 z0 : Int32} {u : xU} {w : xW} {r : xQ} {P : xPost}
    (k : xCall g d mX10_add [.ref 10, .int (if z0 = 0 then (1 : Int32) else (3 : Int32)), .long i2.toInt64, .int i1] 698 u w r 698 (fun rv16 u16 w16 r16 => rv16 = none ∧ r = r16 ∧ P (some (.int i3)) u16 w16 r)) :
    xEv g (d + 1) mX10_addNumber 72 [some (.ref 10), some (.int i1), some (.int i2), some (.int i3), none] [.int z0] 698 u w r 698 P := by
  refine xe_istore (ls' := [some (.ref 10), some (.int i1), some (.int i2), some (.int i3), some (.int z0)]) dX10_addNumber_72 (by decide) rfl ?_
  refine xe_aload_n dX10_addNumber_74 rfl ?_
  refine xe_iload dX10_addNumber_75 rfl ?_
  have K17 : xEv g (d + 1) mX10_addNumber 85 [some (.ref 10), some (.int i1), some (.int i2), some (.int i3), some (.int z0)] [.int (if z0 = 0 then (1 : Int32) else (3 : Int32)), .ref 10] 698 u w r 698 P := by
    refine xe_iload_n dX10_addNumber_85 rfl ?_
    refine xe_i2l dX10_addNumber_86 ?_
    refine xe_iload_n dX10_addNumber_87 rfl ?_
    refine xe_callV (args := [.int (if z0 = 0 then (1 : Int32) else (3 : Int32)), .long i2.toInt64, .int i1]) dX10_addNumber_88 vlX10_73 rfl rfl (Nat.le_of_ble_eq_true rfl) kk10 (xKK_lt kk10) rfl rfl k (Nat.le_refl _) (fun rv16 u16 w16 r16 k => ?_)
    obtain ⟨rfl, rfl, k⟩ := k
    refine xe_iload_n dX10_addNumber_91 rfl ?_
    exact xe_ireturn dX10_addNumber_92 rfl k
  refine xe_if_eq (tgt := 84) dX10_addNumber_77 rfl (fun c14 => ?_) (fun c15 => ?_)
  · refine xe_iconst (v := 1) dX10_addNumber_84 rfl ?_
    exact xtop (if_pos c14) K17
  · refine xe_iconst (v := 3) dX10_addNumber_80 rfl ?_
    refine xe_goto (tgt := 85) dX10_addNumber_81 rfl ?_
    exact xtop (if_neg (fun q => (c15 q))) K17

/-! Tokens.kindOfWord -/

theorem TX10_kindOfWord_0 {g : xGT} {d : Nat} {y1 : Int64} {u : xU} {w : xW} {r : xQ} {P : xPost}
    (k : xEv g d mX10_kindOfWord 2 [some (.ref 10), some (.long y1), none, some (.int (0 : Int32))] [] 698 u w r 698 P) :
    xEv g d mX10_kindOfWord 0 [some (.ref 10), some (.long y1), none, none] [] 698 u w r 698 P := by
  refine xe_iconst (v := 0) dX10_kindOfWord_0 rfl ?_
  refine xe_istore_n (ls' := [some (.ref 10), some (.long y1), none, some (.int (0 : Int32))]) dX10_kindOfWord_1 rfl (by decide) rfl ?_
  exact k

theorem CX10_kindOfWord {g : xGT} {d : Nat} {y1 : Int64} {u : xU} {w : xW} {r : xQ} {P : xPost}
    (k : xEv g d mX10_kindOfWord 2 [some (.ref 10), some (.long y1), none, some (.int (0 : Int32))] [] 698 u w r 698 P) :
    xCall g d mX10_kindOfWord [.ref 10, .long y1] 698 u w r 698 P :=
  xCall.of plX10 (Nat.le_of_ble_eq_true rfl) rfl (TX10_kindOfWord_0  k)

theorem TX10_kindOfWord_2 {g : xGT} {d : Nat} {i3 : Int32} {y1 : Int64} {u : xU} {w : xW} {r : xQ} {P : xPost} (hr : xRf r)
    (k : ((19 : Int32) ≤ i3 → P (some (.int (2 : Int32))) u w r) ∧ (¬ ((19 : Int32) ≤ i3) → vp_in i3 19 ∧ (((lg_cmp (w 15 i3.toNatClampNeg) y1) = 0 → P (some (.int ((15 : Int32) + i3))) u w r) ∧ (¬ ((lg_cmp (w 15 i3.toNatClampNeg) y1) = 0) → xEv g d mX10_kindOfWord 2 [some (.ref 10), some (.long y1), none, some (.int (i3 + (1 : Int32)))] [] 698 u w r 698 P)))) :
    xEv g d mX10_kindOfWord 2 [some (.ref 10), some (.long y1), none, some (.int i3)] [] 698 u w r 698 P := by
  refine xe_iload_n dX10_kindOfWord_2 rfl ?_
  refine xe_aload_n dX10_kindOfWord_3 rfl ?_
  refine xe_getR (b := 15) dX10_kindOfWord_4 flX10_26 kk10 (xKK_lt kk10) rfl (rf10_6 hr) ?_
  refine xe_alen (v := (19 : Int32)) dX10_kindOfWord_7 kk15 (xKK_lt kk15) (by simp) rfl ?_
  refine xe_icmp_ge (tgt := 33) dX10_kindOfWord_8 rfl (fun c1 => ?_) (fun c2 => ?_)
  · have k := k.1 c1
    refine xe_iconst (v := 2) dX10_kindOfWord_33 rfl ?_
    exact xe_ireturn dX10_kindOfWord_34 rfl k
  · have k := k.2 (fun q => (c2 q))
    refine xe_aload_n dX10_kindOfWord_11 rfl ?_
    refine xe_getR (b := 15) dX10_kindOfWord_12 flX10_26 kk10 (xKK_lt kk10) rfl (rf10_6 hr) ?_
    refine xe_iload_n dX10_kindOfWord_15 rfl ?_
    obtain ⟨b3, k⟩ := k
    refine xe_lald dX10_kindOfWord_16 kk15 (xKK_lt kk15) b3 ?_
    refine xe_lload_n dX10_kindOfWord_17 rfl ?_
    refine xe_lcmp dX10_kindOfWord_18 ?_
    refine xe_if_ne (tgt := 27) dX10_kindOfWord_19 rfl (fun c4 => ?_) (fun c5 => ?_)
    · have k := k.2 (fun q => (c4 q))
      refine xe_iinc (v := (i3 + (1 : Int32))) (ls' := [some (.ref 10), some (.long y1), none, some (.int (i3 + (1 : Int32)))]) dX10_kindOfWord_27 rfl (by decide) rfl rfl ?_
      refine xe_goto (tgt := 2) dX10_kindOfWord_30 rfl ?_
      exact k
    · have k := k.1 c5
      refine xe_bipush (v := 15) dX10_kindOfWord_22 rfl ?_
      refine xe_iload_n dX10_kindOfWord_24 rfl ?_
      refine xe_iadd dX10_kindOfWord_25 ?_
      exact xe_ireturn dX10_kindOfWord_26 rfl k

/-! Tokens.add -/

theorem TX10_add_0 {g : xGT} {d : Nat} {i1 i4 : Int32} {y2 : Int64} {u : xU} {w : xW} {r : xQ} {P : xPost} (hr : xRf r)
    (k : ((¬ ((u 10 5) < 0) ∧ ¬ ((1601 : Int32) ≤ (u 10 5))) → vp_in (u 10 5) 1601 ∧ (P none (x2 (x2 (x2 u 12 (u 10 5).toNatClampNeg i1) 14 (u 10 5).toNatClampNeg i4) 10 5 ((u 10 5) + (1 : Int32))) (x2 w 13 (u 10 5).toNatClampNeg y2) r)) ∧ (¬ (¬ ((u 10 5) < 0) ∧ ¬ ((1601 : Int32) ≤ (u 10 5))) → P none u w r)) :
    xEv g d mX10_add 0 [some (.ref 10), some (.int i1), some (.long y2), none, some (.int i4)] [] 698 u w r 698 P := by
  refine xe_aload_n dX10_add_0 rfl ?_
  refine xe_getI dX10_add_1 flX10_48 kk10 (xKK_lt kk10) rfl ?_
  have K6 : ¬ (¬ ((u 10 5) < 0) ∧ ¬ ((1601 : Int32) ≤ (u 10 5))) → xEv g d mX10_add 60 [some (.ref 10), some (.int i1), some (.long y2), none, some (.int i4)] [] 698 u w r 698 P := fun c7 => by
    have k := k.2 c7
    exact xe_return dX10_add_60 trivial k
  refine xe_if_lt (tgt := 60) dX10_add_4 rfl (fun c1 => ?_) (fun c2 => ?_)
  · exact K6 (fun q => (q.1 c1))
  · refine xe_aload_n dX10_add_7 rfl ?_
    refine xe_getI dX10_add_8 flX10_48 kk10 (xKK_lt kk10) rfl ?_
    refine xe_aload_n dX10_add_11 rfl ?_
    refine xe_getR (b := 12) dX10_add_12 flX10_15 kk10 (xKK_lt kk10) rfl (rf10_2 hr) ?_
    refine xe_alen (v := (1601 : Int32)) dX10_add_15 kk12 (xKK_lt kk12) (by simp) rfl ?_
    refine xe_icmp_ge (tgt := 60) dX10_add_16 rfl (fun c3 => ?_) (fun c4 => ?_)
    · exact K6 (fun q => (q.2 c3))
    · have k := k.1 ⟨c2, c4⟩
      refine xe_aload_n dX10_add_19 rfl ?_
      refine xe_getR (b := 12) dX10_add_20 flX10_15 kk10 (xKK_lt kk10) rfl (rf10_2 hr) ?_
      refine xe_aload_n dX10_add_23 rfl ?_
      refine xe_getI dX10_add_24 flX10_48 kk10 (xKK_lt kk10) rfl ?_
      refine xe_iload_n dX10_add_27 rfl ?_
      obtain ⟨b5, k⟩ := k
      refine xe_iast dX10_add_28 kk12 (xKK_lt kk12) b5 ?_
      refine xe_aload_n dX10_add_29 rfl ?_
      refine xe_getR (b := 13) dX10_add_30 flX10_19 kk10 (xKK_lt kk10) rfl (rf10_3 hr) ?_
      refine xe_aload_n dX10_add_33 rfl ?_
      refine xe_getI dX10_add_34 flX10_48 kk10 (xKK_lt kk10) rfl ?_
      refine xe_lload_n dX10_add_37 rfl ?_
      refine xe_last dX10_add_38 kk13 (xKK_lt kk13) b5 ?_
      refine xe_aload_n dX10_add_39 rfl ?_
      refine xe_getR (b := 14) dX10_add_40 flX10_23 kk10 (xKK_lt kk10) rfl (rf10_4 hr) ?_
      refine xe_aload_n dX10_add_43 rfl ?_
      refine xe_getI dX10_add_44 flX10_48 kk10 (xKK_lt kk10) rfl ?_
      refine xe_iload dX10_add_47 rfl ?_
      refine xe_iast dX10_add_49 kk14 (xKK_lt kk14) b5 ?_
      refine xe_aload_n dX10_add_50 rfl ?_
      refine xe_dup dX10_add_51 rfl ?_
      refine xe_getI dX10_add_52 flX10_48 kk10 (xKK_lt kk10) rfl ?_
      refine xe_iconst (v := 1) dX10_add_55 rfl ?_
      refine xe_iadd dX10_add_56 ?_
      refine xe_putI dX10_add_57 flX10_48 kk10 (xKK_lt kk10) nf10_5 rfl ?_
      exact xe_return dX10_add_60 trivial k

theorem CX10_add {g : xGT} {d : Nat} {i1 i4 : Int32} {y2 : Int64} {u : xU} {w : xW} {r : xQ} {P : xPost} (hr : xRf r)
    (k : ((¬ ((u 10 5) < 0) ∧ ¬ ((1601 : Int32) ≤ (u 10 5))) → vp_in (u 10 5) 1601 ∧ (P none (x2 (x2 (x2 u 12 (u 10 5).toNatClampNeg i1) 14 (u 10 5).toNatClampNeg i4) 10 5 ((u 10 5) + (1 : Int32))) (x2 w 13 (u 10 5).toNatClampNeg y2) r)) ∧ (¬ (¬ ((u 10 5) < 0) ∧ ¬ ((1601 : Int32) ≤ (u 10 5))) → P none u w r)) :
    xCall g d mX10_add [.ref 10, .int i1, .long y2, .int i4] 698 u w r 698 P :=
  xCall.of plX10 (Nat.le_of_ble_eq_true rfl) rfl (TX10_add_0 hr k)

/-! Tokens.isLetter -/

theorem TX10_isLetter_0 {g : xGT} {d : Nat} {i0 : Int32} {u : xU} {w : xW} {r : xQ} {P : xPost}
    (k : P (some (.int (xb (¬ (i0 < (97 : Int32)) ∧ ¬ ((122 : Int32) < i0))))) u w r) :
    xEv g d mX10_isLetter 0 [some (.int i0)] [] 698 u w r 698 P := by
  refine xe_iload_n dX10_isLetter_0 rfl ?_
  refine xe_bipush (v := 97) dX10_isLetter_1 rfl ?_
  have K5 : xEv g d mX10_isLetter 17 [some (.int i0)] [.int (xb (¬ (i0 < (97 : Int32)) ∧ ¬ ((122 : Int32) < i0)))] 698 u w r 698 P := by
    exact xe_ireturn dX10_isLetter_17 (xrokZ (xb01 _)) k
  refine xe_icmp_lt (tgt := 16) dX10_isLetter_3 rfl (fun c1 => ?_) (fun c2 => ?_)
  · refine xe_iconst (v := 0) dX10_isLetter_16 rfl ?_
    exact xtop (xb_neg (show ¬ (¬ (i0 < (97 : Int32)) ∧ ¬ ((122 : Int32) < i0)) from (fun q => (q.1 c1)))) K5
  · refine xe_iload_n dX10_isLetter_6 rfl ?_
    refine xe_bipush (v := 122) dX10_isLetter_7 rfl ?_
    refine xe_icmp_gt (tgt := 16) dX10_isLetter_9 rfl (fun c3 => ?_) (fun c4 => ?_)
    · refine xe_iconst (v := 0) dX10_isLetter_16 rfl ?_
      exact xtop (xb_neg (show ¬ (¬ (i0 < (97 : Int32)) ∧ ¬ ((122 : Int32) < i0)) from (fun q => (q.2 c3)))) K5
    · refine xe_iconst (v := 1) dX10_isLetter_12 rfl ?_
      refine xe_goto (tgt := 17) dX10_isLetter_13 rfl ?_
      exact xtop (xb_pos (show (¬ (i0 < (97 : Int32)) ∧ ¬ ((122 : Int32) < i0)) from ⟨c2, c4⟩)) K5

theorem CX10_isLetter {g : xGT} {d : Nat} {i0 : Int32} {u : xU} {w : xW} {r : xQ} {P : xPost}
    (k : P (some (.int (xb (¬ (i0 < (97 : Int32)) ∧ ¬ ((122 : Int32) < i0))))) u w r) :
    xCall g d mX10_isLetter [.int i0] 698 u w r 698 P :=
  xCall.of plX10 (Nat.le_of_ble_eq_true rfl) rfl (TX10_isLetter_0  k)

/-! Tokens.isDigit -/

theorem TX10_isDigit_0 {g : xGT} {d : Nat} {i0 : Int32} {u : xU} {w : xW} {r : xQ} {P : xPost}
    (k : P (some (.int (xb (¬ (i0 < (48 : Int32)) ∧ ¬ ((57 : Int32) < i0))))) u w r) :
    xEv g d mX10_isDigit 0 [some (.int i0)] [] 698 u w r 698 P := by
  refine xe_iload_n dX10_isDigit_0 rfl ?_
  refine xe_bipush (v := 48) dX10_isDigit_1 rfl ?_
  have K5 : xEv g d mX10_isDigit 17 [some (.int i0)] [.int (xb (¬ (i0 < (48 : Int32)) ∧ ¬ ((57 : Int32) < i0)))] 698 u w r 698 P := by
    exact xe_ireturn dX10_isDigit_17 (xrokZ (xb01 _)) k
  refine xe_icmp_lt (tgt := 16) dX10_isDigit_3 rfl (fun c1 => ?_) (fun c2 => ?_)
  · refine xe_iconst (v := 0) dX10_isDigit_16 rfl ?_
    exact xtop (xb_neg (show ¬ (¬ (i0 < (48 : Int32)) ∧ ¬ ((57 : Int32) < i0)) from (fun q => (q.1 c1)))) K5
  · refine xe_iload_n dX10_isDigit_6 rfl ?_
    refine xe_bipush (v := 57) dX10_isDigit_7 rfl ?_
    refine xe_icmp_gt (tgt := 16) dX10_isDigit_9 rfl (fun c3 => ?_) (fun c4 => ?_)
    · refine xe_iconst (v := 0) dX10_isDigit_16 rfl ?_
      exact xtop (xb_neg (show ¬ (¬ (i0 < (48 : Int32)) ∧ ¬ ((57 : Int32) < i0)) from (fun q => (q.2 c3)))) K5
    · refine xe_iconst (v := 1) dX10_isDigit_12 rfl ?_
      refine xe_goto (tgt := 17) dX10_isDigit_13 rfl ?_
      exact xtop (xb_pos (show (¬ (i0 < (48 : Int32)) ∧ ¬ ((57 : Int32) < i0)) from ⟨c2, c4⟩)) K5

theorem CX10_isDigit {g : xGT} {d : Nat} {i0 : Int32} {u : xU} {w : xW} {r : xQ} {P : xPost}
    (k : P (some (.int (xb (¬ (i0 < (48 : Int32)) ∧ ¬ ((57 : Int32) < i0))))) u w r) :
    xCall g d mX10_isDigit [.int i0] 698 u w r 698 P :=
  xCall.of plX10 (Nat.le_of_ble_eq_true rfl) rfl (TX10_isDigit_0  k)

/-! Tokens.packedWith -/

theorem TX10_packedWith_0 {g : xGT} {d : Nat} {i2 : Int32} {y0 : Int64} {u : xU} {w : xW} {r : xQ} {P : xPost}
    (k : P (some (.long ((((y0 * (27 : Int64)) + i2.toInt64) - (97 : Int64)) + (1 : Int64)))) u w r) :
    xEv g d mX10_packedWith 0 [some (.long y0), none, some (.int i2)] [] 698 u w r 698 P := by
  refine xe_lload_n dX10_packedWith_0 rfl ?_
  refine xe_ldc2 (v := 27) dX10_packedWith_1 (xT_at 211 (by decide +kernel) (by decide +kernel)) ?_
  refine xe_lmul dX10_packedWith_4 ?_
  refine xe_iload_n dX10_packedWith_5 rfl ?_
  refine xe_i2l dX10_packedWith_6 ?_
  refine xe_ladd dX10_packedWith_7 ?_
  refine xe_ldc2 (v := 97) dX10_packedWith_8 (xT_at 212 (by decide +kernel) (by decide +kernel)) ?_
  refine xe_lsub dX10_packedWith_11 ?_
  refine xe_lconst (v := 1) dX10_packedWith_12 rfl ?_
  refine xe_ladd dX10_packedWith_13 ?_
  exact xe_lreturn dX10_packedWith_14 trivial k

theorem CX10_packedWith {g : xGT} {d : Nat} {i2 : Int32} {y0 : Int64} {u : xU} {w : xW} {r : xQ} {P : xPost}
    (k : P (some (.long ((((y0 * (27 : Int64)) + i2.toInt64) - (97 : Int64)) + (1 : Int64)))) u w r) :
    xCall g d mX10_packedWith [.long y0, .int i2] 698 u w r 698 P :=
  xCall.of plX10 (Nat.le_of_ble_eq_true rfl) rfl (TX10_packedWith_0  k)
