/-! WHAT LIES WHERE: the literal places; states, lands, formulas and lists of names at a place of their own; the final references -/
theorem kk8 : xKK 8 = some (.inl 11) := by decide +kernel
theorem kk9 : xKK 9 = some (.inl 7) := by decide +kernel
theorem kk10 : xKK 10 = some (.inl 10) := by decide +kernel
theorem kk11 : xKK 11 = some (.inr (.byte, 1600)) := by decide +kernel
theorem kk12 : xKK 12 = some (.inr (.int, 1601)) := by decide +kernel
theorem kk13 : xKK 13 = some (.inr (.long, 1601)) := by decide +kernel
theorem kk14 : xKK 14 = some (.inr (.int, 1601)) := by decide +kernel
theorem kk15 : xKK 15 = some (.inr (.long, 19)) := by decide +kernel
theorem kk16 : xKK 16 = some (.inl 5) := by decide +kernel
theorem kk17 : xKK 17 = some (.inr (.long, 7)) := by decide +kernel
theorem kk18 : xKK 18 = some (.inl 5) := by decide +kernel
theorem kk19 : xKK 19 = some (.inr (.long, 6)) := by decide +kernel
theorem kk20 : xKK 20 = some (.inl 5) := by decide +kernel
theorem kk21 : xKK 21 = some (.inr (.long, 8)) := by decide +kernel
theorem kk22 : xKK 22 = some (.inl 2) := by decide +kernel
theorem kk23 : xKK 23 = some (.inr (.int, 12)) := by decide +kernel
theorem kk24 : xKK 24 = some (.inr (.int, 12)) := by decide +kernel
theorem kk25 : xKK 25 = some (.inr (.int, 12)) := by decide +kernel
theorem kk26 : xKK 26 = some (.inr (.int, 6)) := by decide +kernel
theorem kk27 : xKK 27 = some (.inr (.int, 6)) := by decide +kernel
theorem kk28 : xKK 28 = some (.inr (.int, 6)) := by decide +kernel
theorem kk29 : xKK 29 = some (.inr (.int, 6)) := by decide +kernel
theorem kk30 : xKK 30 = some (.inr (.int, 8)) := by decide +kernel
theorem kk31 : xKK 31 = some (.inr (.int, 8)) := by decide +kernel
theorem kk32 : xKK 32 = some (.inr (.int, 8)) := by decide +kernel
theorem kk33 : xKK 33 = some (.inr (.int, 8)) := by decide +kernel
theorem kk34 : xKK 34 = some (.inl 1) := by decide +kernel
theorem kk35 : xKK 35 = some (.inr (.int, 270)) := by decide +kernel
theorem kk36 : xKK 36 = some (.inr (.int, 30)) := by decide +kernel
theorem kk37 : xKK 37 = some (.inl 2) := by decide +kernel
theorem kk38 : xKK 38 = some (.inr (.int, 12)) := by decide +kernel
theorem kk39 : xKK 39 = some (.inr (.int, 12)) := by decide +kernel
theorem kk40 : xKK 40 = some (.inr (.int, 12)) := by decide +kernel
theorem kk41 : xKK 41 = some (.inr (.int, 6)) := by decide +kernel
theorem kk42 : xKK 42 = some (.inr (.int, 6)) := by decide +kernel
theorem kk43 : xKK 43 = some (.inr (.int, 6)) := by decide +kernel
theorem kk44 : xKK 44 = some (.inr (.int, 6)) := by decide +kernel
theorem kk45 : xKK 45 = some (.inr (.int, 8)) := by decide +kernel
theorem kk46 : xKK 46 = some (.inr (.int, 8)) := by decide +kernel
theorem kk47 : xKK 47 = some (.inr (.int, 8)) := by decide +kernel
theorem kk48 : xKK 48 = some (.inr (.int, 8)) := by decide +kernel
theorem kk49 : xKK 49 = some (.inl 1) := by decide +kernel
theorem kk50 : xKK 50 = some (.inr (.int, 270)) := by decide +kernel
theorem kk51 : xKK 51 = some (.inr (.int, 30)) := by decide +kernel
theorem kk52 : xKK 52 = some (.inl 0) := by decide +kernel
theorem kk53 : xKK 53 = some (.inl 8) := by decide +kernel
theorem kk54 : xKK 54 = some (.inr ((.array .int), 7)) := by decide +kernel
theorem kk55 : xKK 55 = some (.inr (.int, 7)) := by decide +kernel
theorem kk56 : xKK 56 = some (.inr (.int, 7)) := by decide +kernel
theorem kk57 : xKK 57 = some (.inr (.int, 7)) := by decide +kernel
theorem kk58 : xKK 58 = some (.inr (.int, 7)) := by decide +kernel
theorem kk59 : xKK 59 = some (.inr (.int, 7)) := by decide +kernel
theorem kk60 : xKK 60 = some (.inr (.int, 7)) := by decide +kernel
theorem kk61 : xKK 61 = some (.inr (.int, 7)) := by decide +kernel
theorem kk62 : xKK 62 = some (.inr ((.array .int), 7)) := by decide +kernel
theorem kk63 : xKK 63 = some (.inr (.int, 7)) := by decide +kernel
theorem kk64 : xKK 64 = some (.inr (.int, 7)) := by decide +kernel
theorem kk65 : xKK 65 = some (.inr (.int, 7)) := by decide +kernel
theorem kk66 : xKK 66 = some (.inr (.int, 7)) := by decide +kernel
theorem kk67 : xKK 67 = some (.inr (.int, 7)) := by decide +kernel
theorem kk68 : xKK 68 = some (.inr (.int, 7)) := by decide +kernel
theorem kk69 : xKK 69 = some (.inr (.int, 7)) := by decide +kernel
theorem kk70 : xKK 70 = some (.inr ((.array .int), 7)) := by decide +kernel
theorem kk71 : xKK 71 = some (.inr (.int, 7)) := by decide +kernel
theorem kk72 : xKK 72 = some (.inr (.int, 7)) := by decide +kernel
theorem kk73 : xKK 73 = some (.inr (.int, 7)) := by decide +kernel
theorem kk74 : xKK 74 = some (.inr (.int, 7)) := by decide +kernel
theorem kk75 : xKK 75 = some (.inr (.int, 7)) := by decide +kernel
theorem kk76 : xKK 76 = some (.inr (.int, 7)) := by decide +kernel
theorem kk77 : xKK 77 = some (.inr (.int, 7)) := by decide +kernel
theorem kk78 : xKK 78 = some (.inr (.int, 7)) := by decide +kernel
theorem kk79 : xKK 79 = some (.inl 3) := by decide +kernel
theorem kk92 : xKK 92 = some (.inr (.int, 7)) := by decide +kernel
theorem kk93 : xKK 93 = some (.inr (.int, 300)) := by decide +kernel
theorem kk94 : xKK 94 = some (.inr (.int, 7)) := by decide +kernel
theorem kk95 : xKK 95 = some (.inr ((.array .int), 6)) := by decide +kernel
theorem kk96 : xKK 96 = some (.inr (.int, 7)) := by decide +kernel
theorem kk97 : xKK 97 = some (.inr (.int, 7)) := by decide +kernel
theorem kk98 : xKK 98 = some (.inr (.int, 7)) := by decide +kernel
theorem kk99 : xKK 99 = some (.inr (.int, 7)) := by decide +kernel
theorem kk100 : xKK 100 = some (.inr (.int, 7)) := by decide +kernel
theorem kk101 : xKK 101 = some (.inr (.int, 7)) := by decide +kernel
theorem kk102 : xKK 102 = some (.inr ((.array .int), 2)) := by decide +kernel
theorem kk103 : xKK 103 = some (.inr (.int, 10)) := by decide +kernel
theorem kk104 : xKK 104 = some (.inr (.int, 10)) := by decide +kernel
theorem kk117 : xKK 117 = some (.inl 6) := by decide +kernel
theorem kk118 : xKK 118 = some (.inr (xTst, 41)) := by decide +kernel
theorem kk611 : xKK 611 = some (.inl 4) := by decide +kernel
theorem kk612 : xKK 612 = some (.inr (.int, 30)) := by decide +kernel
theorem kk613 : xKK 613 = some (.inr (.boolean, 30)) := by decide +kernel
theorem kk614 : xKK 614 = some (.inr (.int, 30)) := by decide +kernel
theorem kk615 : xKK 615 = some (.inr (.int, 30)) := by decide +kernel
theorem kk616 : xKK 616 = some (.inr (xTst, 3)) := by decide +kernel
theorem kk653 : xKK 653 = some (.inr (.boolean, 3)) := by decide +kernel
theorem kk654 : xKK 654 = some (.inr (.int, 300)) := by decide +kernel
theorem kk655 : xKK 655 = some (.inl 12) := by decide +kernel
theorem kk656 : xKK 656 = some (.inr (.int, 1600)) := by decide +kernel
theorem kk657 : xKK 657 = some (.inr (.long, 21)) := by decide +kernel
theorem kk658 : xKK 658 = some (.inr (.int, 320)) := by decide +kernel
theorem kk659 : xKK 659 = some (.inr (.int, 320)) := by decide +kernel
theorem kk660 : xKK 660 = some (.inr (.int, 320)) := by decide +kernel
theorem kk661 : xKK 661 = some (.inr (.int, 320)) := by decide +kernel
theorem kk662 : xKK 662 = some (.inr (.int, 160)) := by decide +kernel
theorem kk663 : xKK 663 = some (.inr (.int, 64)) := by decide +kernel
theorem kk664 : xKK 664 = some (.inr (.int, 4)) := by decide +kernel
theorem kk665 : xKK 665 = some (.inr (.int, 12)) := by decide +kernel
theorem kk666 : xKK 666 = some (.inr (.int, 12)) := by decide +kernel
theorem kk667 : xKK 667 = some (.inr (.int, 12)) := by decide +kernel
theorem kk668 : xKK 668 = some (.inr (.int, 12)) := by decide +kernel
theorem kk669 : xKK 669 = some (.inr (.int, 12)) := by decide +kernel
theorem kk670 : xKK 670 = some (.inr (.int, 12)) := by decide +kernel
theorem kk671 : xKK 671 = some (.inr (.int, 6)) := by decide +kernel
theorem kk672 : xKK 672 = some (.inr (.int, 6)) := by decide +kernel
theorem kk673 : xKK 673 = some (.inr (.int, 6)) := by decide +kernel
theorem kk674 : xKK 674 = some (.inr (.int, 6)) := by decide +kernel
theorem kk675 : xKK 675 = some (.inr (.int, 6)) := by decide +kernel
theorem kk676 : xKK 676 = some (.inr (.int, 6)) := by decide +kernel
theorem kk677 : xKK 677 = some (.inr (.int, 6)) := by decide +kernel
theorem kk678 : xKK 678 = some (.inr (.int, 6)) := by decide +kernel
theorem kk679 : xKK 679 = some (.inr (.int, 8)) := by decide +kernel
theorem kk680 : xKK 680 = some (.inr (.int, 8)) := by decide +kernel
theorem kk681 : xKK 681 = some (.inr (.int, 8)) := by decide +kernel
theorem kk682 : xKK 682 = some (.inr (.int, 8)) := by decide +kernel
theorem kk683 : xKK 683 = some (.inr (.int, 92)) := by decide +kernel
theorem kk684 : xKK 684 = some (.inr (.int, 92)) := by decide +kernel
theorem kk685 : xKK 685 = some (.inr (.int, 49)) := by decide +kernel
theorem kk686 : xKK 686 = some (.inr (.int, 20)) := by decide +kernel
theorem kk687 : xKK 687 = some (.inr (.int, 3680)) := by decide +kernel
theorem kk688 : xKK 688 = some (.inr (.int, 42)) := by decide +kernel
theorem kk689 : xKK 689 = some (.inr (.int, 7)) := by decide +kernel
theorem kk690 : xKK 690 = some (.inr (.int, 20)) := by decide +kernel
theorem kk691 : xKK 691 = some (.inr (.int, 30)) := by decide +kernel
theorem kk692 : xKK 692 = some (.inr (.int, 30)) := by decide +kernel
theorem kk693 : xKK 693 = some (.inr (.int, 30)) := by decide +kernel
theorem kk694 : xKK 694 = some (.inr (.boolean, 30)) := by decide +kernel
theorem kk695 : xKK 695 = some (.inr (.int, 7)) := by decide +kernel
theorem kk696 : xKK 696 = some (.inr (.boolean, 3)) := by decide +kernel
theorem kk697 : xKK 697 = some (.inr (.int, 276)) := by decide +kernel
/-- xSt at a place -/
def xSt (s : Nat) : Prop := xKK s = some (.inl 9) ∧ xKK (s + 1) = some (.inr (.int, 6)) ∧ xKK (s + 2) = some (.inr (.int, 6)) ∧ xKK (s + 3) = some (.inr (.int, 6)) ∧ xKK (s + 4) = some (.inr (.int, 6)) ∧ xKK (s + 5) = some (.inr (.int, 10)) ∧ xKK (s + 6) = some (.inr (.int, 10)) ∧ xKK (s + 7) = some (.inr (.int, 10)) ∧ xKK (s + 8) = some (.inr (.int, 10)) ∧ xKK (s + 9) = some (.inr (.int, 10)) ∧ xKK (s + 10) = some (.inr (.int, 10)) ∧ xKK (s + 11) = some (.inr (.int, 10))
theorem xSt.k0 {s : Nat} (h : xSt s) : xKK s = some (.inl 9) := h.1
theorem xSt.k1 {s : Nat} (h : xSt s) : xKK (s + 1) = some (.inr (.int, 6)) := h.2.1
theorem xSt.k2 {s : Nat} (h : xSt s) : xKK (s + 2) = some (.inr (.int, 6)) := h.2.2.1
theorem xSt.k3 {s : Nat} (h : xSt s) : xKK (s + 3) = some (.inr (.int, 6)) := h.2.2.2.1
theorem xSt.k4 {s : Nat} (h : xSt s) : xKK (s + 4) = some (.inr (.int, 6)) := h.2.2.2.2.1
theorem xSt.k5 {s : Nat} (h : xSt s) : xKK (s + 5) = some (.inr (.int, 10)) := h.2.2.2.2.2.1
theorem xSt.k6 {s : Nat} (h : xSt s) : xKK (s + 6) = some (.inr (.int, 10)) := h.2.2.2.2.2.2.1
theorem xSt.k7 {s : Nat} (h : xSt s) : xKK (s + 7) = some (.inr (.int, 10)) := h.2.2.2.2.2.2.2.1
theorem xSt.k8 {s : Nat} (h : xSt s) : xKK (s + 8) = some (.inr (.int, 10)) := h.2.2.2.2.2.2.2.2.1
theorem xSt.k9 {s : Nat} (h : xSt s) : xKK (s + 9) = some (.inr (.int, 10)) := h.2.2.2.2.2.2.2.2.2.1
theorem xSt.k10 {s : Nat} (h : xSt s) : xKK (s + 10) = some (.inr (.int, 10)) := h.2.2.2.2.2.2.2.2.2.2.1
theorem xSt.k11 {s : Nat} (h : xSt s) : xKK (s + 11) = some (.inr (.int, 10)) := h.2.2.2.2.2.2.2.2.2.2.2
/-- xFm at a place -/
def xFm (f : Nat) : Prop := xKK f = some (.inl 1) ∧ xKK (f + 1) = some (.inr (.int, 270)) ∧ xKK (f + 2) = some (.inr (.int, 30))
theorem xFm.k0 {f : Nat} (h : xFm f) : xKK f = some (.inl 1) := h.1
theorem xFm.k1 {f : Nat} (h : xFm f) : xKK (f + 1) = some (.inr (.int, 270)) := h.2.1
theorem xFm.k2 {f : Nat} (h : xFm f) : xKK (f + 2) = some (.inr (.int, 30)) := h.2.2
/-- xLd at a place -/
def xLd (l : Nat) : Prop := xKK l = some (.inl 2) ∧ xKK (l + 1) = some (.inr (.int, 12)) ∧ xKK (l + 2) = some (.inr (.int, 12)) ∧ xKK (l + 3) = some (.inr (.int, 12)) ∧ xKK (l + 4) = some (.inr (.int, 6)) ∧ xKK (l + 5) = some (.inr (.int, 6)) ∧ xKK (l + 6) = some (.inr (.int, 6)) ∧ xKK (l + 7) = some (.inr (.int, 6)) ∧ xKK (l + 8) = some (.inr (.int, 8)) ∧ xKK (l + 9) = some (.inr (.int, 8)) ∧ xKK (l + 10) = some (.inr (.int, 8)) ∧ xKK (l + 11) = some (.inr (.int, 8)) ∧ xKK (l + 12) = some (.inl 1) ∧ xKK (l + 13) = some (.inr (.int, 270)) ∧ xKK (l + 14) = some (.inr (.int, 30))
theorem xLd.k0 {l : Nat} (h : xLd l) : xKK l = some (.inl 2) := h.1
theorem xLd.k1 {l : Nat} (h : xLd l) : xKK (l + 1) = some (.inr (.int, 12)) := h.2.1
theorem xLd.k2 {l : Nat} (h : xLd l) : xKK (l + 2) = some (.inr (.int, 12)) := h.2.2.1
theorem xLd.k3 {l : Nat} (h : xLd l) : xKK (l + 3) = some (.inr (.int, 12)) := h.2.2.2.1
theorem xLd.k4 {l : Nat} (h : xLd l) : xKK (l + 4) = some (.inr (.int, 6)) := h.2.2.2.2.1
theorem xLd.k5 {l : Nat} (h : xLd l) : xKK (l + 5) = some (.inr (.int, 6)) := h.2.2.2.2.2.1
theorem xLd.k6 {l : Nat} (h : xLd l) : xKK (l + 6) = some (.inr (.int, 6)) := h.2.2.2.2.2.2.1
theorem xLd.k7 {l : Nat} (h : xLd l) : xKK (l + 7) = some (.inr (.int, 6)) := h.2.2.2.2.2.2.2.1
theorem xLd.k8 {l : Nat} (h : xLd l) : xKK (l + 8) = some (.inr (.int, 8)) := h.2.2.2.2.2.2.2.2.1
theorem xLd.k9 {l : Nat} (h : xLd l) : xKK (l + 9) = some (.inr (.int, 8)) := h.2.2.2.2.2.2.2.2.2.1
theorem xLd.k10 {l : Nat} (h : xLd l) : xKK (l + 10) = some (.inr (.int, 8)) := h.2.2.2.2.2.2.2.2.2.2.1
theorem xLd.k11 {l : Nat} (h : xLd l) : xKK (l + 11) = some (.inr (.int, 8)) := h.2.2.2.2.2.2.2.2.2.2.2.1
theorem xLd.k12 {l : Nat} (h : xLd l) : xKK (l + 12) = some (.inl 1) := h.2.2.2.2.2.2.2.2.2.2.2.2.1
theorem xLd.k13 {l : Nat} (h : xLd l) : xKK (l + 13) = some (.inr (.int, 270)) := h.2.2.2.2.2.2.2.2.2.2.2.2.2.1
theorem xLd.k14 {l : Nat} (h : xLd l) : xKK (l + 14) = some (.inr (.int, 30)) := h.2.2.2.2.2.2.2.2.2.2.2.2.2.2
theorem xLd.fm {l : Nat} (h : xLd l) : xFm (l + 12) := ⟨h.k12, h.k13, h.k14⟩
/-- a list of names, of at most m -/
def xNm (n m : Nat) : Prop := xKK n = some (.inl 5) ∧ xKK (n + 1) = some (.inr (.long, m))
theorem xNm.k0 {n m : Nat} (h : xNm n m) : xKK n = some (.inl 5) := h.1
theorem xNm.k1 {n m : Nat} (h : xNm n m) : xKK (n + 1) = some (.inr (.long, m)) := h.2
def xSr (s : Nat) (r : xQ) : Prop := r s 3 = some (s + 1) ∧ r s 4 = some (s + 2) ∧ r s 5 = some (s + 3) ∧ r s 6 = some (s + 4) ∧ r s 7 = some (s + 5) ∧ r s 8 = some (s + 6) ∧ r s 9 = some (s + 7) ∧ r s 10 = some (s + 8) ∧ r s 11 = some (s + 9) ∧ r s 12 = some (s + 10) ∧ r s 13 = some (s + 11)
theorem xSr.f3 {s : Nat} {r : xQ} (h : xSr s r) : r s 3 = some (s + 1) := h.1
theorem xSr.f4 {s : Nat} {r : xQ} (h : xSr s r) : r s 4 = some (s + 2) := h.2.1
theorem xSr.f5 {s : Nat} {r : xQ} (h : xSr s r) : r s 5 = some (s + 3) := h.2.2.1
theorem xSr.f6 {s : Nat} {r : xQ} (h : xSr s r) : r s 6 = some (s + 4) := h.2.2.2.1
theorem xSr.f7 {s : Nat} {r : xQ} (h : xSr s r) : r s 7 = some (s + 5) := h.2.2.2.2.1
theorem xSr.f8 {s : Nat} {r : xQ} (h : xSr s r) : r s 8 = some (s + 6) := h.2.2.2.2.2.1
theorem xSr.f9 {s : Nat} {r : xQ} (h : xSr s r) : r s 9 = some (s + 7) := h.2.2.2.2.2.2.1
theorem xSr.f10 {s : Nat} {r : xQ} (h : xSr s r) : r s 10 = some (s + 8) := h.2.2.2.2.2.2.2.1
theorem xSr.f11 {s : Nat} {r : xQ} (h : xSr s r) : r s 11 = some (s + 9) := h.2.2.2.2.2.2.2.2.1
theorem xSr.f12 {s : Nat} {r : xQ} (h : xSr s r) : r s 12 = some (s + 10) := h.2.2.2.2.2.2.2.2.2.1
theorem xSr.f13 {s : Nat} {r : xQ} (h : xSr s r) : r s 13 = some (s + 11) := h.2.2.2.2.2.2.2.2.2.2
def xFr1 (f : Nat) (r : xQ) : Prop := r f 0 = some (f + 1) ∧ r f 1 = some (f + 2)
theorem xFr1.f0 {f : Nat} {r : xQ} (h : xFr1 f r) : r f 0 = some (f + 1) := h.1
theorem xFr1.f1 {f : Nat} {r : xQ} (h : xFr1 f r) : r f 1 = some (f + 2) := h.2
def xLr0 (l : Nat) (r : xQ) : Prop := r l 2 = some (l + 1) ∧ r l 3 = some (l + 2) ∧ r l 4 = some (l + 3) ∧ r l 6 = some (l + 4) ∧ r l 7 = some (l + 5) ∧ r l 8 = some (l + 6) ∧ r l 9 = some (l + 7) ∧ r l 11 = some (l + 8) ∧ r l 12 = some (l + 9) ∧ r l 13 = some (l + 10) ∧ r l 14 = some (l + 11) ∧ r l 17 = some (l + 12)
theorem xLr0.f2 {l : Nat} {r : xQ} (h : xLr0 l r) : r l 2 = some (l + 1) := h.1
theorem xLr0.f3 {l : Nat} {r : xQ} (h : xLr0 l r) : r l 3 = some (l + 2) := h.2.1
theorem xLr0.f4 {l : Nat} {r : xQ} (h : xLr0 l r) : r l 4 = some (l + 3) := h.2.2.1
theorem xLr0.f6 {l : Nat} {r : xQ} (h : xLr0 l r) : r l 6 = some (l + 4) := h.2.2.2.1
theorem xLr0.f7 {l : Nat} {r : xQ} (h : xLr0 l r) : r l 7 = some (l + 5) := h.2.2.2.2.1
theorem xLr0.f8 {l : Nat} {r : xQ} (h : xLr0 l r) : r l 8 = some (l + 6) := h.2.2.2.2.2.1
theorem xLr0.f9 {l : Nat} {r : xQ} (h : xLr0 l r) : r l 9 = some (l + 7) := h.2.2.2.2.2.2.1
theorem xLr0.f11 {l : Nat} {r : xQ} (h : xLr0 l r) : r l 11 = some (l + 8) := h.2.2.2.2.2.2.2.1
theorem xLr0.f12 {l : Nat} {r : xQ} (h : xLr0 l r) : r l 12 = some (l + 9) := h.2.2.2.2.2.2.2.2.1
theorem xLr0.f13 {l : Nat} {r : xQ} (h : xLr0 l r) : r l 13 = some (l + 10) := h.2.2.2.2.2.2.2.2.2.1
theorem xLr0.f14 {l : Nat} {r : xQ} (h : xLr0 l r) : r l 14 = some (l + 11) := h.2.2.2.2.2.2.2.2.2.2.1
theorem xLr0.f17 {l : Nat} {r : xQ} (h : xLr0 l r) : r l 17 = some (l + 12) := h.2.2.2.2.2.2.2.2.2.2.2
def xNr (n : Nat) (r : xQ) : Prop := r n 0 = some (n + 1)
theorem xNr.f0 {n : Nat} {r : xQ} (h : xNr n r) : r n 0 = some (n + 1) := h
def xLr (l : Nat) (r : xQ) : Prop := xLr0 l r ∧ xFr1 (l + 12) r
def xRl : List (Nat × Nat × Nat) := [(8, 0, 9), (8, 1, 52), (8, 2, 79), (8, 3, 105), (8, 4, 117), (8, 5, 611), (8, 6, 616), (8, 7, 653), (8, 8, 654), (9, 0, 10), (9, 1, 16), (9, 2, 18), (9, 3, 20), (10, 0, 11), (10, 2, 12), (10, 3, 13), (10, 4, 14), (10, 6, 15), (52, 0, 53), (53, 0, 54), (53, 1, 62), (53, 2, 70), (53, 3, 78), (54, 0, 55), (54, 1, 56), (54, 2, 57), (54, 3, 58), (54, 4, 59), (54, 5, 60), (54, 6, 61), (62, 0, 63), (62, 1, 64), (62, 2, 65), (62, 3, 66), (62, 4, 67), (62, 5, 68), (62, 6, 69), (70, 0, 71), (70, 1, 72), (70, 2, 73), (70, 3, 74), (70, 4, 75), (70, 5, 76), (70, 6, 77), (79, 0, 52), (79, 1, 80), (79, 2, 92), (79, 3, 93), (79, 6, 94), (79, 9, 95), (79, 10, 102), (95, 0, 96), (95, 1, 97), (95, 2, 98), (95, 3, 99), (95, 4, 100), (95, 5, 101), (102, 0, 103), (102, 1, 104), (117, 0, 118), (118, 0, 119), (118, 1, 131), (118, 2, 143), (118, 3, 155), (118, 4, 167), (118, 5, 179), (118, 6, 191), (118, 7, 203), (118, 8, 215), (118, 9, 227), (118, 10, 239), (118, 11, 251), (118, 12, 263), (118, 13, 275), (118, 14, 287), (118, 15, 299), (118, 16, 311), (118, 17, 323), (118, 18, 335), (118, 19, 347), (118, 20, 359), (118, 21, 371), (118, 22, 383), (118, 23, 395), (118, 24, 407), (118, 25, 419), (118, 26, 431), (118, 27, 443), (118, 28, 455), (118, 29, 467), (118, 30, 479), (118, 31, 491), (118, 32, 503), (118, 33, 515), (118, 34, 527), (118, 35, 539), (118, 36, 551), (118, 37, 563), (118, 38, 575), (118, 39, 587), (118, 40, 599), (611, 0, 612), (611, 1, 613), (611, 2, 614), (611, 3, 615), (616, 0, 617), (616, 1, 629), (616, 2, 641), (655, 0, 656), (655, 10, 657), (655, 11, 658), (655, 12, 659), (655, 13, 660), (655, 14, 661), (655, 15, 662), (655, 16, 663), (655, 24, 664), (655, 25, 665), (655, 26, 666), (655, 27, 667), (655, 28, 668), (655, 29, 669), (655, 30, 670), (655, 31, 671), (655, 32, 672), (655, 33, 673), (655, 34, 674), (655, 35, 675), (655, 36, 676), (655, 37, 677), (655, 38, 678), (655, 39, 679), (655, 40, 680), (655, 41, 681), (655, 42, 682), (655, 57, 683), (655, 58, 684), (655, 59, 685), (655, 60, 686), (655, 62, 687), (655, 65, 688), (655, 66, 689), (655, 67, 690), (655, 69, 691), (655, 70, 692), (655, 71, 693), (655, 72, 694), (655, 75, 695), (655, 76, 696), (655, 77, 697)]
/-- the states' places -/
def xSb : List Nat := [80, 105] ++ ((List.range 41).map (fun i => 119 + 12 * i) ++ (List.range 3).map (fun i => 617 + 12 * i))
/-- every reference that never changes is as it was made -/
def xRf (r : xQ) : Prop := (∀ q ∈ xRl, r q.1 q.2.1 = some q.2.2) ∧ (∀ s ∈ xSb, xSr s r) ∧ xLr 22 r ∧ xLr 37 r ∧ xNr 16 r ∧ xNr 18 r ∧ xNr 20 r
theorem rf8_0 {r : xQ} (h : xRf r) : r 8 0 = some 9 := h.1 (8, 0, 9) (List.mem_of_getElem? (i := 0) rfl)
theorem rf8_1 {r : xQ} (h : xRf r) : r 8 1 = some 52 := h.1 (8, 1, 52) (List.mem_of_getElem? (i := 1) rfl)
theorem rf8_2 {r : xQ} (h : xRf r) : r 8 2 = some 79 := h.1 (8, 2, 79) (List.mem_of_getElem? (i := 2) rfl)
theorem rf8_3 {r : xQ} (h : xRf r) : r 8 3 = some 105 := h.1 (8, 3, 105) (List.mem_of_getElem? (i := 3) rfl)
theorem rf8_4 {r : xQ} (h : xRf r) : r 8 4 = some 117 := h.1 (8, 4, 117) (List.mem_of_getElem? (i := 4) rfl)
theorem rf8_5 {r : xQ} (h : xRf r) : r 8 5 = some 611 := h.1 (8, 5, 611) (List.mem_of_getElem? (i := 5) rfl)
theorem rf8_6 {r : xQ} (h : xRf r) : r 8 6 = some 616 := h.1 (8, 6, 616) (List.mem_of_getElem? (i := 6) rfl)
theorem rf8_7 {r : xQ} (h : xRf r) : r 8 7 = some 653 := h.1 (8, 7, 653) (List.mem_of_getElem? (i := 7) rfl)
theorem rf8_8 {r : xQ} (h : xRf r) : r 8 8 = some 654 := h.1 (8, 8, 654) (List.mem_of_getElem? (i := 8) rfl)
theorem rf9_0 {r : xQ} (h : xRf r) : r 9 0 = some 10 := h.1 (9, 0, 10) (List.mem_of_getElem? (i := 9) rfl)
theorem rf9_1 {r : xQ} (h : xRf r) : r 9 1 = some 16 := h.1 (9, 1, 16) (List.mem_of_getElem? (i := 10) rfl)
theorem rf9_2 {r : xQ} (h : xRf r) : r 9 2 = some 18 := h.1 (9, 2, 18) (List.mem_of_getElem? (i := 11) rfl)
theorem rf9_3 {r : xQ} (h : xRf r) : r 9 3 = some 20 := h.1 (9, 3, 20) (List.mem_of_getElem? (i := 12) rfl)
theorem rf10_0 {r : xQ} (h : xRf r) : r 10 0 = some 11 := h.1 (10, 0, 11) (List.mem_of_getElem? (i := 13) rfl)
theorem rf10_2 {r : xQ} (h : xRf r) : r 10 2 = some 12 := h.1 (10, 2, 12) (List.mem_of_getElem? (i := 14) rfl)
theorem rf10_3 {r : xQ} (h : xRf r) : r 10 3 = some 13 := h.1 (10, 3, 13) (List.mem_of_getElem? (i := 15) rfl)
theorem rf10_4 {r : xQ} (h : xRf r) : r 10 4 = some 14 := h.1 (10, 4, 14) (List.mem_of_getElem? (i := 16) rfl)
theorem rf10_6 {r : xQ} (h : xRf r) : r 10 6 = some 15 := h.1 (10, 6, 15) (List.mem_of_getElem? (i := 17) rfl)
theorem rf52_0 {r : xQ} (h : xRf r) : r 52 0 = some 53 := h.1 (52, 0, 53) (List.mem_of_getElem? (i := 18) rfl)
theorem rf53_0 {r : xQ} (h : xRf r) : r 53 0 = some 54 := h.1 (53, 0, 54) (List.mem_of_getElem? (i := 19) rfl)
theorem rf53_1 {r : xQ} (h : xRf r) : r 53 1 = some 62 := h.1 (53, 1, 62) (List.mem_of_getElem? (i := 20) rfl)
theorem rf53_2 {r : xQ} (h : xRf r) : r 53 2 = some 70 := h.1 (53, 2, 70) (List.mem_of_getElem? (i := 21) rfl)
theorem rf53_3 {r : xQ} (h : xRf r) : r 53 3 = some 78 := h.1 (53, 3, 78) (List.mem_of_getElem? (i := 22) rfl)
theorem rf54_0 {r : xQ} (h : xRf r) : r 54 0 = some 55 := h.1 (54, 0, 55) (List.mem_of_getElem? (i := 23) rfl)
theorem rf54_1 {r : xQ} (h : xRf r) : r 54 1 = some 56 := h.1 (54, 1, 56) (List.mem_of_getElem? (i := 24) rfl)
theorem rf54_2 {r : xQ} (h : xRf r) : r 54 2 = some 57 := h.1 (54, 2, 57) (List.mem_of_getElem? (i := 25) rfl)
theorem rf54_3 {r : xQ} (h : xRf r) : r 54 3 = some 58 := h.1 (54, 3, 58) (List.mem_of_getElem? (i := 26) rfl)
theorem rf54_4 {r : xQ} (h : xRf r) : r 54 4 = some 59 := h.1 (54, 4, 59) (List.mem_of_getElem? (i := 27) rfl)
theorem rf54_5 {r : xQ} (h : xRf r) : r 54 5 = some 60 := h.1 (54, 5, 60) (List.mem_of_getElem? (i := 28) rfl)
theorem rf54_6 {r : xQ} (h : xRf r) : r 54 6 = some 61 := h.1 (54, 6, 61) (List.mem_of_getElem? (i := 29) rfl)
theorem rf62_0 {r : xQ} (h : xRf r) : r 62 0 = some 63 := h.1 (62, 0, 63) (List.mem_of_getElem? (i := 30) rfl)
theorem rf62_1 {r : xQ} (h : xRf r) : r 62 1 = some 64 := h.1 (62, 1, 64) (List.mem_of_getElem? (i := 31) rfl)
theorem rf62_2 {r : xQ} (h : xRf r) : r 62 2 = some 65 := h.1 (62, 2, 65) (List.mem_of_getElem? (i := 32) rfl)
theorem rf62_3 {r : xQ} (h : xRf r) : r 62 3 = some 66 := h.1 (62, 3, 66) (List.mem_of_getElem? (i := 33) rfl)
theorem rf62_4 {r : xQ} (h : xRf r) : r 62 4 = some 67 := h.1 (62, 4, 67) (List.mem_of_getElem? (i := 34) rfl)
theorem rf62_5 {r : xQ} (h : xRf r) : r 62 5 = some 68 := h.1 (62, 5, 68) (List.mem_of_getElem? (i := 35) rfl)
theorem rf62_6 {r : xQ} (h : xRf r) : r 62 6 = some 69 := h.1 (62, 6, 69) (List.mem_of_getElem? (i := 36) rfl)
theorem rf70_0 {r : xQ} (h : xRf r) : r 70 0 = some 71 := h.1 (70, 0, 71) (List.mem_of_getElem? (i := 37) rfl)
theorem rf70_1 {r : xQ} (h : xRf r) : r 70 1 = some 72 := h.1 (70, 1, 72) (List.mem_of_getElem? (i := 38) rfl)
theorem rf70_2 {r : xQ} (h : xRf r) : r 70 2 = some 73 := h.1 (70, 2, 73) (List.mem_of_getElem? (i := 39) rfl)
theorem rf70_3 {r : xQ} (h : xRf r) : r 70 3 = some 74 := h.1 (70, 3, 74) (List.mem_of_getElem? (i := 40) rfl)
theorem rf70_4 {r : xQ} (h : xRf r) : r 70 4 = some 75 := h.1 (70, 4, 75) (List.mem_of_getElem? (i := 41) rfl)
theorem rf70_5 {r : xQ} (h : xRf r) : r 70 5 = some 76 := h.1 (70, 5, 76) (List.mem_of_getElem? (i := 42) rfl)
theorem rf70_6 {r : xQ} (h : xRf r) : r 70 6 = some 77 := h.1 (70, 6, 77) (List.mem_of_getElem? (i := 43) rfl)
theorem rf79_0 {r : xQ} (h : xRf r) : r 79 0 = some 52 := h.1 (79, 0, 52) (List.mem_of_getElem? (i := 44) rfl)
theorem rf79_1 {r : xQ} (h : xRf r) : r 79 1 = some 80 := h.1 (79, 1, 80) (List.mem_of_getElem? (i := 45) rfl)
theorem rf79_2 {r : xQ} (h : xRf r) : r 79 2 = some 92 := h.1 (79, 2, 92) (List.mem_of_getElem? (i := 46) rfl)
theorem rf79_3 {r : xQ} (h : xRf r) : r 79 3 = some 93 := h.1 (79, 3, 93) (List.mem_of_getElem? (i := 47) rfl)
theorem rf79_6 {r : xQ} (h : xRf r) : r 79 6 = some 94 := h.1 (79, 6, 94) (List.mem_of_getElem? (i := 48) rfl)
theorem rf79_9 {r : xQ} (h : xRf r) : r 79 9 = some 95 := h.1 (79, 9, 95) (List.mem_of_getElem? (i := 49) rfl)
theorem rf79_10 {r : xQ} (h : xRf r) : r 79 10 = some 102 := h.1 (79, 10, 102) (List.mem_of_getElem? (i := 50) rfl)
theorem rf95_0 {r : xQ} (h : xRf r) : r 95 0 = some 96 := h.1 (95, 0, 96) (List.mem_of_getElem? (i := 51) rfl)
theorem rf95_1 {r : xQ} (h : xRf r) : r 95 1 = some 97 := h.1 (95, 1, 97) (List.mem_of_getElem? (i := 52) rfl)
theorem rf95_2 {r : xQ} (h : xRf r) : r 95 2 = some 98 := h.1 (95, 2, 98) (List.mem_of_getElem? (i := 53) rfl)
theorem rf95_3 {r : xQ} (h : xRf r) : r 95 3 = some 99 := h.1 (95, 3, 99) (List.mem_of_getElem? (i := 54) rfl)
theorem rf95_4 {r : xQ} (h : xRf r) : r 95 4 = some 100 := h.1 (95, 4, 100) (List.mem_of_getElem? (i := 55) rfl)
theorem rf95_5 {r : xQ} (h : xRf r) : r 95 5 = some 101 := h.1 (95, 5, 101) (List.mem_of_getElem? (i := 56) rfl)
theorem rf102_0 {r : xQ} (h : xRf r) : r 102 0 = some 103 := h.1 (102, 0, 103) (List.mem_of_getElem? (i := 57) rfl)
theorem rf102_1 {r : xQ} (h : xRf r) : r 102 1 = some 104 := h.1 (102, 1, 104) (List.mem_of_getElem? (i := 58) rfl)
theorem rf117_0 {r : xQ} (h : xRf r) : r 117 0 = some 118 := h.1 (117, 0, 118) (List.mem_of_getElem? (i := 59) rfl)
theorem rf118_0 {r : xQ} (h : xRf r) : r 118 0 = some 119 := h.1 (118, 0, 119) (List.mem_of_getElem? (i := 60) rfl)
theorem rf118_1 {r : xQ} (h : xRf r) : r 118 1 = some 131 := h.1 (118, 1, 131) (List.mem_of_getElem? (i := 61) rfl)
theorem rf118_2 {r : xQ} (h : xRf r) : r 118 2 = some 143 := h.1 (118, 2, 143) (List.mem_of_getElem? (i := 62) rfl)
theorem rf118_3 {r : xQ} (h : xRf r) : r 118 3 = some 155 := h.1 (118, 3, 155) (List.mem_of_getElem? (i := 63) rfl)
theorem rf118_4 {r : xQ} (h : xRf r) : r 118 4 = some 167 := h.1 (118, 4, 167) (List.mem_of_getElem? (i := 64) rfl)
theorem rf118_5 {r : xQ} (h : xRf r) : r 118 5 = some 179 := h.1 (118, 5, 179) (List.mem_of_getElem? (i := 65) rfl)
theorem rf118_6 {r : xQ} (h : xRf r) : r 118 6 = some 191 := h.1 (118, 6, 191) (List.mem_of_getElem? (i := 66) rfl)
theorem rf118_7 {r : xQ} (h : xRf r) : r 118 7 = some 203 := h.1 (118, 7, 203) (List.mem_of_getElem? (i := 67) rfl)
theorem rf118_8 {r : xQ} (h : xRf r) : r 118 8 = some 215 := h.1 (118, 8, 215) (List.mem_of_getElem? (i := 68) rfl)
theorem rf118_9 {r : xQ} (h : xRf r) : r 118 9 = some 227 := h.1 (118, 9, 227) (List.mem_of_getElem? (i := 69) rfl)
theorem rf118_10 {r : xQ} (h : xRf r) : r 118 10 = some 239 := h.1 (118, 10, 239) (List.mem_of_getElem? (i := 70) rfl)
theorem rf118_11 {r : xQ} (h : xRf r) : r 118 11 = some 251 := h.1 (118, 11, 251) (List.mem_of_getElem? (i := 71) rfl)
theorem rf118_12 {r : xQ} (h : xRf r) : r 118 12 = some 263 := h.1 (118, 12, 263) (List.mem_of_getElem? (i := 72) rfl)
theorem rf118_13 {r : xQ} (h : xRf r) : r 118 13 = some 275 := h.1 (118, 13, 275) (List.mem_of_getElem? (i := 73) rfl)
theorem rf118_14 {r : xQ} (h : xRf r) : r 118 14 = some 287 := h.1 (118, 14, 287) (List.mem_of_getElem? (i := 74) rfl)
theorem rf118_15 {r : xQ} (h : xRf r) : r 118 15 = some 299 := h.1 (118, 15, 299) (List.mem_of_getElem? (i := 75) rfl)
theorem rf118_16 {r : xQ} (h : xRf r) : r 118 16 = some 311 := h.1 (118, 16, 311) (List.mem_of_getElem? (i := 76) rfl)
theorem rf118_17 {r : xQ} (h : xRf r) : r 118 17 = some 323 := h.1 (118, 17, 323) (List.mem_of_getElem? (i := 77) rfl)
theorem rf118_18 {r : xQ} (h : xRf r) : r 118 18 = some 335 := h.1 (118, 18, 335) (List.mem_of_getElem? (i := 78) rfl)
theorem rf118_19 {r : xQ} (h : xRf r) : r 118 19 = some 347 := h.1 (118, 19, 347) (List.mem_of_getElem? (i := 79) rfl)
theorem rf118_20 {r : xQ} (h : xRf r) : r 118 20 = some 359 := h.1 (118, 20, 359) (List.mem_of_getElem? (i := 80) rfl)
theorem rf118_21 {r : xQ} (h : xRf r) : r 118 21 = some 371 := h.1 (118, 21, 371) (List.mem_of_getElem? (i := 81) rfl)
theorem rf118_22 {r : xQ} (h : xRf r) : r 118 22 = some 383 := h.1 (118, 22, 383) (List.mem_of_getElem? (i := 82) rfl)
theorem rf118_23 {r : xQ} (h : xRf r) : r 118 23 = some 395 := h.1 (118, 23, 395) (List.mem_of_getElem? (i := 83) rfl)
theorem rf118_24 {r : xQ} (h : xRf r) : r 118 24 = some 407 := h.1 (118, 24, 407) (List.mem_of_getElem? (i := 84) rfl)
theorem rf118_25 {r : xQ} (h : xRf r) : r 118 25 = some 419 := h.1 (118, 25, 419) (List.mem_of_getElem? (i := 85) rfl)
theorem rf118_26 {r : xQ} (h : xRf r) : r 118 26 = some 431 := h.1 (118, 26, 431) (List.mem_of_getElem? (i := 86) rfl)
theorem rf118_27 {r : xQ} (h : xRf r) : r 118 27 = some 443 := h.1 (118, 27, 443) (List.mem_of_getElem? (i := 87) rfl)
theorem rf118_28 {r : xQ} (h : xRf r) : r 118 28 = some 455 := h.1 (118, 28, 455) (List.mem_of_getElem? (i := 88) rfl)
theorem rf118_29 {r : xQ} (h : xRf r) : r 118 29 = some 467 := h.1 (118, 29, 467) (List.mem_of_getElem? (i := 89) rfl)
theorem rf118_30 {r : xQ} (h : xRf r) : r 118 30 = some 479 := h.1 (118, 30, 479) (List.mem_of_getElem? (i := 90) rfl)
theorem rf118_31 {r : xQ} (h : xRf r) : r 118 31 = some 491 := h.1 (118, 31, 491) (List.mem_of_getElem? (i := 91) rfl)
theorem rf118_32 {r : xQ} (h : xRf r) : r 118 32 = some 503 := h.1 (118, 32, 503) (List.mem_of_getElem? (i := 92) rfl)
theorem rf118_33 {r : xQ} (h : xRf r) : r 118 33 = some 515 := h.1 (118, 33, 515) (List.mem_of_getElem? (i := 93) rfl)
theorem rf118_34 {r : xQ} (h : xRf r) : r 118 34 = some 527 := h.1 (118, 34, 527) (List.mem_of_getElem? (i := 94) rfl)
theorem rf118_35 {r : xQ} (h : xRf r) : r 118 35 = some 539 := h.1 (118, 35, 539) (List.mem_of_getElem? (i := 95) rfl)
theorem rf118_36 {r : xQ} (h : xRf r) : r 118 36 = some 551 := h.1 (118, 36, 551) (List.mem_of_getElem? (i := 96) rfl)
theorem rf118_37 {r : xQ} (h : xRf r) : r 118 37 = some 563 := h.1 (118, 37, 563) (List.mem_of_getElem? (i := 97) rfl)
theorem rf118_38 {r : xQ} (h : xRf r) : r 118 38 = some 575 := h.1 (118, 38, 575) (List.mem_of_getElem? (i := 98) rfl)
theorem rf118_39 {r : xQ} (h : xRf r) : r 118 39 = some 587 := h.1 (118, 39, 587) (List.mem_of_getElem? (i := 99) rfl)
theorem rf118_40 {r : xQ} (h : xRf r) : r 118 40 = some 599 := h.1 (118, 40, 599) (List.mem_of_getElem? (i := 100) rfl)
theorem rf611_0 {r : xQ} (h : xRf r) : r 611 0 = some 612 := h.1 (611, 0, 612) (List.mem_of_getElem? (i := 101) rfl)
theorem rf611_1 {r : xQ} (h : xRf r) : r 611 1 = some 613 := h.1 (611, 1, 613) (List.mem_of_getElem? (i := 102) rfl)
theorem rf611_2 {r : xQ} (h : xRf r) : r 611 2 = some 614 := h.1 (611, 2, 614) (List.mem_of_getElem? (i := 103) rfl)
theorem rf611_3 {r : xQ} (h : xRf r) : r 611 3 = some 615 := h.1 (611, 3, 615) (List.mem_of_getElem? (i := 104) rfl)
theorem rf616_0 {r : xQ} (h : xRf r) : r 616 0 = some 617 := h.1 (616, 0, 617) (List.mem_of_getElem? (i := 105) rfl)
theorem rf616_1 {r : xQ} (h : xRf r) : r 616 1 = some 629 := h.1 (616, 1, 629) (List.mem_of_getElem? (i := 106) rfl)
theorem rf616_2 {r : xQ} (h : xRf r) : r 616 2 = some 641 := h.1 (616, 2, 641) (List.mem_of_getElem? (i := 107) rfl)
theorem rf655_0 {r : xQ} (h : xRf r) : r 655 0 = some 656 := h.1 (655, 0, 656) (List.mem_of_getElem? (i := 108) rfl)
theorem rf655_10 {r : xQ} (h : xRf r) : r 655 10 = some 657 := h.1 (655, 10, 657) (List.mem_of_getElem? (i := 109) rfl)
theorem rf655_11 {r : xQ} (h : xRf r) : r 655 11 = some 658 := h.1 (655, 11, 658) (List.mem_of_getElem? (i := 110) rfl)
theorem rf655_12 {r : xQ} (h : xRf r) : r 655 12 = some 659 := h.1 (655, 12, 659) (List.mem_of_getElem? (i := 111) rfl)
theorem rf655_13 {r : xQ} (h : xRf r) : r 655 13 = some 660 := h.1 (655, 13, 660) (List.mem_of_getElem? (i := 112) rfl)
theorem rf655_14 {r : xQ} (h : xRf r) : r 655 14 = some 661 := h.1 (655, 14, 661) (List.mem_of_getElem? (i := 113) rfl)
theorem rf655_15 {r : xQ} (h : xRf r) : r 655 15 = some 662 := h.1 (655, 15, 662) (List.mem_of_getElem? (i := 114) rfl)
theorem rf655_16 {r : xQ} (h : xRf r) : r 655 16 = some 663 := h.1 (655, 16, 663) (List.mem_of_getElem? (i := 115) rfl)
theorem rf655_24 {r : xQ} (h : xRf r) : r 655 24 = some 664 := h.1 (655, 24, 664) (List.mem_of_getElem? (i := 116) rfl)
theorem rf655_25 {r : xQ} (h : xRf r) : r 655 25 = some 665 := h.1 (655, 25, 665) (List.mem_of_getElem? (i := 117) rfl)
theorem rf655_26 {r : xQ} (h : xRf r) : r 655 26 = some 666 := h.1 (655, 26, 666) (List.mem_of_getElem? (i := 118) rfl)
theorem rf655_27 {r : xQ} (h : xRf r) : r 655 27 = some 667 := h.1 (655, 27, 667) (List.mem_of_getElem? (i := 119) rfl)
theorem rf655_28 {r : xQ} (h : xRf r) : r 655 28 = some 668 := h.1 (655, 28, 668) (List.mem_of_getElem? (i := 120) rfl)
theorem rf655_29 {r : xQ} (h : xRf r) : r 655 29 = some 669 := h.1 (655, 29, 669) (List.mem_of_getElem? (i := 121) rfl)
theorem rf655_30 {r : xQ} (h : xRf r) : r 655 30 = some 670 := h.1 (655, 30, 670) (List.mem_of_getElem? (i := 122) rfl)
theorem rf655_31 {r : xQ} (h : xRf r) : r 655 31 = some 671 := h.1 (655, 31, 671) (List.mem_of_getElem? (i := 123) rfl)
theorem rf655_32 {r : xQ} (h : xRf r) : r 655 32 = some 672 := h.1 (655, 32, 672) (List.mem_of_getElem? (i := 124) rfl)
theorem rf655_33 {r : xQ} (h : xRf r) : r 655 33 = some 673 := h.1 (655, 33, 673) (List.mem_of_getElem? (i := 125) rfl)
theorem rf655_34 {r : xQ} (h : xRf r) : r 655 34 = some 674 := h.1 (655, 34, 674) (List.mem_of_getElem? (i := 126) rfl)
theorem rf655_35 {r : xQ} (h : xRf r) : r 655 35 = some 675 := h.1 (655, 35, 675) (List.mem_of_getElem? (i := 127) rfl)
theorem rf655_36 {r : xQ} (h : xRf r) : r 655 36 = some 676 := h.1 (655, 36, 676) (List.mem_of_getElem? (i := 128) rfl)
theorem rf655_37 {r : xQ} (h : xRf r) : r 655 37 = some 677 := h.1 (655, 37, 677) (List.mem_of_getElem? (i := 129) rfl)
theorem rf655_38 {r : xQ} (h : xRf r) : r 655 38 = some 678 := h.1 (655, 38, 678) (List.mem_of_getElem? (i := 130) rfl)
theorem rf655_39 {r : xQ} (h : xRf r) : r 655 39 = some 679 := h.1 (655, 39, 679) (List.mem_of_getElem? (i := 131) rfl)
theorem rf655_40 {r : xQ} (h : xRf r) : r 655 40 = some 680 := h.1 (655, 40, 680) (List.mem_of_getElem? (i := 132) rfl)
theorem rf655_41 {r : xQ} (h : xRf r) : r 655 41 = some 681 := h.1 (655, 41, 681) (List.mem_of_getElem? (i := 133) rfl)
theorem rf655_42 {r : xQ} (h : xRf r) : r 655 42 = some 682 := h.1 (655, 42, 682) (List.mem_of_getElem? (i := 134) rfl)
theorem rf655_57 {r : xQ} (h : xRf r) : r 655 57 = some 683 := h.1 (655, 57, 683) (List.mem_of_getElem? (i := 135) rfl)
theorem rf655_58 {r : xQ} (h : xRf r) : r 655 58 = some 684 := h.1 (655, 58, 684) (List.mem_of_getElem? (i := 136) rfl)
theorem rf655_59 {r : xQ} (h : xRf r) : r 655 59 = some 685 := h.1 (655, 59, 685) (List.mem_of_getElem? (i := 137) rfl)
theorem rf655_60 {r : xQ} (h : xRf r) : r 655 60 = some 686 := h.1 (655, 60, 686) (List.mem_of_getElem? (i := 138) rfl)
theorem rf655_62 {r : xQ} (h : xRf r) : r 655 62 = some 687 := h.1 (655, 62, 687) (List.mem_of_getElem? (i := 139) rfl)
theorem rf655_65 {r : xQ} (h : xRf r) : r 655 65 = some 688 := h.1 (655, 65, 688) (List.mem_of_getElem? (i := 140) rfl)
theorem rf655_66 {r : xQ} (h : xRf r) : r 655 66 = some 689 := h.1 (655, 66, 689) (List.mem_of_getElem? (i := 141) rfl)
theorem rf655_67 {r : xQ} (h : xRf r) : r 655 67 = some 690 := h.1 (655, 67, 690) (List.mem_of_getElem? (i := 142) rfl)
theorem rf655_69 {r : xQ} (h : xRf r) : r 655 69 = some 691 := h.1 (655, 69, 691) (List.mem_of_getElem? (i := 143) rfl)
theorem rf655_70 {r : xQ} (h : xRf r) : r 655 70 = some 692 := h.1 (655, 70, 692) (List.mem_of_getElem? (i := 144) rfl)
theorem rf655_71 {r : xQ} (h : xRf r) : r 655 71 = some 693 := h.1 (655, 71, 693) (List.mem_of_getElem? (i := 145) rfl)
theorem rf655_72 {r : xQ} (h : xRf r) : r 655 72 = some 694 := h.1 (655, 72, 694) (List.mem_of_getElem? (i := 146) rfl)
theorem rf655_75 {r : xQ} (h : xRf r) : r 655 75 = some 695 := h.1 (655, 75, 695) (List.mem_of_getElem? (i := 147) rfl)
theorem rf655_76 {r : xQ} (h : xRf r) : r 655 76 = some 696 := h.1 (655, 76, 696) (List.mem_of_getElem? (i := 148) rfl)
theorem rf655_77 {r : xQ} (h : xRf r) : r 655 77 = some 697 := h.1 (655, 77, 697) (List.mem_of_getElem? (i := 149) rfl)
theorem stA0 : ∀ s ∈ xSb, xKK (s + 0) = some (.inl 9) := by decide +kernel
theorem stA1 : ∀ s ∈ xSb, xKK (s + 1) = some (.inr (.int, 6)) := by decide +kernel
theorem stA2 : ∀ s ∈ xSb, xKK (s + 2) = some (.inr (.int, 6)) := by decide +kernel
theorem stA3 : ∀ s ∈ xSb, xKK (s + 3) = some (.inr (.int, 6)) := by decide +kernel
theorem stA4 : ∀ s ∈ xSb, xKK (s + 4) = some (.inr (.int, 6)) := by decide +kernel
theorem stA5 : ∀ s ∈ xSb, xKK (s + 5) = some (.inr (.int, 10)) := by decide +kernel
theorem stA6 : ∀ s ∈ xSb, xKK (s + 6) = some (.inr (.int, 10)) := by decide +kernel
theorem stA7 : ∀ s ∈ xSb, xKK (s + 7) = some (.inr (.int, 10)) := by decide +kernel
theorem stA8 : ∀ s ∈ xSb, xKK (s + 8) = some (.inr (.int, 10)) := by decide +kernel
theorem stA9 : ∀ s ∈ xSb, xKK (s + 9) = some (.inr (.int, 10)) := by decide +kernel
theorem stA10 : ∀ s ∈ xSb, xKK (s + 10) = some (.inr (.int, 10)) := by decide +kernel
theorem stA11 : ∀ s ∈ xSb, xKK (s + 11) = some (.inr (.int, 10)) := by decide +kernel
theorem stAll : ∀ s ∈ xSb, xSt s := fun s h => ⟨stA0 s h, stA1 s h, stA2 s h, stA3 s h, stA4 s h, stA5 s h, stA6 s h, stA7 s h, stA8 s h, stA9 s h, stA10 s h, stA11 s h⟩
theorem st80 : xSt 80 := stAll 80 (by decide)
theorem st105 : xSt 105 := stAll 105 (by decide)
theorem sr80 {r : xQ} (h : xRf r) : xSr 80 r := h.2.1 80 (by decide)
theorem sr105 {r : xQ} (h : xRf r) : xSr 105 r := h.2.1 105 (by decide)
theorem ld22 : xLd 22 := ⟨by decide +kernel, by decide +kernel, by decide +kernel, by decide +kernel, by decide +kernel, by decide +kernel, by decide +kernel, by decide +kernel, by decide +kernel, by decide +kernel, by decide +kernel, by decide +kernel, by decide +kernel, by decide +kernel, by decide +kernel⟩
theorem ld37 : xLd 37 := ⟨by decide +kernel, by decide +kernel, by decide +kernel, by decide +kernel, by decide +kernel, by decide +kernel, by decide +kernel, by decide +kernel, by decide +kernel, by decide +kernel, by decide +kernel, by decide +kernel, by decide +kernel, by decide +kernel, by decide +kernel⟩
theorem nm16 : xNm 16 7 := ⟨by decide +kernel, by decide +kernel⟩
theorem nm18 : xNm 18 6 := ⟨by decide +kernel, by decide +kernel⟩
theorem nm20 : xNm 20 8 := ⟨by decide +kernel, by decide +kernel⟩
theorem nr16 {r : xQ} (h : xRf r) : xNr 16 r := h.2.2.2.2.1
theorem nr18 {r : xQ} (h : xRf r) : xNr 18 r := h.2.2.2.2.2.1
theorem nr20 {r : xQ} (h : xRf r) : xNr 20 r := h.2.2.2.2.2.2
theorem vp_lt {i : Int32} {n : Nat} (h : vp_in i n) : i.toNatClampNeg < n := Nat.not_le.mp fun q => h (Or.inr q)
theorem krow54 : ∀ j, j < 7 → xKK (55 + j) = some (.inr (.int, 7)) := by decide +kernel
theorem kr54 {i : Int32} (h : vp_in i 7) : xKK (55 + i.toNatClampNeg) = some (.inr (.int, 7)) := krow54 _ (vp_lt h)
theorem rrow54 : ∀ j, j < 7 → (54, j, 55 + j) ∈ xRl := by decide +kernel
theorem rr54 {r : xQ} (hr : xRf r) {i : Int32} (h : vp_in i 7) : r 54 i.toNatClampNeg = some (55 + i.toNatClampNeg) := hr.1 _ (rrow54 _ (vp_lt h))
theorem krow62 : ∀ j, j < 7 → xKK (63 + j) = some (.inr (.int, 7)) := by decide +kernel
theorem kr62 {i : Int32} (h : vp_in i 7) : xKK (63 + i.toNatClampNeg) = some (.inr (.int, 7)) := krow62 _ (vp_lt h)
theorem rrow62 : ∀ j, j < 7 → (62, j, 63 + j) ∈ xRl := by decide +kernel
theorem rr62 {r : xQ} (hr : xRf r) {i : Int32} (h : vp_in i 7) : r 62 i.toNatClampNeg = some (63 + i.toNatClampNeg) := hr.1 _ (rrow62 _ (vp_lt h))
theorem krow70 : ∀ j, j < 7 → xKK (71 + j) = some (.inr (.int, 7)) := by decide +kernel
theorem kr70 {i : Int32} (h : vp_in i 7) : xKK (71 + i.toNatClampNeg) = some (.inr (.int, 7)) := krow70 _ (vp_lt h)
theorem rrow70 : ∀ j, j < 7 → (70, j, 71 + j) ∈ xRl := by decide +kernel
theorem rr70 {r : xQ} (hr : xRf r) {i : Int32} (h : vp_in i 7) : r 70 i.toNatClampNeg = some (71 + i.toNatClampNeg) := hr.1 _ (rrow70 _ (vp_lt h))
theorem krow95 : ∀ j, j < 6 → xKK (96 + j) = some (.inr (.int, 7)) := by decide +kernel
theorem kr95 {i : Int32} (h : vp_in i 6) : xKK (96 + i.toNatClampNeg) = some (.inr (.int, 7)) := krow95 _ (vp_lt h)
theorem rrow95 : ∀ j, j < 6 → (95, j, 96 + j) ∈ xRl := by decide +kernel
theorem rr95 {r : xQ} (hr : xRf r) {i : Int32} (h : vp_in i 6) : r 95 i.toNatClampNeg = some (96 + i.toNatClampNeg) := hr.1 _ (rrow95 _ (vp_lt h))
theorem krow102 : ∀ j, j < 2 → xKK (103 + j) = some (.inr (.int, 10)) := by decide +kernel
theorem kr102 {i : Int32} (h : vp_in i 2) : xKK (103 + i.toNatClampNeg) = some (.inr (.int, 10)) := krow102 _ (vp_lt h)
theorem rrow102 : ∀ j, j < 2 → (102, j, 103 + j) ∈ xRl := by decide +kernel
theorem rr102 {r : xQ} (hr : xRf r) {i : Int32} (h : vp_in i 2) : r 102 i.toNatClampNeg = some (103 + i.toNatClampNeg) := hr.1 _ (rrow102 _ (vp_lt h))
theorem rrow118 : ∀ j, j < 41 → (118, j, 119 + 12 * j) ∈ xRl := by decide +kernel
theorem srow118 : ∀ j, j < 41 → 119 + 12 * j ∈ xSb := by decide +kernel
theorem rr118 {r : xQ} (hr : xRf r) {i : Int32} (h : vp_in i 41) : r 118 i.toNatClampNeg = some (119 + 12 * i.toNatClampNeg) := hr.1 _ (rrow118 _ (vp_lt h))
theorem sr118 {r : xQ} (hr : xRf r) {i : Int32} (h : vp_in i 41) : xSr (119 + 12 * i.toNatClampNeg) r := hr.2.1 _ (srow118 _ (vp_lt h))
theorem ss118 {i : Int32} (h : vp_in i 41) : xSt (119 + 12 * i.toNatClampNeg) := stAll _ (srow118 _ (vp_lt h))
theorem rrow616 : ∀ j, j < 3 → (616, j, 617 + 12 * j) ∈ xRl := by decide +kernel
theorem srow616 : ∀ j, j < 3 → 617 + 12 * j ∈ xSb := by decide +kernel
theorem rr616 {r : xQ} (hr : xRf r) {i : Int32} (h : vp_in i 3) : r 616 i.toNatClampNeg = some (617 + 12 * i.toNatClampNeg) := hr.1 _ (rrow616 _ (vp_lt h))
theorem sr616 {r : xQ} (hr : xRf r) {i : Int32} (h : vp_in i 3) : xSr (617 + 12 * i.toNatClampNeg) r := hr.2.1 _ (srow616 _ (vp_lt h))
theorem ss616 {i : Int32} (h : vp_in i 3) : xSt (617 + 12 * i.toNatClampNeg) := stAll _ (srow616 _ (vp_lt h))
