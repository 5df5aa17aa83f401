/-! the first canal -/
def FT (j : Nat) : Nat := wN 13 j
def Y0 : Nat → Int32 := Zr r0 (nI 6)
def Y1 : Nat → Int32 := upd Y0 (10 + 1) (nI 3)
def Y2 : Nat → Int32 := upd Y1 (25 + 3) (nI 4)
def Y3 : Nat → Int32 := upd Y2 (10 + 4) (nI 2)
def Y4 : Nat → Int32 := aBarge Y3 (nI 0) (nI 3) (nI 10) (nI 6)
def Y5 : Nat → Int32 := aBarge Y4 (nI 2) (nI 5) (nI 4) (nI 2)
def Y6 : Nat → Int32 := aOrder Y5 (nI 2) (nI 2) (nI 3) (nI 20)
def Y7 : Nat → Int32 := aOrder Y6 (nI 5) (nI 1) (nI 1) (nI 30)
def Y8 : Nat → Int32 := aOrder Y7 (nI 1) (nI 3) (nI 2) (nI 15)
def T0 : PS := (0, 0, 8, 12, 1)
def T1 : PS := (0, 0, 17, 23, 1)
def T2 : PS := (0, 0, 28, 32, 1)
def T3 : PS := (0, 0, 37, 42, 1)
def T4 : PS := (0, 0, 52, 57, 1)
def T5 : PS := (0, 0, 66, 71, 1)
def T6 : PS := (0, 0, 81, 86, 1)
def T7 : PS := (0, 0, 96, 101, 1)
def T8 : PS := (0, 0, 111, 111, 0)
theorem fn_13 : lN' 13 = 111 := by decide +kernel
theorem ft_c0 : hd2 FT 111 (s0 FT 111) = T0 ∧ pLv FT 3 16 (hd1 FT 111 (s0 FT 111)) = 6 := by decide +kernel
theorem ft_s1 : pWd FT T0 10 = true ∧ sec3 FT 111 10 (T0, Y0) = T1 ∧ secV FT 111 (T0, Y0) = 1 ∧ pLv FT 1 9 (sec2 FT 111 10 (T0, Y0)) = 3 := by decide +kernel
theorem ft_s2 : (pWd FT T1 10 = false ∧ pWd FT T1 11 = true) ∧ sec3 FT 111 25 (T1, Y1) = T2 ∧ secV FT 111 (T1, Y1) = 3 ∧ pLv FT 1 9 (sec2 FT 111 25 (T1, Y1)) = 4 := by decide +kernel
theorem ft_s3 : pWd FT T2 10 = true ∧ sec3 FT 111 10 (T2, Y2) = T3 ∧ secV FT 111 (T2, Y2) = 4 ∧ pLv FT 1 9 (sec2 FT 111 10 (T2, Y2)) = 2 := by decide +kernel
theorem ft_b4 : (pWd FT T3 10 = false ∧ pWd FT T3 11 = false) ∧ bar6 FT 111 (T3, Y3) = T4 ∧ np Y3 = 6 := by decide +kernel
theorem ft_b4v : pLv FT 0 5 (bar1 FT 111 (T3, Y3)) = 0 ∧ pLv FT 1 9 (bar2 FT 111 (T3, Y3)) = 3 ∧ pLv FT 0 99 (bar3 FT 111 (T3, Y3)) = 10 ∧ pLv FT 0 99 (bar4 FT 111 (T3, Y3)) = 6 := by decide +kernel
theorem ft_b5 : pWd FT T4 12 = true ∧ bar6 FT 111 (T4, Y4) = T5 ∧ np Y4 = 6 := by decide +kernel
theorem ft_b5v : pLv FT 0 5 (bar1 FT 111 (T4, Y4)) = 2 ∧ pLv FT 1 9 (bar2 FT 111 (T4, Y4)) = 5 ∧ pLv FT 0 99 (bar3 FT 111 (T4, Y4)) = 4 ∧ pLv FT 0 99 (bar4 FT 111 (T4, Y4)) = 2 := by decide +kernel
theorem ft_o6 : pWd FT T5 12 = false ∧ ord6 FT 111 (T5, Y5) = T6 ∧ np Y5 = 6 := by decide +kernel
theorem ft_o6v : pLv FT 0 5 (ord1 FT 111 (T5, Y5)) = 2 ∧ pLv FT 1 4 (ord2 FT 111 (T5, Y5)) = 2 ∧ pLv FT 1 6 (ord3 FT 111 (T5, Y5)) = 3 ∧ pLv FT 1 500 (ord4 FT 111 (T5, Y5)) = 20 := by decide +kernel
theorem ft_o7 : ord6 FT 111 (T6, Y6) = T7 ∧ np Y6 = 6 := by decide +kernel
theorem ft_o7v : pLv FT 0 5 (ord1 FT 111 (T6, Y6)) = 5 ∧ pLv FT 1 4 (ord2 FT 111 (T6, Y6)) = 1 ∧ pLv FT 1 6 (ord3 FT 111 (T6, Y6)) = 1 ∧ pLv FT 1 500 (ord4 FT 111 (T6, Y6)) = 30 := by decide +kernel
theorem ft_o8 : ord6 FT 111 (T7, Y7) = T8 ∧ np Y7 = 6 := by decide +kernel
theorem ft_o8v : pLv FT 0 5 (ord1 FT 111 (T7, Y7)) = 1 ∧ pLv FT 1 4 (ord2 FT 111 (T7, Y7)) = 3 ∧ pLv FT 1 6 (ord3 FT 111 (T7, Y7)) = 2 ∧ pLv FT 1 500 (ord4 FT 111 (T7, Y7)) = 15 := by decide +kernel
