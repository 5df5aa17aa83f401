/-! eatenShare -/
section EATEN2
variable {c' : Bool} {i : Nat} {M M1 M' : TM} {T U : Nat} {K : TM → Prop} {p q u v r2 r4 : Int32} {R R' : Nat → Int32} {nx h ci di r : Nat}
theorem q_eatenShare (g : Inv T M) (hK : ∀ M', Inv T M' → K M') : f_X12_eatenShare M (fun r2 M1 => vf_n64 (FP.f2d r2) ∧ f_X13_eatenShare M1 (fun r5 M4 => vf_n64 (FP.f2d r5) ∧ (((Op.cmpValue (FP.dcmp (FP.f2d r2) (FP.f2d r5)) .l) = 0 → K M4) ∧ (¬ (Op.cmpValue (FP.dcmp (FP.f2d r2) (FP.f2d r5)) .l) = 0 → (((Op.cmpValue (FP.dcmp (FP.f2d r2) (FP.f2d r2)) .l) = 0 → False) ∧ (¬ (Op.cmpValue (FP.dcmp (FP.f2d r2) (FP.f2d r2)) .l) = 0 → ((¬ (Op.cmpValue (FP.dcmp (FP.f2d r5) (FP.f2d r5)) .l) = 0 → K M4) ∧ ((Op.cmpValue (FP.dcmp (FP.f2d r5) (FP.f2d r5)) .l) = 0 → False)))))))) := by
  unfold f_X12_eatenShare f_X13_eatenShare
  obtain ⟨ci, di, nx, h, g1, -⟩ := id g
  have w := g1.2.2.2.2.2.1
  have rl := g1.2.2.2.2.1
  have ix := w.ix
  have n30 := w.no30
  have e12 : M (27 + 61 * ci) 12 = nI (cIn (M 700) 3) := rl.1.2.2.2.2.2.2.2.1
  have e13 : M (27 + 61 * ci) 13 = nI (cIn (M 700) 4) := by rw [rl.1.2.2.2.2.2.2.2.2]; exact w.1.2.2.2.2.2.1
  have a3 : cIn (M 700) 3 ≤ 30 := Nat.le_trans (cn_le _ _) n30
  have a4 : cIn (M 700) 4 ≤ 30 := Nat.le_trans (cn_le _ _) n30
  refine ⟨g1.in11.1, g1.in11.1, ?_⟩
  rw [g1.in11.2.1, e12, e13]
  generalize ea : cIn (M 700) 3 = a at a3
  generalize eb : cIn (M 700) 4 = b at a4
  have md : ∀ {F : Int32 → Int32 → TM → Prop} {M3 : TM}, M3 = u2 M 699 8 0 → F (nI a) (nI b) M3 → f_X13_countIn 3 M3 (fun r3 M2 => f_X13_countIn 4 M2 (fun r5 M4 => F r3 r5 M4)) := by
    intro F M3 e3 hh
    have hr3 : Rw M3 700 := by rw [e3]; exact Rw.u M 0 (by decide) g1.rw
    have hR3 : M3 700 = M 700 := by rw [e3, u2_n (by decide)]
    refine atS hR3 (F := fun S => f_X13_countIn 3 S _) ?_
    refine m_cIn hr3 ix ?_
    refine m_cIn hr3 ix ?_
    rw [ea, eb, uR_self hR3]
    exact hh
  by_cases hs : 1 ≤ a + b
  · refine cT' (by rw [nI_add]; exact nI_le (a := 1) hs (by omega)) ⟨g1.in11.1, ?_⟩
    obtain ⟨f1, f2⟩ := f_num a3 a4 hs
    refine ⟨f1, f2, fun M3 e3 => ?_⟩
    refine md e3 ?_
    refine cN (by rw [nI_add]; exact fun e => by have := nI_inj (a := a + b) (b := 0) (by omega) (by omega) e; omega) ⟨f1, f2, d_same (hK M3 (by rw [e3]; exact g.u8))⟩
  · have h0 : a = 0 := by omega
    have h1 : b = 0 := by omega
    subst h0
    subst h1
    refine cN' (by decide) ⟨f_zero, fun M3 e3 => ?_⟩
    refine md e3 ?_
    refine cT (by decide) ⟨f_zero, d_same (hK M3 (by rw [e3]; exact g.u8))⟩
end EATEN2
