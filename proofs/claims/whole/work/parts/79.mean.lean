/-! meanCleanPairs -/
section MEAN
variable {c' : Bool} {i : Nat} {M M1 M' : TM} {T U : Nat} {K : TM → Prop} {p q u v r2 r4 : Int32} {R R' : Nat → Int32} {nx h ci di r : Nat}
theorem d_same {x : UInt64} {A : Prop} (h : A) : (((Op.cmpValue (FP.dcmp x x) .l) = 0 → A) ∧ (¬ (Op.cmpValue (FP.dcmp x x) .l) = 0 → (((Op.cmpValue (FP.dcmp x x) .l) = 0 → False) ∧ (¬ (Op.cmpValue (FP.dcmp x x) .l) = 0 → ((¬ (Op.cmpValue (FP.dcmp x x) .l) = 0 → A) ∧ ((Op.cmpValue (FP.dcmp x x) .l) = 0 → False)))))) := by
  generalize Op.cmpValue (FP.dcmp x x) .l = y
  exact ⟨fun _ => h, fun n1 => ⟨fun e => n1 e, fun _ => ⟨fun _ => h, fun e => n1 e⟩⟩⟩
theorem q_meanCleanPairs (g : Inv T M) (hK : ∀ M', Inv T M' → K M') : f_X12_meanCleanPairs M (fun r2 M1 => f_X13_meanCleanPairs M1 (fun r4 M3 => (((Op.cmpValue (FP.dcmp r2 r4) .l) = 0 → K M3) ∧ (¬ (Op.cmpValue (FP.dcmp r2 r4) .l) = 0 → (((Op.cmpValue (FP.dcmp r2 r2) .l) = 0 → False) ∧ (¬ (Op.cmpValue (FP.dcmp r2 r2) .l) = 0 → ((¬ (Op.cmpValue (FP.dcmp r4 r4) .l) = 0 → K M3) ∧ ((Op.cmpValue (FP.dcmp r4 r4) .l) = 0 → False)))))))) := by
  unfold f_X12_meanCleanPairs f_X13_meanCleanPairs
  obtain ⟨ci, di, nx, h, g1, -⟩ := id g
  have w := g1.2.2.2.2.2.1
  have n1 := g1.2.2.2.2.2.2.1
  have rl := g1.2.2.2.2.1
  have ix := w.ix
  have n5 := w.nb5
  have e2 : M (27 + 61 * ci) 4 = nI (nb (M 700)) := by rw [rl.1.2.1]; exact w.1.1.2.1.1
  refine ⟨g1.in11.1, ?_⟩
  rw [g1.in11.2.1, e2]
  refine cT' (nI_le (a := 1) n1 (by omega)) ⟨g1.in11.1, ?_⟩
  refine c_clean w rl ⟨g1.in11.1, ?_⟩
  rw [g1.in11.2.1, e2]
  refine ⟨ddiv_num (by omega) n1, ?_⟩
  intro M3 e3
  have hr3 : Rw M3 700 := by rw [e3]; exact Rw.u M 0 (by decide) g1.rw
  have hR3 : M3 700 = M 700 := by rw [e3, u2_n (by decide)]
  refine atS hR3 (F := fun S => f_X13_sumOf 4 S _) ?_
  refine m_sOf hr3 ix (f := 4) rfl (by decide) ⟨hr3.v _, vlt (n := 2) rfl (by decide) (by decide), ?_⟩
  rw [hr3.rd (x := 2) (i := 2) rfl (by decide), w.1.1.2.1.1, uR_self hR3]
  exact ⟨ddiv_num (by omega) n1, d_same (hK M3 (by rw [e3]; exact g.u8))⟩
end MEAN
