/-! gap, outputByte -/
section GAP
variable {c' : Bool} {i : Nat} {M M1 M' : TM} {T U : Nat} {K : TM → Prop} {KI : Int32 → TM → Prop} {KV : TM → Prop} {p q u v r2 r4 : Int32} {R R' : Nat → Int32} {a b c d e f j k m x' h nx ci di r : Nat}
theorem m_size {x : Int32} (h : KI (absI x) M) : f_X13_sizeOf x M KI := by
  unfold f_X13_sizeOf
  unfold absI at h
  refine ⟨fun c1 => ?_, fun c1 => ?_⟩
  · rw [if_pos c1] at h
    exact h
  · rw [if_neg c1, Int32.zero_sub] at h
    exact h
theorem q_gap (g : Inv T M) (hK : ∀ M', Inv T M' → K M') : f_X12_gap M (fun r2 M1 => f_X13_gap M1 (fun r4 M3 => ((r2 = r4 → K M3) ∧ (¬ r2 = r4 → False)))) := by
  unfold f_X12_gap f_X13_gap
  obtain ⟨ci, di, nx, h, g1, -⟩ := id g
  have w := g1.2.2.2.2.2.1
  have rl := g1.2.2.2.2.1
  refine ⟨g1.in11.1, ?_⟩
  rw [g1.in11.2.1]
  refine c_pgap w rl ⟨g1.in11.1, ?_⟩
  rw [g1.in11.2.1]
  refine c_bgap w rl ?_
  intro M3 e3
  have hr3 : Rw M3 700 := by rw [e3]; exact Rw.u M 0 (by decide) g1.rw
  have hR3 : M3 700 = M 700 := by rw [e3, u2_n (by decide)]
  have ix := w.ix
  refine atS hR3 (F := fun S => f_X13_sumOf 4 S _) ?_
  refine m_sOf hr3 ix (f := 4) rfl (by decide) ?_
  refine m_sOf hr3 ix (f := 5) rfl (by decide) ?_
  refine m_sAt hr3 ix (f := 40) rfl (by decide) ⟨hr3.v _, vlt (n := 7) rfl (by decide) (by decide), ?_⟩
  rw [hr3.rd (x := 7) (i := 7) rfl (by decide)]
  refine m_size ⟨hr3.v _, vlt (n := 5) rfl (by decide) (by decide), ?_⟩
  refine m_sAt hr3 ix (f := 56) rfl (by decide) ?_
  rw [hr3.rd (x := 5) (i := 5) rfl (by decide)]
  refine m_size ?_
  rw [uR_self hR3]
  exact cT' rfl (hK M3 (by rw [e3]; exact g.u8))
end GAP
