/-! calls that tell without an argument -/
section TELL5
variable {c' : Bool} {i : Nat} {M M1 M' : TM} {T U : Nat} {K : TM → Prop} {KI : Int32 → TM → Prop} {KV : TM → Prop} {p q u v r2 r4 : Int32} {R R' : Nat → Int32} {a b c d e f j k m x' h nx ci di r : Nat}
theorem q_errorCode (g : Inv T M) (hK : ∀ M', Inv T M' → K M') : f_X12_errorCode M (fun r2 M1 => f_X13_errorCode M1 (fun r4 M3 => ((r2 = r4 → K M3) ∧ (¬ r2 = r4 → False)))) := by
  unfold f_X12_errorCode f_X13_errorCode
  obtain ⟨ci, di, nx, h, -, -, -, ⟨f, -, -, -, -, t1, t2⟩, -⟩ := id g
  intro M3 e3
  refine cT' ?_ (hK M3 (by rw [e3]; exact g.u8))
  rw [e3, u2_f (by decide)]
  exact t1
theorem q_errorOffset (g : Inv T M) (hK : ∀ M', Inv T M' → K M') : f_X12_errorOffset M (fun r2 M1 => f_X13_errorOffset M1 (fun r4 M3 => ((r2 = r4 → K M3) ∧ (¬ r2 = r4 → False)))) := by
  unfold f_X12_errorOffset f_X13_errorOffset
  obtain ⟨ci, di, nx, h, -, -, -, ⟨f, -, -, -, -, t1, t2⟩, -⟩ := id g
  intro M3 e3
  refine cT' ?_ (hK M3 (by rw [e3]; exact g.u8))
  rw [e3, u2_f (by decide)]
  exact t2
theorem q_undoableCount (g : Inv T M) (hK : ∀ M', Inv T M' → K M') : f_X12_undoableCount M (fun r2 M1 => f_X13_undoableCount M1 (fun r4 M3 => ((r2 = r4 → K M3) ∧ (¬ r2 = r4 → False)))) := by
  unfold f_X12_undoableCount f_X13_undoableCount
  obtain ⟨ci, di, nx, h, -, ⟨h1, h2, -, -, h5, -⟩, -⟩ := id g
  intro M3 e3
  refine cT' ?_ (hK M3 (by rw [e3]; exact g.u8))
  rw [e3, u2_f (by decide), h2, h5]
theorem q_minute (g : Inv T M) (hK : ∀ M', Inv T M' → K M') : f_X12_minute M (fun r2 M1 => f_X13_minute M1 (fun r4 M3 => ((r2 = r4 → K M3) ∧ (¬ r2 = r4 → False)))) := by
  unfold f_X12_minute f_X13_minute
  obtain ⟨ci, di, nx, h, g1, -⟩ := id g
  refine ⟨g1.in11.1, tell0 (x := 0) g (by decide) (fun ci di g1 => ?_) hK rfl⟩
  rw [g1.in11.2.1]
  exact g1.2.2.2.2.1.1.2.2.2.1
theorem q_placeCount (g : Inv T M) (hK : ∀ M', Inv T M' → K M') : f_X12_placeCount M (fun r2 M1 => f_X13_placeCount M1 (fun r4 M3 => ((r2 = r4 → K M3) ∧ (¬ r2 = r4 → False)))) := by
  unfold f_X12_placeCount f_X13_placeCount
  obtain ⟨ci, di, nx, h, g1, -⟩ := id g
  refine ⟨g1.in11.1, tell0 (x := 1) g (by decide) (fun ci di g1 => ?_) hK rfl⟩
  rw [g1.in11.2.1]
  exact g1.2.2.2.2.1.1.1
theorem q_bargeCount (g : Inv T M) (hK : ∀ M', Inv T M' → K M') : f_X12_bargeCount M (fun r2 M1 => f_X13_bargeCount M1 (fun r4 M3 => ((r2 = r4 → K M3) ∧ (¬ r2 = r4 → False)))) := by
  unfold f_X12_bargeCount f_X13_bargeCount
  obtain ⟨ci, di, nx, h, g1, -⟩ := id g
  refine ⟨g1.in11.1, tell0 (x := 2) g (by decide) (fun ci di g1 => ?_) hK rfl⟩
  rw [g1.in11.2.1]
  exact g1.2.2.2.2.1.1.2.1
theorem q_orderCount (g : Inv T M) (hK : ∀ M', Inv T M' → K M') : f_X12_orderCount M (fun r2 M1 => f_X13_orderCount M1 (fun r4 M3 => ((r2 = r4 → K M3) ∧ (¬ r2 = r4 → False)))) := by
  unfold f_X12_orderCount f_X13_orderCount
  obtain ⟨ci, di, nx, h, g1, -⟩ := id g
  refine ⟨g1.in11.1, tell0 (x := 3) g (by decide) (fun ci di g1 => ?_) hK rfl⟩
  rw [g1.in11.2.1]
  exact g1.2.2.2.2.1.1.2.2.1
theorem q_coins (g : Inv T M) (hK : ∀ M', Inv T M' → K M') : f_X12_coins M (fun r2 M1 => f_X13_coins M1 (fun r4 M3 => ((r2 = r4 → K M3) ∧ (¬ r2 = r4 → False)))) := by
  unfold f_X12_coins f_X13_coins
  obtain ⟨ci, di, nx, h, g1, -⟩ := id g
  refine ⟨g1.in11.1, tell0 (x := 4) g (by decide) (fun ci di g1 => ?_) hK rfl⟩
  rw [g1.in11.2.1]
  exact g1.2.2.2.2.1.1.2.2.2.2.1
theorem q_eatenBowls (g : Inv T M) (hK : ∀ M', Inv T M' → K M') : f_X12_eatenBowls M (fun r2 M1 => f_X13_eatenBowls M1 (fun r4 M3 => ((r2 = r4 → K M3) ∧ (¬ r2 = r4 → False)))) := by
  unfold f_X12_eatenBowls f_X13_eatenBowls
  obtain ⟨ci, di, nx, h, g1, -⟩ := id g
  refine ⟨g1.in11.1, tell0 (x := 5) g (by decide) (fun ci di g1 => ?_) hK rfl⟩
  rw [g1.in11.2.1]
  exact g1.2.2.2.2.1.1.2.2.2.2.2.2.1
theorem q_expiredOrders (g : Inv T M) (hK : ∀ M', Inv T M' → K M') : f_X12_expiredOrders M (fun r2 M1 => f_X13_expiredOrders M1 (fun r4 M3 => ((r2 = r4 → K M3) ∧ (¬ r2 = r4 → False)))) := by
  unfold f_X12_expiredOrders f_X13_expiredOrders
  obtain ⟨ci, di, nx, h, g1, -⟩ := id g
  refine ⟨g1.in11.1, tell0 (x := 6) g (by decide) (fun ci di g1 => ?_) hK rfl⟩
  rw [g1.in11.2.1]
  exact g1.2.2.2.2.1.1.2.2.2.2.2.2.2.2
theorem q_mostUrgentOrder (g : Inv T M) (hK : ∀ M', Inv T M' → K M') : f_X12_mostUrgentOrder M (fun r2 M1 => f_X13_mostUrgentOrder M1 (fun r4 M3 => ((r2 = r4 → K M3) ∧ (¬ r2 = r4 → False)))) := by
  unfold f_X12_mostUrgentOrder f_X13_mostUrgentOrder
  obtain ⟨ci, di, nx, h, g1, -⟩ := id g
  refine ⟨g1.in11.1, ?_⟩
  rw [g1.in11.2.1]
  refine c_urg g1.2.2.2.2.2.1 g1.2.2.2.2.1 ?_
  intro M3 e3
  have hr3 : Rw M3 700 := by rw [e3]; exact Rw.u M 0 (by decide) g1.rw
  have hR3 : M3 700 = M 700 := by rw [e3, u2_n (by decide)]
  refine atS hR3 (F := fun S => ∃ n', f_X13_mostUrgentOrder_L9 (fun r4 M3 => ((urg (M 700) = r4 → K M3) ∧ (¬ urg (M 700) = r4 → False))) n' (-1) 0 S) ?_
  refine m_urg hr3 g1.2.2.2.2.2.1.ix ?_
  rw [uR_self hR3]
  exact cT' rfl (hK M3 (by rw [e3]; exact g.u8))
end TELL5
