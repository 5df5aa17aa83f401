/-! further calls that tell -/
def LawB (K : TM → Prop) (r2 r4 : Int32) (M3 : TM) : Prop := f_X13_thrown M3 (fun r7 M6 => ((r7 = r2 → ((¬ r2 = 0 → K M6) ∧ (r2 = 0 → ((r4 = 0 → (((lg_cmp (M6 710 0).toInt64 (0 : Int32).toInt64) = 0 → K M6) ∧ (¬ (lg_cmp (M6 710 0).toInt64 (0 : Int32).toInt64) = 0 → False))) ∧ (¬ r4 = 0 → (((lg_cmp (M6 710 0).toInt64 (1 : Int32).toInt64) = 0 → K M6) ∧ (¬ (lg_cmp (M6 710 0).toInt64 (1 : Int32).toInt64) = 0 → False))))))) ∧ (¬ r7 = r2 → False)))
section TELL3
variable {c' : Bool} {i : Nat} {M M1 M' : TM} {T U : Nat} {K : TM → Prop} {KI : Int32 → TM → Prop} {KV : TM → Prop} {p q u v r2 r4 : Int32} {R R' : Nat → Int32} {a b c d e f j k m x' h nx ci di r : Nat}
theorem atS {S : TM} (hR : S 700 = R) {F : TM → Prop} (h : F (uR S 700 R)) : F S := by rw [uR_self hR] at h; exact h
theorem rr5 (hr : Rw M 700) : Rw (u2 (u2 M 710 0 v) 699 8 u) 700 := Rw.u _ _ (by decide) (rw710 hr)
theorem r7' : (u2 (u2 M 710 0 v) 699 8 u) 700 = M 700 := by rw [r8, r710]
theorem lawB (h1 : M 699 8 = r2) (h2 : r2 = 0 → M 710 0 = bi c' ∧ r4 = bi c') (hK : K M) : LawB K r2 r4 M := by
  unfold LawB f_X13_thrown
  refine cT' h1 ⟨fun _ => hK, fun h0 => ?_⟩
  obtain ⟨a1, a2⟩ := h2 h0
  rw [a1, a2]
  cases c' with
  | true => exact ⟨fun h => absurd h (by decide), fun _ => cT' (lg_refl _) hK⟩
  | false => exact ⟨fun _ => cT' (lg_refl _) hK, fun h => absurd (show bi false = 0 from rfl) h⟩
theorem finTB (g : Inv T M) (hK : ∀ M', Inv T M' → K M') : LawB K 0 (bi c') (u2 (u2 M 710 0 (bi c')) 699 8 0) := lawB (c' := c') (u2_s _ _ _ _) (fun _ => ⟨by rw [u2_n (by decide), u2_s], rfl⟩) (hK _ g.u710.u8)
theorem finFB (g : Inv T M) (hK : ∀ M', Inv T M' → K M') : LawB K 1 0 (u2 M 699 8 1) := lawB (c' := true) (u2_s _ _ _ _) (fun h => absurd h (by decide)) (hK _ g.u8)
/-- the class's boolean laid into the row -/
theorem lay_b {F : Int32 → TM → Prop} (h : F 0 (u2 M 710 0 (bi c'))) : ((bi c') = 0 → ∀ M5, M5 = u2 M 710 0 (0 : Int32) → F 0 M5) ∧ (¬ (bi c') = 0 → ∀ M6, M6 = u2 M 710 0 (1 : Int32) → F 0 M6) := by
  cases c' with
  | true => exact ⟨fun h => absurd h (by decide), fun _ M6 e => by subst e; exact h⟩
  | false => exact ⟨fun _ M5 e => by subst e; exact h, fun h => absurd (show bi false = 0 from rfl) h⟩
theorem m_toldIn (g : Inv T M) (g1 : Cur T M ci di) (hj : j < no (M 700)) (e1 : p = nI j) (e2 : c' = decide (og (M 700) j 4 = q)) (hK : ∀ M', Inv T M' → K M') : f_X13_toldIn p q (u2 M 710 0 (bi c')) (fun r4 M3 => LawB K 0 r4 M3) := by
  subst e1
  unfold f_X13_toldIn
  have w := g1.2.2.2.2.2.1
  have n30 := w.no30
  refine m_orde (rw710 g1.rw) r710 w.ix ?_
  refine m_lacks rfl ?_
  rw [inR_nI hj (by omega)]
  refine cT rfl ?_
  refine atS (R := M 700) r7' (F := fun S => f_X13_isIn (nI j) q S _) ?_
  refine m_isIn (rr5 g1.rw) rfl (by omega) ?_
  rw [← e2, uR_self r7']
  have fin := finTB (c' := c') g hK
  cases c' with
  | true => exact ⟨fun h => absurd h (by decide), fun _ => fin⟩
  | false => exact ⟨fun _ => fin, fun h => absurd (show bi false = 0 from rfl) h⟩
theorem m_toldIn0 (g : Inv T M) (g1 : Cur T M ci di) (hp : inR p (no (M 700)) = false) (hK : ∀ M', Inv T M' → K M') : f_X13_toldIn p q M (fun r4 M3 => LawB K 1 r4 M3) := by
  unfold f_X13_toldIn
  have w := g1.2.2.2.2.2.1
  refine m_orde g1.rw rfl w.ix ?_
  refine m_lacks rfl ?_
  rw [hp]
  exact cN (by decide) (finFB g hK)
theorem q_isOpen (g : Inv T M) (hK : ∀ M', Inv T M' → K M') : f_L_isOpen p M (fun r2 M1 => f_X13_isOpen p M1 (fun r4 M3 => LawB K r2 r4 M3)) := by
  unfold f_L_isOpen f_X12_isOpen
  obtain ⟨ci, di, nx, h, g1, -⟩ := id g
  have w := g1.2.2.2.2.2.1
  have n30 := w.no30
  refine c_ordeAt g1 (fun j hj ep => some_ok (iOrd_at g1 (by omega)) ?_) (fun hp => ⟨rfl, m_toldIn0 g g1 hp hK⟩)
  rw [(g1.2.2.2.2.1.2.2.2.2.2 j hj).2.2.2.2.2.2.1]
  refine ⟨WO.st w hj, ?_⟩
  refine rt1 (K := fun r2 M1 => ((r2 = 0 → ∀ M5, M5 = u2 M1 710 0 (0 : Int32) → f_X13_isOpen p M5 (fun r4 M3 => LawB K 0 r4 M3)) ∧ (¬ r2 = 0 → ∀ M6, M6 = u2 M1 710 0 (1 : Int32) → f_X13_isOpen p M6 (fun r4 M3 => LawB K 0 r4 M3)))) ?_
  exact lay_b (F := fun r2 M1 => f_X13_isOpen p M1 (fun r4 M3 => LawB K r2 r4 M3)) (m_toldIn g g1 hj ep rfl hK)
theorem q_isReady (g : Inv T M) (hK : ∀ M', Inv T M' → K M') : f_L_isReady p M (fun r2 M1 => f_X13_isReady p M1 (fun r4 M3 => LawB K r2 r4 M3)) := by
  unfold f_L_isReady f_X12_isReady
  obtain ⟨ci, di, nx, h, g1, -⟩ := id g
  have w := g1.2.2.2.2.2.1
  have n30 := w.no30
  refine c_ordeAt g1 (fun j hj ep => some_ok (iOrd_at g1 (by omega)) ?_) (fun hp => ⟨rfl, m_toldIn0 g g1 hp hK⟩)
  rw [(g1.2.2.2.2.1.2.2.2.2.2 j hj).2.2.2.2.2.2.1]
  refine ⟨WO.st w hj, ?_⟩
  refine rt1 (K := fun r2 M1 => ((r2 = 0 → ∀ M5, M5 = u2 M1 710 0 (0 : Int32) → f_X13_isReady p M5 (fun r4 M3 => LawB K 0 r4 M3)) ∧ (¬ r2 = 0 → ∀ M6, M6 = u2 M1 710 0 (1 : Int32) → f_X13_isReady p M6 (fun r4 M3 => LawB K 0 r4 M3)))) ?_
  exact lay_b (F := fun r2 M1 => f_X13_isReady p M1 (fun r4 M3 => LawB K r2 r4 M3)) (m_toldIn g g1 hj ep rfl hK)
theorem q_isEaten (g : Inv T M) (hK : ∀ M', Inv T M' → K M') : f_L_isEaten p M (fun r2 M1 => f_X13_isEaten p M1 (fun r4 M3 => LawB K r2 r4 M3)) := by
  unfold f_L_isEaten f_X12_isEaten
  obtain ⟨ci, di, nx, h, g1, -⟩ := id g
  have w := g1.2.2.2.2.2.1
  have n30 := w.no30
  refine c_ordeAt g1 (fun j hj ep => some_ok (iOrd_at g1 (by omega)) ?_) (fun hp => ⟨rfl, m_toldIn0 g g1 hp hK⟩)
  rw [(g1.2.2.2.2.1.2.2.2.2.2 j hj).2.2.2.2.2.2.1]
  refine ⟨WO.st w hj, ?_⟩
  refine rt1 (K := fun r2 M1 => ((r2 = 0 → ∀ M5, M5 = u2 M1 710 0 (0 : Int32) → f_X13_isEaten p M5 (fun r4 M3 => LawB K 0 r4 M3)) ∧ (¬ r2 = 0 → ∀ M6, M6 = u2 M1 710 0 (1 : Int32) → f_X13_isEaten p M6 (fun r4 M3 => LawB K 0 r4 M3)))) ?_
  exact lay_b (F := fun r2 M1 => f_X13_isEaten p M1 (fun r4 M3 => LawB K r2 r4 M3)) (m_toldIn g g1 hj ep rfl hK)
theorem q_price (g : Inv T M) (hK : ∀ M', Inv T M' → K M') : f_L_price p M (fun r2 M1 => f_X13_price p M1 (fun r4 M3 => LawE K r2 r4 M3)) := by
  unfold f_L_price f_X12_price
  obtain ⟨ci, di, nx, h, g1, -⟩ := id g
  have w := g1.2.2.2.2.2.1
  have n30 := w.no30
  refine c_ordeAt g1 (fun j hj ep => some_ok (iOrd_at g1 (by omega)) ?_) (fun hp => ⟨rfl, ?_⟩)
  · have hO := g1.2.2.2.2.1.2.2.2.2.2 j hj
    unfold f_X6_worth
    intro M4 e4
    rw [hO.2.1, hO.2.2.1] at e4
    subst e4
    unfold f_X13_price
    refine m_orde (rw710 g1.rw) r710 w.ix ?_
    refine m_lacks rfl ?_
    rw [ep, inR_nI hj (by omega)]
    refine cT' rfl ?_
    refine atS (R := M 700) r7' (F := fun S => f_X13_priceOf (nI j) S _) ?_
    refine m_prc (rr5 g1.rw) rfl (by omega) ?_
    rw [uR_self r7']
    exact finT g hK
  · unfold f_X13_price
    refine m_orde g1.rw rfl w.ix ?_
    refine m_lacks rfl ?_
    rw [hp]
    exact cN' (by decide) (finF g hK)
theorem q_usedPairs (g : Inv T M) (hK : ∀ M', Inv T M' → K M') : f_L_usedPairs p M (fun r2 M1 => f_X13_usedPairs p M1 (fun r4 M3 => LawE K r2 r4 M3)) := by
  unfold f_L_usedPairs f_X12_usedPairs
  obtain ⟨ci, di, nx, h, g1, -⟩ := id g
  have w := g1.2.2.2.2.2.1
  have n16 := w.np16
  obtain ⟨v1, v2, v3, v4⟩ := g1.in11
  refine c_reqPlace g1 (fun hp => ?_) (fun hp => ⟨rfl, ?_⟩)
  · obtain ⟨j, hj, rfl⟩ := inR_of (by omega) hp
    refine ⟨v1, vp_in_nI (by omega) (by decide), ?_⟩
    rw [v2, nI_clamp (by omega), (g1.2.2.2.2.1.2.2.1 j (by omega)).1]
    intro M4 e4
    subst e4
    unfold f_X13_usedPairs
    refine m_plac (rw710 g1.rw) r710 w.ix ?_
    refine m_lacks rfl ?_
    rw [hp]
    refine cT' rfl ?_
    refine ⟨(rr5 g1.rw).v' rfl, vlt (n40 j) (by omega) (by decide), ?_⟩
    rw [(rr5 g1.rw).rd' rfl (n40 j) (by omega), r7']
    exact finT g hK
  · unfold f_X13_usedPairs
    refine m_plac g1.rw rfl w.ix ?_
    refine m_lacks rfl ?_
    rw [hp]
    exact cN' (by decide) (finF g hK)
theorem q_bargesAt (g : Inv T M) (hK : ∀ M', Inv T M' → K M') : f_L_bargesAt p M (fun r2 M1 => f_X13_bargesAt p M1 (fun r4 M3 => LawE K r2 r4 M3)) := by
  unfold f_L_bargesAt f_X12_bargesAt
  obtain ⟨ci, di, nx, h, g1, -⟩ := id g
  have w := g1.2.2.2.2.2.1
  obtain ⟨v1, v2, v3, v4⟩ := g1.in11
  refine c_reqPlace g1 (fun hp => ?_) (fun hp => ⟨rfl, ?_⟩)
  · refine ⟨v1, ?_⟩
    rw [v2]
    refine c_cAt w g1.2.2.2.2.1 ?_
    intro M4 e4
    subst e4
    unfold f_X13_bargesAt
    refine m_plac (rw710 g1.rw) r710 w.ix ?_
    refine m_lacks rfl ?_
    rw [hp]
    refine cT' rfl ?_
    refine atS (R := M 700) r7' (F := fun S => f_X13_countAt p S _) ?_
    refine m_cAt (rr5 g1.rw) w.ix ?_
    rw [uR_self r7']
    exact finT g hK
  · unfold f_X13_bargesAt
    refine m_plac g1.rw rfl w.ix ?_
    refine m_lacks rfl ?_
    rw [hp]
    exact cN' (by decide) (finF g hK)
theorem q_ordersAt (g : Inv T M) (hK : ∀ M', Inv T M' → K M') : f_L_ordersAt p M (fun r2 M1 => f_X13_ordersAt p M1 (fun r4 M3 => LawE K r2 r4 M3)) := by
  unfold f_L_ordersAt f_X12_ordersAt
  obtain ⟨ci, di, nx, h, g1, -⟩ := id g
  have w := g1.2.2.2.2.2.1
  obtain ⟨v1, v2, v3, v4⟩ := g1.in11
  refine c_reqPlace g1 (fun hp => ?_) (fun hp => ⟨rfl, ?_⟩)
  · refine ⟨v1, ?_⟩
    rw [v2]
    refine c_cOrd w g1.2.2.2.2.1 ?_
    intro M4 e4
    subst e4
    unfold f_X13_ordersAt
    refine m_plac (rw710 g1.rw) r710 w.ix ?_
    refine m_lacks rfl ?_
    rw [hp]
    refine cT' rfl ?_
    refine atS (R := M 700) r7' (F := fun S => ∃ n, f_X13_ordersAt_L18 p _ n p 0 0 S) ?_
    refine m_cOrd (rr5 g1.rw) w.ix ?_
    rw [uR_self r7']
    exact finT g hK
  · unfold f_X13_ordersAt
    refine m_plac g1.rw rfl w.ix ?_
    refine m_lacks rfl ?_
    rw [hp]
    exact cN' (by decide) (finF g hK)
end TELL3
