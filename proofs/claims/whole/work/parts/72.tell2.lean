/-! calls that tell a field -/
section TELL2
variable {c' : Bool} {i : Nat} {M M1 M' : TM} {T U : Nat} {K : TM → Prop} {KI : Int32 → TM → Prop} {KV : TM → Prop} {p q u v r2 r4 : Int32} {R R' : Nat → Int32} {a b c d e f j k m x' h nx ci di r : Nat}
theorem m_told {x : Nat} (hx : x < 7) (g : Inv T M) (g1 : Cur T M ci di) (hj : j < nb (M 700)) (e1 : p = nI j) (e2 : q = nI x) (e3 : v = bg (M 700) j x) (hK : ∀ M', Inv T M' → K M') : f_X13_told p q (u2 M 710 0 v) (fun r4 M3 => LawE K 0 r4 M3) := by
  subst e1 e2 e3
  unfold f_X13_told
  have w := g1.2.2.2.2.2.1
  have n5 := w.nb5
  have hr4 := rw710 (v := bg (M 700) j x) g1.rw
  refine m_barg hr4 r710 w.ix ?_
  refine m_lacks rfl ?_
  rw [inR_nI hj (by omega)]
  refine cT' rfl ?_
  have hr5 : Rw (u2 (u2 M 710 0 (bg (M 700) j x)) 699 8 (bi (!true))) 700 := Rw.u _ _ (by decide) hr4
  have := m_of (M := u2 (u2 M 710 0 (bg (M 700) j x)) 699 8 (bi (!true))) (r := 700) (R := M 700) (K := fun r9 M8 => LawE K 0 r9 M8) (p := nI j) (q := nI x) hr5 rfl rfl (by omega) hx (by rw [uR_self (by rw [r8, r710])]; exact finT g hK)
  rw [uR_self (by rw [r8, r710])] at this
  exact this
theorem m_told0 (g : Inv T M) (g1 : Cur T M ci di) (hp : inR p (nb (M 700)) = false) (hK : ∀ M', Inv T M' → K M') : f_X13_told p q M (fun r4 M3 => LawE K 1 r4 M3) := by
  unfold f_X13_told
  have w := g1.2.2.2.2.2.1
  refine m_barg g1.rw rfl w.ix ?_
  refine m_lacks rfl ?_
  rw [hp]
  exact cN' (by decide) (finF g hK)
theorem m_toldO {x : Nat} (hx : x < 9) (g : Inv T M) (g1 : Cur T M ci di) (hj : j < no (M 700)) (e1 : p = nI j) (e2 : q = nI x) (e3 : v = og (M 700) j x) (hK : ∀ M', Inv T M' → K M') : f_X13_toldOrder p q (u2 M 710 0 v) (fun r4 M3 => LawE K 0 r4 M3) := by
  subst e1 e2 e3
  unfold f_X13_toldOrder
  have w := g1.2.2.2.2.2.1
  have n30 := w.no30
  have hr4 := rw710 (v := og (M 700) j x) g1.rw
  refine m_orde hr4 r710 w.ix ?_
  refine m_lacks rfl ?_
  rw [inR_nI hj (by omega)]
  refine cT' rfl ?_
  have hr5 : Rw (u2 (u2 M 710 0 (og (M 700) j x)) 699 8 (bi (!true))) 700 := Rw.u _ _ (by decide) hr4
  have := m_ofO (M := u2 (u2 M 710 0 (og (M 700) j x)) 699 8 (bi (!true))) (r := 700) (R := M 700) (K := fun r9 M8 => LawE K 0 r9 M8) (p := nI j) (q := nI x) hr5 rfl rfl (by omega) hx (by rw [uR_self (by rw [r8, r710])]; exact finT g hK)
  rw [uR_self (by rw [r8, r710])] at this
  exact this
theorem m_toldO0 (g : Inv T M) (g1 : Cur T M ci di) (hp : inR p (no (M 700)) = false) (hK : ∀ M', Inv T M' → K M') : f_X13_toldOrder p q M (fun r4 M3 => LawE K 1 r4 M3) := by
  unfold f_X13_toldOrder
  have w := g1.2.2.2.2.2.1
  refine m_orde g1.rw rfl w.ix ?_
  refine m_lacks rfl ?_
  rw [hp]
  exact cN' (by decide) (finF g hK)
theorem q_placeOf (g : Inv T M) (hK : ∀ M', Inv T M' → K M') : f_L_placeOf p M (fun r2 M1 => f_X13_placeOf p M1 (fun r4 M3 => LawE K r2 r4 M3)) := by
  unfold f_L_placeOf f_X12_placeOf
  obtain ⟨ci, di, nx, h, g1, -⟩ := id g
  have n5 := g1.2.2.2.2.2.1.nb5
  refine c_bargAt g1 (fun j hj ep => some_ok (iBar_at g1 (by omega)) ?_) (fun hp => ⟨rfl, m_told0 g g1 hp hK⟩)
  intro M4 e4
  subst e4
  exact m_told (x := 0) (by decide) g g1 hj ep rfl (g1.2.2.2.2.1.2.2.2.1 j hj).1 hK
theorem q_targetOf (g : Inv T M) (hK : ∀ M', Inv T M' → K M') : f_L_targetOf p M (fun r2 M1 => f_X13_targetOf p M1 (fun r4 M3 => LawE K r2 r4 M3)) := by
  unfold f_L_targetOf f_X12_targetOf
  obtain ⟨ci, di, nx, h, g1, -⟩ := id g
  have n5 := g1.2.2.2.2.2.1.nb5
  refine c_bargAt g1 (fun j hj ep => some_ok (iBar_at g1 (by omega)) ?_) (fun hp => ⟨rfl, m_told0 g g1 hp hK⟩)
  intro M4 e4
  subst e4
  exact m_told (x := 1) (by decide) g g1 hj ep rfl (g1.2.2.2.2.1.2.2.2.1 j hj).2.1 hK
theorem q_heightOf (g : Inv T M) (hK : ∀ M', Inv T M' → K M') : f_L_heightOf p M (fun r2 M1 => f_X13_heightOf p M1 (fun r4 M3 => LawE K r2 r4 M3)) := by
  unfold f_L_heightOf f_X12_heightOf
  obtain ⟨ci, di, nx, h, g1, -⟩ := id g
  have n5 := g1.2.2.2.2.2.1.nb5
  refine c_bargAt g1 (fun j hj ep => some_ok (iBar_at g1 (by omega)) ?_) (fun hp => ⟨rfl, m_told0 g g1 hp hK⟩)
  intro M4 e4
  subst e4
  exact m_told (x := 2) (by decide) g g1 hj ep rfl (g1.2.2.2.2.1.2.2.2.1 j hj).2.2.1 hK
theorem q_timeInLock (g : Inv T M) (hK : ∀ M', Inv T M' → K M') : f_L_timeInLock p M (fun r2 M1 => f_X13_timeInLock p M1 (fun r4 M3 => LawE K r2 r4 M3)) := by
  unfold f_L_timeInLock f_X12_timeInLock
  obtain ⟨ci, di, nx, h, g1, -⟩ := id g
  have n5 := g1.2.2.2.2.2.1.nb5
  refine c_bargAt g1 (fun j hj ep => some_ok (iBar_at g1 (by omega)) ?_) (fun hp => ⟨rfl, m_told0 g g1 hp hK⟩)
  intro M4 e4
  subst e4
  exact m_told (x := 6) (by decide) g g1 hj ep rfl (g1.2.2.2.2.1.2.2.2.1 j hj).2.2.2.1 hK
theorem q_flour (g : Inv T M) (hK : ∀ M', Inv T M' → K M') : f_L_flour p M (fun r2 M1 => f_X13_flour p M1 (fun r4 M3 => LawE K r2 r4 M3)) := by
  unfold f_L_flour f_X12_flour
  obtain ⟨ci, di, nx, h, g1, -⟩ := id g
  have n5 := g1.2.2.2.2.2.1.nb5
  refine c_bargAt g1 (fun j hj ep => some_ok (iBar_at g1 (by omega)) ?_) (fun hp => ⟨rfl, m_told0 g g1 hp hK⟩)
  intro M4 e4
  subst e4
  exact m_told (x := 3) (by decide) g g1 hj ep rfl (g1.2.2.2.2.1.2.2.2.1 j hj).2.2.2.2.1 hK
theorem q_cleanPairs (g : Inv T M) (hK : ∀ M', Inv T M' → K M') : f_L_cleanPairs p M (fun r2 M1 => f_X13_cleanPairs p M1 (fun r4 M3 => LawE K r2 r4 M3)) := by
  unfold f_L_cleanPairs f_X12_cleanPairs
  obtain ⟨ci, di, nx, h, g1, -⟩ := id g
  have n5 := g1.2.2.2.2.2.1.nb5
  refine c_bargAt g1 (fun j hj ep => some_ok (iBar_at g1 (by omega)) ?_) (fun hp => ⟨rfl, m_told0 g g1 hp hK⟩)
  intro M4 e4
  subst e4
  exact m_told (x := 4) (by decide) g g1 hj ep rfl (g1.2.2.2.2.1.2.2.2.1 j hj).2.2.2.2.2.1 hK
theorem q_dirtyPairs (g : Inv T M) (hK : ∀ M', Inv T M' → K M') : f_L_dirtyPairs p M (fun r2 M1 => f_X13_dirtyPairs p M1 (fun r4 M3 => LawE K r2 r4 M3)) := by
  unfold f_L_dirtyPairs f_X12_dirtyPairs
  obtain ⟨ci, di, nx, h, g1, -⟩ := id g
  have n5 := g1.2.2.2.2.2.1.nb5
  refine c_bargAt g1 (fun j hj ep => some_ok (iBar_at g1 (by omega)) ?_) (fun hp => ⟨rfl, m_told0 g g1 hp hK⟩)
  intro M4 e4
  subst e4
  exact m_told (x := 5) (by decide) g g1 hj ep rfl (g1.2.2.2.2.1.2.2.2.1 j hj).2.2.2.2.2.2 hK
theorem q_orderPlace (g : Inv T M) (hK : ∀ M', Inv T M' → K M') : f_L_orderPlace p M (fun r2 M1 => f_X13_orderPlace p M1 (fun r4 M3 => LawE K r2 r4 M3)) := by
  unfold f_L_orderPlace f_X12_orderPlace
  obtain ⟨ci, di, nx, h, g1, -⟩ := id g
  have n30 := g1.2.2.2.2.2.1.no30
  refine c_ordeAt g1 (fun j hj ep => some_ok (iOrd_at g1 (by omega)) ?_) (fun hp => ⟨rfl, m_toldO0 g g1 hp hK⟩)
  intro M4 e4
  subst e4
  exact m_toldO (x := 0) (by decide) g g1 hj ep rfl (g1.2.2.2.2.1.2.2.2.2.2 j hj).1 hK
theorem q_bowls (g : Inv T M) (hK : ∀ M', Inv T M' → K M') : f_L_bowls p M (fun r2 M1 => f_X13_bowls p M1 (fun r4 M3 => LawE K r2 r4 M3)) := by
  unfold f_L_bowls f_X12_bowls
  obtain ⟨ci, di, nx, h, g1, -⟩ := id g
  have n30 := g1.2.2.2.2.2.1.no30
  refine c_ordeAt g1 (fun j hj ep => some_ok (iOrd_at g1 (by omega)) ?_) (fun hp => ⟨rfl, m_toldO0 g g1 hp hK⟩)
  intro M4 e4
  subst e4
  exact m_toldO (x := 1) (by decide) g g1 hj ep rfl (g1.2.2.2.2.1.2.2.2.2.2 j hj).2.1 hK
theorem q_pullsLeft (g : Inv T M) (hK : ∀ M', Inv T M' → K M') : f_L_pullsLeft p M (fun r2 M1 => f_X13_pullsLeft p M1 (fun r4 M3 => LawE K r2 r4 M3)) := by
  unfold f_L_pullsLeft f_X12_pullsLeft
  obtain ⟨ci, di, nx, h, g1, -⟩ := id g
  have n30 := g1.2.2.2.2.2.1.no30
  refine c_ordeAt g1 (fun j hj ep => some_ok (iOrd_at g1 (by omega)) ?_) (fun hp => ⟨rfl, m_toldO0 g g1 hp hK⟩)
  intro M4 e4
  subst e4
  exact m_toldO (x := 7) (by decide) g g1 hj ep rfl (g1.2.2.2.2.1.2.2.2.2.2 j hj).2.2.2.1 hK
theorem q_deadline (g : Inv T M) (hK : ∀ M', Inv T M' → K M') : f_L_deadline p M (fun r2 M1 => f_X13_deadline p M1 (fun r4 M3 => LawE K r2 r4 M3)) := by
  unfold f_L_deadline f_X12_deadline
  obtain ⟨ci, di, nx, h, g1, -⟩ := id g
  have n30 := g1.2.2.2.2.2.1.no30
  refine c_ordeAt g1 (fun j hj ep => some_ok (iOrd_at g1 (by omega)) ?_) (fun hp => ⟨rfl, m_toldO0 g g1 hp hK⟩)
  intro M4 e4
  subst e4
  exact m_toldO (x := 3) (by decide) g g1 hj ep rfl (g1.2.2.2.2.1.2.2.2.2.2 j hj).2.2.2.2.1 hK
theorem q_bargeOf (g : Inv T M) (hK : ∀ M', Inv T M' → K M') : f_L_bargeOf p M (fun r2 M1 => f_X13_bargeOf p M1 (fun r4 M3 => LawE K r2 r4 M3)) := by
  unfold f_L_bargeOf f_X12_bargeOf
  obtain ⟨ci, di, nx, h, g1, -⟩ := id g
  have n30 := g1.2.2.2.2.2.1.no30
  refine c_ordeAt g1 (fun j hj ep => some_ok (iOrd_at g1 (by omega)) ?_) (fun hp => ⟨rfl, m_toldO0 g g1 hp hK⟩)
  intro M4 e4
  subst e4
  exact m_toldO (x := 5) (by decide) g g1 hj ep rfl (g1.2.2.2.2.1.2.2.2.2.2 j hj).2.2.2.2.2.2.2 hK
theorem q_clearance (g : Inv T M) (hK : ∀ M', Inv T M' → K M') : f_L_clearance p M (fun r2 M1 => f_X13_clearance p M1 (fun r4 M3 => LawE K r2 r4 M3)) := by
  unfold f_L_clearance f_X12_clearance
  obtain ⟨ci, di, nx, h, g1, -⟩ := id g
  have w := g1.2.2.2.2.2.1
  have n16 := w.np16
  refine c_sectAt g1 (fun j hj ep => some_ok (iSec_at g1 (by omega)) ?_) (fun hp => ⟨rfl, ?_⟩)
  · rw [(g1.2.2.2.2.1.2.1 j (by omega)).2.1]
    intro M4 e4
    subst e4
    unfold f_X13_clearance
    have hr4 := rw710 (v := M 700 (25 + j)) g1.rw
    refine m_sect hr4 r710 w.ix w.np3 ?_
    refine m_lacks rfl ?_
    rw [ep, inR_nI hj (by omega)]
    refine cT' rfl ?_
    have hr5 : Rw (u2 (u2 M 710 0 (M 700 (25 + j))) 699 8 (bi (!true))) 700 := Rw.u _ _ (by decide) hr4
    refine ⟨hr5.v' rfl, vlt (n25 j) (by omega) (by decide), ?_⟩
    rw [hr5.rd' rfl (n25 j) (by omega), r8, r710]
    exact finT g hK
  · unfold f_X13_clearance
    refine m_sect g1.rw rfl w.ix w.np3 ?_
    refine m_lacks rfl ?_
    rw [hp]
    exact cN' (by decide) (finF g hK)
theorem q_bargeInLock (g : Inv T M) (hK : ∀ M', Inv T M' → K M') : f_L_bargeInLock p M (fun r2 M1 => f_X13_bargeInLock p M1 (fun r4 M3 => LawE K r2 r4 M3)) := by
  unfold f_L_bargeInLock f_X12_bargeInLock
  obtain ⟨ci, di, nx, h, g1, -⟩ := id g
  have w := g1.2.2.2.2.2.1
  have n16 := w.np16
  refine c_sectAt g1 (fun j hj ep => some_ok (iSec_at g1 (by omega)) ?_) (fun hp => ⟨rfl, ?_⟩)
  · rw [(g1.2.2.2.2.1.2.1 j (by omega)).2.2]
    intro M4 e4
    subst e4
    unfold f_X13_bargeInLock
    have hr4 := rw710 (v := who (M 700) (nI j)) g1.rw
    refine m_sect hr4 r710 w.ix w.np3 ?_
    refine m_lacks rfl ?_
    rw [ep, inR_nI hj (by omega)]
    refine cT' rfl ?_
    have hr5 : Rw (u2 (u2 M 710 0 (who (M 700) (nI j))) 699 8 (bi (!true))) 700 := Rw.u _ _ (by decide) hr4
    have := m_who (M := u2 (u2 M 710 0 (who (M 700) (nI j))) 699 8 (bi (!true))) (r := 700) (R := M 700) (K := fun r9 M8 => LawE K 0 r9 M8) (s := nI j) hr5 w.ix (by rw [uR_self (by rw [r8, r710])]; exact finT g hK)
    rw [uR_self (by rw [r8, r710])] at this
    exact this
  · unfold f_X13_bargeInLock
    refine m_sect g1.rw rfl w.ix w.np3 ?_
    refine m_lacks rfl ?_
    rw [hp]
    exact cN' (by decide) (finF g hK)
end TELL2
