/-! calls that tell: places, sections, barges, orders -/
section TELL
variable {c' : Bool} {i : Nat} {M M1 M' : TM} {T U : Nat} {K : TM → Prop} {KI : Int32 → TM → Prop} {KO : Option Nat → TM → Prop} {KV : TM → Prop} {X : String → TM → Prop} {p q u v r2 r4 : Int32} {R R' : Nat → Int32} {a b c d e f j k m x' h nx ci di r : Nat}
theorem atM {F : TM → Prop} (h : F (uR M 700 (M 700))) : F M := by rw [uR_id] at h; exact h
theorem finT (g : Inv T M) (hK : ∀ M', Inv T M' → K M') : LawE K 0 v (u2 (u2 M 710 0 v) 699 8 0) := lawE (u2_s _ _ _ _) (fun _ => by rw [u2_n (by decide), u2_s]) (hK _ g.u710.u8)
theorem finF (g : Inv T M) (hK : ∀ M', Inv T M' → K M') : LawE K 1 0 (u2 M 699 8 1) := lawE (u2_s _ _ _ _) (fun h => absurd h (by decide)) (hK _ g.u8)
/-- where the model stands behind the class's telling -/
theorem rw710 (hr : Rw M 700) : Rw (u2 M 710 0 v) 700 := by
  unfold Rw
  rw [u2_n (by decide)]
  exact hr
theorem r710 : (u2 M 710 0 v) 700 = M 700 := u2_n (by decide)
theorem r8 : (u2 M 699 8 v) 700 = M 700 := u2_n (by decide)
theorem m_sect {S : TM} (hr : Rw S 700) (hR : S 700 = R) (ix : Ix R) (h3 : 3 ≤ np R) (hK : KI (bi (inR p (np R - 1))) S) : f_X13_isSection p S KI := by
  have := m_isSection (M := S) (r := 700) (R := R) (K := KI) (p := p) hr ix (by omega) (by rw [uR_self hR]; exact hK)
  rw [uR_self hR] at this
  exact this
theorem m_plac {S : TM} (hr : Rw S 700) (hR : S 700 = R) (ix : Ix R) (hK : KI (bi (inR p (np R))) S) : f_X13_isPlace p S KI := by
  have := m_isPlace (M := S) (r := 700) (R := R) (K := KI) (p := p) hr ix (by rw [uR_self hR]; exact hK)
  rw [uR_self hR] at this
  exact this
theorem m_barg {S : TM} (hr : Rw S 700) (hR : S 700 = R) (ix : Ix R) (hK : KI (bi (inR p (nb R))) S) : f_X13_isBarge p S KI := by
  have := m_isBarge (M := S) (r := 700) (R := R) (K := KI) (p := p) hr ix (by rw [uR_self hR]; exact hK)
  rw [uR_self hR] at this
  exact this
theorem m_orde {S : TM} (hr : Rw S 700) (hR : S 700 = R) (ix : Ix R) (hK : KI (bi (inR p (no R))) S) : f_X13_isOrder p S KI := by
  have := m_isOrder (M := S) (r := 700) (R := R) (K := KI) (p := p) hr ix (by rw [uR_self hR]; exact hK)
  rw [uR_self hR] at this
  exact this
/-- the class's tests -/
theorem c_sectAt (g : Cur T M ci di) (h1 : ∀ j, j < np (M 700) - 1 → p = nI j → KO (some (27 + 61 * ci + 6 + j)) M) (h0 : inR p (np (M 700) - 1) = false → X "java/lang/IndexOutOfBoundsException" M) : f_X12_sectionAt p M KO X := by
  unfold f_X12_sectionAt
  obtain ⟨v1, v2, v3, v4⟩ := g.in11
  have w := g.2.2.2.2.2.1
  have n16 := w.np16
  refine ⟨v1, ?_⟩
  rw [v2]
  refine c_hasSection w g.2.2.2.2.1 ?_
  refine bT (fun hp => ?_) (fun hp => h0 hp)
  obtain ⟨j, hj, rfl⟩ := inR_of (by omega) hp
  refine ⟨v1, vp_in_nI (by omega) (by decide), ?_⟩
  rw [v2, nI_clamp (by omega)]
  exact h1 j hj rfl
theorem c_reqPlace (g : Cur T M ci di) (h1 : inR p (np (M 700)) = true → KV M) (h0 : inR p (np (M 700)) = false → X "java/lang/IndexOutOfBoundsException" M) : f_X12_requirePlace p M KV X := by
  unfold f_X12_requirePlace
  obtain ⟨v1, v2, v3, v4⟩ := g.in11
  refine ⟨v1, ?_⟩
  rw [v2]
  refine c_hasPlace g.2.2.2.2.2.1 g.2.2.2.2.1 ?_
  exact bT h1 h0
theorem c_reqBarge (g : Cur T M ci di) (h1 : inR p (nb (M 700)) = true → KV M) (h0 : inR p (nb (M 700)) = false → X "java/lang/IndexOutOfBoundsException" M) : f_X12_requireBarge p M KV X := by
  unfold f_X12_requireBarge
  obtain ⟨v1, v2, v3, v4⟩ := g.in11
  refine ⟨v1, ?_⟩
  rw [v2]
  refine c_hasBarge g.2.2.2.2.2.1 g.2.2.2.2.1 ?_
  exact bT h1 h0
theorem c_reqOrder (g : Cur T M ci di) (h1 : inR p (no (M 700)) = true → KV M) (h0 : inR p (no (M 700)) = false → X "java/lang/IndexOutOfBoundsException" M) : f_X12_requireOrder p M KV X := by
  unfold f_X12_requireOrder
  obtain ⟨v1, v2, v3, v4⟩ := g.in11
  refine ⟨v1, ?_⟩
  rw [v2]
  refine c_hasOrder g.2.2.2.2.2.1 g.2.2.2.2.1 ?_
  exact bT h1 h0
theorem c_bargAt (g : Cur T M ci di) (h1 : ∀ j, j < nb (M 700) → p = nI j → KO (some (27 + 61 * ci + 21 + 2 * j)) M) (h0 : inR p (nb (M 700)) = false → X "java/lang/IndexOutOfBoundsException" M) : f_X12_bargeAt p M KO X := by
  unfold f_X12_bargeAt
  obtain ⟨v1, v2, v3, v4⟩ := g.in11
  have n5 := g.2.2.2.2.2.1.nb5
  refine c_reqBarge g (fun hp => ?_) h0
  obtain ⟨j, hj, rfl⟩ := inR_of (by omega) hp
  refine ⟨v1, vp_in_nI (by omega) (by decide), ?_⟩
  rw [v2, nI_clamp (by omega)]
  exact h1 j hj rfl
theorem c_ordeAt (g : Cur T M ci di) (h1 : ∀ j, j < no (M 700) → p = nI j → KO (some (27 + 61 * ci + 31 + j)) M) (h0 : inR p (no (M 700)) = false → X "java/lang/IndexOutOfBoundsException" M) : f_X12_orderAt p M KO X := by
  unfold f_X12_orderAt
  obtain ⟨v1, v2, v3, v4⟩ := g.in11
  have n30 := g.2.2.2.2.2.1.no30
  refine c_reqOrder g (fun hp => ?_) h0
  obtain ⟨j, hj, rfl⟩ := inR_of (by omega) hp
  refine ⟨v1, vp_in_nI (by omega) (by decide), ?_⟩
  rw [v2, nI_clamp (by omega)]
  exact h1 j hj rfl
theorem iSec_at (g : Cur T M ci di) (hj : j < 15) : IsSec (27 + 61 * ci + 6 + j) := ⟨ci, j, by have := g.1; omega, hj, rfl⟩
theorem iBar_at (g : Cur T M ci di) (hj : j < 5) : IsBarge (27 + 61 * ci + 21 + 2 * j) := ⟨ci, j, by have := g.1; omega, hj, rfl⟩
theorem iOrd_at (g : Cur T M ci di) (hj : j < 30) : IsOrder (27 + 61 * ci + 31 + j) := ⟨ci, j, by have := g.1; omega, hj, rfl⟩
theorem some_ok {P : Nat → Prop} {F : Nat → Prop} {x : Nat} (hP : P x) (hF : F x) : (∃ x3, P x3 ∧ (some x : Option Nat) = some x3) ∧ ∀ x3, P x3 → (some x : Option Nat) = some x3 → F x3 := ⟨⟨x, hP, rfl⟩, fun x3 _ e => by cases e; exact hF⟩
/-- sections -/
theorem q_lockWait (g : Inv T M) (hK : ∀ M', Inv T M' → K M') : f_L_lockWait p M (fun r2 M1 => f_X13_lockWait p M1 (fun r4 M3 => LawE K r2 r4 M3)) := by
  unfold f_L_lockWait f_X12_lockWait
  obtain ⟨ci, di, nx, h, g1, -⟩ := id g
  have w := g1.2.2.2.2.2.1
  have n16 := w.np16
  refine c_sectAt g1 (fun j hj ep => some_ok (iSec_at g1 (by omega)) ?_) (fun hp => ⟨rfl, ?_⟩)
  · rw [(g1.2.2.2.2.1.2.1 j (by omega)).1]
    intro M4 e4
    subst e4
    unfold f_X13_lockWait
    have hr4 := rw710 (v := M 700 (10 + j)) g1.rw
    refine m_sect hr4 r710 w.ix w.np3 ?_
    refine m_lacks rfl ?_
    rw [ep, inR_nI hj (by omega)]
    refine cT' rfl ?_
    have hr5 : Rw (u2 (u2 M 710 0 (M 700 (10 + j))) 699 8 (bi (!true))) 700 := Rw.u _ _ (by decide) hr4
    refine ⟨hr5.v' rfl, vlt (n10 j) (by omega) (by decide), ?_⟩
    rw [hr5.rd' rfl (n10 j) (by omega), r8, r710]
    exact finT g hK
  · unfold f_X13_lockWait
    refine m_sect g1.rw rfl w.ix w.np3 ?_
    refine m_lacks rfl ?_
    rw [hp]
    exact cN' (by decide) (finF g hK)
end TELL
