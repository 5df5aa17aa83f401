/-! p65: what one act of the law does, as a function of the script's number and the row -/
def mo (v : Int32) (n : Nat) : Nat := (v.toBitVec.toNat % 2 ^ 31) % n
def vU (v : Int32) : Int32 := v >>> ((4 : Int32) &&& 31)
def vB (v : Int32) (R : Nat → Int32) : Nat := mo (vU v) (nb R)
def vT (v : Int32) (R : Nat → Int32) : Nat := mo (vU v >>> ((2 : Int32) &&& 31)) (np R)
def vO (v : Int32) (R : Nat → Int32) : Nat := mo (vU v >>> ((3 : Int32) &&& 31)) (no R)
def vM (v : Int32) : Nat := 1 + mo (vU v) (if mo (vU v >>> ((3 : Int32) &&& 31)) 4 = 0 then 60 else 7)
def aA (v : Int32) (R : Nat → Int32) : Option (Nat → Int32) := if obs R (vB v R) (vT v R) = 0 then some (aSail R (vB v R) (nI (vT v R))) else none
def aB (v : Int32) (R : Nat → Int32) : Option (Nat → Int32) := if no R = 30 then none else some (aOrder R (nI (vT v R)) (1 + nI (mo (vU v) 4)) (1 + nI (mo (vU v >>> ((3 : Int32) &&& 31)) 6)) (1 + nI (mo (vU v >>> ((4 : Int32) &&& 31)) 60)))
def aC (v : Int32) (R : Nat → Int32) : Option (Nat → Int32) := if og R (vO v R) 4 = 0 then (if held R (vB v R) = 4 then none else some (aTake R (vB v R) (vO v R))) else none
def aD (v : Int32) (R : Nat → Int32) : Option (Nat → Int32) := if isHeld R (vO v R) = true then some (aDrop R (vO v R)) else none
def aE (v : Int32) (R : Nat → Int32) : Option (Nat → Int32) := if free R (vB v R) 0 = true then (if (99 : Int32) < bg R (vB v R) 3 + (1 + nI (mo (vU v) 20)) then none else some (aFlour R (vB v R) (1 + nI (mo (vU v) 20)))) else none
def aF (v : Int32) (R : Nat → Int32) : Option (Nat → Int32) := if inL R (vB v R) = true then none else some (aGather R (vB v R))
def aG (v : Int32) (R : Nat → Int32) : Option (Nat → Int32) := if free R (vB v R) 0 = true then some (aWash R (vB v R)) else none
def aOpt (v : Int32) (R : Nat → Int32) : Option (Nat → Int32) := if mo v 24 < 6 then aA v R else if mo v 24 < 8 then aB v R else if no R = 0 then aB v R else if mo v 24 < 12 then aC v R else if mo v 24 = 12 then aD v R else if mo v 24 < 15 then aE v R else if mo v 24 < 17 then aF v R else if mo v 24 = 17 then aG v R else some (pmN (vM v) R)
section ACT1
variable {M M1 M' L L' : TM} {T U P m0 n : Nat} {K KI : Int32 → TM → Prop} {p q u v : Int32} {R R' S : Nat → Int32} {a b c d e f j k h ci di t o m : Nat} {hr : Nat → Nat → Int32} {sb : Bool}
theorem mo_lt (h : 0 < n) : mo v n < n := Nat.mod_lt _ h
theorem r_most (e : q = nI n) (h0 : 0 < n) (hn : n < 2 ^ 31) (hK : KI (nI (mo p n)) M) : f_L_most p q M KI := by
  unfold f_L_most
  subst e
  refine ⟨nI_ne0 h0 hn, ?_⟩
  rw [pk_and p 31 (by decide), pk_rem (Nat.mod_lt _ (by decide)) h0 hn]
  exact hK
theorem pairs_P (w : WF T R) (gd : Gd P m0 R) : sN (fun b => cl R b + dt R b) (nb R) + sN (us R) (np R) = P := by
  have wz := w.1.2.2.2.2.2.2.2
  rw [← gd.1.2.2.2.1, sN_tail 16 w.np16 (fun k h1 h2 => by unfold us; rw [(wz k h1 h2).1]; rfl)]
theorem r_pairs (g : PV L T R h hr sb S M) (gd : Gd P m0 R) (hK : KI (nI P) M) : f_L_pairs M KI := by
  have w := g.w
  have n5 := w.nb5
  have n16 := w.np16
  have e2 : R 2 = nI (nb R) := w.1.1.2.1.1
  have e1 : R 1 = nI (np R) := w.1.1.1.1
  have g2 := gd.1.2.1
  have g3 := gd.1.2.2.1
  unfold f_L_pairs
  have l34 : ∀ n k, k + n = np R → f_L_pairs_L34 KI (n + 1) (nI (sN (fun b => cl R b + dt R b) (nb R) + sN (us R) k)) (nI k) M := by
    intro n
    induction n with
    | zero =>
      intro k hn
      have : k = np R := by omega
      subst this
      unfold f_L_pairs_L34
      refine t_placeCount g ?_
      refine cT' (by rw [e1]; exact nI_le (Nat.le_refl _) (by omega)) ?_
      rw [pairs_P w gd]
      exact hK
    | succ n ih =>
      intro k hn
      unfold f_L_pairs_L34
      refine t_placeCount g ?_
      refine cN' (by rw [e1]; exact nI_ge (by omega) (by omega)) ?_
      refine t_usedPairs g rfl (by omega) ?_
      rw [g3 k (by omega), nI_add, nI_1]
      have := ih (k + 1) (by omega)
      rw [show sN (us R) (k + 1) = sN (us R) k + us R k from rfl, ← Nat.add_assoc] at this
      exact this
  have l4 : ∀ n k, k + n = nb R → f_L_pairs_L4 KI (n + 1) (nI (sN (fun b => cl R b + dt R b) k)) (nI k) M := by
    intro n
    induction n with
    | zero =>
      intro k hn
      have : k = nb R := by omega
      subst this
      unfold f_L_pairs_L4
      refine t_bargeCount g ?_
      refine cT' (by rw [e2]; exact nI_le (Nat.le_refl _) (by omega)) ?_
      exact ⟨_, l34 (np R) 0 (by omega)⟩
    | succ n ih =>
      intro k hn
      unfold f_L_pairs_L4
      have hk : k < nb R := by omega
      refine t_bargeCount g ?_
      refine cN' (by rw [e2]; exact nI_ge hk (by omega)) ?_
      refine t_cleanPairs g rfl hk ?_
      refine t_dirtyPairs g rfl hk ?_
      rw [(g2 k hk).1, (g2 k hk).2, nI_add, nI_add, nI_1]
      exact ih (k + 1) (by omega)
  exact ⟨_, l4 (nb R) 0 (by omega)⟩
end ACT1
