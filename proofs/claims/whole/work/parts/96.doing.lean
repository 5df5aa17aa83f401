/-! the script's doing: pure, and one command in both -/
def ok1 (A : Nat → Int32) (v : Nat) (R : Nat → Int32) : Bool := if v = 0 then okS R (A 1) (A 2) else if v = 1 then okO R (A 1) else if v = 2 then okT R (A 1) (A 2) else if v = 3 then okD R (A 1) else if v = 4 then okF R (A 1) (A 2) else if v = 5 then okG R (A 1) else if v = 6 then okW R (A 1) else decide (¬ (10000 : Int32) < R 0 + A 1)
def do1 (A : Nat → Int32) (v : Nat) (R : Nat → Int32) : Nat → Int32 := if v = 0 then aSail R (A 1).toNatClampNeg (A 2) else if v = 1 then aOrder R (A 1) (A 2) (A 3) (A 4) else if v = 2 then aTake R (A 1).toNatClampNeg (A 2).toNatClampNeg else if v = 3 then aDrop R (A 1).toNatClampNeg else if v = 4 then aFlour R (A 1).toNatClampNeg (A 2) else if v = 5 then aGather R (A 1).toNatClampNeg else if v = 6 then aWash R (A 1).toNatClampNeg else pmN (A 1).toNatClampNeg R
abbrev ZZ := (Nat → Int32) × Nat
def vbC (C : CmT) (i : Nat) : Nat := (C i 0).toNatClampNeg
def dL (C : CmT) (rep : Nat → ZZ → Bool × ZZ) : Nat → Nat → Nat → ZZ → Bool × ZZ
  | 0, _, _, z => (true, z)
  | f + 1, i, b, z => if b ≤ i then (true, z) else if C i 0 = 8 then (if (rep i z).1 = true then dL C rep f (C i 5).toNatClampNeg b (rep i z).2 else (false, (rep i z).2)) else if ok1 (C i) (vbC C i) z.1 = true then dL C rep f (i + 1) b (do1 (C i) (vbC C i) z.1, z.2 + 1) else (false, z)
def dI (blk : ZZ → Bool × ZZ) : Nat → ZZ → Bool × ZZ
  | 0, z => (true, z)
  | m + 1, z => if (blk z).1 = true then dI blk m (blk z).2 else (false, (blk z).2)
def dR (C : CmT) : Nat → Nat → ZZ → Bool × ZZ
  | 0, _, z => (false, z)
  | l + 1, i, z => dI (fun z => dL C (dR C l) 21 (i + 1) (C i 5).toNatClampNeg z) (C i 1).toNatClampNeg z
def StC : Nat → Nat
  | 0 => 1
  | l + 1 => 5 * (21 * StC l)
section DOING
variable {A : Nat → Int32} {T U : Nat} {y y' : PY} {z : ZZ} {M M1 M2 M' S : TM} {C C' : CmT} {R R' : Nat → Int32} {KV : TM → Prop} {KI : Int32 → TM → Prop} {a b c d e f i j k l m v x' lo hi r : Nat} {p q p1 p2 : Int32}
theorem do1_w (w : WF T R) (nbR : Nb R) (hT : T + 1 < 2 ^ 31) (hv : v < 8) (h7 : v = 7 → ∃ m, m < 1000 ∧ A 1 = nI m) (ok : ok1 A v R = true) : WF (T + 1) (do1 A v R) ∧ Nb (do1 A v R) := by
  have n5 := w.nb5
  have n30 := w.no30
  have n16 := w.np16
  have up : T ≤ T + 1 := Nat.le_succ T
  have hv' : v = 0 ∨ v = 1 ∨ v = 2 ∨ v = 3 ∨ v = 4 ∨ v = 5 ∨ v = 6 ∨ v = 7 := by omega
  rcases hv' with rfl | rfl | rfl | rfl | rfl | rfl | rfl | rfl
  · refine ⟨WF.mono up (wf_sail w ok), ?_⟩
    have e2 : nb (aSail R (A 1).toNatClampNeg (A 2)) = nb R := by unfold nb aSail sB; rw [up_n (by omega)]
    exact ⟨by show 1 ≤ nb (aSail R (A 1).toNatClampNeg (A 2)); rw [e2]; exact nbR.1, lk_sail ok nbR.2 n5⟩
  · exact ⟨WF.mono up (wf_order w ok), (sm_order (R := R)).nbN n5 nbR⟩
  · obtain ⟨b, o, hb, ho, e1, e2, h4, hh⟩ := okT_of w (show okT R (A 1) (A 2) = true from ok)
    show WF (T + 1) (aTake R (A 1).toNatClampNeg (A 2).toNatClampNeg) ∧ Nb (aTake R (A 1).toNatClampNeg (A 2).toNatClampNeg)
    rw [e1, e2, nI_clamp (by omega), nI_clamp (by omega)]
    exact ⟨wf_take w hT hb ho h4 hh, (sm_take (R := R)).nbN n5 nbR⟩
  · obtain ⟨o, ho, e1, hh⟩ := okD_of w (show okD R (A 1) = true from ok)
    show WF (T + 1) (aDrop R (A 1).toNatClampNeg) ∧ Nb (aDrop R (A 1).toNatClampNeg)
    rw [e1, nI_clamp (by omega)]
    exact ⟨WF.mono up (wf_drop w ho hh), (sm_drop (R := R)).nbN n5 nbR⟩
  · have ok' : okF R (A 1) (A 2) = true := ok
    obtain ⟨b, hb, e1⟩ := inR_of (p := A 1) (n := nb R) (by omega) (by unfold okF at ok'; exact (Bool.and_eq_true_iff.1 ok').1)
    refine ⟨WF.mono up (wf_flour w ok'), (sm_flour (R := R) ?_).nbN n5 nbR⟩
    rw [e1, nI_clamp (by omega)]
    omega
  · have ok' : okG R (A 1) = true := ok
    obtain ⟨b, hb, e1⟩ := inR_of (p := A 1) (n := nb R) (by omega) (by unfold okG at ok'; exact (Bool.and_eq_true_iff.1 ok').1)
    have hpl := (w.2.1 b hb).ePl.2
    refine ⟨WF.mono up (wf_gather w ok'), (sm_gather (R := R) ?_ ?_).nbN n5 nbR⟩
    · rw [e1, nI_clamp (by omega)]
      omega
    · rw [e1, nI_clamp (by omega)]
      omega
  · have ok' : okW R (A 1) = true := ok
    obtain ⟨b, hb, e1⟩ := inR_of (p := A 1) (n := nb R) (by omega) (by unfold okW at ok'; exact (Bool.and_eq_true_iff.1 ok').1)
    refine ⟨WF.mono up (wf_wash w ok'), (sm_wash (R := R) ?_).nbN n5 nbR⟩
    rw [e1, nI_clamp (by omega)]
    omega
  · exact ⟨WF.mono up (pmN_w w _).1, nb_pmN w nbR _⟩
/-- the class: may it be done -/
theorem sel8 (hv : v < 8) {k : Nat} (hk : k < 10) {P : Prop} (h : v + 1 = k → P) : nI v + 1 = nI k → P := fun e => h (nI_inj (by omega) (by omega) (by rw [nI_1] at e; exact e))
theorem c_poss (w : WF T R) (rl : RelC c M R) (hv : v < 8) (h0 : M a 0 = nI v) (hA : ∀ j, j < (nl v).length → M a (1 + j) = A (1 + j)) (hK : KI (bi (ok1 A v R)) M) : f_X8_isPossible c a M KI := by
  unfold f_X8_isPossible
  rw [h0]
  have hv' : v = 0 ∨ v = 1 ∨ v = 2 ∨ v = 3 ∨ v = 4 ∨ v = 5 ∨ v = 6 ∨ v = 7 := by omega
  have a1 : M a 1 = A 1 := hA 0 (by
    obtain ⟨x, l, e⟩ := nl_ne v
    rw [e]
    exact Nat.succ_pos _)
  have a2 : v = 0 ∨ v = 2 ∨ v = 4 → M a 2 = A 2 := fun h => hA 1 (by rcases h with rfl | rfl | rfl <;> decide)
  refine ⟨vp_in_nI (by omega) (by decide), vp_in_nI (by omega) (by decide), sel8 hv (k := 1) (by decide) (fun e => ?_), sel8 hv (k := 2) (by decide) (fun e => ?_), sel8 hv (k := 3) (by decide) (fun e => ?_), sel8 hv (k := 4) (by decide) (fun e => ?_), sel8 hv (k := 5) (by decide) (fun e => ?_), sel8 hv (k := 6) (by decide) (fun e => ?_), sel8 hv (k := 7) (by decide) (fun e => ?_), sel8 hv (k := 8) (by decide) (fun e => ?_), fun n1 n2 n3 n4 n5 n6 n7 n8 => ?_⟩
  · have ev : v = 0 := by omega
    subst ev
    rw [a1, a2 (by omega)]
    exact c_canSail w rl hK
  · have ev : v = 1 := by omega
    subst ev
    rw [a1]
    exact c_canAddOrder w rl hK
  · have ev : v = 2 := by omega
    subst ev
    rw [a1, a2 (by omega)]
    exact c_canGive w rl hK
  · have ev : v = 3 := by omega
    subst ev
    rw [a1]
    exact c_canReopen w rl hK
  · have ev : v = 4 := by omega
    subst ev
    rw [a1, a2 (by omega)]
    exact c_canLoadFlour w rl hK
  · have ev : v = 5 := by omega
    subst ev
    rw [a1]
    exact c_canGather w rl hK
  · have ev : v = 6 := by omega
    subst ev
    rw [a1]
    exact c_isInHarbor w rl hK
  · have ev : v = 7 := by omega
    subst ev
    unfold f_X2_canPass
    rw [a1, rl.1.2.2.2.1]
    have e7 : ok1 A 7 R = decide (¬ (10000 : Int32) < R 0 + A 1) := rfl
    rw [e7] at hK
    refine ⟨fun c1 => ?_, fun c1 => ?_⟩
    · rw [decide_eq_false (fun e => e c1)] at hK
      exact hK
    · rw [decide_eq_true c1] at hK
      exact hK
  · exfalso
    rcases hv' with rfl | rfl | rfl | rfl | rfl | rfl | rfl | rfl
    · exact n1 rfl
    · exact n2 rfl
    · exact n3 rfl
    · exact n4 rfl
    · exact n5 rfl
    · exact n6 rfl
    · exact n7 rfl
    · exact n8 rfl
theorem c_exec (w : WF T R) (hT : T < 2 ^ 31) (rl : RelC c M R) (hv : v < 8) (h7 : v = 7 → ∃ m, m < 1000 ∧ A 1 = nI m) (h0 : M a 0 = nI v) (hA : ∀ j, j < (nl v).length → M a (1 + j) = A (1 + j)) (ok : ok1 A v R = true) (hK : ∀ M', FrC c M M' → RelC c M' (do1 A v R) → KV M') : f_X8_execute c a M KV := by
  unfold f_X8_execute
  have n5 := w.nb5
  have n30 := w.no30
  rw [h0]
  have hv' : v = 0 ∨ v = 1 ∨ v = 2 ∨ v = 3 ∨ v = 4 ∨ v = 5 ∨ v = 6 ∨ v = 7 := by omega
  have a1 : M a 1 = A 1 := hA 0 (by
    obtain ⟨x, l, e⟩ := nl_ne v
    rw [e]
    exact Nat.succ_pos _)
  have a2 : v = 0 ∨ v = 1 ∨ v = 2 ∨ v = 4 → M a 2 = A 2 := fun h => hA 1 (by rcases h with rfl | rfl | rfl | rfl <;> decide)
  refine ⟨vp_in_nI (by omega) (by decide), vp_in_nI (by omega) (by decide), sel8 hv (k := 1) (by decide) (fun e => ?_), sel8 hv (k := 2) (by decide) (fun e => ?_), sel8 hv (k := 3) (by decide) (fun e => ?_), sel8 hv (k := 4) (by decide) (fun e => ?_), sel8 hv (k := 5) (by decide) (fun e => ?_), sel8 hv (k := 6) (by decide) (fun e => ?_), sel8 hv (k := 7) (by decide) (fun e => ?_), sel8 hv (k := 8) (by decide) (fun e => ?_), fun n1 n2 n3 n4 n5 n6 n7 n8 => ?_⟩
  · have ev : v = 0 := by omega
    subst ev
    rw [a1, a2 (by omega)]
    exact c_setTarget w rl ok hK
  · have ev : v = 1 := by omega
    subst ev
    rw [a1, a2 (by omega), show M a 3 = A 3 from hA 2 (by decide), show M a 4 = A 4 from hA 3 (by decide)]
    exact c_addOrder w rl ok hK
  · have ev : v = 2 := by omega
    subst ev
    obtain ⟨b, o, hb, ho, e1, e2, h4, hh⟩ := okT_of w (show okT R (A 1) (A 2) = true from ok)
    rw [a1, a2 (by omega), e1, e2]
    refine c_give w hT rl hb ho h4 hh (fun M' f' r' => hK M' f' ?_)
    show RelC c M' (aTake R (A 1).toNatClampNeg (A 2).toNatClampNeg)
    rw [e1, e2, nI_clamp (by omega), nI_clamp (by omega)]
    exact r'
  · have ev : v = 3 := by omega
    subst ev
    obtain ⟨o, ho, e1, hh⟩ := okD_of w (show okD R (A 1) = true from ok)
    rw [a1, e1]
    refine c_reopen w rl ho hh (fun M' f' r' => hK M' f' ?_)
    show RelC c M' (aDrop R (A 1).toNatClampNeg)
    rw [e1, nI_clamp (by omega)]
    exact r'
  · have ev : v = 4 := by omega
    subst ev
    rw [a1, a2 (by omega)]
    exact c_loadFlour w rl ok hK
  · have ev : v = 5 := by omega
    subst ev
    rw [a1]
    exact c_gather w rl ok hK
  · have ev : v = 6 := by omega
    subst ev
    rw [a1]
    exact c_clean_op w rl ok hK
  · have ev : v = 7 := by omega
    subst ev
    obtain ⟨m, hm, e1⟩ := h7 rfl
    rw [a1]
    refine c_pass w rl e1 hm (fun M' f' r' => hK M' f' ?_)
    show RelC c M' (pmN (A 1).toNatClampNeg R)
    rw [e1, nI_clamp (by omega)]
    exact r'
  · exfalso
    rcases hv' with rfl | rfl | rfl | rfl | rfl | rfl | rfl | rfl
    · exact n1 rfl
    · exact n2 rfl
    · exact n3 rfl
    · exact n4 rfl
    · exact n5 rfl
    · exact n6 rfl
    · exact n7 rfl
    · exact n8 rfl
/-- the model does one command -/
theorem m_does (hr : Rw S 700) (hR : S 700 = R) (w : WF T R) (hT : T + 1 < 2 ^ 31) (hv : v < 8) (hi : i < 20) (h7 : v = 7 → ∃ m, m < 1000 ∧ A 1 = nI m) (h0 : S 708 (5 * i) = nI v) (hA : ∀ j, j < (nl v).length → S 708 (5 * i + (1 + j)) = A (1 + j)) (hK0 : ok1 A v R = true → ∀ q, KI 0 (uR (u2 S 699 10 q) 700 (do1 A v R))) (hK1 : ok1 A v R = false → ∀ q, ¬ q = 0 → KI q S) : f_X13_does (nI (5 * i)) S KI := by
  unfold f_X13_does
  rw [nI_1, p2n, p3n, p4n, nI_clamp (n := 5 * i) (by omega), nI_clamp (n := 5 * i + 1) (by omega), nI_clamp (n := 5 * i + 2) (by omega), nI_clamp (n := 5 * i + 3) (by omega), nI_clamp (n := 5 * i + 4) (by omega), h0]
  have hv' : v = 0 ∨ v = 1 ∨ v = 2 ∨ v = 3 ∨ v = 4 ∨ v = 5 ∨ v = 6 ∨ v = 7 := by omega
  have a1 : S 708 (5 * i + 1) = A 1 := hA 0 (by
    obtain ⟨x, l, e⟩ := nl_ne v
    rw [e]
    exact Nat.succ_pos _)
  have a2 : v = 0 ∨ v = 1 ∨ v = 2 ∨ v = 4 → S 708 (5 * i + 2) = A 2 := fun h => hA 1 (by rcases h with rfl | rfl | rfl | rfl <;> decide)
  have bad : ∀ q : Int32, ¬ q = 0 → ok1 A v R = false → KI q (uR S 700 R) := fun q hq h => by rw [uR_self hR]; exact hK1 h q hq
  have at' : ∀ {k : Nat} {P : Prop}, k < 10 → (v = k → P) → (nI v = nI k → P) := fun {k} {P} hk hP e => hP (nI_inj (by omega) (by omega) e)
  refine ⟨vp_in_nI (by omega) (by decide), vp_in_nI (by omega) (by decide), vp_in_nI (by omega) (by decide), at' (k := 0) (by decide) (fun e => ?_), at' (k := 1) (by decide) (fun e => ⟨vp_in_nI (by omega) (by decide), vp_in_nI (by omega) (by decide), ?_⟩), at' (k := 2) (by decide) (fun e => ?_), at' (k := 3) (by decide) (fun e => ?_), at' (k := 4) (by decide) (fun e => ?_), at' (k := 5) (by decide) (fun e => ?_), at' (k := 6) (by decide) (fun e => ?_), fun n0 n1 n2 n3 n4 n5 n6 => ?_⟩
  · subst e
    rw [a1, a2 (by omega)]
    refine atS hR (F := fun S => f_X13_doSail (A 1) (A 2) S _) ?_
    refine m_doSail hr w (fun e => bad 1 (by decide) (by show okS R (A 1) (A 2) = false; unfold okS; rw [e]; rfl)) (fun _ e => bad 2 (by decide) e) (fun e => hK0 e _)
  · subst e
    rw [a1, a2 (by omega), show S 708 (5 * i + 3) = A 3 from hA 2 (by decide), show S 708 (5 * i + 4) = A 4 from hA 3 (by decide)]
    refine atS hR (F := fun S => f_X13_doOrder (A 1) (A 2) (A 3) (A 4) S _) ?_
    refine m_doOrder hr w (fun e => bad 1 (by decide) (by show okO R (A 1) = false; unfold okO; rw [e]; rfl)) (fun _ e => bad 3 (by decide) e) (fun e => hK0 e _)
  · subst e
    rw [a1, a2 (by omega)]
    refine atS hR (F := fun S => f_X13_doTake (A 1) (A 2) S _) ?_
    refine m_doTake hr w hT (fun e => bad 1 (by decide) (by show okT R (A 1) (A 2) = false; unfold okT; rw [e]; rfl)) (fun _ e => bad 2 (by decide) e) (fun e => hK0 e _)
  · subst e
    rw [a1]
    refine atS hR (F := fun S => f_X13_doDrop (A 1) S _) ?_
    refine m_doDrop hr w (fun e => bad 1 (by decide) (by show okD R (A 1) = false; unfold okD; rw [e]; rfl)) (fun _ e => bad 2 (by decide) e) (fun e => hK0 e _)
  · subst e
    rw [a1, a2 (by omega)]
    refine atS hR (F := fun S => f_X13_doFlour (A 1) (A 2) S _) ?_
    refine m_doFlour hr w (fun e => bad 1 (by decide) (by show okF R (A 1) (A 2) = false; unfold okF; rw [e]; rfl)) (fun _ e => bad 3 (by decide) e) (fun e => hK0 e _)
  · subst e
    rw [a1]
    refine atS hR (F := fun S => f_X13_doCollect (A 1) S _) ?_
    refine m_doCollect hr w (fun e => bad 1 (by decide) (by show okG R (A 1) = false; unfold okG; rw [e]; rfl)) (fun _ e => bad 2 (by decide) e) (fun e => hK0 e _)
  · subst e
    rw [a1]
    refine atS hR (F := fun S => f_X13_doWash (A 1) S _) ?_
    refine m_doWash hr w (fun e => bad 1 (by decide) (by show okW R (A 1) = false; unfold okW; rw [e]; rfl)) (fun _ e => bad 2 (by decide) e) (fun e => hK0 e _)
  · have ev : v = 7 := by
      rcases hv' with rfl | rfl | rfl | rfl | rfl | rfl | rfl | rfl
      · exact absurd rfl n0
      · exact absurd rfl n1
      · exact absurd rfl n2
      · exact absurd rfl n3
      · exact absurd rfl n4
      · exact absurd rfl n5
      · exact absurd rfl n6
      · rfl
    subst ev
    obtain ⟨m, hm, e1⟩ := h7 rfl
    have e7 : ok1 A 7 R = decide (¬ (10000 : Int32) < R 0 + A 1) := rfl
    rw [a1]
    refine m_doWait hr hR w e1 hm (fun c1 => hK1 (by rw [e7]; exact decide_eq_false (fun c2 => c1 (Int32.not_lt.1 c2))) 2 (by decide)) (fun c1 => ?_)
    have := hK0 (by rw [e7]; exact decide_eq_true (Int32.not_lt.2 c1)) (nI (cIn (pmN m R) 3) - nI (cIn R 3))
    have e8 : do1 A 7 R = pmN m R := by
      show pmN (A 1).toNatClampNeg R = pmN m R
      rw [e1, nI_clamp (by omega)]
    rw [e8] at this
    exact this
end DOING
