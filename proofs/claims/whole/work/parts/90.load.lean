/-! loadCanal -/
def s0 (T : Nat → Nat) (n : Nat) : PS := (0, 0, scB T n 0, scE T n 0, scK T n 0)
def tx (M : TM) (i : Nat) : Nat := (M 707 i).toNatClampNeg
def NLb (R : Nat → Int32) : Prop := ∀ b, b < nb R → bg R b 6 = 0
section LOAD
variable {c' : Bool} {i : Nat} {M M1 M' S S' : TM} {T : Nat → Nat} {U t V : Nat} {K : TM → Prop} {KI KL : Int32 → TM → Prop} {KV : TM → Prop} {X : String → TM → Prop} {p q u v z : Int32} {R R' : Nat → Int32} {x : PR} {s : PS} {a b c d e f j k m x' h nx ci di r o n what : Nat}
theorem s0_w (T : Nat → Nat) (hn : n ≤ 500) : Ws T n (s0 T n) := ⟨hn, show (0 : Nat) < 10 by decide, ⟨0, Nat.zero_le _, rfl, rfl, rfl⟩⟩
/-- both begin with the text -/
theorem c_begin (h2 : ∀ i, i < n → (T i < 128 → M 2 i = nI (T i)) ∧ (128 ≤ T i → M 2 i < 0) ∧ T i < 256) (hn : n ≤ 500) (e1 : p = nI n) (hK : ∀ M', (∀ i, i ≠ 1 → M' i = M i) → (∀ j, j < 2 → M' 1 j = M 1 j) → PC M' T n (s0 T n) → KV M') : f_X10_begin p M KV := by
  subst e1
  unfold f_X10_begin
  have e5 : ¬ (500 : Int32) < nI n := nI_nlt (a := 500) (b := n) hn (by decide)
  rw [if_neg e5]
  intro M1 e1 M2 e2 M3 e3 M4 e4
  have f4 : ∀ i, i ≠ 1 → M4 i = M i := fun i hi => by rw [e4, u2_n hi, e3, u2_n hi, e2, u2_n hi, e1, u2_n hi]
  have j4 : ∀ j, j < 2 → M4 1 j = M 1 j := fun j hj => by rw [e4, u2_f (by omega), e3, u2_f (by omega), e2, u2_f (by omega), e1, u2_f (by omega)]
  have h12 : M4 1 2 = nI n := by rw [e4, u2_f (by decide), e3, u2_f (by decide), e2, u2_f (by decide), e1, u2_s]
  have h15 : M4 1 5 = nI 0 := by rw [e4, u2_f (by decide), e3, u2_f (by decide), e2, u2_s]; rfl
  have h16 : M4 1 6 = 0 := by rw [e4, u2_f (by decide), e3, u2_s]
  have h17 : M4 1 7 = -1 := by rw [e4, u2_s]
  have hc : CTx M4 T n := ⟨h12, hn, fun i hi => by rw [f4 2 (by decide)]; exact h2 i hi⟩
  refine c_advance hc h15 (Nat.zero_le _) (fun M5 g => ?_)
  obtain ⟨g1, g2, g3, g4, g5⟩ := g
  refine hK M5 (fun i hi => by rw [g1 i hi, f4 i hi]) (fun j hj => by rw [g2 j (by omega) (by omega) (by omega), j4 j hj]) ⟨hc.of (g2 2 (by decide) (by decide) (by decide)) (g1 2 (by decide)), by rw [g2 6 (by decide) (by decide) (by decide)]; exact h16, fun hne => absurd rfl hne, fun _ => ⟨by rw [g2 7 (by decide) (by decide) (by decide)]; exact h17, g4, g3, ?_⟩⟩
  rw [g5, scC_k]
  rfl
theorem m_start (h7 : ∀ i, i < n → M 707 i = nI (T i) ∧ T i < 256) (hn : n ≤ 500) (e1 : p = nI n) (hK : ∀ M', (∀ i, i ≠ 699 → M' i = M i) → (∀ j, j < 16 ∨ 24 ≤ j ∨ j = 22 → M' 699 j = M 699 j) → PM M' T n (s0 T n) → KV M') : f_X13_startText p M KV := by
  subst e1
  unfold f_X13_startText
  intro M1 e1 M2 e2 M3 e3 M4 e4
  have f4 : ∀ i, i ≠ 699 → M4 i = M i := fun i hi => by rw [e4, u2_n hi, e3, u2_n hi, e2, u2_n hi, e1, u2_n hi]
  have j4 : ∀ j, j < 16 ∨ 24 ≤ j ∨ j = 22 → M4 699 j = M 699 j := fun j hj => by rw [e4, u2_f (by omega), e3, u2_f (by omega), e2, u2_f (by omega), e1, u2_f (by omega)]
  have h16 : M4 699 16 = nI n := by rw [e4, u2_f (by decide), e3, u2_f (by decide), e2, u2_f (by decide), e1, u2_s]
  have h17 : M4 699 17 = nI 0 := by rw [e4, u2_f (by decide), e3, u2_f (by decide), e2, u2_s]; rfl
  have h20 : M4 699 20 = 0 := by rw [e4, u2_f (by decide), e3, u2_s]
  have hm : MT M4 T n := ⟨h16, hn, fun i hi => by rw [f4 707 (by decide)]; exact h7 i hi⟩
  refine m_scan hm h17 (Nat.zero_le _) (fun M5 g => ?_)
  obtain ⟨g1, g2, g3, g4, g5⟩ := g
  exact hK M5 (fun i hi => by rw [g1 i hi, f4 i hi]) (fun j hj => by rw [g2 j (by omega) (by omega) (by omega), j4 j hj]) ⟨hm.of (g2 16 (by decide) (by decide) (by decide)) (g1 707 (by decide)), by rw [g2 20 (by decide) (by decide) (by decide)]; exact h20, g3, g4, g5, fun hne => absurd rfl hne⟩
/-- the text of both -/
theorem txt_T (g : Txt M) : ∃ f, f ≤ 500 ∧ M 1 1 = nI f ∧ M 699 15 = nI f ∧ ∀ i, i < f → ((tx M i < 128 → M 2 i = nI (tx M i)) ∧ (128 ≤ tx M i → M 2 i < 0) ∧ tx M i < 256) ∧ M 707 i = nI (tx M i) := by
  obtain ⟨f, t1, t2, t3, t4, -⟩ := g
  refine ⟨f, t1, t2, t3, fun i hi => ?_⟩
  obtain ⟨v, v1, v2, v3, v4⟩ := t4 i hi
  have e : tx M i = v := by unfold tx; rw [v2, nI_clamp (by omega)]
  rw [e]
  exact ⟨⟨v3, v4, v1⟩, v2⟩
theorem c_reqText (h1 : M 1 1 = nI f) (hf : f ≤ 500) (hK : ∀ l, l ≤ f → p = nI l → KV M) (h0 : inR p (f + 1) = false → X "java/lang/IllegalArgumentException" M) : f_X12_requireText p M KV X := by
  unfold f_X12_requireText
  rw [h1]
  refine ⟨fun c1 => h0 (decide_eq_false (fun c2 => absurd c1 (Int32.not_lt.2 c2.1))), fun c1 => ⟨fun c2 => ?_, fun c2 => h0 (decide_eq_false (fun c3 => c2 ?_))⟩⟩
  · obtain ⟨l, h3, h4⟩ := rng_of (lo := 0) (by decide) (Int32.not_lt.1 c1) c2 (by omega)
    exact hK l (by omega) h4
  · obtain ⟨l, h3, h4⟩ := inR_of (p := p) (n := f + 1) (by omega) (decide_eq_true c3)
    rw [h4]
    exact nI_le (by omega) (by omega)
theorem m_isLen (h1 : M 699 15 = nI f) (hf : f ≤ 500) (hK : KI (bi (inR p (f + 1))) M) : f_X13_isLength p M KI := by
  unfold f_X13_isLength
  rw [h1]
  refine m_inRange ?_
  refine K_of (K := KI) hK ?_
  congr 1
  refine decide_eq_decide.2 ⟨fun c => ⟨c.1, ?_⟩, fun c => ⟨c.1, Int32.lt_of_le_of_lt c.2 (nI_lt (by omega) (by omega))⟩⟩
  obtain ⟨l, h3, h4⟩ := inR_of (p := p) (n := f + 1) (by omega) (decide_eq_true c)
  rw [h4]
  exact nI_le (by omega) (by omega)
/-- the model ends its reading -/
theorem m_faulty (h : PM M T n s) (w : Ws T n s) (h0 : pe s = 0 → ∀ M', (∀ i, i ≠ 699 → M' i = M i) → (∀ j, j ≠ 9 → j ≠ 15 → j ≠ 22 → M' 699 j = M 699 j) → M' 699 15 = 0 → M' 699 9 = nI (pe s) → M' 699 22 = -1 → KI 0 M') (h1 : pe s ≠ 0 → ∀ M', (∀ i, i ≠ 699 → M' i = M i) → (∀ j, j ≠ 9 → j ≠ 15 → j ≠ 22 → M' 699 j = M 699 j) → M' 699 15 = 0 → M' 699 9 = nI (pe s) → M' 699 22 = nI (pa s) → KI 1 M') : f_X13_isFaulty M KI := by
  obtain ⟨a1, a2, a3, a4, a5, a6⟩ := h
  have w10 := w.2.1
  unfold f_X13_isFaulty f_X13_finish
  intro M1 e1
  have b20 : M1 699 20 = nI (pe s) := by rw [e1, u2_f (by decide)]; exact a2
  by_cases hz : pe s = 0
  · refine cT (by rw [b20, hz]; rfl) ?_
    intro M4 e4 M3 e3
    have c20 : M4 699 20 = nI (pe s) := by rw [e4, u2_f (by decide)]; exact b20
    rw [c20] at e3
    refine cT' (by rw [e3, u2_s, hz]; rfl) ?_
    exact h0 hz M3 (fun i hi => by rw [e3, u2_n hi, e4, u2_n hi, e1, u2_n hi]) (fun j j1 j2 j3 => by rw [e3, u2_f j1, e4, u2_f j3, e1, u2_f j2]) (by rw [e3, u2_f (by decide), e4, u2_f (by decide), e1, u2_s]) (by rw [e3, u2_s]) (by rw [e3, u2_f (by decide), e4, u2_s])
  · have hne : ¬ nI (pe s) = 0 := nI_ne0 (by omega) (by omega)
    refine cN (by rw [b20]; exact hne) ?_
    intro M4 e4 M3 e3
    have c20 : M4 699 20 = nI (pe s) := by rw [e4, u2_f (by decide)]; exact b20
    rw [c20] at e3
    refine cN' (by rw [e3, u2_s]; exact hne) ?_
    exact h1 hz M3 (fun i hi => by rw [e3, u2_n hi, e4, u2_n hi, e1, u2_n hi]) (fun j j1 j2 j3 => by rw [e3, u2_f j1, e4, u2_f j3, e1, u2_f j2]) (by rw [e3, u2_f (by decide), e4, u2_f (by decide), e1, u2_s]) (by rw [e3, u2_s]) (by rw [e3, u2_f (by decide), e4, u2_s, e1, u2_f (by decide)]; exact a6 hz)
end LOAD
