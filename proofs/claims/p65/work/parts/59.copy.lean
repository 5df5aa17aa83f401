/-! a canal is copied; cleared -/
section COPY
variable {i : Nat} {M M' : TM} {r c T k : Nat} {R R' : Nat → Int32} {K : Int32 → TM → Prop} {KV : TM → Prop} {p q u s v : Int32} {a b d o f j t x m n : Nat} {l : List Nat}
theorem cpy0 (f g : Nat → Int32) (h : i < n) : va_cpy f g 0 0 n i = f i := by
  unfold va_cpy
  rw [if_pos (by omega)]
  congr 1
  omega
theorem c_secCopy (hne : a ≠ k) (hK : ∀ M', (∀ i, i ≠ a → M' i = M i) → (∀ f, f < 3 → M' a f = M k f) → KV M') : f_X9_copyFrom a k M KV := by
  unfold f_X9_copyFrom
  intro M1 e1 M2 e2 M3 e3
  subst e3; subst e2; subst e1
  refine hK _ (fun i hi => by simp (disch := omega) only [uR_n]) (fun f hf => ?_)
  rcases (show f = 0 ∨ f = 1 ∨ f = 2 by omega) with rfl | rfl | rfl <;> simp (disch := omega) only [uR_s, uR_n, up_s, up_n]
theorem c_ordCopy (hne : a ≠ k) (hK : ∀ M', (∀ i, i ≠ a → M' i = M i) → (∀ f, f < 8 → f ≠ 5 → M' a f = M k f) → M' a 5 = bz (M k 5) → KV M') : f_X6_copyFrom a k M KV := by
  unfold f_X6_copyFrom
  intro M1 e1 M2 e2 M3 e3 M4 e4 M5 e5 M6 e6 M7 e7 M8 e8
  subst e8; subst e7; subst e6; subst e5; subst e4; subst e3; subst e2; subst e1
  refine hK _ (fun i hi => by simp (disch := omega) only [uR_n]) (fun f hf hf5 => ?_) (by simp (disch := omega) only [uR_s, uR_n, up_s, up_n])
  rcases (show f = 0 ∨ f = 1 ∨ f = 2 ∨ f = 3 ∨ f = 4 ∨ f = 6 ∨ f = 7 by omega) with rfl | rfl | rfl | rfl | rfl | rfl | rfl <;> simp (disch := omega) only [uR_s, uR_n, up_s, up_n]
theorem c_barCopy (hne : a ≠ k) (hne2 : a ≠ k + 1) (hne3 : a + 1 ≠ k) (hK : ∀ M', (∀ i, i ≠ a → i ≠ a + 1 → M' i = M i) → (∀ f, f < 9 → f ≠ 7 → M' a f = M k f) → (∀ i, i < 4 → M' (a + 1) i = M (k + 1) i) → KV M') : f_X1_copyFrom a k M KV := by
  unfold f_X1_copyFrom
  intro M1 e1 M2 e2 M3 e3 M4 e4 M5 e5 M6 e6 M7 e7 M8 e8
  refine ⟨⟨by decide, by decide, by decide, by decide, by decide⟩, ?_⟩
  intro M10 e10
  subst e10; subst e8; subst e7; subst e6; subst e5; subst e4; subst e3; subst e2; subst e1
  refine hK _ (fun i h1 h2 => by simp (disch := omega) only [uR_n]) (fun f hf hf7 => ?_) (fun i hi => ?_)
  · rcases (show f = 0 ∨ f = 1 ∨ f = 2 ∨ f = 3 ∨ f = 4 ∨ f = 5 ∨ f = 6 ∨ f = 8 by omega) with rfl | rfl | rfl | rfl | rfl | rfl | rfl | rfl <;> simp (disch := omega) only [uR_s, uR_n, up_s, up_n]
  · rw [uR_s, show ((0 : Int32)).toNatClampNeg = 0 from rfl, show ((4 : Int32)).toNatClampNeg = 4 from rfl, cpy0 _ _ hi]
    simp (disch := omega) only [uR_n]
theorem c_copy (w : WF T R) (h : RelC c M R) (hd : a + 61 ≤ c ∨ c + 61 ≤ a) (hK : ∀ M', FrC a M M' → RelC a M' R → KV M') : f_X2_copyFrom a c M KV := by
  unfold f_X2_copyFrom
  have h5 := w.nb5
  have h30 := w.no30
  have e2 := w.1.1.2.1.1
  have e3 := w.1.1.2.2.1
  intro M1 e1 M2 e2' M3 e3' M4 e4 M5 e5 M6 e6 M7 e7 M8 e8 M9 e9
  have fr9 : FrC a M M9 := by
    intro i hi
    rw [e9, u2_n (by omega), e8, u2_n (by omega), e7, u2_n (by omega), e6, u2_n (by omega), e5, u2_n (by omega), e4, u2_n (by omega), e3', u2_n (by omega), e2', u2_n (by omega), e1, u2_n (by omega)]
  have sc9 : Sc a M9 R := by
    have hs := h.1
    unfold Sc at hs ⊢
    subst e9; subst e8; subst e7; subst e6; subst e5; subst e4; subst e3'; subst e2'; subst e1
    simp (disch := omega) only [uR_s, uR_n, up_s, up_n]
    exact hs
  clear e1 e2' e3' e4 e5 e6 e7 e8 e9
  have src : ∀ s : TM, FrC a M s → ∀ k, c ≤ k → k < c + 61 → s k = M k := fun s hs k h1 h2 => hs k (by omega)
  -- sections
  refine ⟨_, inv_loop (fun n (s : TM) k => f_X2_copyFrom_L74 a c KV n (nI k) s) (fun k s => FrC a M s ∧ s a = M9 a ∧ ∀ j, j < k → ∀ f, f < 3 → s (a + 6 + j) f = M (c + 6 + j) f) 15 (fun n s hs => ?_) (fun n s k hk hs hL => ?_) 15 0 M9 (Nat.zero_add _) ⟨fr9, rfl, fun j hj => absurd hj (Nat.not_lt_zero _)⟩⟩
  rotate_left
  · obtain ⟨f1, g1, s1⟩ := hs
    rw [f_X2_copyFrom_L74]
    refine cN' (nI_ge (b := 15) hk (by decide)) ⟨vp_in_nI (by omega) (by decide), vp_in_nI (by omega) (by decide), ?_⟩
    rw [nI_clamp (by omega), nI_1]
    refine c_secCopy (by omega) (fun M' m1 m2 => hL M' ⟨fun i hi => by rw [m1 i (by omega)]; exact f1 i hi, by rw [m1 a (by omega)]; exact g1, fun j hj f hf => ?_⟩)
    by_cases e : j = k
    · subst e; rw [m2 f hf, src s f1 _ (by omega) (by omega)]
    · rw [m1 _ (by omega)]; exact s1 j (by omega) f hf
  obtain ⟨f1, g1, s1⟩ := hs
  rw [f_X2_copyFrom_L74]
  refine cT' (nI_le (a := 15) (b := 15) (Nat.le_refl _) (by decide)) ⟨⟨by decide, by decide, by decide, by decide, by decide⟩, ?_⟩
  intro M12 e12
  refine ⟨⟨by decide, by decide, by decide, by decide, by decide⟩, ?_⟩
  intro M14 e14
  rw [show ((0 : Int32)).toNatClampNeg = 0 from rfl, show ((16 : Int32)).toNatClampNeg = 16 from rfl] at e12 e14
  have f14 : FrC a M M14 := fun i hi => by rw [e14, uR_n (by omega), e12, uR_n (by omega)]; exact f1 i hi
  have g14 : M14 a = M9 a := by rw [e14, uR_n (by omega), e12, uR_n (by omega)]; exact g1
  have s14 : ∀ j, j < 15 → ∀ f, f < 3 → M14 (a + 6 + j) f = M (c + 6 + j) f := fun j hj f hf => by rw [e14, uR_n (by omega), e12, uR_n (by omega)]; exact s1 j hj f hf
  have u14 : ∀ j, j < 16 → M14 (a + 2) j = M (c + 2) j ∧ M14 (a + 3) j = M (c + 3) j := fun j hj => by
    constructor
    · rw [e14, uR_n (by omega), e12, uR_s, cpy0 _ _ hj, src s f1 _ (by omega) (by omega)]
    · rw [e14, uR_s, cpy0 _ _ hj, e12, uR_n (by omega), src s f1 _ (by omega) (by omega)]
  clear e14 e12 f1 g1 s1
  -- barges
  have a4 : ∀ s : TM, s a = M9 a → s a 4 = nI (nb R) := fun s hs => by rw [hs, sc9.2.1]; exact e2
  have a6 : ∀ s : TM, s a = M9 a → s a 6 = nI (no R) := fun s hs => by rw [hs, sc9.2.2.1]; exact e3
  refine ⟨_, inv_loop (fun n (s : TM) k => f_X2_copyFrom_L142 a c KV n (nI k) s) (fun k s => FrC a M s ∧ (∀ i, a ≤ i → i < a + 21 → s i = M14 i) ∧ ∀ b, b < k → (∀ f, f < 9 → f ≠ 7 → s (a + 21 + 2 * b) f = M (c + 21 + 2 * b) f) ∧ ∀ i, i < 4 → s (a + 21 + 2 * b + 1) i = M (c + 21 + 2 * b + 1) i) (nb R) (fun n s hs => ?_) (fun n s k hk hs hL => ?_) (nb R) 0 M14 (Nat.zero_add _) ⟨f14, fun _ _ _ => rfl, fun j hj => absurd hj (Nat.not_lt_zero _)⟩⟩
  rotate_left
  · obtain ⟨f1, g1, s1⟩ := hs
    rw [f_X2_copyFrom_L142, a4 s (by rw [g1 a (by omega) (by omega)]; exact g14)]
    refine cN' (nI_ge hk (by omega)) ⟨vp_in_nI (by omega) (by decide), vp_in_nI (by omega) (by decide), ?_⟩
    rw [nI_clamp (by omega), nI_1]
    refine c_barCopy (by omega) (by omega) (by omega) (fun M' m1 m2 m3 => hL M' ⟨fun i hi => by rw [m1 i (by omega) (by omega)]; exact f1 i hi, fun i h1 h2 => by rw [m1 i (by omega) (by omega)]; exact g1 i h1 h2, fun b hb => ?_⟩)
    by_cases e : b = k
    · subst e
      exact ⟨fun f hf h7 => by rw [m2 f hf h7, src s f1 _ (by omega) (by omega)], fun i hi => by rw [m3 i hi, src s f1 _ (by omega) (by omega)]⟩
    · rw [m1 _ (by omega) (by omega), m1 _ (by omega) (by omega)]
      exact s1 b (by omega)
  obtain ⟨f1, g1, s1⟩ := hs
  rw [f_X2_copyFrom_L142, a4 s (by rw [g1 a (by omega) (by omega)]; exact g14)]
  refine cT' (nI_le (Nat.le_refl _) (by omega)) ?_
  -- orders
  refine ⟨_, inv_loop (fun n (s' : TM) k => f_X2_copyFrom_L173 a c KV n (nI k) s') (fun k s' => FrC a M s' ∧ (∀ i, a ≤ i → i < a + 31 → s' i = s i) ∧ ∀ o, o < k → (∀ f, f < 8 → f ≠ 5 → s' (a + 31 + o) f = M (c + 31 + o) f) ∧ s' (a + 31 + o) 5 = bz (M (c + 31 + o) 5)) (no R) (fun n s' hs => ?_) (fun n s' k hk hs hL => ?_) (no R) 0 s (Nat.zero_add _) ⟨f1, fun _ _ _ => rfl, fun j hj => absurd hj (Nat.not_lt_zero _)⟩⟩
  rotate_left
  · obtain ⟨f2, g2, s2⟩ := hs
    rw [f_X2_copyFrom_L173, a6 s' (by rw [g2 a (by omega) (by omega), g1 a (by omega) (by omega)]; exact g14)]
    refine cN' (nI_ge hk (by omega)) ⟨vp_in_nI (by omega) (by decide), vp_in_nI (by omega) (by decide), ?_⟩
    rw [nI_clamp (by omega), nI_1]
    refine c_ordCopy (by omega) (fun M' m1 m2 m3 => hL M' ⟨fun i hi => by rw [m1 i (by omega)]; exact f2 i hi, fun i h1 h2 => by rw [m1 i (by omega)]; exact g2 i h1 h2, fun o ho => ?_⟩)
    by_cases e : o = k
    · subst e
      exact ⟨fun f hf h5 => by rw [m2 f hf h5, src s' f2 _ (by omega) (by omega)], by rw [m3, src s' f2 _ (by omega) (by omega)]⟩
    · rw [m1 _ (by omega)]
      exact s2 o (by omega)
  obtain ⟨f2, g2, s2⟩ := hs
  rw [f_X2_copyFrom_L173, a6 s' (by rw [g2 a (by omega) (by omega), g1 a (by omega) (by omega)]; exact g14)]
  refine cT' (nI_le (Nat.le_refl _) (by omega)) (hK s' f2 ?_)
  refine ⟨?_, fun j hj => ?_, fun j hj => ?_, fun b hb => ?_, fun b hb => ?_, fun o ho => ?_⟩
  · unfold Sc at sc9 ⊢
    rw [g2 a (by omega) (by omega), g1 a (by omega) (by omega), g14]
    exact sc9
  · have hj' := h.2.1 j hj
    unfold Se at hj' ⊢
    rw [g2 _ (by omega) (by omega), g1 _ (by omega) (by omega), s14 j hj 0 (by decide), s14 j hj 1 (by decide), s14 j hj 2 (by decide)]
    exact hj'
  · rw [g2 _ (by omega) (by omega), g1 _ (by omega) (by omega), g2 _ (by omega) (by omega), g1 _ (by omega) (by omega), (u14 j hj).1, (u14 j hj).2]
    exact h.2.2.1 j hj
  · have hb' := h.2.2.2.1 b hb
    have sb := (s1 b hb).1
    unfold Ba at hb' ⊢
    rw [g2 _ (by omega) (by omega), sb 0 (by decide) (by decide), sb 1 (by decide) (by decide), sb 2 (by decide) (by decide), sb 3 (by decide) (by decide), sb 4 (by decide) (by decide), sb 5 (by decide) (by decide), sb 6 (by decide) (by decide)]
    exact hb'
  · obtain ⟨l, q1, q2, q3⟩ := h.2.2.2.2.1 b hb
    have l4 := qlen4 w hb q1
    have sb := s1 b hb
    refine ⟨l, q1, ?_, fun i hi => ?_⟩
    · rw [g2 _ (by omega) (by omega), sb.1 8 (by decide) (by decide)]; exact q2
    · rw [g2 _ (by omega) (by omega), sb.2 i (by omega)]; exact q3 i hi
  · have ho' := h.2.2.2.2.2 o ho
    have so := s2 o ho
    unfold Or at ho' ⊢
    rw [so.1 0 (by decide) (by decide), so.1 1 (by decide) (by decide), so.1 2 (by decide) (by decide), so.1 3 (by decide) (by decide), so.1 4 (by decide) (by decide), so.1 6 (by decide) (by decide), so.1 7 (by decide) (by decide), so.2, bz_bz]
    exact ho'
/-- a fresh row -/
def Zr (R : Nat → Int32) (p : Int32) : Nat → Int32 := fun i => if i = 1 then p else if i < 377 then 0 else R i
theorem Zr_1 : Zr R p 1 = p := if_pos rfl
theorem Zr_i (h : i ≠ 1) (h2 : i < 377) : Zr R p i = 0 := by unfold Zr; rw [if_neg h, if_pos h2]
theorem m_begin (hr : Rw M r) (h : KV (uR M r (Zr R p))) : f_X13_begin p (uR M r R) KV := by
  unfold f_X13_begin
  refine ⟨_, inv_loop (fun n (s : TM) k => f_X13_begin_L2 p KV n p (nI k) s) (fun k s => ∃ Q, s = uR M r Q ∧ ∀ i, Q i = if i < k then 0 else R i) 377 (fun n s hs => ?_) (fun n s k hk hs hL => ?_) 377 0 _ (Nat.zero_add _) ⟨R, rfl, fun i => by rw [if_neg (by omega)]⟩⟩
  · obtain ⟨Q, rfl, hQ⟩ := hs
    rw [f_X13_begin_L2]
    refine cT' (nI_le (a := 377) (b := 377) (Nat.le_refl _) (by decide)) ⟨hr.v _, vv1, ?_⟩
    intro M4 e4
    rw [hr.c, li1, u2_uR] at e4
    rw [e4, show upd Q 1 p = Zr R p by
      funext i
      unfold Zr
      by_cases e : i = 1
      · rw [if_pos e, e, up_s]
      · rw [if_neg e, up_n e, hQ]]
    exact h
  · obtain ⟨Q, rfl, hQ⟩ := hs
    rw [f_X13_begin_L2]
    refine cN' (nI_ge (b := 377) hk (by decide)) ⟨hr.v _, vp_in_nI hk (by decide), ?_⟩
    intro M7 e7
    rw [hr.c, nI_clamp (by omega), u2_uR] at e7
    rw [nI_1]
    refine hL M7 ⟨_, e7, fun i => ?_⟩
    by_cases e : i = k
    · rw [e, up_s, if_pos (by omega)]
    · rw [up_n e, hQ]
      by_cases e2 : i < k
      · rw [if_pos e2, if_pos (by omega)]
      · rw [if_neg e2, if_neg (by omega)]
theorem Zr_nb : nb (Zr R p) = 0 := by unfold nb; rw [Zr_i (by decide) (by decide)]; rfl
theorem Zr_no : no (Zr R p) = 0 := by unfold no; rw [Zr_i (by decide) (by decide)]; rfl
theorem Zr_cIn : cIn (Zr R p) s = 0 := by unfold cIn; rw [Zr_no]; rfl
theorem Zr_who : who (Zr R p) s = -1 := by unfold who; rw [Zr_nb]; rfl
theorem wf_Zr (T : Nat) (h3 : 3 ≤ n) (h16 : n ≤ 16) : WF T (Zr R (nI n)) := by
  have np' : np (Zr R (nI n)) = n := by unfold np; rw [Zr_1, nI_clamp (by omega)]
  refine ⟨⟨⟨⟨by rw [np', Zr_1], by rw [np']; exact h16⟩, ⟨by rw [Zr_nb, Zr_i (by decide) (by decide)]; rfl, by rw [Zr_nb]; decide⟩, by rw [Zr_no, Zr_i (by decide) (by decide)]; rfl, by rw [Zr_no]; decide⟩, by rw [np']; exact h3, trivial, ⟨0, by decide, Zr_i (by decide) (by decide)⟩, ⟨0, Nat.zero_le _, Zr_i (by decide) (by decide)⟩, by rw [Zr_cIn, Zr_i (by decide) (by decide)]; rfl, fun j hj => ⟨0, by decide, Zr_i (by omega) (by omega)⟩, fun j _ hj => ⟨Zr_i (by omega) (by omega), Zr_i (by omega) (by omega)⟩⟩, fun b hb => by rw [Zr_nb] at hb; omega, fun o ho => by rw [Zr_no] at ho; omega, fun b d hb => by rw [Zr_nb] at hb; omega, fun b hb => by rw [Zr_nb] at hb; omega, fun x y hx => by rw [Zr_no] at hx; omega⟩
theorem c_clear (c : Nat) (M : TM) (R : Nat → Int32) (p : Int32) (hK : ∀ M', FrC c M M' → RelC c M' (Zr R p) → KV M') : f_X2_clear c p M KV := by
  unfold f_X2_clear
  intro M1 e1 M2 e2 M3 e3 M4 e4 M5 e5 M6 e6 M7 e7 M8 e8 M9 e9
  have fr9 : FrC c M M9 := by
    intro i hi
    rw [e9, u2_n (by omega), e8, u2_n (by omega), e7, u2_n (by omega), e6, u2_n (by omega), e5, u2_n (by omega), e4, u2_n (by omega), e3, u2_n (by omega), e2, u2_n (by omega), e1, u2_n (by omega)]
  have sc9 : Sc c M9 (Zr R p) := by
    unfold Sc
    rw [Zr_cIn, Zr_1, Zr_i (by decide) (by decide), Zr_i (by decide) (by decide), Zr_i (by decide) (by decide), Zr_i (by decide) (by decide), Zr_i (by decide) (by decide), Zr_i (by decide) (by decide), Zr_i (by decide) (by decide)]
    subst e9; subst e8; subst e7; subst e6; subst e5; subst e4; subst e3; subst e2; subst e1
    simp (disch := omega) only [uR_s, uR_n, up_s, up_n]
    exact ⟨trivial, trivial, trivial, trivial, trivial, trivial, trivial, rfl, trivial⟩
  clear e1 e2 e3 e4 e5 e6 e7 e8 e9
  refine ⟨_, inv_loop (fun n (s : TM) k => f_X2_clear_L47 c p KV n (nI k) s) (fun k s => FrC c M s ∧ s c = M9 c ∧ ∀ j, j < k → s (c + 6 + j) 0 = 0 ∧ s (c + 6 + j) 1 = 0 ∧ s (c + 6 + j) 2 = -1) 15 (fun n s hs => ?_) (fun n s k hk hs hL => ?_) 15 0 M9 (Nat.zero_add _) ⟨fr9, rfl, fun j hj => absurd hj (Nat.not_lt_zero _)⟩⟩
  rotate_left
  · obtain ⟨f1, g1, s1⟩ := hs
    rw [f_X2_clear_L47]
    refine cN' (nI_ge (b := 15) hk (by decide)) ⟨vp_in_nI (by omega) (by decide), ?_⟩
    rw [nI_clamp (by omega), nI_1]
    unfold f_X9_clear
    intro M1 e1 M2 e2 M3 e3
    subst e3; subst e2; subst e1
    refine hL _ ⟨fun i hi => by simp (disch := omega) only [uR_n]; exact f1 i hi, by simp (disch := omega) only [uR_n]; exact g1, fun j hj => ?_⟩
    by_cases e : j = k
    · subst e
      simp (disch := omega) only [uR_s, up_s, up_n]
      exact ⟨trivial, trivial, trivial⟩
    · simp (disch := omega) only [uR_n]
      exact s1 j (by omega)
  obtain ⟨f1, g1, s1⟩ := hs
  rw [f_X2_clear_L47]
  refine cT' (nI_le (a := 15) (b := 15) (Nat.le_refl _) (by decide)) ?_
  refine ⟨_, inv_loop (fun n (s' : TM) k => f_X2_clear_L73 c p KV n (nI k) s') (fun k s' => FrC c M s' ∧ (∀ i, i ≠ c + 2 → i ≠ c + 3 → s' i = s i) ∧ ∀ j, j < k → s' (c + 2) j = 0 ∧ s' (c + 3) j = 0) 16 (fun n s' hs => ?_) (fun n s' k hk hs hL => ?_) 16 0 s (Nat.zero_add _) ⟨f1, fun _ _ _ => rfl, fun j hj => absurd hj (Nat.not_lt_zero _)⟩⟩
  rotate_left
  · obtain ⟨f2, g2, s2⟩ := hs
    rw [f_X2_clear_L73]
    refine cN' (nI_ge (b := 16) hk (by decide)) ⟨vp_in_nI (by omega) (by decide), ?_⟩
    intro M13 e13
    refine ⟨vp_in_nI (by omega) (by decide), ?_⟩
    intro M15 e15
    rw [nI_clamp (by omega)] at e13 e15
    rw [nI_1]
    subst e15; subst e13
    refine hL _ ⟨fun i hi => by simp (disch := omega) only [uR_n]; exact f2 i hi, fun i h1 h2 => by simp (disch := omega) only [uR_n]; exact g2 i h1 h2, fun j hj => ?_⟩
    by_cases e : j = k
    · subst e
      simp (disch := omega) only [uR_s, uR_n, up_s]
      exact ⟨trivial, trivial⟩
    · simp (disch := omega) only [uR_s, uR_n, up_n]
      exact s2 j (by omega)
  obtain ⟨f2, g2, s2⟩ := hs
  rw [f_X2_clear_L73]
  refine cT' (nI_le (a := 16) (b := 16) (Nat.le_refl _) (by decide)) (hK s' f2 ?_)
  refine ⟨?_, fun j hj => ?_, fun j hj => ?_, fun b hb => by rw [Zr_nb] at hb; omega, fun b hb => by rw [Zr_nb] at hb; omega, fun o ho => by rw [Zr_no] at ho; omega⟩
  · unfold Sc at sc9 ⊢
    rw [g2 c (by omega) (by omega), g1]
    exact sc9
  · unfold Se
    rw [g2 _ (by omega) (by omega), (s1 j hj).1, (s1 j hj).2.1, (s1 j hj).2.2, Zr_i (by omega) (by omega), Zr_i (by omega) (by omega), Zr_who]
    exact ⟨rfl, rfl, rfl⟩
  · rw [(s2 j hj).1, (s2 j hj).2, Zr_i (by omega) (by omega), Zr_i (by omega) (by omega)]
    exact ⟨rfl, rfl⟩
end COPY
