/-! p65: a new object; loadCanal of the law's text -/
def s0 (T : Nat → Nat) (n : Nat) : PS := (0, 0, scB T n 0, scE T n 0, scK T n 0)
def FT (j : Nat) : Nat := wN 13 j
theorem fn_13 : lN' 13 = 111 := by decide +kernel
section LOADC
variable {i : Nat} {M M1 M' : TM} {T X : Nat → Nat} {K : TM → Prop} {KI : Int32 → TM → Prop} {KV : TM → Prop} {p : Int32} {R R' : Nat → Int32} {n f j k F N nB nO : Nat} {fs fb fo : Nat → List Nat}
theorem s0_w (T : Nat → Nat) (hn : n ≤ 500) : Ws T n (s0 T n) := ⟨hn, show (0 : Nat) < 10 by decide, ⟨0, Nat.zero_le _, rfl, rfl, rfl⟩⟩
/-- both begin with the text -/
theorem c_begin (h2 : ∀ i, i < n → (T i < 128 → M 2 i = nI (T i)) ∧ (128 ≤ T i → M 2 i < 0) ∧ T i < 256) (hn : n ≤ 500) (e1 : p = nI n) (hK : ∀ M', (∀ i, i ≠ 1 → M' i = M i) → (∀ j, j < 2 → M' 1 j = M 1 j) → PC M' T n (s0 T n) → KV M') : f_X10_begin p M KV := by
  subst e1
  unfold f_X10_begin
  have e5 : ¬ (500 : Int32) < nI n := nI_nlt (a := 500) (b := n) hn (by decide)
  rw [if_neg e5]
  intro M1 e1 M2 e2 M3 e3 M4 e4
  have f4 : ∀ i, i ≠ 1 → M4 i = M i := fun i hi => by rw [e4, u2_n hi, e3, u2_n hi, e2, u2_n hi, e1, u2_n hi]
  have j4 : ∀ j, j < 2 → M4 1 j = M 1 j := fun j hj => by rw [e4, u2_f (by omega), e3, u2_f (by omega), e2, u2_f (by omega), e1, u2_f (by omega)]
  have h12 : M4 1 2 = nI n := by rw [e4, u2_f (by decide), e3, u2_f (by decide), e2, u2_f (by decide), e1, u2_s]
  have h15 : M4 1 5 = nI 0 := by rw [e4, u2_f (by decide), e3, u2_f (by decide), e2, u2_s]; rfl
  have h16 : M4 1 6 = 0 := by rw [e4, u2_f (by decide), e3, u2_s]
  have h17 : M4 1 7 = -1 := by rw [e4, u2_s]
  have hc : CTx M4 T n := ⟨h12, hn, fun i hi => by rw [f4 2 (by decide)]; exact h2 i hi⟩
  refine c_advance hc h15 (Nat.zero_le _) (fun M5 g => ?_)
  obtain ⟨g1, g2, g3, g4, g5⟩ := g
  refine hK M5 (fun i hi => by rw [g1 i hi, f4 i hi]) (fun j hj => by rw [g2 j (by omega) (by omega) (by omega), j4 j hj]) ⟨hc.of (g2 2 (by decide) (by decide) (by decide)) (g1 2 (by decide)), by rw [g2 6 (by decide) (by decide) (by decide)]; exact h16, fun hne => absurd rfl hne, fun _ => ⟨by rw [g2 7 (by decide) (by decide) (by decide)]; exact h17, g4, g3, ?_⟩⟩
  rw [g5, scC_k]
  rfl
theorem asc : ∀ v : Fin 128, vp_nar .byte ((nI v.val).toInt8.toInt32) = nI v.val := by decide +kernel
theorem FT_lt : j < lN' 13 → FT j < 128 := fun h => (ch_at 13 (by decide) j h).2
theorem c_signs (h0 : M 1 1 = 0) (hK : ∀ M', (∀ i, i ≠ 1 → i ≠ 2 → M' i = M i) → (∀ x, x ≠ 1 → M' 1 x = M 1 x) → M' 1 1 = nI 111 → (∀ j, j < 111 → M' 2 j = nI (FT j)) → KV M') : f_X10_appendSigns 13 M KV := by
  unfold f_X10_appendSigns
  refine ⟨_, inv_loop (fun m (s : TM) k => f_X10_appendSigns_L2 13 KV m (nI k) s) (fun k s => (∀ i, i ≠ 1 → i ≠ 2 → s i = M i) ∧ (∀ x, x ≠ 1 → s 1 x = M 1 x) ∧ s 1 1 = nI k ∧ ∀ j, j < k → s 2 j = nI (FT j)) 111 (fun m s hs => ?_) (fun m s k hk hs hL => ?_) 111 0 M (Nat.zero_add _) ⟨fun _ _ _ => rfl, fun _ _ => rfl, h0, fun j hj => absurd hj (Nat.not_lt_zero _)⟩⟩
  · obtain ⟨s1, s2, s3, s4⟩ := hs
    rw [f_X10_appendSigns_L2]
    refine j_len (by decide) ?_
    rw [fn_13]
    exact cT' (nI_le (Nat.le_refl _) (by decide)) (hK s s1 s2 s3 s4)
  · obtain ⟨s1, s2, s3, s4⟩ := hs
    rw [f_X10_appendSigns_L2]
    refine j_len (by decide) ?_
    rw [fn_13]
    refine cN' (nI_ge hk (by decide)) ?_
    have hk' : k < lN' 13 := by rw [fn_13]; exact hk
    refine j_char (by decide) hk' ?_
    refine c_byte s3 (by omega) (asc ⟨FT k, FT_lt hk'⟩) (fun M2 a1 a2 a3 a4 a5 => ?_)
    rw [nI_1]
    refine hL M2 ⟨fun i i1 i2 => by rw [a1 i i1 i2, s1 i i1 i2], fun x hx => by rw [a2 x hx, s2 x hx], a3, fun j hj => ?_⟩
    by_cases ej : j = k
    · rw [ej]; exact a4
    · rw [a5 j ej]
      exact s4 j (by omega)
/-- a new object: what it is built of, and an empty text -/
theorem first65 (hK : ∀ M', (∀ i, i ≠ 1 → i ≠ 2 → (i < 576 ∨ 637 ≤ i) → M' i = mMain i) → M' 1 1 = 0 → K M') : f_X12_tail mMain K := by
  unfold f_X12_tail
  refine c_signs rfl (fun M1 a1 a2 a3 a4 => ?_)
  refine j_len (by decide) ?_
  rw [fn_13]
  refine c_begin (T := FT) (n := 111) (fun i hi => ⟨fun _ => a4 i hi, fun h => absurd h (by have := FT_lt (j := i) (by rw [fn_13]; exact hi); omega), by have := FT_lt (j := i) (by rw [fn_13]; exact hi); omega⟩) (by decide) rfl (fun M2 b1 b2 b3 => ?_)
  have e05 : M2 0 5 = nI 9 := by rw [b1 0 (by decide), a1 0 (by decide) (by decide)]; rfl
  rw [e05]
  refine ⟨vp_in_nI (by decide) (by decide), ?_⟩
  rw [nI_clamp (by decide)]
  refine c_parse (c := 27 + 61 * 9) (by decide) b3 (s0_w FT (by decide)) r0 (fun M3 c1 c2 c3 => ?_)
  unfold f_X10_empty
  intro M4 e4
  exact hK M4 (fun i i1 i2 i3 => by rw [e4, u2_n i1, c1.1 i i1 (by omega), b1 i i1, a1 i i1 i2]) (by rw [e4, u2_s])
/-- the law's text is loaded -/
theorem load_go (h5 : M 0 5 = nI 9) (h6 : M 0 6 = nI 10) (h25 : M 25 1 = 0) (h1 : M 1 1 = nI F) (hF : F ≤ 500) (hn : n ≤ F) (hX : ∀ i, X i < 128) (hb : ∀ i, i < F → M 2 i = nI (X i)) (ht : Sf X n 0 (txAll N nB nO fs fb fo)) (h3 : 3 ≤ N) (h16 : N ≤ 16) (hb1 : 1 ≤ nB) (hb5 : nB ≤ 5) (ho : nO ≤ 30) (hs : SecF fs) (hB : BarF N fb) (hO : OrdF N fo) : f_X12_loadCanal (nI n) M (fun r M' => r = nI nB ∧ ∃ (R : Nat → Int32) (P : Nat), PV M' 0 R 0 (fun _ _ => 0) false R M' ∧ Gd P 0 R ∧ 1 ≤ nb R) := by
  obtain ⟨R3, e3, en⟩ := can_go r0 ht (by omega) h3 h16 hb1 hb5 ho hs hB hO
  have ws := s0_w X (show n ≤ 500 by omega)
  have ws' : Ws X n (stp X n 0 0) := ws
  have wIO := IO_3 (R := r0) ws'
  have wNL := nl_3 (R := r0) ws'
  obtain ⟨P, gd⟩ := can_good ws' r0
  rw [e3] at wIO wNL gd
  have w3 : WF 0 R3 := wIO.2.1
  unfold f_X12_loadCanal f_X12_requireText
  refine cN' (nI_pos (by omega)) (cT' (by rw [h1]; exact nI_le hn (by omega)) ?_)
  refine c_begin (T := X) (n := n) (fun i hi => ⟨fun _ => hb i (by omega), fun h => absurd (hX i) (by omega), by have := hX i; omega⟩) (by omega) rfl (fun M2 b1 b2 b3 => ?_)
  have e06 : M2 0 6 = nI 10 := by rw [b1 0 (by decide)]; exact h6
  rw [e06]
  refine ⟨vp_in_nI (by decide) (by decide), ?_⟩
  rw [nI_clamp (by decide)]
  refine c_parse (c := 27 + 61 * 10) (by decide) b3 ws r0 (fun M4 c1 c2 c3 => ?_)
  have e3' : pCan X n (s0 X n, r0) = ((0, 0, n, n, 0), R3) := e3
  rw [e3'] at c2 c3
  have rl : RelC 637 M4 R3 := c3 rfl
  unfold f_X10_empty
  intro M5 e5
  unfold f_X10_failed
  have m16 : M5 1 6 = 0 := by rw [e5, u2_f (by decide)]; exact c2.2.1
  refine cT' m16 (cT' rfl ?_)
  have g0 : ∀ i, i ≠ 1 → (i < 637 ∨ 698 ≤ i) → M5 i = M i := fun i i1 i2 => by rw [e5, u2_n i1, c1.1 i i1 (by omega), b1 i i1]
  have a5 : M5 0 5 = nI 9 := by rw [g0 0 (by decide) (by decide)]; exact h5
  have a6 : M5 0 6 = nI 10 := by rw [g0 0 (by decide) (by decide)]; exact h6
  rw [a5, a6]
  refine ⟨vp_in_nI (by decide) (by decide), vp_in_nI (by decide) (by decide), fun M12 e12 M13 e13 => ?_⟩
  unfold f_X5_clear
  intro M14 e14 M15 e15
  have k5 : M15 0 5 = nI 10 := by rw [e15, u2_f (by decide), e14, u2_n (by decide), e13, u2_f (by decide), e12, u2_s]
  have k6 : M15 0 6 = nI 9 := by rw [e15, u2_f (by decide), e14, u2_n (by decide), e13, u2_s]
  have k4 : M15 0 4 = 0 := by rw [e15, u2_s]
  have k251 : M15 25 1 = 0 := by rw [e15, u2_n (by decide), e14, u2_f (by decide), e13, u2_n (by decide), e12, u2_n (by decide), g0 25 (by decide) (by decide)]; exact h25
  have k252 : M15 25 2 = 0 := by rw [e15, u2_n (by decide), e14, u2_s]
  have kr : RelC 637 M15 R3 := rl.frame (fun k h1 h2 => by rw [e15, u2_n (by omega), e14, u2_n (by omega), e13, u2_n (by omega), e12, u2_n (by omega), e5, u2_n (by omega)]) w3.nb5 w3.no30
  rw [k5]
  refine ⟨vp_in_nI (by decide) (by decide), ?_⟩
  rw [nI_clamp (by decide)]
  refine ⟨?_, R3, P, ⟨⟨10, 9, 0, ⟨Or.inr ⟨rfl, rfl⟩, k5, k6, kr, w3, by rw [en]; exact hb1, wNL.2.lk⟩, ⟨k251, k252, by decide, by decide, fun k hk => absurd hk (Nat.not_lt_zero k)⟩, ⟨by rw [k4]; rfl, fun h => by cases h⟩⟩, fun _ _ => rfl⟩, gd, by rw [en]; exact hb1⟩
  show M15 637 4 = nI nB
  rw [kr.1.2.1, w3.1.1.2.1.1, en]
end LOADC
