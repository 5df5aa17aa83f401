/-! a new object: both are at the first canal -/
section FIRST
variable {i : Nat} {M M1 M' S S' : TM} {K : TM → Prop} {KV : TM → Prop} {R R' : Nat → Int32} {c g : PR → Bool} {n f j k : Nat}
theorem lp_1 {α : Type} {c : α → Bool} {g : α → α} {x0 x1 : α} (h0 : c x0 = true) (e0 : g x0 = x1) (h1 : c x1 = false) (f : Nat) : lp c g (f + 1) x0 = x1 := by
  rw [lp_T h0, e0, lp_F h1]
theorem lp_3 {α : Type} {c : α → Bool} {g : α → α} {x0 x1 x2 x3 : α} (h0 : c x0 = true) (e0 : g x0 = x1) (h1 : c x1 = true) (e1 : g x1 = x2) (h2 : c x2 = true) (e2 : g x2 = x3) (h3 : c x3 = false) (f : Nat) : lp c g (f + 3) x0 = x3 := by
  rw [lp_T h0, e0, lp_T h1, e1, lp_T h2, e2, lp_F h3]
theorem fs_1 : gS FT 111 (T0, Y0) = (T1, Y1) := by
  obtain ⟨h1, h2, h3, h4⟩ := ft_s1
  unfold gS
  rw [if_pos (show pWd FT (T0, Y0).1 10 = true from h1), pSec_eq, h2, h3, h4]
  rfl
theorem fs_2 : gS FT 111 (T1, Y1) = (T2, Y2) := by
  obtain ⟨⟨h0, h1⟩, h2, h3, h4⟩ := ft_s2
  have h0' : ¬ pWd FT (T1, Y1).1 10 = true := by
    show ¬ pWd FT T1 10 = true
    rw [h0]
    decide
  unfold gS
  rw [if_neg h0', pSec_eq, h2, h3, h4]
  rfl
theorem fs_3 : gS FT 111 (T2, Y2) = (T3, Y3) := by
  obtain ⟨h1, h2, h3, h4⟩ := ft_s3
  unfold gS
  rw [if_pos (show pWd FT (T2, Y2).1 10 = true from h1), pSec_eq, h2, h3, h4]
  rfl
theorem fb_4 : pBar FT 111 (T3, Y3) = (T4, Y4) := by
  obtain ⟨-, h2, h3⟩ := ft_b4
  obtain ⟨v1, v2, v3, v4⟩ := ft_b4v
  rw [pBar_eq, h2, h3, v1, v2, v3, v4]
  rfl
theorem fb_5 : pBar FT 111 (T4, Y4) = (T5, Y5) := by
  obtain ⟨-, h2, h3⟩ := ft_b5
  obtain ⟨v1, v2, v3, v4⟩ := ft_b5v
  rw [pBar_eq, h2, h3, v1, v2, v3, v4]
  rfl
theorem fo_6 : pOrd FT 111 (T5, Y5) = (T6, Y6) := by
  obtain ⟨-, h2, h3⟩ := ft_o6
  obtain ⟨v1, v2, v3, v4⟩ := ft_o6v
  rw [pOrd_eq, h2, h3, v1, v2, v3, v4]
  rfl
theorem fo_7 : pOrd FT 111 (T6, Y6) = (T7, Y7) := by
  obtain ⟨h2, h3⟩ := ft_o7
  obtain ⟨v1, v2, v3, v4⟩ := ft_o7v
  rw [pOrd_eq, h2, h3, v1, v2, v3, v4]
  rfl
theorem fo_8 : pOrd FT 111 (T7, Y7) = (T8, Y8) := by
  obtain ⟨h2, h3⟩ := ft_o8
  obtain ⟨v1, v2, v3, v4⟩ := ft_o8v
  rw [pOrd_eq, h2, h3, v1, v2, v3, v4]
  rfl
theorem fc_1 : pCan1 FT 111 (s0 FT 111, r0) = (T3, Y3) := by
  have e0 : pCan0 FT 111 (s0 FT 111, r0) = (T0, Y0) := by
    obtain ⟨h1, h2⟩ := ft_c0
    unfold pCan0
    dsimp only
    rw [h1, h2]
    rfl
  have c0 : cS FT (T0, Y0) = true := by unfold cS; rw [show pWd FT (T0, Y0).1 10 = true from ft_s1.1]; rfl
  have c1 : cS FT (T1, Y1) = true := by unfold cS; rw [show pWd FT (T1, Y1).1 11 = true from ft_s2.1.2, Bool.or_true]
  have c2 : cS FT (T2, Y2) = true := by unfold cS; rw [show pWd FT (T2, Y2).1 10 = true from ft_s3.1]; rfl
  have c3 : cS FT (T3, Y3) = false := by unfold cS; rw [show pWd FT (T3, Y3).1 10 = false from ft_b4.1.1, show pWd FT (T3, Y3).1 11 = false from ft_b4.1.2]; rfl
  unfold pCan1
  rw [e0]
  exact lp_3 c0 fs_1 c1 fs_2 c2 fs_3 c3 498
theorem fc_2 : pCan2 FT 111 (s0 FT 111, r0) = (T5, Y5) := by
  have c4 : cB FT (T4, Y4) = true := ft_b5.1
  have c5 : cB FT (T5, Y5) = false := ft_o6.1
  unfold pCan2
  rw [fc_1, fb_4]
  exact lp_1 c4 fb_5 c5 500
theorem fc_3 : pCan FT 111 (s0 FT 111, r0) = (T8, Y8) := by
  unfold pCan
  rw [fc_2]
  exact lp_3 (c := cO) (x0 := (T5, Y5)) rfl fo_6 rfl fo_7 rfl fo_8 rfl 498
theorem asc : ∀ v : Fin 128, vp_nar .byte ((nI v.val).toInt8.toInt32) = nI v.val := by decide +kernel
theorem FT_lt : j < lN' 13 → FT j < 128 := fun h => (ch_at 13 (by decide) j h).2
theorem c_signs (h0 : M 1 1 = 0) (hK : ∀ M', (∀ i, i ≠ 1 → i ≠ 2 → M' i = M i) → (∀ x, x ≠ 1 → M' 1 x = M 1 x) → M' 1 1 = nI 111 → (∀ j, j < 111 → M' 2 j = nI (FT j)) → KV M') : f_X10_appendSigns 13 M KV := by
  unfold f_X10_appendSigns
  refine ⟨_, inv_loop (fun m (s : TM) k => f_X10_appendSigns_L2 13 KV m (nI k) s) (fun k s => (∀ i, i ≠ 1 → i ≠ 2 → s i = M i) ∧ (∀ x, x ≠ 1 → s 1 x = M 1 x) ∧ s 1 1 = nI k ∧ ∀ j, j < k → s 2 j = nI (FT j)) 111 (fun m s hs => ?_) (fun m s k hk hs hL => ?_) 111 0 M (Nat.zero_add _) ⟨fun _ _ _ => rfl, fun _ _ => rfl, h0, fun j hj => absurd hj (Nat.not_lt_zero _)⟩⟩
  · obtain ⟨s1, s2, s3, s4⟩ := hs
    rw [f_X10_appendSigns_L2]
    refine j_len (by decide) ?_
    rw [fn_13]
    exact cT' (nI_le (Nat.le_refl _) (by decide)) (hK s s1 s2 s3 s4)
  · obtain ⟨s1, s2, s3, s4⟩ := hs
    rw [f_X10_appendSigns_L2]
    refine j_len (by decide) ?_
    rw [fn_13]
    refine cN' (nI_ge hk (by decide)) ?_
    have hk' : k < lN' 13 := by rw [fn_13]; exact hk
    refine j_char (by decide) hk' ?_
    refine c_byte s3 (by omega) (asc ⟨FT k, FT_lt hk'⟩) (fun M2 a1 a2 a3 a4 a5 => ?_)
    rw [nI_1]
    refine hL M2 ⟨fun i i1 i2 => by rw [a1 i i1 i2, s1 i i1 i2], fun x hx => by rw [a2 x hx, s2 x hx], a3, fun j hj => ?_⟩
    by_cases ej : j = k
    · rw [ej]; exact a4
    · rw [a5 j ej]
      exact s4 j (by omega)
/-- the class's new object -/
theorem first12 (hK : ∀ M', (∀ i, i ≠ 1 → i ≠ 2 → (i < 576 ∨ 637 ≤ i) → M' i = mMain i) → M' 1 1 = 0 → M' 1 6 = 0 → M' 1 7 = -1 → RelC 576 M' Y8 → K M') : f_X12_tail mMain K := by
  unfold f_X12_tail
  refine c_signs rfl (fun M1 a1 a2 a3 a4 => ?_)
  refine j_len (by decide) ?_
  rw [fn_13]
  refine c_begin (T := FT) (n := 111) (fun i hi => ⟨fun _ => a4 i hi, fun h => absurd h (by have := FT_lt (j := i) (by rw [fn_13]; exact hi); omega), by have := FT_lt (j := i) (by rw [fn_13]; exact hi); omega⟩) (by decide) rfl (fun M2 b1 b2 b3 => ?_)
  have e05 : M2 0 5 = nI 9 := by rw [b1 0 (by decide), a1 0 (by decide) (by decide)]; rfl
  rw [e05]
  refine ⟨vp_in_nI (by decide) (by decide), ?_⟩
  rw [nI_clamp (by decide)]
  refine c_parse (c := 27 + 61 * 9) (by decide) b3 (s0_w FT (by decide)) r0 (fun M3 c1 c2 c3 => ?_)
  rw [fc_3] at c2 c3
  unfold f_X10_empty
  intro M4 e4
  have rl : RelC 576 M3 Y8 := c3 rfl
  have w8 : WF 0 Y8 := by
    have h := IO_3 (R := r0) (s0_w FT (show 111 ≤ 500 by decide))
    rw [fc_3] at h
    exact h.2.1
  refine hK M4 (fun i i1 i2 i3 => by rw [e4, u2_n i1, c1.1 i i1 (by omega), b1 i i1, a1 i i1 i2]) (by rw [e4, u2_s]) (by rw [e4, u2_f (by decide)]; exact c2.2.1) (by rw [e4, u2_f (by decide)]; exact (c2.2.2.2 rfl).1) (rl.frame (fun k h1 h2 => by rw [e4, u2_n (by omega)]) w8.nb5 w8.no30)
/-- the model's new object -/
theorem ixY : Ix Y3 ∧ Ix Y4 ∧ Ix Y5 ∧ Ix Y6 ∧ Ix Y7 := by
  unfold Ix
  decide +kernel
theorem nY : nb Y3 < 5 ∧ nb Y4 < 5 ∧ no Y5 < 30 ∧ no Y6 < 30 ∧ no Y7 < 30 := by decide +kernel
theorem first13 (h6 : M 699 6 = 0) (h7 : M 700 = r0) (hK : K (uR M 700 Y8)) : f_X13_tail M K := by
  have hr : Rw M 700 := Or.inl ⟨h6, rfl⟩
  obtain ⟨i3, i4, i5, i6, i7⟩ := ixY
  obtain ⟨n3, n4, n5, n6, n7⟩ := nY
  unfold f_X13_tail
  refine atS h7 (F := fun S => f_X13_begin 6 S _) ?_
  refine m_begin hr ?_
  refine ⟨hr.v _, vlt (n := 11) rfl (by decide) (by decide), ?_⟩
  rw [hr.c]
  intro M4 e4
  have f4 : M4 = uR M 700 Y1 := by rw [e4, u2_uR]; rfl
  rw [f4]
  refine ⟨hr.v _, vlt (n := 28) rfl (by decide) (by decide), ?_⟩
  rw [hr.c]
  intro M7 e7
  have f7 : M7 = uR M 700 Y2 := by rw [e7, u2_uR]; rfl
  rw [f7]
  refine ⟨hr.v _, vlt (n := 14) rfl (by decide) (by decide), ?_⟩
  rw [hr.c]
  intro M10 e10
  have f10 : M10 = uR M 700 Y3 := by rw [e10, u2_uR]; rfl
  rw [f10]
  refine m_addBarge hr i3 n3 ?_
  refine m_addBarge hr i4 n4 ?_
  refine m_addOrder hr i5 n5 ?_
  refine m_addOrder hr i6 n6 ?_
  refine m_addOrder hr i7 n7 ?_
  exact hK
theorem nbY : NLb Y8 ∧ 1 ≤ nb Y8 := by
  have h1 := nl_3 (R := r0) (s0_w FT (show 111 ≤ 500 by decide))
  rw [fc_3] at h1
  exact ⟨h1.2, h1.1.2.2 rfl⟩
theorem first_inv (a1 : ∀ i, i ≠ 1 → i ≠ 2 → (i < 576 ∨ 637 ≤ i) → M i = mMain i) (a2 : M 1 1 = 0) (a3 : M 1 6 = 0) (a4 : M 1 7 = -1) (a5 : RelC 576 M Y8) (hK : ∀ M', Inv 0 M' → K M') : f_X13_tail (mMod M) K := by
  have w8 : WF 0 Y8 := by
    have h := IO_3 (R := r0) (s0_w FT (show 111 ≤ 500 by decide))
    rw [fc_3] at h
    exact h.2.1
  refine first13 rfl rfl (hK _ ?_)
  have e : ∀ i, i < 699 → (uR (mMod M) 700 Y8) i = M i := fun i hi => by
    rw [uR_n (by omega)]
    exact if_pos hi
  have e9 : (uR (mMod M) 700 Y8) 699 = rMod := uR_n (by decide)
  have e0 : (uR (mMod M) 700 Y8) 0 = rMain := by rw [e 0 (by decide), a1 0 (by decide) (by decide) (by decide)]; rfl
  have e25 : (uR (mMod M) 700 Y8) 25 = r0 := by rw [e 25 (by decide), a1 25 (by decide) (by decide) (by decide)]; rfl
  refine ⟨9, 10, 0, 0, ?_, ?_, ?_, ?_, ?_⟩
  · unfold Cur
    rw [e0, e9, uR_s]
    exact ⟨Or.inl ⟨rfl, rfl⟩, rfl, rfl, rfl, a5.frame (fun k h1 h2 => e k (by omega)) w8.nb5 w8.no30, w8, nbY.2, nbY.1.lk⟩
  · unfold His
    rw [e25, e9]
    exact ⟨rfl, rfl, by decide, by decide, rfl, fun k hk => absurd hk (Nat.not_lt_zero _)⟩
  · unfold Snap
    rw [e0, e9]
    exact ⟨rfl, fun h => absurd (show bz (rMain 4) = 0 by decide) h⟩
  · refine ⟨0, by decide, by rw [e 1 (by decide)]; exact a2, by rw [e9]; rfl, fun i hi => absurd hi (Nat.not_lt_zero _), by rw [e 1 (by decide), e9]; exact a3, by rw [e 1 (by decide), e9]; exact a4⟩
  · refine ⟨0, by decide, by rw [e0]; rfl, by rw [e9]; rfl, fun i hi => absurd hi (Nat.not_lt_zero _)⟩
end FIRST
