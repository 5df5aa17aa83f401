/-! writeCanal -/
def sgP (R : Nat → Int32) (j : Nat) : Int32 := if cAt R (nI j) = 0 then 46 else nI (48 + cAt R (nI j))
def sgS (R : Nat → Int32) (j : Nat) : Int32 := if R (10 + j) = 0 then 45 else if who R (nI j) = -1 then 124 else 61
def sgn (R : Nat → Int32) (i : Nat) : Int32 := if i % 2 = 0 then sgP R (i / 2) else sgS R (i / 2)
section WRITE
variable {c' : Bool} {i : Nat} {M M1 M' : TM} {T U : Nat} {K : TM → Prop} {KI : Int32 → TM → Prop} {KV : TM → Prop} {p q u v r2 r4 : Int32} {R R' : Nat → Int32} {a b c d e f j k m x' h nx ci di r n' : Nat}
theorem sgn_P (R : Nat → Int32) (j : Nat) : sgn R (2 * j) = sgP R j := by
  unfold sgn
  rw [if_pos (by omega), show 2 * j / 2 = j by omega]
theorem sgn_S (R : Nat → Int32) (j : Nat) : sgn R (2 * j + 1) = sgS R j := by
  unfold sgn
  rw [if_neg (by omega), show (2 * j + 1) / 2 = j by omega]
theorem cAt_le (w : WF T R) (q : Int32) : cAt R q ≤ 5 := Nat.le_trans (cn_le _ _) w.nb5
theorem chr_P : ∀ x : Fin 6, vp_nar .byte (((((48 : Int32) + nI x.val).toUInt32 % 65536).toInt32).toInt8.toInt32) = nI (48 + x.val) := by decide +kernel
theorem LK.wh (g : LK R) (hj : j < 15) (h0 : R (10 + j) = 0) : who R (nI j) = -1 := by
  unfold who
  refine ff_none (fun b hb => ?_)
  cases h1 : inL R b with
  | false => rfl
  | true =>
    rw [Bool.true_and]
    exact decide_eq_false (fun h2 => g b j hb hj h1 h2 h0)
/-- the class writes one sign -/
theorem c_wr (hb : M 0 8 = nI n') (hn : n' < 31) (hv : vp_nar .byte (p.toInt8.toInt32) = v) (hK : ∀ M', (∀ k, k ≠ 0 → k ≠ 698 → M' k = M k) → (∀ x, x ≠ 8 → M' 0 x = M 0 x) → M' 0 8 = nI (n' + 1) → M' 698 n' = v → (∀ x, x ≠ n' → M' 698 x = M 698 x) → KV M') : f_X12_writeSign p M KV := by
  unfold f_X12_writeSign
  rw [hb]
  refine cN' (nI_ge (b := 31) hn (by decide)) ⟨vp_in_nI hn (by decide), ?_⟩
  rw [nI_clamp (by omega), hv]
  intro M3 e3 M4 e4
  have h3 : M3 0 8 = nI n' := by rw [e3, u2_n (by decide)]; exact hb
  rw [h3, nI_1] at e4
  refine hK M4 (fun k k0 k1 => by rw [e4, u2_n k0, e3, u2_n k1]) (fun x hx => by rw [e4, u2_f hx, e3, u2_n (by decide)]) (by rw [e4, u2_s]) (by rw [e4, u2_n (by decide), e3, u2_s]) (fun x hx => by rw [e4, u2_n (by decide), e3, u2_f hx])
theorem c_signP (w : WF T R) (h : RelC c M R) (e1 : p = nI j) (hK : ∀ v, vp_nar .byte (v.toInt8.toInt32) = sgP R j → KI v M) : f_X2_signOfPlace c p M KI := by
  subst e1
  unfold f_X2_signOfPlace
  refine c_cAt w h ?_
  have c5 := cAt_le w (nI j)
  refine ⟨fun c1 => hK _ ?_, fun c1 => hK _ ?_⟩
  · have := chr_P ⟨cAt R (nI j), by omega⟩
    rw [this]
    unfold sgP
    rw [if_neg (fun e => c1 (by rw [e]; rfl))]
  · have e0 := nI_inj (b := 0) (by omega) (by decide) c1
    unfold sgP
    rw [if_pos e0]
    decide +kernel
theorem c_signS (w : WF T R) (g : LK R) (h : RelC c M R) (e1 : p = nI j) (hj : j + 1 < np R) (hK : ∀ v, vp_nar .byte (v.toInt8.toInt32) = sgS R j → KI v M) : f_X2_signOfSection c p M KI := by
  subst e1
  have n16 := w.np16
  unfold f_X2_signOfSection
  refine c_hasSection w h ?_
  rw [inR_nI (by omega) (by omega)]
  refine bF (fun _ => ?_) (fun c => by cases c)
  have hs := h.2.1 j (by omega)
  refine ⟨vp_in_nI (by omega) (by decide), ?_⟩
  rw [nI_clamp (by omega), hs.1, hs.2.2]
  refine ⟨fun c1 => ⟨vp_in_nI (by omega) (by decide), fun c2 => hK _ ?_, fun c2 => hK _ ?_⟩, fun c1 => hK _ ?_⟩
  · unfold sgS
    rw [if_neg c1, if_neg c2]
    decide +kernel
  · unfold sgS
    rw [if_neg c1, if_pos c2]
    decide +kernel
  · unfold sgS
    rw [if_pos c1]
    decide +kernel
/-- the class's loop -/
theorem c_write (g1 : Cur T M ci di) (hK : ∀ M', (∀ k, k ≠ 0 → k ≠ 698 → M' k = M k) → (∀ x, x ≠ 8 → M' 0 x = M 0 x) → M' 0 8 = nI (2 * np (M 700) - 1) → (∀ x, x < 2 * np (M 700) - 1 → M' 698 x = sgn (M 700) x) → KI (nI (2 * np (M 700) - 1)) M') : f_X12_writeCanal M KI := by
  unfold f_X12_writeCanal
  have w := g1.2.2.2.2.2.1
  have n16 := w.np16
  have n3 := w.np3
  have lk := g1.2.2.2.2.2.2.2
  have hci := g1.1
  intro M1 e1
  have at' : ∀ s : TM, (∀ k, k ≠ 0 → k ≠ 698 → s k = M k) → (∀ x, x ≠ 8 → s 0 x = M 0 x) → vp_in (s 0 5) 11 ∧ 27 + 61 * (s 0 5).toNatClampNeg = 27 + 61 * ci ∧ RelC (27 + 61 * ci) s (M 700) := fun s s1 s2 => by
    have g := g1.in11
    rw [s2 5 (by decide)]
    exact ⟨g.1, g.2.1, g1.2.2.2.2.1.frame (fun k h1 h2 => s1 k (by omega) (by omega)) w.nb5 w.no30⟩
  have eN : ∀ s : TM, RelC (27 + 61 * ci) s (M 700) → s (27 + 61 * ci) 0 = nI (np (M 700)) := fun s rl => by rw [rl.1.1]; exact w.1.1.1.1
  refine ⟨_, inv_loop (fun m (s : TM) k => f_X12_writeCanal_L7 KI m (nI k) s) (fun k s => (∀ x, x ≠ 0 → x ≠ 698 → s x = M x) ∧ (∀ x, x ≠ 8 → s 0 x = M 0 x) ∧ s 0 8 = nI (2 * k - 1) ∧ ∀ x, x < 2 * k - 1 → s 698 x = sgn (M 700) x) (np (M 700)) (fun m s hs => ?_) (fun m s k hk hs hL => ?_) (np (M 700)) 0 M1 (Nat.zero_add _) ⟨fun x h1 _ => by rw [e1, u2_n h1], fun x hx => by rw [e1, u2_f hx], by rw [e1, u2_s]; rfl, fun x hx => absurd hx (Nat.not_lt_zero _)⟩⟩
  · obtain ⟨s1, s2, s3, s4⟩ := hs
    obtain ⟨v1, v2, rl⟩ := at' s s1 s2
    rw [f_X12_writeCanal_L7, v2, eN s rl]
    refine ⟨v1, cT' (nI_le (Nat.le_refl _) (by omega)) ?_⟩
    rw [s3]
    exact hK s s1 s2 s3 s4
  · obtain ⟨s1, s2, s3, s4⟩ := hs
    obtain ⟨v1, v2, rl⟩ := at' s s1 s2
    rw [f_X12_writeCanal_L7, v2, eN s rl]
    refine ⟨v1, cN' (nI_ge hk (by omega)) ⟨fun c1 => ⟨v1, ?_⟩, fun c1 => ⟨v1, ?_⟩⟩⟩
    · have k0 : k = 0 := by
        refine Decidable.byContradiction (fun h => ?_)
        exact absurd c1 (nI_nle (by omega) (by omega))
      subst k0
      refine c_signP (j := 0) w rl rfl (fun v hv => ?_)
      refine c_wr s3 (by decide) hv (fun M2 m1 m2 m3 m4 m5 => hL M2 ⟨fun x h1 h2 => by rw [m1 x h1 h2, s1 x h1 h2], fun x hx => by rw [m2 x hx, s2 x hx], m3, fun x hx => ?_⟩)
      have : x = 0 := by omega
      subst this
      exact m4.trans (sgn_P (M 700) 0).symm
    · have k1 : 1 ≤ k := Nat.one_le_iff_ne_zero.2 (fun h => c1 (by rw [h]; decide))
      obtain ⟨j, rfl⟩ : ∃ j, k = j + 1 := ⟨k - 1, by omega⟩
      rw [nI_pred]
      refine c_signS (j := j) w lk rl rfl (by omega) (fun v hv => ?_)
      refine c_wr s3 (by omega) hv (fun M2 m1 m2 m3 m4 m5 => ?_)
      have t1 : ∀ x, x ≠ 0 → x ≠ 698 → M2 x = M x := fun x h1 h2 => by rw [m1 x h1 h2, s1 x h1 h2]
      have t2 : ∀ x, x ≠ 8 → M2 0 x = M 0 x := fun x hx => by rw [m2 x hx, s2 x hx]
      obtain ⟨v3, v4, rl2⟩ := at' M2 t1 t2
      refine ⟨v3, ?_⟩
      rw [v4]
      refine c_signP (j := j + 1) w rl2 rfl (fun v' hv' => ?_)
      rw [nI_1]
      refine c_wr m3 (by omega) hv' (fun M3 l1 l2 l3 l4 l5 => hL M3 ⟨fun x h1 h2 => by rw [l1 x h1 h2, t1 x h1 h2], fun x hx => by rw [l2 x hx, t2 x hx], by rw [l3]; rfl, fun x hx => ?_⟩)
      by_cases x1 : x = 2 * (j + 1)
      · subst x1
        rw [sgn_P, ← l4]
        congr 1
      · rw [l5 x (by omega)]
        by_cases x2 : x = 2 * j + 1
        · subst x2
          rw [sgn_S, ← m4]
          congr 1
        · rw [m5 x (by omega)]
          exact s4 x (by omega)
/-- the model writes one sign -/
theorem m_wr (hb : M 699 13 = nI n') (hn : n' < 32) (hK : ∀ M', (∀ k, k ≠ 699 → k ≠ 706 → M' k = M k) → (∀ x, x ≠ 13 → M' 699 x = M 699 x) → M' 699 13 = nI (n' + 1) → M' 706 n' = p → (∀ x, x ≠ n' → M' 706 x = M 706 x) → KV M') : f_X13_write p M KV := by
  unfold f_X13_write
  rw [hb]
  refine ⟨vp_in_nI hn (by decide), ?_⟩
  rw [nI_clamp (by omega)]
  intro M3 e3 M4 e4
  have h3 : M3 699 13 = nI n' := by rw [e3, u2_n (by decide)]; exact hb
  rw [h3, nI_1] at e4
  refine hK M4 (fun k k0 k1 => by rw [e4, u2_n k0, e3, u2_n k1]) (fun x hx => by rw [e4, u2_f hx, e3, u2_n (by decide)]) (by rw [e4, u2_s]) (by rw [e4, u2_n (by decide), e3, u2_s]) (fun x hx => by rw [e4, u2_n (by decide), e3, u2_f hx])
theorem m_write (w : WF T (M 700)) (lk : LK (M 700)) (h6 : M 699 6 = 0) (hK : ∀ M', (∀ k, k ≠ 699 → k ≠ 706 → M' k = M k) → (∀ x, x ≠ 8 → x ≠ 13 → M' 699 x = M 699 x) → M' 699 13 = nI (2 * np (M 700) - 1) → (∀ x, x < 2 * np (M 700) - 1 → M' 706 x = sgn (M 700) x) → KI (nI (2 * np (M 700) - 1)) M') : f_X13_writeCanal M KI := by
  unfold f_X13_writeCanal
  have n16 := w.np16
  have n3 := w.np3
  have ix := w.ix
  intro M1 e1 M2 e2
  have f1 : ∀ x, x ≠ 699 → M2 x = M x := fun x hx => by rw [e2, u2_n hx, e1, u2_n hx]
  have f2 : ∀ x, x ≠ 8 → x ≠ 13 → M2 699 x = M 699 x := fun x h1 h2 => by rw [e2, u2_f h2, e1, u2_f h1]
  have at' : ∀ s : TM, (∀ k, k ≠ 699 → k ≠ 706 → s k = M k) → (∀ x, x ≠ 8 → x ≠ 13 → s 699 x = M 699 x) → Rw s 700 ∧ s 700 = M 700 := fun s s1 s2 => ⟨Or.inl ⟨by rw [s2 6 (by decide) (by decide)]; exact h6, rfl⟩, s1 700 (by decide) (by decide)⟩
  refine ⟨_, inv_loop (fun m (s : TM) k => f_X13_writeCanal_L12 KI m (nI k) s) (fun k s => (∀ x, x ≠ 699 → x ≠ 706 → s x = M x) ∧ (∀ x, x ≠ 8 → x ≠ 13 → s 699 x = M 699 x) ∧ s 699 13 = nI (min (2 * k) (2 * np (M 700) - 1)) ∧ ∀ x, x < min (2 * k) (2 * np (M 700) - 1) → s 706 x = sgn (M 700) x) (np (M 700)) (fun m s hs => ?_) (fun m s k hk hs hL => ?_) (np (M 700)) 0 M2 (Nat.zero_add _) ⟨fun x h1 _ => f1 x h1, f2, by rw [e2, u2_s, show min (2 * 0) (2 * np (M 700) - 1) = 0 by omega]; rfl, fun x hx => absurd hx (by omega)⟩⟩
  · obtain ⟨s1, s2, s3, s4⟩ := hs
    obtain ⟨hr, hR⟩ := at' s s1 s2
    rw [f_X13_writeCanal_L12]
    refine ⟨hr.v' hR, vv1, ?_⟩
    rw [hr.rd' hR (x := 1) (i := 1) rfl (by decide), ix.1.1]
    refine cT' (nI_le (Nat.le_refl _) (by omega)) ?_
    rw [show min (2 * np (M 700)) (2 * np (M 700) - 1) = 2 * np (M 700) - 1 by omega] at s3 s4
    rw [s3]
    exact hK s s1 s2 s3 s4
  · obtain ⟨s1, s2, s3, s4⟩ := hs
    obtain ⟨hr, hR⟩ := at' s s1 s2
    rw [show min (2 * k) (2 * np (M 700) - 1) = 2 * k by omega] at s3 s4
    rw [f_X13_writeCanal_L12]
    refine ⟨hr.v' hR, vv1, ?_⟩
    rw [hr.rd' hR (x := 1) (i := 1) rfl (by decide), ix.1.1]
    refine cN' (nI_ge hk (by omega)) ?_
    refine atS hR (F := fun S => f_X13_countAt (nI k) S _) ?_
    refine m_cAt hr ix ?_
    rw [uR_self hR]
    have c5 := cAt_le w (nI k)
    have rest : ∀ s' : TM, (∀ x, x ≠ 699 → x ≠ 706 → s' x = M x) → (∀ x, x ≠ 8 → x ≠ 13 → s' 699 x = M 699 x) → s' 699 13 = nI (2 * k + 1) → (∀ x, x < 2 * k + 1 → s' 706 x = sgn (M 700) x) → f_X13_isSection (nI k) s' (fun r11 M10 => ((r11 = 0 → f_X13_writeCanal_L12 KI m (nI k + 1) M10) ∧ (¬ r11 = 0 → f_X13_whoIsIn (nI k) M10 (fun r15 M14 => ((r15 = (-1) → vp_in (M14 699 6) 2 ∧ vp_in ((10 : Int32) + nI k) 377 ∧ (((M14 (700 + (M14 699 6).toNatClampNeg) ((10 : Int32) + nI k).toNatClampNeg) ≤ 0 → f_X13_write (45 : Int32) M14 (fun M20 => f_X13_writeCanal_L12 KI m (nI k + 1) M20)) ∧ (¬ (M14 (700 + (M14 699 6).toNatClampNeg) ((10 : Int32) + nI k).toNatClampNeg) ≤ 0 → f_X13_write (124 : Int32) M14 (fun M21 => f_X13_writeCanal_L12 KI m (nI k + 1) M21)))) ∧ (¬ r15 = (-1) → f_X13_write (61 : Int32) M14 (fun M22 => f_X13_writeCanal_L12 KI m (nI k + 1) M22))))))) := fun s' t1 t2 t3 t4 => by
      obtain ⟨hr', hR'⟩ := at' s' t1 t2
      refine m_sect hr' hR' ix n3 ?_
      have fin : ∀ v, v = sgS (M 700) k → k + 1 < np (M 700) → f_X13_write v s' (fun M20 => f_X13_writeCanal_L12 KI m (nI k + 1) M20) := fun v ev hk1 => by
        refine m_wr t3 (by omega) (fun M3 l1 l2 l3 l4 l5 => ?_)
        rw [nI_1]
        refine hL M3 ⟨fun x h1 h2 => by rw [l1 x h1 h2, t1 x h1 h2], fun x h1 h2 => by rw [l2 x h2, t2 x h1 h2], by rw [l3]; congr 1; omega, fun x hx => ?_⟩
        by_cases x1 : x = 2 * k + 1
        · subst x1
          rw [l4, sgn_S, ev]
        · rw [l5 x x1]
          exact t4 x (by omega)
      by_cases hk1 : k + 1 < np (M 700)
      · rw [inR_nI (by omega) (by omega)]
        refine bF (fun _ => ?_) (fun c => by cases c)
        refine atS hR' (F := fun S => f_X13_whoIsIn (nI k) S _) ?_
        refine m_who hr' ix ?_
        rw [uR_self hR']
        obtain ⟨z, hz, ez⟩ := w.1.2.2.2.2.2.2.1 k (by omega)
        refine ⟨fun c1 => ⟨hr'.v' hR', vlt (n := 10 + k) (n10 k) (by omega) (by decide), ?_⟩, fun c1 => ?_⟩
        · rw [hr'.rd' hR' (n10 k) (by omega)]
          refine ⟨fun c2 => fin 45 ?_ hk1, fun c2 => fin 124 ?_ hk1⟩
          · have z0 : z = 0 := by
              refine Decidable.byContradiction (fun h => ?_)
              rw [ez] at c2
              exact absurd c2 (nI_nle (by omega) (by omega))
            unfold sgS
            rw [if_pos (by rw [ez, z0]; rfl)]
          · unfold sgS
            rw [if_neg (fun e => c2 (by rw [e]; decide)), if_pos c1]
        · refine fin 61 ?_ hk1
          unfold sgS
          rw [if_neg (fun e => c1 (lk.wh (by omega) e)), if_neg c1]
      · have : inR (nI k) (np (M 700) - 1) = false := by
          cases e : inR (nI k) (np (M 700) - 1) with
          | false => rfl
          | true =>
            obtain ⟨j, hj, ej⟩ := inR_of (by omega) e
            have := nI_inj (by omega) (by omega) ej
            omega
        rw [this]
        refine bF (fun c => by cases c) (fun _ => ?_)
        rw [nI_1]
        exact hL s' ⟨t1, t2, by rw [t3]; congr 1; omega, fun x hx => t4 x (by omega)⟩
    have one : ∀ v, v = sgP (M 700) k → ∀ F : TM → Prop, (∀ s' : TM, (∀ x, x ≠ 699 → x ≠ 706 → s' x = M x) → (∀ x, x ≠ 8 → x ≠ 13 → s' 699 x = M 699 x) → s' 699 13 = nI (2 * k + 1) → (∀ x, x < 2 * k + 1 → s' 706 x = sgn (M 700) x) → F s') → f_X13_write v s F := fun v ev F hF => by
      refine m_wr s3 (by omega) (fun M3 l1 l2 l3 l4 l5 => hF M3 (fun x h1 h2 => by rw [l1 x h1 h2, s1 x h1 h2]) (fun x h1 h2 => by rw [l2 x h2, s2 x h1 h2]) l3 (fun x hx => ?_))
      by_cases x1 : x = 2 * k
      · subst x1
        rw [l4, sgn_P, ev]
      · rw [l5 x x1]
        exact s4 x (by omega)
    refine ⟨fun c1 => one _ ?_ _ rest, fun c1 => one _ ?_ _ rest⟩
    · unfold sgP
      rw [if_neg (fun e => c1 (by rw [e]; rfl))]
      exact nI_add 48 _
    · unfold sgP
      rw [if_pos (nI_inj (b := 0) (by omega) (by decide) c1)]
theorem q_writeCanal (g : Inv T M) (hK : ∀ M', Inv T M' → K M') : f_X12_writeCanal M (fun r2 M1 => f_X13_writeCanal M1 (fun r4 M3 => ((r2 = r4 → K M3) ∧ (¬ r2 = r4 → False)))) := by
  obtain ⟨ci, di, nx, h, g1, g2, g3, g4, g5⟩ := id g
  have w := g1.2.2.2.2.2.1
  have n16 := w.np16
  have hci := g1.1
  refine c_write g1 (fun M1 a1 a2 a3 a4 => ?_)
  have e700 : M1 700 = M 700 := a1 700 (by decide) (by decide)
  refine m_write (T := T) (by rw [e700]; exact w) (by rw [e700]; exact g1.2.2.2.2.2.2.2) (by rw [a1 699 (by decide) (by decide)]; exact g1.2.2.2.1) (fun M2 b1 b2 b3 b4 => ?_)
  rw [e700] at b3 b4 ⊢
  refine cT' rfl (hK M2 ?_)
  have fr : ∀ k, k ≠ 0 → k ≠ 698 → k ≠ 699 → k ≠ 706 → M2 k = M k := fun k h1 h2 h3 h4 => by rw [b1 k h3 h4, a1 k h1 h2]
  have f0 : ∀ x, x ≠ 8 → M2 0 x = M 0 x := fun x hx => by rw [b1 0 (by decide) (by decide), a2 x hx]
  have f9 : ∀ x, x ≠ 8 → x ≠ 13 → M2 699 x = M 699 x := fun x h1 h2 => by rw [b2 x h1 h2, a1 699 (by decide) (by decide)]
  have c1 : Cur T M2 ci di := by
    obtain ⟨q1, q2, q3, q4, q5, q6, q7⟩ := g1
    unfold Cur
    rw [f0 5 (by decide), f0 6 (by decide), f9 6 (by decide) (by decide), fr 700 (by decide) (by decide) (by decide) (by decide)]
    exact ⟨q1, q2, q3, q4, q5.frame (fun k h1 h2 => fr k (by omega) (by omega) (by omega) (by omega)) q6.nb5 q6.no30, q6, q7⟩
  refine ⟨ci, di, nx, h, c1, g2.fr (fr 25 (by decide) (by decide) (by decide) (by decide)) (fun k h1 h2 => fr k (by omega) (by omega) (by omega) (by omega)) (f9 7 (by decide) (by decide)) (fr 705 (by decide) (by decide) (by decide) (by decide)), g3.fr (f0 4 (by decide)) (fun k h1 h2 => fr k (by omega) (by omega) (by omega) (by omega)) (f9 11 (by decide) (by decide)) (fr 704 (by decide) (by decide) (by decide) (by decide)), g4.fr ?_ (fr 2 (by decide) (by decide) (by decide) (by decide)) ⟨f9 15 (by decide) (by decide), f9 9 (by decide) (by decide), f9 22 (by decide) (by decide)⟩ (fr 707 (by decide) (by decide) (by decide) (by decide)), ?_⟩
  · rw [fr 1 (by decide) (by decide) (by decide) (by decide)]
    exact ⟨rfl, rfl, rfl⟩
  · exact ⟨2 * np (M 700) - 1, by omega, by rw [b1 0 (by decide) (by decide)]; exact a3, b3, fun x hx => by rw [b1 698 (by decide) (by decide), a4 x hx, b4 x hx]⟩
end WRITE
