/-! p65: what the law says comes into the class's text, byte by byte -/
section SAY2
variable {M M1 M' : TM} {X : Nat → Nat} {KV : TM → Prop} {KI : Int32 → TM → Prop} {f n j y b k n9 : Nat} {p : Int32}
theorem z_65 (hK : ∀ M', (∀ i, i ≠ 699 → M' i = M i) → (∀ x, 5 ≤ x → M' 699 x = M 699 x) → (∀ x, x < 5 → M' 699 x = 0) → KV M') : ∃ n65, f_L_add_L65 p KV n65 (0 : Int32) M := by
  have key : ∀ n k M1, k + n = 5 → (∀ i, i ≠ 699 → M1 i = M i) → (∀ x, 5 ≤ x → M1 699 x = M 699 x) → (∀ x, x < k → M1 699 x = 0) → f_L_add_L65 p KV (n + 1) (nI k) M1 := by
    intro n
    induction n with
    | zero =>
      intro k M1 hk h1 h2 h3
      unfold f_L_add_L65
      exact cT' (nI_le (a := 5) (by omega) (by omega)) (hK M1 h1 h2 (fun x hx => h3 x (by omega)))
    | succ n ih =>
      intro k M1 hk h1 h2 h3
      unfold f_L_add_L65
      refine cN' (nI_ge (b := 5) (by omega) (by decide)) ⟨vp_in_nI (by omega) (by decide), fun M2 e => ?_⟩
      rw [nI_clamp (by omega)] at e
      rw [nI_1]
      refine ih (k + 1) M2 (by omega) (fun i hi => by rw [e, u2_n hi, h1 i hi]) (fun x hx => by rw [e, u2_f (by omega), h2 x hx]) (fun x hx => ?_)
      by_cases c : x = k
      · rw [e, c, u2_s]
      · rw [e, u2_f c, h3 x (by omega)]
  exact ⟨_, key 5 0 M rfl (fun _ _ => rfl) (fun _ _ => rfl) (fun x hx => absurd hx (Nat.not_lt_zero x))⟩
theorem add_go (hX : ∀ i, X i < 128) (g : SB X f M) (e : p = nI (X f)) (hf : 20 * (f / 20) + 20 ≤ 500) (hK : ∀ M', SB X (f + 1) M' → FrS M M' → KV M') : f_L_add p M KV := by
  obtain ⟨g1, g2, g3, g4⟩ := g
  obtain ⟨o, ho⟩ : ∃ o, o = 20 * (f / 20) + 4 * (f % 20 / 4) := ⟨_, rfl⟩
  have hy : f % 4 < 4 := Nat.mod_lt _ (by decide)
  have hof : o + f % 4 = f := by omega
  have e5 : M 699 (5 : Int32).toNatClampNeg = nI f := g1
  have e20 : (nI f - nI f / (20 : Int32) * (20 : Int32)) / (4 : Int32) = nI (f % 20 / 4) := by
    rw [show (20 : Int32) = nI 20 from rfl, show (4 : Int32) = nI 4 from rfl, pk_rem (by omega) (by decide) (by decide), pk_div (by omega) (by decide) (by decide)]
  have hj : f % 20 / 4 < 5 := by omega
  have v5 : vp_in (5 : Int32) 6 := vp_in_nI (n := 5) (by decide) (by decide)
  have vj : vp_in (nI (f % 20 / 4)) 6 := vp_in_nI (by omega) (by decide)
  unfold f_L_add
  rw [e5, e20, nI_clamp (show f % 20 / 4 < 2 ^ 31 by omega)]
  refine ⟨v5, vj, v5, vj, fun M5 m5 => ?_⟩
  have ew : (M 699 (f % 20 / 4)) ||| (p <<< (((24 : Int32) - ((8 : Int32) * (nI f - nI f / (4 : Int32) * (4 : Int32)))) &&& 31)) = nI (p4w (qb X (f + 1)) o) := by
    rw [show (nI f - nI f / (4 : Int32) * (4 : Int32)) = nI (f % 4) from pk_rem (d := 4) (by omega) (by decide) (by decide), e, shl_k ⟨X f, hX f⟩ ⟨f % 4, hy⟩, g4 _ hj, ← ho]
    have := p4w_add (y := f % 4) hX o hy
    rw [hof] at this
    exact this
  rw [ew] at m5
  refine ⟨v5, v5, fun M8 m8 => ?_⟩
  have h55 : M5 699 5 = nI f := by rw [m5, u2_f (by omega)]; exact g1
  have m8' : M8 = u2 M5 699 5 (nI (f + 1)) := by
    rw [m8]
    show u2 M5 699 5 (M5 699 5 + 1) = _
    rw [h55, nI_1]
  have h85 : M8 699 5 = nI (f + 1) := by rw [m8', u2_s]
  have w8 : ∀ k, k < 5 → M8 699 k = nI (p4w (qb X (f + 1)) (20 * (f / 20) + 4 * k)) := fun k hk => by
    rw [m8', u2_f (by omega), m5]
    by_cases c : k = f % 20 / 4
    · rw [c, u2_s, ho]
    · rw [u2_f c, g4 k hk]
      have q : ∀ i, i ≠ f → qb X f i = qb X (f + 1) i := fun i hi => by
        unfold qb
        by_cases c1 : i < f
        · rw [if_pos c1, if_pos (by omega)]
        · rw [if_neg c1, if_neg (by omega)]
      unfold p4w
      rw [q _ (by omega), q _ (by omega), q _ (by omega), q _ (by omega)]
  have f8 : ∀ i, i ≠ 699 → M8 i = M i := fun i hi => by rw [m8', u2_n hi, m5, u2_n hi]
  refine ⟨v5, ?_⟩
  rw [show M8 699 (5 : Int32).toNatClampNeg = nI (f + 1) from h85, show (nI (f + 1) - nI (f + 1) / (20 : Int32) * (20 : Int32)) = nI ((f + 1) % 20) from pk_rem (d := 20) (by omega) (by decide) (by decide)]
  by_cases hz : (f + 1) % 20 = 0
  · refine cT' (by rw [hz]; rfl) ⟨vp_in_nI (n := 0) (by decide) (by decide), vp_in_nI (n := 1) (by decide) (by decide), vp_in_nI (n := 2) (by decide) (by decide), vp_in_nI (n := 3) (by decide) (by decide), vp_in_nI (n := 4) (by decide) (by decide), ?_⟩
    refine c_app (f := 20 * (f / 20)) (by rw [f8 1 (by decide)]; exact g2) (by omega) (fun h => absurd h (by omega)) (fun M9 _ a1 a2 a3 a4 a5 => ?_)
    refine z_65 (fun M10 b1 b2 b3 => hK M10 ?_ ?_)
    · have hff : 20 * ((f + 1) / 20) = f + 1 := by omega
      have hfg : 20 * (f / 20) + 20 = f + 1 := by omega
      refine ⟨?_, ?_, fun i hi => ?_, fun k hk => ?_⟩
      · rw [b2 5 (by decide), a1 699 (by decide) (by decide)]; exact h85
      · rw [hff, b1 1 (by decide), a3, hfg]
      · rw [b1 2 (by decide)]
        by_cases c : i < 20 * (f / 20)
        · rw [a5 i c, f8 2 (by decide)]
          exact g3 i c
        · obtain ⟨y', hy'⟩ : ∃ y', i = 20 * (f / 20) + y' := ⟨i - 20 * (f / 20), by omega⟩
          subst hy'
          have hy20 : y' < 20 := by omega
          have hb := a4 y' hy20
          have eb : btk (p5 (M8 699 (0 : Int32).toNatClampNeg) (M8 699 (1 : Int32).toNatClampNeg) (M8 699 (2 : Int32).toNatClampNeg) (M8 699 (3 : Int32).toNatClampNeg) (M8 699 (4 : Int32).toNatClampNeg)) y' = nI (X (20 * (f / 20) + y')) := by
            have ep : p5 (M8 699 (0 : Int32).toNatClampNeg) (M8 699 (1 : Int32).toNatClampNeg) (M8 699 (2 : Int32).toNatClampNeg) (M8 699 (3 : Int32).toNatClampNeg) (M8 699 (4 : Int32).toNatClampNeg) (y' / 4) = nI (p4w (qb X (f + 1)) (20 * (f / 20) + 4 * (y' / 4))) := by
              rw [← w8 _ (by omega)]
              rcases (show y' / 4 = 0 ∨ y' / 4 = 1 ∨ y' / 4 = 2 ∨ y' / 4 = 3 ∨ y' / 4 = 4 by omega) with c | c | c | c | c <;> rw [c] <;> rfl
            unfold btk
            rw [ep, bt_w hX _ (Nat.mod_lt _ (by decide)), show 20 * (f / 20) + 4 * (y' / 4) + y' % 4 = 20 * (f / 20) + y' by omega]
            unfold qb
            rw [if_pos (by omega)]
          rw [eb] at hb
          obtain ⟨v, v1, v2, v3, -⟩ := hb
          have hxi := hX (20 * (f / 20) + y')
          have : X (20 * (f / 20) + y') = v := nI_inj (by omega) (by omega) v2
          rw [v3 (by omega), ← this]
      · rw [b3 k hk]
        have q : ∀ i, f + 1 ≤ i → qb X (f + 1) i = 0 := fun i hi => if_neg (by omega)
        unfold p4w
        rw [q _ (by omega), q _ (by omega), q _ (by omega), q _ (by omega)]
        rfl
    · exact ⟨fun i i1 i2 i3 => by rw [b1 i i3, a1 i i1 i2, f8 i i3], fun x hx => by rw [b1 1 (by decide), a2 x hx, f8 1 (by decide)]⟩
  · refine cN' (nI_ne0 (by omega) (by omega)) (hK M8 ⟨h85, ?_, fun i hi => ?_, fun k hk => ?_⟩ ⟨fun i i1 i2 i3 => f8 i i3, fun x hx => by rw [f8 1 (by decide)]⟩)
    · rw [show (f + 1) / 20 = f / 20 by omega, f8 1 (by decide)]; exact g2
    · rw [show (f + 1) / 20 = f / 20 by omega] at hi
      rw [f8 2 (by decide)]
      exact g3 i hi
    · rw [show (f + 1) / 20 = f / 20 by omega]
      exact w8 k hk
/-- the string's letters, one by one -/
theorem ch_k : ∀ v : Fin 128, (((nI v.val) &&& (255 : Int32)).toUInt32 % 65536).toInt32 = nI v.val := by decide +kernel
theorem say_go (hX : ∀ i, X i < 128) (h9 : n9 ≤ 480) (hM : M 700 1 = 0 ∧ ∀ i, i < n9 → M 701 i = nI (X i)) (g : SB X 0 M) (hK : ∀ M', SB X n9 M' → FrS M M' → KV M') : f_L_say n9 M KV := by
  have key : ∀ n k M1, k + n = n9 → SB X k M1 → FrS M M1 → f_L_say_L2 n9 KV (n + 1) (nI k) M1 := by
    intro n
    induction n with
    | zero =>
      intro k M1 hk g1 f1
      have e0 : M1 700 1 = 0 := by rw [f1.1 700 (by decide) (by decide) (by decide)]; exact hM.1
      unfold f_L_say_L2 f_DJ0_length_8abf5 f_DJ0_coder_7d493
      rw [e0]
      refine ⟨rfl, cT' ?_ (hK M1 (by rw [← show k = n9 by omega]; exact g1) f1)⟩
      rw [show (nI n9 >>> ((0 : Int32) &&& 31)) = nI n9 from sb_shr0 _]
      exact nI_le (by omega) (by omega)
    | succ n ih =>
      intro k M1 hk g1 f1
      have e0 : M1 700 1 = 0 := by rw [f1.1 700 (by decide) (by decide) (by decide)]; exact hM.1
      have ek : M1 701 k = nI (X k) := by rw [f1.1 701 (by decide) (by decide) (by decide)]; exact hM.2 k (by omega)
      unfold f_L_say_L2 f_DJ0_length_8abf5 f_DJ0_coder_7d493
      rw [e0]
      refine ⟨rfl, cN' ?_ ?_⟩
      · rw [show (nI n9 >>> ((0 : Int32) &&& 31)) = nI n9 from sb_shr0 _]
        exact nI_ge (by omega) (by omega)
      · unfold f_DJ0_charAt_5068e f_DJ0_isLatin1_aae02
        rw [e0]
        refine cT rfl (cN' (by decide) ?_)
        unfold f_DJ1_charAt_3b067 f_J0_checkIndex_df160
        intro v1 hv1
        unfold f_J3_checkIndex_8e157
        refine cN' (nI_pos (by omega)) (cT' (nI_lt (by omega) (by omega)) ⟨vp_in_nI (by omega) (by omega), ?_⟩)
        rw [nI_clamp (by omega), ek, ch_k ⟨X k, hX k⟩]
        refine add_go hX g1 rfl (by omega) (fun M2 g2 f2 => ?_)
        rw [nI_1]
        exact ih (k + 1) M2 (by omega) g2 (f1.trans f2)
  exact ⟨_, key n9 0 M (by omega) g (FrS.refl M)⟩
/-- the rest is filled up; how many were said -/
theorem end_go (hX : ∀ i, X i < 128) (hn : n ≤ 480) (hs : ∀ i, n ≤ i → X i = 32) (g : SB X n M) (hK : ∀ M' F, n ≤ F → F ≤ 500 → M' 1 1 = nI F → (∀ i, i < F → M' 2 i = nI (X i)) → FrS M M' → KI (nI n) M') : f_L_end M KI := by
  have key : ∀ m k M1, n ≤ k → k + m = 20 * ((n + 19) / 20) → SB X k M1 → FrS M M1 → f_L_end_L4 KI (m + 1) (nI n) M1 := by
    intro m
    induction m with
    | zero =>
      intro k M1 h1 h2 g1 f1
      obtain ⟨a1, a2, a3, a4⟩ := g1
      unfold f_L_end_L4
      refine ⟨vp_in_nI (n := 5) (by decide) (by decide), ?_⟩
      rw [show M1 699 (5 : Int32).toNatClampNeg = nI k from a1, show (nI k - nI k / (20 : Int32) * (20 : Int32)) = nI (k % 20) from pk_rem (d := 20) (by omega) (by decide) (by decide)]
      refine cT' (by rw [show k % 20 = 0 by omega]; rfl) ⟨vp_in_nI (n := 5) (by decide) (by decide), fun M5 e => ?_⟩
      have hk : 20 * (k / 20) = k := by omega
      rw [hk] at a2 a3
      refine hK M5 k h1 (by omega) (by rw [e, u2_n (by decide)]; exact a2) (fun i hi => by rw [e, u2_n (by decide)]; exact a3 i hi) ⟨fun i i1 i2 i3 => by rw [e, u2_n i3, f1.1 i i1 i2 i3], fun x hx => by rw [e, u2_n (by decide), f1.2 x hx]⟩
    | succ m ih =>
      intro k M1 h1 h2 g1 f1
      by_cases hz : k % 20 = 0
      · exfalso
        omega
      · unfold f_L_end_L4
        refine ⟨vp_in_nI (n := 5) (by decide) (by decide), ?_⟩
        rw [show M1 699 (5 : Int32).toNatClampNeg = nI k from g1.1, show (nI k - nI k / (20 : Int32) * (20 : Int32)) = nI (k % 20) from pk_rem (d := 20) (by omega) (by decide) (by decide)]
        refine cN' (nI_ne0 (by omega) (by omega)) ?_
        refine add_go hX g1 (by rw [hs k h1]; rfl) (by omega) (fun M2 g2 f2 => ?_)
        exact ih (k + 1) M2 (by omega) (by omega) g2 (f1.trans f2)
  unfold f_L_end
  refine ⟨vp_in_nI (n := 5) (by decide) (by decide), ?_⟩
  rw [show M 699 (5 : Int32).toNatClampNeg = nI n from g.1]
  exact ⟨_, key (20 * ((n + 19) / 20) - n) n M (Nat.le_refl _) (by omega) g (FrS.refl M)⟩
end SAY2
