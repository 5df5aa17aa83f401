/-! the script's doing: the model's blocks and repeats -/
def FrD (M M' : TM) : Prop := (∀ i, i ≠ 699 → i ≠ 700 → M' i = M i) ∧ ∀ j, j ≠ 10 → j ≠ 27 → M' 699 j = M 699 j
def Mst (T0 : Nat) (C : CmT) (a b : Nat) (z : ZZ) (M : TM) : Prop := Rw M 700 ∧ M 700 = z.1 ∧ Zok T0 z ∧ M 699 27 = nI z.2 ∧ Mc M C a b
def RepM (T0 : Nat) (C : CmT) (l : Nat) : Prop := ∀ (i b : Nat) (z : ZZ) (M : TM) (KI : Int32 → TM → Prop), Gd C l i b → i < b → b ≤ 20 → C i 0 = 8 → Mst T0 C i b z M → T0 + z.2 + StC l + 1 < 2 ^ 31 → (∀ M', FrD M M' → M' 700 = (dR C l i z).2.1 → M' 699 27 = nI (dR C l i z).2.2 → KI (bi (dR C l i z).1) M') → f_X13_isRepeated (f_X13_areDoneR l) (nI i) M KI
section MBLOCKS
variable {T0 : Nat} {z z' : ZZ} {M M1 M2 M' S : TM} {C C' : CmT} {R R' : Nat → Int32} {KV : TM → Prop} {KI : Int32 → TM → Prop} {a b c d e f i j k l m v B x x' nxt lo hi r : Nat} {p q p1 p2 p3 p4 : Int32}
theorem FrD.refl (M : TM) : FrD M M := ⟨fun _ _ _ => rfl, fun _ _ _ => rfl⟩
theorem FrD.trans (h : FrD M M1) (g : FrD M1 M') : FrD M M' := ⟨fun i i1 i2 => (g.1 i i1 i2).trans (h.1 i i1 i2), fun j j1 j2 => (g.2 j j1 j2).trans (h.2 j j1 j2)⟩
theorem FrD.rw (h : FrD M M') (hr : Rw M 700) : Rw M' 700 := by
  rcases hr with ⟨h1, h2⟩ | ⟨h1, h2⟩
  · exact Or.inl ⟨by rw [h.2 6 (by decide) (by decide)]; exact h1, h2⟩
  · cases h2
theorem Mc.sub (h : Mc M C a b) (h1 : a ≤ i) (h2 : j ≤ b) : Mc M C i j := fun k k1 k2 => h k (by omega) (by omega)
theorem Mc.toD (h : Mc M C a b) (f : FrD M M') : Mc M' C a b := h.congr (fun i _ _ => by rw [f.1 708 (by decide) (by decide)]) (fun _ _ _ => rfl)
theorem m_LB (hrep : RepM T0 C l) (hb : b ≤ 20) (KI : Int32 → TM → Prop) : ∀ f i z M, i ≤ 20 → b ≤ i + f → Gd C l i b → Mst T0 C i b z M → T0 + z.2 + f * StC l + 1 < 2 ^ 31 → (∀ M', FrD M M' → M' 700 = (dL C (dR C l) f i b z).2.1 → M' 699 27 = nI (dL C (dR C l) f i b z).2.2 → KI (bi (dL C (dR C l) f i b z).1) M') → f_X13_areDone_L2 (fun p1 M K => f_X13_isRepeated (f_X13_areDoneR l) p1 M K) p1 p2 KI (f + 1) (nI b) (nI i) M := by
  have stop : ∀ f i z M, i ≤ 20 → b ≤ i → Mst T0 C i b z M → (∀ M', FrD M M' → M' 700 = (dL C (dR C l) f i b z).2.1 → M' 699 27 = nI (dL C (dR C l) f i b z).2.2 → KI (bi (dL C (dR C l) f i b z).1) M') → f_X13_areDone_L2 (fun p1 M K => f_X13_isRepeated (f_X13_areDoneR l) p1 M K) p1 p2 KI (f + 1) (nI b) (nI i) M := fun f i z M h20 hbi cs hK => by
    obtain ⟨c0, c1, c2, c3, c4⟩ := cs
    rw [f_X13_areDone_L2]
    rw [dL_end hbi] at hK
    exact cT' (nI_le hbi (by omega)) (hK M (FrD.refl M) c1 c3)
  intro f
  induction f with
  | zero =>
    intro i z M h20 hf g cs hT hK
    exact stop 0 i z M h20 (by omega) cs hK
  | succ f ih =>
    intro i z M h20 hf g cs hT hK
    by_cases hbi : b ≤ i
    · exact stop (f + 1) i z M h20 hbi cs hK
    · have hxb : i < b := by omega
      obtain ⟨c0, c1, c2, c3, c4⟩ := cs
      rw [f_X13_areDone_L2]
      have e5 : (5 : Int32) * nI i = nI (5 * i) := nI_mul 5 i
      rw [e5, p2n, nI_1]
      rw [Nat.succ_mul] at hT
      have sp := StC_pos l
      have tB : T0 + z.2 + 1 < 2 ^ 31 := by omega
      have tC : T0 + (z.2 + 1) + f * StC l + 1 < 2 ^ 31 := by omega
      have tD : T0 + z.2 + StC l + 1 < 2 ^ 31 := by omega
      have i2 : i + 1 ≤ 20 := by omega
      have i3 : b ≤ i + 1 + f := by omega
      have i5 : i < 20 := by omega
      have i6 : i ≤ i + 1 := by omega
      have i7 : 5 * i < 100 := by omega
      have i8 : 5 * i < 2 ^ 31 := by omega
      have i9 : 5 * i + 2 < 100 := by omega
      have i10 : 5 * i + 2 < 2 ^ 31 := by omega
      obtain ⟨k1, k2, k3⟩ := c4 i (Nat.le_refl _) hxb
      refine cN' (nI_ge hxb (by omega)) ⟨vp_in_nI i7 (by decide), ?_⟩
      rw [nI_clamp i8, k1]
      obtain ⟨hw, h8g⟩ := g.at8 hxb hb
      refine ⟨fun h8 => ?_, fun h8 => ?_⟩
      · obtain ⟨v1, v2, v3, v4⟩ := hw.v8 h8
        have kA : ∀ j, j < (nl (vbC C i)).length → M 708 (5 * i + (1 + j)) = C i (1 + j) := k2
        rw [dL_n hxb h8] at hK
        refine m_does c0 c1 c2.1 tB v1 i5 v3 (k1.trans v2) kA (fun ok q => ?_) (fun ok q hq => ?_)
        · rw [if_pos ok] at hK
          refine cT' rfl ?_
          intro M9 e9
          have z1 := zok_do c2 hw h8 tB ok
          have fe : FrD M M9 := ⟨fun j j1 j2 => by rw [e9, u2_n j1, uR_n j2, u2_n j1], fun j j1 j2 => by rw [e9, u2_f j2, uR_n (by decide), u2_f j1]⟩
          have r9 : M9 700 = do1 (C i) (vbC C i) z.1 := by rw [e9, u2_n (by decide), uR_s]
          have e27 : M9 699 27 = nI (z.2 + 1) := by rw [e9, u2_s, uR_n (by decide), u2_f (by decide), c3, nI_1]
          exact ih (i + 1) (do1 (C i) (vbC C i) z.1, z.2 + 1) M9 i2 i3 (g.sub l i6) ⟨fe.rw c0, r9, z1, e27, (c4.sub i6 (Nat.le_refl _)).toD fe⟩ tC (fun M3 f3 r3 e3 => hK M3 (fe.trans f3) r3 e3)
        · have ok' : ¬ ok1 (C i) (vbC C i) z.1 = true := by rw [ok]; decide
          rw [if_neg ok'] at hK
          exact cN' hq (hK M (FrD.refl M) c1 c3)
      · obtain ⟨l', mm, q, el, g1, g2, g3, g4, g5, g6⟩ := h8g h8
        clear h8g
        rw [dL_8 hxb h8, g3, nI_clamp (by omega)] at hK
        obtain ⟨pz, pb⟩ := pure_R (T0 := T0) g hxb hb h8 z c2 tD
        refine hrep i b z M _ g hxb hb h8 ⟨c0, c1, c2, c3, c4⟩ tD (fun M1 f1 r1 e1 => ?_)
        refine bT (fun ht => ?_) (fun ht => ?_)
        · rw [if_pos ht] at hK
          intro M17 e17
          have fe : FrD M M17 := f1.trans ⟨fun j j1 _ => by rw [e17, u2_n j1], fun j _ j2 => by rw [e17, u2_f j2]⟩
          have e27 : M17 699 27 = nI (dR C l i z).2.2 := by rw [e17, u2_s, e1, Int32.add_zero]
          refine ⟨vp_in_nI i9 (by decide), ?_⟩
          rw [nI_clamp i10, fe.1 708 (by decide) (by decide), k3 h8, g3]
          exact ih q (dR C l i z).2 M17 (by omega) (by omega) (g.sub l (by omega)) ⟨fe.rw c0, by rw [e17, u2_n (by decide)]; exact r1, pz, e27, (c4.sub (by omega) (Nat.le_refl _)).toD fe⟩ (by omega) (fun M3 f3 r3 e3 => hK M3 (fe.trans f3) r3 e3)
        · have ht' : ¬ (dR C l i z).1 = true := by rw [ht]; decide
          rw [if_neg ht'] at hK
          exact hK M1 f1 r1 e1
theorem m_rep : ∀ l, RepM T0 C l := by
  intro l
  induction l with
  | zero =>
    intro i b z M KI g h hb h8
    exact absurd h8 (g i (Nat.le_refl _) h).2
  | succ l ih =>
    intro i b z M KI g h hb h8 cs hT hK
    obtain ⟨c0, c1, c2, c3, c4⟩ := cs
    obtain ⟨hw, h8g⟩ := g.at8 h hb
    obtain ⟨l', m, q, el, g1, g2, g3, g4, g5, g6⟩ := h8g h8
    clear h8g hw
    obtain rfl : l = l' := by omega
    obtain ⟨k1, k2, k3⟩ := c4 i (Nat.le_refl _) h
    have k11 : M 708 (5 * i + 1) = nI m := by
      rw [← g2]
      refine k2 0 ?_
      rw [h8]
      decide
    have k5 : M 708 (5 * i + 2) = nI q := by rw [k3 h8]; exact g3
    clear k3 k2
    rw [dR_eq g2 g3 g1 (by omega)] at hK
    unfold f_X13_isRepeated
    have hsl : StC (l + 1) = 5 * (21 * StC l) := rfl
    have e5 : (5 : Int32) * nI i = nI (5 * i) := nI_mul 5 i
    have loop : ∀ r t z M, t + r = m → Rw M 700 → M 700 = z.1 → Zok T0 z → M 699 27 = nI z.2 → Mc M C (i + 1) q → M 708 (5 * i + 1) = nI m → M 708 (5 * i + 2) = nI q → T0 + z.2 + r * (21 * StC l) + 1 < 2 ^ 31 → (∀ M', FrD M M' → M' 700 = (dI (fun z => dL C (dR C l) 21 (i + 1) q z) r z).2.1 → M' 699 27 = nI (dI (fun z => dL C (dR C l) 21 (i + 1) q z) r z).2.2 → KI (bi (dI (fun z => dL C (dR C l) 21 (i + 1) q z) r z).1) M') → f_X13_isRepeated_L2 (f_X13_areDoneR (l + 1)) (nI i) KI (r + 1) (nI i) (nI t) M := by
      intro r
      induction r with
      | zero =>
        intro t z M ht r0 r1 z1 e1 cc h1 h5 hT hK
        rw [f_X13_isRepeated_L2, e5, nI_1]
        refine ⟨vp_in_nI (by omega) (by decide), ?_⟩
        rw [nI_clamp (by omega), h1]
        exact cT' (nI_le (by omega) (by omega)) (hK M (FrD.refl M) r1 e1)
      | succ r ihr =>
        intro t z M ht r0 r1 z1 e1 cc h1 h5 hT hK
        rw [f_X13_isRepeated_L2, e5, nI_1, p2n, nI_1, nI_1]
        refine ⟨vp_in_nI (by omega) (by decide), ?_⟩
        rw [nI_clamp (n := 5 * i + 1) (by omega), h1, nI_clamp (n := 5 * i + 2) (by omega), h5]
        rw [Nat.succ_mul] at hT
        refine cN' (nI_ge (by omega) (by omega)) ⟨vp_in_nI (by omega) (by decide), ?_⟩
        have hE : dI (fun z => dL C (dR C l) 21 (i + 1) q z) (r + 1) z = if (dL C (dR C l) 21 (i + 1) q z).1 = true then dI (fun z => dL C (dR C l) 21 (i + 1) q z) r (dL C (dR C l) 21 (i + 1) q z).2 else (false, (dL C (dR C l) 21 (i + 1) q z).2) := rfl
        rw [hE] at hK
        obtain ⟨pz, pb⟩ := pure_L (T0 := T0) l 21 (i + 1) q g6 (by omega) z z1 (by omega)
        refine ⟨22, m_LB ih (by omega) _ 21 (i + 1) z M (by omega) (by omega) g6 ⟨r0, r1, z1, e1, cc⟩ (by omega) (fun M1 f1 r1' e1' => ?_)⟩
        generalize dL C (dR C l) 21 (i + 1) q z = y at hK pz pb r1' e1' ⊢
        refine bT (fun ht' => ?_) (fun ht' => ?_)
        · rw [if_pos ht'] at hK
          exact ihr (t + 1) y.2 M1 (by omega) (f1.rw r0) r1' pz e1' (cc.toD f1) (by rw [f1.1 708 (by decide) (by decide)]; exact h1) (by rw [f1.1 708 (by decide) (by decide)]; exact h5) (by omega) (fun M2 f2 r2 e2 => hK M2 (f1.trans f2) r2 e2)
        · have ht2 : ¬ y.1 = true := by rw [ht']; decide
          rw [if_neg ht2] at hK
          exact hK M1 f1 r1' e1'
    have hmul : m * (21 * StC l) ≤ 5 * (21 * StC l) := Nat.mul_le_mul_right _ g1
    exact ⟨m + 1, loop m 0 z M (by omega) c0 c1 c2 c3 (c4.sub (by omega) g5) k11 k5 (by omega) hK⟩
/-- the whole script done, in both -/
theorem c_doAll (hc : 27 ≤ c) (g : Gd C 2 0 b) (hb : b ≤ 20) (h31 : M 3 1 = nI b) (rl : RelC c M R) (w : WF T0 R) (nbR : Nb R) (cc : Cc M C 0 b) (hT : T0 + 21 * StC 2 + 1 < 2 ^ 31) (hK : ∀ M', FrE c M M' → RelC c M' (dL C (dR C 2) 21 0 b (R, 0)).2.1 → KI (nI (dL C (dR C 2) 21 0 b (R, 0)).2.2) M') : f_X8_executeOn c M KI := by
  unfold f_X8_executeOn
  intro M1 e1
  have fe : FrE c M M1 := by rw [e1]; exact u32
  have h31' : M1 3 1 = nI b := by rw [fe.2 1 (by decide)]; exact h31
  rw [h31']
  refine ⟨b + 1, c_L6 (l := 2) (d := 0) (T0 := T0) (C := C) hc (c_rep hc 2 0 rfl) hb _ b 0 0 0 21 (R, 0) M1 (Nat.sub_zero b) (by decide) (Or.inl ⟨Nat.le_refl _, rfl⟩) (by decide) (by omega) g ⟨rl.frame (fun k h1 h2 => by rw [e1, u2_n (by omega)]) w.nb5 w.no30, ⟨w, nbR⟩, by rw [e1, u2_s]; rfl, cc.toE hc hb fe⟩ hT (fun M2 f2 r2 e2 => ?_)⟩
  rw [e2]
  exact hK M2 (fe.trans f2) r2
theorem m_doAll (hr : Rw M 700) (hR : M 700 = R) (g : Gd C 2 0 b) (hb : b ≤ 20) (w : WF T0 R) (nbR : Nb R) (h27 : M 699 27 = 0) (cc : Mc M C 0 b) (hT : T0 + 21 * StC 2 + 1 < 2 ^ 31) (hK : ∀ M', FrD M M' → M' 700 = (dL C (dR C 2) 21 0 b (R, 0)).2.1 → KI (nI (dL C (dR C 2) 21 0 b (R, 0)).2.2) M') : f_X13_areDoneC 0 (nI b) M (fun r19 M18 => KI (M18 699 27) M18) := by
  refine ⟨22, m_LB (l := 2) (T0 := T0) (C := C) (m_rep 2) hb _ 21 0 (R, 0) M (by decide) (by omega) g ⟨hr, hR, ⟨w, nbR⟩, h27, cc⟩ hT (fun M2 f2 r2 e2 => ?_)⟩
  rw [e2]
  exact hK M2 f2 r2
end MBLOCKS
