/-! the script's doing: blocks and repeats -/
def Zok (T0 : Nat) (z : ZZ) : Prop := WF (T0 + z.2) z.1 ∧ Nb z.1
def PB (T0 : Nat) (g : ZZ → Bool × ZZ) (B : Nat) : Prop := ∀ z, Zok T0 z → T0 + z.2 + B + 1 < 2 ^ 31 → Zok T0 (g z).2 ∧ (g z).2.2 ≤ z.2 + B
def FrE (c : Nat) (M M' : TM) : Prop := (∀ i, (i < c ∨ c + 61 ≤ i) → i ≠ 3 → M' i = M i) ∧ ∀ j, j ≠ 2 → M' 3 j = M 3 j
section BLOCKS
variable {T0 : Nat} {z z' : ZZ} {M M1 M2 M' S : TM} {C C' : CmT} {R R' : Nat → Int32} {KV : TM → Prop} {KI : Int32 → TM → Prop} {blk : ZZ → Bool × ZZ} {rep : Nat → ZZ → Bool × ZZ} {a b c d e f i j k l m v B x x' nxt lo hi r : Nat} {p q p1 p2 p3 p4 : Int32}
theorem StC_pos : ∀ l, 1 ≤ StC l
  | 0 => Nat.le_refl _
  | l + 1 => by have := StC_pos l; show 1 ≤ 5 * (21 * StC l); omega
theorem FrE.refl (c : Nat) (M : TM) : FrE c M M := ⟨fun _ _ _ => rfl, fun _ _ => rfl⟩
theorem FrE.trans (h : FrE c M M1) (g : FrE c M1 M') : FrE c M M' := ⟨fun i i1 i2 => (g.1 i i1 i2).trans (h.1 i i1 i2), fun j hj => (g.2 j hj).trans (h.2 j hj)⟩
theorem FrC.toE (h : FrC c M M') (hc : 27 ≤ c) : FrE c M M' := ⟨fun i i1 _ => h i i1, fun j _ => by rw [h 3 (by omega)]⟩
theorem u32 : FrE c M (u2 M 3 2 q) := ⟨fun i _ i2 => u2_n i2, fun j hj => u2_f hj⟩
theorem dL_end (h : b ≤ i) : dL C rep f i b z = (true, z) := by
  cases f with
  | zero => rfl
  | succ f => exact if_pos h
theorem dL_8 (h : i < b) (h8 : C i 0 = 8) : dL C rep (f + 1) i b z = if (rep i z).1 = true then dL C rep f (C i 5).toNatClampNeg b (rep i z).2 else (false, (rep i z).2) := by
  show (if b ≤ i then _ else _) = _
  rw [if_neg (by omega), if_pos h8]
theorem dL_n (h : i < b) (h8 : ¬ C i 0 = 8) : dL C rep (f + 1) i b z = if ok1 (C i) (vbC C i) z.1 = true then dL C rep f (i + 1) b (do1 (C i) (vbC C i) z.1, z.2 + 1) else (false, z) := by
  show (if b ≤ i then _ else _) = _
  rw [if_neg (by omega), if_neg h8]
theorem Cw.v8 (h : Cw C i) (h8 : ¬ C i 0 = 8) : vbC C i < 8 ∧ C i 0 = nI (vbC C i) ∧ (vbC C i = 7 → ∃ m, m < 1000 ∧ C i 1 = nI m) ∧ C i 5 = nI (i + 1) := by
  obtain ⟨v, h1, h2, h3, h4⟩ := h
  have e : vbC C i = v := by unfold vbC; rw [h2, nI_clamp (by omega)]
  have hv8 : v ≠ 8 := fun e => h8 (by rw [h2, e]; rfl)
  rw [e]
  exact ⟨by omega, h2, h3, h4 hv8⟩
theorem zok_do (hz : Zok T0 z) (hw : Cw C i) (h8 : ¬ C i 0 = 8) (hT : T0 + z.2 + 1 < 2 ^ 31) (ok : ok1 (C i) (vbC C i) z.1 = true) : Zok T0 (do1 (C i) (vbC C i) z.1, z.2 + 1) := by
  obtain ⟨v1, v2, v3, v4⟩ := hw.v8 h8
  exact do1_w hz.1 hz.2 hT v1 v3 ok
theorem PB_I (h : PB T0 blk B) : ∀ r, PB T0 (dI blk r) (r * B) := by
  intro r
  induction r with
  | zero => intro z hz hT; exact ⟨hz, by rw [Nat.zero_mul]; exact Nat.le_refl _⟩
  | succ r ih =>
    intro z hz hT
    rw [Nat.succ_mul] at hT ⊢
    obtain ⟨h1, h2⟩ := h z hz (by omega)
    show Zok T0 (if (blk z).1 = true then dI blk r (blk z).2 else (false, (blk z).2)).2 ∧ (if (blk z).1 = true then dI blk r (blk z).2 else (false, (blk z).2)).2.2 ≤ z.2 + (r * B + B)
    by_cases hb : (blk z).1 = true
    · rw [if_pos hb]
      obtain ⟨h3, h4⟩ := ih (blk z).2 h1 (by omega)
      exact ⟨h3, by omega⟩
    · rw [if_neg hb]
      exact ⟨h1, by show (blk z).2.2 ≤ _; omega⟩
theorem PB_L (hS : 1 ≤ B) : ∀ f i, (∀ j, i ≤ j → j < b → Cw C j ∧ (C j 0 = 8 → PB T0 (rep j) B ∧ j < (C j 5).toNatClampNeg)) → PB T0 (dL C rep f i b) (f * B) := by
  intro f
  induction f with
  | zero => intro i _ z hz hT; exact ⟨hz, by rw [Nat.zero_mul]; exact Nat.le_refl _⟩
  | succ f ih =>
    intro i hg z hz hT
    rw [Nat.succ_mul] at hT ⊢
    by_cases hb : b ≤ i
    · rw [dL_end hb]
      exact ⟨hz, by show z.2 ≤ _; omega⟩
    · obtain ⟨hw, hr⟩ := hg i (Nat.le_refl _) (by omega)
      by_cases h8 : C i 0 = 8
      · obtain ⟨p1, p2⟩ := hr h8
        obtain ⟨h1, h2⟩ := p1 z hz (by omega)
        rw [dL_8 (by omega) h8]
        by_cases ht : (rep i z).1 = true
        · rw [if_pos ht]
          obtain ⟨h3, h4⟩ := ih (C i 5).toNatClampNeg (fun j j1 j2 => hg j (by omega) j2) (rep i z).2 h1 (by omega)
          exact ⟨h3, by omega⟩
        · rw [if_neg ht]
          exact ⟨h1, by show (rep i z).2.2 ≤ _; omega⟩
      · rw [dL_n (by omega) h8]
        by_cases ok : ok1 (C i) (vbC C i) z.1 = true
        · rw [if_pos ok]
          have hz1 := zok_do hz hw h8 (by omega) ok
          obtain ⟨h3, h4⟩ := ih (i + 1) (fun j j1 j2 => hg j (by omega) j2) (do1 (C i) (vbC C i) z.1, z.2 + 1) hz1 (by show T0 + (z.2 + 1) + f * B + 1 < 2 ^ 31; omega)
          have h4' : (dL C rep f (i + 1) b (do1 (C i) (vbC C i) z.1, z.2 + 1)).2.2 ≤ z.2 + 1 + f * B := h4
          exact ⟨h3, by omega⟩
        · rw [if_neg ok]
          exact ⟨hz, by show z.2 ≤ _; omega⟩
theorem PB_mono {B' : Nat} (h : PB T0 blk B) (hB : B ≤ B') : PB T0 blk B' := fun z hz hT => by
  obtain ⟨h1, h2⟩ := h z hz (by omega)
  exact ⟨h1, by omega⟩
theorem Gd.sub : ∀ l, a ≤ i → Gd C l a b → Gd C l i b
  | 0, h, g => fun j h1 h2 => g j (by omega) h2
  | l + 1, h, g => fun j h1 h2 => g j (by omega) h2
/-- what a good table gives at one place -/
theorem Gd.at8 (g : Gd C l i b) (h : i < b) (hb : b ≤ 20) : Cw C i ∧ (C i 0 = 8 → ∃ l' m q, l = l' + 1 ∧ m ≤ 5 ∧ C i 1 = nI m ∧ C i 5 = nI q ∧ i < q ∧ q ≤ b ∧ Gd C l' (i + 1) q) := by
  cases l with
  | zero => exact ⟨(g i (Nat.le_refl _) h).1, fun e => absurd e (g i (Nat.le_refl _) h).2⟩
  | succ l =>
    refine ⟨(g i (Nat.le_refl _) h).1, fun e => ?_⟩
    obtain ⟨m, q, g1, g2, g3, g4, g5, g6⟩ := (g i (Nat.le_refl _) h).2 e
    exact ⟨l, m, q, rfl, g1, g2, g3, g4, g5, g6⟩
theorem dR_eq (e1 : C i 1 = nI m) (e5 : C i 5 = nI k) (hm : m ≤ 5) (hk : k ≤ 20) : dR C (l + 1) i z = dI (fun z => dL C (dR C l) 21 (i + 1) k z) m z := by
  show dI (fun z => dL C (dR C l) 21 (i + 1) (C i 5).toNatClampNeg z) (C i 1).toNatClampNeg z = _
  rw [e1, e5, nI_clamp (by omega), nI_clamp (by omega)]
theorem pure_L : ∀ l f i b, Gd C l i b → b ≤ 20 → PB T0 (dL C (dR C l) f i b) (f * StC l) := by
  intro l
  induction l with
  | zero => exact fun f i b g hb => PB_L (StC_pos 0) f i (fun j j1 j2 => ⟨(g j j1 j2).1, fun e => absurd e (g j j1 j2).2⟩)
  | succ l ih =>
    intro f i b g hb
    refine PB_L (StC_pos (l + 1)) f i (fun j j1 j2 => ⟨(g j j1 j2).1, fun e => ?_⟩)
    obtain ⟨m, q, g1, g2, g3, g4, g5, g6⟩ := (g j j1 j2).2 e
    refine ⟨fun z => ?_, by rw [g3, nI_clamp (by omega)]; exact g4⟩
    rw [dR_eq g2 g3 g1 (by omega)]
    have h1 := PB_I (ih 21 (j + 1) q g6 (by omega)) m
    have h2 : m * (21 * StC l) ≤ StC (l + 1) := by
      show m * (21 * StC l) ≤ 5 * (21 * StC l)
      exact Nat.mul_le_mul_right _ g1
    exact PB_mono h1 h2 z
theorem pure_R (g : Gd C l i b) (h : i < b) (hb : b ≤ 20) (h8 : C i 0 = 8) : PB T0 (dR C l i) (StC l) := by
  obtain ⟨hw, h⟩ := g.at8 h hb
  obtain ⟨l', m, q, rfl, g1, g2, g3, g4, g5, g6⟩ := h h8
  intro z
  rw [dR_eq g2 g3 g1 (by omega)]
  have h1 := PB_I (pure_L (T0 := T0) l' 21 (i + 1) q g6 (by omega)) m
  have h2 : m * (21 * StC l') ≤ StC (l' + 1) := by
    show m * (21 * StC l') ≤ 5 * (21 * StC l')
    exact Nat.mul_le_mul_right _ g1
  exact PB_mono h1 h2 z
/-- the class's blocks -/
def Cst (c : Nat) (T0 : Nat) (C : CmT) (a b : Nat) (z : ZZ) (M : TM) : Prop := RelC c M z.1 ∧ Zok T0 z ∧ M 3 2 = nI z.2 ∧ Cc M C a b
def RepC (c T0 : Nat) (C : CmT) (l d : Nat) : Prop := ∀ (i b : Nat) (z : ZZ) (M : TM) (KI : Int32 → TM → Prop), Gd C l i b → i < b → b ≤ 20 → C i 0 = 8 → Cst c T0 C i b z M → T0 + z.2 + StC l + 1 < 2 ^ 31 → (∀ M', FrE c M M' → RelC c M' (dR C l i z).2.1 → M' 3 2 = nI (dR C l i z).2.2 → KI (bi (dR C l i z).1) M') → f_X8_executeRepeatR (l + 1) c (nI i) (nI (d + 1)) M KI
theorem Cc.sub (h : Cc M C a b) (h1 : a ≤ i) (h2 : j ≤ b) : Cc M C i j := fun k k1 k2 => h k (by omega) (by omega)
theorem Cc.toE (h : Cc M C a b) (hc : 27 ≤ c) (hb : b ≤ 20) (f : FrE c M M') : Cc M' C a b := h.congr (fun k _ k2 => f.1 (5 + k) (by omega) (by omega)) (fun _ _ _ => rfl)
theorem c_L6 (hc : 27 ≤ c) (hrep : RepC c T0 C l d) (hb : b ≤ 20) (KI : Int32 → TM → Prop) : ∀ m x nxt i f z M, b - x = m → x ≤ 20 → (nxt ≤ x ∧ i = x ∨ x < nxt ∧ i = nxt) → nxt ≤ 20 → b ≤ i + f → Gd C l x b → Cst c T0 C x b z M → T0 + z.2 + f * StC l + 1 < 2 ^ 31 → (∀ M', FrE c M M' → RelC c M' (dL C (dR C l) f i b z).2.1 → M' 3 2 = nI (dL C (dR C l) f i b z).2.2 → KI (bi (dL C (dR C l) f i b z).1) M') → f_X8_executeBlock_L6 (f_X8_executeRepeatR (l + 1)) c p2 p3 p4 KI (m + 1) (nI b) (nI d) (nI nxt) (nI x) M := by
  intro m
  induction m with
  | zero =>
    intro x nxt i f z M hm hx20 hi hn hf g cs hT hK
    rw [f_X8_executeBlock_L6]
    obtain ⟨c1, c2, c3, c4⟩ := cs
    have hbi : b ≤ i := by omega
    rw [dL_end hbi] at hK
    exact cT' (nI_le (by omega) (by omega)) (hK M (FrE.refl c M) c1 c3)
  | succ m ih =>
    intro x nxt i f z M hm hx20 hi hn hf g cs hT hK
    obtain ⟨c1, c2, c3, c4⟩ := cs
    have hxb : x < b := by omega
    rw [f_X8_executeBlock_L6]
    refine cN' (nI_ge hxb (by omega)) (cN' (nI_ge (b := 20) (by omega) (by decide)) ⟨fun cd => ?_, fun cd => ?_⟩)
    · have hnx : nxt ≤ x := Nat.le_of_not_lt (fun hlt => nI_ge hlt (by omega) cd)
      have ei : i = x := by omega
      subst ei
      obtain ⟨k1, k2, k3⟩ := c4 i (Nat.le_refl _) hxb
      obtain ⟨f', rfl⟩ : ∃ f', f = f' + 1 := ⟨f - 1, by omega⟩
      rw [Nat.succ_mul] at hT
      have sp := StC_pos l
      have tA : T0 + z.2 < 2 ^ 31 := by omega
      have tB : T0 + z.2 + 1 < 2 ^ 31 := by omega
      have tC : T0 + (z.2 + 1) + f' * StC l + 1 < 2 ^ 31 := by omega
      have tD : T0 + z.2 + StC l + 1 < 2 ^ 31 := by omega
      have i1 : b - (i + 1) = m := by omega
      have i2 : i + 1 ≤ 20 := by omega
      have i3 : b ≤ i + 1 + f' := by omega
      have i4 : i < 2 ^ 31 := by omega
      have i5 : i < 20 := by omega
      have i6 : i ≤ i + 1 := by omega
      have i7 : ∀ k, k < c + 61 → c ≤ k → k ≠ 3 := fun k _ _ => by omega
      have i8 : 3 < c := by omega
      obtain ⟨hw, h8g⟩ := g.at8 hxb hb
      refine ⟨vp_in_nI i5 (by decide), ?_⟩
      rw [nI_clamp (n := i) i4, k1]
      obtain ⟨v, hv9, hv, -, -⟩ := id hw
      refine ⟨by rw [hv]; exact vp_in_nI hv9 (by decide), fun h8 => ?_, fun h8 => ?_⟩
      · obtain ⟨v1, v2, v3, v4⟩ := hw.v8 h8
        have kA : ∀ j, j < (nl (vbC C i)).length → M (5 + i) (1 + j) = C i (1 + j) := k2
        rw [dL_n hxb h8] at hK
        refine c_poss c2.1 c1 v1 (k1.trans v2) kA ?_
        refine bF (fun ok => ?_) (fun ok => ?_)
        · rw [if_pos ok] at hK
          refine c_exec c2.1 tA c1 v1 v3 (k1.trans v2) kA ok (fun M1 f1 r1 => ?_)
          intro M2 e2
          have z1 := zok_do c2 hw h8 tB ok
          have fe : FrE c M M2 := (f1.toE hc).trans (by rw [e2]; exact u32)
          have r2 : RelC c M2 (do1 (C i) (vbC C i) z.1) := r1.frame (fun k h1 h2 => by rw [e2, u2_n (i7 k h2 h1)]) z1.1.nb5 z1.1.no30
          have e32 : M2 3 2 = nI (z.2 + 1) := by rw [e2, u2_s, f1 3 (Or.inl i8), c3, nI_1]
          rw [k3, v4, nI_1]
          exact ih (i + 1) (i + 1) (i + 1) f' (do1 (C i) (vbC C i) z.1, z.2 + 1) M2 i1 i2 (Or.inl ⟨Nat.le_refl _, rfl⟩) i2 i3 (g.sub l i6) ⟨r2, z1, e32, (c4.sub i6 (Nat.le_refl _)).toE hc hb fe⟩ tC (fun M3 f3 r3 e3 => hK M3 (fe.trans f3) r3 e3)
        · have ok' : ¬ ok1 (C i) (vbC C i) z.1 = true := by rw [ok]; decide
          rw [if_neg ok'] at hK
          exact hK M (FrE.refl c M) c1 c3
      · obtain ⟨l', mm, q, el, g1, g2, g3, g4, g5, g6⟩ := h8g h8
        rw [dL_8 hxb h8, g3, nI_clamp (by omega)] at hK
        obtain ⟨pz, pb⟩ := pure_R (T0 := T0) g hxb hb h8 z c2 (by omega)
        rw [nI_1]
        refine hrep i b z M _ g hxb hb h8 ⟨c1, c2, c3, c4⟩ tD (fun M1 f1 r1 e1 => ?_)
        refine bT (fun ht => ?_) (fun ht => ?_)
        · rw [if_pos ht] at hK
          rw [k3, g3, nI_1]
          exact ih (i + 1) q q f' (dR C l i z).2 M1 i1 i2 (by omega) (by omega) (by omega) (g.sub l i6) ⟨r1, pz, e1, (c4.sub i6 (Nat.le_refl _)).toE hc hb f1⟩ (by omega) (fun M3 f3 r3 e3 => hK M3 (f1.trans f3) r3 e3)
        · have ht' : ¬ (dR C l i z).1 = true := by rw [ht]; decide
          rw [if_neg ht'] at hK
          exact hK M1 f1 r1 e1
    · have hnx : x < nxt := Nat.lt_of_not_le (fun hle => cd (nI_le hle (by omega)))
      have ei : i = nxt := by omega
      rw [nI_1]
      exact ih (x + 1) nxt i f z M (by omega) (by omega) (by omega) hn hf (g.sub l (by omega)) ⟨c1, c2, c3, c4.sub (by omega) (Nat.le_refl _)⟩ hT hK
theorem c_rep (hc : 27 ≤ c) : ∀ l d, l + d = 2 → RepC c T0 C l d := by
  intro l
  induction l with
  | zero =>
    intro d hd i b z M KI g h hb h8
    exact absurd h8 (g i (Nat.le_refl _) h).2
  | succ l ih =>
    intro d hd i b z M KI g h hb h8 cs hT hK
    obtain ⟨c1, c2, c3, c4⟩ := cs
    obtain ⟨hw, h8g⟩ := g.at8 h hb
    obtain ⟨l', m, q, el, g1, g2, g3, g4, g5, g6⟩ := h8g h8
    clear h8g hw
    obtain rfl : l = l' := by omega
    obtain ⟨k1, k2, k3⟩ := c4 i (Nat.le_refl _) h
    have k11 : M (5 + i) 1 = nI m := by
      rw [← g2]
      refine k2 0 ?_
      rw [h8]
      decide
    have k5 : M (5 + i) 5 = nI q := by rw [k3]; exact g3
    rw [dR_eq g2 g3 g1 (by omega)] at hK
    show f_X8_executeRepeat (fun a1 p2 p3 p4 M K => f_X8_executeBlock (f_X8_executeRepeatR (l + 1)) a1 p2 p3 p4 M K) c (nI i) (nI (d + 1)) M KI
    unfold f_X8_executeRepeat
    refine cN' (nI_nlt (a := 2) (b := d + 1) (by omega) (by decide)) (cN' (nI_pos (by omega)) (cT' (nI_lt (b := 20) (by omega) (by decide)) ⟨vp_in_nI (by omega) (by decide), ?_⟩))
    rw [nI_clamp (n := i) (by omega)]
    have hsl : StC (l + 1) = 5 * (21 * StC l) := rfl
    have loop : ∀ r t z M, t + r = m → RelC c M z.1 → Zok T0 z → M 3 2 = nI z.2 → Cc M C (i + 1) q → M (5 + i) 1 = nI m → M (5 + i) 5 = nI q → T0 + z.2 + r * (21 * StC l) + 1 < 2 ^ 31 → (∀ M', FrE c M M' → RelC c M' (dI (fun z => dL C (dR C l) 21 (i + 1) q z) r z).2.1 → M' 3 2 = nI (dI (fun z => dL C (dR C l) 21 (i + 1) q z) r z).2.2 → KI (bi (dI (fun z => dL C (dR C l) 21 (i + 1) q z) r z).1) M') → f_X8_executeRepeat_L31 (fun a1 p2 p3 p4 M K => f_X8_executeBlock (f_X8_executeRepeatR (l + 1)) a1 p2 p3 p4 M K) c (nI i) (nI (d + 1)) KI (r + 1) (nI i) (nI (d + 1)) (5 + i) (nI t) M := by
      intro r
      induction r with
      | zero =>
        intro t z M ht r1 z1 e1 cc h1 h5 hT hK
        rw [f_X8_executeRepeat_L31, h1]
        exact cT' (nI_le (by omega) (by omega)) (hK M (FrE.refl c M) r1 e1)
      | succ r ihr =>
        intro t z M ht r1 z1 e1 cc h1 h5 hT hK
        rw [f_X8_executeRepeat_L31, h1, h5, nI_1, nI_1]
        rw [Nat.succ_mul] at hT
        refine cN' (nI_ge (by omega) (by omega)) ?_
        have hE : dI (fun z => dL C (dR C l) 21 (i + 1) q z) (r + 1) z = if (dL C (dR C l) 21 (i + 1) q z).1 = true then dI (fun z => dL C (dR C l) 21 (i + 1) q z) r (dL C (dR C l) 21 (i + 1) q z).2 else (false, (dL C (dR C l) 21 (i + 1) q z).2) := rfl
        rw [hE] at hK
        obtain ⟨pz, pb⟩ := pure_L (T0 := T0) l 21 (i + 1) q g6 (by omega) z z1 (by omega)
        refine ⟨(q - (i + 1)) + 1, c_L6 hc (ih (d + 1) (by omega)) (by omega) _ (q - (i + 1)) (i + 1) (i + 1) (i + 1) 21 z M rfl (by omega) (Or.inl ⟨Nat.le_refl _, rfl⟩) (by omega) (by omega) g6 ⟨r1, z1, e1, cc⟩ (by omega) (fun M1 f1 r1' e1' => ?_)⟩
        generalize dL C (dR C l) 21 (i + 1) q z = y at hK pz pb r1' e1' ⊢
        refine bT (fun ht' => ?_) (fun ht' => ?_)
        · rw [if_pos ht'] at hK
          exact ihr (t + 1) y.2 M1 (by omega) r1' pz e1' (cc.toE hc (by omega) f1) (by rw [f1.1 (5 + i) (by omega) (by omega)]; exact h1) (by rw [f1.1 (5 + i) (by omega) (by omega)]; exact h5) (by omega) (fun M2 f2 r2 e2 => hK M2 (f1.trans f2) r2 e2)
        · have ht2 : ¬ y.1 = true := by rw [ht']; decide
          rw [if_neg ht2] at hK
          exact hK M1 f1 r1' e1'
    have hmul : m * (21 * StC l) ≤ 5 * (21 * StC l) := Nat.mul_le_mul_right _ g1
    exact ⟨m + 1, loop m 0 z M (by omega) c1 c2 c3 (c4.sub (by omega) g5) k11 k5 (by omega) hK⟩
end BLOCKS
