/-! p65: writeCanal, eatenShare -/
section WRITER
variable {M M1 M' L L' : TM} {T U : Nat} {KI : Int32 → TM → Prop} {KF : UInt32 → TM → Prop} {KV : TM → Prop} {p q u v : Int32} {R R' S : Nat → Int32} {a b c d e f j k m h nx ci di t o n' : Nat} {hr : Nat → Nat → Int32} {sb : Bool}
theorem r_wr (hb : M 0 8 = nI n') (hn : n' < 31) (hK : ∀ M', (∀ k, k ≠ 0 → k ≠ 698 → M' k = M k) → (∀ x, x ≠ 8 → M' 0 x = M 0 x) → M' 0 8 = nI (n' + 1) → KV M') : f_X12_writeSign p M KV := by
  unfold f_X12_writeSign
  rw [hb]
  refine cN' (nI_ge (b := 31) hn (by decide)) ⟨vp_in_nI hn (by decide), ?_⟩
  rw [nI_clamp (by omega)]
  intro M3 e3 M4 e4
  have h3 : M3 0 8 = nI n' := by rw [e3, u2_n (by decide)]; exact hb
  rw [h3, nI_1] at e4
  exact hK M4 (fun k k0 k1 => by rw [e4, u2_n k0, e3, u2_n k1]) (fun x hx => by rw [e4, u2_f hx, e3, u2_n (by decide)]) (by rw [e4, u2_s])
theorem r_signP (w : WF T R) (h : RelC c M R) (hK : ∀ v, KI v M) : f_X2_signOfPlace c p M KI := by
  unfold f_X2_signOfPlace
  refine c_cAt w h ?_
  exact ⟨fun _ => hK _, fun _ => hK _⟩
theorem r_signS (w : WF T R) (h : RelC c M R) (e1 : p = nI j) (hj : j + 1 < np R) (hK : ∀ v, KI v M) : f_X2_signOfSection c p M KI := by
  subst e1
  have n16 := w.np16
  unfold f_X2_signOfSection
  refine c_hasSection w h ?_
  rw [inR_nI (by omega) (by omega)]
  refine bF (fun _ => ?_) (fun c => by cases c)
  refine ⟨vp_in_nI (by omega) (by decide), ?_⟩
  exact ⟨fun c1 => ⟨vp_in_nI (by omega) (by decide), fun _ => hK _, fun _ => hK _⟩, fun _ => hK _⟩
theorem t_writeCanal (g : PV L T R h hr sb S M) (hK : ∀ M', PV L T R h hr sb S M' → KI (nI (2 * np R - 1)) M') : f_X12_writeCanal M KI := by
  unfold f_X12_writeCanal
  obtain ⟨⟨ci, di, nx, g1, g2, g3⟩, gL⟩ := g
  have w := g1.2.2.2.2.1
  have n16 := w.np16
  have n3 := w.np3
  have hci := g1.1
  intro M1 e1
  have at' : ∀ s : TM, (∀ k, k ≠ 0 → k ≠ 698 → s k = M k) → (∀ x, x ≠ 8 → s 0 x = M 0 x) → vp_in (s 0 5) 11 ∧ 27 + 61 * (s 0 5).toNatClampNeg = 27 + 61 * ci ∧ RelC (27 + 61 * ci) s R := fun s s1 s2 => by
    have g := g1.in11
    rw [s2 5 (by decide)]
    exact ⟨g.1, g.2.1, g1.2.2.2.1.frame (fun k h1 h2 => s1 k (by omega) (by omega)) w.nb5 w.no30⟩
  have eN : ∀ s : TM, RelC (27 + 61 * ci) s R → s (27 + 61 * ci) 0 = nI (np R) := fun s rl => by rw [rl.1.1]; exact w.1.1.1.1
  have fin : ∀ s : TM, (∀ k, k ≠ 0 → k ≠ 698 → s k = M k) → (∀ x, x ≠ 8 → s 0 x = M 0 x) → PV L T R h hr sb S s := fun s s1 s2 => ⟨⟨ci, di, nx, g1.fr ⟨s2 5 (by decide), s2 6 (by decide)⟩ (fun i h1 h2 => s1 i (by omega) (by omega)), g2.fr (s1 25 (by decide) (by decide)) (fun i h1 h2 => s1 i (by omega) (by omega)), g3.fr (s2 4 (by decide)) (fun i h1 h2 => s1 i (by omega) (by omega))⟩, fun i hi => by rw [s1 i (by omega) (by omega)]; exact gL i hi⟩
  refine ⟨_, inv_loop (fun m (s : TM) k => f_X12_writeCanal_L7 KI m (nI k) s) (fun k s => (∀ x, x ≠ 0 → x ≠ 698 → s x = M x) ∧ (∀ x, x ≠ 8 → s 0 x = M 0 x) ∧ s 0 8 = nI (2 * k - 1)) (np R) (fun m s hs => ?_) (fun m s k hk hs hL => ?_) (np R) 0 M1 (Nat.zero_add _) ⟨fun x h1 h2 => by rw [e1, u2_n h1], fun x hx => by rw [e1, u2_f hx], by rw [e1, u2_s]; rfl⟩⟩
  · obtain ⟨s1, s2, s3⟩ := hs
    obtain ⟨v1, v2, rl⟩ := at' s s1 s2
    rw [f_X12_writeCanal_L7, v2, eN s rl]
    refine ⟨v1, cT' (nI_le (Nat.le_refl _) (by omega)) ?_⟩
    rw [s3]
    exact hK s (fin s s1 s2)
  · obtain ⟨s1, s2, s3⟩ := hs
    obtain ⟨v1, v2, rl⟩ := at' s s1 s2
    rw [f_X12_writeCanal_L7, v2, eN s rl]
    refine ⟨v1, cN' (nI_ge hk (by omega)) ⟨fun c1 => ⟨v1, ?_⟩, fun c1 => ⟨v1, ?_⟩⟩⟩
    · have k0 : k = 0 := by
        refine Decidable.byContradiction (fun h => ?_)
        exact absurd c1 (nI_nle (by omega) (by omega))
      subst k0
      refine r_signP w rl (fun v => ?_)
      exact r_wr s3 (by decide) (fun M2 m1 m2 m3 => hL M2 ⟨fun x h1 h2 => by rw [m1 x h1 h2, s1 x h1 h2], fun x hx => by rw [m2 x hx, s2 x hx], m3⟩)
    · have k1 : 1 ≤ k := Nat.one_le_iff_ne_zero.2 (fun h => c1 (by rw [h]; decide))
      obtain ⟨j, rfl⟩ : ∃ j, k = j + 1 := ⟨k - 1, by omega⟩
      rw [nI_pred]
      refine r_signS (j := j) w rl rfl (by omega) (fun v => ?_)
      refine r_wr s3 (by omega) (fun M2 m1 m2 m3 => ?_)
      have t1 : ∀ x, x ≠ 0 → x ≠ 698 → M2 x = M x := fun x h1 h2 => by rw [m1 x h1 h2, s1 x h1 h2]
      have t2 : ∀ x, x ≠ 8 → M2 0 x = M 0 x := fun x hx => by rw [m2 x hx, s2 x hx]
      obtain ⟨v3, v4, rl2⟩ := at' M2 t1 t2
      refine ⟨v3, ?_⟩
      rw [v4]
      refine r_signP w rl2 (fun v' => ?_)
      rw [nI_1]
      exact r_wr m3 (by omega) (fun M3 l1 l2 l3 => hL M3 ⟨fun x h1 h2 => by rw [l1 x h1 h2, t1 x h1 h2], fun x hx => by rw [l2 x hx, t2 x hx], by rw [l3]; rfl⟩)
/-- shares are numbers, each equal to itself -/
theorem f_eq : ∀ a : Fin 31, ∀ b : Fin 31, 1 ≤ a.val + b.val → (FP.fdiv (FP.i2f (nI a.val)) (FP.i2f (nI a.val + nI b.val)) &&& 0x7fffffff ≤ 0x7f800000) ∧ Op.cmpValue (FP.fcmp (FP.fdiv (FP.i2f (nI a.val)) (FP.i2f (nI a.val + nI b.val))) (FP.fdiv (FP.i2f (nI a.val)) (FP.i2f (nI a.val + nI b.val)))) CmpOp.l = 0 := by decide +kernel
theorem f_n {a b : Nat} (ha : a ≤ 30) (hb : b ≤ 30) (h : 1 ≤ a + b) : vf_n32 (FP.fdiv (FP.i2f (nI a)) (FP.i2f (nI a + nI b))) := (f_eq ⟨a, by omega⟩ ⟨b, by omega⟩ h).1
theorem f_e {a b : Nat} (ha : a ≤ 30) (hb : b ≤ 30) (h : 1 ≤ a + b) : Op.cmpValue (FP.fcmp (FP.fdiv (FP.i2f (nI a)) (FP.i2f (nI a + nI b))) (FP.fdiv (FP.i2f (nI a)) (FP.i2f (nI a + nI b)))) CmpOp.l = 0 := (f_eq ⟨a, by omega⟩ ⟨b, by omega⟩ h).2
theorem f_0 : Op.cmpValue (FP.fcmp FP.fconst0 FP.fconst0) CmpOp.l = 0 := by decide +kernel
def eS (R : Nat → Int32) : UInt32 := if cIn R 3 + cIn R 4 = 0 then FP.fconst0 else FP.fdiv (FP.i2f (nI (cIn R 3))) (FP.i2f (nI (cIn R 3) + nI (cIn R 4)))
theorem t_eatenShare (g : PV L T R h hr sb S M) (hK : KF (eS R) M) : f_X12_eatenShare M KF := by
  unfold f_X12_eatenShare
  obtain ⟨⟨ci, di, nx, g1, -⟩, -⟩ := g
  have w := g1.2.2.2.2.1
  have rl := g1.2.2.2.1
  have n30 := w.no30
  have e12 : M (27 + 61 * ci) 12 = nI (cIn R 3) := rl.1.2.2.2.2.2.2.2.1
  have e13 : M (27 + 61 * ci) 13 = nI (cIn R 4) := by rw [rl.1.2.2.2.2.2.2.2.2]; exact w.1.2.2.2.2.2.1
  have a3 : cIn R 3 ≤ 30 := Nat.le_trans (cn_le _ _) n30
  have a4 : cIn R 4 ≤ 30 := Nat.le_trans (cn_le _ _) n30
  refine ⟨g1.in11.1, g1.in11.1, ?_⟩
  rw [g1.in11.2.1, e12, e13]
  unfold eS at hK
  by_cases hs : cIn R 3 + cIn R 4 = 0
  · rw [if_pos hs] at hK
    refine cN' ?_ hK
    rw [nI_add, hs]
    decide
  · rw [if_neg hs] at hK
    refine cT' (by rw [nI_add]; exact nI_le (a := 1) (by omega) (by omega)) ⟨g1.in11.1, f_n a3 a4 (by omega), hK⟩
end WRITER
