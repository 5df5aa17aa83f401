/-! sail, buyFlour, collect, wash -/
section OPS
variable {c' : Bool} {i : Nat} {M M1 M' S S' : TM} {T U : Nat} {K : TM → Prop} {KI : Int32 → TM → Prop} {KO : Option Nat → TM → Prop} {KV : TM → Prop} {X : String → TM → Prop} {p q u v r2 r4 : Int32} {R R' : Nat → Int32} {a b c d e f j k m x' h nx ci di r o t : Nat}
theorem tB_congr (ha : a < 16) (ht : t < 16) (h10 : ∀ j, j < 16 → R' (10 + j) = R (10 + j)) : tB R' a t = tB R a t := by
  unfold tB
  refine fo_congr _ _ (fun k hk x => ?_)
  rw [h10 (min a t + k) (by omega)]
/-- sail -/
theorem m_sailE (g : Inv T M) (ok : okS (M 700) p q = false) (hK : ∀ M', Inv T M' → K M') : f_X13_sail p q M (fun r4 M3 => LawE K (if (inR p (nb (M 700)) && inR q (np (M 700))) = true then 2 else 1) r4 M3) := by
  obtain ⟨ci, di, nx, h, g1, -⟩ := id g
  have w := g1.2.2.2.2.2.1
  unfold f_X13_sail
  refine m_keep (fun S s1 s3 => ?_)
  have hR : S 700 = M 700 := s1 700 (by decide)
  have s9 : ∀ j, j ≠ 8 → j ≠ 10 → S 699 j = M 699 j := fun j _ _ => by rw [s1 699 (by decide)]
  refine atS hR (F := fun S => f_X13_doSail p q S _) ?_
  refine m_doSail (rwS g1.rw s9) w (fun e => ?_) (fun e _ => ?_) (fun e => by rw [ok] at e; cases e)
  · rw [e]
    exact fin_err g (fun i _ h3 => s1 i h3) s9 hR (by decide) hK
  · rw [e]
    exact fin_err g (fun i _ h3 => s1 i h3) s9 hR (by decide) hK
theorem q_sail (g : Inv T M) (hK : ∀ M', Inv T M' → K M') : f_L_sail p q M (fun r2 M1 => f_X13_sail p q M1 (fun r4 M3 => LawE K r2 r4 M3)) := by
  unfold f_L_sail f_X12_sail
  obtain ⟨ci, di, nx, h, g1, g2, g3, g4, g5⟩ := id g
  have w := g1.2.2.2.2.2.1
  have n5 := w.nb5
  have n16 := w.np16
  obtain ⟨v1, v2, v3, v4⟩ := g1.in11
  refine c_reqBarge g1 (fun hp => c_reqPlace g1 (fun hq => ⟨v1, ?_⟩) (fun hq => Or.inl ⟨rfl, ?_⟩)) (fun hp => Or.inl ⟨rfl, ?_⟩)
  · rw [v2]
    refine c_canSail w g1.2.2.2.2.1 ?_
    unfold f_X12_requireState
    refine bT (fun ok => ⟨v1, ?_⟩) (fun ok => Or.inr ⟨rfl, ?_⟩)
    · rw [v2]
      refine c_mem g1 g2 g3 g4 g5 (fun M1 a0 ai k1 md => ?_)
      refine ⟨md.at5.1, ?_⟩
      rw [md.at5.2]
      have e7 : M1 700 = M 700 := ai 700 (by decide)
      have rl1 := k1.2.2.2.2.1
      rw [e7] at rl1
      refine c_setTarget w rl1 ok (fun M2 f2 r2' => ?_)
      have md2 := md.op f2
      have w2 := wf_sail w ok
      have lk2 := lk_sail ok g1.2.2.2.2.2.2.2 n5
      obtain ⟨b, hb, rfl⟩ := inR_of (by omega) hp
      obtain ⟨t, ht, rfl⟩ := inR_of (by omega) hq
      rw [nI_clamp (by omega)] at r2' w2 lk2
      have e2 : nb (aSail (M 700) b (nI t)) = nb (M 700) := by unfold nb aSail sB; rw [up_n (by omega)]
      have e1 : np (aSail (M 700) b (nI t)) = np (M 700) := by unfold np aSail sB; rw [up_n (by omega)]
      have hpl := (w.2.1 b hb).ePl
      have e0 : bg (aSail (M 700) b (nI t)) b 0 = nI (pl (M 700) b) := by rw [← hpl.1]; exact up_n (by omega)
      refine ⟨md2.at5.1, c_bargAtR md2.at5 w2 r2' (by omega) (some_ok (iBar_at g1 (by omega)) ?_)⟩
      rw [md2.at5.2, (r2'.2.2.2.1 b (by omega)).1, e0]
      refine c_tB w2 r2' rfl rfl (by omega) (by omega) ?_
      have etb : tB (aSail (M 700) b (nI t)) (pl (M 700) b) t = tB (M 700) (pl (M 700) b) t := tB_congr (by omega) (by omega) (fun j hj => up_n (by omega))
      rw [etb]
      intro M4 e4
      have md4 : Mid T M4 ci di nx h := by rw [e4]; exact md2.u710
      have e47 : M4 700 = M 700 := by rw [e4, u2_n (by decide), f2 700 (by have := g1.1; omega)]; exact e7
      unfold f_X13_sail
      refine m_keep (fun S s1 s3 => ?_)
      have hR : S 700 = M 700 := (s1 700 (by decide)).trans e47
      have s9 : ∀ j, j ≠ 8 → j ≠ 10 → S 699 j = M4 699 j := fun j _ _ => by rw [s1 699 (by decide)]
      refine atS hR (F := fun S => f_X13_doSail (nI b) (nI t) S _) ?_
      refine m_doSail (rwS md4.rw s9) w (fun e => by rw [hp, hq] at e; cases e) (fun _ e => by rw [ok] at e; cases e) (fun _ => ?_)
      rw [nI_clamp (by omega), nI_clamp (by omega)]
      refine fin_ok md4 ?_ w2 ⟨by rw [e2]; exact g1.2.2.2.2.2.2.1, lk2⟩ (Nat.le_refl _) (fun i _ h3 => s1 i h3) s9 s3 (by rw [e4, u2_s]) hK
      rw [e4]
      exact r2'.frame (fun i h1 h2 => u2_n (by have := g1.1; omega)) w2.nb5 w2.no30
    · have := m_sailE (p := p) (q := q) g ok hK
      rw [hp, hq] at this
      exact this
  · have := m_sailE (p := p) (q := q) g (by unfold okS; rw [hq, Bool.and_false]; rfl) hK
    rw [hq, Bool.and_false] at this
    exact this
  · have := m_sailE (p := p) (q := q) g (by unfold okS; rw [hp]; rfl) hK
    rw [hp] at this
    exact this
/-- collect -/
theorem m_collE (g : Inv T M) (ok : okG (M 700) p = false) (hK : ∀ M', Inv T M' → K M') : f_X13_collect p M (fun r4 M3 => LawE K (if inR p (nb (M 700)) = true then 2 else 1) r4 M3) := by
  obtain ⟨ci, di, nx, h, g1, -⟩ := id g
  have w := g1.2.2.2.2.2.1
  unfold f_X13_collect
  refine m_keep (fun S s1 s3 => ?_)
  have hR : S 700 = M 700 := s1 700 (by decide)
  have s9 : ∀ j, j ≠ 8 → j ≠ 10 → S 699 j = M 699 j := fun j _ _ => by rw [s1 699 (by decide)]
  refine atS hR (F := fun S => f_X13_doCollect p S _) ?_
  refine m_doCollect (rwS g1.rw s9) w (fun e => ?_) (fun e _ => ?_) (fun e => by rw [ok] at e; cases e)
  · rw [e]
    exact fin_err g (fun i _ h3 => s1 i h3) s9 hR (by decide) hK
  · rw [e]
    exact fin_err g (fun i _ h3 => s1 i h3) s9 hR (by decide) hK
theorem q_collect (g : Inv T M) (hK : ∀ M', Inv T M' → K M') : f_L_collect p M (fun r2 M1 => f_X13_collect p M1 (fun r4 M3 => LawE K r2 r4 M3)) := by
  unfold f_L_collect f_X12_collect
  obtain ⟨ci, di, nx, h, g1, g2, g3, g4, g5⟩ := id g
  have w := g1.2.2.2.2.2.1
  have n5 := w.nb5
  have n16 := w.np16
  obtain ⟨v1, v2, v3, v4⟩ := g1.in11
  refine c_reqBarge g1 (fun hp => ⟨v1, ?_⟩) (fun hp => Or.inl ⟨rfl, ?_⟩)
  · rw [v2]
    refine c_canGather w g1.2.2.2.2.1 ?_
    unfold f_X12_requireState
    refine bT (fun ok => ⟨v1, ?_⟩) (fun ok => Or.inr ⟨rfl, ?_⟩)
    · rw [v2]
      refine c_mem g1 g2 g3 g4 g5 (fun M1 a0 ai k1 md => ?_)
      have e7 : M1 700 = M 700 := ai 700 (by decide)
      have rl1 := k1.2.2.2.2.1
      rw [e7] at rl1
      obtain ⟨b, hb, rfl⟩ := inR_of (by omega) hp
      refine c_bargAtR md.at5 w rl1 hb (some_ok (iBar_at g1 (by omega)) ⟨md.at5.1, ?_⟩)
      rw [md.at5.2]
      refine c_gather w rl1 ok (fun M2 f2 r2' => ?_)
      have md2 := md.op f2
      have w2 := wf_gather w ok
      have hpl := (w.2.1 b hb).ePl
      have sm : Sm (M 700) (aGather (M 700) b) := sm_gather (by omega) (by omega)
      rw [nI_clamp (by omega)] at r2' w2
      have e2 : nb (aGather (M 700) b) = nb (M 700) := by unfold nb; rw [sm 2 (Or.inl rfl)]
      have e5 : bg (aGather (M 700) b) b 5 = bg (M 700) b 5 + (M 700) (40 + pl (M 700) b) := (up_n (by omega)).trans (up_s _ _ _)
      refine c_bargAtR md2.at5 w2 r2' (by omega) (some_ok (iBar_at g1 (by omega)) ?_)
      rw [(r2'.2.2.2.1 b (by omega)).2.2.2.2.2.2, (rl1.2.2.2.1 b hb).2.2.2.2.2.2, e5, show ∀ a x : Int32, a + x - a = x from fun a x => by rw [Int32.add_comm, Int32.add_sub_cancel]]
      intro M4 e4
      have md4 : Mid T M4 ci di nx h := by rw [e4]; exact md2.u710
      have e47 : M4 700 = M 700 := by rw [e4, u2_n (by decide), f2 700 (by have := g1.1; omega)]; exact e7
      unfold f_X13_collect
      refine m_keep (fun S s1 s3 => ?_)
      have hR : S 700 = M 700 := (s1 700 (by decide)).trans e47
      have s9 : ∀ j, j ≠ 8 → j ≠ 10 → S 699 j = M4 699 j := fun j _ _ => by rw [s1 699 (by decide)]
      refine atS hR (F := fun S => f_X13_doCollect (nI b) S _) ?_
      refine m_doCollect (rwS md4.rw s9) w (fun e => by rw [hp] at e; cases e) (fun _ e => by rw [ok] at e; cases e) (fun _ => ?_)
      rw [nI_clamp (by omega)]
      refine fin_ok md4 ?_ w2 (sm.nbN n5 g1.2.2.2.2.2.2) (Nat.le_refl _) (fun i _ h3 => s1 i h3) s9 s3 (by rw [e4, u2_s]) hK
      rw [e4]
      exact r2'.frame (fun i h1 h2 => u2_n (by have := g1.1; omega)) w2.nb5 w2.no30
    · have := m_collE (p := p) g ok hK
      rw [hp] at this
      exact this
  · have := m_collE (p := p) g (by unfold okG; rw [hp]; rfl) hK
    rw [hp] at this
    exact this
/-- wash -/
theorem m_washE (g : Inv T M) (ok : okW (M 700) p = false) (hK : ∀ M', Inv T M' → K M') : f_X13_wash p M (fun r4 M3 => LawE K (if inR p (nb (M 700)) = true then 2 else 1) r4 M3) := by
  obtain ⟨ci, di, nx, h, g1, -⟩ := id g
  have w := g1.2.2.2.2.2.1
  unfold f_X13_wash
  refine m_keep (fun S s1 s3 => ?_)
  have hR : S 700 = M 700 := s1 700 (by decide)
  have s9 : ∀ j, j ≠ 8 → j ≠ 10 → S 699 j = M 699 j := fun j _ _ => by rw [s1 699 (by decide)]
  refine atS hR (F := fun S => f_X13_doWash p S _) ?_
  refine m_doWash (rwS g1.rw s9) w (fun e => ?_) (fun e _ => ?_) (fun e => by rw [ok] at e; cases e)
  · rw [e]
    exact fin_err g (fun i _ h3 => s1 i h3) s9 hR (by decide) hK
  · rw [e]
    exact fin_err g (fun i _ h3 => s1 i h3) s9 hR (by decide) hK
theorem q_wash (g : Inv T M) (hK : ∀ M', Inv T M' → K M') : f_L_wash p M (fun r2 M1 => f_X13_wash p M1 (fun r4 M3 => LawE K r2 r4 M3)) := by
  unfold f_L_wash f_X12_wash
  obtain ⟨ci, di, nx, h, g1, g2, g3, g4, g5⟩ := id g
  have w := g1.2.2.2.2.2.1
  have n5 := w.nb5
  have n16 := w.np16
  obtain ⟨v1, v2, v3, v4⟩ := g1.in11
  refine c_reqBarge g1 (fun hp => ⟨v1, ?_⟩) (fun hp => Or.inl ⟨rfl, ?_⟩)
  · rw [v2]
    refine c_isInHarbor w g1.2.2.2.2.1 ?_
    unfold f_X12_requireState
    refine bT (fun ok => ⟨v1, ?_⟩) (fun ok => Or.inr ⟨rfl, ?_⟩)
    · rw [v2]
      refine c_mem g1 g2 g3 g4 g5 (fun M1 a0 ai k1 md => ⟨md.at5.1, ?_⟩)
      have e7 : M1 700 = M 700 := ai 700 (by decide)
      have rl1 := k1.2.2.2.2.1
      rw [e7] at rl1
      obtain ⟨b, hb, rfl⟩ := inR_of (by omega) hp
      rw [md.at5.2]
      refine c_clean_op w rl1 ok (fun M2 f2 r2' => ?_)
      have md2 := md.op f2
      have w2 := wf_wash w ok
      have sm : Sm (M 700) (aWash (M 700) b) := sm_wash (by omega)
      rw [nI_clamp (by omega)] at r2' w2
      have e2 : nb (aWash (M 700) b) = nb (M 700) := by unfold nb; rw [sm 2 (Or.inl rfl)]
      have e5 : bg (aWash (M 700) b) b 4 = bg (M 700) b 4 + bg (M 700) b 5 := (up_n (by omega)).trans (up_s _ _ _)
      refine c_bargAtR md2.at5 w2 r2' (by omega) (some_ok (iBar_at g1 (by omega)) ?_)
      rw [(r2'.2.2.2.1 b (by omega)).2.2.2.2.2.1, e5]
      intro M4 e4
      have md4 : Mid T M4 ci di nx h := by rw [e4]; exact md2.u710
      have e47 : M4 700 = M 700 := by rw [e4, u2_n (by decide), f2 700 (by have := g1.1; omega)]; exact e7
      unfold f_X13_wash
      refine m_keep (fun S s1 s3 => ?_)
      have hR : S 700 = M 700 := (s1 700 (by decide)).trans e47
      have s9 : ∀ j, j ≠ 8 → j ≠ 10 → S 699 j = M4 699 j := fun j _ _ => by rw [s1 699 (by decide)]
      refine atS hR (F := fun S => f_X13_doWash (nI b) S _) ?_
      refine m_doWash (rwS md4.rw s9) w (fun e => by rw [hp] at e; cases e) (fun _ e => by rw [ok] at e; cases e) (fun _ => ?_)
      rw [nI_clamp (by omega)]
      refine fin_ok md4 ?_ w2 (sm.nbN n5 g1.2.2.2.2.2.2) (Nat.le_refl _) (fun i _ h3 => s1 i h3) s9 s3 (by rw [e4, u2_s]) hK
      rw [e4]
      exact r2'.frame (fun i h1 h2 => u2_n (by have := g1.1; omega)) w2.nb5 w2.no30
    · have := m_washE (p := p) g ok hK
      rw [hp] at this
      exact this
  · have := m_washE (p := p) g (by unfold okW; rw [hp]; rfl) hK
    rw [hp] at this
    exact this
/-- both tests of the model -/
theorem m_both {b1 b2 : Bool} (e1 : p = bi b1) (e2 : q = bi b2) (h0 : b1 = true → b2 = true → ∀ S, (∀ i, i ≠ 699 → S i = M i) → (∀ j, j ≠ 8 → S 699 j = M 699 j) → KI 0 S) (h1 : b1 = false → ∀ S, (∀ i, i ≠ 699 → S i = M i) → (∀ j, j ≠ 8 → S 699 j = M 699 j) → S 699 8 = 1 → KI 1 S) (h2 : b1 = true → b2 = false → ∀ S, (∀ i, i ≠ 699 → S i = M i) → (∀ j, j ≠ 8 → S 699 j = M 699 j) → S 699 8 = 2 → KI 1 S) : f_X13_lacksBoth p q M KI := by
  subst e2
  unfold f_X13_lacksBoth
  refine m_lacks e1 ?_
  cases b1 with
  | false => exact cN' (by decide) (h1 rfl _ (fun i hi => u2_n hi) (fun j hj => u2_f hj) (u2_s _ _ _ _))
  | true =>
    refine cT' rfl ?_
    cases b2 with
    | false =>
      refine cT' rfl ?_
      intro M6 e6
      refine cN' (by rw [e6, u2_s]; decide) (h2 rfl rfl M6 (fun i hi => by rw [e6, u2_n hi, u2_n hi]) (fun j hj => by rw [e6, u2_f hj, u2_f hj]) (by rw [e6, u2_s]))
    | true =>
      refine cN' (by decide) ?_
      intro M6 e6
      exact cT' (by rw [e6, u2_s]) (h0 rfl rfl M6 (fun i hi => by rw [e6, u2_n hi, u2_n hi]) (fun j hj => by rw [e6, u2_f hj, u2_f hj]))
end OPS
