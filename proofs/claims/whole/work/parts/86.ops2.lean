/-! buyFlour, makeOrder, take, drop, passMinutes -/
section OPS2
variable {c' : Bool} {i : Nat} {M M1 M' S S' : TM} {T U : Nat} {K : TM → Prop} {KI KL : Int32 → TM → Prop} {KO : Option Nat → TM → Prop} {KV : TM → Prop} {X : String → TM → Prop} {p q u v r2 r4 bo pu mi : Int32} {R R' : Nat → Int32} {a b c d e f j k m x' h nx ci di r o t n' : Nat}
theorem c_ordeAtR (h5 : vp_in (M 0 5) 11 ∧ 27 + 61 * (M 0 5).toNatClampNeg = 27 + 61 * ci) (w : WF T R) (rl : RelC (27 + 61 * ci) M R) (hb : b < no R) (h1 : KO (some (27 + 61 * ci + 31 + b)) M) : f_X12_orderAt (nI b) M KO X := by
  unfold f_X12_orderAt f_X12_requireOrder
  have n30 := w.no30
  refine ⟨h5.1, ?_⟩
  rw [h5.2]
  refine c_hasOrder w rl ?_
  rw [inR_nI hb (by omega)]
  refine bT (fun _ => ⟨h5.1, vp_in_nI (by omega) (by decide), ?_⟩) (fun c => by cases c)
  rw [nI_clamp (by omega), h5.2]
  exact h1
theorem rng_of {lo : Int32} (l0 : 0 ≤ lo) (h1 : lo ≤ p) (h2 : p ≤ nI n') (hn : n' + 1 < 2 ^ 31) : ∃ j, j < n' + 1 ∧ p = nI j := inR_of hn (decide_eq_true ⟨Int32.le_trans l0 h1, Int32.lt_of_le_of_lt h2 (nI_lt (by omega) (by omega))⟩)
/-- buyFlour -/
theorem m_flP (hr : Rw M 700) (ix : Ix (M 700)) (h0 : inR p (nb (M 700)) = true → (1 ≤ q ∧ q ≤ 99) → ∀ S, (∀ i, i ≠ 699 → S i = M i) → (∀ j, j ≠ 8 → S 699 j = M 699 j) → f_X13_keep S (fun M11 => f_X13_doFlour p q M11 (fun r13 M12 => f_X13_ends r13 M12 (fun r15 M14 => KL r15 M14)))) (h1 : inR p (nb (M 700)) = false → ∀ S, (∀ i, i ≠ 699 → S i = M i) → (∀ j, j ≠ 8 → S 699 j = M 699 j) → S 699 8 = 1 → KL 0 S) (h2 : inR p (nb (M 700)) = true → ¬ (1 ≤ q ∧ q ≤ 99) → ∀ S, (∀ i, i ≠ 699 → S i = M i) → (∀ j, j ≠ 8 → S 699 j = M 699 j) → S 699 8 = 2 → KL 0 S) : f_X13_buyFlour p q M KL := by
  unfold f_X13_buyFlour
  refine m_barg hr rfl ix ?_
  refine m_inRange ?_
  refine m_both rfl rfl (fun e1 e2 S s1 s2 => cT' rfl (h0 e1 (of_decide_eq_true e2) S s1 s2)) (fun e1 S s1 s2 s3 => cN' (by decide) (h1 e1 S s1 s2 s3)) (fun e1 e2 S s1 s2 s3 => cN' (by decide) (h2 e1 (of_decide_eq_false e2) S s1 s2 s3))
theorem q_buyFlour (g : Inv T M) (hK : ∀ M', Inv T M' → K M') : f_L_buyFlour p q M (fun r2 M1 => f_X13_buyFlour p q M1 (fun r4 M3 => LawE K r2 r4 M3)) := by
  unfold f_L_buyFlour f_X12_buyFlour
  obtain ⟨ci, di, nx, h, g1, g2, g3, g4, g5⟩ := id g
  have w := g1.2.2.2.2.2.1
  have n5 := w.nb5
  have n16 := w.np16
  obtain ⟨v1, v2, v3, v4⟩ := g1.in11
  refine c_reqBarge g1 (fun hp => c_rng (fun q1 q2 => ⟨v1, ?_⟩) (fun hq => Or.inr (Or.inl ⟨rfl, ?_⟩))) (fun hp => Or.inl ⟨rfl, ?_⟩)
  · rw [v2]
    refine c_canLoadFlour w g1.2.2.2.2.1 ?_
    unfold f_X12_requireState
    refine bT (fun ok => ⟨v1, ?_⟩) (fun ok => Or.inr (Or.inr ⟨rfl, ?_⟩))
    · rw [v2]
      refine c_mem g1 g2 g3 g4 g5 (fun M1 a0 ai k1 md => ⟨md.at5.1, ?_⟩)
      have e7 : M1 700 = M 700 := ai 700 (by decide)
      have rl1 := k1.2.2.2.2.1
      rw [e7] at rl1
      obtain ⟨b, hb, rfl⟩ := inR_of (by omega) hp
      rw [md.at5.2]
      refine c_loadFlour w rl1 ok (fun M2 f2 r2' => ?_)
      have md2 := md.op f2
      have w2 := wf_flour w ok
      have sm : Sm (M 700) (aFlour (M 700) b q) := sm_flour (by omega)
      rw [nI_clamp (by omega)] at r2' w2
      have e2 : nb (aFlour (M 700) b q) = nb (M 700) := by unfold nb; rw [sm 2 (Or.inl rfl)]
      have e5 : bg (aFlour (M 700) b q) b 3 = bg (M 700) b 3 + q := (up_n (by omega)).trans (up_s _ _ _)
      refine c_bargAtR md2.at5 w2 r2' (by omega) (some_ok (iBar_at g1 (by omega)) ?_)
      rw [(r2'.2.2.2.1 b (by omega)).2.2.2.2.1, e5]
      intro M4 e4
      have md4 : Mid T M4 ci di nx h := by rw [e4]; exact md2.u710
      have e47 : M4 700 = M 700 := by rw [e4, u2_n (by decide), f2 700 (by have := g1.1; omega)]; exact e7
      refine m_flP md4.rw (by rw [e47]; exact w.ix) (fun _ _ S0 t1 t2 => ?_) (fun e => by rw [e47, hp] at e; cases e) (fun _ e => absurd ⟨q1, q2⟩ e)
      refine m_keep (fun S s1 s3 => ?_)
      have hR : S 700 = M 700 := by rw [s1 700 (by decide), t1 700 (by decide)]; exact e47
      have s9 : ∀ j, j ≠ 8 → j ≠ 10 → S 699 j = M4 699 j := fun j j1 _ => by rw [s1 699 (by decide), t2 j j1]
      refine atS hR (F := fun S => f_X13_doFlour (nI b) q S _) ?_
      refine m_doFlour (rwS md4.rw s9) w (fun e => by rw [hp] at e; cases e) (fun _ e => by rw [ok] at e; cases e) (fun _ => ?_)
      rw [nI_clamp (by omega)]
      refine fin_ok md4 ?_ w2 (sm.nbN n5 g1.2.2.2.2.2.2) (Nat.le_refl _) (fun i i1 h3 => by rw [s1 i h3, t1 i i1]) s9 (by rw [← t1 700 (by decide)]; exact s3) (by rw [e4, u2_s]) hK
      rw [e4]
      exact r2'.frame (fun i h1 h2 => u2_n (by have := g1.1; omega)) w2.nb5 w2.no30
    · refine m_flP g1.rw w.ix (fun _ _ S0 t1 t2 => ?_) (fun e => by rw [hp] at e; cases e) (fun _ e => absurd ⟨q1, q2⟩ e)
      refine m_keep (fun S s1 s3 => ?_)
      have hR : S 700 = M 700 := by rw [s1 700 (by decide), t1 700 (by decide)]
      have s9 : ∀ j, j ≠ 8 → j ≠ 10 → S 699 j = M 699 j := fun j j1 _ => by rw [s1 699 (by decide), t2 j j1]
      refine atS hR (F := fun S => f_X13_doFlour p q S _) ?_
      refine m_doFlour (rwS g1.rw s9) w (fun e => by rw [hp] at e; cases e) (fun _ _ => ?_) (fun e => by rw [ok] at e; cases e)
      exact fin_err g (fun i i1 h3 => by rw [s1 i h3, t1 i i1]) s9 hR (by decide) hK
  · exact m_flP g1.rw w.ix (fun _ e => absurd e hq) (fun e => by rw [hp] at e; cases e) (fun _ _ S t1 t2 t3 => fin_thr g (fun i i1 _ => t1 i i1) (fun j j1 _ => t2 j j1) t3 (by decide) hK)
  · exact m_flP g1.rw w.ix (fun e => by rw [hp] at e; cases e) (fun _ S t1 t2 t3 => fin_thr g (fun i i1 _ => t1 i i1) (fun j j1 _ => t2 j j1) t3 (by decide) hK) (fun e => by rw [hp] at e; cases e)
/-- makeOrder -/
theorem m_orP (hr : Rw M 700) (ix : Ix (M 700)) (h0 : inR p (np (M 700)) = true → (1 ≤ bo ∧ bo ≤ 4) → (1 ≤ pu ∧ pu ≤ 6) → (1 ≤ mi ∧ mi ≤ 500) → ∀ S, (∀ i, i ≠ 699 → S i = M i) → (∀ j, j ≠ 8 → S 699 j = M 699 j) → f_X13_keep S (fun M12 => f_X13_doOrder p bo pu mi M12 (fun r14 M13 => f_X13_ends r14 M13 (fun r16 M15 => KL r16 M15)))) (h1 : inR p (np (M 700)) = false → ∀ S, (∀ i, i ≠ 699 → S i = M i) → (∀ j, j ≠ 8 → S 699 j = M 699 j) → S 699 8 = 1 → KL 0 S) (h2 : inR p (np (M 700)) = true → ¬ ((1 ≤ bo ∧ bo ≤ 4) ∧ (1 ≤ pu ∧ pu ≤ 6) ∧ (1 ≤ mi ∧ mi ≤ 500)) → ∀ S, (∀ i, i ≠ 699 → S i = M i) → (∀ j, j ≠ 8 → S 699 j = M 699 j) → S 699 8 = 2 → KL 0 S) : f_X13_makeOrder p bo pu mi M KL := by
  have go : ∀ b2 : Bool, (b2 = true → (1 ≤ bo ∧ bo ≤ 4) ∧ (1 ≤ pu ∧ pu ≤ 6) ∧ (1 ≤ mi ∧ mi ≤ 500)) → (b2 = false → ¬ ((1 ≤ bo ∧ bo ≤ 4) ∧ (1 ≤ pu ∧ pu ≤ 6) ∧ (1 ≤ mi ∧ mi ≤ 500))) → f_X13_makeOrder_L36 p bo pu mi KL p bo pu mi (bi b2) M := fun b2 t1 t0 => by
    unfold f_X13_makeOrder_L36
    refine m_plac hr rfl ix ?_
    refine m_both rfl rfl (fun e1 e2 S s1 s2 => cT' rfl (h0 e1 (t1 e2).1 (t1 e2).2.1 (t1 e2).2.2 S s1 s2)) (fun e1 S s1 s2 s3 => cN' (by decide) (h1 e1 S s1 s2 s3)) (fun e1 e2 S s1 s2 s3 => cN' (by decide) (h2 e1 (t0 e2) S s1 s2 s3))
  unfold f_X13_makeOrder f_X13_makeOrder_L35
  refine m_inRange ?_
  refine pF (fun c1 => ?_) (fun c1 => go false (fun e => by cases e) (fun _ e => c1 e.1))
  refine m_inRange ?_
  refine pF (fun c2 => ?_) (fun c2 => go false (fun e => by cases e) (fun _ e => c2 e.2.1))
  refine m_inRange ?_
  exact pF (fun c3 => go true (fun _ => ⟨c1, c2, c3⟩) (fun e => by cases e)) (fun c3 => go false (fun e => by cases e) (fun _ e => c3 e.2.2))
theorem q_makeOrder (g : Inv T M) (hK : ∀ M', Inv T M' → K M') : f_L_makeOrder p bo pu mi M (fun r2 M1 => f_X13_makeOrder p bo pu mi M1 (fun r4 M3 => LawE K r2 r4 M3)) := by
  unfold f_L_makeOrder f_X12_makeOrder
  obtain ⟨ci, di, nx, h, g1, g2, g3, g4, g5⟩ := id g
  have w := g1.2.2.2.2.2.1
  have n5 := w.nb5
  have n30 := w.no30
  obtain ⟨v1, v2, v3, v4⟩ := g1.in11
  have bad : inR p (np (M 700)) = true → ¬ ((1 ≤ bo ∧ bo ≤ 4) ∧ (1 ≤ pu ∧ pu ≤ 6) ∧ (1 ≤ mi ∧ mi ≤ 500)) → f_X13_makeOrder p bo pu mi M (fun r4 M3 => LawE K 2 r4 M3) := fun hp hq => m_orP g1.rw w.ix (fun _ e1 e2 e3 => absurd ⟨e1, e2, e3⟩ hq) (fun e => by rw [hp] at e; cases e) (fun _ _ S t1 t2 t3 => fin_thr g (fun i i1 _ => t1 i i1) (fun j j1 _ => t2 j j1) t3 (by decide) hK)
  refine c_reqPlace g1 (fun hp => c_rng (fun q1 q2 => c_rng (fun q3 q4 => c_rng (fun q5 q6 => ⟨v1, ?_⟩) (fun hq => Or.inr (Or.inl ⟨rfl, bad hp (fun e => hq e.2.2)⟩))) (fun hq => Or.inr (Or.inl ⟨rfl, bad hp (fun e => hq e.2.1)⟩))) (fun hq => Or.inr (Or.inl ⟨rfl, bad hp (fun e => hq e.1)⟩))) (fun hp => Or.inl ⟨rfl, ?_⟩)
  · rw [v2]
    refine c_canAddOrder w g1.2.2.2.2.1 ?_
    unfold f_X12_requireState
    refine bT (fun ok => ⟨v1, ?_⟩) (fun ok => Or.inr (Or.inr ⟨rfl, ?_⟩))
    · rw [v2]
      refine c_mem g1 g2 g3 g4 g5 (fun M1 a0 ai k1 md => ⟨md.at5.1, ?_⟩)
      have e7 : M1 700 = M 700 := ai 700 (by decide)
      have rl1 := k1.2.2.2.2.1
      rw [e7] at rl1
      rw [md.at5.2]
      refine c_addOrder w rl1 ok (fun M2 f2 r2' => ?_)
      have md2 := md.op f2
      have w2 : WF T (aOrder (M 700) p bo pu mi) := wf_order w ok
      have sm : Sm (M 700) (aOrder (M 700) p bo pu mi) := sm_order
      refine ⟨md2.at5.1, ?_⟩
      rw [md2.at5.2, r2'.1.2.2.1, aO_3 w, nI_pred]
      intro M4 e4
      have md4 : Mid T M4 ci di nx h := by rw [e4]; exact md2.u710
      have e47 : M4 700 = M 700 := by rw [e4, u2_n (by decide), f2 700 (by have := g1.1; omega)]; exact e7
      refine m_orP md4.rw (by rw [e47]; exact w.ix) (fun _ _ _ _ S0 t1 t2 => ?_) (fun e => by rw [e47, hp] at e; cases e) (fun _ e => absurd ⟨⟨q1, q2⟩, ⟨q3, q4⟩, q5, q6⟩ e)
      refine m_keep (fun S s1 s3 => ?_)
      have hR : S 700 = M 700 := by rw [s1 700 (by decide), t1 700 (by decide)]; exact e47
      have s9 : ∀ j, j ≠ 8 → j ≠ 10 → S 699 j = M4 699 j := fun j j1 _ => by rw [s1 699 (by decide), t2 j j1]
      refine atS hR (F := fun S => f_X13_doOrder p bo pu mi S _) ?_
      refine m_doOrder (rwS md4.rw s9) w (fun e => by rw [hp] at e; cases e) (fun _ e => by rw [ok] at e; cases e) (fun _ => ?_)
      refine fin_ok md4 ?_ w2 (sm.nbN n5 g1.2.2.2.2.2.2) (Nat.le_refl _) (fun i i1 h3 => by rw [s1 i h3, t1 i i1]) s9 (by rw [← t1 700 (by decide)]; exact s3) (by rw [e4, u2_s]) hK
      rw [e4]
      exact r2'.frame (fun i h1 h2 => u2_n (by have := g1.1; omega)) w2.nb5 w2.no30
    · refine m_orP g1.rw w.ix (fun _ _ _ _ S0 t1 t2 => ?_) (fun e => by rw [hp] at e; cases e) (fun _ e => absurd ⟨⟨q1, q2⟩, ⟨q3, q4⟩, q5, q6⟩ e)
      refine m_keep (fun S s1 s3 => ?_)
      have hR : S 700 = M 700 := by rw [s1 700 (by decide), t1 700 (by decide)]
      have s9 : ∀ j, j ≠ 8 → j ≠ 10 → S 699 j = M 699 j := fun j j1 _ => by rw [s1 699 (by decide), t2 j j1]
      refine atS hR (F := fun S => f_X13_doOrder p bo pu mi S _) ?_
      refine m_doOrder (rwS g1.rw s9) w (fun e => by rw [hp] at e; cases e) (fun _ _ => ?_) (fun e => by rw [ok] at e; cases e)
      exact fin_err g (fun i i1 h3 => by rw [s1 i h3, t1 i i1]) s9 hR (by decide) hK
  · exact m_orP g1.rw w.ix (fun e => by rw [hp] at e; cases e) (fun _ S t1 t2 t3 => fin_thr g (fun i i1 _ => t1 i i1) (fun j j1 _ => t2 j j1) t3 (by decide) hK) (fun e => by rw [hp] at e; cases e)
/-- take -/
theorem m_takeE (g : Inv T M) (hT : T + 1 < 2 ^ 31) (ok : okT (M 700) p q = false) (hK : ∀ M', Inv T M' → K M') : f_X13_take p q M (fun r4 M3 => LawE K (if (inR p (nb (M 700)) && inR q (no (M 700))) = true then 2 else 1) r4 M3) := by
  obtain ⟨ci, di, nx, h, g1, -⟩ := id g
  have w := g1.2.2.2.2.2.1
  unfold f_X13_take
  refine m_keep (fun S s1 s3 => ?_)
  have hR : S 700 = M 700 := s1 700 (by decide)
  have s9 : ∀ j, j ≠ 8 → j ≠ 10 → S 699 j = M 699 j := fun j _ _ => by rw [s1 699 (by decide)]
  refine atS hR (F := fun S => f_X13_doTake p q S _) ?_
  refine m_doTake (rwS g1.rw s9) w hT (fun e => ?_) (fun e _ => ?_) (fun e => by rw [ok] at e; cases e)
  · rw [e]
    exact fin_err g (fun i _ h3 => s1 i h3) s9 hR (by decide) hK
  · rw [e]
    exact fin_err g (fun i _ h3 => s1 i h3) s9 hR (by decide) hK
theorem q_take (g : Inv T M) (hT : T + 1 < 2 ^ 31) (hK : ∀ M', Inv (T + 1) M' → K M') : f_L_take p q M (fun r2 M1 => f_X13_take p q M1 (fun r4 M3 => LawE K r2 r4 M3)) := by
  unfold f_L_take f_X12_take
  obtain ⟨ci, di, nx, h, g1, g2, g3, g4, g5⟩ := id g
  have w := g1.2.2.2.2.2.1
  have n5 := w.nb5
  have n30 := w.no30
  obtain ⟨v1, v2, v3, v4⟩ := g1.in11
  have hK0 : ∀ M', Inv T M' → K M' := fun M' hM => hK M' (hM.mono (Nat.le_succ T))
  refine c_reqBarge g1 (fun hp => c_reqOrder g1 (fun hq => ⟨v1, ?_⟩) (fun hq => Or.inl ⟨rfl, ?_⟩)) (fun hp => Or.inl ⟨rfl, ?_⟩)
  · rw [v2]
    refine c_canGive w g1.2.2.2.2.1 ?_
    unfold f_X12_requireState
    refine bT (fun ok => ⟨v1, ?_⟩) (fun ok => Or.inr ⟨rfl, ?_⟩)
    · rw [v2]
      refine c_mem g1 g2 g3 g4 g5 (fun M1 a0 ai k1 md => ⟨md.at5.1, ?_⟩)
      rw [md.at5.2]
      have e7 : M1 700 = M 700 := ai 700 (by decide)
      have rl1 := k1.2.2.2.2.1
      rw [e7] at rl1
      obtain ⟨b, o, hb, ho, rfl, rfl, h4, hh⟩ := okT_of w ok
      refine c_give w (by omega) rl1 hb ho h4 hh (fun M2 f2 r2' => ?_)
      have md2 := md.op f2
      have w2 := wf_take w hT hb ho h4 hh
      have sm : Sm (M 700) (aTake (M 700) b o) := sm_take
      refine c_bargAtR md2.at5 w2 r2' (by rw [aT_nb]; exact hb) (some_ok (iBar_at g1 (by omega)) ?_)
      obtain ⟨l, y1, y2, y3⟩ := r2'.2.2.2.2.1 b (by rw [aT_nb]; exact hb)
      rw [y2, y1.len]
      intro M4 e4
      have md4 : Mid T M4 ci di nx h := by rw [e4]; exact md2.u710
      have e47 : M4 700 = M 700 := by rw [e4, u2_n (by decide), f2 700 (by have := g1.1; omega)]; exact e7
      unfold f_X13_take
      refine m_keep (fun S s1 s3 => ?_)
      have hR : S 700 = M 700 := (s1 700 (by decide)).trans e47
      have s9 : ∀ j, j ≠ 8 → j ≠ 10 → S 699 j = M4 699 j := fun j _ _ => by rw [s1 699 (by decide)]
      refine atS hR (F := fun S => f_X13_doTake (nI b) (nI o) S _) ?_
      refine m_doTake (rwS md4.rw s9) w hT (fun e => by rw [hp, hq] at e; cases e) (fun _ e => by rw [ok] at e; cases e) (fun _ => ?_)
      rw [nI_clamp (by omega), nI_clamp (by omega)]
      refine fin_ok md4 ?_ w2 (sm.nbN n5 g1.2.2.2.2.2.2) (Nat.le_succ T) (fun i _ h3 => s1 i h3) s9 s3 (by rw [e4, u2_s]) hK
      rw [e4]
      exact r2'.frame (fun i h1 h2 => u2_n (by have := g1.1; omega)) w2.nb5 w2.no30
    · have := m_takeE (p := p) (q := q) g hT ok hK0
      rw [hp, hq] at this
      exact this
  · have := m_takeE (p := p) (q := q) g hT (by unfold okT; rw [hq, Bool.and_false]; rfl) hK0
    rw [hq, Bool.and_false] at this
    exact this
  · have := m_takeE (p := p) (q := q) g hT (by unfold okT; rw [hp]; rfl) hK0
    rw [hp] at this
    exact this
/-- drop -/
theorem m_dropE (g : Inv T M) (ok : okD (M 700) p = false) (hK : ∀ M', Inv T M' → K M') : f_X13_drop p M (fun r4 M3 => LawE K (if inR p (no (M 700)) = true then 2 else 1) r4 M3) := by
  obtain ⟨ci, di, nx, h, g1, -⟩ := id g
  have w := g1.2.2.2.2.2.1
  unfold f_X13_drop
  refine m_keep (fun S s1 s3 => ?_)
  have hR : S 700 = M 700 := s1 700 (by decide)
  have s9 : ∀ j, j ≠ 8 → j ≠ 10 → S 699 j = M 699 j := fun j _ _ => by rw [s1 699 (by decide)]
  refine atS hR (F := fun S => f_X13_doDrop p S _) ?_
  refine m_doDrop (rwS g1.rw s9) w (fun e => ?_) (fun e _ => ?_) (fun e => by rw [ok] at e; cases e)
  · rw [e]
    exact fin_err g (fun i _ h3 => s1 i h3) s9 hR (by decide) hK
  · rw [e]
    exact fin_err g (fun i _ h3 => s1 i h3) s9 hR (by decide) hK
theorem q_drop (g : Inv T M) (hK : ∀ M', Inv T M' → K M') : f_L_drop p M (fun r2 M1 => f_X13_drop p M1 (fun r4 M3 => LawE K r2 r4 M3)) := by
  unfold f_L_drop f_X12_drop
  obtain ⟨ci, di, nx, h, g1, g2, g3, g4, g5⟩ := id g
  have w := g1.2.2.2.2.2.1
  have n5 := w.nb5
  have n30 := w.no30
  obtain ⟨v1, v2, v3, v4⟩ := g1.in11
  refine c_reqOrder g1 (fun hp => ⟨v1, ?_⟩) (fun hp => Or.inl ⟨rfl, ?_⟩)
  · rw [v2]
    refine c_canReopen w g1.2.2.2.2.1 ?_
    unfold f_X12_requireState
    refine bT (fun ok => ⟨v1, ?_⟩) (fun ok => Or.inr ⟨rfl, ?_⟩)
    · rw [v2]
      refine c_mem g1 g2 g3 g4 g5 (fun M1 a0 ai k1 md => ?_)
      have e7 : M1 700 = M 700 := ai 700 (by decide)
      have rl1 := k1.2.2.2.2.1
      rw [e7] at rl1
      obtain ⟨o, ho, rfl, hh⟩ := okD_of w ok
      refine c_ordeAtR md.at5 w rl1 ho (some_ok (iOrd_at g1 (by omega)) ⟨md.at5.1, ?_⟩)
      rw [md.at5.2, (rl1.2.2.2.2.2 o ho).2.2.2.2.2.2.2]
      refine c_reopen w rl1 ho hh (fun M2 f2 r2' => ?_)
      have md2 := md.op f2
      have w2 := wf_drop w ho hh
      have sm : Sm (M 700) (aDrop (M 700) o) := sm_drop
      intro M4 e4
      have md4 : Mid T M4 ci di nx h := by rw [e4]; exact md2.u710
      have e47 : M4 700 = M 700 := by rw [e4, u2_n (by decide), f2 700 (by have := g1.1; omega)]; exact e7
      unfold f_X13_drop
      refine m_keep (fun S s1 s3 => ?_)
      have hR : S 700 = M 700 := (s1 700 (by decide)).trans e47
      have s9 : ∀ j, j ≠ 8 → j ≠ 10 → S 699 j = M4 699 j := fun j _ _ => by rw [s1 699 (by decide)]
      refine atS hR (F := fun S => f_X13_doDrop (nI o) S _) ?_
      refine m_doDrop (rwS md4.rw s9) w (fun e => by rw [hp] at e; cases e) (fun _ e => by rw [ok] at e; cases e) (fun _ => ?_)
      rw [nI_clamp (by omega)]
      refine fin_ok md4 ?_ w2 (sm.nbN n5 g1.2.2.2.2.2.2) (Nat.le_refl T) (fun i _ h3 => s1 i h3) s9 s3 (by rw [e4, u2_s]) hK
      rw [e4]
      exact r2'.frame (fun i h1 h2 => u2_n (by have := g1.1; omega)) w2.nb5 w2.no30
    · have := m_dropE (p := p) g ok hK
      rw [hp] at this
      exact this
  · have := m_dropE (p := p) g (by unfold okD; rw [hp]; rfl) hK
    rw [hp] at this
    exact this
/-- passMinutes -/
theorem m_doWait (hr : Rw S 700) (hR : S 700 = R) (w : WF T R) (e1 : p = nI m) (hm : m < 1000) (h2 : ¬ R 0 + p ≤ 10000 → KI 2 S) (h0 : R 0 + p ≤ 10000 → KI 0 (uR (u2 S 699 10 (nI (cIn (pmN m R) 3) - nI (cIn R 3))) 700 (pmN m R))) : f_X13_doWait p S KI := by
  unfold f_X13_doWait
  refine ⟨hr.v' hR, vv0, ?_⟩
  rw [hr.rd' hR (x := 0) (i := 0) rfl (by decide)]
  refine ⟨fun c1 => ?_, h2⟩
  refine atS hR (F := fun S => f_X13_pass p S _) ?_
  refine m_pass hr w e1 hm ?_
  intro M6 e6
  subst e6
  rw [u2_sw (by decide)]
  exact h0 c1
theorem q_passMinutes (g : Inv T M) (hK : ∀ M', Inv T M' → K M') : f_L_passMinutes p M (fun r2 M1 => f_X13_passMinutes p M1 (fun r4 M3 => LawE K r2 r4 M3)) := by
  unfold f_L_passMinutes f_X12_passMinutes
  obtain ⟨ci, di, nx, h, g1, g2, g3, g4, g5⟩ := id g
  have w := g1.2.2.2.2.2.1
  have n5 := w.nb5
  have n30 := w.no30
  obtain ⟨v1, v2, v3, v4⟩ := g1.in11
  have rl := g1.2.2.2.2.1
  refine c_rng (fun q1 q2 => ⟨v1, ?_⟩) (fun hq => Or.inl ⟨rfl, ?_⟩)
  · obtain ⟨m, hm, rfl⟩ := rng_of (n' := 60) (by decide) q1 q2 (by decide)
    rw [v2]
    unfold f_X2_canPass
    rw [rl.1.2.2.2.1]
    unfold f_X12_requireState
    refine ⟨fun c1 => cT rfl (Or.inr ⟨rfl, ?_⟩), fun ok => cN (by decide) ⟨v1, ?_⟩⟩
    rotate_left
    · rw [v2]
      refine c_mem g1 g2 g3 g4 g5 (fun M1 a0 ai k1 md => ⟨md.at5.1, md.at5.1, ?_⟩)
      have e7 : M1 700 = M 700 := ai 700 (by decide)
      have rl1 := k1.2.2.2.2.1
      rw [e7] at rl1
      rw [md.at5.2]
      refine c_pass w rl1 rfl (by omega) (fun M2 f2 r2' => ?_)
      have md2 := md.op f2
      have w2 := (pmN_w w m).1
      refine ⟨md2.at5.1, ?_⟩
      rw [md2.at5.2, r2'.1.2.2.2.2.2.2.2.1, rl1.1.2.2.2.2.2.2.2.1]
      intro M4 e4
      have md4 : Mid T M4 ci di nx h := by rw [e4]; exact md2.u710
      have e47 : M4 700 = M 700 := by rw [e4, u2_n (by decide), f2 700 (by have := g1.1; omega)]; exact e7
      unfold f_X13_passMinutes
      refine m_inRange ?_
      refine m_lacks rfl ?_
      rw [decide_eq_true (show (1 : Int32) ≤ nI m ∧ nI m ≤ 60 from ⟨q1, q2⟩)]
      refine cT' rfl ?_
      refine m_keep (fun S s1 s3 => ?_)
      have hR : S 700 = M 700 := by rw [s1 700 (by decide), u2_n (by decide)]; exact e47
      have s9 : ∀ j, j ≠ 8 → j ≠ 10 → S 699 j = M4 699 j := fun j j1 _ => by rw [s1 699 (by decide), u2_f j1]
      refine m_doWait (rwS md4.rw s9) hR w rfl (by omega) (fun e => absurd (Int32.not_lt.1 ok) e) (fun _ => ?_)
      refine fin_ok md4 ?_ w2 (nb_pmN w g1.2.2.2.2.2.2 m) (Nat.le_refl T) (fun i i1 h3 => by rw [s1 i h3, u2_n i1]) s9 (by rw [u2_n (by decide)] at s3; exact s3) (by rw [e4, u2_s]) hK
      rw [e4]
      exact r2'.frame (fun i h1 h2 => u2_n (by have := g1.1; omega)) w2.nb5 w2.no30
    · unfold f_X13_passMinutes
      refine m_inRange ?_
      refine m_lacks rfl ?_
      rw [decide_eq_true (show (1 : Int32) ≤ nI m ∧ nI m ≤ 60 from ⟨q1, q2⟩)]
      refine cT' rfl ?_
      refine m_keep (fun S s1 s3 => ?_)
      have hR : S 700 = M 700 := by rw [s1 700 (by decide), u2_n (by decide)]
      have s9 : ∀ j, j ≠ 8 → j ≠ 10 → S 699 j = M 699 j := fun j j1 _ => by rw [s1 699 (by decide), u2_f j1]
      refine m_doWait (rwS g1.rw s9) hR w rfl (by omega) (fun e => ?_) (fun e => absurd c1 (Int32.not_lt.2 e))
      have := fin_err (p := 2) g (fun i i1 h3 => by rw [s1 i h3, u2_n i1]) s9 hR (by decide) hK
      rw [uR_self hR] at this
      exact this
  · unfold f_X13_passMinutes
    refine m_inRange ?_
    refine m_lacks rfl ?_
    rw [decide_eq_false hq]
    exact cN' (by decide) (finF g hK)
end OPS2
