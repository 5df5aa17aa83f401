/-! calls that change: the class has remembered, the model has not yet recorded -/
def HisK (T : Nat) (M : TM) (nx h : Nat) : Prop := M 25 1 = nI (nx % 8 + 1) ∧ M 25 2 = nI (min (h + 1) 8) ∧ nx ≤ 8 ∧ h ≤ 8 ∧ M 699 7 = nI h ∧ RelC (27 + 61 * (nx % 8)) M (M 700) ∧ WF T (M 700) ∧ Nb (M 700) ∧ ∀ k, k < h → slot nx h k ≠ 27 + 61 * (nx % 8) → RelC (slot nx h k) M (hrow M k) ∧ WF T (hrow M k) ∧ Nb (hrow M k)
def Mid (T : Nat) (M : TM) (ci di nx h : Nat) : Prop := (((ci = 9 ∧ di = 10) ∨ (ci = 10 ∧ di = 9)) ∧ M 0 5 = nI ci ∧ M 0 6 = nI di ∧ M 699 6 = 0) ∧ HisK T M nx h ∧ Snap T M ∧ Txt M ∧ Out M
section CHANGE
variable {c' : Bool} {i : Nat} {M M1 M' S S' : TM} {T U : Nat} {K : TM → Prop} {KI : Int32 → TM → Prop} {KO : Option Nat → TM → Prop} {KV : TM → Prop} {X : String → TM → Prop} {p q u v r2 r4 : Int32} {R R' : Nat → Int32} {a b c d e f j k m x' h nx ci di r o : Nat}
theorem HisK.fr (g : HisK T M nx h) (h25 : M' 25 = M 25) (hc : ∀ i, 27 ≤ i → i < 515 → M' i = M i) (h9 : M' 699 7 = M 699 7) (h7 : M' 705 = M 705) (h0 : M' 700 = M 700) : HisK T M' nx h := by
  obtain ⟨a1, a2, a3, a4, a5, a6, a7, a8, a9⟩ := g
  unfold HisK
  rw [h25, h9, h0]
  have hm : nx % 8 < 8 := Nat.mod_lt _ (by decide)
  refine ⟨a1, a2, a3, a4, a5, a6.frame (fun i h1 h2 => hc i (by omega) (by omega)) a7.nb5 a7.no30, a7, a8, fun k hk hn => ?_⟩
  obtain ⟨b1, b2, b3⟩ := a9 k hk hn
  have sl := slot_lt nx h k
  have e : hrow M' k = hrow M k := by unfold hrow; rw [h7]
  rw [e]
  exact ⟨b1.frame (fun i h1 h2 => hc i (by omega) (by omega)) b2.nb5 b2.no30, b2, b3⟩
/-- the class remembers -/
theorem c_mem (g1 : Cur T M ci di) (g2 : His T M nx h) (g3 : Snap T M) (g4 : Txt M) (g5 : Out M) (hK : ∀ M', M' 0 = M 0 → (∀ i, 515 ≤ i → M' i = M i) → Cur T M' ci di → Mid T M' ci di nx h → KV M') : f_X5_remember (27 + 61 * ci) M KV := by
  obtain ⟨v1, v2, v3, v4⟩ := g1.in11
  obtain ⟨a1, a2, a3, a4, a5, a6⟩ := id g2
  obtain ⟨q1, q2, q3, q4, q5, q6, q7⟩ := id g1
  have hm : nx % 8 < 8 := Nat.mod_lt _ (by decide)
  refine c_remember v4 a1 a2 a3 a4 q6 q5 (fun M' s es m1 m2 m3 m4 => ?_)
  subst es
  have hi : ∀ i, 515 ≤ i → M' i = M i := fun i h1 => m1 i (by omega) (by omega)
  have e0 : M' 0 = M 0 := m1 0 (by decide) (by omega)
  have e9 : M' 699 = M 699 := hi 699 (by decide)
  refine hK M' e0 hi (g1.fr e0 (fun i h1 h2 => hi i (by omega)) (by rw [e9]) (hi 700 (by decide))) ⟨⟨q1, by rw [e0]; exact q2, by rw [e0]; exact q3, by rw [e9]; exact q4⟩, ⟨m2, m3, a3, a4, by rw [e9]; exact a5, by rw [hi 700 (by decide)]; exact m4, by rw [hi 700 (by decide)]; exact q6, by rw [hi 700 (by decide)]; exact q7, fun k hk hn => ?_⟩, g3.fr (by rw [e0]) (fun i h1 _ => hi i h1) (by rw [e9]) (hi 704 (by decide)), g4.fr ?_ (m1 2 (by decide) (by omega)) (by rw [e9]; exact ⟨rfl, rfl, rfl⟩) (hi 707 (by decide)), g5.fr (by rw [e0]) (hi 698 (by decide)) (by rw [e9]) (hi 706 (by decide))⟩
  · obtain ⟨b1, b2, b3⟩ := a6 k hk
    have sl := slot_lt nx h k
    have e : hrow M' k = hrow M k := by unfold hrow; rw [hi 705 (by decide)]
    rw [e]
    refine ⟨b1.frame (fun i h1 h2 => m1 i (by omega) ?_) b2.nb5 b2.no30, b2, b3⟩
    unfold slot at hn h1 h2
    omega
  · rw [m1 1 (by decide) (by omega)]
    exact ⟨rfl, rfl, rfl⟩
theorem Mid.fr (g : Mid T M ci di nx h) (h0 : ∀ x, x ≠ 8 → M' 0 x = M 0 x) (h8 : M' 0 8 = M 0 8) (hi : ∀ i, i ≠ 0 → i < 576 → M' i = M i) (h698 : M' 698 = M 698) (h699 : ∀ j, j ≠ 8 → j ≠ 10 → M' 699 j = M 699 j) (h700 : ∀ i, i = 700 ∨ i = 704 ∨ i = 705 ∨ i = 706 ∨ i = 707 → M' i = M i) : Mid T M' ci di nx h := by
  obtain ⟨⟨q1, q2, q3, q4⟩, g2, g3, g4, g5⟩ := g
  refine ⟨⟨q1, by rw [h0 5 (by decide)]; exact q2, by rw [h0 6 (by decide)]; exact q3, by rw [h699 6 (by decide) (by decide)]; exact q4⟩, g2.fr (hi 25 (by decide) (by decide)) (fun i h1 h2 => hi i (by omega) (by omega)) (h699 7 (by decide) (by decide)) (h700 705 (by omega)) (h700 700 (by omega)), g3.fr (h0 4 (by decide)) (fun i h1 h2 => hi i (by omega) h2) (h699 11 (by decide) (by decide)) (h700 704 (by omega)), g4.fr ?_ (hi 2 (by decide) (by decide)) ⟨h699 15 (by decide) (by decide), h699 9 (by decide) (by decide), h699 22 (by decide) (by decide)⟩ (h700 707 (by omega)), g5.fr h8 h698 (h699 13 (by decide) (by decide)) (h700 706 (by omega))⟩
  rw [hi 1 (by decide) (by decide)]
  exact ⟨rfl, rfl, rfl⟩
theorem Mid.op (g : Mid T M ci di nx h) (f : FrC (27 + 61 * ci) M M') : Mid T M' ci di nx h := by
  have q1 := g.1.1
  exact g.fr (fun x _ => by rw [f 0 (by omega)]) (by rw [f 0 (by omega)]) (fun i h1 h2 => f i (by omega)) (f 698 (by omega)) (fun j _ _ => by rw [f 699 (by omega)]) (fun i hi => f i (by omega))
theorem Mid.u710 (g : Mid T M ci di nx h) : Mid T (u2 M 710 0 v) ci di nx h := g.fr (fun x _ => by rw [u2_n (by decide)]) (by rw [u2_n (by decide)]) (fun i h1 h2 => u2_n (by omega)) (u2_n (by decide)) (fun j _ _ => by rw [u2_n (by decide)]) (fun i hi => u2_n (by omega))
theorem Mid.rw (g : Mid T M ci di nx h) : Rw M 700 := Or.inl ⟨g.1.2.2.2, rfl⟩
theorem Mid.at5 (g : Mid T M ci di nx h) : vp_in (M 0 5) 11 ∧ 27 + 61 * (M 0 5).toNatClampNeg = 27 + 61 * ci := by
  have q1 := g.1.1
  rw [g.1.2.1]
  exact ⟨vp_in_nI (by omega) (by decide), by rw [nI_clamp (by omega)]⟩
/-- the model keeps -/
theorem m_keep (hK : ∀ S, (∀ i, i ≠ 703 → S i = M i) → REq (M 700) (S 703) → KV S) : f_X13_keep M KV := by
  unfold f_X13_keep
  exact m_copyRow rfl rfl (Nat.le_refl _) (Nat.le_refl _) (by decide) (by decide) hK
/-- the model records: the call is done -/
theorem mid_done (g : Mid T M ci di nx h) (rl : RelC (27 + 61 * ci) M R') (w : WF U R') (hb : Nb R') (hT : T ≤ U) (hS : ∀ i, i ≠ 699 → i ≠ 700 → i ≠ 703 → S i = M i) (h9 : ∀ j, j ≠ 8 → j ≠ 10 → S 699 j = M 699 j) (e7 : S 700 = R') (e3 : REq (M 700) (S 703)) (hv : S 699 10 = M 710 0) (hK : ∀ M', Inv U M' → K M') : f_X13_ends 0 S (fun r5 M4 => LawE K 0 r5 M4) := by
  obtain ⟨⟨q1, q2, q3, q4⟩, g2, g3, g4, g5⟩ := g
  obtain ⟨a1, a2, a3, a4, a5, a6, a7, a8, a9⟩ := g2
  have hm : nx % 8 < 8 := Nat.mod_lt _ (by decide)
  unfold f_X13_ends
  intro M1 e1
  refine cT' rfl ?_
  have f1 : ∀ i, i ≠ 699 → i ≠ 700 → i ≠ 703 → M1 i = M i := fun i i1 i2 i3 => by rw [e1, u2_n i1, hS i i1 i2 i3]
  have f9 : ∀ j, j ≠ 8 → j ≠ 10 → M1 699 j = M 699 j := fun j j1 j2 => by rw [e1, u2_f j1, h9 j j1 j2]
  refine m_record (h := h) (by rw [f9 7 (by decide) (by decide)]; exact a5) a4 (fun M' m1 m2 m3 m4 m5 => ?_)
  have c1 : ∀ i, i ≠ 699 → i ≠ 700 → i ≠ 703 → i ≠ 705 → M' i = M i := fun i i1 i2 i3 i4 => by rw [m1 i i1 i4, f1 i i1 i2 i3]
  have c9 : ∀ j, j ≠ 7 → j ≠ 8 → j ≠ 10 → M' 699 j = M 699 j := fun j j1 j2 j3 => by rw [m2 j j1, f9 j j2 j3]
  have e700 : M' 700 = R' := by rw [m1 700 (by decide) (by decide), e1, u2_n (by decide)]; exact e7
  have e703 : M1 703 = S 703 := by rw [e1, u2_n (by decide)]
  rw [e703] at m5
  have eh : ∀ k, hrow M1 k = hrow M k := fun k => by unfold hrow; rw [f1 705 (by decide) (by decide) (by decide)]
  refine lawE (by rw [m2 8 (by decide), e1, u2_s]) (fun _ => by rw [c1 710 (by decide) (by decide) (by decide) (by decide), m2 10 (by decide), e1, u2_f (by decide)]; exact hv.symm) (hK M' ⟨ci, di, nx % 8 + 1, min (h + 1) 8, ?_, ?_, ?_, ?_, ?_⟩)
  · unfold Cur
    rw [e700, c1 0 (by decide) (by decide) (by decide) (by decide), c9 6 (by decide) (by decide) (by decide)]
    exact ⟨q1, q2, q3, q4, rl.frame (fun i h1 h2 => c1 i (by omega) (by omega) (by omega) (by omega)) w.nb5 w.no30, w, hb⟩
  · have hrl : ∀ k (R : Nat → Int32) (W : Nat), W = slot (nx % 8 + 1) (min (h + 1) 8) k → RelC W M R → WF T R → Nb R → REq R (hrow M' k) → RelC (slot (nx % 8 + 1) (min (h + 1) 8) k) M' (hrow M' k) ∧ WF U (hrow M' k) ∧ Nb (hrow M' k) := fun k R W eW r1 r2 r3 r4 => by
      have sl := slot_lt (nx % 8 + 1) (min (h + 1) 8) k
      subst eW
      exact ⟨((r1.frame (fun i h1 h2 => c1 i (by omega) (by omega) (by omega) (by omega)) r2.nb5 r2.no30)).row r2 r4, WF.mono hT (r2.row r4), r3.row r2 r4⟩
    refine ⟨by rw [c1 25 (by decide) (by decide) (by decide) (by decide)]; exact a1, by rw [c1 25 (by decide) (by decide) (by decide) (by decide)]; exact a2, by omega, by omega, m3, fun k hk => ?_⟩
    by_cases hl : k + 1 < min (h + 1) 8
    · have r4 := m4 k hl
      rw [eh] at r4
      by_cases h8 : h = 8
      · rw [if_pos h8] at r4
        obtain ⟨b1, b2, b3⟩ := a9 (k + 1) (by omega) (by unfold slot; omega)
        exact hrl k _ _ (by unfold slot; omega) b1 b2 b3 r4
      · rw [if_neg h8] at r4
        obtain ⟨b1, b2, b3⟩ := a9 k (by omega) (by unfold slot; omega)
        exact hrl k _ _ (by unfold slot; omega) b1 b2 b3 r4
    · have ek : k = min (h + 1) 8 - 1 := by omega
      rw [← ek] at m5
      exact hrl k _ _ (by unfold slot; omega) a6 a7 a8 (e3.trans m5)
  · exact (g3.fr (by rw [c1 0 (by decide) (by decide) (by decide) (by decide)]) (fun i h1 h2 => c1 i (by omega) (by omega) (by omega) (by omega)) (c9 11 (by decide) (by decide) (by decide)) (c1 704 (by decide) (by decide) (by decide) (by decide))).mono hT
  · refine g4.fr ?_ (c1 2 (by decide) (by decide) (by decide) (by decide)) ⟨c9 15 (by decide) (by decide) (by decide), c9 9 (by decide) (by decide) (by decide), c9 22 (by decide) (by decide) (by decide)⟩ (c1 707 (by decide) (by decide) (by decide) (by decide))
    rw [c1 1 (by decide) (by decide) (by decide) (by decide)]
    exact ⟨rfl, rfl, rfl⟩
  · exact g5.fr (by rw [c1 0 (by decide) (by decide) (by decide) (by decide)]) (c1 698 (by decide) (by decide) (by decide) (by decide)) (c9 13 (by decide) (by decide) (by decide)) (c1 706 (by decide) (by decide) (by decide) (by decide))
/-- both ends, as the model's doings leave them -/
theorem fin_ok (g : Mid T M ci di nx h) (rl : RelC (27 + 61 * ci) M R') (w : WF U R') (hb : Nb R') (hT : T ≤ U) (h1 : ∀ i, i ≠ 699 → i ≠ 703 → S i = M i) (h9 : ∀ j, j ≠ 8 → j ≠ 10 → S 699 j = M 699 j) (e3 : REq (M 700) (S 703)) (hv : M 710 0 = v) (hK : ∀ M', Inv U M' → K M') : f_X13_ends 0 (uR (u2 S 699 10 v) 700 R') (fun r5 M4 => LawE K 0 r5 M4) := by
  refine mid_done g rl w hb hT (fun i i1 i2 i3 => by rw [uR_n i2, u2_n i1, h1 i i1 i3]) (fun j j1 j2 => by rw [uR_n (by decide), u2_f j2, h9 j j1 j2]) (uR_s _ _ _) (by rw [uR_n (by decide), u2_n (by decide)]; exact e3) (by rw [uR_n (by decide), u2_s]; exact hv.symm) hK
theorem Inv.sc (g : Inv T M) (h1 : ∀ i, i ≠ 699 → i ≠ 703 → S i = M i) (h9 : ∀ j, j ≠ 8 → j ≠ 10 → S 699 j = M 699 j) : Inv T S := g.tmp (fun i hi => h1 i (by omega) (by omega)) h9 (h1 700 (by decide) (by decide)) (h1 704 (by decide) (by decide)) (h1 705 (by decide) (by decide)) (h1 706 (by decide) (by decide)) (h1 707 (by decide) (by decide))
theorem fin_err (g : Inv T M) (h1 : ∀ i, i ≠ 699 → i ≠ 703 → S i = M i) (h9 : ∀ j, j ≠ 8 → j ≠ 10 → S 699 j = M 699 j) (hR : S 700 = R) (hp : p ≠ 0) (hK : ∀ M', Inv T M' → K M') : f_X13_ends p (uR S 700 R) (fun r5 M4 => LawE K p r5 M4) := by
  rw [uR_self hR]
  unfold f_X13_ends
  intro M1 e1
  subst e1
  exact cN' hp (lawE (u2_s _ _ _ _) (fun e => absurd e hp) (hK _ ((g.sc h1 h9).u8)))
theorem fin_thr (g : Inv T M) (h1 : ∀ i, i ≠ 699 → i ≠ 703 → S i = M i) (h9 : ∀ j, j ≠ 8 → j ≠ 10 → S 699 j = M 699 j) (h8 : S 699 8 = p) (hp : p ≠ 0) (hK : ∀ M', Inv T M' → K M') : LawE K p 0 S := lawE h8 (fun e => absurd e hp) (hK _ (g.sc h1 h9))
/-- the class's tests against any row -/
theorem c_bargAtR (h5 : vp_in (M 0 5) 11 ∧ 27 + 61 * (M 0 5).toNatClampNeg = 27 + 61 * ci) (w : WF T R) (rl : RelC (27 + 61 * ci) M R) (hb : b < nb R) (h1 : KO (some (27 + 61 * ci + 21 + 2 * b)) M) : f_X12_bargeAt (nI b) M KO X := by
  unfold f_X12_bargeAt f_X12_requireBarge
  have n5 := w.nb5
  refine ⟨h5.1, ?_⟩
  rw [h5.2]
  refine c_hasBarge w rl ?_
  rw [inR_nI hb (by omega)]
  refine bT (fun _ => ⟨h5.1, vp_in_nI (by omega) (by decide), ?_⟩) (fun c => by cases c)
  rw [nI_clamp (by omega), h5.2]
  exact h1
theorem c_rng {lo hi : Int32} (h1 : lo ≤ p → p ≤ hi → KV M) (h0 : ¬ (lo ≤ p ∧ p ≤ hi) → X "java/lang/IllegalArgumentException" M) : f_X12_requireRange p lo hi M KV X := by
  unfold f_X12_requireRange
  exact ⟨fun c1 => h0 (fun c2 => absurd c1 (Int32.not_lt.2 c2.1)), fun c1 => ⟨fun c2 => h1 (Int32.not_lt.1 c1) c2, fun c2 => h0 (fun c3 => c2 c3.2)⟩⟩
theorem rwS (hr : Rw M 700) (h9 : ∀ j, j ≠ 8 → j ≠ 10 → S 699 j = M 699 j) : Rw S 700 := by
  rcases hr with ⟨h1, h2⟩ | ⟨h1, h2⟩
  · exact Or.inl ⟨by rw [h9 6 (by decide) (by decide)]; exact h1, h2⟩
  · cases h2
end CHANGE
