/-! p65: the calls that change, the forecasts, undo and the snapshot, for the object alone -/
def pushR (h : Nat) (hr : Nat → Nat → Int32) (R : Nat → Int32) : Nat → Nat → Int32 := fun k => if k + 1 < min (h + 1) 8 then hr (if h = 8 then k + 1 else k) else R
section CHANGER
variable {i : Nat} {M M1 M' L L' : TM} {T U : Nat} {KI : Int32 → TM → Prop} {KO : Option Nat → TM → Prop} {KV : TM → Prop} {p q u v bo pu mi : Int32} {R R' S : Nat → Int32} {a b c d e f j k m h nx ci di t o n' : Nat} {hr : Nat → Nat → Int32} {sb : Bool}
theorem and_1 (x : Int32) : x &&& 1 = nI (x.toBitVec.toNat % 2) := by
  apply Int32.toBitVec_inj.1
  apply BitVec.eq_of_toNat_eq
  rw [Int32.toBitVec_and, BitVec.toNat_and]
  show x.toBitVec.toNat &&& 1 = _
  rw [Nat.and_one_is_mod]
  show _ = (BitVec.ofNat 32 (x.toBitVec.toNat % 2)).toNat
  rw [BitVec.toNat_ofNat, Nat.mod_eq_of_lt (a := x.toBitVec.toNat % 2) (by omega)]
theorem bz_b (x : Int32) : ∃ b : Bool, bz x = bi b := by
  unfold bz
  rw [and_1]
  rcases Nat.mod_two_eq_zero_or_one x.toBitVec.toNat with h | h
  · exact ⟨false, by rw [h]; rfl⟩
  · exact ⟨true, by rw [h]; rfl⟩
theorem c_back (hc : c = 576 ∨ c = 637) (h1 : M 25 1 = nI nx) (h2 : M 25 2 = nI (h + 1)) (hn : nx ≤ 8) (h8 : h + 1 ≤ 8) (w : WF T R) (rc : RelC (27 + 61 * ((nx + 7) % 8)) M R) (hK : ∀ M', (∀ i, i ≠ 25 → (i < c ∨ c + 61 ≤ i) → M' i = M i) → M' 25 1 = nI ((nx + 7) % 8) → M' 25 2 = nI h → RelC c M' R → KV M') : f_X5_takeBack c M KV := by
  have body : ∀ z : Int32, z = nI ((nx + 7) % 8) → f_X5_takeBack_L46 c KV z M := fun z ez => by
    unfold f_X5_takeBack_L46
    subst ez
    intro M3 e3
    have hm : (nx + 7) % 8 < 8 := Nat.mod_lt _ (by decide)
    have e31 : M3 25 1 = nI ((nx + 7) % 8) := by rw [e3, u2_s]
    have e32 : M3 25 2 = nI (h + 1) := by rw [e3, u2_f (by decide)]; exact h2
    rw [e31]
    refine ⟨vp_in_nI hm (by decide), ?_⟩
    rw [nI_clamp (by omega)]
    have rc3 : RelC (27 + 61 * ((nx + 7) % 8)) M3 R := rc.frame (fun k k1 k2 => by rw [e3, u2_n (by omega)]) w.nb5 w.no30
    refine c_copy w rc3 (by omega) (fun M5 f5 r5 => ?_)
    have e51 : M5 25 1 = nI ((nx + 7) % 8) := by rw [f5 25 (by omega)]; exact e31
    have e52 : M5 25 2 = nI (h + 1) := by rw [f5 25 (by omega)]; exact e32
    rw [e52, nI_pred]
    intro M6 e6
    refine hK M6 (fun i i1 i2 => by rw [e6, u2_n i1, f5 i i2, e3, u2_n i1]) (by rw [e6, u2_f (by decide)]; exact e51) (by rw [e6, u2_s]) (r5.frame (fun k k1 k2 => by rw [e6, u2_n (by omega)]) w.nb5 w.no30)
  unfold f_X5_takeBack
  rw [h1, h2]
  refine cT' (nI_le (a := 1) (by omega) (by omega)) ⟨fun c1 => ?_, fun c1 => ⟨fun c2 => ?_, fun c2 => absurd (nI_le (b := 8) hn (by decide)) c2⟩⟩
  · have n0 : nx = 0 := by
      refine Decidable.byContradiction (fun hne => ?_)
      exact absurd c1 (nI_nlt (b := 1) (by omega) (by omega))
    subst n0
    unfold f_X5_takeBack_L30
    exact body _ (by decide)
  · have n1 : 1 ≤ nx := by
      refine Decidable.byContradiction (fun hne => c1 ?_)
      rw [show nx = 0 by omega]
      decide
    refine body _ ?_
    rw [show nx = nx - 1 + 1 by omega, nI_pred]
    congr 1
    omega
theorem slot_ltR (nx h k : Nat) : 27 ≤ slot nx h k ∧ slot nx h k + 61 ≤ 515 := by
  unfold slot
  have := Nat.mod_lt (nx + 8 - h + k) (show 8 > 0 by decide)
  omega
theorem r_mem (g1 : CurR T M ci di R) (g2 : HisR T M nx h hr) (g3 : SnR T M sb S) (hK : ∀ M', M' 0 = M 0 → (∀ i, 515 ≤ i → M' i = M i) → CurR T M' ci di R → HisR T M' (nx % 8 + 1) (min (h + 1) 8) (pushR h hr R) → SnR T M' sb S → KV M') : f_X5_remember (27 + 61 * ci) M KV := by
  obtain ⟨v1, v2, v3, v4⟩ := g1.in11
  obtain ⟨a1, a2, a3, a4, a6⟩ := id g2
  obtain ⟨q1, q2, q3, q5, q6, q7⟩ := id g1
  have hm : nx % 8 < 8 := Nat.mod_lt _ (by decide)
  refine c_remember v4 a1 a2 a3 a4 q6 q5 (fun M' s es m1 m2 m3 m4 => ?_)
  subst es
  have hi : ∀ i, 515 ≤ i → M' i = M i := fun i h1 => m1 i (by omega) (by omega)
  have e0 : M' 0 = M 0 := m1 0 (by decide) (by omega)
  refine hK M' e0 hi (g1.fr ⟨by rw [e0], by rw [e0]⟩ (fun i h1 h2 => hi i (by omega))) ⟨m2, m3, by omega, by omega, fun k hk => ?_⟩ (g3.fr (by rw [e0]) (fun i h1 _ => hi i h1))
  unfold pushR
  by_cases hl : k + 1 < min (h + 1) 8
  · rw [if_pos hl]
    have key : ∀ k', k' < h → slot (nx % 8 + 1) (min (h + 1) 8) k = slot nx h k' → slot nx h k' ≠ 27 + 61 * (nx % 8) → RelC (slot (nx % 8 + 1) (min (h + 1) 8) k) M' (hr k') ∧ WF T (hr k') ∧ Nb (hr k') := fun k' hk' e1 e2 => by
      obtain ⟨b1, b2, b3⟩ := a6 k' hk'
      have sl := slot_ltR nx h k'
      rw [e1]
      refine ⟨b1.frame (fun i h1 h2 => m1 i (by omega) ?_) b2.nb5 b2.no30, b2, b3⟩
      unfold slot at e2 h1 h2
      omega
    by_cases h8 : h = 8
    · rw [if_pos h8]
      exact key (k + 1) (by omega) (by unfold slot; omega) (by unfold slot; omega)
    · rw [if_neg h8]
      exact key k (by omega) (by unfold slot; omega) (by unfold slot; omega)
  · rw [if_neg hl]
    have ek : slot (nx % 8 + 1) (min (h + 1) 8) k = 27 + 61 * (nx % 8) := by unfold slot; omega
    rw [ek]
    exact ⟨m4, q6, q7⟩
theorem CurR.op1 (g : CurR T M ci di R) (f : FrC (27 + 61 * ci) M M') (rl : RelC (27 + 61 * ci) M' R') (w : WF U R') (hb : Nb R') : CurR U M' ci di R' := by
  have := g.1
  exact ⟨g.1, by rw [f 0 (by omega)]; exact g.2.1, by rw [f 0 (by omega)]; exact g.2.2.1, rl, w, hb⟩
theorem CurR.op (g1 : CurR T M ci di R) (g2 : HisR T M nx h hr) (g3 : SnR T M sb S) (f : FrC (27 + 61 * ci) M M') (rl : RelC (27 + 61 * ci) M' R') (w : WF U R') (hb : Nb R') (hT : T ≤ U) (hL : ∀ i, 699 ≤ i → M i = L i) : PV L U R' h hr sb S M' := by
  have := g1.1
  exact ⟨⟨ci, di, nx, g1.op1 f rl w hb, (g2.fr (f 25 (by omega)) (fun i h1 h2 => f i (by omega))).mono hT, (g3.fr (by rw [f 0 (by omega)]) (fun i h1 h2 => f i (by omega))).mono hT⟩, fun i hi => by rw [f i (by omega)]; exact hL i hi⟩
theorem rng_in {lo hi : Int32} (h1 : lo ≤ p) (h2 : p ≤ hi) (hK : KV M) : f_X12_requireRange p lo hi M KV := by
  unfold f_X12_requireRange
  exact ⟨fun c => absurd c (Int32.not_lt.2 h1), fun _ => ⟨fun _ => hK, fun c => absurd h2 c⟩⟩
theorem st_ok {x : Int32} (h1 : x = bi true) (hK : KV M) : f_X12_requireState x M KV := by
  unfold f_X12_requireState
  subst h1
  exact ⟨fun _ => hK, fun c => absurd c (show ¬ bi true = 0 by decide)⟩
/-- sail -/
theorem tB_congr (ha : a < 16) (ht : t < 16) (h10 : ∀ j, j < 16 → R' (10 + j) = R (10 + j)) : tB R' a t = tB R a t := by
  unfold tB
  refine fo_congr _ _ (fun k hk x => ?_)
  rw [h10 (min a t + k) (by omega)]
theorem t_sail (g : PV L T R h hr sb S M) (e1 : p = nI b) (e2 : q = nI t) (hb : b < nb R) (ht : t < np R) (ok : obs R b t = 0) (hK : ∀ M', PV L T (aSail R b (nI t)) (min (h + 1) 8) (pushR h hr R) sb S M' → KI (tB R (pl R b) t) M') : f_X12_sail p q M KI := by
  subst e1 e2
  unfold f_X12_sail
  obtain ⟨⟨ci, di, nx, g1, g2, g3⟩, gL⟩ := g
  have w := g1.2.2.2.2.1
  have n5 := w.nb5
  have n16 := w.np16
  obtain ⟨v1, v2, v3, v4⟩ := g1.in11
  have oks : okS R (nI b) (nI t) = true := by
    unfold okS
    rw [inR_nI hb (by omega), inR_nI ht (by omega), nI_clamp (by omega), nI_clamp (by omega), ok]
    rfl
  refine r_barge g1 rfl hb (r_place g1 rfl ht ⟨v1, ?_⟩)
  rw [v2]
  refine c_canSail w g1.2.2.2.1 (st_ok (by rw [oks]) ⟨v1, ?_⟩)
  rw [v2]
  refine r_mem g1 g2 g3 (fun M1 a0 ai k1 k2 k3 => ?_)
  obtain ⟨x1, x2, -⟩ := k1.in11
  refine ⟨x1, ?_⟩
  rw [x2]
  refine c_setTarget w k1.2.2.2.1 oks (fun M2 f2 r2' => ?_)
  have w2 := wf_sail w oks
  have lk2 := lk_sail oks g1.2.2.2.2.2.2 n5
  rw [nI_clamp (by omega)] at r2' w2 lk2
  have e2 : nb (aSail R b (nI t)) = nb R := by unfold nb aSail sB; rw [up_n (by omega)]
  have e1 : np (aSail R b (nI t)) = np R := by unfold np aSail sB; rw [up_n (by omega)]
  have nb2 : Nb (aSail R b (nI t)) := ⟨by rw [e2]; exact g1.2.2.2.2.2.1, lk2⟩
  have c2 := k1.op1 f2 r2' w2 nb2
  obtain ⟨y1, y2, -⟩ := c2.in11
  refine ⟨y1, r_bargAt c2 rfl (by omega) (some_ok (iBarR c2 (by omega)) ?_)⟩
  have hpl := (w.2.1 b hb).ePl
  have e0 : bg (aSail R b (nI t)) b 0 = nI (pl R b) := by rw [← hpl.1]; exact up_n (by omega)
  rw [y2, (r2'.2.2.2.1 b (by omega)).1, e0]
  refine c_tB w2 r2' rfl rfl (by omega) (by omega) ?_
  rw [show tB (aSail R b (nI t)) (pl R b) t = tB R (pl R b) t from tB_congr (by omega) (by omega) (fun j hj => up_n (by omega))]
  exact hK M2 (k1.op k2 k3 f2 r2' w2 nb2 (Nat.le_refl _) (fun i hi => by rw [ai i (by omega)]; exact gL i hi))
/-- buyFlour -/
theorem t_buyFlour (g : PV L T R h hr sb S M) (e1 : p = nI b) (hb : b < nb R) (q1 : 1 ≤ q) (q2 : q ≤ 99) (ok : okF R (nI b) q = true) (hK : ∀ M', PV L T (aFlour R b q) (min (h + 1) 8) (pushR h hr R) sb S M' → KI (bg R b 3 + q) M') : f_X12_buyFlour p q M KI := by
  subst e1
  unfold f_X12_buyFlour
  obtain ⟨⟨ci, di, nx, g1, g2, g3⟩, gL⟩ := g
  have w := g1.2.2.2.2.1
  have n5 := w.nb5
  obtain ⟨v1, v2, v3, v4⟩ := g1.in11
  refine r_barge g1 rfl hb (rng_in q1 q2 ⟨v1, ?_⟩)
  rw [v2]
  refine c_canLoadFlour w g1.2.2.2.1 (st_ok (by rw [ok]) ⟨v1, ?_⟩)
  rw [v2]
  refine r_mem g1 g2 g3 (fun M1 a0 ai k1 k2 k3 => ?_)
  obtain ⟨x1, x2, -⟩ := k1.in11
  refine ⟨x1, ?_⟩
  rw [x2]
  refine c_loadFlour w k1.2.2.2.1 ok (fun M2 f2 r2' => ?_)
  have w2 := wf_flour w ok
  have sm : Sm R (aFlour R b q) := sm_flour (by omega)
  rw [nI_clamp (by omega)] at r2' w2
  have e2 : nb (aFlour R b q) = nb R := by unfold nb; rw [sm 2 (Or.inl rfl)]
  have e5 : bg (aFlour R b q) b 3 = bg R b 3 + q := (up_n (by omega)).trans (up_s _ _ _)
  have nb2 := sm.nbN n5 g1.2.2.2.2.2
  have c2 := k1.op1 f2 r2' w2 nb2
  refine r_bargAt c2 rfl (by omega) (some_ok (iBarR c2 (by omega)) ?_)
  rw [(r2'.2.2.2.1 b (by omega)).2.2.2.2.1, e5]
  exact hK M2 (k1.op k2 k3 f2 r2' w2 nb2 (Nat.le_refl _) (fun i hi => by rw [ai i (by omega)]; exact gL i hi))
/-- collect -/
theorem t_collect (g : PV L T R h hr sb S M) (e1 : p = nI b) (hb : b < nb R) (ok : okG R (nI b) = true) (hK : ∀ M', PV L T (aGather R b) (min (h + 1) 8) (pushR h hr R) sb S M' → KI (R (40 + pl R b)) M') : f_X12_collect p M KI := by
  subst e1
  unfold f_X12_collect
  obtain ⟨⟨ci, di, nx, g1, g2, g3⟩, gL⟩ := g
  have w := g1.2.2.2.2.1
  have n5 := w.nb5
  have n16 := w.np16
  obtain ⟨v1, v2, v3, v4⟩ := g1.in11
  refine r_barge g1 rfl hb ⟨v1, ?_⟩
  rw [v2]
  refine c_canGather w g1.2.2.2.1 (st_ok (by rw [ok]) ⟨v1, ?_⟩)
  rw [v2]
  refine r_mem g1 g2 g3 (fun M1 a0 ai k1 k2 k3 => ?_)
  obtain ⟨x1, x2, -⟩ := k1.in11
  refine r_bargAt k1 rfl hb (some_ok (iBarR k1 (by omega)) ⟨x1, ?_⟩)
  rw [x2]
  have rl1 := k1.2.2.2.1
  refine c_gather w rl1 ok (fun M2 f2 r2' => ?_)
  have w2 := wf_gather w ok
  have hpl := (w.2.1 b hb).ePl
  have sm : Sm R (aGather R b) := sm_gather (by omega) (by omega)
  rw [nI_clamp (by omega)] at r2' w2
  have e2 : nb (aGather R b) = nb R := by unfold nb; rw [sm 2 (Or.inl rfl)]
  have e5 : bg (aGather R b) b 5 = bg R b 5 + R (40 + pl R b) := (up_n (by omega)).trans (up_s _ _ _)
  have nb2 := sm.nbN n5 g1.2.2.2.2.2
  have c2 := k1.op1 f2 r2' w2 nb2
  refine r_bargAt c2 rfl (by omega) (some_ok (iBarR c2 (by omega)) ?_)
  rw [(r2'.2.2.2.1 b (by omega)).2.2.2.2.2.2, (rl1.2.2.2.1 b hb).2.2.2.2.2.2, e5, show ∀ a x : Int32, a + x - a = x from fun a x => by rw [Int32.add_comm, Int32.add_sub_cancel]]
  exact hK M2 (k1.op k2 k3 f2 r2' w2 nb2 (Nat.le_refl _) (fun i hi => by rw [ai i (by omega)]; exact gL i hi))
/-- wash -/
theorem t_wash (g : PV L T R h hr sb S M) (e1 : p = nI b) (hb : b < nb R) (ok : okW R (nI b) = true) (hK : ∀ M', PV L T (aWash R b) (min (h + 1) 8) (pushR h hr R) sb S M' → KI (bg R b 4 + bg R b 5) M') : f_X12_wash p M KI := by
  subst e1
  unfold f_X12_wash
  obtain ⟨⟨ci, di, nx, g1, g2, g3⟩, gL⟩ := g
  have w := g1.2.2.2.2.1
  have n5 := w.nb5
  obtain ⟨v1, v2, v3, v4⟩ := g1.in11
  refine r_barge g1 rfl hb ⟨v1, ?_⟩
  rw [v2]
  refine c_isInHarbor w g1.2.2.2.1 (st_ok (by rw [ok]) ⟨v1, ?_⟩)
  rw [v2]
  refine r_mem g1 g2 g3 (fun M1 a0 ai k1 k2 k3 => ?_)
  obtain ⟨x1, x2, -⟩ := k1.in11
  refine ⟨x1, ?_⟩
  rw [x2]
  refine c_clean_op w k1.2.2.2.1 ok (fun M2 f2 r2' => ?_)
  have w2 := wf_wash w ok
  have sm : Sm R (aWash R b) := sm_wash (by omega)
  rw [nI_clamp (by omega)] at r2' w2
  have e2 : nb (aWash R b) = nb R := by unfold nb; rw [sm 2 (Or.inl rfl)]
  have e5 : bg (aWash R b) b 4 = bg R b 4 + bg R b 5 := (up_n (by omega)).trans (up_s _ _ _)
  have nb2 := sm.nbN n5 g1.2.2.2.2.2
  have c2 := k1.op1 f2 r2' w2 nb2
  refine r_bargAt c2 rfl (by omega) (some_ok (iBarR c2 (by omega)) ?_)
  rw [(r2'.2.2.2.1 b (by omega)).2.2.2.2.2.1, e5]
  exact hK M2 (k1.op k2 k3 f2 r2' w2 nb2 (Nat.le_refl _) (fun i hi => by rw [ai i (by omega)]; exact gL i hi))
/-- makeOrder -/
theorem t_makeOrder (g : PV L T R h hr sb S M) (e1 : p = nI t) (ht : t < np R) (b1 : 1 ≤ bo) (b2 : bo ≤ 4) (p1 : 1 ≤ pu) (p2 : pu ≤ 6) (m1 : 1 ≤ mi) (m2 : mi ≤ 500) (hn : no R < 30) (hK : ∀ M', PV L T (aOrder R p bo pu mi) (min (h + 1) 8) (pushR h hr R) sb S M' → KI (nI (no R)) M') : f_X12_makeOrder p bo pu mi M KI := by
  unfold f_X12_makeOrder
  obtain ⟨⟨ci, di, nx, g1, g2, g3⟩, gL⟩ := g
  have w := g1.2.2.2.2.1
  have n5 := w.nb5
  have n16 := w.np16
  obtain ⟨v1, v2, v3, v4⟩ := g1.in11
  have ok : okO R p = true := by unfold okO; rw [e1, inR_nI ht (by omega), decide_eq_true hn]; rfl
  refine r_place g1 e1 ht (rng_in b1 b2 (rng_in p1 p2 (rng_in m1 m2 ⟨v1, ?_⟩)))
  rw [v2]
  refine c_canAddOrder w g1.2.2.2.1 (st_ok (by rw [ok]) ⟨v1, ?_⟩)
  rw [v2]
  refine r_mem g1 g2 g3 (fun M1 a0 ai k1 k2 k3 => ?_)
  obtain ⟨x1, x2, -⟩ := k1.in11
  refine ⟨x1, ?_⟩
  rw [x2]
  refine c_addOrder w k1.2.2.2.1 ok (fun M2 f2 r2' => ?_)
  have w2 : WF T (aOrder R p bo pu mi) := wf_order w ok
  have sm : Sm R (aOrder R p bo pu mi) := sm_order
  have nb2 := sm.nbN n5 g1.2.2.2.2.2
  have c2 := k1.op1 f2 r2' w2 nb2
  obtain ⟨y1, y2, -⟩ := c2.in11
  refine ⟨y1, ?_⟩
  rw [y2, r2'.1.2.2.1, aO_3 w, nI_pred]
  exact hK M2 (k1.op k2 k3 f2 r2' w2 nb2 (Nat.le_refl _) (fun i hi => by rw [ai i (by omega)]; exact gL i hi))
/-- take -/
theorem t_take (g : PV L T R h hr sb S M) (hT : T + 1 < 2 ^ 31) (e1 : p = nI b) (e2 : q = nI o) (hb : b < nb R) (ho : o < no R) (h4 : og R o 4 = 0) (hh : held R b < 4) (hK : ∀ M', PV L (T + 1) (aTake R b o) (min (h + 1) 8) (pushR h hr R) sb S M' → KI (nI (cOf (aTake R b o) (nI b) 1)) M') : f_X12_take p q M KI := by
  subst e1 e2
  unfold f_X12_take
  obtain ⟨⟨ci, di, nx, g1, g2, g3⟩, gL⟩ := g
  have w := g1.2.2.2.2.1
  have n5 := w.nb5
  have n30 := w.no30
  obtain ⟨v1, v2, v3, v4⟩ := g1.in11
  have ok : okT R (nI b) (nI o) = true := by
    unfold okT
    rw [inR_nI hb (by omega), inR_nI ho (by omega), nI_clamp (by omega), nI_clamp (by omega), decide_eq_true h4, decide_eq_true hh]
    rfl
  refine r_barge g1 rfl hb (r_order g1 rfl ho ⟨v1, ?_⟩)
  rw [v2]
  refine c_canGive w g1.2.2.2.1 (st_ok (by rw [ok]) ⟨v1, ?_⟩)
  rw [v2]
  refine r_mem g1 g2 g3 (fun M1 a0 ai k1 k2 k3 => ?_)
  obtain ⟨x1, x2, -⟩ := k1.in11
  refine ⟨x1, ?_⟩
  rw [x2]
  refine c_give w (by omega) k1.2.2.2.1 hb ho h4 hh (fun M2 f2 r2' => ?_)
  have w2 := wf_take w hT hb ho h4 hh
  have sm : Sm R (aTake R b o) := sm_take
  have nb2 := sm.nbN n5 g1.2.2.2.2.2
  have c2 := k1.op1 f2 r2' w2 nb2
  refine r_bargAt c2 rfl (by rw [aT_nb]; exact hb) (some_ok (iBarR c2 (by omega)) ?_)
  obtain ⟨l, y1, y2, y3⟩ := r2'.2.2.2.2.1 b (by rw [aT_nb]; exact hb)
  rw [y2, y1.len]
  exact hK M2 (k1.op k2 k3 f2 r2' w2 nb2 (Nat.le_succ T) (fun i hi => by rw [ai i (by omega)]; exact gL i hi))
/-- drop -/
theorem t_drop (g : PV L T R h hr sb S M) (e1 : p = nI o) (ho : o < no R) (hh : isHeld R o = true) (hK : ∀ M', PV L T (aDrop R o) (min (h + 1) 8) (pushR h hr R) sb S M' → KI (og R o 5) M') : f_X12_drop p M KI := by
  subst e1
  unfold f_X12_drop
  obtain ⟨⟨ci, di, nx, g1, g2, g3⟩, gL⟩ := g
  have w := g1.2.2.2.2.1
  have n5 := w.nb5
  have n30 := w.no30
  obtain ⟨v1, v2, v3, v4⟩ := g1.in11
  have ok : okD R (nI o) = true := by
    unfold okD
    rw [inR_nI ho (by omega), nI_clamp (by omega), hh]
    rfl
  refine r_order g1 rfl ho ⟨v1, ?_⟩
  rw [v2]
  refine c_canReopen w g1.2.2.2.1 (st_ok (by rw [ok]) ⟨v1, ?_⟩)
  rw [v2]
  refine r_mem g1 g2 g3 (fun M1 a0 ai k1 k2 k3 => ?_)
  obtain ⟨x1, x2, -⟩ := k1.in11
  have rl1 := k1.2.2.2.1
  refine r_ordAt k1 rfl ho (some_ok (iOrdR k1 (by omega)) ⟨x1, ?_⟩)
  rw [x2, (rl1.2.2.2.2.2 o ho).2.2.2.2.2.2.2]
  refine c_reopen w rl1 ho hh (fun M2 f2 r2' => ?_)
  have w2 := wf_drop w ho hh
  have sm : Sm R (aDrop R o) := sm_drop
  have nb2 := sm.nbN n5 g1.2.2.2.2.2
  exact hK M2 (k1.op k2 k3 f2 r2' w2 nb2 (Nat.le_refl _) (fun i hi => by rw [ai i (by omega)]; exact gL i hi))
/-- passMinutes -/
theorem t_passMinutes (g : PV L T R h hr sb S M) (e1 : p = nI m) (h1 : 1 ≤ m) (h60 : m ≤ 60) (ok : (R 0).toNatClampNeg + m ≤ 10000) (hK : ∀ M', PV L T (pmN m R) (min (h + 1) 8) (pushR h hr R) sb S M' → KI (nI (cIn (pmN m R) 3) - nI (cIn R 3)) M') : f_X12_passMinutes p M KI := by
  subst e1
  unfold f_X12_passMinutes
  obtain ⟨⟨ci, di, nx, g1, g2, g3⟩, gL⟩ := g
  have w := g1.2.2.2.2.1
  obtain ⟨v1, v2, v3, v4⟩ := g1.in11
  have rl := g1.2.2.2.1
  refine rng_in (nI_le (a := 1) h1 (by omega)) (nI_le (b := 60) h60 (by decide)) ⟨v1, ?_⟩
  rw [v2]
  unfold f_X2_canPass
  rw [rl.1.2.2.2.1]
  obtain ⟨mn, hmn, e0⟩ := w.1.2.2.2.1
  rw [e0, nI_clamp (by omega)] at ok
  have okk : ¬ (10000 : Int32) < R 0 + nI m := by
    rw [e0, nI_add]
    exact nI_nlt (a := 10000) ok (by omega)
  refine ⟨fun c1 => absurd c1 okk, fun _ => st_ok rfl ⟨v1, ?_⟩⟩
  rw [v2]
  refine r_mem g1 g2 g3 (fun M1 a0 ai k1 k2 k3 => ?_)
  obtain ⟨x1, x2, -⟩ := k1.in11
  have rl1 := k1.2.2.2.1
  refine ⟨x1, x1, ?_⟩
  rw [x2]
  refine c_pass w rl1 rfl (by omega) (fun M2 f2 r2' => ?_)
  have w2 := (pmN_w w m).1
  have nb2 := nb_pmN w g1.2.2.2.2.2 m
  have c2 := k1.op1 f2 r2' w2 nb2
  obtain ⟨y1, y2, -⟩ := c2.in11
  refine ⟨y1, ?_⟩
  rw [y2, r2'.1.2.2.2.2.2.2.2.1, rl1.1.2.2.2.2.2.2.2.1]
  exact hK M2 (k1.op k2 k3 f2 r2' w2 nb2 (Nat.le_refl _) (fun i hi => by rw [ai i (by omega)]; exact gL i hi))
/-- the forecasts -/
def mtt (R : Nat → Int32) (b : Nat) : Int32 := ff (fun k => !sails (pmN k R) b) 201
theorem PV.draft (g1 : CurR T M ci di R) (g2 : HisR T M nx h hr) (g3 : SnR T M sb S) (f : FrC (27 + 61 * di) M M') (hL : ∀ i, 699 ≤ i → M i = L i) : PV L T R h hr sb S M' := by
  have := g1.1
  exact ⟨⟨ci, di, nx, g1.fr ⟨by rw [f 0 (by omega)], by rw [f 0 (by omega)]⟩ (fun i h1 h2 => f i (by omega)), g2.fr (f 25 (by omega)) (fun i h1 h2 => f i (by omega)), g3.fr (by rw [f 0 (by omega)]) (fun i h1 h2 => f i (by omega))⟩, fun i hi => by rw [f i (by omega)]; exact hL i hi⟩
theorem r_draft (g1 : CurR T M ci di R) (hK : ∀ M', FrC (27 + 61 * di) M M' → RelC (27 + 61 * di) M' R → KV M') : f_X2_copyFrom (27 + 61 * (M 0 6).toNatClampNeg) (27 + 61 * (M 0 5).toNatClampNeg) M KV := by
  obtain ⟨q1, q2, q3, q5, q6, q7⟩ := id g1
  rw [g1.di11.2, g1.in11.2.1]
  exact c_copy q6 q5 (by omega) hK
theorem di_atR (g1 : CurR T M ci di R) (f : FrC (27 + 61 * di) M M') : vp_in (M' 0 6) 11 ∧ 27 + 61 * (M' 0 6).toNatClampNeg = 27 + 61 * di := by
  have := g1.1
  rw [f 0 (by omega)]
  exact g1.di11
theorem t_coinsAfter (g : PV L T R h hr sb S M) (e1 : p = nI m) (hm : m ≤ 200) (hK : ∀ M', PV L T R h hr sb S M' → KI (pmN m R 4) M') : f_X12_coinsAfter p M KI := by
  subst e1
  unfold f_X12_coinsAfter
  obtain ⟨⟨ci, di, nx, g1, g2, g3⟩, gL⟩ := g
  have w := g1.2.2.2.2.1
  refine rng_in (nI_pos' (by omega)) (nI_le (b := 200) hm (by decide)) ⟨g1.di11.1, g1.in11.1, ?_⟩
  refine r_draft g1 (fun M1 f1 r1 => ?_)
  obtain ⟨d1, d2⟩ := di_atR g1 f1
  refine ⟨d1, ?_⟩
  rw [d2]
  refine c_pass w r1 rfl (by omega) (fun M2 f2 r2' => ?_)
  obtain ⟨d3, d4⟩ := di_atR g1 (f1.trans f2)
  refine ⟨d3, ?_⟩
  rw [d4, r2'.1.2.2.2.2.1]
  exact hK M2 (PV.draft g1 g2 g3 (f1.trans f2) gL)
theorem t_willBeEaten (g : PV L T R h hr sb S M) (e1 : p = nI o) (ho : o < no R) (hK : ∀ M', PV L T R h hr sb S M' → KI (bi (decide (og (pmN 200 R) o 4 = 3))) M') : f_X12_willBeEaten p M KI := by
  subst e1
  unfold f_X12_willBeEaten
  obtain ⟨⟨ci, di, nx, g1, g2, g3⟩, gL⟩ := g
  have w := g1.2.2.2.2.1
  have n30 := w.no30
  refine r_order g1 rfl ho ⟨g1.di11.1, g1.in11.1, ?_⟩
  refine r_draft g1 (fun M1 f1 r1 => ?_)
  obtain ⟨d1, d2⟩ := di_atR g1 f1
  refine ⟨d1, ?_⟩
  rw [d2]
  refine c_pass w r1 (m := 200) rfl (by omega) (fun M2 f2 r2' => ?_)
  obtain ⟨d3, d4⟩ := di_atR g1 (f1.trans f2)
  refine ⟨d3, ?_⟩
  rw [d4]
  obtain ⟨w2, -, -, n3⟩ := pmN_w w 200
  have en : no (pmN 200 R) = no R := by unfold no; rw [n3]
  unfold f_X2_wasEaten
  refine c_hasOrder w2 r2' ?_
  rw [en, inR_nI ho (by omega)]
  refine bF (fun _ => ?_) (fun c => by cases c)
  have hO := r2'.2.2.2.2.2 o (by rw [en]; exact ho)
  refine ⟨vp_in_nI (by omega) (by decide), ?_⟩
  rw [nI_clamp (by omega), hO.2.2.2.2.2.2.1]
  refine ⟨WO.st w2 (by rw [en]; exact ho), ?_⟩
  exact rt1 (hK M2 (PV.draft g1 g2 g3 (f1.trans f2) gL))
theorem c_sailing (w : WF T R) (rl : RelC c M R) (hb : b < nb R) (hK : KI (bi (sails R b)) M) : f_X2_isSailing c (nI b) M KI := by
  have n5 := w.nb5
  unfold f_X2_isSailing
  refine c_hasBarge w rl ?_
  rw [inR_nI hb (by omega)]
  refine bF (fun _ => ⟨vp_in_nI (by omega) (by decide), ?_⟩) (fun c => by cases c)
  rw [nI_clamp (by omega)]
  refine c_underWay rl hb ?_
  cases hs : sails R b with
  | true => rw [hs] at hK; exact cN' (by decide) hK
  | false => rw [hs] at hK; exact cT' (by decide) hK
theorem pmN_succ (R : Nat → Int32) (k : Nat) : pm (pmN k R) = pmN (k + 1) R := rfl
theorem pmN_1 (R : Nat → Int32) (k : Nat) : pmN 1 (pmN k R) = pmN (k + 1) R := rfl
theorem mtt_at (hk : k < 201) (h1 : ∀ j, j < k → sails (pmN j R) b = true) (h0 : sails (pmN k R) b = false) : mtt R b = nI k := ff_some hk (by rw [h0]; rfl) (fun j hj => by rw [h1 j hj]; rfl)
theorem mtt_no (h1 : ∀ j, j < 201 → sails (pmN j R) b = true) : mtt R b = -1 := ff_none (fun j hj => by rw [h1 j hj]; rfl)
theorem t_minutesToTarget (g : PV L T R h hr sb S M) (e1 : p = nI b) (hb : b < nb R) (hK : ∀ M', PV L T R h hr sb S M' → KI (mtt R b) M') : f_X12_minutesToTarget p M KI := by
  subst e1
  unfold f_X12_minutesToTarget
  obtain ⟨⟨ci, di, nx, g1, g2, g3⟩, gL⟩ := g
  have w := g1.2.2.2.2.1
  have n5 := w.nb5
  refine r_barge g1 rfl hb ⟨g1.di11.1, g1.in11.1, ?_⟩
  refine r_draft g1 (fun M1 f1 r1 => ?_)
  refine ⟨_, inv_loop (fun m (s : TM) k => f_X12_minutesToTarget_L18 (nI b) KI m (nI b) (nI k) s) (fun k s => FrC (27 + 61 * di) M s ∧ RelC (27 + 61 * di) s (pmN k R) ∧ ∀ j, j < k → sails (pmN j R) b = true) 201 (fun m s hs => ?_) (fun m s k hk hs hL => ?_) 201 0 M1 (Nat.zero_add _) ⟨f1, r1, fun j hj => absurd hj (Nat.not_lt_zero _)⟩⟩
  · obtain ⟨s1, s2, s3⟩ := hs
    rw [f_X12_minutesToTarget_L18]
    refine cT' (by decide) ?_
    have := hK s (PV.draft g1 g2 g3 s1 gL)
    rw [mtt_no s3] at this
    exact this
  · obtain ⟨s1, s2, s3⟩ := hs
    rw [f_X12_minutesToTarget_L18]
    obtain ⟨d1, d2⟩ := di_atR g1 s1
    refine cN' (nI_nlt (a := 200) (b := k) (by omega) (by decide)) ⟨d1, ?_⟩
    rw [d2]
    obtain ⟨w2, -, n2, -⟩ := pmN_w w k
    have en : nb (pmN k R) = nb R := by unfold nb; rw [n2]
    refine c_sailing w2 s2 (by rw [en]; exact hb) ?_
    refine bT (fun hs => ⟨d1, ?_⟩) (fun hs => ?_)
    · rw [d2]
      refine c_pass w2 s2 (m := 1) rfl (by decide) (fun S2 f2 r2' => ?_)
      rw [nI_1]
      rw [pmN_1] at r2'
      refine hL S2 ⟨s1.trans f2, r2', fun j hj => ?_⟩
      by_cases ej : j = k
      · rw [ej]; exact hs
      · exact s3 j (by omega)
    · have := hK s (PV.draft g1 g2 g3 s1 gL)
      rw [mtt_at hk s3 hs] at this
      exact this
/-- undo: the latest row comes back -/
theorem t_undo (g : PV L T R (h + 1) hr sb S M) (hK : ∀ M', PV L T (hr h) h hr sb S M' → KI (nI h) M') : f_X12_undo M KI := by
  unfold f_X12_undo f_X12_undo_L15
  obtain ⟨⟨ci, di, nx, g1, g2, g3⟩, gL⟩ := g
  obtain ⟨v1, v2, v3, v4⟩ := g1.in11
  obtain ⟨a1, a2, a3, a4, a6⟩ := id g2
  obtain ⟨q1, q2, q3, q5, q6, q7⟩ := id g1
  have w := q6
  rw [a2]
  refine cN' (fun c => absurd (show (0 : Int32) < nI (h + 1) from nI_lt (a := 0) (by omega) (by omega)) (Int32.not_lt.2 c)) (st_ok rfl ⟨v1, ?_⟩)
  rw [v2]
  obtain ⟨b1, b2, b3⟩ := a6 h (by omega)
  have sl : slot nx (h + 1) h = 27 + 61 * ((nx + 7) % 8) := by unfold slot; omega
  rw [sl] at b1
  have hm : (nx + 7) % 8 < 8 := Nat.mod_lt _ (by decide)
  refine c_back v4 a1 a2 a3 a4 b2 b1 (fun M1 m1 m2 m3 m4 => ?_)
  rw [m3]
  refine hK M1 ⟨⟨ci, di, (nx + 7) % 8, ?_, ?_, ?_⟩, fun i hi => by rw [m1 i (by omega) (by omega)]; exact gL i hi⟩
  · exact ⟨q1, by rw [m1 0 (by decide) (by omega)]; exact q2, by rw [m1 0 (by decide) (by omega)]; exact q3, m4, b2, b3⟩
  · refine ⟨m2, m3, by omega, by omega, fun k hk => ?_⟩
    obtain ⟨d1, d2, d3⟩ := a6 k (by omega)
    have es : slot ((nx + 7) % 8) h k = slot nx (h + 1) k := by unfold slot; omega
    have sl2 := slot_ltR nx (h + 1) k
    rw [es]
    exact ⟨d1.frame (fun i i1 i2 => m1 i (by omega) (by omega)) d2.nb5 d2.no30, d2, d3⟩
  · exact g3.fr (by rw [m1 0 (by decide) (by omega)]) (fun i i1 i2 => m1 i (by omega) (by omega))
theorem t_saveSnapshot (g : PV L T R h hr sb S M) (hK : ∀ M', PV L T R h hr true R M' → KV M') : f_X12_saveSnapshot M KV := by
  unfold f_X12_saveSnapshot
  obtain ⟨⟨ci, di, nx, g1, g2, g3⟩, gL⟩ := g
  obtain ⟨v1, v2, v3, v4⟩ := g1.in11
  obtain ⟨q1, q2, q3, q5, q6, q7⟩ := id g1
  refine ⟨v1, ?_⟩
  rw [v2]
  refine c_copy q6 q5 (by omega) (fun M1 f1 r1 => ?_)
  intro M2 e2
  have k2 : ∀ i, i ≠ 0 → (i < 515 ∨ 576 ≤ i) → M2 i = M i := fun i i1 i2 => by rw [e2, u2_n i1, f1 i i2]
  have k0 : ∀ x, x ≠ 4 → M2 0 x = M 0 x := fun x hx => by rw [e2, u2_f hx, f1 0 (by omega)]
  have k04 : M2 0 4 = 1 := by rw [e2, u2_s]
  refine hK M2 ⟨⟨ci, di, nx, g1.fr ⟨k0 5 (by decide), k0 6 (by decide)⟩ (fun i i1 i2 => k2 i (by omega) (by omega)), g2.fr (k2 25 (by decide) (by omega)) (fun i i1 i2 => k2 i (by omega) (by omega)), ?_⟩, fun i hi => by rw [k2 i (by omega) (by omega)]; exact gL i hi⟩
  exact ⟨by rw [k04]; exact bz_1, fun _ => ⟨r1.frame (fun i i1 i2 => by rw [e2, u2_n (by omega)]) q6.nb5 q6.no30, q6, q7⟩⟩
theorem t_restoreSnapshot (g : PV L T R h hr true S M) (hK : ∀ M', PV L T S 0 hr true S M' → KI (S 0) M') : f_X12_restoreSnapshot M KI := by
  unfold f_X12_restoreSnapshot
  obtain ⟨⟨ci, di, nx, g1, g2, g3⟩, gL⟩ := g
  obtain ⟨v1, v2, v3, v4⟩ := g1.in11
  obtain ⟨q1, q2, q3, q5, q6, q7⟩ := id g1
  obtain ⟨a1, a2, a3, a4, a6⟩ := id g2
  obtain ⟨r0, w, nb'⟩ := g3.2 rfl
  refine st_ok (by rw [g3.1]) ⟨v1, ?_⟩
  rw [v2]
  have n5 := w.nb5
  have n30 := w.no30
  refine c_copy w r0 (by omega) (fun M1 f1 r1 => ?_)
  unfold f_X5_clear
  intro M2 e2
  have k2 : ∀ i, i ≠ 25 → (i < 27 + 61 * ci ∨ 27 + 61 * ci + 61 ≤ i) → M2 i = M i := fun i i1 i2 => by rw [e2, u2_n i1, f1 i i2]
  have k20 : M2 0 = M 0 := k2 0 (by decide) (by omega)
  have r2' : RelC (27 + 61 * ci) M2 S := r1.frame (fun i i1 i2 => by rw [e2, u2_n (by omega)]) n5 n30
  rw [k20]
  refine ⟨v1, ?_⟩
  rw [v2, r2'.1.2.2.2.1]
  refine hK M2 ⟨⟨ci, di, nx, ⟨q1, by rw [k20]; exact q2, by rw [k20]; exact q3, r2', w, nb'⟩, ⟨by rw [e2, u2_f (by decide), f1 25 (by omega)]; exact a1, by rw [e2, u2_s]; rfl, a3, by omega, fun k hk => absurd hk (Nat.not_lt_zero _)⟩, g3.fr (by rw [k20]) (fun i i1 i2 => k2 i (by omega) (by omega))⟩, fun i hi => by rw [k2 i (by omega) (by omega)]; exact gL i hi⟩
end CHANGER
