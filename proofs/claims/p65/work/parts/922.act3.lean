/-! p65: passing minutes comes out as it was told ahead -/
section ACT3
variable {M M1 M' L L' : TM} {T U P m0 n : Nat} {K KI : Int32 → TM → Prop} {p q u v : Int32} {R R' S : Nat → Int32} {a b c d e f j k h ci di t o m : Nat} {hr : Nat → Nat → Int32} {sb : Bool} {x2 x3 x4 x5 x6 x7 x8 x10 x11 x12 x13 x14 x15 x16 x17 x18 x19 : Int32}
theorem b_1121 (g : PV L T R h hr sb S M) (gd : Gd P m0 R) (hK : K 1 M) : f_L_act_L1121 v K (nI P) M := by
  unfold f_L_act_L1121
  refine r_pairs g gd ?_
  exact cT rfl hK
theorem b_1104 {z0 z1 : Int32} {wl : Bool} (g : PV L T R h hr sb S M) (gd : Gd P m0 R) (ho : o < no R) (hz : z1 = z0) (hw : wl = true → og (pmN 200 R) o 4 = 3) (hK : ∀ M', PV L T R h hr sb S M' → K 1 M') : f_L_act_L1104 v K (nI o) (nI P) (bi wl) z0 z1 M := by
  unfold f_L_act_L1104
  refine cT hz ?_
  refine bF (fun c => ?_) (fun _ => b_1121 g gd (hK M g))
  refine t_willBeEaten g rfl ho (fun M1 g1 => ?_)
  exact cN' (by rw [decide_eq_true (hw c)]; decide) (b_1121 g1 gd (hK M1 g1))
theorem b_1087 {wl : Bool} {z0 : Int32} (g : PV L T R h hr sb S M) (gd : Gd P m0 R) (ho : o < no R) (hz : z0 = bi (decide (0 ≤ x13 ∧ x13 ≤ x11))) (hw : wl = true → og (pmN 200 R) o 4 = 3) (hK : ∀ M', PV L T R h hr sb S M' → K 1 M') : f_L_act_L1087 v K (nI o) (nI P) x11 x13 (bi wl) z0 M := by
  unfold f_L_act_L1087 f_L_act_L1103
  refine ⟨fun c => b_1104 g gd ho ?_ hw hK, fun c => ⟨fun c2 => b_1104 g gd ho ?_ hw hK, fun c2 => b_1104 g gd ho ?_ hw hK⟩⟩
  · rw [hz, decide_eq_false (fun e => absurd c (Int32.not_lt.2 e.1))]; rfl
  · rw [hz, decide_eq_false (fun e => absurd c2 (Int32.not_lt.2 e.2))]; rfl
  · rw [hz, decide_eq_true ⟨Int32.not_lt.1 c, Int32.not_lt.1 c2⟩]; rfl
theorem b_1000 {wl : Bool} (w0 : WF T R) (gd : Gd P m0 R) (ho : o < no R) (hb : b < nb R) (hw : wl = true → og (pmN 200 R) o 4 = 3) (e12 : R 4 = x12) (e16 : R 0 = x16 + x11) (e17 : bg R b 1 = x17) (e13 : (sails R b = false) ↔ (0 ≤ x13 ∧ x13 ≤ x11)) (e18 : x18 = nI (cIn R 3) - nI c) (e6 : x6 = nI (no R)) (hK : ∀ M', PV L T R h hr sb S M' → K 1 M') : ∀ n k x15 M, k + n = no R → x15 + nI c = nI (cn (fun o => decide (og R o 4 = 3)) k) → PV L T R h hr sb S M → f_L_act_L1000 v K (n + 1) (nI b) x6 (nI o) (nI P) x11 x12 x13 (bi wl) x15 x16 x17 x18 (nI k) M := by
  have n30 := w0.no30
  intro n
  induction n with
  | zero =>
    intro k x15 M hn hx g
    have : k = no R := by omega
    subst this
    unfold f_L_act_L1000
    refine cT' (by rw [e6]; exact nI_le (Nat.le_refl _) (by omega)) ?_
    refine cT (by rw [e18, show nI (cIn R 3) = x15 + nI c from hx.symm, Int32.add_sub_cancel]) ?_
    refine t_coins g ?_
    refine cT e12 ?_
    refine t_minute g ?_
    refine cT e16 ?_
    refine t_targetOf g rfl hb ?_
    refine cT e17 ?_
    refine t_placeOf g rfl hb ?_
    refine ⟨fun c => b_1087 g gd ho ?_ hw hK, fun c => b_1087 g gd ho ?_ hw hK⟩
    · rw [decide_eq_false (fun e => c ?_)]
      · rfl
      · have := e13.2 e
        unfold sails at this
        have := of_decide_eq_false this
        rw [e17] at this
        exact (Decidable.not_not.1 this).symm
    · rw [decide_eq_true (e13.1 ?_)]
      · rfl
      · unfold sails
        rw [e17, c]
        exact decide_eq_false (fun n => n rfl)
  | succ n ih =>
    intro k x15 M hn hx g
    have hk : k < no R := by omega
    unfold f_L_act_L1000
    refine cN' (by rw [e6]; exact nI_ge hk (by omega)) ?_
    refine t_isEaten g rfl hk ?_
    refine pF (fun e => ?_) (fun e => ?_)
    · unfold f_L_act_L1023
      rw [nI_1]
      refine ih (k + 1) _ M (by omega) ?_ g
      rw [← cn_s, ← hx, decide_eq_true e]
      show x15 + 1 + nI c = x15 + nI c + 1
      rw [Int32.add_assoc, Int32.add_comm 1, ← Int32.add_assoc]
    · unfold f_L_act_L1023
      rw [nI_1]
      refine ih (k + 1) _ M (by omega) ?_ g
      rw [← cn_s, ← hx, decide_eq_false e]
      show x15 + 0 + nI c = x15 + nI c + 0
      rw [Int32.add_zero, Int32.add_zero]
theorem b_943 {wl : Bool} (w : WF T R) (gd : Gd P m0 R) (hm0 : m0 + 60 ≤ 10000) (h1 : 1 ≤ m) (h60 : m ≤ 60) (ho : o < no R) (hb : b < nb R) (hw : wl = true → og (pmN 200 R) o 4 = 3) (e11 : x11 = nI m) (e13 : x13 = mtt R b) (hs : ∀ M', PV L T (pmN m R) (min (h + 1) 8) (pushR h hr R) sb S M' → K 1 M') : ∀ n k x15 M, k + n = no R → x15 + nI (cn (fun o => decide (og R o 4 = 3)) k) = 0 → PV L T R h hr sb S M → f_L_act_L943 v K (n + 1) (nI b) (R 3) (nI o) (nI P) x11 (pmN m R 4) x13 (bi wl) x15 (nI k) M := by
  have n30 := w.no30
  have er3 : R 3 = nI (no R) := w.1.1.2.2.1
  obtain ⟨w1, q1, q2, q3⟩ := pmN_w w m
  have en : no (pmN m R) = no R := by unfold no; rw [q3]
  have enb : nb (pmN m R) = nb R := by unfold nb; rw [q2]
  have gd1 := gd_pmN gd w m (by omega)
  intro n
  induction n with
  | zero =>
    intro k x15 M hn hx g
    have : k = no R := by omega
    subst this
    unfold f_L_act_L943
    refine cT' (by rw [er3]; exact nI_le (Nat.le_refl _) (by omega)) ?_
    refine t_minute g ?_
    refine t_targetOf g rfl hb ?_
    have e0 : R 0 = nI m0 := gd.2.1.2
    refine t_passMinutes g e11 h1 h60 (by rw [e0, nI_clamp (by omega)]; omega) (fun M1 g1 => ?_)
    refine ⟨_, b_1000 (b := b) (c := cIn R 3) w1 gd1 (by rw [en]; exact ho) (by rw [enb]; exact hb) (fun c => ?_) rfl ?_ (pmN_tg w hb m) ?_ rfl (by rw [en]; exact er3) hs (no R) 0 x15 M1 (by rw [en]; omega) ?_ g1⟩
    · have := eaten_stays (pmN_w w 200).1 (o := o) (by unfold no; rw [(pmN_w w 200).2.2.2]; exact ho) (hw c) m
      rw [pmN_add] at this ⊢
      rw [show m + 200 = 200 + m by omega]
      exact this
    · rw [gd1.2.1.2, e0, e11, nI_add]
    · rw [e13, e11]
      exact mtt_then w hb (by omega)
    · show x15 + nI (cIn R 3) = nI 0
      exact hx
  | succ n ih =>
    intro k x15 M hn hx g
    have hk : k < no R := by omega
    unfold f_L_act_L943
    refine cN' (by rw [er3]; exact nI_ge hk (by omega)) ?_
    refine t_isEaten g rfl hk ?_
    refine pF (fun e => ?_) (fun e => ?_)
    · unfold f_L_act_L966
      rw [nI_1]
      refine ih (k + 1) _ M (by omega) ?_ g
      rw [← cn_s, decide_eq_true e, Int32.add_comm (nI _), ← Int32.add_assoc]
      show x15 - 1 + 1 + nI _ = 0
      rw [Int32.sub_add_cancel]
      exact hx
    · unfold f_L_act_L966
      rw [nI_1]
      refine ih (k + 1) _ M (by omega) ?_ g
      rw [← cn_s, decide_eq_false e, Int32.add_comm (nI _), ← Int32.add_assoc]
      show x15 - 0 + 0 + nI _ = 0
      rw [Int32.sub_add_cancel]
      exact hx
theorem b_907 {z0 : Int32} {q : Nat} (g : PV L T R h hr sb S M) (gd : Gd P m0 R) (hm0 : m0 + 60 ≤ 10000) (ho : o < no R) (hb : b < nb R) (hz : z0 = nI q) (q1 : 0 < q) (q2 : q ≤ 60) (hs : ∀ M', PV L T (pmN (1 + mo u q) R) (min (h + 1) 8) (pushR h hr R) sb S M' → K 1 M') : f_L_act_L907 v K (nI b) (R 3) (nI o) (nI P) z0 u 1 M := by
  have w := g.w
  have l1 := mo_lt (v := u) q1
  unfold f_L_act_L907
  refine r_most hz q1 (by omega) ?_
  refine t_coinsAfter g (n1 _) (by omega) (fun M1 g1 => ?_)
  refine t_minutesToTarget g1 rfl hb (fun M2 g2 => ?_)
  refine t_willBeEaten g2 rfl ho (fun M3 g3 => ?_)
  exact ⟨_, b_943 w gd hm0 (by omega) (by omega) ho hb (fun c => of_decide_eq_true c) (n1 _) rfl hs (no R) 0 0 M3 (by omega) rfl g3⟩
theorem b_pass (g : PV L T R h hr sb S M) (gd : Gd P m0 R) (hm0 : m0 + 60 ≤ 10000) (ho : o < no R) (hb : b < nb R) (hx : (15 : Int32) ≤ x2) (hx2 : (17 : Int32) ≤ x2) (hx3 : ¬ x2 = 17) (hs : ∀ M', PV L T (pmN (1 + mo u (if mo (u >>> ((3 : Int32) &&& 31)) 4 = 0 then 60 else 7)) R) (min (h + 1) 8) (pushR h hr R) sb S M' → K 1 M') : f_L_act_L638 v K x2 u (nI b) x4 (R 3) (nI o) x8 x6 M := by
  unfold f_L_act_L638
  refine cT' hx ?_
  refine r_pairs g gd ?_
  refine cT' hx2 ?_
  refine cN hx3 ?_
  refine r_most (n := 4) rfl (by decide) (by decide) ?_
  have l1 := mo_lt (v := u >>> ((3 : Int32) &&& 31)) (n := 4) (by decide)
  refine ⟨fun c => ?_, fun c => ?_⟩
  · rw [if_neg (fun e => c (by rw [e]; rfl))] at hs
    exact b_907 g gd hm0 ho hb rfl (by decide) (by decide) hs
  · rw [if_pos (nI_inj (b := 0) (by omega) (by decide) c)] at hs
    exact b_907 g gd hm0 ho hb rfl (by decide) (by decide) hs
end ACT3
