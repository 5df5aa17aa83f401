/-! p65: each act answers true and leaves the row that it should -/
section ACT2
variable {M M1 M' L L' : TM} {T U P m0 n : Nat} {K KI : Int32 → TM → Prop} {p q u v : Int32} {R R' S : Nat → Int32} {a b c d e f j k h ci di t o m : Nat} {hr : Nat → Nat → Int32} {sb : Bool} {x2 x3 x4 x5 x6 x7 x8 x10 x11 x12 x13 x14 x15 x16 x17 x18 x19 : Int32}
theorem n1 (k : Nat) : (1 : Int32) + nI k = nI (1 + k) := nI_add 1 k
theorem b_223 (g : PV L T R h hr sb S M) (ht : t < np R) (hn : no R = 30 → K 1 M) (hs : no R ≠ 30 → ∀ M', PV L T (aOrder R (nI t) (1 + nI (mo u 4)) (1 + nI (mo (u >>> ((3 : Int32) &&& 31)) 6)) (1 + nI (mo (u >>> ((4 : Int32) &&& 31)) 60))) (min (h + 1) 8) (pushR h hr R) sb S M' → K 1 M') : f_L_act_L223 v K u (nI t) (R 3) M := by
  have w := g.w
  have n30 := w.no30
  have er3 : R 3 = nI (no R) := w.1.1.2.2.1
  unfold f_L_act_L223
  by_cases hc : no R = 30
  · refine cT (by rw [er3, hc]; rfl) ?_
    refine t_orderCount g ?_
    exact cT (by rw [er3, hc]; rfl) (hn hc)
  · refine cN (c := R 3 = 30) (fun c => hc (by rw [er3] at c; exact nI_inj (b := 30) (by omega) (by decide) c)) ?_
    have l1 := mo_lt (v := u) (n := 4) (by decide)
    have l2 := mo_lt (v := u >>> ((3 : Int32) &&& 31)) (n := 6) (by decide)
    have l3 := mo_lt (v := u >>> ((4 : Int32) &&& 31)) (n := 60) (by decide)
    refine r_most (n := 4) rfl (by decide) (by decide) ?_
    refine r_most (n := 6) rfl (by decide) (by decide) ?_
    refine r_most (n := 60) rfl (by decide) (by decide) ?_
    refine t_makeOrder g rfl ht (by rw [n1]; exact nI_le (a := 1) (by omega) (by omega)) (by rw [n1]; exact nI_le (b := 4) (by omega) (by omega)) (by rw [n1]; exact nI_le (a := 1) (by omega) (by omega)) (by rw [n1]; exact nI_le (b := 6) (by omega) (by omega)) (by rw [n1]; exact nI_le (a := 1) (by omega) (by omega)) (by rw [n1]; exact nI_le (b := 500) (by omega) (by omega)) (by omega) (fun M1 g1 => ?_)
    have en := aO_no (p := nI t) (bo := 1 + nI (mo u 4)) (pu := 1 + nI (mo (u >>> ((3 : Int32) &&& 31)) 6)) (mi := 1 + nI (mo (u >>> ((4 : Int32) &&& 31)) 60)) w
    have ef := aO_f R (nI t) (1 + nI (mo u 4)) (1 + nI (mo (u >>> ((3 : Int32) &&& 31)) 6)) (1 + nI (mo (u >>> ((4 : Int32) &&& 31)) 60))
    refine cT er3.symm ?_
    refine t_isOpen g1 er3 (by omega) ?_
    refine cN' (by rw [ef.2.2.2.2.1]; decide) ?_
    refine t_deadline g1 er3 (by omega) ?_
    refine t_minute g1 ?_
    refine cT (by rw [ef.2.2.2.1, aO_s (by decide) (by decide)]) ?_
    refine t_price g1 er3 (by omega) ?_
    refine cT (by unfold prc; rw [ef.2.1, ef.2.2.1]) ?_
    refine t_pullsLeft g1 er3 (by omega) ?_
    exact cT ef.2.2.2.2.2.2.2 (hs hc M1 g1)
theorem b_401 (g : PV L T R h hr sb S M) (ho : o < no R) (hx : ¬ (4 : Int32) < x8) (hn : K 1 M) : f_L_act_L401 v K (nI o) x8 M := by
  unfold f_L_act_L401
  refine t_isOpen g rfl ho ?_
  exact ⟨fun _ => hn, fun _ => cN' hx hn⟩
theorem free_iff (w : WF T R) (hb : b < nb R) : free R b 0 = true ↔ (inL R b = false ∧ bg R b 0 = 0) := by
  unfold free
  rw [Bool.and_eq_true, decide_eq_true_eq, Bool.not_eq_true']
/-- flour, chopsticks -/
theorem b_flour (g : PV L T R h hr sb S M) (gd : Gd P m0 R) (hb : b < nb R) (hz : x6 = bi (free R b 0)) (hn : (free R b 0 = true → (99 : Int32) < bg R b 3 + (1 + nI (mo u 20))) → K 1 M) (hs : free R b 0 = true → ¬ (99 : Int32) < bg R b 3 + (1 + nI (mo u 20)) → ∀ M', PV L T (aFlour R b (1 + nI (mo u 20))) (min (h + 1) 8) (pushR h hr R) sb S M' → K 1 M') (hx : x2 < 15) : f_L_act_L638 v K x2 u (nI b) x3 x4 x5 x8 x6 M := by
  have w := g.w
  have n5 := w.nb5
  unfold f_L_act_L638
  have l1 := mo_lt (v := u) (n := 20) (by decide)
  obtain ⟨fl, fl9, efl⟩ := gd.1.1 b hb
  refine cN' (Int32.not_le.2 hx) ?_
  refine t_flour g rfl hb ?_
  refine t_coins g ?_
  refine r_most (n := 20) rfl (by decide) (by decide) ?_
  rw [hz]
  refine bF (fun hf => ?_) (fun hf => hn (fun c => by rw [hf] at c; cases c))
  by_cases h9 : (99 : Int32) < bg R b 3 + (1 + nI (mo u 20))
  · exact cT' h9 (hn (fun _ => h9))
  · refine cN' h9 ?_
    have ok : okF R (nI b) (1 + nI (mo u 20)) = true := by
      unfold okF
      rw [nI_clamp (by omega), inR_nI hb (by omega), hf, decide_eq_true (Int32.not_lt.1 h9)]
      rfl
    refine t_buyFlour g rfl hb (by rw [n1]; exact nI_le (a := 1) (by omega) (by omega)) (by rw [n1]; exact nI_le (b := 99) (by omega) (by omega)) ok (fun M1 g1 => ?_)
    refine cT rfl ?_
    refine t_coins g1 ?_
    exact cT (show aFlour R b (1 + nI (mo u 20)) 4 = _ from up_s _ _ _) (hs hf h9 M1 g1)
theorem b_coll (g : PV L T R h hr sb S M) (gd : Gd P m0 R) (hb : b < nb R) (ht : t < np R) (hz : x8 = bi (inL R b)) (hn : inL R b = true → K 1 M) (hs : inL R b = false → ∀ M', PV L T (aGather R b) (min (h + 1) 8) (pushR h hr R) sb S M' → K 1 M') (hx : (15 : Int32) ≤ x2) (hx2 : ¬ (17 : Int32) ≤ x2) : f_L_act_L638 v K x2 u (nI b) (nI t) x4 x5 x8 x6 M := by
  have w := g.w
  have n5 := w.nb5
  have n16 := w.np16
  have ep := (w.2.1 b hb).ePl
  unfold f_L_act_L638
  refine cT' hx ?_
  refine r_pairs g gd ?_
  refine cN' hx2 ?_
  rw [hz]
  refine bF (fun hl => ?_) (fun hl => ?_)
  · refine t_sailObstacle g rfl rfl hb ht ?_
    exact cT ((obs_1 R b t).1.2 hl) (hn hl)
  · have ok : okG R (nI b) = true := by
      unfold okG
      rw [nI_clamp (by omega), inR_nI hb (by omega), hl]
      rfl
    have e0 : bg (aGather R b) b 0 = bg R b 0 := aGather_i (by omega) (by omega)
    have e5 : bg (aGather R b) b 5 = bg R b 5 + R (40 + pl R b) := by
      show upd (sB R b 5 (bg R b 5 + R (40 + pl R b))) (40 + pl R b) 0 (72 + 7 * b + 5) = _
      rw [up_n (by omega)]
      exact up_s _ _ _
    have en : nb (aGather R b) = nb R := by unfold nb; rw [aGather_i (by omega) (by omega)]
    have em : np (aGather R b) = np R := by unfold np; rw [aGather_i (by omega) (by omega)]
    refine t_placeOf g rfl hb ?_
    refine t_usedPairs g ep.1 ep.2 ?_
    refine t_dirtyPairs g rfl hb ?_
    refine t_collect g rfl hb ok (fun M1 g1 => ?_)
    refine cT rfl ?_
    refine t_dirtyPairs g1 rfl (by rw [en]; exact hb) ?_
    refine cT e5 ?_
    refine t_placeOf g1 rfl (by rw [en]; exact hb) ?_
    refine t_usedPairs g1 (e0.trans ep.1) (by rw [em]; exact ep.2) ?_
    refine cT (up_s _ _ _) ?_
    refine r_pairs g1 (gd_gather gd w hb) ?_
    exact cT rfl (hs hl M1 g1)
theorem b_wash (g : PV L T R h hr sb S M) (gd : Gd P m0 R) (hb : b < nb R) (hz : x6 = bi (free R b 0)) (hn : free R b 0 = false → K 1 M) (hs : free R b 0 = true → ∀ M', PV L T (aWash R b) (min (h + 1) 8) (pushR h hr R) sb S M' → K 1 M') (hx : x2 = 17) : f_L_act_L638 v K x2 u (nI b) x3 x4 x5 x8 x6 M := by
  have w := g.w
  have n5 := w.nb5
  unfold f_L_act_L638
  subst hx
  refine cT' (by decide) ?_
  refine r_pairs g gd ?_
  refine cT' (by decide) ?_
  refine cT rfl ?_
  refine t_cleanPairs g rfl hb ?_
  refine t_dirtyPairs g rfl hb ?_
  rw [hz]
  refine bF (fun hf => ?_) (fun hf => hn hf)
  have ok : okW R (nI b) = true := by
    unfold okW
    rw [nI_clamp (by omega), inR_nI hb (by omega), hf]
    rfl
  have en : nb (aWash R b) = nb R := by unfold nb; rw [aWash_i (by omega) (by omega)]
  refine t_wash g rfl hb ok (fun M1 g1 => ?_)
  refine cT rfl ?_
  refine t_dirtyPairs g1 rfl (by rw [en]; exact hb) ?_
  refine cT (up_s _ _ _) ?_
  refine r_pairs g1 (gd_wash gd w hb) ?_
  exact cT rfl (hs hf M1 g1)
end ACT2
