/-! p65: a good canal passes the law's look, second part: barges and queues -/
section LOOK2
variable {M M1 M' L L' : TM} {T U P m0 : Nat} {K : Int32 → TM → Prop} {R R' S : Nat → Int32} {a b c d e f j k h ci di t o : Nat} {hr : Nat → Nat → Int32} {sb : Bool} {x1 x2 x3 x4 x5 x6 x7 x8 x9 x10 : Int32}
theorem obs_1 (R : Nat → Int32) (b t : Nat) : (obs R b t = 1 ↔ inL R b = true) ∧ (obs R b t = 2 → bg R b 1 = nI t) ∧ (obs R b t = 0 → ¬ bg R b 1 = nI t) := by
  unfold obs
  cases h1 : inL R b with
  | true => rw [if_pos rfl]; exact ⟨⟨fun _ => rfl, fun _ => rfl⟩, fun e => absurd e (by decide), fun e => absurd e (by decide)⟩
  | false =>
    rw [if_neg (by decide)]
    by_cases h2 : bg R b 1 = nI t
    · rw [if_pos h2]; exact ⟨⟨fun e => absurd e (by decide), fun e => absurd e (by decide)⟩, fun _ => h2, fun e => absurd e (by decide)⟩
    · rw [if_neg h2]
      cases h3 : th R b (pl R b) t with
      | true => rw [if_pos rfl]; exact ⟨⟨fun e => absurd e (by decide), fun e => absurd e (by decide)⟩, fun e => absurd e (by decide), fun e => absurd e (by decide)⟩
      | false => rw [if_neg (by decide)]; exact ⟨⟨fun e => absurd e (by decide), fun e => absurd e (by decide)⟩, fun e => absurd e (by decide), fun _ => h2⟩
theorem i_561 {k2 : Int32 → Int32 → Int32 → Int32 → Int32 → Int32 → TM → Prop} {k3 : Int32 → Int32 → Int32 → Int32 → Int32 → Int32 → Int32 → Int32 → TM → Prop} {k4 : Int32 → Int32 → Int32 → Int32 → Int32 → Int32 → Int32 → TM → Prop} (g : PV L T R h hr sb S M) (hb : b < nb R) (hk : k4 x1 x2 x3 x4 x5 (nI b) (nI t + 1) M) : f_L_isCanal_L561 K k2 k3 k4 x1 x2 x3 x4 x5 (nI b) (nI t) (obs R b t) M := by
  unfold f_L_isCanal_L561
  refine ⟨fun _ => hk, fun c => ?_⟩
  refine t_targetOf g rfl hb ?_
  exact cN ((obs_1 R b t).2.2 c) hk
theorem i_541 {k2 : Int32 → Int32 → Int32 → Int32 → Int32 → Int32 → TM → Prop} {k3 : Int32 → Int32 → Int32 → Int32 → Int32 → Int32 → Int32 → Int32 → TM → Prop} {k4 : Int32 → Int32 → Int32 → Int32 → Int32 → Int32 → Int32 → TM → Prop} {z0 z1 : Int32} (g : PV L T R h hr sb S M) (hb : b < nb R) (hz : z1 = z0) (hk : k4 x1 x2 x3 x4 x5 (nI b) (nI t + 1) M) : f_L_isCanal_L541 K k2 k3 k4 x1 x2 x3 x4 x5 (nI b) (nI t) (obs R b t) z0 z1 M := by
  unfold f_L_isCanal_L541
  refine cT hz ⟨fun _ => i_561 g hb hk, fun c => ?_⟩
  refine t_targetOf g rfl hb ?_
  exact cT ((obs_1 R b t).2.1 c) (i_561 g hb hk)
theorem i_527 {k2 : Int32 → Int32 → Int32 → Int32 → Int32 → Int32 → TM → Prop} {k3 : Int32 → Int32 → Int32 → Int32 → Int32 → Int32 → Int32 → Int32 → TM → Prop} {k4 : Int32 → Int32 → Int32 → Int32 → Int32 → Int32 → Int32 → TM → Prop} (g : PV L T R h hr sb S M) (hb : b < nb R) {z0 : Int32} (hz : z0 = bi (inL R b)) (hk : k4 x1 x2 x3 x4 x5 (nI b) (nI t + 1) M) : f_L_isCanal_L527 K k2 k3 k4 x1 x2 x3 x4 x5 (nI b) (nI t) (obs R b t) z0 M := by
  unfold f_L_isCanal_L527
  refine t_timeInLock g rfl hb ?_
  refine ⟨fun c => i_541 g hb ?_ hk, fun c => i_541 g hb ?_ hk⟩
  · rw [hz]; unfold inL; rw [decide_eq_false (fun n => n c)]; rfl
  · rw [hz]; unfold inL; rw [decide_eq_true c]; rfl
theorem i_497 {k2 : Int32 → Int32 → Int32 → Int32 → Int32 → Int32 → TM → Prop} {k3 : Int32 → Int32 → Int32 → Int32 → Int32 → Int32 → Int32 → Int32 → TM → Prop} (w : WF T R) (hb : b < nb R) (hk : ∀ M', PV L T R h hr sb S M' → k2 x1 x2 x3 x4 x5 (nI b + 1) M') : ∀ n t M, t + n = np R → PV L T R h hr sb S M → f_L_isCanal_L497 K k2 k3 (n + 1) x1 x2 x3 x4 x5 (nI b) (nI t) M := by
  have n16 := w.np16
  have e1 : R 1 = nI (np R) := w.1.1.1.1
  intro n
  induction n with
  | zero =>
    intro t M hn g
    unfold f_L_isCanal_L497
    refine t_placeCount g ?_
    exact cT' (by rw [e1]; exact nI_le (by omega) (by omega)) (hk M g)
  | succ n ih =>
    intro t M hn g
    unfold f_L_isCanal_L497
    have ht : t < np R := by omega
    have ih' := ih (t + 1) M (by omega) g
    rw [← nI_1] at ih'
    refine t_placeCount g ?_
    refine cN' (by rw [e1]; exact nI_ge ht (by omega)) ?_
    refine t_sailObstacle g rfl rfl hb ht ?_
    refine ⟨fun c => i_527 g hb ?_ ih', fun c => i_527 g hb ?_ ih'⟩
    · rw [Bool.eq_false_iff.2 (fun e => c ((obs_1 R b t).1.2 e))]; rfl
    · rw [(obs_1 R b t).1.1 c]; rfl
theorem i_473 {k2 : Int32 → Int32 → Int32 → Int32 → Int32 → Int32 → TM → Prop} {k3 : Int32 → Int32 → Int32 → Int32 → Int32 → Int32 → Int32 → Int32 → TM → Prop} {z0 z1 : Int32} (g : PV L T R h hr sb S M) (hb : b < nb R) (hz : z0 = z1) (h1 : z1 = bi (!sails R b)) (hk : ∀ M', PV L T R h hr sb S M' → k2 x1 x2 x3 x4 x5 (nI b + 1) M') : f_L_isCanal_L473 K k2 k3 x1 x2 x3 x4 x5 (nI b) z1 z0 M := by
  unfold f_L_isCanal_L473
  have w := g.w
  have go : ∃ n497, f_L_isCanal_L497 K k2 k3 n497 x1 x2 x3 x4 x5 (nI b) (0 : Int32) M := ⟨_, i_497 w hb hk (np R) 0 M (by omega) g⟩
  refine cT hz ?_
  refine t_timeInLock g rfl hb ?_
  refine ⟨fun _ => go, fun c => ⟨fun _ => go, fun c2 => ?_⟩⟩
  exfalso
  have wb := w.2.1 b hb
  have ev := wb.eVl
  have n16 := w.np16
  have p0 := wb.ePl
  have p1 := wb.eTg
  have hv : vl R b ≠ 0 := fun e => c (by rw [ev.1, e]; decide)
  have hp := ev.2.2 hv
  have : sails R b = true := by
    unfold sails
    exact decide_eq_true (fun e => by rw [p0.1, p1.1] at e; exact hp (nI_inj (by omega) (by omega) e).symm)
  rw [h1, this] at c2
  exact c2 rfl
theorem i_400 {k2 : Int32 → Int32 → Int32 → Int32 → Int32 → Int32 → TM → Prop} {k3 : Int32 → Int32 → Int32 → Int32 → Int32 → Int32 → Int32 → Int32 → TM → Prop} {z0 : Int32} {n : Nat} (g : PV L T R h hr sb S M) (gd : Gd P m0 R) (hb : b < nb R) (hn : fN R b ≤ n) (hn2 : n < 2 ^ 31) (h1 : z0 = bi (!sails R b)) (hk : ∀ M', PV L T R h hr sb S M' → k2 x1 x2 x3 x4 x5 (nI b + 1) M') : f_L_isCanal_L400 K k2 k3 x1 x2 x3 x4 x5 (nI b) (nI n) z0 M := by
  unfold f_L_isCanal_L400
  have w := g.w
  have hh := w.2.2.2.2.1 b hb
  rw [cOf_held] at hh
  obtain ⟨fl, fl9, efl⟩ := gd.1.1 b hb
  have lt := gd.1.lt.1 b hb
  refine t_flourNeeded g rfl hb ?_
  refine cN' (by rw [sFl_fN gd.2.1.1]; exact nI_nlt hn (by omega)) ?_
  refine t_queueLength g rfl hb ?_
  refine t_readyCount g rfl hb ?_
  refine cN' (by rw [nI_add]; exact nI_nlt (a := 4) hh (by decide)) ?_
  refine t_flour g rfl hb ?_
  refine cN' (by rw [efl]; exact nI_pos (by omega)) ?_
  refine t_flour g rfl hb ?_
  refine cN' (by rw [efl]; exact nI_nlt (a := 99) fl9 (by decide)) ?_
  refine t_cleanPairs g rfl hb ?_
  refine cN' (by rw [(gd.1.2.1 b hb).1]; exact nI_pos (by omega)) ?_
  refine t_minutesToTarget g rfl hb (fun M1 g1 => ?_)
  refine ⟨fun c => i_473 g1 hb ?_ h1 hk, fun c => i_473 g1 hb ?_ h1 hk⟩
  · rw [h1, show sails R b = true from Decidable.byContradiction (fun e => c (mtt_0.2 (Bool.eq_false_iff.2 e)))]; rfl
  · rw [h1, mtt_0.1 c]; rfl
theorem gd_at {l : List Nat} {j : Nat} (hj : j < l.length) : l.getD j 0 = l[j] := by rw [List.getD_eq_getElem?_getD, List.getElem?_eq_getElem hj]; rfl
/-- a queue: each order in it is that barge's, neither open nor ready, with pulls left -/
theorem i_274 {k2 : Int32 → Int32 → Int32 → Int32 → Int32 → Int32 → TM → Prop} {l : List Nat} (w : WF T R) (gd : Gd P m0 R) (hb : b < nb R) (hq : IsQ R b l) (hk : ∀ M', PV L T R h hr sb S M' → k2 x1 x2 x3 (x4 + nI (cOf R (nI b) 1)) (x5 + nI (cOf R (nI b) 2)) (nI b + 1) M') : ∀ n i M, i + n = l.length → PV L T R h hr sb S M → f_L_isCanal_L274 K k2 (n + 1) x1 x2 x3 x4 x5 (nI b) (nI (sN (fun j => bw R (l.getD j 0)) i)) (nI i) M := by
  have n5 := w.nb5
  have n30 := w.no30
  have l4 := qlen4 w hb hq
  have go := gd.2.1.1
  have hle : ∀ j, j < l.length → bw R (l.getD j 0) ≤ 4 := fun j hj => by
    have hm := (hq.2 l[j]).1 (List.getElem_mem hj)
    rw [gd_at hj]
    exact (bw_w go hm.1).2.2
  intro n
  induction n with
  | zero =>
    intro i M hn g
    have : i = l.length := by omega
    subst this
    unfold f_L_isCanal_L274
    refine t_queueLength g rfl hb ?_
    refine cT' (by rw [← hq.len]; exact nI_le (Nat.le_refl _) (by omega)) ?_
    refine t_queueLength g rfl hb ?_
    refine t_readyCount g rfl hb ?_
    refine t_placeOf g rfl hb ?_
    refine t_targetOf g rfl hb ?_
    have hs := sN_le (f := fun j => bw R (l.getD j 0)) (c := 4) l.length hle
    have hf := fN_le hq
    refine ⟨fun c => i_400 g gd hb hf (by omega) ?_ hk, fun c => i_400 g gd hb hf (by omega) ?_ hk⟩
    · rw [show sails R b = true from decide_eq_true (fun e => c e.symm)]; rfl
    · rw [show sails R b = false from decide_eq_false (fun e => e c.symm)]; rfl
  | succ n ih =>
    intro i M hn g
    have hi : i < l.length := by omega
    have ih' := ih (i + 1) M (by omega) g
    unfold f_L_isCanal_L274
    have hm := (hq.2 l[i]).1 (List.getElem_mem hi)
    have ho := hm.1
    have hbel := hm.2
    unfold bel at hbel
    rw [Bool.and_eq_true, decide_eq_true_eq, decide_eq_true_eq] at hbel
    have eqd : qd R (nI b) (nI i) = nI l[i] := by
      rw [hq.qv (by omega), dif_pos (inR_nI hi (by omega))]
      congr 2
      exact nI_clamp (by omega)
    refine t_queueLength g rfl hb ?_
    refine cN' (by rw [← hq.len]; exact nI_ge hi (by omega)) ?_
    refine t_queuedOrder g rfl hb ?_
    rw [eqd]
    refine cN' (nI_pos (by omega)) ?_
    refine t_bargeOf g rfl ho ?_
    refine cT hbel.2 ?_
    refine t_isReady g rfl ho ?_
    refine cT (by rw [hbel.1]; rfl) ?_
    refine t_isOpen g rfl ho ?_
    refine cT (by rw [hbel.1]; rfl) ?_
    refine t_pullsLeft g rfl ho ?_
    obtain ⟨b', u', l', d', a1, a2, a3, a4, a5, a6, a7, a8, a9, a10, -⟩ := go.1 _ ho
    have h1 : 1 ≤ l' := by
      rcases a10 hbel.1 with ⟨-, e⟩ | ⟨-, e⟩ <;> omega
    refine cT' (by rw [a7]; exact nI_le (a := 1) h1 (by omega)) ?_
    refine t_bowls g rfl ho ?_
    rw [(bw_w go ho).1, nI_add, nI_1]
    have es : sN (fun j => bw R (l.getD j 0)) (i + 1) = sN (fun j => bw R (l.getD j 0)) i + bw R l[i] := by
      show _ + bw R (l.getD i 0) = _
      rw [gd_at hi]
    rw [es] at ih'
    exact ih'
theorem isQ_ex (w : WF T R) (hb : b < nb R) (g : PV L T R h hr sb S M) : ∃ l : List Nat, IsQ R b l := by
  obtain ⟨⟨ci, di, nx, g1, -⟩, -⟩ := g
  obtain ⟨l, h1, -⟩ := g1.2.2.2.1.2.2.2.2.1 b hb
  exact ⟨l, h1⟩
theorem i_259 (w : WF T R) (gd : Gd P m0 R) (hend : ∀ M', PV L T R h hr sb S M' → ∃ n612, f_L_isCanal_L612 K n612 x1 x2 x3 (nI (sN (fun k => cOf R (nI k) 1) (nb R))) (nI (sN (fun k => cOf R (nI k) 2) (nb R))) 0 0 0 0 (urg R) 0 M') : ∀ n k M, k + n = nb R → PV L T R h hr sb S M → f_L_isCanal_L259 K (n + 1) x1 x2 x3 (nI (sN (fun k => cOf R (nI k) 1) k)) (nI (sN (fun k => cOf R (nI k) 2) k)) (nI k) M := by
  have n5 := w.nb5
  have e2 : R 2 = nI (nb R) := w.1.1.2.1.1
  intro n
  induction n with
  | zero =>
    intro k M hn g
    have : k = nb R := by omega
    subst this
    unfold f_L_isCanal_L259
    refine t_bargeCount g ?_
    refine cT' (by rw [e2]; exact nI_le (Nat.le_refl _) (by omega)) ?_
    refine t_mostUrgentOrder g ?_
    exact hend M g
  | succ n ih =>
    intro k M hn g
    have hk : k < nb R := by omega
    unfold f_L_isCanal_L259
    refine t_bargeCount g ?_
    refine cN' (by rw [e2]; exact nI_ge hk (by omega)) ?_
    obtain ⟨l, hq⟩ := isQ_ex w hk g
    refine ⟨_, i_274 (l := l) w gd hk hq (fun M' g' => ?_) l.length 0 M (by omega) g⟩
    rw [nI_add, nI_add, nI_1]
    exact ih (k + 1) M' (by omega) g'
end LOOK2
