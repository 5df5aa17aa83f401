/-! who is in a lock is in one: kept by all that happens -/
def Ky (i : Nat) : Prop := i = 2 ∨ (10 ≤ i ∧ i < 25) ∨ (72 ≤ i ∧ i < 107 ∧ ((i - 72) % 7 = 0 ∨ (i - 72) % 7 = 1 ∨ (i - 72) % 7 = 6))
def Sm (R R' : Nat → Int32) : Prop := ∀ i, Ky i → R' i = R i
section LOCKS
variable {c' : Bool} {i : Nat} {M M1 M' : TM} {T U : Nat} {p q u v r2 r4 : Int32} {R R' R2 : Nat → Int32} {a b c d e f j k m x' h o : Nat}
theorem Sm.refl (R : Nat → Int32) : Sm R R := fun _ _ => rfl
theorem Sm.trans (h : Sm R R') (g : Sm R' R2) : Sm R R2 := fun i hi => (g i hi).trans (h i hi)
theorem Sm.up (h : Sm R R') (hk : ¬ Ky k) : Sm R (upd R' k v) := fun i hi => by
  rw [up_n (fun e : i = k => hk (by rw [← e]; exact hi))]
  exact h i hi
theorem Sm.fb (h : Sm R R') (hb : b < 5) (hf : f = 0 ∨ f = 1 ∨ f = 6) : R' (72 + 7 * b + f) = R (72 + 7 * b + f) := h _ (Or.inr (Or.inr ⟨by omega, by omega, by omega⟩))
theorem Sm.lk (h : Sm R R') (n5 : nb R ≤ 5) (g : LK R) : LK R' := by
  refine g.congr (by unfold nb; rw [h 2 (Or.inl rfl)]) (fun b hb hi => ?_) (fun j hj => h _ (Or.inr (Or.inl ⟨by omega, by omega⟩)))
  have e0 : bg R' b 0 = bg R b 0 := h.fb (by omega) (Or.inl rfl)
  have e1 : bg R' b 1 = bg R b 1 := h.fb (by omega) (Or.inr (Or.inl rfl))
  have e6 : bg R' b 6 = bg R b 6 := h.fb (by omega) (Or.inr (Or.inr rfl))
  unfold inL at hi ⊢
  unfold ahead
  rw [e6] at hi
  rw [e0, e1]
  exact ⟨hi, rfl⟩
theorem Sm.nbN (h : Sm R R') (n5 : nb R ≤ 5) (g : Nb R) : Nb R' := by
  have e : nb R' = nb R := by unfold nb; rw [h 2 (Or.inl rfl)]
  exact ⟨by rw [e]; exact g.1, h.lk n5 g.2⟩
theorem nk (h1 : 25 ≤ k) (h2 : k < 72 ∨ 107 ≤ k) : ¬ Ky k := by unfold Ky; omega
theorem nkb (hb : b < 5) (hf : f = 2 ∨ f = 3 ∨ f = 4 ∨ f = 5) : ¬ Ky (72 + 7 * b + f) := by unfold Ky; omega
theorem nks (h : k < 10) (h2 : k ≠ 2) : ¬ Ky k := by unfold Ky; omega
theorem sm_flour (hb : b < 5) : Sm R (aFlour R b u) := ((Sm.refl R).up (nkb hb (by omega))).up (nks (by decide) (by decide))
theorem sm_gather (hb : b < 5) (hp : pl R b < 16) : Sm R (aGather R b) := ((Sm.refl R).up (nkb hb (by omega))).up (nk (by omega) (by omega))
theorem sm_wash (hb : b < 5) : Sm R (aWash R b) := ((Sm.refl R).up (nkb hb (by omega))).up (nkb hb (by omega))
theorem sm_order {bo pu mi : Int32} : Sm R (aOrder R p bo pu mi) := by
  unfold aOrder sO
  refine Sm.up (Sm.up (Sm.up (Sm.up (Sm.up (Sm.up (Sm.up (Sm.up (Sm.up (Sm.refl R) ?_) ?_) ?_) ?_) ?_) ?_) ?_) ?_) ?_
  · exact nks (by decide) (by decide)
  all_goals exact nk (by omega) (by omega)
theorem sm_take : Sm R (aTake R b o) := by
  unfold aTake sO
  refine Sm.up (Sm.up (Sm.up (Sm.up (Sm.refl R) ?_) ?_) ?_) ?_
  · exact nk (by omega) (by omega)
  · exact nk (by omega) (by omega)
  · exact nk (by omega) (by omega)
  · exact nks (by decide) (by decide)
theorem sm_drop : Sm R (aDrop R o) := by
  unfold aDrop sO
  refine Sm.up (Sm.up (Sm.up (Sm.up (Sm.refl R) ?_) ?_) ?_) ?_
  all_goals exact nk (by omega) (by omega)
theorem sm_beg (hb : b < 5) : Sm R (begR R b o) := by
  unfold begR
  split
  · exact ((Sm.refl R).up (nkb hb (by omega))).up (nk (by omega) (by omega))
  · exact Sm.refl R
theorem sm_draw : Sm R (drawR R o) := by
  unfold drawR
  split
  · split
    · exact ((Sm.refl R).up (nk (by omega) (by omega))).up (nk (by omega) (by omega))
    · exact (Sm.refl R).up (nk (by omega) (by omega))
  · exact Sm.refl R
theorem sm_pl (hb : b < 5) : Sm R (plR R b) := by
  unfold plR
  split
  · exact Sm.refl R
  · exact (sm_beg hb).trans sm_draw
theorem sm_er (hb : b < 5) (hp : pl R b < 16) : Sm R (er b o R) := by
  unfold er
  split
  · intro i hi
    unfold Ky at hi
    exact eat_n (by omega) (by omega) (by omega) (by omega) (by omega) (by omega) (by omega)
  · exact Sm.refl R
theorem sm_ex : Sm R (exR o R) := by
  unfold exR sO
  split
  · refine Sm.up (Sm.up (Sm.up (Sm.up (Sm.refl R) ?_) ?_) ?_) ?_
    · exact nk (by omega) (by omega)
    · exact nk (by omega) (by omega)
    · exact nks (by decide) (by decide)
    · exact nks (by decide) (by decide)
  · exact Sm.refl R
theorem lk_sail (ok : okS R p q = true) (g : LK R) (n5 : nb R ≤ 5) : LK (aSail R p.toNatClampNeg q) := by
  unfold okS at ok
  have ok2 := of_decide_eq_true (Bool.and_eq_true_iff.1 ok).2
  obtain ⟨b, hb, rfl⟩ := inR_of (by omega) (Bool.and_eq_true_iff.1 (Bool.and_eq_true_iff.1 ok).1).1
  rw [nI_clamp (by omega)] at ok2 ⊢
  have hl : inL R b = false := by
    cases e : inL R b with
    | false => rfl
    | true => unfold obs at ok2; rw [e, if_pos rfl] at ok2; exact absurd ok2 (by decide)
  have e6 : ∀ d, bg (aSail R b q) d 6 = bg R d 6 := fun d => up_n (by omega)
  refine g.congr (by unfold nb aSail sB; rw [up_n (by omega)]) (fun d hd hi => ?_) (fun j hj => up_n (by omega))
  have hi2 : inL R d = true := by unfold inL at hi ⊢; rw [e6] at hi; exact hi
  have hne : d ≠ b := fun e => by rw [e, hl] at hi2; cases hi2
  have e0 : bg (aSail R b q) d 0 = bg R d 0 := up_n (by omega)
  have e1 : bg (aSail R b q) d 1 = bg R d 1 := up_n (by omega)
  refine ⟨hi2, ?_⟩
  unfold ahead
  rw [e0, e1]
theorem lk_move (w : WF T R) (hb : b < nb R) (hs : sails R b = true) (g : LK R) : LK (mvR R b) := by
  have n5 := w.nb5
  have wb := w.2.1 b hb
  have pb := sails_ne wb hs
  obtain ⟨aj, j1, -⟩ := ahead_jj wb w.np16 pb
  have n16 := w.np16
  have il := inL_vl wb
  have en : nb (mvR R b) = nb R := by unfold nb; rw [mv_id (Or.inl (by omega))]
  intro d j hd hj hi ha he
  rw [mv_id (Or.inl (by omega))] at he
  rw [en] at hd
  by_cases hdb : d = b
  · subst hdb
    by_cases v0 : vl R d = 0
    · by_cases z0 : R (10 + jj R d) = 0
      · have e : mvR R d = sB R d 0 (nI (zz R d)) := by unfold mvR; rw [if_pos v0, if_pos z0]
        have e6 : bg (mvR R d) d 6 = bg R d 6 := by rw [e]; exact up_n (by omega)
        have : inL R d = true := by unfold inL at hi ⊢; rw [e6] at hi; exact hi
        rw [il] at this
        exact of_decide_eq_true this v0
      · by_cases w0 : who R (nI (jj R d)) = -1
        · have e : mvR R d = sB R d 6 (R (10 + jj R d)) := by unfold mvR; rw [if_pos v0, if_neg z0, if_pos w0]
          have e0 : bg (mvR R d) d 0 = bg R d 0 := by rw [e]; exact up_n (by omega)
          have e1 : bg (mvR R d) d 1 = bg R d 1 := by rw [e]; exact up_n (by omega)
          have : ahead R d = nI j := by unfold ahead at ha ⊢; rw [e0, e1] at ha; exact ha
          rw [aj] at this
          have := nI_inj (by omega) (by omega) this
          rw [this] at z0
          exact z0 he
        · have e : mvR R d = R := by unfold mvR; rw [if_pos v0, if_neg z0, if_neg w0]
          rw [e, il] at hi
          exact of_decide_eq_true hi v0
    · by_cases v1 : vl R d = 1
      · have e : mvR R d = sB (sB R d 6 0) d 0 (nI (zz R d)) := by unfold mvR; rw [if_neg v0, if_pos v1]
        have e6 : bg (mvR R d) d 6 = 0 := by rw [e]; exact (up_n (by omega)).trans (up_s _ _ _)
        unfold inL at hi
        rw [e6] at hi
        exact absurd hi (by decide)
      · have e : mvR R d = sB R d 6 (nI (vl R d - 1)) := by unfold mvR; rw [if_neg v0, if_neg v1]
        have e0 : bg (mvR R d) d 0 = bg R d 0 := by rw [e]; exact up_n (by omega)
        have e1 : bg (mvR R d) d 1 = bg R d 1 := by rw [e]; exact up_n (by omega)
        have : ahead R d = nI j := by unfold ahead at ha ⊢; rw [e0, e1] at ha; exact ha
        exact g d j hd hj (by rw [il]; exact decide_eq_true v0) this he
  · have e0 : bg (mvR R b) d 0 = bg R d 0 := mv_id (by omega)
    have e1 : bg (mvR R b) d 1 = bg R d 1 := mv_id (by omega)
    have e6 : bg (mvR R b) d 6 = bg R d 6 := mv_id (by omega)
    exact g d j hd hj (by unfold inL at hi ⊢; rw [e6] at hi; exact hi) (by unfold ahead at ha ⊢; rw [e0, e1] at ha; exact ha) he
theorem lk_st (w : WF T R) (hb : b < nb R) (g : LK R) : LK (stM R b) := by
  unfold stM
  split
  · rename_i hs
    exact lk_move w hb hs g
  · exact g
theorem lk_pmR (w : WF T R) (g : LK R) : LK (pmR R) := by
  have n5 := w.nb5
  obtain ⟨R1, R2, R3, h1, h2, h3, h4, w1, w2, w3, -⟩ := min_st w
  have g1 : LK R1 := by
    rw [h1]
    refine (fo_inv (P := fun a => WF T a ∧ a 2 = R 2 ∧ LK a) ⟨w, rfl, g⟩ (fun k hk a ha => ?_)).2.2
    have hk' : k < nb a := by unfold nb at hk ⊢; rw [ha.2.1]; exact hk
    exact ⟨stM_w ha.1 hk', (stM_i (Or.inl (by decide)) (by omega)).trans ha.2.1, lk_st ha.1 hk' ha.2.2⟩
  have s2 : Sm R1 R2 := by
    rw [h2]
    have := w1.nb5
    exact fo_inv (P := fun a => Sm R1 a) (Sm.refl R1) (fun k hk a ha => ha.trans (sm_pl (by omega)))
  have s3 : Sm R2 R3 := by
    rw [h3]
    have := w2.nb5
    unfold svR
    refine (fo_inv (P := fun a => WF T a ∧ a 2 = R2 2 ∧ a 3 = R2 3 ∧ Sm R2 a) ⟨w2, rfl, rfl, Sm.refl R2⟩ (fun k hk a ha => ?_)).2.2.2
    refine fo_inv (P := fun a => WF T a ∧ a 2 = R2 2 ∧ a 3 = R2 3 ∧ Sm R2 a) ha (fun o ho x hx => ?_)
    have hk' : k < nb x := by unfold nb at hk ⊢; rw [hx.2.1]; exact hk
    have ho' : o < no x := by unfold no at ho ⊢; rw [hx.2.2.1]; exact ho
    obtain ⟨q1, -, -, q2, q3⟩ := er_w hx.1 hk' ho'
    have := (hx.1.2.1 k hk').ePl.2
    have := hx.1.np16
    exact ⟨q1, q2.trans hx.2.1, q3.trans hx.2.2.1, hx.2.2.2.trans (sm_er (by omega) (by omega))⟩
  have s4 : Sm R3 (pmR R) := by
    rw [h4]
    refine Sm.up ?_ (nks (by decide) (by decide))
    exact fo_inv (P := fun a => Sm R3 a) (Sm.refl R3) (fun k hk a ha => ha.trans sm_ex)
  exact s4.lk w3.nb5 (s3.lk w2.nb5 (s2.lk w1.nb5 g1))
theorem lk_pm (w : WF T R) (g : LK R) : LK (pm R) := by
  unfold pm
  split
  · exact g
  · exact lk_pmR w g
theorem nb_pmN (w : WF T R) (g : Nb R) : ∀ n, Nb (pmN n R) := by
  intro n'
  obtain ⟨w1, e1, e2, e3⟩ := pmN_w w n'
  refine ⟨by unfold nb; rw [e2]; exact g.1, ?_⟩
  induction n' with
  | zero => exact g.2
  | succ k ih =>
    obtain ⟨w1, e1, e2, e3⟩ := pmN_w w k
    exact lk_pm w1 (ih w1 e1 e2 e3)
end LOCKS
