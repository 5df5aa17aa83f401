/-! take and drop -/
section TAKEDROP
variable {M M' : TM} {r c T k : Nat} {R R' : Nat → Int32} {K : Int32 → TM → Prop} {KV : TM → Prop} {p q u s : Int32} {b d o f j a t x : Nat} {l : List Nat}
theorem aT_x (hx : x ≠ o) (hf : f < 9) : og (aTake R b o) x f = og R x f := by
  have : 107 + 9 * x + f ≠ 8 := by omega
  simp (disch := omega) only [aTake, og, sO, up_n]
theorem aT_f (R : Nat → Int32) (b o : Nat) (h4 : f ≠ 4) (h5 : f ≠ 5) (h8 : f ≠ 8) (hf : f < 9) : og (aTake R b o) o f = og R o f := by simp (disch := omega) only [aTake, og, sO, up_n]
theorem aT_4 (R : Nat → Int32) (b o : Nat) : og (aTake R b o) o 4 = 1 := by simp (disch := omega) only [aTake, og, sO, up_n, up_s]
theorem aT_5 (R : Nat → Int32) (b o : Nat) : og (aTake R b o) o 5 = nI b := by simp (disch := omega) only [aTake, og, sO, up_n, up_s]
theorem aT_o8 (R : Nat → Int32) (b o : Nat) : og (aTake R b o) o 8 = R 8 := by simp (disch := omega) only [aTake, og, sO, up_n, up_s]
theorem aT_i {i : Nat} (h : i < 107 + 9 * o ∨ 107 + 9 * o + 9 ≤ i) (h8 : i ≠ 8) : aTake R b o i = R i := by simp (disch := omega) only [aTake, sO, up_n]
theorem aT_8 : aTake R b o 8 = R 8 + 1 := up_s _ _ _
theorem aT_no : no (aTake R b o) = no R := by unfold no; rw [aT_i (by omega) (by decide)]
theorem aT_nb : nb (aTake R b o) = nb R := by unfold nb; rw [aT_i (by omega) (by decide)]
theorem aT_cIn (ho : og R o 4 = 0) (h0 : s ≠ 0) (h1 : s ≠ 1) : cIn (aTake R b o) s = cIn R s := by
  unfold cIn
  rw [aT_no]
  refine cn_congr _ (fun k hk => ?_)
  by_cases e : k = o
  · subst e; rw [aT_4, ho, decide_eq_false (fun c => h1 c.symm), decide_eq_false (fun c => h0 c.symm)]
  · rw [aT_x e (by decide)]
theorem aT_bel (hx : x ≠ o) : bel (aTake R b o) x q s = bel R x q s := by unfold bel; rw [aT_x hx (by decide), aT_x hx (by decide)]
theorem wf_take (w : WF T R) (hT : T + 1 < 2 ^ 31) (hb : b < nb R) (ho : o < no R) (h4 : og R o 4 = 0) (hh : held R b < 4) : WF (T + 1) (aTake R b o) := by
  have n5 := w.nb5
  have n30 := w.no30
  obtain ⟨tu, ht, e8⟩ := w.1.2.2.2.2.1
  have np' : np (aTake R b o) = np R := by unfold np; rw [aT_i (by omega) (by decide)]
  have e8' : aTake R b o 8 = nI (tu + 1) := by rw [aT_8, e8, nI_1]
  refine w.ord (o := o) (fun i h1 h2 => aT_i h2 (by omega)) (aT_i (by omega) (by decide)) (aT_i (by omega) (by decide)) (aT_i (by omega) (by decide)) (aT_i (by omega) (by decide)) ⟨tu + 1, by omega, e8', by rw [e8', e8, nI_clamp (by omega), nI_clamp (by omega)]; omega⟩ (fun j hj => aT_i (by omega) (by omega)) (fun j hj => ⟨aT_i (by omega) (by omega), aT_i (by omega) (by omega)⟩) ?_ ?_ (fun d hd => ?_) (fun x y hx hy hx4 hy4 he => ?_)
  · rw [aT_i (by omega) (by decide), aT_cIn h4 (by decide) (by decide)]
    exact w.1.2.2.2.2.2.1
  · obtain ⟨p, s, a1, a2, a3, a4, a5, a6, a7, a8⟩ := w.2.2.1 o ho
    exact ⟨p, 1, by rw [np']; exact a1, by decide, by rw [aT_f R b o (by decide) (by decide) (by decide) (by decide)]; exact a3, aT_4 R b o, by rw [aT_f R b o (by decide) (by decide) (by decide) (by decide)]; exact a5, fun _ => ⟨b, by rw [aT_nb]; exact hb, aT_5 R b o⟩, fun c => absurd (Or.inl rfl) c, fun _ => ⟨tu, by rw [e8', nI_clamp (by omega)]; omega, by rw [aT_o8]; exact e8⟩⟩
  · by_cases e : d = b
    · subst e
      have : held (aTake R d o) d ≤ held R d + 1 := by
        unfold held
        rw [aT_no]
        exact cn_le1 _ o (fun k hk hne => by rw [aT_bel hne, aT_bel hne])
      omega
    · have : held (aTake R b o) d = held R d := by
        unfold held
        rw [aT_no]
        refine cn_congr _ (fun k hk => ?_)
        by_cases e' : k = o
        · subst e'
          unfold bel
          rw [aT_4, aT_5, h4]
          have ne : ¬ nI b = nI d := fun c => e (nI_inj (by omega) (by omega) c).symm
          simp [ne]
        · rw [aT_bel e', aT_bel e']
      rw [this]
      exact w.2.2.2.2.1 d hd
  · rw [aT_no] at hx hy
    have key : ∀ z, z < no R → z ≠ o → og (aTake R b o) z 4 = 1 → og (aTake R b o) z 8 ≠ R 8 := fun z hz hne h4z c => by
      rw [aT_x hne (by decide)] at h4z c
      obtain ⟨p, s, a1, a2, a3, a4, a5, a6, a7, a8⟩ := w.2.2.1 z hz
      rw [a4] at h4z
      have : s = 1 := nI_inj (b := 1) (by omega) (by decide) h4z
      obtain ⟨t, t1, t2⟩ := a8 this
      rw [e8, nI_clamp (by omega)] at t1
      rw [t2, e8] at c
      have := nI_inj (by omega) (by omega) c
      omega
    by_cases ex : x = o
    · by_cases ey : y = o
      · rw [ex, ey]
      · subst ex
        rw [aT_o8] at he
        exact absurd he.symm (key y hy ey hy4)
    · by_cases ey : y = o
      · subst ey
        rw [aT_o8] at he
        exact absurd he (key x hx ex hx4)
      · rw [aT_x ex (by decide)] at hx4
        rw [aT_x ey (by decide)] at hy4
        rw [aT_x ex (by decide), aT_x ey (by decide)] at he
        exact w.2.2.2.2.2 x y hx hy hx4 hy4 he
theorem okT_of (w : WF T R) (ok : okT R p q = true) : ∃ b o, b < nb R ∧ o < no R ∧ p = nI b ∧ q = nI o ∧ og R o 4 = 0 ∧ held R b < 4 := by
  have n5 := w.nb5
  have n30 := w.no30
  unfold okT at ok
  simp only [Bool.and_eq_true, decide_eq_true_eq] at ok
  obtain ⟨⟨hp, hq⟩, h4, hh⟩ := ok
  obtain ⟨b, hb, rfl⟩ := inR_of (by omega) hp
  obtain ⟨o, ho, rfl⟩ := inR_of (by omega) hq
  rw [nI_clamp (by omega)] at h4 hh
  exact ⟨b, o, hb, ho, rfl, rfl, h4, hh⟩
theorem aT_isQ (w : WF T R) (hT : T < 2 ^ 31) (hb : b < nb R) (ho : o < no R) (h4 : og R o 4 = 0) (hd : d < nb R) (hq : IsQ R d l) : IsQ (aTake R b o) d (if d = b then l ++ [o] else l) := by
  have n5 := w.nb5
  obtain ⟨tu, ht, e8⟩ := w.1.2.2.2.2.1
  have nm : ∀ d, bel R o (nI d) 1 = false := fun d => by unfold bel; rw [h4]; rfl
  split
  · rename_i e
    subst e
    have lo : ∀ x ∈ l, x ≠ o := fun x hx e => by
      subst e
      have := ((hq.2 x).1 hx).2
      rw [nm] at this; cases this
    refine ⟨List.pairwise_append.2 ⟨hq.1.imp_of_mem (fun {x y} hx hy hxy => by rw [aT_x (lo x hx) (by decide), aT_x (lo y hy) (by decide)]; exact hxy), List.pairwise_singleton _ _, fun x hx y hy => ?_⟩, fun x => ?_⟩
    · rw [List.mem_singleton] at hy
      subst hy
      have hm := (hq.2 x).1 hx
      rw [aT_x (lo x hx) (by decide), aT_o8, e8]
      obtain ⟨p, s, a1, a2, a3, a4, a5, a6, a7, a8⟩ := w.2.2.1 x hm.1
      have hb4 := hm.2
      unfold bel at hb4
      rw [Bool.and_eq_true, decide_eq_true_eq, a4] at hb4
      obtain ⟨t, t1, t2⟩ := a8 (nI_inj (b := 1) (by omega) (by decide) hb4.1)
      rw [e8, nI_clamp (by omega)] at t1
      rw [t2]
      exact nI_lt t1 (by omega)
    · rw [List.mem_append, List.mem_singleton, hq.2 x, aT_no]
      constructor
      · rintro (⟨h1, h2⟩ | rfl)
        · exact ⟨h1, by rw [aT_bel (lo x ((hq.2 x).2 ⟨h1, h2⟩))]; exact h2⟩
        · exact ⟨ho, by unfold bel; rw [aT_4, aT_5]; simp⟩
      · rintro ⟨h1, h2⟩
        by_cases e : x = o
        · exact Or.inr e
        · exact Or.inl ⟨h1, by rw [aT_bel e] at h2; exact h2⟩
  · rename_i e
    refine hq.same aT_no (fun x hx => ?_) (fun x hx hbx => ?_)
    · by_cases e' : x = o
      · subst e'
        rw [nm]
        unfold bel
        rw [aT_5, decide_eq_false (fun c => e (nI_inj (by omega) (by omega) c).symm), Bool.and_false]
      · rw [aT_bel e']
    · by_cases e' : x = o
      · subst e'; rw [nm] at hbx; cases hbx
      · rw [aT_x e' (by decide)]
theorem c_canGive (w : WF T R) (h : RelC c M R) (hK : K (bi (okT R p q)) M) : f_X2_canGive c p q M K := by
  unfold f_X2_canGive
  have n5 := w.nb5
  have n30 := w.no30
  refine c_hasBarge w h ?_
  refine bF (fun hp => ?_) (fun hp => K_of hK (by simp [okT, hp, bi]))
  refine c_hasOrder w h ?_
  refine bF (fun hq => ?_) (fun hq => K_of hK (by simp [okT, hq, bi]))
  obtain ⟨b, hb, rfl⟩ := inR_of (by omega) hp
  obtain ⟨o, ho, rfl⟩ := inR_of (by omega) hq
  rw [nI_clamp (by omega), (h.2.2.2.2.2 o ho).2.2.2.2.2.2.1]
  unfold okT at hK
  rw [hp, hq, nI_clamp (by omega), nI_clamp (by omega), Bool.true_and, Bool.true_and] at hK
  refine ⟨vp_in_nI (by omega) (by decide), WO.st w ho, fun c1 => K_of hK (by simp [c1, bi]), fun c1 => ?_⟩
  refine c_held w h ?_
  have h4 := w.2.2.2.2.1 b hb
  refine ⟨fun c2 => K_of hK ?_, fun c2 => K_of hK ?_⟩
  · have := (nI_leI (a := 4) (b := held R b) (by decide) (by omega)).1 c2
    rw [decide_eq_false (show ¬ held R b < 4 by omega), Bool.and_false]; rfl
  · have : ¬ 4 ≤ held R b := fun h => c2 ((nI_leI (a := 4) (b := held R b) (by decide) (by omega)).2 h)
    rw [decide_eq_true (show held R b < 4 by omega), decide_eq_true c1]; rfl
theorem c_give (w : WF T R) (hT : T < 2 ^ 31) (h : RelC c M R) (hb : b < nb R) (ho : o < no R) (h4 : og R o 4 = 0) (hh : held R b < 4) (hK : ∀ M', FrC c M M' → RelC c M' (aTake R b o) → KV M') : f_X2_give c (nI b) (nI o) M KV := by
  unfold f_X2_give
  have n5 := w.nb5
  have n30 := w.no30
  refine c_hasBarge w h ?_
  rw [inR_nI hb (by omega)]
  refine bF (fun _ => ?_) (fun c => by cases c)
  refine c_hasOrder w h ?_
  rw [inR_nI ho (by omega)]
  refine bF (fun _ => ⟨vp_in_nI (by omega) (by decide), ?_⟩) (fun c => by cases c)
  intro M10 e10
  refine ⟨vp_in_nI (by omega) (by decide), ?_⟩
  intro M12 e12
  rw [nI_clamp (by omega)] at e10 e12
  refine ⟨vp_in_nI (by omega) (by decide), ?_⟩
  rw [nI_clamp (by omega)]
  obtain ⟨l, q1, q2, q3⟩ := h.2.2.2.2.1 b hb
  have hl : l.length < 4 := by
    rw [q1.len]
    rw [cOf_held] at hh
    omega
  have f12 : ∀ i, i ≠ c + 31 + o → M12 i = M i := fun i hi => by rw [e12, u2_n hi, e10, u2_n hi]
  refine c_enqueue hl (by rw [f12 _ (by omega)]; exact q2) (fun i hi => by rw [f12 _ (by omega)]; exact q3 i hi) (fun M' m1 m2 m3 m4 => ?_)
  have fM : ∀ i, i ≠ c + 31 + o → i ≠ c + 21 + 2 * b → i ≠ c + 21 + 2 * b + 1 → M' i = M i := fun i h1 h2 h3 => by rw [m1 i h2 h3, f12 i h1]
  refine hK M' (fun i hi => fM i (by omega) (by omega) (by omega)) ?_
  have ob : ∀ x, x < no R → x ≠ o → og (aTake R b o) x 4 = og R x 4 := fun x _ hx => aT_x hx (by decide)
  refine h.ord (o := o) n5 n30 (fun i h1 h2 => aT_i h2 (by omega)) (aT_i (by omega) (by decide)) (aT_i (by omega) (by decide)) (fun j hj => ⟨aT_i (by omega) (by omega), aT_i (by omega) (by omega)⟩) (fun j hj => ⟨aT_i (by omega) (by omega), aT_i (by omega) (by omega)⟩) (fun k h1 h2 => fM k (by omega) (by omega) (by omega)) (fun d hd f hf => ?_) (fun d hd => ?_) (fun x hx hne => fM _ (by omega) (by omega) (by omega)) ?_ (fun _ => ?_)
  · by_cases e : d = b
    · subst e; rw [m2 f (by omega), f12 _ (by omega)]
    · rw [fM _ (by omega) (by omega) (by omega)]
  · by_cases e : d = b
    · subst e
      refine ⟨l ++ [o], ?_, m3, m4⟩
      have := aT_isQ w hT hb ho h4 hd q1
      rw [if_pos rfl] at this
      exact this
    · refine (h.2.2.2.2.1 d hd).congr (by rw [fM _ (by omega) (by omega) (by omega)]) (by rw [fM _ (by omega) (by omega) (by omega)]) (fun l' hl' => ?_)
      have := aT_isQ w hT hb ho h4 hd hl'
      rw [if_neg e] at this
      exact this
  · unfold Sc
    rw [aT_cIn h4 (by decide) (by decide), fM c (by omega) (by omega) (by omega)]
    simp (disch := omega) only [aT_i]
    exact h.1
  · have hO := h.2.2.2.2.2 o ho
    unfold Or at hO ⊢
    rw [aT_4, aT_5, aT_f R b o (by decide) (by decide) (by decide) (by decide), aT_f R b o (by decide) (by decide) (by decide) (by decide), aT_f R b o (by decide) (by decide) (by decide) (by decide), aT_f R b o (by decide) (by decide) (by decide) (by decide), aT_f R b o (by decide) (by decide) (by decide) (by decide), aT_f R b o (by decide) (by decide) (by decide) (by decide), m1 _ (by omega) (by omega), e12, e10]
    simp (disch := omega) only [uR_s, up_n, up_s]
    exact ⟨hO.1, hO.2.1, hO.2.2.1, hO.2.2.2.1, hO.2.2.2.2.1, hO.2.2.2.2.2.1, trivial, trivial⟩
theorem m_doTake (hr : Rw M r) (w : WF T R) (hT : T + 1 < 2 ^ 31) (h1 : (inR p (nb R) && inR q (no R)) = false → K 1 (uR M r R)) (h2 : (inR p (nb R) && inR q (no R)) = true → okT R p q = false → K 2 (uR M r R)) (h0 : okT R p q = true → K 0 (uR (u2 M 699 10 (nI (cOf (aTake R p.toNatClampNeg q.toNatClampNeg) p 1))) r (aTake R p.toNatClampNeg q.toNatClampNeg))) : f_X13_doTake p q (uR M r R) K := by
  unfold f_X13_doTake
  have n5 := w.nb5
  have n30 := w.no30
  refine m_isBarge hr w.ix ?_
  refine bF (fun hp => ?_) (fun hp => h1 (by rw [hp]; rfl))
  refine m_isOrder hr w.ix ?_
  refine bT (fun hq => ?_) (fun hq => h1 (by rw [hq, Bool.and_false]))
  obtain ⟨b, hb, rfl⟩ := inR_of (by omega) hp
  obtain ⟨o, ho, rfl⟩ := inR_of (by omega) hq
  unfold okT at h0 h2
  rw [hp, hq, nI_clamp (by omega), nI_clamp (by omega)] at h0 h2
  refine m_isIn hr rfl (by omega) ?_
  refine pF (fun c1 => ?_) (fun c1 => h2 rfl (by rw [decide_eq_false c1]; rfl))
  refine m_cOf hr w.ix ?_
  refine m_cOf hr w.ix ?_
  have h4 := w.2.2.2.2.1 b hb
  have ch := cOf_held R b
  rw [nI_add, show (4 : Int32) = nI 4 from rfl, nI_eq (by omega) (by decide)]
  refine ⟨fun c2 => ?_, fun c2 => h2 rfl (by rw [decide_eq_false (show ¬ held R b < 4 by omega), Bool.and_false]; rfl)⟩
  replace h0 := h0 (by rw [decide_eq_true c1, decide_eq_true (show held R b < 4 by omega)]; rfl)
  refine m_layO hr rfl (f := 4) rfl (by omega) (by decide) ?_
  refine m_layO hr rfl (f := 5) rfl (by omega) (by decide) ?_
  refine ⟨hr.v _, vv8, ?_⟩
  rw [hr.rd (x := 8) (i := 8) rfl (by decide)]
  refine m_layO hr rfl (f := 8) rfl (by omega) (by decide) ?_
  refine ⟨hr.v _, vv8, vv8, ?_⟩
  intro M26 e26
  rw [hr.rd (x := 8) (i := 8) rfl (by decide), hr.c, show ((8 : Int32)).toNatClampNeg = 8 from rfl, u2_uR] at e26
  have e1 : upd (sO (sO (sO R o 4 1) o 5 (nI b)) o 8 ((sO (sO R o 4 1) o 5 (nI b)) 8)) 8 ((sO (sO (sO R o 4 1) o 5 (nI b)) o 8 ((sO (sO R o 4 1) o 5 (nI b)) 8)) 8 + 1) = aTake R b o := by
    have e2 : (sO (sO R o 4 1) o 5 (nI b)) 8 = R 8 := by simp (disch := omega) only [sO, up_n]
    rw [e2, show (sO (sO (sO R o 4 1) o 5 (nI b)) o 8 (R 8)) 8 = R 8 by simp (disch := omega) only [sO, up_n]]
    rfl
  rw [e26, e1]
  refine m_cOf hr (wf_take w hT hb ho c1 (by omega)).ix ?_
  intro M29 e29
  rw [e29, u2_sw hr.lt]
  exact h0
end TAKEDROP
