/-! the queue of a barge; orders that come and go -/
theorem cn_mono {p q : Nat → Bool} : ∀ n, (∀ k, k < n → p k = true → q k = true) → cn p n ≤ cn q n := by
  intro n
  induction n with
  | zero => intro _; exact Nat.le_refl _
  | succ n ih =>
    intro h
    have := ih (fun k hk => h k (by omega))
    unfold cn
    cases hp : p n with
    | false => simp; omega
    | true => rw [h n (by omega) hp]; simp; omega
theorem cn_le1 {p q : Nat → Bool} : ∀ n i, (∀ k, k < n → k ≠ i → p k = q k) → cn p n ≤ cn q n + 1 := by
  intro n
  induction n with
  | zero => intro i _; exact Nat.zero_le _
  | succ n ih =>
    intro i h
    unfold cn
    by_cases e : i = n
    · rw [cn_congr n (fun k hk => h k (by omega) (by omega))]
      split <;> split <;> omega
    · have := ih i (fun k hk hne => h k (by omega) hne)
      rw [h n (by omega) (fun e' => e e'.symm)]
      omega
section QUEUE
variable {M M' : TM} {r c T k : Nat} {R R' : Nat → Int32} {K : Int32 → TM → Prop} {KV : TM → Prop} {p q u s : Int32} {b d o f j a t : Nat} {l : List Nat}
theorem IsQ.same (hn : no R' = no R) (hb : ∀ x, x < no R → bel R' x (nI d) 1 = bel R x (nI d) 1) (h8 : ∀ x, x < no R → bel R x (nI d) 1 = true → og R' x 8 = og R x 8) (h : IsQ R d l) : IsQ R' d l := by
  refine ⟨h.1.imp_of_mem (fun {x y} hx hy hxy => ?_), fun x => ?_⟩
  · have a1 := (h.2 x).1 hx
    have a2 := (h.2 y).1 hy
    rw [h8 x a1.1 a1.2, h8 y a2.1 a2.2]; exact hxy
  · rw [h.2 x, hn]
    exact ⟨fun ⟨h1, h2⟩ => ⟨h1, by rw [hb x h1]; exact h2⟩, fun ⟨h1, h2⟩ => ⟨h1, by rw [hb x h1] at h2; exact h2⟩⟩
theorem IsQ.del (hn : no R' = no R) (hb : ∀ x, x < no R → bel R' x (nI d) 1 = (bel R x (nI d) 1 && decide (x ≠ o))) (h8 : ∀ x, x < no R → x ≠ o → og R' x 8 = og R x 8) (h : IsQ R d l) : IsQ R' d (l.filter (fun x => decide (x ≠ o))) := by
  refine ⟨(h.1.filter _).imp_of_mem (fun {x y} hx hy hxy => ?_), fun x => ?_⟩
  · have a1 := List.mem_filter.1 hx
    have a2 := List.mem_filter.1 hy
    rw [h8 x ((h.2 x).1 a1.1).1 (of_decide_eq_true a1.2), h8 y ((h.2 y).1 a2.1).1 (of_decide_eq_true a2.2)]; exact hxy
  · rw [List.mem_filter, h.2 x, hn]
    constructor
    · rintro ⟨⟨h1, h2⟩, h3⟩
      exact ⟨h1, by rw [hb x h1, h2, h3]; rfl⟩
    · rintro ⟨h1, h2⟩
      rw [hb x h1, Bool.and_eq_true] at h2
      exact ⟨⟨h1, h2.1⟩, h2.2⟩
theorem c_enqueue (hl : l.length < 4) (h8 : M k 8 = nI l.length) (h1 : ∀ (i : Nat) (h : i < l.length), M (k + 1) i = nI l[i]) (hK : ∀ M', (∀ i, i ≠ k → i ≠ k + 1 → M' i = M i) → (∀ j, j ≠ 8 → M' k j = M k j) → M' k 8 = nI (l ++ [o]).length → (∀ (i : Nat) (h : i < (l ++ [o]).length), M' (k + 1) i = nI (l ++ [o])[i]) → KV M') : f_X1_enqueue k (nI o) M KV := by
  unfold f_X1_enqueue
  rw [h8]
  refine cN' (nI_ge (b := 4) hl (by decide)) ⟨vp_in_nI (by omega) (by decide), ?_⟩
  intro M3 e3 M4 e4
  rw [nI_clamp (by omega)] at e3
  subst e4
  subst e3
  refine hK _ (fun i h1 h2 => by rw [u2_n h1, u2_n h2]) (fun j hj => by rw [u2_f hj, u2_n (by omega)]) ?_ (fun i hi => ?_)
  · rw [u2_s, u2_n (by omega), h8, nI_1, List.length_append]; rfl
  · rw [u2_n (by omega), List.getElem_append]
    split
    · rename_i h; rw [u2_f (by omega)]; exact h1 i h
    · rw [List.length_append] at hi
      have : i = l.length := by simp at hi; omega
      subst this
      rw [u2_s]
      simp
theorem c_unqueue (hl : l.length ≤ 4) (ho : o < 30) (hlt : ∀ x ∈ l, x < 30) (h8 : M k 8 = nI l.length) (h1 : ∀ (i : Nat) (h : i < l.length), M (k + 1) i = nI l[i]) (hK : ∀ M', (∀ i, i ≠ k → i ≠ k + 1 → M' i = M i) → (∀ j, j ≠ 8 → M' k j = M k j) → M' k 8 = nI (l.filter (fun x => decide (x ≠ o))).length → (∀ (i : Nat) (h : i < (l.filter (fun x => decide (x ≠ o))).length), M' (k + 1) i = nI (l.filter (fun x => decide (x ≠ o)))[i]) → KV M') : f_X1_unqueue k (nI o) M KV := by
  unfold f_X1_unqueue
  have fl : ∀ i, ((l.take i).filter (fun x => decide (x ≠ o))).length ≤ i := fun i => Nat.le_trans (List.length_filter_le _ _) (by rw [List.length_take]; omega)
  refine ⟨_, inv_loop (fun n (a : Int32 × TM) i => f_X1_unqueue_L4 k (nI o) KV n (nI o) a.1 (nI i) a.2) (fun i s => s.1 = nI ((l.take i).filter (fun x => decide (x ≠ o))).length ∧ (∀ x, x ≠ k + 1 → s.2 x = M x) ∧ (∀ x, i ≤ x → s.2 (k + 1) x = M (k + 1) x) ∧ ∀ (x : Nat) (h : x < ((l.take i).filter (fun x => decide (x ≠ o))).length), s.2 (k + 1) x = nI ((l.take i).filter (fun x => decide (x ≠ o)))[x]) l.length (fun n s hs => ?_) (fun n s i hi hs hL => ?_) l.length 0 (0, M) (Nat.zero_add _) ⟨rfl, fun _ _ => rfl, fun _ _ => rfl, fun x h => absurd h (Nat.not_lt_zero _)⟩⟩
  · obtain ⟨s1, s2⟩ := s
    obtain ⟨e1, e2, e3, e4⟩ := hs
    dsimp only at e1 e2 e3 e4 ⊢
    rw [f_X1_unqueue_L4, e2 k (by omega), h8]
    refine cT' (nI_le (Nat.le_refl _) (by omega)) ?_
    intro M2 eM
    subst eM
    rw [List.take_length] at e1 e4
    refine hK _ (fun i h1 h2 => by rw [u2_n h1, e2 i h2]) (fun j hj => by rw [u2_f hj, e2 k (by omega)]) (by rw [u2_s, e1]) (fun i hi => by rw [u2_n (by omega)]; exact e4 i hi)
  · obtain ⟨s1, s2⟩ := s
    obtain ⟨e1, e2, e3, e4⟩ := hs
    dsimp only at e1 e2 e3 e4 ⊢
    rw [f_X1_unqueue_L4, e2 k (by omega), h8]
    have tk : l.take (i + 1) = l.take i ++ [l[i]] := List.take_succ_eq_append_getElem hi
    have fi := fl i
    refine cN' (nI_ge hi (by omega)) (cN' (nI_ge (b := 4) (by omega) (by decide)) ⟨vp_in_nI (by omega) (by decide), ?_⟩)
    rw [nI_clamp (by omega), e3 i (Nat.le_refl _), h1 i hi, nI_1, nI_eq (by have := hlt _ (List.getElem_mem hi); omega) (by omega)]
    refine ⟨fun c1 => hL (s1, s2) ?_, fun c1 => ⟨vp_in_nI (by omega) (by decide), by rw [e1]; exact vp_in_nI (by omega) (by decide), ?_⟩⟩
    · have ef : (l.take (i + 1)).filter (fun x => decide (x ≠ o)) = (l.take i).filter (fun x => decide (x ≠ o)) := by
        rw [tk, List.filter_append]; simp [c1]
      dsimp only
      rw [ef]
      exact ⟨e1, e2, fun x hx => e3 x (by omega), e4⟩
    · intro M9 e9
      have ef : (l.take (i + 1)).filter (fun x => decide (x ≠ o)) = (l.take i).filter (fun x => decide (x ≠ o)) ++ [l[i]] := by
        rw [tk, List.filter_append]; simp [c1]
      refine hL (s1 + 1, M9) ?_
      dsimp only
      rw [ef]
      rw [e1, nI_clamp (by omega)] at e9
      subst e9
      refine ⟨by rw [e1, nI_1, List.length_append]; rfl, fun x hx => by rw [u2_n hx, e2 x hx], fun x hx => by rw [u2_f (by omega)]; exact e3 x (by omega), fun x hx => ?_⟩
      rw [List.getElem_append]
      split
      · rename_i h; rw [u2_f (by omega)]; exact e4 x h
      · have hx' := hx
        rw [List.length_append, List.length_singleton] at hx'
        have : x = ((l.take i).filter (fun x => decide (x ≠ o))).length := by omega
        subst this
        rw [u2_s]
        simp
theorem Ba.congr7 (h : Ba k M R b) (hk : ∀ f, f < 7 → M' k f = M k f) (hR : ∀ f, f < 7 → bg R' b f = bg R b f) : Ba k M' R' b := by
  unfold Ba at h ⊢
  rw [hk 0 (by decide), hk 1 (by decide), hk 2 (by decide), hk 3 (by decide), hk 4 (by decide), hk 5 (by decide), hk 6 (by decide), hR 0 (by decide), hR 1 (by decide), hR 2 (by decide), hR 3 (by decide), hR 4 (by decide), hR 5 (by decide), hR 6 (by decide)]
  exact h
theorem SBa.of (h5 : nb R ≤ 5) (r2 : R' 2 = R 2) (hR : ∀ i, 72 ≤ i → i < 107 → R' i = R i) : SBa R R' := ⟨r2, fun d hd f hf => hR _ (by omega) (by omega)⟩
/-- one order changes, and queues, and accounts: the class's cells -/
theorem RelC.ord (h : RelC c M R) (h5 : nb R ≤ 5) (h30 : no R ≤ 30) (hR : ∀ i, 72 ≤ i → (i < 107 + 9 * o ∨ 107 + 9 * o + 9 ≤ i) → R' i = R i) (r2 : R' 2 = R 2) (r3 : R' 3 = R 3)
    (hl : ∀ j, j < 15 → R' (10 + j) = R (10 + j) ∧ R' (25 + j) = R (25 + j)) (hu : ∀ j, j < 16 → R' (40 + j) = R (40 + j) ∧ R' (56 + j) = R (56 + j))
    (hM : ∀ k, c + 2 ≤ k → k < c + 21 → M' k = M k) (hb : ∀ d, d < nb R → ∀ f, f < 7 → M' (c + 21 + 2 * d) f = M (c + 21 + 2 * d) f) (hQ : ∀ d, d < nb R → Qu (c + 21 + 2 * d) M' R' d) (ho : ∀ x, x < no R → x ≠ o → M' (c + 31 + x) = M (c + 31 + x)) (hs : Sc c M' R') (hO : o < no R → Or (c + 31 + o) M' R' o) : RelC c M' R' := by
  have sb : SBa R R' := SBa.of h5 r2 (fun i h1 h2 => hR i h1 (by omega))
  have no' : no R' = no R := by unfold no; rw [r3]
  refine ⟨hs, fun j hj => (h.2.1 j hj).congr (hM _ (by omega) (by omega)) (hl j hj).1 (hl j hj).2 (sb.eWho _), fun j hj => ?_, fun d hd => ?_, fun d hd => ?_, fun x hx => ?_⟩
  · rw [hM (c + 2) (by omega) (by omega), hM (c + 3) (by omega) (by omega), (hu j hj).1, (hu j hj).2]
    exact h.2.2.1 j hj
  · rw [sb.eN] at hd
    exact (h.2.2.2.1 d hd).congr7 (hb d hd) (sb.2 d hd)
  · rw [sb.eN] at hd
    exact hQ d hd
  · rw [no'] at hx
    by_cases e : x = o
    · subst e; exact hO hx
    · exact (h.2.2.2.2.2 x hx).congr (ho x hx e) (fun f hf => hR _ (by omega) (by omega))
theorem WF.ord {U : Nat} (w : WF T R) (hR : ∀ i, 72 ≤ i → (i < 107 + 9 * o ∨ 107 + 9 * o + 9 ≤ i) → R' i = R i) (h0 : R' 0 = R 0) (h1 : R' 1 = R 1) (h2 : R' 2 = R 2) (h3 : R' 3 = R 3) (h8 : ∃ t, t ≤ U ∧ R' 8 = nI t ∧ (R 8).toNatClampNeg ≤ (R' 8).toNatClampNeg) (hl : ∀ j, j < 15 → R' (10 + j) = R (10 + j)) (hu : ∀ j, j < 16 → R' (40 + j) = R (40 + j) ∧ R' (56 + j) = R (56 + j)) (h6 : R' 6 = nI (cIn R' 4)) (hO : WO R' o) (hh : ∀ b, b < nb R → held R' b ≤ 4) (hT : WT R') : WF U R' := by
  have n5 := w.nb5
  have n30 := w.no30
  have sb : SBa R R' := SBa.of n5 h2 (fun i h1 h2 => hR i h1 (by omega))
  have no' : no R' = no R := by unfold no; rw [h3]
  have np' : np R' = np R := by unfold np; rw [h1]
  obtain ⟨⟨⟨⟨a1, a2⟩, ⟨a3, a4⟩, a5, a6⟩, a7, a8, a9, a10, a11, a12, a13⟩, b1, b2, b3, b4, b5⟩ := w
  obtain ⟨t, t1, t2, t3⟩ := h8
  refine ⟨⟨⟨⟨by rw [h1, np']; exact a1, by rw [np']; exact a2⟩, ⟨by rw [h2, sb.eN]; exact a3, by rw [sb.eN]; exact a4⟩, by rw [h3, no']; exact a5, by rw [no']; exact a6⟩, by rw [np']; exact a7, trivial, by rw [h0]; exact a9, ⟨t, t1, t2⟩, h6, fun j hj => by rw [hl j hj]; exact a12 j hj, fun j hj1 hj2 => by rw [np'] at hj1; rw [(hu j hj2).1, (hu j hj2).2]; exact a13 j hj1 hj2⟩, fun d hd => ?_, fun x hx => ?_, sb.wl b3, fun d hd => ?_, hT⟩
  · rw [sb.eN] at hd
    exact (b1 d hd).congr h1 (sb.2 d hd)
  · rw [no'] at hx
    by_cases e : x = o
    · subst e; exact hO
    · exact (b2 x hx).congr h1 h2 t3 (fun f hf => hR _ (by omega) (by omega))
  · rw [sb.eN] at hd
    exact hh d hd
/-- an order is taken out of its barge's queue -/
theorem c_remQ (w : WF T R) (h : RelC c M R) (ho : o < no R) (h0 : og R o 5 = -1 → KV M) (h1 : ∀ b, b < nb R → og R o 5 = nI b → ∀ M', (∀ i, i ≠ c + 21 + 2 * b → i ≠ c + 21 + 2 * b + 1 → M' i = M i) → (∀ j, j ≠ 8 → M' (c + 21 + 2 * b) j = M (c + 21 + 2 * b) j) → (∀ R' : Nat → Int32, no R' = no R → (∀ x, x < no R → bel R' x (nI b) 1 = (bel R x (nI b) 1 && decide (x ≠ o))) → (∀ x, x < no R → x ≠ o → og R' x 8 = og R x 8) → ∀ M2 : TM, M2 (c + 21 + 2 * b) 8 = M' (c + 21 + 2 * b) 8 → M2 (c + 21 + 2 * b + 1) = M' (c + 21 + 2 * b + 1) → Qu (c + 21 + 2 * b) M2 R' b) → KV M') : f_X2_removeFromQueue c (nI o) M KV := by
  unfold f_X2_removeFromQueue
  have n5 := w.nb5
  have n30 := w.no30
  refine ⟨vp_in_nI (by omega) (by decide), ?_⟩
  rw [nI_clamp (by omega), (h.2.2.2.2.2 o ho).2.2.2.2.2.2.2]
  refine c_hasBarge w h ?_
  obtain ⟨p, s, a1, a2, a3, a4, a5, a6, a7, a8⟩ := w.2.2.1 o ho
  by_cases e : s = 1 ∨ s = 2
  · obtain ⟨b, hb, e5⟩ := a6 e
    rw [e5, inR_nI hb (by omega)]
    refine bF (fun _ => ⟨vp_in_nI (by omega) (by decide), ?_⟩) (fun c => by cases c)
    rw [nI_clamp (by omega)]
    obtain ⟨l, q1, q2, q3⟩ := h.2.2.2.2.1 b hb
    refine c_unqueue (qlen4 w hb q1) (by omega) (fun x hx => by have := ((q1.2 x).1 hx).1; omega) q2 q3 (fun M' m1 m2 m3 m4 => ?_)
    exact h1 b hb e5 M' m1 m2 (fun R' r1 r2 r3 M2 x1 x2 => ⟨_, q1.del r1 r2 r3, by rw [x1]; exact m3, by rw [x2]; exact m4⟩)
  · rw [a7 e, inR_m1]
    exact bF (fun c => by cases c) (fun _ => h0 (a7 e))
end QUEUE
