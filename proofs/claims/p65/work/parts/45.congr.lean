/-! what stays when only a part of a row changes -/
def SOr (R R' : Nat → Int32) : Prop := R' 3 = R 3 ∧ ∀ o, o < no R → ∀ f, f < 9 → og R' o f = og R o f
def SBa (R R' : Nat → Int32) : Prop := R' 2 = R 2 ∧ ∀ b, b < nb R → ∀ f, f < 7 → bg R' b f = bg R b f
def FrC (c : Nat) (M M' : TM) : Prop := ∀ k, (k < c ∨ c + 61 ≤ k) → M' k = M k
theorem FrC.refl (c : Nat) (M : TM) : FrC c M M := fun _ _ => rfl
theorem FrC.trans {c : Nat} {M M1 M2 : TM} (h : FrC c M M1) (h2 : FrC c M1 M2) : FrC c M M2 := fun k hk => (h2 k hk).trans (h k hk)
theorem FrC.u2 {c k j : Nat} {v : Int32} {M : TM} (h1 : c ≤ k) (h2 : k < c + 61) : FrC c M (u2 M k j v) := fun i hi => uR_n (by omega)
theorem FrC.uR {c k : Nat} {r : Nat → Int32} {M : TM} (h1 : c ≤ k) (h2 : k < c + 61) : FrC c M (uR M k r) := fun i hi => uR_n (by omega)
section CONGR
variable {M M' : TM} {c T k : Nat} {R R' : Nat → Int32} {b o f j : Nat} {s : Int32} {l : List Nat}
theorem SOr.eN (h : SOr R R') : no R' = no R := by unfold no; rw [h.1]
theorem SBa.eN (h : SBa R R') : nb R' = nb R := by unfold nb; rw [h.1]
theorem SOr.eBel (h : SOr R R') (ho : o < no R) (b s : Int32) : bel R' o b s = bel R o b s := by unfold bel; rw [h.2 o ho 4 (by decide), h.2 o ho 5 (by decide)]
theorem SOr.eCIn (h : SOr R R') (s : Int32) : cIn R' s = cIn R s := by
  unfold cIn
  rw [h.eN]
  exact cn_congr _ (fun k hk => by rw [h.2 k hk 4 (by decide)])
theorem SOr.eHeld (h : SOr R R') (b : Nat) : held R' b = held R b := by
  unfold held
  rw [h.eN]
  exact cn_congr _ (fun k hk => by rw [h.eBel hk, h.eBel hk])
theorem SOr.isQ (h : SOr R R') (hq : IsQ R b l) : IsQ R' b l := by
  refine ⟨hq.1.imp_of_mem (fun {x y} hx hy hxy => ?_), fun o => ?_⟩
  · rw [h.2 x ((hq.2 x).1 hx).1 8 (by decide), h.2 y ((hq.2 y).1 hy).1 8 (by decide)]; exact hxy
  · rw [hq.2 o, h.eN]
    exact ⟨fun ⟨h1, h2⟩ => ⟨h1, by rw [h.eBel h1]; exact h2⟩, fun ⟨h1, h2⟩ => ⟨h1, by rw [h.eBel h1] at h2; exact h2⟩⟩
theorem SOr.wt (h : SOr R R') (w : WT R) : WT R' := fun o q ho hq => by
  rw [h.eN] at ho hq
  rw [h.2 o ho 4 (by decide), h.2 q hq 4 (by decide), h.2 o ho 8 (by decide), h.2 q hq 8 (by decide)]
  exact w o q ho hq
theorem SBa.eInL (h : SBa R R') (hb : b < nb R) : inL R' b = inL R b := by unfold inL; rw [h.2 b hb 6 (by decide)]
theorem SBa.eAh (h : SBa R R') (hb : b < nb R) : ahead R' b = ahead R b := by unfold ahead; rw [h.2 b hb 1 (by decide), h.2 b hb 0 (by decide)]
theorem who_congr (hn : nb R' = nb R) (hi : ∀ b, b < nb R → (inL R' b && decide (ahead R' b = s)) = (inL R b && decide (ahead R b = s))) : who R' s = who R s := by
  unfold who
  rw [hn]
  exact ff_congr hi
theorem SBa.eWho (h : SBa R R') (s : Int32) : who R' s = who R s := who_congr h.eN (fun b hb => by rw [h.eInL hb, h.eAh hb])
theorem SBa.wl (h : SBa R R') (w : WL R) : WL R' := fun b d hb hd => by
  rw [h.eN] at hb hd
  rw [h.eInL hb, h.eInL hd, h.eAh hb, h.eAh hd]
  exact w b d hb hd
theorem WB.congr (h : WB R b) (h1 : R' 1 = R 1) (hR : ∀ f, f < 7 → bg R' b f = bg R b f) : WB R' b := by
  unfold WB at h ⊢
  rw [hR 0 (by decide), hR 1 (by decide), hR 6 (by decide), show np R' = np R by unfold np; rw [h1]]
  exact h
theorem WO.congr (h : WO R o) (h1 : R' 1 = R 1) (h2 : R' 2 = R 2) (h8 : (R 8).toNatClampNeg ≤ (R' 8).toNatClampNeg) (hR : ∀ f, f < 9 → og R' o f = og R o f) : WO R' o := by
  unfold WO at h ⊢
  rw [hR 0 (by decide), hR 4 (by decide), hR 5 (by decide), hR 6 (by decide), hR 8 (by decide), show np R' = np R by unfold np; rw [h1], show nb R' = nb R by unfold nb; rw [h2]]
  obtain ⟨p, s, a1, a2, a3, a4, a5, a6, a7, a8⟩ := h
  exact ⟨p, s, a1, a2, a3, a4, a5, a6, a7, fun e => by obtain ⟨t, t1, t2⟩ := a8 e; exact ⟨t, by omega, t2⟩⟩
theorem Ba.congr (h : Ba k M R b) (hk : M' k = M k) (hR : ∀ f, f < 7 → bg R' b f = bg R b f) : Ba k M' R' b := by
  unfold Ba at h ⊢
  rw [hk, hR 0 (by decide), hR 1 (by decide), hR 2 (by decide), hR 3 (by decide), hR 4 (by decide), hR 5 (by decide), hR 6 (by decide)]
  exact h
theorem Or.congr (h : Or k M R o) (hk : M' k = M k) (hR : ∀ f, f < 9 → og R' o f = og R o f) : Or k M' R' o := by
  unfold Or at h ⊢
  rw [hk, hR 0 (by decide), hR 1 (by decide), hR 2 (by decide), hR 3 (by decide), hR 4 (by decide), hR 5 (by decide), hR 6 (by decide), hR 7 (by decide)]
  exact h
theorem Qu.congr (h : Qu k M R b) (h8 : M' k 8 = M k 8) (h1 : M' (k + 1) = M (k + 1)) (hQ : ∀ l, IsQ R b l → IsQ R' b l) : Qu k M' R' b := by
  obtain ⟨l, q1, q2, q3⟩ := h
  exact ⟨l, hQ l q1, by rw [h8]; exact q2, by rw [h1]; exact q3⟩
theorem Se.congr (h : Se k M R j) (hk : M' k = M k) (h1 : R' (10 + j) = R (10 + j)) (h2 : R' (25 + j) = R (25 + j)) (hw : who R' (nI j) = who R (nI j)) : Se k M' R' j := by
  unfold Se at h ⊢
  rw [hk, h1, h2, hw]
  exact h
/-- the canal's cells stay: all that is said of them stays -/
theorem RelC.frame (h : RelC c M R) (hM : ∀ k, c ≤ k → k < c + 61 → M' k = M k) (h5 : nb R ≤ 5) (h30 : no R ≤ 30) : RelC c M' R := by
  obtain ⟨h1, h2, h3, h4, h5', h6⟩ := h
  refine ⟨?_, fun j hj => (h2 j hj).congr (hM _ (by omega) (by omega)) rfl rfl rfl, fun j hj => ?_, fun b hb => (h4 b hb).congr (hM _ (by omega) (by omega)) (fun _ _ => rfl), fun b hb => (h5' b hb).congr (by rw [hM _ (by omega) (by omega)]) (hM _ (by omega) (by omega)) (fun _ h => h), fun o ho => (h6 o ho).congr (hM _ (by omega) (by omega)) (fun _ _ => rfl)⟩
  · unfold Sc at h1 ⊢
    rw [hM c (by omega) (by omega)]
    exact h1
  · rw [hM (c + 2) (by omega) (by omega), hM (c + 3) (by omega) (by omega)]
    exact h3 j hj
/-- one barge changes, and accounts: the class's cells -/
theorem RelC.bar (h : RelC c M R) (h5 : nb R ≤ 5) (h30 : no R ≤ 30) (hb : b < nb R) (hR : ∀ i, 72 ≤ i → (i < 72 + 7 * b ∨ 72 + 7 * b + 7 ≤ i) → R' i = R i) (r2 : R' 2 = R 2) (r3 : R' 3 = R 3)
    (hM : ∀ k, c + 21 ≤ k → k < c + 61 → k ≠ c + 21 + 2 * b → M' k = M k) (m8 : M' (c + 21 + 2 * b) 8 = M (c + 21 + 2 * b) 8) (hs : Sc c M' R') (hse : ∀ j, j < 15 → Se (c + 6 + j) M' R' j) (hu : ∀ j, j < 16 → M' (c + 2) j = R' (40 + j) ∧ M' (c + 3) j = R' (56 + j)) (hB : Ba (c + 21 + 2 * b) M' R' b) : RelC c M' R' := by
  have so : SOr R R' := ⟨r3, fun o ho f hf => hR _ (by omega) (by omega)⟩
  have nb' : nb R' = nb R := by unfold nb; rw [r2]
  refine ⟨hs, hse, hu, fun d hd => ?_, fun d hd => ?_, fun o ho => ?_⟩
  · rw [nb'] at hd
    by_cases e : d = b
    · rw [e]; exact hB
    · exact (h.2.2.2.1 d hd).congr (hM _ (by omega) (by omega) (by omega)) (fun f hf => hR _ (by omega) (by omega))
  · rw [nb'] at hd
    refine (h.2.2.2.2.1 d hd).congr ?_ (hM _ (by omega) (by omega) (by omega)) (fun l hl => so.isQ hl)
    by_cases e : d = b
    · rw [e]; exact m8
    · rw [hM _ (by omega) (by omega) (by omega)]
  · rw [so.eN] at ho
    exact (h.2.2.2.2.2 o ho).congr (hM _ (by omega) (by omega) (by omega)) (fun f hf => hR _ (by omega) (by omega))
/-- one barge changes: what holds of every row -/
theorem WF.bar (w : WF T R) (hb : b < nb R) (hR : ∀ i, 72 ≤ i → (i < 72 + 7 * b ∨ 72 + 7 * b + 7 ≤ i) → R' i = R i) (h0 : R' 0 = R 0) (h1 : R' 1 = R 1) (h2 : R' 2 = R 2) (h3 : R' 3 = R 3) (h6 : R' 6 = R 6) (h8 : R' 8 = R 8) (hl : ∀ j, j < 15 → R' (10 + j) = R (10 + j)) (hu : ∀ j, np R ≤ j → j < 16 → R' (40 + j) = 0 ∧ R' (56 + j) = 0) (hB : WB R' b) (hL : WL R') : WF T R' := by
  have n5 := w.nb5
  have n30 := w.no30
  have so : SOr R R' := ⟨h3, fun o ho f hf => hR _ (by omega) (by omega)⟩
  have nb' : nb R' = nb R := by unfold nb; rw [h2]
  have np' : np R' = np R := by unfold np; rw [h1]
  obtain ⟨⟨⟨⟨a1, a2⟩, ⟨a3, a4⟩, a5, a6⟩, a7, a8, a9, a10, a11, a12, a13⟩, b1, b2, b3, b4, b5⟩ := w
  refine ⟨⟨⟨⟨by rw [h1, np']; exact a1, by rw [np']; exact a2⟩, ⟨by rw [h2, nb']; exact a3, by rw [nb']; exact a4⟩, by rw [h3, so.eN]; exact a5, by rw [so.eN]; exact a6⟩, by rw [np']; exact a7, trivial, by rw [h0]; exact a9, by rw [h8]; exact a10, by rw [h6, so.eCIn]; exact a11, fun j hj => by rw [hl j hj]; exact a12 j hj, by rw [np']; exact hu⟩, fun d hd => ?_, fun o ho => ?_, hL, fun d hd => ?_, so.wt b5⟩
  · rw [nb'] at hd
    by_cases e : d = b
    · rw [e]; exact hB
    · exact (b1 d hd).congr h1 (fun f hf => hR _ (by omega) (by omega))
  · rw [so.eN] at ho
    exact (b2 o ho).congr h1 h2 (by rw [h8]; exact Nat.le_refl _) (fun f hf => hR _ (by omega) (by omega))
  · rw [nb'] at hd
    rw [so.eHeld]
    exact b4 d hd
end CONGR
