/-! p65: the world grows by a row of numbers -/
theorem cel_eqv {tc : Nat → ClassId} {ad ad' : Nat → Nat} {k : Nat} {R : Nat → Int32} (hn : 702 ≤ nW ad) (hk : k < nW ad) (h : ∀ i, i < nW ad ∨ (1701 ≤ i ∧ i < 1000 + nW ad) ∨ 2000 ≤ i → ad' i = ad i) (h5 : k = 0 → (R 5).toNatClampNeg ≤ 10 ∧ (R 6).toNatClampNeg ≤ 10) : Eqv (cel tc ad k R) (cel tc ad' k R) := by
  have arr : ∀ (f g : Nat → Nat) (n : Nat) (t : ClassId), (∀ j, j < n → g j = f j) → Eqv (ars f n t) (ars g n t) := fun f g n t e => Or.inr ⟨t, n, _, _, rfl, rfl, fun j hj => by rw [e j hj]⟩
  have same : ∀ x y : va_E, y = x → Eqv x y := fun x y e => Or.inl e.symm
  have mid : 27 ≤ k → k < 698 → Eqv (cel tc ad k R) (cel tc ad' k R) := fun a1 a2 => by
    rw [cel_mid tc ad a1 a2, cel_mid tc ad' a1 a2]
    obtain ⟨r, er⟩ : ∃ r, r = (k - 27) % 61 := ⟨_, rfl⟩
    rw [← er]
    have hr : r < 61 := by omega
    unfold celC
    by_cases r0 : r = 0
    · rw [if_pos r0, if_pos r0]
      refine same _ _ ?_
      unfold eCanal
      rw [h (k + 1) (by omega), h (k + 2) (by omega), h (k + 3) (by omega), h (k + 4) (by omega), h (k + 5) (by omega)]
    rw [if_neg r0, if_neg r0]
    by_cases r1 : r = 1
    · rw [if_pos r1, if_pos r1]
      exact arr _ _ _ _ (fun j hj => h _ (by omega))
    rw [if_neg r1, if_neg r1]
    by_cases r2 : r = 2
    · rw [if_pos r2, if_pos r2]
      exact Eqv.rf _
    rw [if_neg r2, if_neg r2]
    by_cases r3 : r = 3
    · rw [if_pos r3, if_pos r3]
      exact Eqv.rf _
    rw [if_neg r3, if_neg r3]
    by_cases r4 : r = 4
    · rw [if_pos r4, if_pos r4]
      exact arr _ _ _ _ (fun j hj => h _ (by omega))
    rw [if_neg r4, if_neg r4]
    by_cases r5 : r = 5
    · rw [if_pos r5, if_pos r5]
      exact arr _ _ _ _ (fun j hj => h _ (by omega))
    rw [if_neg r5, if_neg r5]
    by_cases r21 : r < 21
    · rw [if_pos r21, if_pos r21]
      exact Eqv.rf _
    rw [if_neg r21, if_neg r21]
    by_cases r31 : r < 31
    · rw [if_pos r31, if_pos r31]
      by_cases ro : r % 2 = 1
      · rw [if_pos ro, if_pos ro]
        refine same _ _ ?_
        unfold eBarge
        rw [h (k + 1) (by omega)]
      · rw [if_neg ro, if_neg ro]
        exact Eqv.rf _
    rw [if_neg r31, if_neg r31]
    refine same _ _ ?_
    unfold eOrder
    rw [h (2000 + (R 6).toNatClampNeg) (by omega)]
  by_cases k27 : 27 ≤ k
  · by_cases k698 : k < 698
    · exact mid k27 k698
    · by_cases k702 : 702 ≤ k
      · rw [cel_kept tc ad k702, cel_kept tc ad' k702]
        refine same _ _ ?_
        rw [h (1000 + k) (by omega)]
      · have hk' : k = 698 ∨ k = 699 ∨ k = 700 ∨ k = 701 := by omega
        rcases hk' with rfl | rfl | rfl | rfl
        · exact Eqv.rf _
        · exact Eqv.rf _
        · rw [cel_700, cel_700]
          refine same _ _ ?_
          unfold eStr
          rw [h 701 (by omega)]
        · rw [cel_701, cel_701]
          refine same _ _ ?_
          rw [h 1701 (by omega)]
  · by_cases k5 : 5 ≤ k ∧ k < 25
    · rw [cel_cmd tc ad (show IsCmd k from k5), cel_cmd tc ad' (show IsCmd k from k5)]
      refine same _ _ ?_
      unfold eCommand
      rw [h (2100 + (R 0).toNatClampNeg) (by omega)]
    · have hk' : k = 0 ∨ k = 1 ∨ k = 2 ∨ k = 3 ∨ k = 4 ∨ k = 25 ∨ k = 26 := by omega
      rcases hk' with rfl | rfl | rfl | rfl | rfl | rfl | rfl
      · have hc := h5 rfl
        rw [cel_0, cel_0]
        refine same _ _ ?_
        unfold eMain
        rw [h 1 (by omega), h 3 (by omega), h 25 (by omega), h 515 (by omega), h (27 + 61 * (R 5).toNatClampNeg) (by omega), h (27 + 61 * (R 6).toNatClampNeg) (by omega), h 698 (by omega)]
      · rw [cel_1, cel_1]
        refine same _ _ ?_
        unfold eText
        rw [h 2 (by omega)]
      · exact Eqv.rf _
      · rw [cel_3, cel_3]
        refine same _ _ ?_
        unfold eScript
        rw [h 4 (by omega)]
      · rw [cel_4, cel_4]
        exact arr _ _ _ _ (fun j hj => h _ (by omega))
      · rw [cel_25, cel_25]
        refine same _ _ ?_
        unfold eHistory
        rw [h 26 (by omega)]
      · rw [cel_26, cel_26]
        exact arr _ _ _ _ (fun j hj => h _ (by omega))
/-- the addresses when a row of len numbers has come at a -/
def adG (ad : Nat → Nat) (a len : Nat) : Nat → Nat := fun i => if i = nW ad then a else if i = 1000 + nW ad then len else if i = 1999 then nW ad + 1 else ad i
section GROW
variable {p : Program} {l : Launch} {e : Env} {R : Room} {s : State} {m : MethodId} {args : Array Value} {below : List Frame} {meth : Method} {c : Code} {cells slots : Nat} {Q : State → Prop} {D : va_G} {tc : Nat → ClassId} {ad : Nat → Nat} {a len nL : Nat} {own : String} {cc : ByteArray} {pc : Nat} {L : List (Nat × Value)} {st : List Value} {M : Nat → Nat → Int32}
theorem adG_o {i : Nat} (h1 : i ≠ nW ad) (h2 : i ≠ 1000 + nW ad) (h3 : i ≠ 1999) : adG ad a len i = ad i := by unfold adG; rw [if_neg h1, if_neg h2, if_neg h3]
theorem adG_n : adG ad a len (nW ad) = a := if_pos rfl
theorem adG_len : adG ad a len (1000 + nW ad) = len := by unfold adG; rw [if_neg (by omega), if_pos rfl]
theorem nW_G (h : nW ad < 999) : nW (adG ad a len) = nW ad + 1 := by
  show adG ad a len 1999 = _
  unfold adG
  rw [if_neg (by omega), if_neg (by omega), if_pos rfl]
theorem A0_G {sz : Nat} (h : nW ad < 999) (ha : sz ≤ a) : ∀ q, A0 (adG ad a len) sz q ↔ A0 ad sz q := by
  intro q
  refine ⟨fun z => ?_, fun z => ?_⟩
  · rcases z with ⟨k, hk, rfl⟩ | z
    · rw [nW_G h] at hk
      by_cases e : k = nW ad
      · subst e
        rw [adG_n]
        exact Or.inr ha
      · rw [adG_o e (by omega) (by omega)]
        exact Or.inl ⟨k, by omega, rfl⟩
    · exact Or.inr z
  · rcases z with ⟨k, hk, rfl⟩ | z
    · exact Or.inl ⟨k, by rw [nW_G h]; omega, by rw [adG_o (by omega) (by omega) (by omega)]⟩
    · exact Or.inr z
theorem Wd_len (tc : Nat → ClassId) (ad : Nat → Nat) (M : Nat → Nat → Int32) : (Wd tc ad M).length = nW ad := by unfold Wd; simp
theorem wd_grow {H : Heap} (hn : 702 ≤ nW ad) (h : nW ad < 999) (h0 : (M 0 5).toNatClampNeg ≤ 10 ∧ (M 0 6).toNatClampNeg ≤ 10) (hP : va_P D vwCl (Wd tc ad M ++ [(a, .inl (tc 1, len, .inl (fun _ => 0)))]) H) : va_P D vwCl (Wd tc (adG ad a len) (uR M (nW ad) (fun _ => 0))) H := by
  intro k q hk
  obtain ⟨hl, rfl⟩ := Wd_inv hk
  rw [nW_G h] at hl
  by_cases e : k = nW ad
  · subst e
    have h1 := hP (nW ad) _ (by rw [List.getElem?_append_right (by rw [Wd_len]; exact Nat.le_refl _), Wd_len, Nat.sub_self]; rfl)
    rw [adG_n, uR_s, cel_kept tc _ hn, adG_len]
    exact h1
  · have h1 := hP k _ (by rw [List.getElem?_append_left (by rw [Wd_len]; omega)]; exact Wd_at tc ad M (by omega))
    rw [adG_o e (by omega) (by omega), uR_n e]
    exact va_at_eqv (cel_eqv hn (by omega) (fun i hi => adG_o (by omega) (by omega) (by omega)) (fun e0 => by subst e0; exact h0)) h1
theorem inj_grow {A : Nat → Prop} (h : nW ad < 999) (hD : va_D A (Wd tc ad M ++ [(a, .inl (tc 1, len, .inl (fun _ => 0)))])) : Inj (adG ad a len) := by
  have at' : ∀ k, k < nW ad + 1 → ∃ x, (Wd tc ad M ++ [(a, .inl (tc 1, len, .inl (fun _ => 0)))])[k]? = some (adG ad a len k, x) := fun k hk => by
    by_cases e : k = nW ad
    · subst e
      exact ⟨_, by rw [List.getElem?_append_right (by rw [Wd_len]; exact Nat.le_refl _), Wd_len, Nat.sub_self, adG_n]; rfl⟩
    · exact ⟨_, by rw [List.getElem?_append_left (by rw [Wd_len]; omega), adG_o e (by omega) (by omega)]; exact Wd_at tc ad M (by omega)⟩
  intro i j hi hj e
  rw [nW_G h] at hi hj
  obtain ⟨x, hx⟩ := at' i hi
  obtain ⟨y, hy⟩ := at' j hj
  exact hD.1 i j _ _ hx hy e
theorem ev_grow (E : Ev p s m args meth c D tc ad own cc nL) (h : nW ad < 999) (ha : s.heap.size ≤ a) (hI : Inj (adG ad a len)) : Ev p s m args meth c D tc (adG ad a len) own cc nL := by
  refine ⟨E.1, E.2.1, E.2.2.1, E.2.2.2.1, E.2.2.2.2.1, E.2.2.2.2.2.1, hI, ?_, E.2.2.2.2.2.2.2.2.1, by rw [nW_G h]; exact Nat.le_succ_of_le E.2.2.2.2.2.2.2.2.2⟩
  exact St_up2 (fun i hi => adG_o (by omega) (by omega) (by omega)) (E.2.2.2.2.2.2.2.1.narrow (fun q hq => (A0_G h ha q).mp hq))
/-- a new row of numbers -/
theorem ra_newaG (E : Ev p s m args meth c D tc ad own cc nL) (hn : 702 ≤ nW ad) (h : nW ad < 999) (h0 : (M 0 5).toNatClampNeg ≤ 10 ∧ (M 0 6).toNatClampNeg ≤ 10) {z : Int32} (hz : z = nI len) (hl : len ≤ 1000) (hcs : cells + 1 ≤ R.cells ∧ slots + len ≤ R.slots) (d : decode cc pc = .ok (.newarray .int, 2)) (kk : ∀ q, s.heap.size ≤ q → Ev p s m args meth c D tc (adG ad q len) own cc nL → Wa p l e R s m args below meth c (cells + 1) (slots + len) Q D tc (adG ad q len) nL (uR M (nW ad) (fun _ => 0)) (pc + 2) L (.ref q :: st)) : Wa p l e R s m args below meth c cells slots Q D tc ad nL M pc L (.int z :: st) := fun H locs ls hP hS hL => by
  subst hz
  refine va_newa (atype := .int) (ty := .int) (a0 := (len, .inl (fun _ => 0))) E.1 E.2.1 (E.2.2.2.2.1 _ jr_int) rfl E.2.2.2.2.2.1 hP (Wd_D M _ E.2.2.2.2.2.2.1) hS (fun q hq => Or.inr hq) (fun cA => rfl) (nI_pos (by omega)) (nI_clamp (by omega)) (Nat.le_trans (Nat.mul_le_mul_left _ (by decide)) (show len * 8 ≤ 536870912 by omega)) hcs.1 hcs.2 d (fun q cA H1 hK1 hP1 hD1 hS1 => ?_)
  have hc := tc_eq (t := 1) hK1 rfl
  subst hc
  have hI := inj_grow h hD1
  have hq : s.heap.size ≤ q := by
    have h9 := hD1.2 (nW ad) _ (by rw [List.getElem?_append_right (by rw [Wd_len]; exact Nat.le_refl _), Wd_len, Nat.sub_self]; rfl)
    rcases h9 with ⟨k, hk, e⟩ | h9
    · exfalso
      have h1 := hD1.1 k (nW ad) _ _ (by rw [List.getElem?_append_left (by rw [Wd_len]; exact hk)]; exact Wd_at tc ad M hk) (by rw [List.getElem?_append_right (by rw [Wd_len]; exact Nat.le_refl _), Wd_len, Nat.sub_self]; rfl) e.symm
      omega
    · exact h9
  exact kk q hq (ev_grow E h hq hI) H1 locs ls (wd_grow hn h h0 hP1) (va_S_iff (fun x => (A0_G h hq x).symm) hS1) hL
end GROW
