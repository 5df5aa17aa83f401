/-! p65: the reader over a text that is built as the law builds it: tokens -/
def Sf (T : Nat → Nat) (n p : Nat) (l : List Nat) : Prop := p + l.length = n ∧ ∀ i, i < l.length → T (p + i) = l.getD i 0
def dg (v : Nat) : List Nat := if v < 10 then [48 + v] else [48 + v / 10, 48 + v % 10]
/-- the reader when it has come to the token behind place p -/
def stp (T : Nat → Nat) (n a p : Nat) : PS := (0, a, scB T n p, scE T n p, scK T n p)
section TXT
variable {T : Nat → Nat} {n p a e v c lo hi x : Nat} {l w : List Nat} {s : PS}
theorem Sf.head (h : Sf T n p (c :: l)) : p < n ∧ T p = c ∧ Sf T n (p + 1) l := by
  obtain ⟨h1, h2⟩ := h
  have hl : (c :: l).length = l.length + 1 := rfl
  refine ⟨by omega, h2 0 (by omega), by omega, fun i hi => ?_⟩
  have := h2 (i + 1) (by omega)
  rw [show p + 1 + i = p + (i + 1) by omega, this]
  rfl
theorem Sf.app (h : Sf T n p (w ++ l)) : (∀ i, i < w.length → T (p + i) = w.getD i 0) ∧ Sf T n (p + w.length) l := by
  induction w generalizing p with
  | nil => exact ⟨fun i hi => absurd hi (Nat.not_lt_zero i), h⟩
  | cons c w ih =>
    obtain ⟨h1, h2, h3⟩ := Sf.head (l := w ++ l) h
    obtain ⟨k1, k2⟩ := ih h3
    refine ⟨fun i hi => ?_, by rw [show p + (c :: w).length = p + 1 + w.length by show p + (w.length + 1) = _; omega]; exact k2⟩
    match i, hi with
    | 0, _ => exact h2
    | i + 1, hi =>
      have := k1 i (by have : (c :: w).length = w.length + 1 := rfl; omega)
      rw [show p + (i + 1) = p + 1 + i by omega, this]
      rfl
theorem run_eq {q : Nat → Bool} (h : IsRun q T n p e) : run q T n p = e := run_uniq (run_spec q T n p) h
theorem Sf.ltn (h : Sf T n p (w ++ c :: l)) : p + w.length < n := by
  have := h.1
  rw [List.length_append] at this
  have : (c :: l).length = l.length + 1 := rfl
  omega
theorem sp_L (h : isL v = true) : isSp v = false := by
  unfold isL at h
  have := of_decide_eq_true h
  exact decide_eq_false (by omega)
theorem sp_D (h : isDg v = true) : isSp v = false := by
  unfold isDg at h
  have := of_decide_eq_true h
  exact decide_eq_false (by omega)
theorem L_D (h : isDg v = true) : isL v = false := by
  unfold isDg at h
  have := of_decide_eq_true h
  exact decide_eq_false (by omega)
theorem scB_at (hp : p < n) (h : isSp (T p) = false) : scB T n p = p := run_eq ⟨Nat.le_refl _, fun x h1 h2 => by omega, fun z => by rw [h] at z; exact absurd z.2 (by decide)⟩
/-- a run of one kind -/
theorem run_w {q : Nat → Bool} (h : Sf T n p (w ++ c :: l)) (hw : ∀ i, i < w.length → q (w.getD i 0) = true) (hc : q c = false) : run q T n p = p + w.length := by
  have hl := h.ltn
  obtain ⟨h1, h2⟩ := h.app
  refine run_eq ⟨by omega, fun x x1 x2 => ⟨by omega, ?_⟩, fun z => ?_⟩
  · have := h1 (x - p) (by omega)
    rw [show p + (x - p) = x by omega] at this
    rw [this]
    exact hw _ (by omega)
  · rw [h2.head.2.1, hc] at z
    exact absurd z.2 (by decide)
theorem st_sp (h : Sf T n p (32 :: l)) : stp T n a p = stp T n a (p + 1) := by
  obtain ⟨h1, h2, -⟩ := h.head
  have e : scB T n p = scB T n (p + 1) := run_step h1 (by rw [h2]; rfl)
  unfold stp scE scK
  rw [e]
theorem st_word (h : Sf T n p (w ++ c :: l)) (h0 : 0 < w.length) (hw : ∀ i, i < w.length → isL (w.getD i 0) = true) (hc : isL c = false) : stp T n a p = (0, a, p, p + w.length, 1) := by
  have hl := h.ltn
  obtain ⟨h1, h2⟩ := h.app
  have t0 : isL (T p) = true := by
    have := h1 0 h0
    rw [Nat.add_zero] at this
    rw [this]
    exact hw 0 h0
  have e := scB_at (T := T) (n := n) (p := p) (by omega) (sp_L t0)
  unfold stp scE scK
  rw [e, if_pos (by omega), if_pos t0, if_pos (by omega), if_pos t0, run_w h hw hc]
theorem st_num (h : Sf T n p (w ++ c :: l)) (h0 : 0 < w.length) (hw : ∀ i, i < w.length → isDg (w.getD i 0) = true) (hc : isDg c = false) : stp T n a p = (0, a, p, p + w.length, 2) := by
  have hl := h.ltn
  obtain ⟨h1, h2⟩ := h.app
  have t0 : isDg (T p) = true := by
    have := h1 0 h0
    rw [Nat.add_zero] at this
    rw [this]
    exact hw 0 h0
  have e := scB_at (T := T) (n := n) (p := p) (by omega) (sp_D t0)
  unfold stp scE scK
  rw [e, if_pos (by omega), if_neg (by rw [L_D t0]; decide), if_pos t0, if_pos (by omega), if_neg (by rw [L_D t0]; decide), if_pos t0, run_w h hw hc]
theorem st_semi (h : Sf T n p (59 :: l)) : stp T n a p = (0, a, p, p + 1, 3) := by
  obtain ⟨h1, h2, -⟩ := h.head
  have e := scB_at (T := T) (n := n) (p := p) h1 (by rw [h2]; rfl)
  unfold stp scE scK
  rw [e, if_pos h1, if_pos h1, h2]
  rfl
theorem st_end (h : Sf T n p []) : stp T n a p = (0, a, n, n, 0) := by
  have h1 : p = n := h.1
  subst h1
  have e : scB T p p = p := run_eq ⟨Nat.le_refl _, fun x h1 h2 => by omega, fun z => absurd z.1 (Nat.lt_irrefl _)⟩
  unfold stp scE scK
  rw [e, if_neg (Nat.lt_irrefl _), if_neg (Nat.lt_irrefl _)]
theorem adv_to (h0 : pe s = 0) (ha : pa s = a) (he : pn s = e) : pAdv T n s = stp T n a e := by
  rw [pAdv_0 h0, ha, he]
  rfl
theorem dg_l (v : Nat) : 1 ≤ (dg v).length ∧ (dg v).length ≤ 2 := by
  unfold dg
  split
  · exact ⟨Nat.le_refl 1, Nat.le_succ 1⟩
  · exact ⟨Nat.le_succ 1, Nat.le_refl 2⟩
theorem dg_Dk : ∀ v : Fin 100, ∀ i : Fin 2, i.val < (dg v.val).length → isDg ((dg v.val).getD i.val 0) = true := by decide +kernel
theorem dg_D (hv : v < 100) : ∀ i, i < (dg v).length → isDg ((dg v).getD i 0) = true := fun i hi => dg_Dk ⟨v, hv⟩ ⟨i, by have := (dg_l v).2; omega⟩ hi
theorem val_dg (hv : v < 100) (h : Sf T n p (dg v ++ l)) : mvF T p (dg v).length = v := by
  obtain ⟨h1, -⟩ := h.app
  unfold dg at h1 ⊢
  by_cases c10 : v < 10
  · rw [if_pos c10] at h1 ⊢
    have a0 := h1 0 (by show 0 < 1; decide)
    show (if 0 ≤ 9999999 then 10 * 0 + (T (p + 0) - 48) else 0) = v
    rw [if_pos (by decide), a0]
    show 10 * 0 + (48 + v - 48) = v
    omega
  · rw [if_neg c10] at h1 ⊢
    have a0 := h1 0 (by show 0 < 2; decide)
    have a1 := h1 1 (by show 1 < 2; decide)
    show (if (if 0 ≤ 9999999 then 10 * 0 + (T (p + 0) - 48) else 0) ≤ 9999999 then 10 * (if 0 ≤ 9999999 then 10 * 0 + (T (p + 0) - 48) else 0) + (T (p + 1) - 48) else (if 0 ≤ 9999999 then 10 * 0 + (T (p + 0) - 48) else 0)) = v
    rw [if_pos (show 0 ≤ 9999999 by decide), a0, a1]
    show (if 10 * 0 + (48 + v / 10 - 48) ≤ 9999999 then 10 * (10 * 0 + (48 + v / 10 - 48)) + (48 + v % 10 - 48) else 10 * 0 + (48 + v / 10 - 48)) = v
    rw [if_pos (by omega)]
    omega
/-- a number behind a space -/
theorem num_go (h : Sf T n e (32 :: (dg v ++ c :: l))) (hv : v < 100) (hc : c = 32 ∨ c = 59) (h1 : lo ≤ v) (h2 : v ≤ hi) : pLook T lo hi (stp T n a e) = stp T n a e ∧ pLv T lo hi (stp T n a e) = v ∧ pNum T n lo hi (stp T n a e) = stp T n a (e + 1 + (dg v).length) ∧ pAdv T n (stp T n a e) = stp T n a (e + 1 + (dg v).length) ∧ Sf T n (e + 1 + (dg v).length) (c :: l) := by
  have hs := h.head.2.2
  have hd := dg_l v
  have es : stp T n a e = (0, a, e + 1, e + 1 + (dg v).length, 2) := by
    rw [st_sp h]
    exact st_num hs (by omega) (dg_D hv) (by rcases hc with rfl | rfl <;> rfl)
  have ev : pVal T (0, a, e + 1, e + 1 + (dg v).length, 2) = v := by
    show (if 2 = 2 then mvF T (e + 1) (e + 1 + (dg v).length - (e + 1)) else 0) = v
    rw [if_pos rfl, show e + 1 + (dg v).length - (e + 1) = (dg v).length by omega]
    exact val_dg hv hs
  rw [es]
  have el : pLook T lo hi (0, a, e + 1, e + 1 + (dg v).length, 2) = (0, a, e + 1, e + 1 + (dg v).length, 2) := by
    unfold pLook
    rw [ev, decide_eq_true (show lo ≤ v ∧ v ≤ hi from ⟨h1, h2⟩), pChk_T]
    show pChk (decide (2 = 2)) 1 _ = _
    rw [decide_eq_true rfl, pChk_T]
  have ea : pAdv T n (0, a, e + 1, e + 1 + (dg v).length, 2) = stp T n a (e + 1 + (dg v).length) := adv_to rfl rfl rfl
  refine ⟨el, ?_, ?_, ea, hs.app.2⟩
  · unfold pLv
    rw [el, if_pos rfl, ev]
  · unfold pNum
    rw [el, ea]
theorem semi_go (h : Sf T n e (59 :: l)) : pExp T n 59 (stp T n a e) = stp T n a (e + 1) ∧ Sf T n (e + 1) l := by
  obtain ⟨h1, h2, h3⟩ := h.head
  refine ⟨?_, h3⟩
  rw [st_semi h]
  unfold pExp
  have : pSym T (0, a, e, e + 1, 3) 59 = true := by
    show (decide (0 = 0) && (decide (3 = 3) && decide (T e = 59))) = true
    rw [h2]
    rfl
  rw [this, pChk_T]
  exact adv_to rfl rfl rfl
/-- a word -/
theorem wd_is {k : Nat} (h : Sf T n p (w ++ l)) (hl : lN' k = w.length) (hw : ∀ i, i < w.length → w.getD i 0 = wN k i) : pWd T (0, a, p, p + w.length, 1) k = true := by
  unfold pWd
  show ((decide (0 = 0) && decide (1 = 1)) && (decide (p + w.length - p = lN' k) && (List.range (lN' k)).all (fun i => decide (T (p + i) = wN k i)))) = true
  rw [hl, show p + w.length - p = w.length by omega, decide_eq_true (rfl : w.length = w.length)]
  rw [Bool.and_eq_true]
  refine ⟨rfl, ?_⟩
  rw [Bool.true_and, List.all_eq_true]
  intro i hi
  have hi := List.mem_range.1 hi
  exact decide_eq_true (by rw [h.app.1 i hi, hw i hi])
theorem wd_not {k e1 : Nat} (hl : e1 - p ≠ lN' k) : pWd T (0, a, p, e1, 1) k = false := by
  unfold pWd
  show ((decide (0 = 0) && decide (1 = 1)) && (decide (e1 - p = lN' k) && _)) = false
  rw [decide_eq_false hl, Bool.false_and, Bool.and_false]
theorem wd_not0 {k e1 : Nat} (h0 : 0 < lN' k) (ht : T p ≠ wN k 0) : pWd T (0, a, p, e1, 1) k = false := by
  refine Bool.eq_false_iff.2 (fun z => ?_)
  unfold pWd at z
  rw [Bool.and_eq_true, Bool.and_eq_true, Bool.and_eq_true, List.all_eq_true] at z
  have := of_decide_eq_true (z.2.2 0 (List.mem_range.2 h0))
  exact ht this
end TXT
