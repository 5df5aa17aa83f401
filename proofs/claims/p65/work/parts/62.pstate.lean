/-! a reader's state: its error, where that is, the token's begin, end and kind -/
abbrev PS := Nat × Nat × Nat × Nat × Nat
abbrev pe (s : PS) : Nat := s.1
abbrev pa (s : PS) : Nat := s.2.1
abbrev pb (s : PS) : Nat := s.2.2.1
abbrev pn (s : PS) : Nat := s.2.2.2.1
abbrev pk (s : PS) : Nat := s.2.2.2.2
def Tok (T : Nat → Nat) (n b e k : Nat) : Prop := ∃ e0, e0 ≤ n ∧ b = scB T n e0 ∧ e = scE T n e0 ∧ k = scK T n e0
def Ws (T : Nat → Nat) (n : Nat) (s : PS) : Prop := n ≤ 500 ∧ pe s < 10 ∧ Tok T n (pb s) (pn s) (pk s)
def kc (T : Nat → Nat) (s : PS) : Nat := if pk s = 0 then 0 else ckV (T (pb s))
def PM (M : TM) (T : Nat → Nat) (n : Nat) (s : PS) : Prop := MT M T n ∧ M 699 20 = nI (pe s) ∧ M 699 17 = nI (pn s) ∧ M 699 18 = nI (pb s) ∧ M 699 19 = nI (pk s) ∧ (pe s ≠ 0 → M 699 21 = nI (pa s))
def PC (M : TM) (T : Nat → Nat) (n : Nat) (s : PS) : Prop := CTx M T n ∧ M 1 6 = nI (pe s) ∧ (pe s ≠ 0 → M 1 7 = nI (pa s)) ∧ (pe s = 0 → M 1 7 = -1 ∧ M 1 4 = nI (pb s) ∧ M 1 5 = nI (pn s) ∧ M 1 3 = nI (kc T s))
def FrT (M M' : TM) : Prop := (∀ i, i ≠ 1 → M' i = M i) ∧ ∀ j, j < 3 → M' 1 j = M 1 j
def FrM (M M' : TM) : Prop := (∀ i, i ≠ 699 → M' i = M i) ∧ ∀ j, j < 17 ∨ 22 ≤ j → M' 699 j = M 699 j
theorem FrT.refl (M : TM) : FrT M M := ⟨fun _ _ => rfl, fun _ _ => rfl⟩
theorem FrM.refl (M : TM) : FrM M M := ⟨fun _ _ => rfl, fun _ _ => rfl⟩
theorem FrT.trans {M M1 M2 : TM} (h : FrT M M1) (g : FrT M1 M2) : FrT M M2 := ⟨fun i hi => (g.1 i hi).trans (h.1 i hi), fun j hj => (g.2 j hj).trans (h.2 j hj)⟩
theorem FrM.trans {M M1 M2 : TM} (h : FrM M M1) (g : FrM M1 M2) : FrM M M2 := ⟨fun i hi => (g.1 i hi).trans (h.1 i hi), fun j hj => (g.2 j hj).trans (h.2 j hj)⟩
def pAdv (T : Nat → Nat) (n : Nat) (s : PS) : PS := if pe s = 0 then (0, pa s, scB T n (pn s), scE T n (pn s), scK T n (pn s)) else s
def pChk (c : Bool) (code : Nat) (s : PS) : PS := if c = false ∧ pe s = 0 then (code, pb s, pb s, pn s, pk s) else s
def pSym (T : Nat → Nat) (s : PS) (x : Nat) : Bool := decide (pe s = 0) && (decide (pk s = 3) && decide (T (pb s) = x))
def pExp (T : Nat → Nat) (n x : Nat) (s : PS) : PS := pAdv T n (pChk (pSym T s x) 1 s)
def wN (a j : Nat) : Nat := ((bytS.getD a []).getD j 0).toNatClampNeg
def lN' (a : Nat) : Nat := lenS.getD a 0
def pWd (T : Nat → Nat) (s : PS) (a : Nat) : Bool := (decide (pe s = 0) && decide (pk s = 1)) && (decide (pn s - pb s = lN' a) && (List.range (lN' a)).all (fun i => decide (T (pb s + i) = wN a i)))
def mvF (T : Nat → Nat) (b n : Nat) : Nat := fo (fun i x => if x ≤ 9999999 then 10 * x + (T (b + i) - 48) else x) n 0
def cvF (T : Nat → Nat) (b n : Nat) : Nat := fo (fun i x => min (10 * x + (T (b + i) - 48)) 100000) n 0
def pVal (T : Nat → Nat) (s : PS) : Nat := if pk s = 2 then mvF T (pb s) (pn s - pb s) else 0
def pLook (T : Nat → Nat) (lo hi : Nat) (s : PS) : PS := pChk (decide (lo ≤ pVal T s ∧ pVal T s ≤ hi)) 2 (pChk (decide (pk s = 2)) 1 s)
def pLv (T : Nat → Nat) (lo hi : Nat) (s : PS) : Nat := if pe (pLook T lo hi s) = 0 then pVal T s else lo
def pNum (T : Nat → Nat) (n lo hi : Nat) (s : PS) : PS := pAdv T n (pLook T lo hi s)
section PSTATE
variable {i : Nat} {M M' : TM} {T : Nat → Nat} {n : Nat} {s : PS} {K : Int32 → TM → Prop} {KV : TM → Prop} {p q u x : Int32} {a b d e f j k m x' v lo hi code : Nat} {c : Bool}
theorem Tok.le (h : Tok T n b e k) : b ≤ e ∧ e ≤ n ∧ k ≤ 3 ∧ (k = 0 → b = n) ∧ (k ≠ 0 → b < n ∧ b < e) := by
  obtain ⟨e0, h0, rfl, rfl, rfl⟩ := h
  have hb : scB T n e0 ≤ n := run_le h0
  unfold scE scK
  by_cases c1 : scB T n e0 < n
  · rw [if_pos c1, if_pos c1]
    by_cases c2 : isL (T (scB T n e0)) = true
    · rw [if_pos c2, if_pos c2]
      have h1 := (run_spec isL T n (scB T n e0))
      have h2 := run_step c1 c2
      have h3 := (run_spec isL T n (scB T n e0 + 1)).1
      exact ⟨h1.1, run_le hb, by omega, by omega, fun _ => ⟨c1, by omega⟩⟩
    · rw [if_neg c2, if_neg c2]
      by_cases c3 : isDg (T (scB T n e0)) = true
      · rw [if_pos c3, if_pos c3]
        have h1 := (run_spec isDg T n (scB T n e0))
        have h2 := run_step c1 c3
        have h3 := (run_spec isDg T n (scB T n e0 + 1)).1
        exact ⟨h1.1, run_le hb, by omega, by omega, fun _ => ⟨c1, by omega⟩⟩
      · rw [if_neg c3, if_neg c3]
        exact ⟨by omega, by omega, by omega, by omega, fun _ => ⟨c1, by omega⟩⟩
  · rw [if_neg c1, if_neg c1]
    exact ⟨Nat.le_refl _, hb, by omega, fun _ => by omega, fun h => absurd rfl h⟩
theorem Tok.let (h : Tok T n b e 1) : ∀ x, b ≤ x → x < e → isL (T x) = true := by
  obtain ⟨e0, h0, rfl, rfl, hk⟩ := h
  unfold scK at hk
  unfold scE
  by_cases c1 : scB T n e0 < n
  · rw [if_pos c1] at hk ⊢
    by_cases c2 : isL (T (scB T n e0)) = true
    · rw [if_pos c2]
      exact fun x h1 h2 => ((run_spec isL T n (scB T n e0)).2.1 x h1 h2).2
    · rw [if_neg c2] at hk
      split at hk <;> omega
  · rw [if_neg c1] at hk; omega
theorem Tok.dig (h : Tok T n b e 2) : ∀ x, b ≤ x → x < e → isDg (T x) = true := by
  obtain ⟨e0, h0, rfl, rfl, hk⟩ := h
  unfold scK at hk
  unfold scE
  by_cases c1 : scB T n e0 < n
  · rw [if_pos c1] at hk ⊢
    by_cases c2 : isL (T (scB T n e0)) = true
    · rw [if_pos c2] at hk; omega
    · rw [if_neg c2] at hk ⊢
      by_cases c3 : isDg (T (scB T n e0)) = true
      · rw [if_pos c3]
        exact fun x h1 h2 => ((run_spec isDg T n (scB T n e0)).2.1 x h1 h2).2
      · rw [if_neg c3] at hk; omega
  · rw [if_neg c1] at hk; omega
theorem Tok.ck (h : Tok T n b e k) : (k = 1 ↔ k ≠ 0 ∧ ckV (T b) = 3) ∧ (k = 2 ↔ k ≠ 0 ∧ ckV (T b) = 4) ∧ (k = 3 ↔ k ≠ 0 ∧ ckV (T b) ≠ 3 ∧ ckV (T b) ≠ 4) := by
  obtain ⟨e0, h0, rfl, rfl, rfl⟩ := h
  unfold scK
  by_cases c1 : scB T n e0 < n
  · rw [if_pos c1]
    by_cases c2 : isL (T (scB T n e0)) = true
    · have h3 := (ckV_L _).2 c2
      rw [if_pos c2]
      omega
    · have h3 : ckV (T (scB T n e0)) ≠ 3 := fun h => c2 ((ckV_L _).1 h)
      rw [if_neg c2]
      by_cases c3 : isDg (T (scB T n e0)) = true
      · have h4 := (ckV_D _).2 c3
        rw [if_pos c3]; omega
      · have h4 : ckV (T (scB T n e0)) ≠ 4 := fun h => c3 ((ckV_D _).1 h)
        rw [if_neg c3]; omega
  · rw [if_neg c1]; omega
theorem scC_k (T : Nat → Nat) (n e : Nat) : scC T n e = if scK T n e = 0 then 0 else ckV (T (scB T n e)) := by
  unfold scC scK
  by_cases c1 : scB T n e < n
  · rw [if_pos c1, if_pos c1]
    split
    · rw [if_neg (by decide)]
    · split
      · rw [if_neg (by decide)]
      · rw [if_neg (by decide)]
  · rw [if_neg c1, if_neg c1, if_pos rfl]
/-- moving on -/
theorem pAdv_0 (h : pe s = 0) : pAdv T n s = (0, pa s, scB T n (pn s), scE T n (pn s), scK T n (pn s)) := if_pos h
theorem pAdv_e (h : pe s ≠ 0) : pAdv T n s = s := if_neg h
theorem Ws.adv (w : Ws T n s) : Ws T n (pAdv T n s) := by
  unfold pAdv
  split
  · exact ⟨w.1, (by show 0 < 10; decide), ⟨pn s, w.2.2.le.2.1, rfl, rfl, rfl⟩⟩
  · exact w
theorem Ws.chk (w : Ws T n s) (hc : code < 10) : Ws T n (pChk c code s) := by
  unfold pChk
  split
  · exact ⟨w.1, hc, w.2.2⟩
  · exact w
theorem pChk_T : pChk true code s = s := if_neg (fun h => by cases h.1)
theorem pChk_e (h : pe s ≠ 0) : pChk c code s = s := if_neg (fun g => h g.2)
theorem pChk_F (h : pe s = 0) : pChk false code s = (code, pb s, pb s, pn s, pk s) := if_pos ⟨rfl, h⟩
/-- the model's steps -/
theorem m_adv (h : PM M T n s) (w : Ws T n s) (hK : ∀ M', FrM M M' → PM M' T n (pAdv T n s) → KV M') : f_X13_advance M KV := by
  unfold f_X13_advance
  have he := w.2.1
  rw [h.2.1, show (0 : Int32) = nI 0 from rfl, nI_eq (by omega) (by decide)]
  refine ⟨fun c1 => hK M (FrM.refl M) (by rw [pAdv_e c1]; exact h), fun c1 => ?_⟩
  refine m_scan h.1 h.2.2.1 w.2.2.le.2.1 (fun M' m => hK M' ⟨m.1, fun j hj => m.2.1 j (by omega) (by omega) (by omega)⟩ ?_)
  rw [pAdv_0 c1]
  exact ⟨h.1.of (m.2.1 16 (by decide) (by decide) (by decide)) (m.1 707 (by decide)), by rw [m.2.1 20 (by decide) (by decide) (by decide), h.2.1, c1], m.2.2.1, m.2.2.2.1, m.2.2.2.2, fun h => absurd rfl h⟩
theorem m_check (h : PM M T n s) (w : Ws T n s) (e1 : p = bi c) (e2 : q = nI code) (hcode : code ≠ 0) (hK : ∀ M', FrM M M' → PM M' T n (pChk c code s) → KV M') : f_X13_check p q M KV := by
  subst e1 e2
  unfold f_X13_check
  have he := w.2.1
  refine bT (fun h1 => hK M (FrM.refl M) (by rw [h1, pChk_T]; exact h)) (fun h0 => ?_)
  rw [h.2.1, show (0 : Int32) = nI 0 from rfl, nI_eq (by omega) (by decide)]
  refine ⟨fun c1 => hK M (FrM.refl M) (by rw [pChk_e c1]; exact h), fun c1 => ?_⟩
  intro M3 e3 M4 e4
  rw [e3, u2_f (by decide), h.2.2.2.1] at e4
  refine hK M4 ⟨fun i hi => by rw [e4, u2_n hi, u2_n hi], fun j hj => by rw [e4, u2_f (by omega), u2_f (by omega)]⟩ ?_
  rw [h0, pChk_F c1]
  exact ⟨h.1.of (by rw [e4, u2_f (by decide), u2_f (by decide)]) (by rw [e4, u2_n (by decide), u2_n (by decide)]), by rw [e4, u2_f (by decide), u2_s], by rw [e4, u2_f (by decide), u2_f (by decide)]; exact h.2.2.1, by rw [e4, u2_f (by decide), u2_f (by decide)]; exact h.2.2.2.1, by rw [e4, u2_f (by decide), u2_f (by decide)]; exact h.2.2.2.2.1, fun _ => by rw [e4, u2_s]⟩
theorem m_isSymbol (h : PM M T n s) (w : Ws T n s) (e1 : p = nI x') (hx : x' < 256) (hK : K (bi (pSym T s x')) M) : f_X13_isSymbol p M K := by
  subst e1
  unfold f_X13_isSymbol
  have he := w.2.1
  have tl := w.2.2.le
  have wn := w.1
  rw [h.2.1, h.2.2.2.2.1, h.2.2.2.1, show (0 : Int32) = nI 0 from rfl, show (3 : Int32) = nI 3 from rfl, nI_eq (by omega) (by decide), nI_eq (by omega) (by decide)]
  refine ⟨fun c1 => K_of hK (by unfold pSym; rw [decide_eq_false c1]; rfl), fun c1 => ⟨fun c2 => K_of hK (by unfold pSym; rw [decide_eq_false c2, Bool.false_and, Bool.and_false]; rfl), fun c2 => ?_⟩⟩
  have hb := (tl.2.2.2.2 (by omega)).1
  refine ⟨vp_in_nI (by omega) (by decide), ?_⟩
  have ht := h.1.2.2 _ hb
  rw [nI_clamp (by omega), ht.1, nI_eq (by omega) (by omega)]
  refine ⟨fun c3 => K_of hK (by unfold pSym; rw [decide_eq_false c3, Bool.and_false, Bool.and_false]; rfl), fun c3 => K_of hK (by unfold pSym; rw [decide_eq_true c1, decide_eq_true c2, decide_eq_true c3]; rfl)⟩
theorem Ws.exp (w : Ws T n s) (x' : Nat) : Ws T n (pExp T n x' s) := (w.chk (by decide)).adv
theorem m_expect (h : PM M T n s) (w : Ws T n s) (e1 : p = nI x') (hx : x' < 256) (hK : ∀ M', FrM M M' → PM M' T n (pExp T n x' s) → KV M') : f_X13_expect p M KV := by
  unfold f_X13_expect
  refine m_isSymbol h w e1 hx ?_
  refine m_check h w rfl (code := 1) rfl (by decide) (fun M1 f1 h1 => ?_)
  exact m_adv h1 (w.chk (by decide)) (fun M2 f2 h2 => hK M2 (f1.trans f2) h2)
/-- the class's steps -/
theorem c_isAt (h : PC M T n s) (w : Ws T n s) (e1 : p = nI k) (hk : k < 8) (hK : K (bi (decide (pe s = 0) && decide (kc T s = k))) M) : f_X10_isAt p M K := by
  subst e1
  unfold f_X10_isAt
  have he := w.2.1
  rw [h.2.1, show (0 : Int32) = nI 0 from rfl, nI_eq (by omega) (by decide)]
  refine ⟨fun c1 => K_of hK (by rw [decide_eq_false c1]; rfl), fun c1 => ?_⟩
  have hkc : kc T s < 8 := by
    unfold kc
    have := ckV_lt (T (pb s))
    split <;> omega
  rw [(h.2.2.2 c1).2.2.2, nI_eq (by omega) (by omega)]
  exact ⟨fun c2 => K_of hK (by rw [decide_eq_false c2, Bool.and_false]; rfl), fun c2 => K_of hK (by rw [decide_eq_true c1, decide_eq_true c2]; rfl)⟩
theorem c_adv (h : PC M T n s) (w : Ws T n s) (h0 : pe s = 0) (hK : ∀ M', FrT M M' → PC M' T n (pAdv T n s) → KV M') : f_X10_advance M KV := by
  have h1 := h.2.2.2 h0
  refine c_advance h.1 h1.2.2.1 w.2.2.le.2.1 (fun M' m => hK M' ⟨m.1, fun j hj => m.2.1 j (by omega) (by omega) (by omega)⟩ ?_)
  rw [pAdv_0 h0]
  refine ⟨h.1.of (m.2.1 2 (by decide) (by decide) (by decide)) (m.1 2 (by decide)), by rw [m.2.1 6 (by decide) (by decide) (by decide), h.2.1, h0], fun h => absurd rfl h, fun _ => ⟨by rw [m.2.1 7 (by decide) (by decide) (by decide)]; exact h1.1, m.2.2.2.1, m.2.2.1, ?_⟩⟩
  rw [m.2.2.2.2, scC_k]
  rfl
theorem c_failAt (h : PC M T n s) (w : Ws T n s) (e1 : p = nI code) (e2 : pe s = 0 → q = nI (pb s)) (hcode : code ≠ 0) (hK : ∀ M', FrT M M' → PC M' T n (pChk false code s) → KV M') : f_X10_failAt p q M KV := by
  subst e1
  unfold f_X10_failAt
  have he := w.2.1
  rw [h.2.1, show (0 : Int32) = nI 0 from rfl, nI_eq (by omega) (by decide)]
  refine ⟨fun c1 => hK M (FrT.refl M) (by rw [pChk_e c1]; exact h), fun c1 => ?_⟩
  intro M2 e2' M3 e3
  rw [e2 c1] at e3
  refine hK M3 ⟨fun i hi => by rw [e3, u2_n hi, e2', u2_n hi], fun j hj => by rw [e3, u2_f (by omega), e2', u2_f (by omega)]⟩ ?_
  rw [pChk_F c1]
  exact ⟨h.1.of (by rw [e3, u2_f (by decide), e2', u2_f (by decide)]) (by rw [e3, u2_n (by decide), e2', u2_n (by decide)]), by rw [e3, u2_f (by decide), e2', u2_s], fun _ => by rw [e3, u2_s], fun h => absurd h hcode⟩
theorem c_fail (h : PC M T n s) (w : Ws T n s) (e1 : p = nI code) (hcode : code ≠ 0) (hK : ∀ M', FrT M M' → PC M' T n (pChk false code s) → KV M') : f_X10_fail p M KV := by
  unfold f_X10_fail
  exact c_failAt h w e1 (fun h0 => (h.2.2.2 h0).2.1) hcode hK
theorem kc_sym (w : Ws T n s) {x' kk : Nat} (hx : (x' = 59 ∧ kk = 5) ∨ (x' = 40 ∧ kk = 6) ∨ (x' = 41 ∧ kk = 7)) : (decide (pe s = 0) && decide (kc T s = kk)) = pSym T s x' := by
  have tl := w.2.2.le
  have tk := w.2.2.ck
  have key : kc T s = kk ↔ pk s = 3 ∧ T (pb s) = x' := by
    unfold kc
    by_cases c0 : pk s = 0
    · rw [if_pos c0]; omega
    · rw [if_neg c0]
      have hv : ∀ v : Nat, ckV v = kk ↔ v = x' := fun v => by
        unfold ckV isL isDg
        simp only [decide_eq_true_eq]
        repeat' split
        all_goals omega
      constructor
      · intro h
        have hx2 := (hv _).1 h
        refine ⟨tk.2.2.2 ⟨c0, ?_, ?_⟩, hx2⟩ <;> omega
      · rintro ⟨h1, h2⟩
        exact (hv _).2 h2
  unfold pSym
  rw [show decide (kc T s = kk) = (decide (pk s = 3) && decide (T (pb s) = x')) by
    rw [Bool.eq_iff_iff]; simp only [decide_eq_true_eq, Bool.and_eq_true]; exact key]
theorem c_readToken (h : PC M T n s) (w : Ws T n s) {x' kk : Nat} (e1 : p = nI kk) (hx : (x' = 59 ∧ kk = 5) ∨ (x' = 40 ∧ kk = 6) ∨ (x' = 41 ∧ kk = 7)) (hK : ∀ M', FrT M M' → PC M' T n (pExp T n x' s) → KV M') : f_X10_readToken p M KV := by
  unfold f_X10_readToken
  refine c_isAt h w e1 (by omega) ?_
  rw [kc_sym w hx]
  unfold pExp at hK
  refine bF (fun h1 => ?_) (fun h0 => ?_)
  · rw [h1, pChk_T] at hK
    refine c_adv h w ?_ hK
    unfold pSym at h1
    rw [Bool.and_eq_true, decide_eq_true_eq] at h1
    exact h1.1
  · rw [h0] at hK
    refine c_fail h w (code := 1) rfl (by decide) (fun M' f' h' => hK M' f' ?_)
    by_cases c1 : pe s = 0
    · rw [pChk_F c1] at h' ⊢
      rw [pAdv_e (show (1 : Nat) ≠ 0 by decide)]
      exact h'
    · rw [pChk_e c1] at h' ⊢
      rw [pAdv_e c1]
      exact h'
end PSTATE
