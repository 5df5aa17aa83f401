/-! words and numbers -/
section WORDS
variable {i : Nat} {M M' : TM} {T : Nat → Nat} {n : Nat} {s : PS} {K : Int32 → TM → Prop} {KV : TM → Prop} {p q u x : Int32} {a b d e f j k m x' v lo hi code : Nat} {c : Bool}
set_option maxRecDepth 100000 in
theorem sh_len : ∀ a, a < 22 → (nI (lenS.getD a 0)) >>> ((0 : Int32) &&& 31) = nI (lenS.getD a 0) := by decide +kernel
set_option maxRecDepth 100000 in
theorem ch_at : ∀ a, a < 14 → ∀ j, j < lenS.getD a 0 → (((((bytS.getD a []).getD j 0) &&& (255 : Int32)).toUInt32 % 65536).toInt32) = nI (wN a j) ∧ wN a j < 128 := by decide +kernel
theorem len_lt : ∀ a, a < 14 → lN' a < 200 := by decide +kernel
theorem j_len (ha : a < 22) (hK : K (nI (lN' a)) M) : f_J0_length_8abf5 a M K := by
  unfold f_J0_length_8abf5 f_J0_coder_7d493
  show K ((nI (lenS.getD a 0)) >>> ((0 : Int32) &&& 31)) M
  rw [sh_len a ha]
  exact hK
theorem j_char (ha : a < 14) (hj : j < lN' a) (hK : K (nI (wN a j)) M) : f_J0_charAt_5068e a (nI j) M K := by
  have hl := len_lt a ha
  have hl' : lenS.getD a 0 < 200 := hl
  have hj' : j < lenS.getD a 0 := hj
  unfold f_J0_charAt_5068e f_J0_isLatin1_aae02
  refine cN' (c := (1 : Int32) = 0) (by decide) ?_
  unfold f_J1_charAt_3b067 f_J0_checkIndex_df160
  intro v1 hv
  unfold f_J3_checkIndex_8e157
  refine cN' (nI_pos (by omega)) (cT' (nI_lt hj (by omega)) ⟨vp_in_nI hj' (by omega), ?_⟩)
  rw [nI_clamp (by omega), (ch_at a ha j hj').1]
  exact hK
theorem m_isWord (h : PM M T n s) (w : Ws T n s) (ha : a < 14) (hK : K (bi (pWd T s a)) M) : f_X13_isWord a M K := by
  unfold f_X13_isWord
  have he := w.2.1
  have tl := w.2.2.le
  have wn := w.1
  have hl := len_lt a ha
  have no : pWd T s a = false → ∃ n, f_X13_isWord_L39 a K n 0 0 M := fun e => ⟨1, by
    rw [f_X13_isWord_L39]
    refine cT' rfl ⟨Or.inl rfl, ?_⟩
    rw [e] at hK
    exact hK⟩
  rw [h.2.1, h.2.2.2.2.1, show (0 : Int32) = nI 0 from rfl, show (1 : Int32) = nI 1 from rfl, nI_eq (by omega) (by decide), nI_eq (by omega) (by decide)]
  refine ⟨fun c1 => no (by unfold pWd; rw [decide_eq_false c1]; rfl), fun c1 => ⟨fun c2 => no (by unfold pWd; rw [decide_eq_false c2, Bool.and_false]; rfl), fun c2 => ?_⟩⟩
  refine j_len (by omega) ?_
  rw [h.2.2.1, h.2.2.2.1, nI_sub tl.1, nI_eq (by omega) (by omega)]
  refine ⟨fun c3 => no (by unfold pWd; rw [show decide (pn s - pb s = lN' a) = false from decide_eq_false (fun e => c3 e.symm), Bool.false_and, Bool.and_false]), fun c3 => ?_⟩
  have hin : ∀ i, i < lN' a → pb s + i < n := fun i hi => by omega
  have all : pWd T s a = (List.range (lN' a)).all (fun i => decide (T (pb s + i) = wN a i)) := by
    unfold pWd
    rw [decide_eq_true c1, decide_eq_true c2, decide_eq_true c3.symm]
    rfl
  refine ⟨_, inv_loop (fun m (x : Int32) k => f_X13_isWord_L39 a K m x (nI k) M) (fun k x => (x = 1 ∧ ∀ i, i < k → T (pb s + i) = wN a i) ∨ (x = 0 ∧ pWd T s a = false)) (lN' a) (fun m x hx => ?_) (fun m x k hk hx hL => ?_) (lN' a) 0 1 (Nat.zero_add _) (Or.inl ⟨rfl, fun i hi => absurd hi (Nat.not_lt_zero _)⟩)⟩
  · rw [f_X13_isWord_L39]
    rcases hx with ⟨rfl, hx⟩ | ⟨rfl, hx⟩
    · refine cN' (by decide) ?_
      refine j_len (by omega) ?_
      refine cT' (nI_le (Nat.le_refl _) (by omega)) ⟨Or.inr rfl, ?_⟩
      rw [all, show (List.range (lN' a)).all (fun i => decide (T (pb s + i) = wN a i)) = true from List.all_eq_true.2 (fun i hi => decide_eq_true (hx i (List.mem_range.1 hi)))] at hK
      exact hK
    · refine cT' rfl ⟨Or.inl rfl, ?_⟩
      rw [hx] at hK
      exact hK
  · rw [f_X13_isWord_L39]
    rcases hx with ⟨rfl, hx⟩ | ⟨rfl, hx⟩
    · refine cN' (by decide) ?_
      refine j_len (by omega) ?_
      refine cN' (nI_ge hk (by omega)) ?_
      refine j_char ha hk ?_
      have hb := hin k hk
      have ht := h.1.2.2 _ hb
      rw [h.2.2.2.1, nI_add, nI_clamp (by omega), ht.1, nI_1]
      refine ⟨vp_in_nI (by omega) (by decide), ?_⟩
      have hw := (ch_at a ha k hk).2
      rw [nI_eq (by omega) (by omega)]
      refine ⟨fun c4 => hL 0 (Or.inr ⟨rfl, ?_⟩), fun c4 => hL 1 (Or.inl ⟨rfl, fun i hi => ?_⟩)⟩
      · rw [all, Bool.eq_false_iff]
        intro hc
        exact c4 (of_decide_eq_true (List.all_eq_true.1 hc k (List.mem_range.2 hk))).symm
      · by_cases e : i = k
        · rw [e]; exact c4.symm
        · exact hx i (by omega)
    · refine cT' rfl ⟨Or.inl rfl, ?_⟩
      rw [hx] at hK
      exact hK
theorem c_isAtWord (h : PC M T n s) (w : Ws T n s) (ha : a < 14) (hK : K (bi (pWd T s a)) M) : f_X10_isAtWord a M K := by
  unfold f_X10_isAtWord
  have he := w.2.1
  have tl := w.2.2.le
  have tk := w.2.2.ck
  have wn := w.1
  have hl := len_lt a ha
  refine c_isAt h w (k := 3) rfl (by decide) ?_
  have e3 : (decide (pe s = 0) && decide (kc T s = 3)) = (decide (pe s = 0) && decide (pk s = 1)) := by
    congr 1
    refine decide_eq_decide.2 ?_
    unfold kc
    by_cases c0 : pk s = 0
    · rw [if_pos c0]; omega
    · rw [if_neg c0]; omega
  rw [e3]
  refine bF (fun h1 => ?_) (fun h0 => K_of hK (by unfold pWd; rw [h0]; rfl))
  refine j_len (by omega) ?_
  have h1' := h1
  rw [Bool.and_eq_true, decide_eq_true_eq, decide_eq_true_eq] at h1'
  have hs := h.2.2.2 h1'.1
  rw [hs.2.2.1, hs.2.1, nI_sub tl.1, nI_eq (by omega) (by omega)]
  refine ⟨fun c3 => ?_, fun c3 => K_of hK (by unfold pWd; rw [decide_eq_false c3, Bool.false_and, Bool.and_false]; rfl)⟩
  have all : pWd T s a = (List.range (lN' a)).all (fun i => decide (T (pb s + i) = wN a i)) := by
    unfold pWd
    rw [h1, decide_eq_true c3]
    rfl
  have let1 := (h1'.2 ▸ w.2.2 : Tok T n (pb s) (pn s) 1).let
  refine ⟨_, inv_loop (fun m (_ : Unit) k => f_X10_isAtWord_L28 a K m (nI k) M) (fun k _ => ∀ i, i < k → T (pb s + i) = wN a i) (lN' a) (fun m _ hx => ?_) (fun m _ k hk hx hL => ?_) (lN' a) 0 () (Nat.zero_add _) (fun i hi => absurd hi (Nat.not_lt_zero _))⟩
  · rw [f_X10_isAtWord_L28]
    refine j_len (by omega) ?_
    refine cT' (nI_le (Nat.le_refl _) (by omega)) ?_
    rw [all, show (List.range (lN' a)).all (fun i => decide (T (pb s + i) = wN a i)) = true from List.all_eq_true.2 (fun i hi => decide_eq_true (hx i (List.mem_range.1 hi)))] at hK
    exact hK
  · rw [f_X10_isAtWord_L28]
    refine j_len (by omega) ?_
    refine cN' (nI_ge hk (by omega)) ?_
    rw [hs.2.1, nI_add]
    refine cN' (nI_ge (b := 500) (by omega) (by decide)) ⟨vp_in_nI (by omega) (by decide), ?_⟩
    refine j_char ha hk ?_
    have hb : pb s + k < n := by omega
    have hlet := let1 (pb s + k) (by omega) (by omega)
    have hv : T (pb s + k) < 128 := by
      unfold isL at hlet; rw [decide_eq_true_eq] at hlet; omega
    have hw := (ch_at a ha k hk).2
    rw [nI_clamp (by omega), (h.1.2.2 _ hb).1 hv, nI_eq (by omega) (by omega), nI_1]
    refine ⟨fun c4 => hL () (fun i hi => ?_), fun c4 => K_of hK ?_⟩
    · by_cases e : i = k
      · rw [e]; exact c4
      · exact hx i (by omega)
    · rw [all, show (List.range (lN' a)).all (fun i => decide (T (pb s + i) = wN a i)) = false by
        rw [Bool.eq_false_iff]
        intro hc
        exact c4 (of_decide_eq_true (List.all_eq_true.1 hc k (List.mem_range.2 hk)))]
      rfl
/-- numbers -/
theorem mv_cv (hd : ∀ i, i < m → isDg (T (b + i)) = true) : mvF T b m < 100000010 ∧ cvF T b m ≤ 100000 ∧ (mvF T b m < 100000 → cvF T b m = mvF T b m) ∧ (100000 ≤ mvF T b m → cvF T b m = 100000) := by
  induction m with
  | zero => exact ⟨by show 0 < 100000010; decide, by show 0 ≤ 100000; decide, fun _ => rfl, fun h => absurd h (by show ¬ 100000 ≤ 0; decide)⟩
  | succ m ih =>
    obtain ⟨i1, i2, i3, i4⟩ := ih (fun i hi => hd i (by omega))
    have hdm := hd m (by omega)
    unfold isDg at hdm
    rw [decide_eq_true_eq] at hdm
    have em : mvF T b (m + 1) = if mvF T b m ≤ 9999999 then 10 * mvF T b m + (T (b + m) - 48) else mvF T b m := rfl
    have ec : cvF T b (m + 1) = min (10 * cvF T b m + (T (b + m) - 48)) 100000 := rfl
    rw [em, ec]
    by_cases c1 : mvF T b m < 100000
    · rw [i3 c1, if_pos (by omega)]
      refine ⟨by omega, by omega, by omega, by omega⟩
    · rw [i4 (by omega)]
      split <;> refine ⟨by omega, by omega, by omega, by omega⟩
theorem m_value (h : PM M T n s) (w : Ws T n s) (hK : K (nI (pVal T s)) M) : f_X13_value M K := by
  unfold f_X13_value
  have he := w.2.1
  have tl := w.2.2.le
  have wn := w.1
  rw [h.2.2.2.1]
  by_cases c2 : pk s = 2
  · have dg := (c2 ▸ w.2.2 : Tok T n (pb s) (pn s) 2).dig
    unfold pVal at hK
    rw [if_pos c2] at hK
    refine ⟨_, inv_loop (fun m (x : Int32) k => f_X13_value_L7 K m x (nI (pb s + k)) M) (fun k x => x = nI (mvF T (pb s) k)) (pn s - pb s) (fun m x hx => ?_) (fun m x k hk hx hL => ?_) (pn s - pb s) 0 0 (Nat.zero_add _) rfl⟩
    · rw [f_X13_value_L7, h.2.2.1, show pb s + (pn s - pb s) = pn s by omega]
      exact cT' (nI_le (Nat.le_refl _) (by omega)) (by rw [hx]; exact hK)
    · have mc := mv_cv (T := T) (b := pb s) (m := k) (fun i hi => dg _ (by omega) (by omega))
      have hdk := dg (pb s + k) (by omega) (by omega)
      unfold isDg at hdk
      rw [decide_eq_true_eq] at hdk
      have ht := h.1.2.2 (pb s + k) (by omega)
      have em : mvF T (pb s) (k + 1) = if mvF T (pb s) k ≤ 9999999 then 10 * mvF T (pb s) k + (T (pb s + k) - 48) else mvF T (pb s) k := rfl
      rw [f_X13_value_L7, h.2.2.1, h.2.2.2.2.1, c2]
      refine cN' (nI_ge (by omega) (by omega)) (cT rfl ?_)
      rw [hx, show (9999999 : Int32) = nI 9999999 from rfl, nI_leI (by omega) (by decide), nI_1, Nat.add_assoc]
      refine ⟨fun c3 => ⟨vp_in_nI (by omega) (by decide), hL _ ?_⟩, fun c3 => hL _ ?_⟩
      · rw [em, if_pos c3, nI_clamp (by omega), ht.1, show (10 : Int32) = nI 10 from rfl, show (48 : Int32) = nI 48 from rfl, nI_mul, nI_add, nI_sub (by omega)]
        congr 1
        omega
      · rw [em, if_neg c3]
  · unfold pVal at hK
    rw [if_neg c2] at hK
    refine ⟨1, ?_⟩
    rw [f_X13_value_L7, h.2.2.1, h.2.2.2.2.1, nI_leI (by omega) (by omega), show (2 : Int32) = nI 2 from rfl, nI_eq (by omega) (by decide)]
    exact ⟨fun _ => hK, fun _ => cN c2 hK⟩
theorem pVal_lt (w : Ws T n s) : pVal T s < 100000010 := by
  unfold pVal
  split
  · rename_i c2
    have dg := (c2 ▸ w.2.2 : Tok T n (pb s) (pn s) 2).dig
    exact (mv_cv (T := T) (b := pb s) (m := pn s - pb s) (fun i hi => dg _ (by omega) (by omega))).1
  · decide
theorem pChk_val : pVal T (pChk c code s) = pVal T s := by
  unfold pChk
  split <;> rfl
theorem m_look (h : PM M T n s) (w : Ws T n s) (e1 : p = nI lo) (e2 : q = nI hi) (hlo : lo < 1000) (hhi : hi < 1000) (hK : ∀ M', FrM M M' → PM M' T n (pLook T lo hi s) → K (nI (pLv T lo hi s)) M') : f_X13_look p q M K := by
  subst e1 e2
  unfold f_X13_look
  have he := w.2.1
  have tl := w.2.2.le
  have key : ∀ x : Int32, x = bi (decide (pk s = 2)) → f_X13_look_L14 (nI lo) (nI hi) K (nI lo) (nI hi) x M := fun x ex => by
    unfold f_X13_look_L14
    refine m_check h w ex (code := 1) rfl (by decide) (fun M1 f1 h1 => ?_)
    have w1 : Ws T n (pChk (decide (pk s = 2)) 1 s) := w.chk (by decide)
    refine m_value h1 w1 ?_
    rw [pChk_val]
    have vl := pVal_lt w
    refine m_inRange ?_
    rw [show decide (nI lo ≤ nI (pVal T s) ∧ nI (pVal T s) ≤ nI hi) = decide (lo ≤ pVal T s ∧ pVal T s ≤ hi) from decide_eq_decide.2 (by rw [nI_leI (by omega) (by omega), nI_leI (by omega) (by omega)])]
    refine m_check h1 w1 rfl (code := 2) rfl (by decide) (fun M2 f2 h2 => ?_)
    have w2 : Ws T n (pLook T lo hi s) := w1.chk (by decide)
    have h2' : PM M2 T n (pLook T lo hi s) := h2
    have he2 := w2.2.1
    rw [h2'.2.1, show (0 : Int32) = nI 0 from rfl, nI_eq (by omega) (by decide)]
    have fin := hK M2 (f1.trans f2) h2'
    unfold pLv at fin
    exact ⟨fun c => by rw [if_neg c] at fin; exact fin, fun c => by rw [if_pos c] at fin; exact fin⟩
  rw [h.2.2.2.2.1, show (2 : Int32) = nI 2 from rfl, nI_eq (by omega) (by decide)]
  exact ⟨fun c => key 0 (by rw [decide_eq_false c]; rfl), fun c => key 1 (by rw [decide_eq_true c]; rfl)⟩
theorem Ws.look (w : Ws T n s) : Ws T n (pLook T lo hi s) := (w.chk (by decide)).chk (by decide)
theorem Ws.num (w : Ws T n s) : Ws T n (pNum T n lo hi s) := w.look.adv
theorem m_readNumber (h : PM M T n s) (w : Ws T n s) (e1 : p = nI lo) (e2 : q = nI hi) (hlo : lo < 1000) (hhi : hi < 1000) (hK : ∀ M', FrM M M' → PM M' T n (pNum T n lo hi s) → K (nI (pLv T lo hi s)) M') : f_X13_readNumber p q M K := by
  unfold f_X13_readNumber
  refine m_look h w e1 e2 hlo hhi (fun M1 f1 h1 => ?_)
  exact m_adv h1 w.look (fun M2 f2 h2 => hK M2 (f1.trans f2) h2)
theorem c_readNumber (h : PC M T n s) (w : Ws T n s) (e1 : p = nI lo) (e2 : q = nI hi) (hlo : lo < 1000) (hhi : hi < 1000) (hK : ∀ M', FrT M M' → PC M' T n (pNum T n lo hi s) → K (nI (pLv T lo hi s)) M') : f_X10_readNumber p q M K := by
  subst e1 e2
  unfold f_X10_readNumber
  have he := w.2.1
  have tl := w.2.2.le
  have tk := w.2.2.ck
  have wn := w.1
  refine c_isAt h w (k := 4) rfl (by decide) ?_
  have e3 : (decide (pe s = 0) && decide (kc T s = 4)) = (decide (pe s = 0) && decide (pk s = 2)) := by
    congr 1
    refine decide_eq_decide.2 ?_
    unfold kc
    by_cases c0 : pk s = 0
    · rw [if_pos c0]; omega
    · rw [if_neg c0]; omega
  rw [e3]
  refine bT (fun h1 => ?_) (fun h0 => ?_)
  · rw [Bool.and_eq_true, decide_eq_true_eq, decide_eq_true_eq] at h1
    obtain ⟨h0, c2⟩ := h1
    have hs := h.2.2.2 h0
    have dg := (c2 ▸ w.2.2 : Tok T n (pb s) (pn s) 2).dig
    have mc := mv_cv (T := T) (b := pb s) (m := pn s - pb s) (fun i hi => dg _ (by omega) (by omega))
    have ev : pVal T s = mvF T (pb s) (pn s - pb s) := by unfold pVal; rw [if_pos c2]
    have fin : ∀ x : Int32, x = nI (cvF T (pb s) (pn s - pb s)) → f_X10_readNumber_L69 (nI lo) (nI hi) K (nI lo) (nI hi) x M := fun x ex => by
      subst ex
      unfold f_X10_readNumber_L69
      rw [nI_ltI (by omega) (by omega), nI_leI (by omega) (by omega)]
      have bad : ¬ (lo ≤ pVal T s ∧ pVal T s ≤ hi) → f_X10_fail 2 M (fun M' => K (nI lo) M') := fun hb => by
        refine c_fail h w (code := 2) rfl (by decide) (fun M' f' h' => ?_)
        have eL : pLook T lo hi s = pChk false 2 s := by unfold pLook; rw [decide_eq_false hb, decide_eq_true c2, pChk_T]
        have eN : pNum T n lo hi s = pChk false 2 s := by
          unfold pNum
          rw [eL, pChk_F h0, pAdv_e (show (2 : Nat) ≠ 0 by decide)]
        have := hK M' f' (by rw [eN]; exact h')
        unfold pLv at this
        rw [eL, pChk_F h0, if_neg (show ¬ (2 : Nat) = 0 by decide)] at this
        exact this
      refine ⟨fun c3 => bad (by omega), fun c3 => ⟨fun c4 => ?_, fun c4 => bad (by omega)⟩⟩
      have good : lo ≤ pVal T s ∧ pVal T s ≤ hi := by omega
      have eL : pLook T lo hi s = s := by unfold pLook; rw [decide_eq_true good, decide_eq_true c2, pChk_T, pChk_T]
      refine c_adv h w h0 (fun M' f' h' => ?_)
      have := hK M' f' (by unfold pNum; rw [eL]; exact h')
      unfold pLv at this
      rw [eL, if_pos h0, ev] at this
      rw [mc.2.2.1 (by omega)]
      exact this
    rw [hs.2.1]
    refine ⟨_, inv_loop (fun m (x : Int32) k => f_X10_readNumber_L23 (nI lo) (nI hi) K m (nI lo) (nI hi) x (nI (pb s + k)) M) (fun k x => x = nI (cvF T (pb s) k)) (pn s - pb s) (fun m x hx => ?_) (fun m x k hk hx hL => ?_) (pn s - pb s) 0 0 (Nat.zero_add _) rfl⟩
    · rw [f_X10_readNumber_L23, hs.2.2.1, show pb s + (pn s - pb s) = pn s by omega]
      exact cT' (nI_le (Nat.le_refl _) (by omega)) (fin x hx)
    · have mck := mv_cv (T := T) (b := pb s) (m := k) (fun i hi => dg _ (by omega) (by omega))
      have hdk := dg (pb s + k) (by omega) (by omega)
      unfold isDg at hdk
      rw [decide_eq_true_eq] at hdk
      have ht := (h.1.2.2 (pb s + k) (by omega)).1 (by omega)
      have ec : cvF T (pb s) (k + 1) = min (10 * cvF T (pb s) k + (T (pb s + k) - 48)) 100000 := rfl
      rw [f_X10_readNumber_L23, hs.2.2.1]
      refine cN' (nI_ge (by omega) (by omega)) (cN' (nI_ge (b := 500) (by omega) (by decide)) ⟨vp_in_nI (by omega) (by decide), ?_⟩)
      rw [nI_1, Nat.add_assoc]
      refine hL _ ?_
      rw [hx, nI_clamp (by omega), ht, show (10 : Int32) = nI 10 from rfl, show (48 : Int32) = nI 48 from rfl, show (100000 : Int32) = nI 100000 from rfl, nI_mul, nI_add, nI_sub (by omega), ec]
      by_cases c5 : 100000 < 10 * cvF T (pb s) k + T (pb s + k) - 48
      · rw [if_pos (nI_lt c5 (by omega))]
        congr 1
        omega
      · rw [if_neg (nI_nlt (by omega) (by decide))]
        congr 1
        omega
  · have nb : ¬ (pe s = 0 ∧ pk s = 2) := fun c => by rw [decide_eq_true c.1, decide_eq_true c.2] at h0; cases h0
    refine c_fail h w (code := 1) rfl (by decide) (fun M' f' h' => ?_)
    by_cases c1 : pe s = 0
    · have c2 : pk s ≠ 2 := fun c => nb ⟨c1, c⟩
      have eL : pLook T lo hi s = pChk false 1 s := by
        unfold pLook
        rw [decide_eq_false c2, pChk_F c1]
        exact pChk_e (show (1 : Nat) ≠ 0 by decide)
      have eN : pNum T n lo hi s = pChk false 1 s := by
        unfold pNum
        rw [eL, pChk_F c1, pAdv_e (show (1 : Nat) ≠ 0 by decide)]
      have := hK M' f' (by rw [eN]; exact h')
      unfold pLv at this
      rw [eL, pChk_F c1, if_neg (show ¬ (1 : Nat) = 0 by decide)] at this
      exact this
    · have eL : pLook T lo hi s = s := by unfold pLook; rw [pChk_e (by rw [pChk_e c1]; exact c1), pChk_e c1]
      have eN : pNum T n lo hi s = s := by unfold pNum; rw [eL, pAdv_e c1]
      rw [pChk_e c1] at h'
      have := hK M' f' (by rw [eN]; exact h')
      unfold pLv at this
      rw [eL, if_neg c1] at this
      exact this
end WORDS
