/-! a text's tokens: T its bytes as numbers, n its length; b where a token begins, e where it ends, k its kind -/
def isL (v : Nat) : Bool := decide (97 ≤ v ∧ v ≤ 122)
def isDg (v : Nat) : Bool := decide (48 ≤ v ∧ v ≤ 57)
def isSp (v : Nat) : Bool := decide (v = 32 ∨ v = 10)
def runF (p : Nat → Bool) (T : Nat → Nat) (n : Nat) : Nat → Nat → Nat
  | 0, i => i
  | f + 1, i => if i < n ∧ p (T i) = true then runF p T n f (i + 1) else i
def run (p : Nat → Bool) (T : Nat → Nat) (n i : Nat) : Nat := runF p T n (n - i) i
def IsRun (p : Nat → Bool) (T : Nat → Nat) (n i j : Nat) : Prop := i ≤ j ∧ (∀ x, i ≤ x → x < j → x < n ∧ p (T x) = true) ∧ ¬ (j < n ∧ p (T j) = true)
theorem runF_spec (p : Nat → Bool) (T : Nat → Nat) (n : Nat) : ∀ f i, n ≤ i + f → IsRun p T n i (runF p T n f i) := by
  intro f
  induction f with
  | zero => intro i h; exact ⟨Nat.le_refl _, fun x h1 h2 => by have : runF p T n 0 i = i := rfl; omega, fun h2 => by have : runF p T n 0 i = i := rfl; omega⟩
  | succ f ih =>
    intro i h
    unfold runF
    split
    · rename_i hc
      obtain ⟨h1, h2, h3⟩ := ih (i + 1) (by omega)
      refine ⟨by omega, fun x hx1 hx2 => ?_, h3⟩
      by_cases e : x = i
      · rw [e]; exact hc
      · exact h2 x (by omega) hx2
    · rename_i hc
      exact ⟨Nat.le_refl _, fun x h1 h2 => by omega, hc⟩
theorem run_spec (p : Nat → Bool) (T : Nat → Nat) (n i : Nat) : IsRun p T n i (run p T n i) := runF_spec p T n _ _ (by omega)
theorem run_uniq {p : Nat → Bool} {T : Nat → Nat} {n i j k : Nat} (h1 : IsRun p T n i j) (h2 : IsRun p T n i k) : j = k := by
  rcases Nat.lt_trichotomy j k with h | h | h
  · exact absurd (h2.2.1 j h1.1 h) h1.2.2
  · exact h
  · exact absurd (h1.2.1 k h2.1 h) h2.2.2
theorem run_le {p : Nat → Bool} {T : Nat → Nat} {n i : Nat} (h : i ≤ n) : run p T n i ≤ n := by
  obtain ⟨h1, h2, h3⟩ := run_spec p T n i
  rcases Nat.lt_or_ge n (run p T n i) with h4 | h4
  · have := (h2 n h h4).1; omega
  · exact h4
theorem run_step {p : Nat → Bool} {T : Nat → Nat} {n i : Nat} (h : i < n) (hp : p (T i) = true) : run p T n i = run p T n (i + 1) := by
  obtain ⟨h1, h2, h3⟩ := run_spec p T n (i + 1)
  refine run_uniq (run_spec p T n i) ⟨by omega, fun x hx1 hx2 => ?_, h3⟩
  by_cases e : x = i
  · rw [e]; exact ⟨h, hp⟩
  · exact h2 x (by omega) hx2
def scB (T : Nat → Nat) (n e : Nat) : Nat := run isSp T n e
def scE (T : Nat → Nat) (n e : Nat) : Nat := if scB T n e < n then (if isL (T (scB T n e)) then run isL T n (scB T n e) else if isDg (T (scB T n e)) then run isDg T n (scB T n e) else scB T n e + 1) else scB T n e
def scK (T : Nat → Nat) (n e : Nat) : Nat := if scB T n e < n then (if isL (T (scB T n e)) then 1 else if isDg (T (scB T n e)) then 2 else 3) else 0
def ckV (v : Nat) : Nat := if isL v then 3 else if isDg v then 4 else if v = 10 then 2 else if v = 32 then 2 else if v = 40 then 6 else if v = 41 then 7 else if v = 59 then 5 else 1
/-- the model's buffer, the class's -/
def MT (M : TM) (T : Nat → Nat) (n : Nat) : Prop := M 699 16 = nI n ∧ n ≤ 500 ∧ ∀ i, i < n → M 707 i = nI (T i) ∧ T i < 256
def CTx (M : TM) (T : Nat → Nat) (n : Nat) : Prop := M 1 2 = nI n ∧ n ≤ 500 ∧ ∀ i, i < n → (T i < 128 → M 2 i = nI (T i)) ∧ (128 ≤ T i → M 2 i < 0) ∧ T i < 256
section SCAN
variable {i : Nat} {M M' : TM} {T : Nat → Nat} {n : Nat} {K : Int32 → TM → Prop} {KV : TM → Prop} {p q u s v x : Int32} {a b d e f j k m w : Nat}
theorem u2_u2 (M : TM) (k j : Nat) (v w : Int32) : u2 (u2 M k j v) k j w = u2 M k j w := by
  rw [u2_id, u2_id, u2_id, uR_s, uR_uR, up_up]
theorem MT.uq (h : MT M T n) (hj : j ≠ 16) : MT (u2 M 699 j v) T n := by
  unfold MT
  rw [u2_f (fun e => hj e.symm), u2_n (by decide)]
  exact h
theorem MT.of (h : MT M T n) (h1 : M' 699 16 = M 699 16) (h2 : M' 707 = M 707) : MT M' T n := by
  unfold MT
  rw [h1, h2]
  exact h
theorem CTx.of (h : CTx M T n) (h1 : M' 1 2 = M 1 2) (h2 : M' 2 = M 2) : CTx M' T n := by
  unfold CTx
  rw [h1, h2]
  exact h
theorem m_byteAt (h : MT M T n) (e1 : p = nI i) (hi : i ≤ 500) (hK : K (if i < n then nI (T i) else -1) M) : f_X13_byteAt p M K := by
  subst e1
  unfold f_X13_byteAt
  have h2 := h.2.1
  rw [h.1, nI_leI (by omega) (by omega)]
  refine ⟨fun c => by rw [if_neg (by omega)] at hK; exact hK, fun c => ?_⟩
  rw [if_pos (by omega)] at hK
  refine ⟨vp_in_nI (by omega) (by decide), ?_⟩
  rw [nI_clamp (by omega), (h.2.2 i (by omega)).1]
  exact hK
theorem m_isLetter (h : MT M T n) (e1 : p = nI i) (hi : i ≤ 500) (hK : K (bi (decide (i < n) && isL (T i))) M) : f_X13_isLetter p M K := by
  unfold f_X13_isLetter
  refine m_byteAt h e1 hi ?_
  by_cases c : i < n
  · have ht := (h.2.2 i c).2
    rw [if_pos c]
    rw [decide_eq_true c, Bool.true_and] at hK
    refine ⟨fun c1 => K_of hK ?_, fun c1 => ?_⟩
    · have := (nI_ltI (b := 97) (by omega) (by decide)).1 c1
      unfold isL; rw [decide_eq_false (by omega)]; rfl
    · have c1' : ¬ T i < 97 := fun h => c1 (nI_lt h (by decide))
      refine m_byteAt h e1 hi ?_
      rw [if_pos c]
      refine ⟨fun c2 => K_of hK ?_, fun c2 => K_of hK ?_⟩
      · have := (nI_ltI (a := 122) (by decide) (by omega)).1 c2
        unfold isL; rw [decide_eq_false (by omega)]; rfl
      · have : ¬ 122 < T i := fun h => c2 (nI_lt h (by omega))
        unfold isL; rw [decide_eq_true (by omega)]; rfl
  · rw [if_neg c]
    rw [decide_eq_false c, Bool.false_and] at hK
    exact cT' (by decide) hK
theorem m_isDigit (h : MT M T n) (e1 : p = nI i) (hi : i ≤ 500) (hK : K (bi (decide (i < n) && isDg (T i))) M) : f_X13_isDigit p M K := by
  unfold f_X13_isDigit
  refine m_byteAt h e1 hi ?_
  by_cases c : i < n
  · have ht := (h.2.2 i c).2
    rw [if_pos c]
    rw [decide_eq_true c, Bool.true_and] at hK
    refine ⟨fun c1 => K_of hK ?_, fun c1 => ?_⟩
    · have := (nI_ltI (b := 48) (by omega) (by decide)).1 c1
      unfold isDg; rw [decide_eq_false (by omega)]; rfl
    · have c1' : ¬ T i < 48 := fun h => c1 (nI_lt h (by decide))
      refine m_byteAt h e1 hi ?_
      rw [if_pos c]
      refine ⟨fun c2 => K_of hK ?_, fun c2 => K_of hK ?_⟩
      · have := (nI_ltI (a := 57) (by decide) (by omega)).1 c2
        unfold isDg; rw [decide_eq_false (by omega)]; rfl
      · have : ¬ 57 < T i := fun h => c2 (nI_lt h (by omega))
        unfold isDg; rw [decide_eq_true (by omega)]; rfl
  · rw [if_neg c]
    rw [decide_eq_false c, Bool.false_and] at hK
    exact cT' (by decide) hK
/-- the model's scan -/
def ScanM (M : TM) (b e k : Nat) (M' : TM) : Prop := (∀ i, i ≠ 699 → M' i = M i) ∧ (∀ j, j ≠ 17 → j ≠ 18 → j ≠ 19 → M' 699 j = M 699 j) ∧ M' 699 17 = nI e ∧ M' 699 18 = nI b ∧ M' 699 19 = nI k
theorem m_scan (h : MT M T n) (he : M 699 17 = nI e) (hen : e ≤ n) (hK : ∀ M', ScanM M (scB T n e) (scE T n e) (scK T n e) M' → KV M') : f_X13_scan M KV := by
  unfold f_X13_scan
  have h5 := h.2.1
  obtain ⟨r1, r2, r3⟩ := run_spec isSp T n e
  have hb : scB T n e ≤ n := run_le hen
  have hbe : scB T n e = run isSp T n e := rfl
  rw [← hbe] at r1 r2 r3
  refine ⟨_, inv_loop (fun m (s : TM) _ => f_X13_scan_L0 KV m s) (fun k s => s = u2 M 699 17 (nI (e + k))) (scB T n e - e) (fun m s hs => ?_) (fun m s k hk hs hL => ?_) (scB T n e - e) 0 M (Nat.zero_add _) (by rw [Nat.add_zero, ← he, u2_id, up_id, uR_id])⟩
  · rw [show e + (scB T n e - e) = scB T n e by omega] at hs
    have hs17 : s 699 17 = nI (scB T n e) := by rw [hs, u2_s]
    have ht : MT s T n := by rw [hs]; exact h.uq (by decide)
    rw [f_X13_scan_L0]
    refine m_byteAt ht hs17 (by omega) ?_
    have nsp : ∀ v : Nat, (scB T n e < n → v = T (scB T n e)) → (scB T n e < n → v ≠ 32 ∧ v ≠ 10) := fun v hv hlt => by
      rw [hv hlt]
      constructor <;> intro c <;> exact r3 ⟨hlt, by unfold isSp; rw [c]; decide⟩
    have n32 : ¬ (if scB T n e < n then nI (T (scB T n e)) else -1) = 32 := by
      by_cases c : scB T n e < n
      · rw [if_pos c]
        exact fun c2 => (nsp _ (fun _ => rfl) c).1 (nI_inj (b := 32) (by have := (h.2.2 _ c).2; omega) (by decide) c2)
      · rw [if_neg c]; decide
    have n10 : ¬ (if scB T n e < n then nI (T (scB T n e)) else -1) = 10 := by
      by_cases c : scB T n e < n
      · rw [if_pos c]
        exact fun c2 => (nsp _ (fun _ => rfl) c).2 (nI_inj (b := 10) (by have := (h.2.2 _ c).2; omega) (by decide) c2)
      · rw [if_neg c]; decide
    refine cN' n32 ?_
    refine m_byteAt ht hs17 (by omega) ?_
    refine cN n10 ?_
    intro M8 e8
    have ht8 : MT M8 T n := by rw [e8]; exact ht.uq (by decide)
    have h817 : M8 699 17 = nI (scB T n e) := by rw [e8, u2_f (by decide)]; exact hs17
    have h818 : M8 699 18 = nI (scB T n e) := by rw [e8, u2_s]; exact hs17
    have f8 : (∀ i, i ≠ 699 → M8 i = M i) ∧ (∀ j, j ≠ 17 → j ≠ 18 → j ≠ 19 → M8 699 j = M 699 j) := by
      refine ⟨fun i hi => by rw [e8, u2_n hi, hs, u2_n hi], fun j h1 h2 h3 => by rw [e8, u2_f h2, hs, u2_f h1]⟩
    clear e8 hs hs17
    have fin : ∀ (M9 : TM) (e' k' : Nat), (∀ i, i ≠ 699 → M9 i = M8 i) → (∀ j, j ≠ 17 → j ≠ 19 → M9 699 j = M8 699 j) → M9 699 17 = nI e' → M9 699 19 = nI k' → e' = scE T n e → k' = scK T n e → KV M9 := fun M9 e' k' q1 q2 q3 q4 q5 q6 => by
      subst q5; subst q6
      exact hK M9 ⟨fun i hi => by rw [q1 i hi, f8.1 i hi], fun j h1 h2 h3 => by rw [q2 j h1 h3, f8.2 j h1 h2 h3], q3, by rw [q2 18 (by decide) (by decide)]; exact h818, q4⟩
    rw [h817, ht8.1, nI_ltI (by omega) (by omega)]
    refine ⟨fun c1 => ?_, fun c1 => ?_⟩
    · refine m_isLetter ht8 rfl (by omega) ?_
      rw [decide_eq_true c1, Bool.true_and]
      refine bF (fun c2 => ?_) (fun c2 => ?_)
      · obtain ⟨s1, s2, s3⟩ := run_spec isL T n (scB T n e)
        have sle : run isL T n (scB T n e) ≤ n := run_le hb
        refine ⟨_, inv_loop (fun m (s : TM) _ => f_X13_scan_L77 KV m s) (fun k s => s = u2 M8 699 17 (nI (scB T n e + k))) (run isL T n (scB T n e) - scB T n e) (fun m s hs => ?_) (fun m s k hk hs hL => ?_) (run isL T n (scB T n e) - scB T n e) 0 M8 (Nat.zero_add _) (by rw [Nat.add_zero, ← h817, u2_id, up_id, uR_id])⟩
        · rw [show scB T n e + (run isL T n (scB T n e) - scB T n e) = run isL T n (scB T n e) by omega] at hs
          rw [f_X13_scan_L77]
          refine m_isLetter (i := run isL T n (scB T n e)) (T := T) (n := n) (by rw [hs]; exact ht8.uq (by decide)) (by rw [hs, u2_s]) (by omega) ?_
          rw [show (decide (run isL T n (scB T n e) < n) && isL (T (run isL T n (scB T n e)))) = false by
            rw [Bool.eq_false_iff]; intro c; rw [Bool.and_eq_true, decide_eq_true_eq] at c; exact s3 c]
          refine bF (fun c => by cases c) (fun _ => ?_)
          intro M31 e31
          subst e31; subst hs
          exact fin _ (run isL T n (scB T n e)) 1 (fun i hi => by rw [u2_n hi, u2_n hi]) (fun j h1 h2 => by rw [u2_f h2, u2_f h1]) (by rw [u2_f (by decide), u2_s]) (by rw [u2_s]; rfl) (by unfold scE; rw [if_pos c1, if_pos c2]) (by unfold scK; rw [if_pos c1, if_pos c2])
        · rw [f_X13_scan_L77]
          obtain ⟨q1, q2⟩ := s2 (scB T n e + k) (by omega) (by omega)
          refine m_isLetter (i := scB T n e + k) (T := T) (n := n) (by rw [hs]; exact ht8.uq (by decide)) (by rw [hs, u2_s]) (by omega) ?_
          rw [decide_eq_true q1, q2]
          refine bF (fun _ => ?_) (fun c => by cases c)
          intro M32 e32
          refine hL M32 ?_
          rw [e32, hs, u2_s, u2_u2, nI_1, Nat.add_assoc]
      · refine m_isDigit ht8 h817 (by omega) ?_
        rw [decide_eq_true c1, Bool.true_and]
        refine bF (fun c3 => ?_) (fun c3 => ?_)
        · obtain ⟨s1, s2, s3⟩ := run_spec isDg T n (scB T n e)
          have sle : run isDg T n (scB T n e) ≤ n := run_le hb
          refine ⟨_, inv_loop (fun m (s : TM) _ => f_X13_scan_L120 KV m s) (fun k s => s = u2 M8 699 17 (nI (scB T n e + k))) (run isDg T n (scB T n e) - scB T n e) (fun m s hs => ?_) (fun m s k hk hs hL => ?_) (run isDg T n (scB T n e) - scB T n e) 0 M8 (Nat.zero_add _) (by rw [Nat.add_zero, ← h817, u2_id, up_id, uR_id])⟩
          · rw [show scB T n e + (run isDg T n (scB T n e) - scB T n e) = run isDg T n (scB T n e) by omega] at hs
            rw [f_X13_scan_L120]
            refine m_isDigit (i := run isDg T n (scB T n e)) (T := T) (n := n) (by rw [hs]; exact ht8.uq (by decide)) (by rw [hs, u2_s]) (by omega) ?_
            rw [show (decide (run isDg T n (scB T n e) < n) && isDg (T (run isDg T n (scB T n e)))) = false by
              rw [Bool.eq_false_iff]; intro c; rw [Bool.and_eq_true, decide_eq_true_eq] at c; exact s3 c]
            refine bF (fun c => by cases c) (fun _ => ?_)
            intro M31 e31
            subst e31; subst hs
            exact fin _ (run isDg T n (scB T n e)) 2 (fun i hi => by rw [u2_n hi, u2_n hi]) (fun j h1 h2 => by rw [u2_f h2, u2_f h1]) (by rw [u2_f (by decide), u2_s]) (by rw [u2_s]; rfl) (by unfold scE; rw [if_pos c1, if_neg (by rw [c2]; decide), if_pos c3]) (by unfold scK; rw [if_pos c1, if_neg (by rw [c2]; decide), if_pos c3])
          · rw [f_X13_scan_L120]
            obtain ⟨q1, q2⟩ := s2 (scB T n e + k) (by omega) (by omega)
            refine m_isDigit (i := scB T n e + k) (T := T) (n := n) (by rw [hs]; exact ht8.uq (by decide)) (by rw [hs, u2_s]) (by omega) ?_
            rw [decide_eq_true q1, q2]
            refine bF (fun _ => ?_) (fun c => by cases c)
            intro M32 e32
            refine hL M32 ?_
            rw [e32, hs, u2_s, u2_u2, nI_1, Nat.add_assoc]
        · intro M18 e18 M19 e19
          subst e19; subst e18
          exact fin _ (scB T n e + 1) 3 (fun i hi => by rw [u2_n hi, u2_n hi]) (fun j h1 h2 => by rw [u2_f h2, u2_f h1]) (by rw [u2_f (by decide), u2_s, h817, nI_1]) (by rw [u2_s]; rfl) (by unfold scE; rw [if_pos c1, if_neg (by rw [c2]; decide), if_neg (by rw [c3]; decide)]) (by unfold scK; rw [if_pos c1, if_neg (by rw [c2]; decide), if_neg (by rw [c3]; decide)])
    · intro M34 e34
      subst e34
      exact fin _ (scB T n e) 0 (fun i hi => by rw [u2_n hi]) (fun j h1 h2 => by rw [u2_f h2]) (by rw [u2_f (by decide)]; exact h817) (by rw [u2_s]; rfl) (by unfold scE; rw [if_neg c1]) (by unfold scK; rw [if_neg c1])
  · obtain ⟨q1, q2⟩ := r2 (e + k) (by omega) (by omega)
    have ht : MT s T n := by rw [hs]; exact h.uq (by decide)
    have hs17 : s 699 17 = nI (e + k) := by rw [hs, u2_s]
    rw [f_X13_scan_L0]
    refine m_byteAt ht hs17 (by omega) ?_
    rw [if_pos q1]
    have q3 : T (e + k) = 32 ∨ T (e + k) = 10 := of_decide_eq_true q2
    have nx : ∀ M4 : TM, M4 = u2 s 699 17 (s 699 17 + 1) → f_X13_scan_L0 KV m M4 := fun M4 e4 => hL M4 (by rw [e4, hs17, hs, u2_u2, nI_1, Nat.add_assoc])
    rcases q3 with q3 | q3
    · refine cT' (by rw [q3]; rfl) ?_
      intro M4 e4
      exact nx M4 e4
    · refine cN' (by rw [q3]; decide) ?_
      refine m_byteAt ht hs17 (by omega) ?_
      rw [if_pos q1]
      refine cT (by rw [q3]; rfl) ?_
      intro M4 e4
      exact nx M4 e4
end SCAN
