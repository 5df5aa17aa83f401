/-! the class's scan -/
def scC (T : Nat → Nat) (n e : Nat) : Nat := if scB T n e < n then ckV (T (scB T n e)) else 0
def ScanC (M : TM) (b e k : Nat) (M' : TM) : Prop := (∀ i, i ≠ 1 → M' i = M i) ∧ (∀ j, j ≠ 3 → j ≠ 4 → j ≠ 5 → M' 1 j = M 1 j) ∧ M' 1 5 = nI e ∧ M' 1 4 = nI b ∧ M' 1 3 = nI k
section CSCAN
variable {i : Nat} {M M' : TM} {T : Nat → Nat} {n : Nat} {K : Int32 → TM → Prop} {KV : TM → Prop} {p q u s x : Int32} {a b d e f j k m w v : Nat}
theorem ckV_L (v : Nat) : ckV v = 3 ↔ isL v = true := by
  unfold ckV
  cases h : isL v with
  | true => simp
  | false =>
    simp only [Bool.false_eq_true, if_false, iff_false]
    repeat' split
    all_goals omega
theorem ckV_D (v : Nat) : ckV v = 4 ↔ isDg v = true := by
  unfold ckV
  cases h : isL v with
  | true =>
    simp only [if_true]
    constructor
    · intro c; omega
    · intro c
      unfold isL at h; unfold isDg at c
      rw [decide_eq_true_eq] at h c
      omega
  | false =>
    cases h2 : isDg v with
    | true => simp
    | false =>
      simp only [Bool.false_eq_true, if_false, iff_false]
      repeat' split
      all_goals omega
theorem ckV_S (v : Nat) : ckV v = 2 ↔ isSp v = true := by
  unfold ckV isSp isL isDg
  simp only [decide_eq_true_eq]
  repeat' split
  all_goals omega
theorem ckV_lt (v : Nat) : ckV v < 8 := by
  unfold ckV
  repeat' split
  all_goals omega
theorem c_kindOf (h1 : v < 128 → x = nI v) (h2 : 128 ≤ v → x < 0) (h3 : v < 256) (hK : K (nI (ckV v)) M) : f_X10_kindOf x M K := by
  have lt97 : x < 97 ↔ v < 97 ∨ 128 ≤ v := by
    rcases Nat.lt_or_ge v 128 with h | h
    · rw [h1 h, show (97 : Int32) = nI 97 from rfl, nI_ltI (by omega) (by decide)]; omega
    · have := h2 h
      rw [Int32.lt_iff_toInt_lt] at this ⊢
      have e0 : (0 : Int32).toInt = 0 := rfl
      have e1 : (97 : Int32).toInt = 97 := rfl
      omega
  have gt122 : 122 < x ↔ 122 < v ∧ v < 128 := by
    rcases Nat.lt_or_ge v 128 with h | h
    · rw [h1 h, show (122 : Int32) = nI 122 from rfl, nI_ltI (by decide) (by omega)]; omega
    · have := h2 h
      rw [Int32.lt_iff_toInt_lt] at this ⊢
      have e0 : (0 : Int32).toInt = 0 := rfl
      have e1 : (122 : Int32).toInt = 122 := rfl
      omega
  have lt48 : x < 48 ↔ v < 48 ∨ 128 ≤ v := by
    rcases Nat.lt_or_ge v 128 with h | h
    · rw [h1 h, show (48 : Int32) = nI 48 from rfl, nI_ltI (by omega) (by decide)]; omega
    · have := h2 h
      rw [Int32.lt_iff_toInt_lt] at this ⊢
      have e0 : (0 : Int32).toInt = 0 := rfl
      have e1 : (48 : Int32).toInt = 48 := rfl
      omega
  have gt57 : 57 < x ↔ 57 < v ∧ v < 128 := by
    rcases Nat.lt_or_ge v 128 with h | h
    · rw [h1 h, show (57 : Int32) = nI 57 from rfl, nI_ltI (by decide) (by omega)]; omega
    · have := h2 h
      rw [Int32.lt_iff_toInt_lt] at this ⊢
      have e0 : (0 : Int32).toInt = 0 := rfl
      have e1 : (57 : Int32).toInt = 57 := rfl
      omega
  have eqn : ∀ k : Nat, k < 128 → (x = nI k ↔ v = k) := fun k hk => by
    rcases Nat.lt_or_ge v 128 with h | h
    · rw [h1 h, nI_eq (by omega) (by omega)]
    · have := h2 h
      constructor
      · intro c
        rw [c, Int32.lt_iff_toInt_lt, nI_toInt (by omega)] at this
        have e0 : (0 : Int32).toInt = 0 := rfl
        omega
      · intro c; omega
  have tail : ¬ (97 ≤ v ∧ v ≤ 122) → ¬ (48 ≤ v ∧ v ≤ 57) → f_X10_kindOf_L28 x K x M := fun a1 a2 => by
    have f1 : isL v = false := decide_eq_false a1
    have f2 : isDg v = false := decide_eq_false a2
    unfold ckV at hK
    rw [f1, f2] at hK
    simp only [Bool.false_eq_true, if_false] at hK
    unfold f_X10_kindOf_L28
    refine ⟨fun c => ?_, fun c => ?_, fun c => ?_, fun c => ?_, fun c => ?_, fun c1 c2 c3 c4 c5 => ?_⟩
    · have := (eqn 10 (by decide)).1 c; subst this; exact hK
    · have := (eqn 32 (by decide)).1 c; subst this; exact hK
    · have := (eqn 40 (by decide)).1 c; subst this; exact hK
    · have := (eqn 41 (by decide)).1 c; subst this; exact hK
    · have := (eqn 59 (by decide)).1 c; subst this; exact hK
    · rw [if_neg (fun c => c1 ((eqn 10 (by decide)).2 c)), if_neg (fun c => c2 ((eqn 32 (by decide)).2 c)), if_neg (fun c => c3 ((eqn 40 (by decide)).2 c)), if_neg (fun c => c4 ((eqn 41 (by decide)).2 c)), if_neg (fun c => c5 ((eqn 59 (by decide)).2 c))] at hK
      exact hK
  have mid : ¬ (97 ≤ v ∧ v ≤ 122) → f_X10_kindOf_L14 x K x M := fun a1 => by
    unfold f_X10_kindOf_L14
    refine ⟨fun c => tail a1 (by have := lt48.1 c; omega), fun c => ⟨fun c2 => tail a1 (by have := gt57.1 c2; omega), fun c2 => ?_⟩⟩
    have a2 : 48 ≤ v ∧ v ≤ 57 := by
      have b1 : ¬ (v < 48 ∨ 128 ≤ v) := fun h => c (lt48.2 h)
      have b2 : ¬ (57 < v ∧ v < 128) := fun h => c2 (gt57.2 h)
      omega
    rw [(ckV_D v).2 (decide_eq_true a2)] at hK
    exact hK
  unfold f_X10_kindOf
  refine ⟨fun c => mid (by have := lt97.1 c; omega), fun c => ⟨fun c2 => mid (by have := gt122.1 c2; omega), fun c2 => ?_⟩⟩
  have a2 : 97 ≤ v ∧ v ≤ 122 := by
    have b1 : ¬ (v < 97 ∨ 128 ≤ v) := fun h => c (lt97.2 h)
    have b2 : ¬ (122 < v ∧ v < 128) := fun h => c2 (gt122.2 h)
    omega
  rw [(ckV_L v).2 (decide_eq_true a2)] at hK
  exact hK
theorem c_kindAt (h : CTx M T n) (hi : i < n) (hK : K (nI (ckV (T i))) M) : f_X10_kindOf (M 2 i) M K := c_kindOf (h.2.2 i hi).1 (h.2.2 i hi).2.1 (h.2.2 i hi).2.2 hK
theorem c_advance (h : CTx M T n) (he : M 1 5 = nI e) (hen : e ≤ n) (hK : ∀ M', ScanC M (scB T n e) (scE T n e) (scC T n e) M' → KV M') : f_X10_advance M KV := by
  unfold f_X10_advance
  have h5 := h.2.1
  intro M1 e1
  obtain ⟨r1, r2, r3⟩ := run_spec isSp T n e
  have hb : scB T n e ≤ n := run_le hen
  have hbe : scB T n e = run isSp T n e := rfl
  rw [← hbe] at r1 r2 r3
  have key : ∀ s : TM, s = u2 M 1 4 (nI (scB T n e)) → f_X10_advance_L48 KV s := fun s hs => by
    unfold f_X10_advance_L48
    intro M3 e3 M4 e4
    have hs4 : s 1 4 = nI (scB T n e) := by rw [hs, u2_s]
    have m44 : M4 1 4 = nI (scB T n e) := by rw [e4, u2_f (by decide), e3, u2_f (by decide)]; exact hs4
    have m45 : M4 1 5 = nI (scB T n e) := by rw [e4, u2_f (by decide), e3, u2_s]; exact hs4
    have m43 : M4 1 3 = 0 := by rw [e4, u2_s]
    have f4 : (∀ i, i ≠ 1 → M4 i = M i) ∧ (∀ j, j ≠ 3 → j ≠ 4 → j ≠ 5 → M4 1 j = M 1 j) := by
      refine ⟨fun i hi => by rw [e4, u2_n hi, e3, u2_n hi, hs, u2_n hi], fun j h1 h2 h3 => by rw [e4, u2_f h1, e3, u2_f h3, hs, u2_f h2]⟩
    clear e4 e3 hs hs4
    have ht4 : CTx M4 T n := h.of (f4.2 2 (by decide) (by decide) (by decide)) (f4.1 2 (by decide))
    have fin : ∀ (M9 : TM) (e' k' : Nat), (∀ i, i ≠ 1 → M9 i = M4 i) → (∀ j, j ≠ 3 → j ≠ 5 → M9 1 j = M4 1 j) → M9 1 5 = nI e' → M9 1 3 = nI k' → e' = scE T n e → k' = scC T n e → KV M9 := fun M9 e' k' q1 q2 q3 q4 q5 q6 => by
      subst q5; subst q6
      exact hK M9 ⟨fun i hi => by rw [q1 i hi, f4.1 i hi], fun j h1 h2 h3 => by rw [q2 j h1 h3, f4.2 j h1 h2 h3], q3, by rw [q2 4 (by decide) (by decide)]; exact m44, q4⟩
    rw [m44, ht4.1, nI_ltI (by omega) (by omega)]
    refine ⟨fun c1 => ?_, fun c1 => ?_⟩
    · refine ⟨vp_in_nI (by omega) (by decide), ?_⟩
      rw [nI_clamp (by omega)]
      refine c_kindAt ht4 c1 ?_
      intro M9 e9 M10 e10
      have v9 : M9 1 5 = nI (scB T n e) := by rw [e9, u2_f (by decide)]; exact m45
      rw [v9, nI_1] at e10
      have m103 : M10 1 3 = nI (ckV (T (scB T n e))) := by rw [e10, u2_f (by decide), e9, u2_s]
      have m105 : M10 1 5 = nI (scB T n e + 1) := by rw [e10, u2_s]
      have f10 : (∀ i, i ≠ 1 → M10 i = M4 i) ∧ (∀ j, j ≠ 3 → j ≠ 5 → M10 1 j = M4 1 j) := ⟨fun i hi => by rw [e10, u2_n hi, e9, u2_n hi], fun j h1 h2 => by rw [e10, u2_f h2, e9, u2_f h1]⟩
      clear e9 e10
      have ht10 : CTx M10 T n := ht4.of (f10.2 2 (by decide) (by decide)) (f10.1 2 (by decide))
      have eC : scC T n e = ckV (T (scB T n e)) := by unfold scC; rw [if_pos c1]
      have loop : ∀ (P : Nat → Bool) (kk : Nat), (∀ v, ckV v = kk ↔ P v = true) → P (T (scB T n e)) = true → scE T n e = run P T n (scB T n e) → ckV (T (scB T n e)) = kk → ∃ m, f_X10_advance_L115 KV m M10 := fun P kk hP p1 hE hk => by
        rw [run_step c1 p1] at hE
        obtain ⟨s1, s2, s3⟩ := run_spec P T n (scB T n e + 1)
        have sle : run P T n (scB T n e + 1) ≤ n := run_le (by omega)
        refine ⟨_, inv_loop (fun m (s : TM) _ => f_X10_advance_L115 KV m s) (fun k s => s = u2 M10 1 5 (nI (scB T n e + 1 + k))) (run P T n (scB T n e + 1) - (scB T n e + 1)) (fun m s hs => ?_) (fun m s k hk' hs hL => ?_) (run P T n (scB T n e + 1) - (scB T n e + 1)) 0 M10 (Nat.zero_add _) (by rw [Nat.add_zero, ← m105, u2_id, up_id, uR_id])⟩
        · rw [show scB T n e + 1 + (run P T n (scB T n e + 1) - (scB T n e + 1)) = run P T n (scB T n e + 1) by omega] at hs
          have hts : CTx s T n := ht10.of (by rw [hs, u2_f (by decide)]) (by rw [hs, u2_n (by decide)])
          have fs : KV s := fin s (run P T n (scB T n e + 1)) kk (fun i hi => by rw [hs, u2_n hi, f10.1 i hi]) (fun j h1 h2 => by rw [hs, u2_f h2, f10.2 j h1 h2]) (by rw [hs, u2_s]) (by rw [hs, u2_f (by decide), m103, hk]) hE.symm (by rw [eC, hk])
          rw [f_X10_advance_L115, hts.1, show s 1 5 = nI (run P T n (scB T n e + 1)) by rw [hs, u2_s], nI_leI (by omega) (by omega)]
          refine ⟨fun _ => fs, fun c2 => ⟨vp_in_nI (by omega) (by decide), ?_⟩⟩
          rw [nI_clamp (by omega)]
          refine c_kindAt hts (by omega) ?_
          rw [show s 1 3 = nI kk by rw [hs, u2_f (by decide), m103, hk]]
          refine cN (fun c3 => ?_) fs
          have hlt := ckV_lt (T (run P T n (scB T n e + 1)))
          have hlt2 := ckV_lt (T (scB T n e))
          have := nI_inj (by omega) (by omega) c3
          exact s3 ⟨by omega, (hP _).1 this⟩
        · have hts : CTx s T n := ht10.of (by rw [hs, u2_f (by decide)]) (by rw [hs, u2_n (by decide)])
          obtain ⟨q1, q2⟩ := s2 (scB T n e + 1 + k) (by omega) (by omega)
          have hs5 : s 1 5 = nI (scB T n e + 1 + k) := by rw [hs, u2_s]
          rw [f_X10_advance_L115, hts.1, hs5, nI_leI (by omega) (by omega)]
          refine cN' (by omega) ⟨vp_in_nI (by omega) (by decide), ?_⟩
          rw [nI_clamp (by omega)]
          refine c_kindAt hts q1 ?_
          rw [show s 1 3 = nI kk by rw [hs, u2_f (by decide), m103, hk], (hP _).2 q2]
          refine cT rfl ?_
          intro M17 e17
          refine hL M17 ?_
          rw [e17, hs5, hs, u2_u2, nI_1, Nat.add_assoc]
      have hlt2 := ckV_lt (T (scB T n e))
      rw [m103, show (3 : Int32) = nI 3 from rfl, show (4 : Int32) = nI 4 from rfl, nI_eq (by omega) (by decide), nI_eq (by omega) (by decide)]
      refine ⟨fun c3 => ?_, fun c3 => ⟨fun c4 => ?_, fun c4 => ?_⟩⟩
      · have pL := (ckV_L _).1 c3
        exact loop isL 3 ckV_L pL (by unfold scE; rw [if_pos c1, if_pos pL]) c3
      · have nL : isL (T (scB T n e)) = false := by
          rw [Bool.eq_false_iff]; exact fun c => c3 ((ckV_L _).2 c)
        have nD : isDg (T (scB T n e)) = false := by
          rw [Bool.eq_false_iff]; exact fun c => c4 ((ckV_D _).2 c)
        exact fin M10 (scB T n e + 1) (ckV (T (scB T n e))) f10.1 f10.2 m105 m103 (by unfold scE; rw [if_pos c1, if_neg (by rw [nL]; decide), if_neg (by rw [nD]; decide)]) eC.symm
      · have pD := (ckV_D _).1 c4
        have nL : isL (T (scB T n e)) = false := by
          rw [Bool.eq_false_iff]; exact fun c => c3 ((ckV_L _).2 c)
        exact loop isDg 4 ckV_D pD (by unfold scE; rw [if_pos c1, if_neg (by rw [nL]; decide), if_pos pD]) c4
    · exact fin M4 (scB T n e) 0 (fun _ _ => rfl) (fun _ _ _ => rfl) m45 m43 (by unfold scE; rw [if_neg c1]) (by unfold scC; rw [if_neg c1])
  refine ⟨_, inv_loop (fun m (s : TM) _ => f_X10_advance_L8 KV m s) (fun k s => s = u2 M 1 4 (nI (e + k))) (scB T n e - e) (fun m s hs => ?_) (fun m s k hk hs hL => ?_) (scB T n e - e) 0 M1 (Nat.zero_add _) (by rw [Nat.add_zero, e1, he])⟩
  · rw [show e + (scB T n e - e) = scB T n e by omega] at hs
    have ht : CTx s T n := h.of (by rw [hs, u2_f (by decide)]) (by rw [hs, u2_n (by decide)])
    rw [f_X10_advance_L8, ht.1, show s 1 4 = nI (scB T n e) by rw [hs, u2_s], nI_leI (by omega) (by omega)]
    refine ⟨fun _ => key s hs, fun c1 => ⟨vp_in_nI (by omega) (by decide), ?_⟩⟩
    rw [nI_clamp (by omega)]
    refine c_kindAt ht (by omega) ?_
    refine cN (fun c2 => ?_) (key s hs)
    have hlt := ckV_lt (T (scB T n e))
    have := nI_inj (b := 2) (by omega) (by decide) c2
    exact r3 ⟨by omega, (ckV_S _).1 this⟩
  · obtain ⟨q1, q2⟩ := r2 (e + k) (by omega) (by omega)
    have ht : CTx s T n := h.of (by rw [hs, u2_f (by decide)]) (by rw [hs, u2_n (by decide)])
    have hs4 : s 1 4 = nI (e + k) := by rw [hs, u2_s]
    rw [f_X10_advance_L8, ht.1, hs4, nI_leI (by omega) (by omega)]
    refine cN' (by omega) ⟨vp_in_nI (by omega) (by decide), ?_⟩
    rw [nI_clamp (by omega)]
    refine c_kindAt ht q1 ?_
    refine cT (by rw [(ckV_S _).2 q2]; rfl) ?_
    intro M25 e25
    refine hL M25 ?_
    rw [e25, hs4, hs, u2_u2, nI_1, Nat.add_assoc]
end CSCAN
