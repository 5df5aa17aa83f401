/-! the script's text: the model -/
def FrK (M M' : TM) : Prop := (∀ i, i ≠ 699 → i ≠ 708 → M' i = M i) ∧ ∀ j, j < 17 ∨ 22 ≤ j → j ≠ 26 → M' 699 j = M 699 j
def Mc (M : TM) (C : CmT) (a b : Nat) : Prop := ∀ k, a ≤ k → k < b → M 708 (5 * k) = C k 0 ∧ (∀ j, j < (nl (C k 0).toNatClampNeg).length → M 708 (5 * k + (1 + j)) = C k (1 + j)) ∧ (C k 0 = 8 → M 708 (5 * k + 2) = C k 5)
def Mres (T : Nat → Nat) (n : Nat) (M M' : TM) (c : Nat) (y' : PY) : Prop := FrK M M' ∧ PM M' T n y'.1 ∧ (pe y'.1 = 0 → M' 699 26 = nI y'.2.1 ∧ (∀ i, i < 5 * c → M' 708 i = M 708 i) ∧ Mc M' y'.2.2 c y'.2.1)
section MSCRIPT
variable {T : Nat → Nat} {n : Nat} {s : PS} {y y' : PY} {M M1 M2 M' : TM} {C C' : CmT} {KV : TM → Prop} {KI : Int32 → TM → Prop} {a b c d e f i j k l m v x' lo hi : Nat} {p q p1 p2 : Int32}
theorem FrK.refl (M : TM) : FrK M M := ⟨fun _ _ _ => rfl, fun _ _ _ => rfl⟩
theorem FrK.trans (h : FrK M M1) (g : FrK M1 M') : FrK M M' := ⟨fun i i1 i2 => (g.1 i i1 i2).trans (h.1 i i1 i2), fun j j1 j2 => (g.2 j j1 j2).trans (h.2 j j1 j2)⟩
theorem FrM.toK (h : FrM M M') : FrK M M' := ⟨fun i i1 _ => h.1 i i1, fun j j1 _ => h.2 j j1⟩
theorem k8 : FrK M (u2 M 708 x' q) := ⟨fun i _ i2 => u2_n i2, fun j _ _ => by rw [u2_n (by decide)]⟩
theorem k26 : FrK M (u2 M 699 26 q) := ⟨fun i i1 _ => u2_n i1, fun j _ j2 => u2_f j2⟩
theorem PM.w8 (h : PM M T n s) : PM (u2 M 708 x' q) T n s := h.fr (u2_n (by decide)) (u2_n (by decide))
theorem PM.w26 (h : PM M T n s) : PM (u2 M 699 26 q) T n s := by
  obtain ⟨h1, h2, h3, h4, h5, h6⟩ := h
  exact ⟨h1.uq (by decide), by rw [u2_f (by decide)]; exact h2, by rw [u2_f (by decide)]; exact h3, by rw [u2_f (by decide)]; exact h4, by rw [u2_f (by decide)]; exact h5, fun hne => by rw [u2_f (by decide)]; exact h6 hne⟩
theorem p2n (a : Nat) : nI a + (2 : Int32) = nI (a + 2) := nI_add a 2
theorem p3n (a : Nat) : nI a + (3 : Int32) = nI (a + 3) := nI_add a 3
theorem p4n (a : Nat) : nI a + (4 : Int32) = nI (a + 4) := nI_add a 4
theorem FrM.c8 (h : FrM M M') : M' 708 = M 708 := h.1 708 (by decide)
theorem FrM.c26 (h : FrM M M') : M' 699 26 = M 699 26 := h.2 26 (by omega)
theorem m_cmdHere (h : PM M T n s) (w : Ws T n s) (hK : KI (ff (fun a => pWd T s a) 9) M) : f_X13_commandHere M KI := by
  unfold f_X13_commandHere
  refine ⟨_, inv_loop (fun m (t : TM) k => f_X13_commandHere_L2 KI m (nI k) t) (fun k t => t = M ∧ ∀ j, j < k → pWd T s j = false) 9 (fun m t ht => ?_) (fun m t k hk ht hL => ?_) 9 0 M (Nat.zero_add _) ⟨rfl, fun j hj => absurd hj (Nat.not_lt_zero _)⟩⟩
  · obtain ⟨t1, t2⟩ := ht
    subst t1
    rw [f_X13_commandHere_L2]
    refine cT' (by decide) ?_
    rw [ff_none t2] at hK
    exact hK
  · obtain ⟨t1, t2⟩ := ht
    subst t1
    rw [f_X13_commandHere_L2]
    refine cN' (nI_ge (b := 9) hk (by decide)) ⟨vp_in_nI hk (by decide), ?_⟩
    rw [nI_clamp (by omega)]
    refine m_isWord h w (by omega) ?_
    refine bF (fun hp => ?_) (fun hp => ?_)
    · rw [ff_some hk hp t2] at hK
      exact hK
    · rw [nI_1]
      refine hL t ⟨rfl, fun j hj => ?_⟩
      by_cases e : j = k
      · rw [e]; exact hp
      · exact t2 j (by omega)
theorem nI_v (hv : v < 9) (k : Nat) (hk : k < 10) : nI v = nI k ↔ v = k := nI_eq (by omega) (by omega)
/-- the first number and the second -/
theorem m_first (h : PM M T n s) (w : Ws T n s) (hv : v < 8) (hK : ∀ lo hi l, nl v = (lo, hi) :: l → ∀ M', FrM M M' → PM M' T n (pNum T n lo hi s) → KI (nI (pLv T lo hi s)) M') : f_X13_readFirst (nI v) M KI := by
  unfold f_X13_readFirst
  have rd : ∀ lo hi l, nl v = (lo, hi) :: l → lo < 1000 → hi < 1000 → f_X13_readNumber (nI lo) (nI hi) M (fun r3 M2 => KI r3 M2) := fun lo hi l e h1 h2 => m_readNumber h w rfl rfl h1 h2 (fun M' f' p' => hK lo hi l e M' f' p')
  have at' : ∀ k : Nat, k < 10 → ∀ A : Prop, (v = k → A) → (nI v = nI k → A) := fun k hk A hA e => hA ((nI_v (by omega) k hk).1 e)
  refine ⟨at' 1 (by decide) _ (fun e => by subst e; exact rd 0 15 _ rfl (by decide) (by decide)), at' 3 (by decide) _ (fun e => by subst e; exact rd 0 29 _ rfl (by decide) (by decide)), at' 7 (by decide) _ (fun e => by subst e; exact rd 1 60 _ rfl (by decide) (by decide)), fun n1 n3 n7 => ?_⟩
  have hv' : v = 0 ∨ v = 2 ∨ v = 4 ∨ v = 5 ∨ v = 6 := by
    have a1 : v ≠ 1 := fun e => n1 (by rw [e]; rfl)
    have a3 : v ≠ 3 := fun e => n3 (by rw [e]; rfl)
    have a7 : v ≠ 7 := fun e => n7 (by rw [e]; rfl)
    omega
  rcases hv' with rfl | rfl | rfl | rfl | rfl
  all_goals exact rd 0 4 _ rfl (by decide) (by decide)
theorem m_second (h : PM M T n s) (w : Ws T n s) (hv : v < 8) (hK1 : (nl v).length = 1 → KI 0 M) (hK : ∀ x lo hi l, nl v = x :: (lo, hi) :: l → ∀ M', FrM M M' → PM M' T n (pNum T n lo hi s) → KI (nI (pLv T lo hi s)) M') : f_X13_readSecond (nI v) M KI := by
  unfold f_X13_readSecond
  have rd : ∀ x lo hi l, nl v = x :: (lo, hi) :: l → lo < 1000 → hi < 1000 → f_X13_readNumber (nI lo) (nI hi) M (fun r3 M2 => KI r3 M2) := fun x lo hi l e h1 h2 => m_readNumber h w rfl rfl h1 h2 (fun M' f' p' => hK x lo hi l e M' f' p')
  have at' : ∀ k : Nat, k < 10 → ∀ A : Prop, (v = k → A) → (nI v = nI k → A) := fun k hk A hA e => hA ((nI_v (by omega) k hk).1 e)
  refine ⟨at' 0 (by decide) _ (fun e => by subst e; exact rd _ 0 15 _ rfl (by decide) (by decide)), at' 1 (by decide) _ (fun e => by subst e; exact rd _ 1 4 _ rfl (by decide) (by decide)), at' 2 (by decide) _ (fun e => by subst e; exact rd _ 0 29 _ rfl (by decide) (by decide)), at' 3 (by decide) _ (fun e => by subst e; exact hK1 rfl), at' 4 (by decide) _ (fun e => by subst e; exact rd _ 1 99 _ rfl (by decide) (by decide)), fun n0 n1 n2 n3 n4 => hK1 ?_⟩
  have hv' : v = 5 ∨ v = 6 ∨ v = 7 := by
    have a0 : v ≠ 0 := fun e => n0 (by rw [e]; rfl)
    have a1 : v ≠ 1 := fun e => n1 (by rw [e]; rfl)
    have a2 : v ≠ 2 := fun e => n2 (by rw [e]; rfl)
    have a3 : v ≠ 3 := fun e => n3 (by rw [e]; rfl)
    have a4 : v ≠ 4 := fun e => n4 (by rw [e]; rfl)
    omega
  rcases hv' with rfl | rfl | rfl <;> rfl
theorem nl_sh (hv : v < 8) (h1 : v ≠ 1) : (∃ x, nl v = [x]) ∨ ∃ x y, nl v = [x, y] := by
  have hv' : v = 0 ∨ v = 2 ∨ v = 3 ∨ v = 4 ∨ v = 5 ∨ v = 6 ∨ v = 7 := by omega
  rcases hv' with rfl | rfl | rfl | rfl | rfl | rfl | rfl
  · exact Or.inr ⟨_, _, rfl⟩
  · exact Or.inr ⟨_, _, rfl⟩
  · exact Or.inl ⟨_, rfl⟩
  · exact Or.inr ⟨_, _, rfl⟩
  · exact Or.inl ⟨_, rfl⟩
  · exact Or.inl ⟨_, rfl⟩
  · exact Or.inl ⟨_, rfl⟩
/-- the numbers of a command that is no repeat -/
theorem m_numbers {fc : Int32 → Int32 → TM → (TM → Prop) → Prop} (h : PM M T n s) (w : Ws T n s) (hv : v < 8) (hc : c < 20) (hK : ∀ M', FrK M M' → M' 699 26 = M 699 26 → (∀ i, i ≤ 5 * c → M' 708 i = M 708 i) → PM M' T n (pExp T n 59 (sNs T n (nl v) s)) → (∀ j, j < (nl v).length → M' 708 (5 * c + (1 + j)) = vNs T n (nl v) s j) → KV M') : f_X13_readFirst (nI v) M (fun r14 M13 => vp_in (nI (5 * c) + (1 : Int32)) 100 ∧ ∀ M16, M16 = u2 M13 708 (nI (5 * c) + (1 : Int32)).toNatClampNeg r14 → f_X13_readSecond (nI v) M16 (fun r18 M17 => vp_in (nI (5 * c) + (2 : Int32)) 100 ∧ ∀ M20, M20 = u2 M17 708 (nI (5 * c) + (2 : Int32)).toNatClampNeg r18 → ((¬ nI v = (1 : Int32) → f_X13_readCommand_L157 fc p1 KV (nI v) (nI (5 * c)) (0 : Int32) (nI (5 * c) + (3 : Int32)) M20) ∧ (nI v = (1 : Int32) → f_X13_readNumber (1 : Int32) (6 : Int32) M20 (fun r34 M33 => f_X13_readCommand_L157 fc p1 KV (nI v) (nI (5 * c)) r34 (nI (5 * c) + (3 : Int32)) M33))))) := by
  rw [nI_1, p2n, p3n, nI_clamp (n := 5 * c + 1) (by omega), nI_clamp (n := 5 * c + 2) (by omega)]
  refine m_first h w hv (fun lo hi l el M13 f13 q13 => ⟨vp_in_nI (by omega) (by decide), ?_⟩)
  intro M16 e16
  have q16 : PM M16 T n (pNum T n lo hi s) := by rw [e16]; exact q13.w8
  have k16 : FrK M M16 := by rw [e16]; exact f13.toK.trans k8
  have a16 : M16 708 = upd (M 708) (5 * c + 1) (nI (pLv T lo hi s)) := by rw [e16, u2_id, uR_s, f13.c8]
  have b16 : M16 699 26 = M 699 26 := by rw [e16, u2_n (by decide), f13.c26]
  refine m_second q16 w.num hv (fun l1 => ⟨vp_in_nI (by omega) (by decide), ?_⟩) (fun x lo2 hi2 l2 el2 M17 f17 q17 => ⟨vp_in_nI (by omega) (by decide), ?_⟩)
  · -- one number
    have l0 : l = [] := by
      rw [el] at l1
      exact List.eq_nil_of_length_eq_zero (by simpa using l1)
    subst l0
    have v1 : v ≠ 1 := fun e => by subst e; exact absurd l1 (by decide)
    intro M20 e20
    refine cN (fun e => v1 ((nI_v (by omega) 1 (by decide)).1 e)) ?_
    unfold f_X13_readCommand_L157
    refine ⟨vp_in_nI (by omega) (by decide), ?_⟩
    rw [nI_clamp (n := 5 * c + 3) (by omega), p4n, nI_clamp (n := 5 * c + 4) (by omega)]
    intro M23 e23
    refine cN (fun e => v1 ((nI_v (by omega) 1 (by decide)).1 e)) ⟨vp_in_nI (by omega) (by decide), ?_⟩
    intro M26 e26
    have q26 : PM M26 T n (pNum T n lo hi s) := by rw [e26, e23, e20]; exact q16.w8.w8.w8
    refine m_expect q26 w.num (x' := 59) rfl (by decide) (fun M27 f27 q27 => ?_)
    rw [el] at hK
    refine hK M27 (k16.trans ((show FrK M16 M26 by rw [e26, e23, e20]; exact (k8.trans k8).trans k8).trans f27.toK)) (by rw [f27.c26, e26, u2_n (by decide), e23, u2_n (by decide), e20, u2_n (by decide)]; exact b16) (fun i hi' => ?_) q27 (fun j hj => ?_)
    · rw [f27.c8, e26, u2_f (by omega), e23, u2_f (by omega), e20, u2_f (by omega), a16, up_n (by omega)]
    · have j0 : j = 0 := by simp only [List.length_cons, List.length_nil] at hj; omega
      subst j0
      rw [f27.c8, e26, u2_f (by omega), e23, u2_f (by omega), e20, u2_f (by omega), a16]
      exact up_s _ _ _
  · have ex : x = (lo, hi) ∧ l = (lo2, hi2) :: l2 := by
      rw [el] at el2
      injection el2 with g1 g2
      exact ⟨g1.symm, g2⟩
    obtain ⟨rfl, rfl⟩ := ex
    intro M20 e20
    have q20 : PM M20 T n (pNum T n lo2 hi2 (pNum T n lo hi s)) := by rw [e20]; exact q17.w8
    have k20 : FrK M M20 := by rw [e20]; exact k16.trans (f17.toK.trans k8)
    have a20 : M20 708 = upd (upd (M 708) (5 * c + 1) (nI (pLv T lo hi s))) (5 * c + 2) (nI (pLv T lo2 hi2 (pNum T n lo hi s))) := by rw [e20, u2_id, uR_s, f17.c8, a16]
    have b20 : M20 699 26 = M 699 26 := by rw [e20, u2_n (by decide), f17.c26, b16]
    by_cases v1 : v = 1
    · -- four numbers
      subst v1
      refine cT rfl ?_
      have en : nl 1 = [(0, 15), (1, 4), (1, 6), (1, 500)] := rfl
      have ell : (lo, hi) :: (lo2, hi2) :: l2 = [(0, 15), (1, 4), (1, 6), (1, 500)] := el.symm.trans en
      injection ell with g1 g2
      injection g2 with g3 g4
      subst g4
      injection g1 with g5 g6
      injection g3 with g7 g8
      subst g5 g6 g7 g8
      refine m_readNumber q20 w.num.num (lo := 1) (hi := 6) rfl rfl (by decide) (by decide) (fun M33 f33 q33 => ?_)
      unfold f_X13_readCommand_L157
      refine ⟨vp_in_nI (by omega) (by decide), ?_⟩
      rw [nI_clamp (n := 5 * c + 3) (by omega), p4n, nI_clamp (n := 5 * c + 4) (by omega)]
      intro M23 e23
      refine cT rfl ?_
      have q23 : PM M23 T n (pNum T n 1 6 (pNum T n 1 4 (pNum T n 0 15 s))) := by rw [e23]; exact q33.w8
      refine m_readNumber q23 w.num.num.num (lo := 1) (hi := 500) rfl rfl (by decide) (by decide) (fun M28 f28 q28 => ⟨vp_in_nI (by omega) (by decide), ?_⟩)
      intro M31 e31
      have q31 : PM M31 T n (pNum T n 1 500 (pNum T n 1 6 (pNum T n 1 4 (pNum T n 0 15 s)))) := by rw [e31]; exact q28.w8
      refine m_expect q31 w.num.num.num.num (x' := 59) rfl (by decide) (fun M32 f32 q32 => ?_)
      have a32 : M32 708 = upd (upd (upd (upd (M 708) (5 * c + 1) (nI (pLv T 0 15 s))) (5 * c + 2) (nI (pLv T 1 4 (pNum T n 0 15 s)))) (5 * c + 3) (nI (pLv T 1 6 (pNum T n 1 4 (pNum T n 0 15 s))))) (5 * c + 4) (nI (pLv T 1 500 (pNum T n 1 6 (pNum T n 1 4 (pNum T n 0 15 s))))) := by
        rw [f32.c8, e31, u2_id, uR_s, f28.c8, e23, u2_id, uR_s, f33.c8, a20]
      refine hK M32 (k20.trans (f33.toK.trans ((show FrK M33 M23 by rw [e23]; exact k8).trans (f28.toK.trans ((show FrK M28 M31 by rw [e31]; exact k8).trans f32.toK))))) (by rw [f32.c26, e31, u2_n (by decide), f28.c26, e23, u2_n (by decide), f33.c26, b20]) (fun i hi' => ?_) q32 (fun j hj => ?_)
      · rw [a32, up_n (by omega), up_n (by omega), up_n (by omega), up_n (by omega)]
      · have j0 : j = 0 ∨ j = 1 ∨ j = 2 ∨ j = 3 := by
          have : (nl 1).length = 4 := rfl
          omega
        rw [a32]
        rcases j0 with rfl | rfl | rfl | rfl
        · exact ((up_n (by omega)).trans ((up_n (by omega)).trans (up_n (by omega)))).trans (up_s _ _ _)
        · exact ((up_n (by omega)).trans (up_n (by omega))).trans (up_s _ _ _)
        · exact (up_n (by omega)).trans (up_s _ _ _)
        · exact up_s _ _ _
    · have l0 : l2 = [] := by
        rcases nl_sh hv v1 with ⟨x, e⟩ | ⟨x, y, e⟩
        · rw [el] at e
          injection e with g1 g2
          cases g2
        · rw [el] at e
          injection e with g1 g2
          injection g2 with g3 g4
      subst l0
      refine cN (fun e => v1 ((nI_v (by omega) 1 (by decide)).1 e)) ?_
      unfold f_X13_readCommand_L157
      refine ⟨vp_in_nI (by omega) (by decide), ?_⟩
      rw [nI_clamp (n := 5 * c + 3) (by omega), p4n, nI_clamp (n := 5 * c + 4) (by omega)]
      intro M23 e23
      refine cN (fun e => v1 ((nI_v (by omega) 1 (by decide)).1 e)) ⟨vp_in_nI (by omega) (by decide), ?_⟩
      intro M26 e26
      have q26 : PM M26 T n (pNum T n lo2 hi2 (pNum T n lo hi s)) := by rw [e26, e23]; exact q20.w8.w8
      refine m_expect q26 w.num.num (x' := 59) rfl (by decide) (fun M27 f27 q27 => ?_)
      rw [el] at hK
      refine hK M27 (k20.trans ((show FrK M20 M26 by rw [e26, e23]; exact k8.trans k8).trans f27.toK)) (by rw [f27.c26, e26, u2_n (by decide), e23, u2_n (by decide)]; exact b20) (fun i hi' => ?_) q27 (fun j hj => ?_)
      · rw [f27.c8, e26, u2_f (by omega), e23, u2_f (by omega), a20, up_n (by omega), up_n (by omega)]
      · have j0 : j = 0 ∨ j = 1 := by simp only [List.length_cons, List.length_nil] at hj; omega
        rw [f27.c8, e26, u2_f (by omega), e23, u2_f (by omega), a20]
        rcases j0 with rfl | rfl
        · exact (up_n (by omega)).trans (up_s _ _ _)
        · exact up_s _ _ _
end MSCRIPT
