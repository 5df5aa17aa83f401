/-! the script's text: both, whole -/
def pScr (T : Nat → Nat) (n : Nat) (s : PS) (C : CmT) : PY := lp cTp (pC T n 3 0) 501 (s, 0, C)
section SCRIPT2
variable {T : Nat → Nat} {n : Nat} {s : PS} {y y' : PY} {M M1 M2 M' : TM} {C C' : CmT} {KV : TM → Prop} {KI : Int32 → TM → Prop} {a b c d e f i j k l m v x' lo hi : Nat} {p q p1 p2 : Int32}
theorem isAt_7 (y : PY) (M : TM) (h : PC M T n y.1) (w : Ws T n y.1) (h0 : pe y.1 = 0) (KI : Int32 → TM → Prop) (hK : KI (bi (!cBk T y)) M) : f_X10_isAt (nI 7) M KI := by
  refine c_isAt h w rfl (by decide) ?_
  rw [kc_sym w (x' := 41) (kk := 7) (by omega)]
  unfold cBk at hK
  rw [decide_eq_true h0, Bool.true_and, Bool.not_not] at hK
  exact hK
theorem isAt_0 (y : PY) (M : TM) (h : PC M T n y.1) (w : Ws T n y.1) (h0 : pe y.1 = 0) (KI : Int32 → TM → Prop) (hK : KI (bi (!cTp y)) M) : f_X10_isAt (nI 0) M KI := by
  refine c_isAt h w rfl (by decide) ?_
  unfold cTp at hK
  rw [decide_eq_true h0, Bool.true_and] at hK ⊢
  have e : (!decide (pk y.1 ≠ 0)) = decide (kc T y.1 = 0) := by
    unfold kc
    by_cases hk : pk y.1 = 0
    · rw [if_pos hk, decide_eq_false (fun e => e hk)]
      rfl
    · rw [if_neg hk, decide_eq_true hk]
      have : ckV (T (pb y.1)) ≠ 0 := by
        unfold ckV
        repeat' split
        all_goals decide
      rw [decide_eq_false this]
      rfl
  rw [← e]
  exact hK
theorem c_all : ∀ k d, k + d = 2 → CmdC T n (f_X8_parseCommandR (k + 1)) (pC T n (k + 1) d) d := by
  intro k
  induction k with
  | zero =>
    intro d hd
    exact c_cmd (T := T) (n := n) (fc := fun p2 p3 M K => f_X8_parseBlock (f_X8_parseCommandR 0) p2 p3 M K) (blk := fun z => lp (cBk T) (pC T n 0 (d + 1)) 501 z) (fun h => absurd h (by omega)) (fun h => absurd h (by omega)) (by omega)
  | succ k ih =>
    intro d hd
    have hA := adv_C (T := T) (n := n) k (d + 1) (by omega)
    have hA' : ∀ y : PY, Ws T n y.1 → pe y.1 = 0 → y.2.1 ≤ 20 → Adv T n k y (pC T n (k + 1) (d + 1) y) := fun y wy _ h20 => hA y wy h20
    refine c_cmd (T := T) (n := n) (fc := fun p2 p3 M K => f_X8_parseBlock (f_X8_parseCommandR (k + 1)) p2 p3 M K) (blk := fun z => lp (cBk T) (pC T n (k + 1) (d + 1)) 501 z) (fun _ => ?_) (fun _ y wy h20 => ⟨k, blk_adv (fun y => cBk_pe) hA' 501 y wy h20⟩) (by omega)
    intro y M KV h w h20 hK
    have hn := w.1
    exact ⟨502, c_block (l := k) (kind := 7) (fun y => cBk_pe) (fun y M h w h0 KI hK => isAt_7 y M h w h0 KI hK) (by decide) hA' (ih (d + 1) (by omega)) _ _ _ 501 0 y M (Or.inl (by omega)) w h (fun he => ⟨(h20 he).1, (h20 he).2, Nat.zero_le _⟩) (by decide) hK⟩
theorem m_all : ∀ k d, k + d = 2 → CmdM T n (f_X13_readCommandR (k + 1)) (pC T n (k + 1) d) d := by
  intro k
  induction k with
  | zero =>
    intro d hd
    exact m_cmd (T := T) (n := n) (l := 0) (fc := f_X13_readCommandR 0) (g := pC T n 0 (d + 1)) (fun h => absurd h (by omega)) (fun h => absurd h (by omega)) (by omega)
  | succ k ih =>
    intro d hd
    have hA := adv_C (T := T) (n := n) k (d + 1) (by omega)
    exact m_cmd (T := T) (n := n) (l := k) (fc := f_X13_readCommandR (k + 1)) (g := pC T n (k + 1) (d + 1)) (fun _ y wy _ h20 => hA y wy h20) (fun _ => ih (d + 1) (by omega)) (by omega)
theorem top_adv (y : PY) (wy : Ws T n y.1) (_ : pe y.1 = 0) (h20 : y.2.1 ≤ 20) : Adv T n 2 y (pC T n 3 0 y) := adv_C 2 0 rfl y wy h20
theorem scr_adv (w : Ws T n s) (C : CmT) : Adb T n 2 (s, 0, C) (pScr T n s C) := blk_adv (fun y => cTp_pe) top_adv 501 (s, 0, C) w (fun _ => Nat.zero_le _)
theorem c_script (h : PC M T n s) (w : Ws T n s) (C : CmT) (hK : ∀ M', Cres T n M M' 0 (pScr T n s C) → KV M') : f_X8_parse M KV := by
  unfold f_X8_parse
  intro M1 e1
  have h1 : PC M1 T n s := by rw [e1]; exact h.ua (by decide)
  have f1 : FrS M M1 := by rw [e1]; exact u3_s
  have hn := w.1
  refine ⟨502, c_block (l := 2) (kind := 0) (T := T) (n := n) (g := pC T n 3 0) (cd := cTp) (fun y => cTp_pe) (fun y M h w h0 KI hK => isAt_0 y M h w h0 KI hK) (by decide) top_adv (c_all 2 0 rfl) _ _ _ 501 0 (s, 0, C) M1 (Or.inl (by show n - pn s < 501; omega)) w h1 (fun he => ⟨Nat.zero_le _, by rw [e1, u2_s]; rfl, Nat.zero_le _⟩) (by decide) (fun M' r => ?_)⟩
  obtain ⟨r1, r2, r3⟩ := r
  exact hK M' ⟨f1.trans r1, r2, fun he => ⟨(r3 he).1, fun k hk => absurd hk (Nat.not_lt_zero _), (r3 he).2.2⟩⟩
theorem m_script (h : PM M T n s) (w : Ws T n s) (h26 : M 699 26 = 0) (C : CmT) (hK : ∀ M', Mres T n M M' 0 (pScr T n s C) → f_X13_runScript_L46 p1 KI M') : ∃ n', f_X13_runScript_L24 p1 KI n' M := by
  have hn := w.1
  exact ⟨502, m_L24 (l := 2) (T := T) (n := n) (g := pC T n 3 0) top_adv (m_all 2 0 rfl) KI 501 (s, 0, C) M (Or.inl (by show n - pn s < 501; omega)) w h (fun _ => ⟨Nat.zero_le _, h26⟩) hK⟩
end SCRIPT2
