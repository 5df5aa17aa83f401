/-! the script's text: the class -/
def FrS (M M' : TM) : Prop := (∀ i, i ≠ 1 → i ≠ 3 → (i < 5 ∨ 25 ≤ i) → M' i = M i) ∧ (∀ j, j < 3 → M' 1 j = M 1 j) ∧ ∀ j, j ≠ 1 → M' 3 j = M 3 j
def FrA (a1 : Nat) (M M' : TM) : Prop := (∀ i, i ≠ 1 → i ≠ a1 → M' i = M i) ∧ ∀ j, j < 3 → M' 1 j = M 1 j
def Cc (M : TM) (C : CmT) (a b : Nat) : Prop := ∀ k, a ≤ k → k < b → M (5 + k) 0 = C k 0 ∧ (∀ j, j < (nl (C k 0).toNatClampNeg).length → M (5 + k) (1 + j) = C k (1 + j)) ∧ M (5 + k) 5 = C k 5
def Cres (T : Nat → Nat) (n : Nat) (M M' : TM) (c : Nat) (y' : PY) : Prop := FrS M M' ∧ PC M' T n y'.1 ∧ (pe y'.1 = 0 → M' 3 1 = nI y'.2.1 ∧ (∀ k, k < c → M' (5 + k) = M (5 + k)) ∧ Cc M' y'.2.2 c y'.2.1)
section CSCRIPT
variable {T : Nat → Nat} {n : Nat} {s : PS} {y y' : PY} {M M1 M2 M' : TM} {C C' : CmT} {KV : TM → Prop} {KI : Int32 → TM → Prop} {KO : Option Nat → TM → Prop} {a b c d e f i j k l m v x' a1 slot lo hi : Nat} {p q : Int32}
theorem FrS.refl (M : TM) : FrS M M := ⟨fun _ _ _ _ => rfl, fun _ _ => rfl, fun _ _ => rfl⟩
theorem FrS.trans (h : FrS M M1) (g : FrS M1 M') : FrS M M' := ⟨fun i i1 i2 i3 => (g.1 i i1 i2 i3).trans (h.1 i i1 i2 i3), fun j hj => (g.2.1 j hj).trans (h.2.1 j hj), fun j hj => (g.2.2 j hj).trans (h.2.2 j hj)⟩
theorem FrT.sS (h : FrT M M') : FrS M M' := ⟨fun i i1 _ _ => h.1 i i1, h.2, fun j _ => by rw [h.1 3 (by decide)]⟩
theorem FrA.refl (a1 : Nat) (M : TM) : FrA a1 M M := ⟨fun _ _ _ => rfl, fun _ _ => rfl⟩
theorem FrA.trans (h : FrA a1 M M1) (g : FrA a1 M1 M') : FrA a1 M M' := ⟨fun i i1 i2 => (g.1 i i1 i2).trans (h.1 i i1 i2), fun j hj => (g.2 j hj).trans (h.2 j hj)⟩
theorem FrA.sS (h : FrA a1 M M') (h1 : 5 ≤ a1) (h2 : a1 < 25) : FrS M M' := ⟨fun i i1 _ i3 => h.1 i i1 (by omega), h.2, fun j _ => by rw [h.1 3 (by decide) (by omega)]⟩
theorem u3_s : FrS M (u2 M 3 1 q) := ⟨fun i _ i2 _ => u2_n i2, fun j _ => by rw [u2_n (by decide)], fun j hj => u2_f hj⟩
theorem ua_s (h1 : 5 ≤ a1) (h2 : a1 < 25) : FrS M (u2 M a1 slot q) := ⟨fun i _ _ i3 => u2_n (by omega), fun j _ => by rw [u2_n (by omega)], fun j _ => by rw [u2_n (by omega)]⟩
theorem PC.ua (h : PC M T n s) (h1 : 3 ≤ a1) : PC (u2 M a1 slot q) T n s := h.fr (u2_n (by omega)) (u2_n (by omega))
/-- the verb -/
theorem c_verbAt (h : PC M T n s) (w : Ws T n s) (h0 : vb T s = 9 → KO none M) (h1 : vb T s < 9 → KO (some (2100 + vb T s)) M) : f_X8_verbAt M KO := by
  unfold f_X8_verbAt
  have hb : ∀ k, k < 9 → pWd T s k = true → (∀ j, j < k → pWd T s j = false) → vb T s = k := fun k hk hp hj => by
    unfold vb
    rw [ff_some hk hp hj, if_neg (nI_m1 (by omega)), nI_clamp (by omega)]
  refine ⟨_, inv_loop (fun m (t : TM) k => f_X8_verbAt_L2 KO m (nI k) t) (fun k t => t = M ∧ ∀ j, j < k → pWd T s j = false) 9 (fun m t ht => ?_) (fun m t k hk ht hL => ?_) 9 0 M (Nat.zero_add _) ⟨rfl, fun j hj => absurd hj (Nat.not_lt_zero _)⟩⟩
  · obtain ⟨t1, t2⟩ := ht
    subst t1
    rw [f_X8_verbAt_L2]
    refine cT' (by decide) (h0 ?_)
    unfold vb
    rw [if_pos (ff_none t2)]
  · obtain ⟨t1, t2⟩ := ht
    subst t1
    rw [f_X8_verbAt_L2]
    refine cN' (nI_ge (b := 9) hk (by decide)) ⟨vp_in_nI hk (by decide), ?_⟩
    rw [nI_clamp (by omega)]
    refine c_isAtWord h w (by omega) ?_
    refine bF (fun hp => ⟨vp_in_nI hk (by decide), ?_⟩) (fun hp => ?_)
    · have := hb k hk hp t2
      rw [← this]
      exact h1 (by omega)
    · rw [nI_1]
      refine hL t ⟨rfl, fun j hj => ?_⟩
      by_cases e : j = k
      · rw [e]; exact hp
      · exact t2 j (by omega)
/-- one number into a command -/
theorem c_num1 (h : PC M T n s) (w : Ws T n s) (e1 : p = nI lo) (e2 : q = nI hi) (hlo : lo < 1000) (hhi : hi < 1000) (h3 : 3 ≤ a1) (hK : ∀ M', FrA a1 M M' → (∀ j, j ≠ slot → M' a1 j = M a1 j) → M' a1 slot = nI (pLv T lo hi s) → PC M' T n (pNum T n lo hi s) → KV M') : f_X10_readNumber p q M (fun r M4 => ∀ M6, M6 = u2 M4 a1 slot r → KV M6) := by
  refine c_readNumber h w e1 e2 hlo hhi (fun M4 f4 p4 => ?_)
  intro M6 e6
  refine hK M6 ⟨fun i i1 i2 => by rw [e6, u2_n i2, f4.1 i i1], fun j hj => by rw [e6, u2_n (by omega), f4.2 j hj]⟩ (fun j hj => by rw [e6, u2_f hj, f4.1 a1 (by omega)]) (by rw [e6, u2_s]) (by rw [e6]; exact p4.ua h3)
theorem c_numbers (h : PC M T n s) (w : Ws T n s) (h3 : 3 ≤ a1) (hv : M a1 0 = nI v) (hv9 : v < 9) (hK : ∀ M', FrA a1 M M' → M' a1 0 = nI v → PC M' T n (sNs T n (nl v) s) → (∀ j, j < (nl v).length → M' a1 (1 + j) = vNs T n (nl v) s j) → KV M') : f_X8_parseNumbers a1 M KV := by
  unfold f_X8_parseNumbers
  rw [hv]
  refine ⟨vp_in_nI hv9 (by decide), vp_in_nI hv9 (by decide), ?_⟩
  have one : ∀ lo hi : Nat, nl v = [(lo, hi)] → lo < 1000 → hi < 1000 → f_X10_readNumber (nI lo) (nI hi) M (fun r M4 => ∀ M6, M6 = u2 M4 a1 1 r → KV M6) := fun lo hi el hlo hhi => by
    rw [el] at hK
    refine c_num1 h w rfl rfl hlo hhi h3 (fun M1 f1 g1 v1 p1 => ?_)
    refine hK M1 f1 (by rw [g1 0 (by decide)]; exact hv) p1 (fun j hj => ?_)
    have j0 : j = 0 := by simp only [List.length_cons, List.length_nil] at hj; omega
    subst j0
    exact v1
  have two : ∀ lo hi lo2 hi2 : Nat, nl v = [(lo, hi), (lo2, hi2)] → lo < 1000 → hi < 1000 → lo2 < 1000 → hi2 < 1000 → f_X10_readNumber (nI lo) (nI hi) M (fun r M4 => ∀ M6, M6 = u2 M4 a1 1 r → f_X10_readNumber (nI lo2) (nI hi2) M6 (fun r M7 => ∀ M9, M9 = u2 M7 a1 2 r → KV M9)) := fun lo hi lo2 hi2 el hlo hhi hlo2 hhi2 => by
    rw [el] at hK
    refine c_num1 h w rfl rfl hlo hhi h3 (fun M1 f1 g1 v1 p1 => ?_)
    refine c_num1 p1 (w.num) rfl rfl hlo2 hhi2 h3 (fun M2 f2 g2 v2 p2 => ?_)
    refine hK M2 (f1.trans f2) (by rw [g2 0 (by decide), g1 0 (by decide)]; exact hv) p2 (fun j hj => ?_)
    have j0 : j = 0 ∨ j = 1 := by simp only [List.length_cons, List.length_nil] at hj; omega
    rcases j0 with rfl | rfl
    · exact (g2 1 (by decide)).trans v1
    · exact v2
  have hv' : v = 0 ∨ v = 1 ∨ v = 2 ∨ v = 3 ∨ v = 4 ∨ v = 5 ∨ v = 6 ∨ v = 7 ∨ v = 8 := by omega
  have sel : ∀ (k : Nat) (A : Prop), k < 10 → (v + 1 = k → A) → (nI v + 1 = nI k → A) := fun k A hk hA e => hA (nI_inj (by omega) (by omega) (by rw [nI_1] at e; exact e))
  refine ⟨sel 1 _ (by decide) (fun e => two 0 4 0 15 (by rw [show v = 0 by omega]; rfl) (by decide) (by decide) (by decide) (by decide)), sel 2 _ (by decide) (fun e => ?_), sel 3 _ (by decide) (fun e => two 0 4 0 29 (by rw [show v = 2 by omega]; rfl) (by decide) (by decide) (by decide) (by decide)), sel 4 _ (by decide) (fun e => one 0 29 (by rw [show v = 3 by omega]; rfl) (by decide) (by decide)), sel 5 _ (by decide) (fun e => two 0 4 1 99 (by rw [show v = 4 by omega]; rfl) (by decide) (by decide) (by decide) (by decide)), sel 6 _ (by decide) (fun e => one 0 4 (by rw [show v = 5 by omega]; rfl) (by decide) (by decide)), sel 7 _ (by decide) (fun e => one 0 4 (by rw [show v = 6 by omega]; rfl) (by decide) (by decide)), sel 8 _ (by decide) (fun e => one 1 60 (by rw [show v = 7 by omega]; rfl) (by decide) (by decide)), sel 9 _ (by decide) (fun e => one 2 5 (by rw [show v = 8 by omega]; rfl) (by decide) (by decide)), fun n1 n2 n3 n4 n5 n6 n7 n8 n9 => ?_⟩
  · have e1 : v = 1 := by omega
    subst e1
    refine c_num1 h w (lo := 0) (hi := 15) rfl rfl (by decide) (by decide) h3 (fun M1 f1 g1 v1 p1 => ?_)
    refine c_num1 p1 (w.num) (lo := 1) (hi := 4) rfl rfl (by decide) (by decide) h3 (fun M2 f2 g2 v2 p2 => ?_)
    refine c_num1 p2 (w.num.num) (lo := 1) (hi := 6) rfl rfl (by decide) (by decide) h3 (fun M3 f3 g3 v3 p3 => ?_)
    refine c_num1 p3 (w.num.num.num) (lo := 1) (hi := 500) rfl rfl (by decide) (by decide) h3 (fun M4 f4 g4 v4 p4 => ?_)
    refine hK M4 (f1.trans (f2.trans (f3.trans f4))) (by rw [g4 0 (by decide), g3 0 (by decide), g2 0 (by decide), g1 0 (by decide)]; exact hv) p4 (fun j hj => ?_)
    have j0 : j = 0 ∨ j = 1 ∨ j = 2 ∨ j = 3 := by
      have : (nl 1).length = 4 := rfl
      omega
    rcases j0 with rfl | rfl | rfl | rfl
    · exact ((g4 1 (by decide)).trans ((g3 1 (by decide)).trans (g2 1 (by decide)))).trans v1
    · exact ((g4 2 (by decide)).trans (g3 2 (by decide))).trans v2
    · exact (g4 3 (by decide)).trans v3
    · exact v4
  · exfalso
    rcases hv' with rfl | rfl | rfl | rfl | rfl | rfl | rfl | rfl | rfl
    · exact n1 rfl
    · exact n2 rfl
    · exact n3 rfl
    · exact n4 rfl
    · exact n5 rfl
    · exact n6 rfl
    · exact n7 rfl
    · exact n8 rfl
    · exact n9 rfl
/-- what a command's rows hold -/
theorem Cc.congr (h : Cc M C a b) (hM : ∀ k, a ≤ k → k < b → M' (5 + k) = M (5 + k)) (hC : ∀ k, a ≤ k → k < b → C' k = C k) : Cc M' C' a b := fun k k1 k2 => by
  rw [hM k k1 k2, hC k k1 k2]
  exact h k k1 k2
theorem Cc.join (h1 : Cc M C a b) (h2 : Cc M C b c) : Cc M C a c := fun k k1 k2 => if hk : k < b then h1 k k1 hk else h2 k (by omega) k2
theorem nl_len : (nl v).length ≤ 4 := by
  unfold nl
  repeat' split
  all_goals decide
theorem cmC_0 : cmC T n d c s C c 0 = nI (vb T s) := C1_0
theorem cmC_j (hv : vb T s < 9) (hj : j < (nl (vb T s)).length) : cmC T n d c s C c (1 + j) = vNs T n (nl (vb T s)) (cm3 T n d c s) j := C1_j (by have := nl_len (v := vb T s); omega)
/-- one command and its semicolon -/
def CmdC (T : Nat → Nat) (n : Nat) (fc : Int32 → TM → (TM → Prop) → Prop) (g : PY → PY) (d : Nat) : Prop := ∀ (s : PS) (c : Nat) (C : CmT) (M : TM) (KV : TM → Prop), PC M T n s → Ws T n s → pe s = 0 → c ≤ 20 → M 3 1 = nI c → (∀ M', Cres T n M M' c (g (s, c, C)) → KV M') → fc (nI d) M (fun M10 => f_X10_readToken (5 : Int32) M10 (fun M11 => KV M11))
def BlkC (T : Nat → Nat) (n : Nat) (fc : Int32 → Int32 → TM → (TM → Prop) → Prop) (g : PY → PY) (d : Nat) : Prop := ∀ (y : PY) (M : TM) (KV : TM → Prop), PC M T n y.1 → Ws T n y.1 → (pe y.1 = 0 → y.2.1 ≤ 20 ∧ M 3 1 = nI y.2.1) → (∀ M', Cres T n M M' y.2.1 (g y) → KV M') → fc (7 : Int32) (nI d) M (fun M10 => KV M10)
theorem c_cmd {fc : Int32 → Int32 → TM → (TM → Prop) → Prop} {blk : PY → PY} (hb : d < 2 → BlkC T n fc blk (d + 1)) (hbA : d < 2 → ∀ y, Ws T n y.1 → (pe y.1 = 0 → y.2.1 ≤ 20) → ∃ l', Adb T n l' y (blk y)) (hd : d < 3) : CmdC T n (f_X8_parseCommand fc) (pCmd T n blk d) d := by
  intro s c C M KV h w h0 h20 h31 hK
  unfold f_X8_parseCommand
  obtain ⟨w3, w4⟩ := cm_w (d := d) (c := c) w
  -- an error ends it
  have bad : ∀ code : Nat, code ≠ 0 → code < 10 → cm3 T n d c s = pChk false code s → f_X10_fail (nI code) M (fun M8 => f_X10_readToken (5 : Int32) M8 (fun M11 => KV M11)) := fun code hc hc10 e3 => by
    have hne : pe (pChk false code s) ≠ 0 := by rw [pChk_F h0]; exact hc
    refine c_fail h w rfl hc (fun M1 f1 p1 => ?_)
    refine c_readToken p1 (w.chk hc10) (kk := 5) (x' := 59) rfl (by omega) (fun M2 f2 p2 => ?_)
    rw [pExp_e hne] at p2
    refine hK M2 ?_
    rw [pCmd_e (by rw [e3]; exact hne)]
    refine ⟨(f1.trans f2).sS, ?_, fun he => ?_⟩
    · show PC M2 T n (cm3 T n d c s)
      rw [e3]
      exact p2
    · exact absurd (show pe (cm3 T n d c s) = 0 from he) (by rw [e3]; exact hne)
  have cm1_T : vb T s < 9 → cm1 T s = s := fun hv => by unfold cm1; rw [decide_eq_true hv, pChk_T]
  have cmB_e : vb T s < 9 → cmB T d c s = (decide (c < 20) && (decide (vb T s ≠ 8) || decide (d < 2))) := fun hv => by
    unfold cmB
    rw [cm1_T hv, decide_eq_false (fun e => e h0), Bool.false_or]
  have cm3_F : vb T s < 9 → (decide (c < 20) && (decide (vb T s ≠ 8) || decide (d < 2))) = false → cm3 T n d c s = pChk false 4 s := fun hv hb' => by
    unfold cm3
    rw [cmB_e hv, hb', cm1_T hv, pAdv_e (by rw [pChk_F h0]; exact (show (4 : Nat) ≠ 0 by decide))]
  have cm3_T : vb T s < 9 → (decide (c < 20) && (decide (vb T s ≠ 8) || decide (d < 2))) = true → cm3 T n d c s = pAdv T n s := fun hv hb' => by
    unfold cm3
    rw [cmB_e hv, hb', cm1_T hv, pChk_T]
  refine c_verbAt h w (fun hv => ⟨Or.inl rfl, fun _ => ?_, fun x3 _ e => by cases e⟩) (fun hv => ⟨Or.inr ⟨nI (vb T s), vp_in_nI hv (by decide), by rw [nI_clamp (by omega)]⟩, fun e => (by cases e), fun x3 hx e => ?_⟩)
  · refine bad 1 (by decide) (by decide) ?_
    have e1 : cm1 T s = pChk false 1 s := by unfold cm1; rw [hv]; rfl
    have hne : pe (pChk false 1 s) ≠ 0 := by rw [pChk_F h0]; exact (show (1 : Nat) ≠ 0 by decide)
    unfold cm3
    rw [e1, pChk_e hne, pAdv_e hne]
  · have ex : x3 = nI (vb T s) := by
      obtain ⟨j, j1, j2⟩ := vp_in_of hx (by decide)
      subst j2
      rw [nI_clamp (by omega)] at e
      have := Option.some.inj e
      rw [show j = vb T s by omega]
    subst ex
    rw [h31]
    refine ⟨fun c1 => ?_, fun c1 => ?_⟩
    · refine bad 4 (by decide) (by decide) (cm3_F hv ?_)
      rw [decide_eq_false (fun hlt : c < 20 => nI_ge (b := 20) hlt (by decide) c1), Bool.false_and]
    · have hc20 : c < 20 := Nat.lt_of_not_le (fun hle => c1 (nI_le (a := 20) hle (by omega)))
      have L45 : (vb T s = 8 → d < 2) → f_X8_parseCommand_L45 fc (nI d) (fun M10 => f_X10_readToken (5 : Int32) M10 (fun M11 => KV M11)) (nI d) (nI (vb T s)) M := fun hd8 => by
        have e3 : cm3 T n d c s = pAdv T n s := cm3_T hv (by
          rw [decide_eq_true hc20, Bool.true_and]
          by_cases h8 : vb T s = 8
          · rw [decide_eq_true (hd8 h8), Bool.or_true]
          · rw [decide_eq_true h8, Bool.true_or])
        have p3 : pe (cm3 T n d c s) = 0 := by rw [e3]; exact pAdv_ok.2 h0
        unfold f_X8_parseCommand_L45
        refine c_adv h w h0 (fun M1 f1 p1 => ?_)
        rw [← e3] at p1
        have h31' : M1 3 1 = nI c := by rw [f1.1 3 (by decide)]; exact h31
        rw [h31']
        refine ⟨vp_in_nI hc20 (by decide), ?_⟩
        rw [nI_1]
        intro M2 e2 M3 e3'
        rw [nI_clamp (by omega)] at e3' ⊢
        have p3' : PC M3 T n (cm3 T n d c s) := by rw [e3', e2]; exact (p1.ua (by decide)).ua (by omega)
        have s3 : FrS M M3 := by rw [e3', e2]; exact (f1.sS.trans u3_s).trans (ua_s (by omega) (by omega))
        have k31 : M3 3 1 = nI (c + 1) := by rw [e3', u2_n (by omega), e2, u2_s]
        have k3 : ∀ k, k ≠ c → M3 (5 + k) = M (5 + k) := fun k hk => by rw [e3', u2_n (by omega), e2, u2_n (by omega), f1.1 (5 + k) (by omega)]
        refine c_numbers p3' w3 (by omega) (v := vb T s) (by rw [e3', u2_s]) hv (fun M4 f4 v0 p4 v4 => ?_)
        have k41 : M4 3 1 = nI (c + 1) := by rw [f4.1 3 (by decide) (by omega)]; exact k31
        have s4 : FrS M M4 := s3.trans (f4.sS (by omega) (by omega))
        have k4 : ∀ k, k ≠ c → M4 (5 + k) = M (5 + k) := fun k hk => by rw [f4.1 (5 + k) (by omega) (by omega), k3 k hk]
        refine ⟨vp_in_nI hv (by decide), fun c8 => ?_, fun c8 => ?_⟩
        · have h8 : vb T s ≠ 8 := fun e => c8 (by rw [e]; rfl)
          rw [k41]
          intro M5 e5
          have p5 : PC M5 T n (cm4 T n d c s) := by rw [e5]; exact p4.ua (by omega)
          refine c_readToken p5 w4 (kk := 5) (x' := 59) rfl (by omega) (fun M6 f6 p6 => hK M6 ?_)
          rw [pCmd_n p3 h8]
          have s6 : FrS M M6 := (s4.trans (by rw [e5]; exact ua_s (by omega) (by omega))).trans f6.sS
          have k6 : ∀ k, M6 (5 + k) = M5 (5 + k) := fun k => f6.1 (5 + k) (by omega)
          refine ⟨s6, p6, fun _ => ⟨?_, fun k hk => ?_, fun k k1 k2 => ?_⟩⟩
          · rw [f6.1 3 (by decide), e5, u2_n (by omega)]
            exact k41
          · rw [k6 k, e5, u2_n (by omega)]
            exact k4 k (by omega)
          · have : k = c := by
              have : k < c + 1 := k2
              omega
            subst this
            show M6 (5 + k) 0 = cmC T n d k s C k 0 ∧ (∀ j, j < (nl (cmC T n d k s C k 0).toNatClampNeg).length → M6 (5 + k) (1 + j) = cmC T n d k s C k (1 + j)) ∧ M6 (5 + k) 5 = cmC T n d k s C k 5
            rw [cmC_0, nI_clamp (by omega), k6 k, e5]
            refine ⟨(u2_f (by decide)).trans v0, fun j hj => ?_, ?_⟩
            · rw [cmC_j hv hj, u2_f (by have := nl_len (v := vb T s); omega)]
              exact v4 j hj
            · rw [u2_s]
              exact C1_5.symm
        · have h8 : vb T s = 8 := nI_inj (b := 8) (by omega) (by decide) c8
          refine c_readToken p4 w4 (kk := 6) (x' := 40) rfl (by omega) (fun M5 f5 p5 => ?_)
          have k5 : ∀ k, M5 (5 + k) = M4 (5 + k) := fun k => f5.1 (5 + k) (by omega)
          have k51 : M5 3 1 = nI (c + 1) := by rw [f5.1 3 (by decide)]; exact k41
          rw [nI_1]
          have wA := hbA (hd8 h8) (pExp T n 40 (cm4 T n d c s), c + 1, cmC T n d c s C) (w4.exp 40) (fun _ => hc20)
          refine hb (hd8 h8) (pExp T n 40 (cm4 T n d c s), c + 1, cmC T n d c s C) M5 _ p5 (w4.exp 40) (fun _ => ⟨hc20, k51⟩) (fun M6 r6 => ?_)
          rw [pCmd_r p3 h8] at hK
          obtain ⟨z, ez⟩ : ∃ z, z = blk (pExp T n 40 (cm4 T n d c s), c + 1, cmC T n d c s C) := ⟨_, rfl⟩
          rw [← ez] at hK r6 wA
          obtain ⟨zs, zc, zC⟩ := z
          obtain ⟨l', wz, az⟩ := wA
          obtain ⟨s6, p6, r6⟩ := r6
          replace wz : Ws T n zs := wz
          replace p6 : PC M6 T n zs := p6
          refine c_readToken p6 wz (kk := 7) (x' := 41) rfl (by omega) (fun M7 f7 p7 => ?_)
          intro M8 e8
          have p8 : PC M8 T n (pExp T n 41 zs) := by rw [e8]; exact p7.ua (by omega)
          refine c_readToken p8 (wz.exp 41) (kk := 5) (x' := 59) rfl (by omega) (fun M9 f9 p9 => hK M9 ?_)
          refine ⟨(((s4.trans f5.sS).trans s6).trans f7.sS).trans ((show FrS M7 M8 by rw [e8]; exact ua_s (by omega) (by omega)).trans f9.sS), p9, fun he => ?_⟩
          have he' : pe (pExp T n 59 (pExp T n 41 zs)) = 0 := he
          have z0 := pExp_ok (pExp_ok he')
          obtain ⟨r1, r2, r3⟩ := r6 z0
          obtain ⟨-, -, b3, b4, b5, -⟩ := az z0
          replace r1 : M6 3 1 = nI zc := r1
          replace r2 : ∀ k, k < c + 1 → M6 (5 + k) = M5 (5 + k) := r2
          replace r3 : Cc M6 zC (c + 1) zc := r3
          replace b3 : c + 1 ≤ zc := b3
          replace b5 : ∀ k, k < c + 1 → zC k = cmC T n d c s C k := b5
          have k73 : M7 3 1 = nI zc := by rw [f7.1 3 (by decide)]; exact r1
          rw [k73] at e8
          have k9 : ∀ k, k ≠ c → M9 (5 + k) = M6 (5 + k) := fun k hk => by rw [f9.1 (5 + k) (by omega), e8, u2_n (by omega), f7.1 (5 + k) (by omega)]
          show M9 3 1 = nI zc ∧ (∀ k, k < c → M9 (5 + k) = M (5 + k)) ∧ Cc M9 (uC zC c (nI zc)) c zc
          refine ⟨by rw [f9.1 3 (by decide), e8, u2_n (by omega)]; exact k73, fun k hk => by rw [k9 k (by omega), r2 k (by omega), k5 k]; exact k4 k (by omega), fun k k1 k2 => ?_⟩
          by_cases hk : k = c
          · subst hk
            have e0 : uC zC k (nI zc) k 0 = nI (vb T s) := by rw [uC_j (by decide), b5 k (by omega)]; exact C1_0
            have e9 : M9 (5 + k) = upd (M4 (5 + k)) 5 (nI zc) := by
              rw [f9.1 (5 + k) (by omega), e8, u2_id]
              rw [uR_s, f7.1 (5 + k) (by omega), r2 k (by omega), k5 k]
            rw [e0, nI_clamp (by omega), e9]
            refine ⟨(up_n (by decide)).trans v0, fun j hj => ?_, ?_⟩
            · have l4 := nl_len (v := vb T s)
              rw [up_n (by omega), v4 j hj, uC_j (by omega), b5 k (by omega)]
              exact (cmC_j hv hj).symm
            · rw [up_s, uC_5]
          · rw [k9 k hk, uC_x hk]
            exact r3 k (by omega) k2
      refine ⟨fun c8 => L45 (fun h8 => absurd (by rw [h8]; rfl) c8), fun c8 => ⟨fun cd => L45 (fun _ => Nat.lt_of_not_le (fun hle => nI_nlt (a := d) (b := 2) hle (by omega) cd)), fun cd => ?_⟩⟩
      have h8 : vb T s = 8 := nI_inj (b := 8) (by omega) (by decide) c8
      refine bad 4 (by decide) (by decide) (cm3_F hv ?_)
      rw [decide_eq_false (fun e : vb T s ≠ 8 => e h8), Bool.false_or, decide_eq_false (fun hlt : d < 2 => cd (nI_lt (b := 2) hlt (by decide))), Bool.and_false]
/-- a block -/
theorem c_block {fc : Int32 → TM → (TM → Prop) → Prop} {g : PY → PY} {cd : PY → Bool} {kind : Nat} (hc : ∀ y, cd y = true → pe y.1 = 0) (hk : ∀ y : PY, ∀ M, PC M T n y.1 → Ws T n y.1 → pe y.1 = 0 → ∀ KI : Int32 → TM → Prop, KI (bi (!cd y)) M → f_X10_isAt (nI kind) M KI) (hk8 : kind < 8) (hA : ∀ y, Ws T n y.1 → pe y.1 = 0 → y.2.1 ≤ 20 → Adv T n l y (g y)) (hC : CmdC T n fc g d) (p2 p3 : Int32) (KV : TM → Prop) : ∀ f i y M, (n - pn y.1 < f ∨ pe y.1 ≠ 0) → Ws T n y.1 → PC M T n y.1 → (pe y.1 = 0 → y.2.1 ≤ 20 ∧ M 3 1 = nI y.2.1 ∧ i ≤ y.2.1) → i ≤ 21 → (∀ M', Cres T n M M' y.2.1 (lp cd g f y) → KV M') → f_X8_parseBlock_L3 fc p2 p3 KV (f + 1) (nI kind) (nI d) (nI i) M := by
  have isat : ∀ (y : PY) (M : TM) (KI : Int32 → TM → Prop), PC M T n y.1 → Ws T n y.1 → (pe y.1 = 0 → KI (bi (!cd y)) M) → (pe y.1 ≠ 0 → KI 0 M) → f_X10_isAt (nI kind) M KI := fun y M KI h w h0 h1 => by
    by_cases he : pe y.1 = 0
    · exact hk y M h w he KI (h0 he)
    · refine c_isAt h w rfl hk8 ?_
      rw [decide_eq_false he, Bool.false_and]
      exact h1 he
  have stop : ∀ (f : Nat) (y : PY), pe y.1 ≠ 0 → lp cd g f y = y := fun f y he => lp_F (Bool.eq_false_iff.2 (fun e => he (hc y e)))
  have same : ∀ (y : PY) (M : TM), PC M T n y.1 → (pe y.1 = 0 → M 3 1 = nI y.2.1) → Cres T n M M y.2.1 y := fun y M h h3 => ⟨FrS.refl M, h, fun e => ⟨h3 e, fun _ _ => rfl, fun k k1 k2 => absurd k2 (by omega)⟩⟩
  have err : ∀ (f i : Nat) (y : PY) (M : TM), i ≤ 21 → pe y.1 ≠ 0 → Ws T n y.1 → PC M T n y.1 → (∀ M', Cres T n M M' y.2.1 y → KV M') → f_X8_parseBlock_L3 fc p2 p3 KV (f + 1) (nI kind) (nI d) (nI i) M := fun f i y M hi he w h hK => by
    have w10 := w.2.1
    rw [f_X8_parseBlock_L3]
    have fin := hK M (same y M h (fun e => absurd e he))
    refine ⟨fun _ => fin, fun _ => ?_⟩
    refine isat y M _ h w (fun e => absurd e he) (fun _ => ?_)
    refine cT rfl ?_
    unfold f_X10_failed
    rw [h.2.1]
    refine cN' (nI_ne0 (by omega) (by omega)) ?_
    exact cN (by decide) fin
  intro f
  induction f with
  | zero =>
    intro i y M hf w h h20 hi hK
    have he : pe y.1 ≠ 0 := by rcases hf with h | h; omega; exact h
    exact err 0 i y M hi he w h hK
  | succ f ih =>
    intro i y M hf w h h20 hi hK
    by_cases he : pe y.1 = 0
    · obtain ⟨c20, h31, ic⟩ := h20 he
      rw [f_X8_parseBlock_L3]
      refine cN' (nI_nlt (a := 20) (b := i) (by omega) (by decide)) ?_
      refine isat y M _ h w (fun _ => ?_) (fun e => absurd he e)
      by_cases hy : cd y = true
      · rw [hy]
        refine cT rfl ?_
        unfold f_X10_failed
        rw [h.2.1, he]
        refine cT' rfl ?_
        refine cT rfl ?_
        rw [lp_T hy] at hK
        obtain ⟨s, c, C⟩ := y
        have adv := hA (s, c, C) w he c20
        refine hC s c C M _ h w he c20 h31 (fun M1 r1 => ?_)
        obtain ⟨z, ez⟩ : ∃ z, z = g (s, c, C) := ⟨_, rfl⟩
        rw [← ez] at hK adv r1
        obtain ⟨wz, az⟩ := adv
        obtain ⟨f1, p1, q1⟩ := r1
        rw [nI_1]
        have hfz : n - pn z.1 < f ∨ pe z.1 ≠ 0 := by
          by_cases hz : pe z.1 = 0
          · obtain ⟨-, b2, -⟩ := az hz
            have b2' : pn s < pn z.1 := b2
            have hf' : n - pn s < f + 1 ∨ pe s ≠ 0 := hf
            have := (wz.2.2.le).2.1
            rcases hf' with hf' | hf'
            · left; omega
            · exact absurd he hf'
          · exact Or.inr hz
        refine ih (i + 1) z M1 hfz wz p1 (fun hz => ⟨(az hz).2.2.2.1, (q1 hz).1, ?_⟩) (by omega) (fun M2 r2 => hK M2 ?_)
        · have := (az hz).2.2.1
          have : c < z.2.1 := this
          have : i ≤ c := ic
          omega
        · obtain ⟨f2, p2', q2⟩ := r2
          refine ⟨f1.trans f2, p2', fun hz => ?_⟩
          obtain ⟨r3, r4, r5⟩ := q2 hz
          have adb := blk_adv (l := l) hc hA f z wz (fun e => (az e).2.2.2.1)
          obtain ⟨b1, -, b3, -, b5, -⟩ := adb.2 hz
          obtain ⟨t1, t2, t3⟩ := q1 b1
          have b0 : c < z.2.1 := (az b1).2.2.1
          exact ⟨r3, fun k hk => by rw [r4 k (by have : k < c := hk; omega), t2 k hk], (t3.congr (fun k k1 k2 => r4 k k2) (fun k k1 k2 => b5 k k2)).join r5⟩
      · rw [Bool.eq_false_iff.2 hy]
        rw [lp_F (Bool.eq_false_iff.2 hy)] at hK
        exact cN (by decide) (hK M (same y M h (fun _ => h31)))
    · rw [stop _ y he] at hK
      exact err (f + 1) i y M hi he w h hK
end CSCRIPT
