/-! the script's text: the model's commands and blocks -/
def CmdM (T : Nat → Nat) (n : Nat) (fc : Int32 → TM → (TM → Prop) → Prop) (g : PY → PY) (d : Nat) : Prop := ∀ (s : PS) (c : Nat) (C : CmT) (M : TM) (KV : TM → Prop), PM M T n s → Ws T n s → pe s = 0 → c ≤ 20 → M 699 26 = nI c → (∀ M', Mres T n M M' c (g (s, c, C)) → KV M') → fc (nI d) M KV
section MSCRIPT2
variable {T : Nat → Nat} {n : Nat} {s : PS} {y y' : PY} {M M1 M2 M' : TM} {C C' : CmT} {KV : TM → Prop} {KI : Int32 → TM → Prop} {a b c d e f i j k l m v x' lo hi : Nat} {p q p1 p2 : Int32}
theorem Mc.congr (h : Mc M C a b) (hM : ∀ i, 5 * a ≤ i → i < 5 * b → M' 708 i = M 708 i) (hC : ∀ k, a ≤ k → k < b → C' k = C k) : Mc M' C' a b := fun k k1 k2 => by
  obtain ⟨h1, h2, h3⟩ := h k k1 k2
  rw [hC k k1 k2, hM (5 * k) (by omega) (by omega)]
  exact ⟨h1, fun j hj => by rw [hM _ (by omega) (by have := nl_len (v := (C k 0).toNatClampNeg); omega)]; exact h2 j hj, fun e => by rw [hM _ (by omega) (by omega)]; exact h3 e⟩
theorem Mc.join (h1 : Mc M C a b) (h2 : Mc M C b c) : Mc M C a c := fun k k1 k2 => if hk : k < b then h1 k k1 hk else h2 k (by omega) k2
theorem mres_same (h : PM M T n y.1) (h26 : pe y.1 = 0 → M 699 26 = nI y.2.1) : Mres T n M M y.2.1 y := ⟨FrK.refl M, h, fun e => ⟨h26 e, fun _ _ => rfl, fun k k1 k2 => absurd k2 (by omega)⟩⟩
theorem mres_join {g : PY → PY} {cd : PY → Bool} {f : Nat} {z : PY} (hc : ∀ y, cd y = true → pe y.1 = 0) (hA : ∀ y, Ws T n y.1 → pe y.1 = 0 → y.2.1 ≤ 20 → Adv T n l y (g y)) (ez : z = g y) (wy : Ws T n y.1) (he : pe y.1 = 0) (c20 : y.2.1 ≤ 20) (r1 : Mres T n M M1 y.2.1 z) (r2 : Mres T n M1 M2 z.2.1 (lp cd g f z)) : Mres T n M M2 y.2.1 (lp cd g f z) := by
  have adv := hA y wy he c20
  rw [← ez] at adv
  obtain ⟨wz, az⟩ := adv
  obtain ⟨f1, p1, q1⟩ := r1
  obtain ⟨f2, p2', q2⟩ := r2
  refine ⟨f1.trans f2, p2', fun hz => ?_⟩
  obtain ⟨r3, r4, r5⟩ := q2 hz
  have adb := blk_adv (l := l) hc hA f z wz (fun e => (az e).2.2.2.1)
  obtain ⟨b1, -, b3, -, b5, -⟩ := adb.2 hz
  obtain ⟨t1, t2, t3⟩ := q1 b1
  have b0 := (az b1).2.2.1
  exact ⟨r3, fun k hk => by rw [r4 k (by omega), t2 k hk], (t3.congr (fun k k1 k2 => r4 k k2) (fun k k1 k2 => b5 k k2)).join r5⟩
theorem fz_z {g : PY → PY} {z : PY} {f : Nat} (wy : Ws T n y.1) (he : pe y.1 = 0) (hf : n - pn y.1 < f + 1 ∨ pe y.1 ≠ 0) (ad : Adv T n l y z) : n - pn z.1 < f ∨ pe z.1 ≠ 0 := by
  obtain ⟨wz, az⟩ := ad
  by_cases hz : pe z.1 = 0
  · obtain ⟨-, b2, -⟩ := az hz
    have := (wz.2.2.le).2.1
    rcases hf with hf' | hf'
    · left; omega
    · exact absurd he hf'
  · exact Or.inr hz
theorem m_L20 {fc : Int32 → TM → (TM → Prop) → Prop} {g : PY → PY} (hA : ∀ y, Ws T n y.1 → pe y.1 = 0 → y.2.1 ≤ 20 → Adv T n l y (g y)) (hC : CmdM T n fc g (d + 1)) (x1 : Int32) (KV : TM → Prop) : ∀ f y M, (n - pn y.1 < f ∨ pe y.1 ≠ 0) → Ws T n y.1 → PM M T n y.1 → (pe y.1 = 0 → y.2.1 ≤ 20 ∧ M 699 26 = nI y.2.1) → (∀ M', Mres T n M M' y.2.1 (lp (cBk T) g f y) → f_X13_readRepeat_L46 fc p1 p2 KV x1 M') → f_X13_readRepeat_L20 fc p1 p2 KV (f + 1) x1 (nI d) M := by
  have err : ∀ (f : Nat) (y : PY) (M : TM), pe y.1 ≠ 0 → Ws T n y.1 → PM M T n y.1 → (∀ M', Mres T n M M' y.2.1 (lp (cBk T) g f y) → f_X13_readRepeat_L46 fc p1 p2 KV x1 M') → ∀ f', f_X13_readRepeat_L20 fc p1 p2 KV (f' + 1) x1 (nI d) M := fun f y M he w h hK f' => by
    have w10 := w.2.1
    rw [lp_F (Bool.eq_false_iff.2 (fun e => he (cBk_pe e)))] at hK
    rw [f_X13_readRepeat_L20, h.2.1]
    exact cN (nI_ne0 (by omega) (by omega)) (hK M (mres_same h (fun e => absurd e he)))
  intro f
  induction f with
  | zero =>
    intro y M hf w h h20 hK
    have he : pe y.1 ≠ 0 := by rcases hf with h | h; omega; exact h
    exact err 0 y M he w h hK 0
  | succ f ih =>
    intro y M hf w h h20 hK
    by_cases he : pe y.1 = 0
    · obtain ⟨c20, h26⟩ := h20 he
      rw [f_X13_readRepeat_L20, h.2.1, he]
      refine cT rfl ?_
      refine m_isSymbol h w (x' := 41) rfl (by decide) ?_
      refine bT (fun hs => ?_) (fun hs => ?_)
      · have hb : cBk T y = false := by unfold cBk; rw [hs, decide_eq_true he]; rfl
        rw [lp_F hb] at hK
        exact hK M (mres_same h (fun _ => h26))
      · have hb : cBk T y = true := by unfold cBk; rw [hs, decide_eq_true he]; rfl
        rw [lp_T hb] at hK
        rw [nI_1]
        have adv := hA y w he c20
        refine hC y.1 y.2.1 y.2.2 M _ h w he c20 h26 (fun M1 r1 => ?_)
        obtain ⟨z, ez⟩ : ∃ z, z = g y := ⟨_, rfl⟩
        have r1' : Mres T n M M1 y.2.1 z := by rw [ez]; exact r1
        rw [← ez] at hK adv
        refine ih z M1 (fz_z (g := g) w he hf adv) adv.1 r1'.2.1 (fun hz => ⟨(adv.2 hz).2.2.2.1, (r1'.2.2 hz).1⟩) (fun M2 r2 => hK M2 (mres_join (l := l) (fun y => cBk_pe) hA ez w he c20 r1' r2))
    · exact err (f + 1) y M he w h hK (f + 1)
theorem m_L24 {g : PY → PY} (hA : ∀ y, Ws T n y.1 → pe y.1 = 0 → y.2.1 ≤ 20 → Adv T n l y (g y)) (hC : CmdM T n (fun p M K => f_X13_readCommandC p M K) g 0) (KI : Int32 → TM → Prop) : ∀ f y M, (n - pn y.1 < f ∨ pe y.1 ≠ 0) → Ws T n y.1 → PM M T n y.1 → (pe y.1 = 0 → y.2.1 ≤ 20 ∧ M 699 26 = nI y.2.1) → (∀ M', Mres T n M M' y.2.1 (lp cTp g f y) → f_X13_runScript_L46 p1 KI M') → f_X13_runScript_L24 p1 KI (f + 1) M := by
  have err : ∀ (f : Nat) (y : PY) (M : TM), pe y.1 ≠ 0 → Ws T n y.1 → PM M T n y.1 → (∀ M', Mres T n M M' y.2.1 (lp cTp g f y) → f_X13_runScript_L46 p1 KI M') → ∀ f', f_X13_runScript_L24 p1 KI (f' + 1) M := fun f y M he w h hK f' => by
    have w10 := w.2.1
    rw [lp_F (Bool.eq_false_iff.2 (fun e => he (cTp_pe e)))] at hK
    rw [f_X13_runScript_L24, h.2.1]
    exact cN (nI_ne0 (by omega) (by omega)) (hK M (mres_same h (fun e => absurd e he)))
  intro f
  induction f with
  | zero =>
    intro y M hf w h h20 hK
    have he : pe y.1 ≠ 0 := by rcases hf with h | h; omega; exact h
    exact err 0 y M he w h hK 0
  | succ f ih =>
    intro y M hf w h h20 hK
    by_cases he : pe y.1 = 0
    · obtain ⟨c20, h26⟩ := h20 he
      have tl := w.2.2.le
      rw [f_X13_runScript_L24, h.2.1, h.2.2.2.2.1, he]
      refine cT rfl ⟨fun c1 => ?_, fun c1 => ?_⟩
      · have k0 : pk y.1 = 0 := nI_inj (b := 0) (by omega) (by decide) c1
        have hb : cTp y = false := by unfold cTp; rw [show decide (pk y.1 ≠ 0) = false from decide_eq_false (fun e => e k0), Bool.and_false]
        rw [lp_F hb] at hK
        exact hK M (mres_same h (fun _ => h26))
      · have k0 : pk y.1 ≠ 0 := fun e => c1 (by rw [e]; rfl)
        have hb : cTp y = true := by unfold cTp; rw [decide_eq_true k0, decide_eq_true he]; rfl
        rw [lp_T hb] at hK
        have adv := hA y w he c20
        refine hC y.1 y.2.1 y.2.2 M _ h w he c20 h26 (fun M1 r1 => ?_)
        obtain ⟨z, ez⟩ : ∃ z, z = g y := ⟨_, rfl⟩
        have r1' : Mres T n M M1 y.2.1 z := by rw [ez]; exact r1
        rw [← ez] at hK adv
        refine ih z M1 (fz_z (g := g) w he hf adv) adv.1 r1'.2.1 (fun hz => ⟨(adv.2 hz).2.2.2.1, (r1'.2.2 hz).1⟩) (fun M2 r2 => hK M2 (mres_join (l := l) (fun y => cTp_pe) hA ez w he c20 r1' r2))
    · exact err (f + 1) y M he w h hK (f + 1)
/-- a command -/
theorem m_cmd {fc : Int32 → TM → (TM → Prop) → Prop} {g : PY → PY} (hA : d < 2 → ∀ y, Ws T n y.1 → pe y.1 = 0 → y.2.1 ≤ 20 → Adv T n l y (g y)) (hC : d < 2 → CmdM T n fc g (d + 1)) (hd : d < 3) : CmdM T n (fun p M K => f_X13_readCommand (fun p1 p2 M K => f_X13_readRepeat fc p1 p2 M K) p M K) (pCmd T n (fun z => lp (cBk T) g 501 z) d) d := by
  intro s c C M KV h w h0 h20 h26 hK
  show f_X13_readCommand _ (nI d) M KV
  unfold f_X13_readCommand
  obtain ⟨w3, w4⟩ := cm_w (d := d) (c := c) w
  have w1 : Ws T n (cm1 T s) := w.chk (by decide)
  refine m_cmdHere h w ?_
  -- the check for room, and what follows
  have L53 : ∀ (b : Bool) (z0 x2 : Int32) (M1 : TM), z0 = bi b → b = cmB T d c s → FrM M M1 → PM M1 T n (cm1 T s) → (pe (cm3 T n d c s) = 0 → x2 = nI (vb T s)) → f_X13_readCommand_L53 (fun p1 p2 M K => f_X13_readRepeat fc p1 p2 M K) (nI d) KV (nI d) x2 z0 M1 := fun b z0 x2 M1 ez eb f1 q1 hx => by
    unfold f_X13_readCommand_L53
    refine m_check q1 w1 ez (code := 4) rfl (by decide) (fun M6 f6 q6 => ?_)
    refine m_adv q6 (w1.chk (by decide)) (fun M7 f7 q7 => ?_)
    have e3 : pAdv T n (pChk b 4 (cm1 T s)) = cm3 T n d c s := by rw [eb]; rfl
    rw [e3] at q7
    have F7 : FrK M M7 := f1.toK.trans (f6.toK.trans f7.toK)
    have c7 : M7 708 = M 708 := by rw [f7.c8, f6.c8, f1.c8]
    have d7 : M7 699 26 = nI c := by rw [f7.c26, f6.c26, f1.c26]; exact h26
    have w10 := w3.2.1
    rw [q7.2.1]
    refine ⟨fun cz => ?_, fun cz => ?_⟩
    · have p3 : pe (cm3 T n d c s) = 0 := nI_inj (b := 0) (by omega) (by decide) cz
      obtain ⟨k1, k2, k3, k4, k5, -⟩ := cm3_ok p3
      have ex := hx p3
      subst ex
      have e5 : (5 : Int32) * M7 699 26 = nI (5 * c) := by rw [d7]; exact nI_mul 5 c
      rw [e5]
      refine ⟨vp_in_nI (by omega) (by decide), ?_⟩
      rw [nI_clamp (n := 5 * c) (by omega)]
      intro M10 e10 M11 e11
      have d10 : M10 699 26 = nI c := by rw [e10, u2_n (by decide)]; exact d7
      rw [d10, nI_1] at e11
      have q11 : PM M11 T n (cm3 T n d c s) := by rw [e11, e10]; exact q7.w8.w26
      have F11 : FrK M M11 := F7.trans (by rw [e11, e10]; exact k8.trans k26)
      have d11 : M11 699 26 = nI (c + 1) := by rw [e11, u2_s]
      have c11 : M11 708 = upd (M 708) (5 * c) (nI (vb T s)) := by rw [e11, u2_n (by decide), e10, u2_id, uR_s, c7]
      refine ⟨fun c8 => ?_, fun c8 => ?_⟩
      · have h8 : vb T s ≠ 8 := fun e => c8 (by rw [e]; rfl)
        rw [pCmd_n p3 h8] at hK
        refine m_numbers q11 w3 (by omega) k3 (fun M12 f12 d12 a12 q12 v12 => hK M12 ⟨F11.trans f12, q12, fun _ => ⟨by rw [d12]; exact d11, fun i hi' => ?_, fun k k1' k2' => ?_⟩⟩)
        · rw [a12 i (by omega), c11, up_n (by omega)]
        · have ek : k = c := by
            have : k < c + 1 := k2'
            omega
          subst ek
          show M12 708 (5 * k) = cmC T n d k s C k 0 ∧ (∀ j, j < (nl (cmC T n d k s C k 0).toNatClampNeg).length → M12 708 (5 * k + (1 + j)) = cmC T n d k s C k (1 + j)) ∧ (cmC T n d k s C k 0 = 8 → M12 708 (5 * k + 2) = cmC T n d k s C k 5)
          rw [cmC_0, nI_clamp (by omega)]
          refine ⟨by rw [a12 _ (Nat.le_refl _), c11]; exact up_s _ _ _, fun j hj => by rw [cmC_j k2 hj]; exact v12 j hj, fun e => absurd (nI_inj (b := 8) (by omega) (by decide) e) h8⟩
      · have h8 : vb T s = 8 := nI_inj (b := 8) (by omega) (by decide) c8
        have hd2 := k4 h8
        rw [pCmd_r p3 h8] at hK
        have e4 : cm4 T n d c s = pNum T n 2 5 (cm3 T n d c s) := by unfold cm4; rw [h8]; rfl
        unfold f_X13_readRepeat
        refine m_readNumber q11 w3 (lo := 2) (hi := 5) rfl rfl (by decide) (by decide) (fun M12 f12 q12 => ?_)
        rw [nI_1]
        refine ⟨vp_in_nI (by omega) (by decide), ?_⟩
        rw [nI_clamp (n := 5 * c + 1) (by omega)]
        intro M13 e13
        rw [← e4] at q12
        have q13 : PM M13 T n (cm4 T n d c s) := by rw [e13]; exact q12.w8
        refine m_expect q13 w4 (x' := 40) rfl (by decide) (fun M14 f14 q14 => ?_)
        have F14 : FrK M M14 := F11.trans (f12.toK.trans ((show FrK M12 M13 by rw [e13]; exact k8).trans f14.toK))
        have d14 : M14 699 26 = nI (c + 1) := by rw [f14.c26, e13, u2_n (by decide), f12.c26]; exact d11
        have c14 : M14 708 = upd (upd (M 708) (5 * c) (nI (vb T s))) (5 * c + 1) (nI (pLv T 2 5 (cm3 T n d c s))) := by rw [f14.c8, e13, u2_id, uR_s, f12.c8, c11]
        have wy : Ws T n (pExp T n 40 (cm4 T n d c s)) := w4.exp 40
        have hn := w.1
        refine ⟨502, m_L20 (l := l) (hA hd2) (hC hd2) (nI (5 * c)) _ 501 (pExp T n 40 (cm4 T n d c s), c + 1, cmC T n d c s C) M14 (Or.inl (by omega)) wy q14 (fun _ => ⟨k3, d14⟩) (fun M15 r15 => ?_)⟩
        have adb := blk_adv (l := l) (T := T) (n := n) (g := g) (cd := cBk T) (fun y => cBk_pe) (hA hd2) 501 (pExp T n 40 (cm4 T n d c s), c + 1, cmC T n d c s C) wy (fun _ => k3)
        obtain ⟨z, ez⟩ : ∃ z, z = lp (cBk T) g 501 (pExp T n 40 (cm4 T n d c s), c + 1, cmC T n d c s C) := ⟨_, rfl⟩
        rw [← ez] at hK r15 adb
        obtain ⟨zs, zc, zC⟩ := z
        obtain ⟨wz, az⟩ := adb
        obtain ⟨f15, p15, q15⟩ := r15
        replace wz : Ws T n zs := wz
        replace p15 : PM M15 T n zs := p15
        unfold f_X13_readRepeat_L46
        refine m_expect p15 wz (x' := 41) rfl (by decide) (fun M16 f16 q16 => ?_)
        rw [p2n]
        refine ⟨vp_in_nI (by omega) (by decide), ?_⟩
        rw [nI_clamp (n := 5 * c + 2) (by omega)]
        intro M17 e17
        have q17 : PM M17 T n (pExp T n 41 zs) := by rw [e17]; exact q16.w8
        refine m_expect q17 (wz.exp 41) (x' := 59) rfl (by decide) (fun M18 f18 q18 => hK M18 ?_)
        refine ⟨F14.trans (f15.trans (f16.toK.trans ((show FrK M16 M17 by rw [e17]; exact k8).trans f18.toK))), q18, fun he => ?_⟩
        have he' : pe (pExp T n 59 (pExp T n 41 zs)) = 0 := he
        have z0 := pExp_ok (pExp_ok he')
        obtain ⟨r1, r2, r3⟩ := q15 z0
        obtain ⟨-, -, b3, b4, b5, -⟩ := az z0
        replace r1 : M15 699 26 = nI zc := r1
        replace r2 : ∀ i, i < 5 * (c + 1) → M15 708 i = M14 708 i := r2
        replace r3 : Mc M15 zC (c + 1) zc := r3
        replace b3 : c + 1 ≤ zc := b3
        replace b5 : ∀ k, k < c + 1 → zC k = cmC T n d c s C k := b5
        have d16 : M16 699 26 = nI zc := by rw [f16.c26]; exact r1
        rw [d16] at e17
        have c18 : ∀ i, i ≠ 5 * c + 2 → M18 708 i = M15 708 i := fun i hi' => by rw [f18.c8, e17, u2_f hi', f16.c8]
        show M18 699 26 = nI zc ∧ (∀ i, i < 5 * c → M18 708 i = M 708 i) ∧ Mc M18 (uC zC c (nI zc)) c zc
        refine ⟨by rw [f18.c26, e17, u2_n (by decide)]; exact d16, fun i hi' => by rw [c18 i (by omega), r2 i (by omega), c14, up_n (by omega), up_n (by omega)], fun k k1' k2' => ?_⟩
        by_cases hk : k = c
        · subst hk
          have e0 : uC zC k (nI zc) k 0 = nI (vb T s) := by rw [uC_j (by decide), b5 k (by omega)]; exact C1_0
          rw [e0, nI_clamp (by omega)]
          refine ⟨by rw [c18 _ (by omega), r2 _ (by omega), c14, up_n (by omega)]; exact up_s _ _ _, fun j hj => ?_, fun _ => ?_⟩
          · have j0 : j = 0 := by
              rw [h8] at hj
              have : (nl 8).length = 1 := rfl
              omega
            subst j0
            rw [uC_j (by decide), b5 k (by omega), c18 _ (by omega), r2 _ (by omega), c14]
            refine (up_s _ _ _).trans ?_
            have := cmC_j (n := n) (d := d) (c := k) (C := C) k2 hj
            rw [this, h8]
            rfl
          · rw [uC_5, f18.c8, e17, u2_s]
        · obtain ⟨t1, t2, t3⟩ := r3 k (by omega) k2'
          rw [uC_x hk, c18 _ (by omega)]
          exact ⟨t1, fun j hj => by rw [c18 _ (by have := nl_len (v := (zC k 0).toNatClampNeg); omega)]; exact t2 j hj, fun e => by rw [c18 _ (by omega)]; exact t3 e⟩
    · have p3 : pe (cm3 T n d c s) ≠ 0 := fun e => cz (by rw [e]; rfl)
      rw [pCmd_e p3] at hK
      exact hK M7 ⟨F7, q7, fun e => absurd e p3⟩
  -- the check for a verb
  have L16 : ∀ (b : Bool) (z0 x2 : Int32), z0 = bi b → b = decide (vb T s < 9) → (vb T s < 9 → x2 = nI (vb T s)) → f_X13_readCommand_L16 (fun p1 p2 M K => f_X13_readRepeat fc p1 p2 M K) (nI d) KV (nI d) x2 z0 M := fun b z0 x2 ez eb hx => by
    unfold f_X13_readCommand_L16 f_X13_readCommand_L48 f_X13_readCommand_L52
    refine m_check h w ez (code := 1) rfl (by decide) (fun M4 f4 q4 => ?_)
    rw [eb] at q4
    have q4' : PM M4 T n (cm1 T s) := q4
    have w10 := w1.2.1
    have hx' : pe (cm3 T n d c s) = 0 → x2 = nI (vb T s) := fun e => hx (cm3_ok e).2.1
    rw [q4'.2.1]
    refine ⟨fun cz => ?_, fun cz => ?_⟩
    · have hne : pe (cm1 T s) ≠ 0 := fun e => cz (by rw [e]; rfl)
      exact L53 true 1 x2 M4 rfl (by unfold cmB; rw [decide_eq_true hne, Bool.true_or]) f4 q4' hx'
    · have p1 : pe (cm1 T s) = 0 := nI_inj (b := 0) (by omega) (by decide) cz
      have hv : vb T s < 9 := of_decide_eq_true (pChk_ok (show pe (pChk (decide (vb T s < 9)) 1 s) = 0 from p1) (by decide)).1
      have ex := hx hv
      have eB : cmB T d c s = (decide (c < 20) && (decide (vb T s ≠ 8) || decide (d < 2))) := by
        unfold cmB
        rw [decide_eq_false (fun e => e p1), Bool.false_or]
      have d4 : M4 699 26 = nI c := by rw [f4.c26]; exact h26
      rw [d4]
      refine ⟨fun c1 => ?_, fun c1 => ?_⟩
      · refine L53 false 0 x2 M4 rfl ?_ f4 q4' hx'
        rw [eB, decide_eq_false (fun hlt : c < 20 => nI_ge (b := 20) hlt (by decide) c1), Bool.false_and]
      · have hc20 : c < 20 := Nat.lt_of_not_le (fun hle => c1 (nI_le (a := 20) hle (by omega)))
        rw [decide_eq_true hc20, Bool.true_and] at eB
        refine ⟨fun c8 => ?_, fun c8 => ⟨fun cd => ?_, fun cd => ?_⟩⟩
        · have h8 : vb T s ≠ 8 := fun e => c8 (by rw [ex, e]; rfl)
          exact L53 true 1 x2 M4 rfl (by rw [eB, decide_eq_true h8, Bool.true_or]) f4 q4' hx'
        · have h8 : vb T s = 8 := nI_inj (b := 8) (by omega) (by decide) (by rw [← ex]; exact c8)
          refine L53 false 0 x2 M4 rfl ?_ f4 q4' hx'
          rw [eB, decide_eq_false (fun e : vb T s ≠ 8 => e h8), Bool.false_or, decide_eq_false (fun hlt : d < 2 => nI_ge (b := 2) hlt (by decide) cd)]
        · have hd2 : d < 2 := Nat.lt_of_not_le (fun hle => cd (nI_le (a := 2) hle (by omega)))
          exact L53 true 1 x2 M4 rfl (by rw [eB, decide_eq_true hd2, Bool.or_true]) f4 q4' hx'
  rcases vb_cases T s with ⟨v1, v2, -⟩ | ⟨v1, v2, -⟩
  · rw [v2]
    exact cT' rfl (L16 false 0 (-1) rfl (by rw [v1]; rfl) (fun hv => absurd hv (by omega)))
  · rw [v2]
    exact cN' (nI_m1 (by omega)) (L16 true 1 _ rfl (decide_eq_true v1).symm (fun _ => rfl))
end MSCRIPT2
