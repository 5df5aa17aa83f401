/-! the script's text, purely -/
abbrev CmT := Nat → Nat → Int32
abbrev PY := PS × Nat × CmT
def nl (v : Nat) : List (Nat × Nat) := if v = 0 then [(0, 4), (0, 15)] else if v = 1 then [(0, 15), (1, 4), (1, 6), (1, 500)] else if v = 2 then [(0, 4), (0, 29)] else if v = 3 then [(0, 29)] else if v = 4 then [(0, 4), (1, 99)] else if v = 5 then [(0, 4)] else if v = 6 then [(0, 4)] else if v = 7 then [(1, 60)] else [(2, 5)]
def sNs (T : Nat → Nat) (n : Nat) : List (Nat × Nat) → PS → PS
  | [], s => s
  | x :: l, s => sNs T n l (pNum T n x.1 x.2 s)
def vNs (T : Nat → Nat) (n : Nat) : List (Nat × Nat) → PS → Nat → Int32
  | [], _, _ => 0
  | x :: _, s, 0 => nI (pLv T x.1 x.2 s)
  | x :: l, s, j + 1 => vNs T n l (pNum T n x.1 x.2 s) j
def vb (T : Nat → Nat) (s : PS) : Nat := if ff (fun a => pWd T s a) 9 = -1 then 9 else (ff (fun a => pWd T s a) 9).toNatClampNeg
def cm1 (T : Nat → Nat) (s : PS) : PS := pChk (decide (vb T s < 9)) 1 s
def cmB (T : Nat → Nat) (d c : Nat) (s : PS) : Bool := decide (pe (cm1 T s) ≠ 0) || (decide (c < 20) && (decide (vb T s ≠ 8) || decide (d < 2)))
def cm3 (T : Nat → Nat) (n d c : Nat) (s : PS) : PS := pAdv T n (pChk (cmB T d c s) 4 (cm1 T s))
def cm4 (T : Nat → Nat) (n d c : Nat) (s : PS) : PS := sNs T n (nl (vb T s)) (cm3 T n d c s)
def C1 (C : CmT) (k v : Nat) (vs : Nat → Int32) : CmT := fun a b => if a = k then (if b = 0 then nI v else if b = 5 then nI (k + 1) else vs (b - 1)) else C a b
def uC (C : CmT) (k : Nat) (q : Int32) : CmT := fun a b => if a = k ∧ b = 5 then q else C a b
def cmC (T : Nat → Nat) (n d c : Nat) (s : PS) (C : CmT) : CmT := C1 C c (vb T s) (vNs T n (nl (vb T s)) (cm3 T n d c s))
def pRep (T : Nat → Nat) (n k : Nat) (z : PY) : PY := (pExp T n 59 (pExp T n 41 z.1), z.2.1, uC z.2.2 k (nI z.2.1))
def pCmd (T : Nat → Nat) (n : Nat) (blk : PY → PY) (d : Nat) (y : PY) : PY :=
  if pe (cm3 T n d y.2.1 y.1) ≠ 0 then (cm3 T n d y.2.1 y.1, y.2) else
  if vb T y.1 ≠ 8 then (pExp T n 59 (cm4 T n d y.2.1 y.1), y.2.1 + 1, cmC T n d y.2.1 y.1 y.2.2)
  else pRep T n y.2.1 (blk (pExp T n 40 (cm4 T n d y.2.1 y.1), y.2.1 + 1, cmC T n d y.2.1 y.1 y.2.2))
def cBk (T : Nat → Nat) (y : PY) : Bool := decide (pe y.1 = 0) && !pSym T y.1 41
def cTp (y : PY) : Bool := decide (pe y.1 = 0) && decide (pk y.1 ≠ 0)
def pC (T : Nat → Nat) (n : Nat) : Nat → Nat → PY → PY
  | 0, _, y => y
  | k + 1, d, y => pCmd T n (fun z => lp (cBk T) (pC T n k (d + 1)) 501 z) d y
def Cw (C : CmT) (i : Nat) : Prop := ∃ v, v < 9 ∧ C i 0 = nI v ∧ (v = 7 → ∃ m, m < 1000 ∧ C i 1 = nI m) ∧ (v ≠ 8 → C i 5 = nI (i + 1))
def Gd (C : CmT) : Nat → Nat → Nat → Prop
  | 0, a, b => ∀ i, a ≤ i → i < b → Cw C i ∧ ¬ C i 0 = 8
  | l + 1, a, b => ∀ i, a ≤ i → i < b → Cw C i ∧ (C i 0 = 8 → ∃ m q, m ≤ 5 ∧ C i 1 = nI m ∧ C i 5 = nI q ∧ i < q ∧ q ≤ b ∧ Gd C l (i + 1) q)
def Adv (T : Nat → Nat) (n l : Nat) (y y' : PY) : Prop := Ws T n y'.1 ∧ (pe y'.1 = 0 → pe y.1 = 0 ∧ pn y.1 < pn y'.1 ∧ y.2.1 < y'.2.1 ∧ y'.2.1 ≤ 20 ∧ (∀ k, k < y.2.1 → y'.2.2 k = y.2.2 k) ∧ Gd y'.2.2 l y.2.1 y'.2.1)
def Adb (T : Nat → Nat) (n l : Nat) (y y' : PY) : Prop := Ws T n y'.1 ∧ (pe y'.1 = 0 → pe y.1 = 0 ∧ pn y.1 ≤ pn y'.1 ∧ y.2.1 ≤ y'.2.1 ∧ y'.2.1 ≤ 20 ∧ (∀ k, k < y.2.1 → y'.2.2 k = y.2.2 k) ∧ Gd y'.2.2 l y.2.1 y'.2.1)
section SCRIPT
variable {T : Nat → Nat} {n : Nat} {s : PS} {y y' : PY} {C C' : CmT} {a b c d e f i j k l m v x' : Nat} {q : Int32}
theorem vb_cases (T : Nat → Nat) (s : PS) : (vb T s = 9 ∧ ff (fun a => pWd T s a) 9 = -1 ∧ ∀ j, j < 9 → pWd T s j = false) ∨ (vb T s < 9 ∧ ff (fun a => pWd T s a) 9 = nI (vb T s) ∧ pWd T s (vb T s) = true) := by
  unfold vb
  rcases ff_cases (fun a => pWd T s a) 9 with ⟨h1, h2⟩ | ⟨k, h1, h2, h3, h4⟩
  · left
    rw [if_pos h1]
    exact ⟨rfl, h1, h2⟩
  · right
    rw [h2, if_neg (nI_m1 (by omega)), nI_clamp (by omega)]
    exact ⟨h1, rfl, h3⟩
theorem sNs_w : ∀ (l : List (Nat × Nat)) (s : PS), Ws T n s → Ws T n (sNs T n l s)
  | [], _, w => w
  | x :: l, s, w => sNs_w l _ (w.num (lo := x.1) (hi := x.2))
theorem sNs_le : ∀ (l : List (Nat × Nat)) (s : PS), Ws T n s → pn s ≤ pn (sNs T n l s)
  | [], _, _ => Nat.le_refl _
  | x :: l, s, w => Nat.le_trans (pNum_le w) (sNs_le l _ (w.num (lo := x.1) (hi := x.2)))
theorem sNs_ok : ∀ (l : List (Nat × Nat)) (s : PS), pe (sNs T n l s) = 0 → pe s = 0
  | [], _, h => h
  | x :: l, s, h => (pNum_ok (lo := x.1) (hi := x.2) (sNs_ok l _ h)).1
theorem sNs_k {x : Nat × Nat} {l : List (Nat × Nat)} (h : pe (sNs T n (x :: l) s) = 0) : pk s = 2 := (pNum_ok (lo := x.1) (hi := x.2) (sNs_ok l _ h)).2
theorem nl_ne (v : Nat) : ∃ x l, nl v = x :: l := by
  unfold nl
  repeat' split
  all_goals exact ⟨_, _, rfl⟩
theorem cm_w (w : Ws T n s) : Ws T n (cm3 T n d c s) ∧ Ws T n (cm4 T n d c s) := by
  have w3 : Ws T n (cm3 T n d c s) := ((w.chk (by decide)).chk (by decide)).adv
  exact ⟨w3, sNs_w _ _ w3⟩
theorem cm3_ok (h : pe (cm3 T n d c s) = 0) : pe s = 0 ∧ vb T s < 9 ∧ c < 20 ∧ (vb T s = 8 → d < 2) ∧ cm3 T n d c s = pAdv T n s ∧ cm1 T s = s := by
  have h1 := pChk_ok (pAdv_ok.1 h) (by decide)
  have h2 := pChk_ok (show pe (pChk (decide (vb T s < 9)) 1 s) = 0 from h1.2.1) (by decide)
  have e1 : cm1 T s = s := h2.2.2
  have hb := h1.1
  unfold cmB at hb
  rw [show decide (pe (cm1 T s) ≠ 0) = false from decide_eq_false (fun c => c h1.2.1), Bool.false_or, Bool.and_eq_true, Bool.or_eq_true, decide_eq_true_eq, decide_eq_true_eq, decide_eq_true_eq] at hb
  refine ⟨h2.2.1, of_decide_eq_true h2.1, hb.1, fun hv => hb.2.resolve_left (fun c => c hv), ?_, e1⟩
  unfold cm3
  rw [h1.2.2, e1]
theorem cm_fw (w : Ws T n s) (h : pe (cm4 T n d c s) = 0) : pn s < pn (cm4 T n d c s) := by
  have h3 : pe (cm3 T n d c s) = 0 := sNs_ok _ _ h
  obtain ⟨k1, k2, k3, k4, k5, -⟩ := cm3_ok h3
  obtain ⟨x, l, e⟩ := nl_ne (vb T s)
  have hk : pk (cm3 T n d c s) = 2 := by
    unfold cm4 at h
    rw [e] at h
    exact sNs_k h
  have l1 := pAdv_lt w k1 (by rw [← k5, hk]; decide)
  rw [← k5] at l1
  exact Nat.lt_of_lt_of_le l1 (sNs_le _ _ (cm_w w).1)
theorem Gd.up : ∀ l a b, Gd C l a b → Gd C (l + 1) a b
  | 0, a, b, h => fun i h1 h2 => ⟨(h i h1 h2).1, fun e => absurd e (h i h1 h2).2⟩
  | l + 1, a, b, h => fun i h1 h2 => ⟨(h i h1 h2).1, fun e => by
      obtain ⟨m, q, g1, g2, g3, g4, g5, g6⟩ := (h i h1 h2).2 e
      exact ⟨m, q, g1, g2, g3, g4, g5, Gd.up l _ _ g6⟩⟩
theorem Cw.congr (h : Cw C i) (e : C' i = C i) : Cw C' i := by
  unfold Cw
  rw [e]
  exact h
theorem Gd.congr : ∀ l a b, (∀ k, a ≤ k → k < b → C' k = C k) → Gd C l a b → Gd C' l a b
  | 0, a, b, e, h => fun i h1 h2 => ⟨(h i h1 h2).1.congr (e i h1 h2), by rw [e i h1 h2]; exact (h i h1 h2).2⟩
  | l + 1, a, b, e, h => fun i h1 h2 => ⟨(h i h1 h2).1.congr (e i h1 h2), fun hv => by
      rw [e i h1 h2] at hv
      obtain ⟨m, q, g1, g2, g3, g4, g5, g6⟩ := (h i h1 h2).2 hv
      exact ⟨m, q, g1, by rw [e i h1 h2]; exact g2, by rw [e i h1 h2]; exact g3, g4, g5, Gd.congr l _ _ (fun k k1 k2 => e k (by omega) (by omega)) g6⟩⟩
theorem Gd.join : ∀ l, Gd C l a b → Gd C l b c → b ≤ c → Gd C l a c
  | 0, h1, h2, _ => fun i i1 i2 => if hi : i < b then h1 i i1 hi else h2 i (by omega) i2
  | l + 1, h1, h2, hbc => fun i i1 i2 => if hi : i < b then ⟨(h1 i i1 hi).1, fun hv => by
      obtain ⟨m, q, g1, g2, g3, g4, g5, g6⟩ := (h1 i i1 hi).2 hv
      exact ⟨m, q, g1, g2, g3, g4, by omega, g6⟩⟩ else h2 i (by omega) i2
theorem Gd.nil : ∀ l a, Gd C l a a
  | 0, a => fun i h1 h2 => absurd h2 (by omega)
  | l + 1, a => fun i h1 h2 => absurd h2 (by omega)
theorem C1_x (h : a ≠ k) {vs : Nat → Int32} : C1 C k v vs a = C a := by
  funext b
  exact if_neg h
theorem C1_0 {vs : Nat → Int32} : C1 C k v vs k 0 = nI v := by unfold C1; rw [if_pos rfl, if_pos rfl]
theorem C1_5 {vs : Nat → Int32} : C1 C k v vs k 5 = nI (k + 1) := by unfold C1; rw [if_pos rfl, if_neg (by decide), if_pos rfl]
theorem C1_j {vs : Nat → Int32} (h : j < 4) : C1 C k v vs k (1 + j) = vs j := by
  unfold C1
  rw [if_pos rfl, if_neg (by omega), if_neg (by omega), show 1 + j - 1 = j by omega]
theorem uC_x (h : a ≠ k) : uC C k q a = C a := by
  funext b
  exact if_neg (fun e => h e.1)
theorem uC_5 : uC C k q k 5 = q := if_pos ⟨rfl, rfl⟩
theorem uC_j (h : j ≠ 5) : uC C k q k j = C k j := if_neg (fun e => h e.2)
theorem blk_adv {g : PY → PY} {cd : PY → Bool} (hc : ∀ y, cd y = true → pe y.1 = 0) (h : ∀ y, Ws T n y.1 → pe y.1 = 0 → y.2.1 ≤ 20 → Adv T n l y (g y)) : ∀ f y, Ws T n y.1 → (pe y.1 = 0 → y.2.1 ≤ 20) → Adb T n l y (lp cd g f y) := by
  have id' : ∀ y : PY, Ws T n y.1 → (pe y.1 = 0 → y.2.1 ≤ 20) → Adb T n l y y := fun y w h20 => ⟨w, fun h0 => ⟨h0, Nat.le_refl _, Nat.le_refl _, h20 h0, fun _ _ => rfl, Gd.nil _ _⟩⟩
  intro f
  induction f with
  | zero => intro y w h20; exact id' y w h20
  | succ f ih =>
    intro y w h20
    by_cases hy : cd y = true
    · rw [lp_T hy]
      have h0 := hc y hy
      obtain ⟨w1, a1⟩ := h y w h0 (h20 h0)
      obtain ⟨w2, a2⟩ := ih (g y) w1 (fun e => (a1 e).2.2.2.1)
      refine ⟨w2, fun e => ?_⟩
      obtain ⟨b1, b2, b3, b4, b5, b6⟩ := a2 e
      obtain ⟨c1, c2, c3, c4, c5, c6⟩ := a1 b1
      exact ⟨h0, by omega, by omega, b4, fun k hk => by rw [b5 k (by omega), c5 k hk], (Gd.congr _ _ _ (fun k k1 k2 => b5 k k2) c6).join _ b6 b3⟩
    · rw [lp_F (Bool.eq_false_iff.2 hy)]
      exact id' y w h20
theorem vNs_rng {lo hi : Nat} {l : List (Nat × Nat)} (h : lo ≤ hi) : ∃ m, m ≤ hi ∧ vNs T n ((lo, hi) :: l) s 0 = nI m := ⟨_, (pLv_rng (T := T) (s := s) h).2, rfl⟩
theorem cmC_w (hv : vb T s < 9) : Cw (cmC T n d c s C) c := by
  refine ⟨vb T s, hv, C1_0, fun h7 => ?_, fun _ => C1_5⟩
  obtain ⟨m, h1, h2⟩ := vNs_rng (T := T) (n := n) (s := cm3 T n d c s) (lo := 1) (hi := 60) (l := []) (by decide)
  refine ⟨m, by omega, ?_⟩
  unfold cmC
  rw [show (1 : Nat) = 1 + 0 from rfl, C1_j (by decide), h7]
  exact h2
theorem pCmd_e {blk : PY → PY} (h : pe (cm3 T n d c s) ≠ 0) : pCmd T n blk d (s, c, C) = (cm3 T n d c s, c, C) := if_pos h
theorem pCmd_n {blk : PY → PY} (h : pe (cm3 T n d c s) = 0) (hv : vb T s ≠ 8) : pCmd T n blk d (s, c, C) = (pExp T n 59 (cm4 T n d c s), c + 1, cmC T n d c s C) := by
  unfold pCmd
  rw [if_neg (fun e => e h), if_pos hv]
theorem pCmd_r {blk : PY → PY} (h : pe (cm3 T n d c s) = 0) (hv : vb T s = 8) : pCmd T n blk d (s, c, C) = pRep T n c (blk (pExp T n 40 (cm4 T n d c s), c + 1, cmC T n d c s C)) := by
  unfold pCmd
  rw [if_neg (fun e => e h), if_neg (fun e => e hv)]
theorem cmd_adv {blk : PY → PY} (hb : vb T s = 8 → d < 2 → ∃ l', l = l' + 1 ∧ ∀ y, Ws T n y.1 → (pe y.1 = 0 → y.2.1 ≤ 20) → Adb T n l' y (blk y)) (w : Ws T n s) (h20 : c ≤ 20) : Adv T n l (s, c, C) (pCmd T n blk d (s, c, C)) := by
  obtain ⟨w3, w4⟩ := cm_w (d := d) (c := c) w
  by_cases h3 : pe (cm3 T n d c s) = 0
  · obtain ⟨k1, k2, k3, k4, k5, -⟩ := cm3_ok h3
    by_cases hv : vb T s = 8
    · rw [pCmd_r h3 hv]
      obtain ⟨l', el, hb'⟩ := hb hv (k4 hv)
      subst el
      have hbk := hb' (pExp T n 40 (cm4 T n d c s), c + 1, cmC T n d c s C) (w4.exp 40) (fun _ => k3)
      obtain ⟨z, ez⟩ : ∃ z, z = blk (pExp T n 40 (cm4 T n d c s), c + 1, cmC T n d c s C) := ⟨_, rfl⟩
      rw [← ez] at hbk ⊢
      obtain ⟨zs, zc, zC⟩ := z
      obtain ⟨wz, az⟩ := hbk
      replace wz : Ws T n zs := wz
      refine ⟨(wz.exp 41).exp 59, fun h0 => ?_⟩
      have h0' : pe (pExp T n 59 (pExp T n 41 zs)) = 0 := h0
      have z0 := pExp_ok (pExp_ok h0')
      obtain ⟨b1, b2, b3, b4, b5, b6⟩ := az z0
      replace b1 : pe (pExp T n 40 (cm4 T n d c s)) = 0 := b1
      replace b2 : pn (pExp T n 40 (cm4 T n d c s)) ≤ pn zs := b2
      replace b3 : c + 1 ≤ zc := b3
      replace b4 : zc ≤ 20 := b4
      replace b5 : ∀ k, k < c + 1 → zC k = cmC T n d c s C k := b5
      replace b6 : Gd zC l' (c + 1) zc := b6
      have f1 := cm_fw w (pExp_ok b1)
      have f2 := pExp_le (x' := 40) w4
      have f3 := pExp_le (x' := 41) wz
      have f4 := pExp_le (x' := 59) (wz.exp 41)
      show pe s = 0 ∧ pn s < pn (pExp T n 59 (pExp T n 41 zs)) ∧ c < zc ∧ zc ≤ 20 ∧ (∀ k, k < c → uC zC c (nI zc) k = C k) ∧ Gd (uC zC c (nI zc)) (l' + 1) c zc
      have e0 : uC zC c (nI zc) c 0 = nI (vb T s) := by rw [uC_j (by decide), b5 c (by omega)]; exact C1_0
      refine ⟨k1, by omega, by omega, b4, fun k hk => by rw [uC_x (by omega), b5 k (by omega)]; exact C1_x (by omega), ?_⟩
      have g6 : Gd (uC zC c (nI zc)) l' (c + 1) zc := Gd.congr _ _ _ (fun k k1 k2 => uC_x (by omega)) b6
      intro i i1 i2
      by_cases hi : i = c
      · subst hi
        refine ⟨⟨vb T s, k2, e0, fun h7 => absurd h7 (by omega), fun h8 => absurd hv h8⟩, fun _ => ?_⟩
        obtain ⟨m, h1, h2⟩ := vNs_rng (T := T) (n := n) (s := cm3 T n d i s) (lo := 2) (hi := 5) (l := []) (by decide)
        refine ⟨m, zc, h1, ?_, uC_5, by omega, Nat.le_refl _, g6⟩
        rw [uC_j (by decide), b5 i (by omega)]
        unfold cmC
        rw [show (1 : Nat) = 1 + 0 from rfl, C1_j (by decide), hv]
        exact h2
      · exact (Gd.up _ _ _ g6) i (by omega) i2
    · rw [pCmd_n h3 hv]
      refine ⟨w4.exp 59, fun h0 => ?_⟩
      have h0' : pe (pExp T n 59 (cm4 T n d c s)) = 0 := h0
      have f1 := cm_fw w (pExp_ok h0')
      have f2 := pExp_le (x' := 59) w4
      show pe s = 0 ∧ pn s < pn (pExp T n 59 (cm4 T n d c s)) ∧ c < c + 1 ∧ c + 1 ≤ 20 ∧ (∀ k, k < c → cmC T n d c s C k = C k) ∧ Gd (cmC T n d c s C) l c (c + 1)
      refine ⟨k1, by omega, by omega, by omega, fun k hk => C1_x (by omega), ?_⟩
      have e0 : ¬ cmC T n d c s C c 0 = 8 := fun e => by
        unfold cmC at e
        rw [C1_0] at e
        exact hv (nI_inj (b := 8) (by omega) (by decide) e)
      have g0 : Gd (cmC T n d c s C) 0 c (c + 1) := fun i i1 i2 => by
        have : i = c := by omega
        subst this
        exact ⟨cmC_w k2, e0⟩
      cases l with
      | zero => exact g0
      | succ l => intro i i1 i2; exact ⟨(g0 i i1 i2).1, fun e => absurd e (g0 i i1 i2).2⟩
  · rw [pCmd_e h3]
    exact ⟨w3, fun h0 => absurd h0 h3⟩
theorem cBk_pe (h : cBk T y = true) : pe y.1 = 0 := by
  unfold cBk at h
  exact of_decide_eq_true (Bool.and_eq_true_iff.1 h).1
theorem cTp_pe (h : cTp y = true) : pe y.1 = 0 := by
  unfold cTp at h
  exact of_decide_eq_true (Bool.and_eq_true_iff.1 h).1
theorem adv_C : ∀ k d, k + d = 2 → ∀ y : PY, Ws T n y.1 → y.2.1 ≤ 20 → Adv T n k y (pC T n (k + 1) d y) := by
  intro k
  induction k with
  | zero =>
    intro d hd y w h20
    obtain ⟨s, c, C⟩ := y
    exact cmd_adv (fun _ h2 => absurd h2 (by omega)) w h20
  | succ k ih =>
    intro d hd y w h20
    obtain ⟨s, c, C⟩ := y
    exact cmd_adv (fun _ _ => ⟨k, rfl, blk_adv (fun y => cBk_pe) (fun y wy _ h20 => ih (d + 1) (by omega) y wy h20) 501⟩) w h20
end SCRIPT
