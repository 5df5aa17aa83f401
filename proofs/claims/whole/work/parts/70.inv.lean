/-! what holds between calls; calls that only tell -/
def ByR (x y : Int32) : Prop := ∃ v : Nat, v < 256 ∧ y = nI v ∧ (v < 128 → x = nI v) ∧ (128 ≤ v → x < 0)
def Txt (M : TM) : Prop := ∃ f : Nat, f ≤ 500 ∧ M 1 1 = nI f ∧ M 699 15 = nI f ∧ (∀ i, i < f → ByR (M 2 i) (M 707 i)) ∧ M 1 6 = M 699 9 ∧ M 1 7 = M 699 22
def Out (M : TM) : Prop := ∃ g : Nat, g ≤ 31 ∧ M 0 8 = nI g ∧ M 699 13 = nI g ∧ ∀ i, i < g → M 698 i = M 706 i
def Snap (T : Nat) (M : TM) : Prop := bz (M 0 4) = bz (M 699 11) ∧ (bz (M 0 4) ≠ 0 → RelC 515 M (M 704) ∧ WF T (M 704) ∧ Nb (M 704))
def Cur (T : Nat) (M : TM) (ci di : Nat) : Prop := ((ci = 9 ∧ di = 10) ∨ (ci = 10 ∧ di = 9)) ∧ M 0 5 = nI ci ∧ M 0 6 = nI di ∧ M 699 6 = 0 ∧ RelC (27 + 61 * ci) M (M 700) ∧ WF T (M 700) ∧ Nb (M 700)
def Inv (T : Nat) (M : TM) : Prop := ∃ ci di nx h : Nat, Cur T M ci di ∧ His T M nx h ∧ Snap T M ∧ Txt M ∧ Out M
def LawE (K : TM → Prop) (r2 r4 : Int32) (M3 : TM) : Prop := f_X13_thrown M3 (fun r6 M5 => ((r6 = r2 → ((¬ r2 = 0 → K M5) ∧ (r2 = 0 → (((lg_cmp (M5 710 0).toInt64 r4.toInt64) = 0 → K M5) ∧ (¬ (lg_cmp (M5 710 0).toInt64 r4.toInt64) = 0 → False))))) ∧ (¬ r6 = r2 → False)))
section INV
variable {c' : Bool} {i : Nat} {M M1 M' : TM} {T U : Nat} {K : TM → Prop} {p q u v r2 r4 : Int32} {R R' : Nat → Int32} {a b c d e f j k m x' h nx ci di r : Nat}
theorem lg_refl (x : Int64) : lg_cmp x x = 0 := by
  unfold lg_cmp
  rw [if_neg (by intro h; have := Int64.lt_iff_toInt_lt.1 h; omega), if_pos rfl]
theorem lawE (h1 : M 699 8 = r2) (h2 : r2 = 0 → M 710 0 = r4) (hK : K M) : LawE K r2 r4 M := by
  unfold LawE f_X13_thrown
  refine cT' h1 ⟨fun _ => hK, fun h0 => ?_⟩
  rw [h2 h0]
  exact cT' (lg_refl _) hK
theorem Cur.fr (h : Cur T M ci di) (h0 : M' 0 = M 0) (hc : ∀ i, 27 + 61 * ci ≤ i → i < 27 + 61 * ci + 61 → M' i = M i) (h9 : M' 699 6 = M 699 6) (h7 : M' 700 = M 700) : Cur T M' ci di := by
  obtain ⟨a1, a2, a3, a4, a5, a6, a7⟩ := h
  unfold Cur
  rw [h0, h9, h7]
  exact ⟨a1, a2, a3, a4, a5.frame hc a6.nb5 a6.no30, a6, a7⟩
theorem slot_lt (nx h k : Nat) : 27 ≤ slot nx h k ∧ slot nx h k + 61 ≤ 515 := by
  unfold slot
  have := Nat.mod_lt (nx + 8 - h + k) (show 8 > 0 by decide)
  omega
theorem His.fr (g : His T M nx h) (h25 : M' 25 = M 25) (hc : ∀ i, 27 ≤ i → i < 515 → M' i = M i) (h9 : M' 699 7 = M 699 7) (h7 : M' 705 = M 705) : His T M' nx h := by
  obtain ⟨a1, a2, a3, a4, a5, a6⟩ := g
  unfold His
  rw [h25, h9]
  refine ⟨a1, a2, a3, a4, a5, fun k hk => ?_⟩
  obtain ⟨b1, b2, b3⟩ := a6 k hk
  have sl := slot_lt nx h k
  have e : hrow M' k = hrow M k := by unfold hrow; rw [h7]
  rw [e]
  exact ⟨b1.frame (fun i h1 h2 => hc i (by omega) (by omega)) b2.nb5 b2.no30, b2, b3⟩
theorem Snap.fr (g : Snap T M) (h0 : M' 0 4 = M 0 4) (hc : ∀ i, 515 ≤ i → i < 576 → M' i = M i) (h9 : M' 699 11 = M 699 11) (h7 : M' 704 = M 704) : Snap T M' := by
  unfold Snap
  rw [h0, h9, h7]
  exact ⟨g.1, fun h => ⟨(g.2 h).1.frame hc (g.2 h).2.1.nb5 (g.2 h).2.1.no30, (g.2 h).2⟩⟩
theorem Txt.fr (g : Txt M) (h1 : M' 1 1 = M 1 1 ∧ M' 1 6 = M 1 6 ∧ M' 1 7 = M 1 7) (h2 : M' 2 = M 2) (h9 : M' 699 15 = M 699 15 ∧ M' 699 9 = M 699 9 ∧ M' 699 22 = M 699 22) (h7 : M' 707 = M 707) : Txt M' := by
  unfold Txt
  rw [h1.1, h1.2.1, h1.2.2, h2, h9.1, h9.2.1, h9.2.2, h7]
  exact g
theorem Out.fr (g : Out M) (h0 : M' 0 8 = M 0 8) (h1 : M' 698 = M 698) (h9 : M' 699 13 = M 699 13) (h7 : M' 706 = M 706) : Out M' := by
  unfold Out
  rw [h0, h1, h9, h7]
  exact g
theorem Cur.mono (hT : T ≤ U) (h : Cur T M ci di) : Cur U M ci di := ⟨h.1, h.2.1, h.2.2.1, h.2.2.2.1, h.2.2.2.2.1, WF.mono hT h.2.2.2.2.2.1, h.2.2.2.2.2.2⟩
theorem His.mono (hT : T ≤ U) (g : His T M nx h) : His U M nx h := ⟨g.1, g.2.1, g.2.2.1, g.2.2.2.1, g.2.2.2.2.1, fun k hk => ⟨(g.2.2.2.2.2 k hk).1, WF.mono hT (g.2.2.2.2.2 k hk).2.1, (g.2.2.2.2.2 k hk).2.2⟩⟩
theorem Snap.mono (hT : T ≤ U) (g : Snap T M) : Snap U M := ⟨g.1, fun h => ⟨(g.2 h).1, WF.mono hT (g.2 h).2.1, (g.2 h).2.2⟩⟩
theorem Inv.mono (hT : T ≤ U) (g : Inv T M) : Inv U M := by
  obtain ⟨ci, di, nx, h, g1, g2, g3, g4, g5⟩ := g
  exact ⟨ci, di, nx, h, g1.mono hT, g2.mono hT, g3.mono hT, g4, g5⟩
/-- scratch changes alone -/
theorem Inv.tmp (g : Inv T M) (hc : ∀ i, i < 699 → M' i = M i) (h9 : ∀ j, j ≠ 8 → j ≠ 10 → M' 699 j = M 699 j) (h0 : M' 700 = M 700) (h4 : M' 704 = M 704) (h5 : M' 705 = M 705) (h6 : M' 706 = M 706) (h7 : M' 707 = M 707) : Inv T M' := by
  obtain ⟨ci, di, nx, h, g1, g2, g3, g4, g5⟩ := g
  have hci : ci ≤ 10 := by have := g1.1; omega
  refine ⟨ci, di, nx, h, g1.fr (hc 0 (by decide)) (fun i _ h2 => hc i (by omega)) (h9 6 (by decide) (by decide)) h0, g2.fr (hc 25 (by decide)) (fun i _ h2 => hc i (by omega)) (h9 7 (by decide) (by decide)) h5, g3.fr (by rw [hc 0 (by decide)]) (fun i _ h2 => hc i (by omega)) (h9 11 (by decide) (by decide)) h4, g4.fr (by rw [hc 1 (by decide)]; exact ⟨rfl, rfl, rfl⟩) (hc 2 (by decide)) ⟨h9 15 (by decide) (by decide), h9 9 (by decide) (by decide), h9 22 (by decide) (by decide)⟩ h7, g5.fr (by rw [hc 0 (by decide)]) (hc 698 (by decide)) (h9 13 (by decide) (by decide)) h6⟩
theorem Inv.u710 (g : Inv T M) : Inv T (u2 M 710 0 v) := g.tmp (fun i hi => u2_n (by omega)) (fun j _ _ => by rw [u2_n (by decide)]) (u2_n (by decide)) (u2_n (by decide)) (u2_n (by decide)) (u2_n (by decide)) (u2_n (by decide))
theorem Inv.u8 (g : Inv T M) : Inv T (u2 M 699 8 v) := g.tmp (fun i hi => u2_n (by omega)) (fun j h8 _ => u2_f h8) (u2_n (by decide)) (u2_n (by decide)) (u2_n (by decide)) (u2_n (by decide)) (u2_n (by decide))
/-- the canal of the class -/
theorem Cur.in11 (h : Cur T M ci di) : vp_in (M 0 5) 11 ∧ 27 + 61 * (M 0 5).toNatClampNeg = 27 + 61 * ci ∧ 27 ≤ 27 + 61 * ci ∧ (27 + 61 * ci = 576 ∨ 27 + 61 * ci = 637) := by
  have h1 := h.1
  rw [h.2.1]
  refine ⟨vp_in_nI (by omega) (by decide), by rw [nI_clamp (by omega)], by omega, by omega⟩
theorem Cur.di11 (h : Cur T M ci di) : vp_in (M 0 6) 11 ∧ 27 + 61 * (M 0 6).toNatClampNeg = 27 + 61 * di := by
  have h1 := h.1
  rw [h.2.2.1]
  exact ⟨vp_in_nI (by omega) (by decide), by rw [nI_clamp (by omega)]⟩
theorem Cur.rw (h : Cur T M ci di) : Rw M 700 := Or.inl ⟨h.2.2.2.1, rfl⟩
/-- the model's lacks -/
theorem m_lacks {K : Int32 → TM → Prop} (e1 : p = bi c') (hK : K (bi (!c')) (u2 M 699 8 (bi (!c')))) : f_X13_lacks p M K := by
  subst e1
  unfold f_X13_lacks
  cases c' with
  | true =>
    refine cN' (by decide) ?_
    intro M4 e4
    subst e4
    exact ⟨fun _ => hK, fun h => absurd h (show ¬ bi true = 0 by decide)⟩
  | false =>
    refine cT' (by decide) ?_
    intro M4 e4
    subst e4
    exact ⟨fun h => absurd (show bi false = 0 from rfl) h, fun _ => hK⟩
/-- numbers told without an argument -/
theorem tell0 {x : Nat} (g : Inv T M) (hx : x < 8) (hv : ∀ ci di, Cur T M ci di → v = (M 700) x) (hK : ∀ M', Inv T M' → K M') (e1 : p = nI x) : ∀ M3, M3 = u2 M 699 8 0 → vp_in (M3 699 6) 2 ∧ vp_in p 377 ∧ ((v = (M3 (700 + (M3 699 6).toNatClampNeg) p.toNatClampNeg) → K M3) ∧ (¬ v = (M3 (700 + (M3 699 6).toNatClampNeg) p.toNatClampNeg) → False)) := by
  intro M3 e3
  obtain ⟨ci, di, nx, h, g1, -⟩ := id g
  have hr := g1.rw
  have hr3 : Rw M3 700 := by rw [e3]; exact Rw.u M 0 (by decide) hr
  have hR3 : M3 700 = M 700 := by rw [e3, u2_n (by decide)]
  refine ⟨hr3.v' hR3, vlt e1 (by omega) (by decide), ?_⟩
  rw [hr3.rd' hR3 e1 (by omega), hv ci di g1]
  refine cT' rfl (hK M3 ?_)
  rw [e3]
  exact g.u8
end INV
