/-! p65: the law from pc 457 to its rounds: the text is said and loaded -/
section PH3
variable {p : Program} {l : Launch} {e : Env} {R : Room} {s : State} {m : MethodId} {args : Array Value} {below : List Frame} {meth : Method} {c : Code} {cells slots LL sb bb k : Nat} {Q : State → Prop} {D : va_G} {tc : Nat → ClassId} {ad : Nat → Nat} {xs : Nat → Int32} {v : Int32} {M : TM}
theorem ph3 (E : Ev p s m args meth c D tc ad RL cL_law 13) (hn : nW ad = 702) (hA : ∀ q, A0 ad s.heap.size q → s.heap.size ≤ q) (hX : va_X sb LL xs s s.heap) (hbl : sb < s.heap.size) (hLL : LL < 2 ^ 31) (hR : 15 ≤ R.frames ∧ 578 ≤ R.locals) (hRc : 2000 ≤ R.cells ∧ 600000 ≤ R.slots) {TA : List Nat} (hTA : TA = txAll (NPv LL xs) (nBv LL xs) (nOv LL xs) (fsA LL xs) (fbA LL xs (NPv LL xs)) (foA LL xs (NPv LL xs))) (hlen : TA.length ≤ 400) (h1 : ad 1701 = TA.length) (hM : ∀ i, i ≠ 1 → i ≠ 2 → (i < 576 ∨ 637 ≤ i) → i < 699 → M i = mMain i) (h11 : M 1 1 = 0) (h699 : M 699 = fun _ => 0) (h700 : M 700 1 = 0) (h701 : ∀ j, j < TA.length → M 701 j = nI (TA.getD j 0)) (hc : cells ≤ 890 ∧ slots ≤ 430000)
    (fin : ∀ ad M cells slots L, Ev p s m args meth c D tc ad RL cL_law 13 → (∀ q, A0 ad s.heap.size q → s.heap.size ≤ q) → cells ≤ 1300 ∧ slots ≤ 550000 → Wa p l e R s m args below meth c cells slots Q D tc ad 13 M 735 L [.int 1]) :
    Wa p l e R s m args below meth c cells slots Q D tc ad 13 M 457 (LQ (ad 699) (ad 0) sb bb v (NPv LL xs) (nBv LL xs) (nOv LL xs) k) [.ref (ad 700), .ref (ad 699), .ref (ad 0)] := by
  have hNP := NPv_b (LL := LL) (xs := xs)
  have hnB := nBv_b (LL := LL) (xs := xs)
  have hnO := nOv_b (LL := LL) (xs := xs)
  have hasc : AscL TA := by rw [hTA]; exact asc_TA
  have hXt := Xt_lt hasc
  obtain ⟨n, hn'⟩ : ∃ n, n = TA.length := ⟨_, rfl⟩
  rw [← hn'] at hlen h1 h701
  refine ra_sub (L' := [(0, .ref sb), (1, .ref (ad 0)), (2, .ref (ad 699)), (5, .int (nI (nBv LL xs)))]) [8, 7, 6, 3] rfl ?_
  have g0 : SB (Xt TA) 0 M := ⟨by rw [h699]; rfl, h11, fun i hi => absurd hi (Nat.not_lt_zero i), fun j hj => by
    have q : ∀ i, qb (Xt TA) 0 i = 0 := fun i => if_neg (Nat.not_lt_zero i)
    rw [h699]
    unfold p4w
    rw [q, q, q, q]
    rfl⟩
  have m0 : M 0 = rMain := (hM 0 (by decide) (by decide) (by decide) (by decide)).trans rfl
  have m25 : M 25 = r0 := (hM 25 (by decide) (by decide) (by decide) (by decide)).trans rfl
  refine ra_callVS (As := [.ref (ad 0), .ref (ad 699), .ref (ad 700)]) (rest := []) E (c_L_say n h1 M (fun M' => SB (Xt TA) n M' ∧ FrS M M') (say_go hXt (by omega) ⟨h700, fun i hi => by rw [h701 i hi, Xt_at (by omega)]⟩ g0 (fun M' a b => ⟨a, b⟩))) (Nat.le_refl _) ct_L_say ml_L_223 (by decide) rfl rfl (Nat.le_of_ble_eq_true rfl) ⟨by omega, by omega⟩ ⟨by omega, by omega⟩ dL_law_457 (fun M1 h => ?_)
  obtain ⟨g1, f1⟩ := h
  refine ra_aload_n E dL_law_460 rfl 1 rfl ?_
  refine ra_aload_n E dL_law_461 rfl 1 rfl ?_
  refine ra_aload_n E dL_law_462 rfl 2 rfl ?_
  refine ra_callIS (As := [.ref (ad 0), .ref (ad 699)]) (rest := [.ref (ad 0)]) E (c_L_end M1 (fun r M' => r = nI n ∧ ∃ F, n ≤ F ∧ F ≤ 500 ∧ M' 1 1 = nI F ∧ (∀ i, i < F → M' 2 i = nI (Xt TA i)) ∧ FrS M1 M') (end_go hXt (by omega) (fun i hi => Xt_sp (by omega)) g1 (fun M' F a1 a2 a3 a4 a5 => ⟨rfl, F, a1, a2, a3, a4, a5⟩))) (Nat.le_refl _) ct_L_end ml_L_227 (by decide) rfl rfl (Nat.le_of_ble_eq_true rfl) ⟨by omega, by omega⟩ ⟨by omega, by omega⟩ dL_law_463 (fun r M2 h => ?_)
  obtain ⟨rfl, F, a1, a2, a3, a4, a5⟩ := h
  have z0 : M2 0 = rMain := by rw [a5.1 0 (by decide) (by decide) (by decide), f1.1 0 (by decide) (by decide) (by decide), m0]
  have z25 : M2 25 = r0 := by rw [a5.1 25 (by decide) (by decide) (by decide), f1.1 25 (by decide) (by decide) (by decide), m25]
  have hSf : Sf (Xt TA) n 0 (txAll (NPv LL xs) (nBv LL xs) (nOv LL xs) (fsA LL xs) (fbA LL xs (NPv LL xs)) (foA LL xs (NPv LL xs))) := by
    rw [← hTA, hn']
    exact Xt_Sf
  have hload := load_go (M := M2) (X := Xt TA) (F := F) (n := n) (by rw [z0]; rfl) (by rw [z0]; rfl) (by rw [z25]; rfl) a3 a2 a1 hXt a4 hSf hNP.1 (by omega) hnB.1 (by omega) (by omega) (secF_A LL xs) (barF_A (by omega)) (ordF_A (by omega))
  refine ra_callIV (As := [.int (nI n)]) (rest := []) E (c_X12_loadCanal (nI n) M2 _ hload) (lq_X12 _) cv_X12_loadCanal ml_L_231 (by decide) (lm (by decide)) (fun R => ⟨_, cel_0 tc ad R⟩) rfl rfl rfl (Nat.le_of_ble_eq_true rfl) ⟨by omega, by omega⟩ ⟨by omega, by omega⟩ dL_law_466 (fun r M3 h => ?_)
  obtain ⟨rfl, RR, P, g, gd, hb1⟩ := h
  refine ra_iload E dL_law_469 3 rfl ?_
  refine ra_icmp_ne (tgt := 481) E dL_law_471 rfl (fun q => absurd rfl q) (fun _ => ?_)
  refine ra_aload_n E dL_law_474 rfl 1 rfl ?_
  refine ra_callIV (As := []) (rest := []) E (c_X12_undoableCount M3 (fun r M' => r = nI 0 ∧ M' = M3) (t_undoableCount g ⟨rfl, rfl⟩)) (lq_X12 _) cv_X12_undoableCount ml_L_234 (by decide) (lm (by decide)) (fun R => ⟨_, cel_0 tc ad R⟩) rfl rfl rfl (Nat.le_of_ble_eq_true rfl) ⟨by omega, by omega⟩ ⟨by omega, by omega⟩ dL_law_475 (fun r M4 h => ?_)
  obtain ⟨rfl, rfl⟩ := h
  refine ra_if_eq (tgt := 483) E dL_law_478 rfl (fun _ => ?_) (fun q => absurd rfl q)
  refine ra_iconst (v := nI 0) E dL_law_483 (by decide +kernel) ?_
  refine ra_istore (L' := [(8, .int (nI 0)), (0, .ref sb), (1, .ref (ad 0)), (2, .ref (ad 699)), (5, .int (nI (nBv LL xs)))]) E dL_law_484 (by decide) rfl ?_
  refine ra_sub (L' := [(0, .ref sb), (1, .ref (ad 0)), (8, .int (nI 0))]) [1, 2, 0] rfl ?_
  exact rd_486 (T0 := 0) (P := P) hR hRc hX hbl hLL (by decide) fin 32 0 ad M4 cells slots rfl E ⟨hA, by omega, by omega, 0, 0, _, false, RR, RR, 0, g, gd, Nat.le_refl _, Nat.le_refl _, hb1⟩ ⟨by omega, by omega⟩
end PH3
