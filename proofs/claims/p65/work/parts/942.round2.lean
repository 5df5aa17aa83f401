/-! p65: one round of the law -/
section ROUND3
variable {p : Program} {l : Launch} {e : Env} {R : Room} {s : State} {m : MethodId} {args : Array Value} {below : List Frame} {meth : Method} {c : Code} {cells slots : Nat} {Q : State → Prop} {D : va_G} {tc : Nat → ClassId} {ad : Nat → Nat} {nL b LL k : Nat} {xs : Nat → Int32} {M : TM} {T0 P : Nat}
theorem rd_532 (E : Ev p s m args meth c D tc ad RL cL_law 13) (hR : 15 ≤ R.frames ∧ 578 ≤ R.locals) (hRc : 2000 ≤ R.cells ∧ 600000 ≤ R.slots) (hk : k < 32) (hT0 : T0 + 1000 < 2 ^ 31) {u : Int32} (hI : RI s T0 P k ad M) (hc : cells ≤ 4 * k + 1000 ∧ slots ≤ 800 * k + 500000)
    (next : ∀ ad M cells slots, Ev p s m args meth c D tc ad RL cL_law 13 → RI s T0 P (k + 1) ad M → cells ≤ 4 * (k + 1) + 1000 ∧ slots ≤ 800 * (k + 1) + 500000 → Wa p l e R s m args below meth c cells slots Q D tc ad 13 M 486 [(0, .ref b), (1, .ref (ad 0)), (8, .int (nI (k + 1)))] []) :
    Wa p l e R s m args below meth c cells slots Q D tc ad 13 M 532 [(9, .int u), (0, .ref b), (1, .ref (ad 0)), (8, .int (nI k))] [] := by
  obtain ⟨hA, hn, hn2, T, h, hr, sb, S, RR, m0, g, gd, hm, hT, hb⟩ := hI
  have h8 := g.h8
  have rR : ∀ d, d ≤ 14 → d + 1 ≤ R.frames ∧ 40 * (d + 1) ≤ R.locals → True := fun _ _ _ => trivial
  -- before
  refine ra_aload_n E dL_law_532 rfl 2 rfl ?_
  refine ra_callAll E hn (by omega) rfl (c_L_all hn (by omega) g rfl (fun M' a => a)) ml_L_241 rfl (Nat.le_of_ble_eq_true rfl) ⟨Nat.le_trans (Nat.le_of_ble_eq_true rfl) hR.1, Nat.le_trans (Nat.le_of_ble_eq_true rfl) hR.2⟩ ⟨by omega, by omega⟩ dL_law_533 (fun q M1 hq a1 E1 => ?_)
  obtain ⟨f1, f2, f3, f4, f5⟩ := gr_f (q := q) (len := aLen RR) hn (by omega)
  have kB := KC.new (q := q) hn (by omega) a1
  have hA1 : ∀ x, A0 (adG ad q (aLen RR)) s.heap.size x → s.heap.size ≤ x := fun x hx => hA x ((A0_G (by omega) hq x).mp hx)
  have g1 := a1.1
  have hL1 : ([(9, .int u), (0, .ref b), (1, .ref (ad 0)), (8, .int (nI k))] : List (Nat × Value)) = [(9, .int u), (0, .ref b), (1, .ref (adG ad q (aLen RR) 0)), (8, .int (nI k))] := by rw [f2]
  have hs1 : ([Value.ref q] : List Value) = [.ref (adG ad q (aLen RR) (nW ad))] := by rw [f3]
  rw [hL1, hs1]
  generalize adG ad q (aLen RR) = ad1 at E1 f1 f2 f3 f4 f5 kB hA1 ⊢
  clear hL1 hs1 f2 f3 f4 f5
  generalize nW ad = n1 at kB f1 hn hn2 a1
  refine ra_astore (L' := [(10, _), (9, _), (0, _), (1, _), (8, _)]) E1 dL_law_536 (by decide) rfl ?_
  refine ra_aload_n E1 dL_law_538 rfl 3 rfl ?_
  refine ra_callIV (rest := []) E1 (c_X12_undoableCount M1 (fun r M' => r = nI h ∧ M' = M1) (t_undoableCount g1 ⟨rfl, rfl⟩)) (lq_X12 _) cv_X12_undoableCount ml_L_234 (by decide) (lm (by decide)) (fun R => ⟨_, cel_0 tc ad1 R⟩) rfl rfl rfl (Nat.le_of_ble_eq_true rfl) ⟨Nat.le_trans (Nat.le_of_ble_eq_true rfl) hR.1, Nat.le_trans (Nat.le_of_ble_eq_true rfl) hR.2⟩ ⟨by omega, by omega⟩ dL_law_539 (fun r M' hk => ?_)
  obtain ⟨rfl, rfl⟩ := hk
  refine ra_istore (L' := [(11, _), (10, _), (9, _), (0, _), (1, _), (8, _)]) E1 dL_law_542 (by decide) rfl ?_
  -- the act
  refine ra_aload_n E1 dL_law_544 rfl 4 rfl ?_
  refine ra_iload E1 dL_law_545 2 rfl ?_
  refine ra_callIS (rest := []) E1 (c_L_act u M' _ (r_act g1 gd (by omega) (by omega) hb)) (Nat.le_refl _) ct_L_act ml_L_245 (by decide) rfl rfl (Nat.le_of_ble_eq_true rfl) ⟨Nat.le_trans (Nat.le_of_ble_eq_true rfl) hR.1, Nat.le_trans (Nat.le_of_ble_eq_true rfl) hR.2⟩ ⟨by omega, by omega⟩ dL_law_547 (fun r M2 hk => ?_)
  obtain ⟨-, rfl, ap⟩ := hk
  refine ra_if_ne (tgt := 555) E1 dL_law_550 rfl (fun _ => ?_) (fun e => absurd e (by decide))
  -- what is left: a row R2, a history of h2
  have ex : ∃ (R2 : Nat → Int32) (h2 : Nat) (hr2 : Nat → Nat → Int32) (m2 : Nat), PV M' (T + 1) R2 h2 hr2 sb S M2 ∧ Gd P m2 R2 ∧ m2 ≤ m0 + 60 ∧ 1 ≤ nb R2 ∧ ((aOpt u RR = some R2 ∧ h2 = min (h + 1) 8 ∧ hr2 = pushR h hr RR) ∨ (R2 = RR ∧ h2 = h)) := by
    rcases ap with ⟨R', e1, g2⟩ | ⟨e1, g2⟩
    · obtain ⟨m', q1, q2, q3⟩ := ao_good g1.w gd hb (by omega) e1
      exact ⟨R', _, _, m', g2, q2, q1, by omega, Or.inl ⟨e1, rfl, rfl⟩⟩
    · exact ⟨RR, h, hr, m0, g2.mono (by omega), gd, by omega, hb, Or.inr ⟨rfl, rfl⟩⟩
  obtain ⟨R2, h2, hr2, m2, g2, gd2, hm2, hb2, ch⟩ := ex
  have kB2 := kB.pv g2
  have g2' := g2.self
  -- behind
  refine ra_aload_n E1 dL_law_555 rfl 4 rfl ?_
  have hn1 : 702 ≤ nW ad1 := by omega
  refine ra_callAll E1 hn1 (by omega) rfl (c_L_all hn1 (by omega) g2' rfl (fun M' a => a)) ml_L_241 rfl (Nat.le_of_ble_eq_true rfl) ⟨Nat.le_trans (Nat.le_of_ble_eq_true rfl) hR.1, Nat.le_trans (Nat.le_of_ble_eq_true rfl) hR.2⟩ ⟨by omega, by omega⟩ dL_law_556 (fun q2 M3 hq2 a3 E3 => ?_)
  obtain ⟨f1', f2, f3, f4, f5⟩ := gr_f (q := q2) (len := aLen R2) hn1 (by omega)
  have kB3 := KC.all (q := q2) (len := aLen R2) hn1 (by omega) kB2 a3
  have kA3 := KC.new (q := q2) hn1 (by omega) a3
  have hA3 : ∀ x, A0 (adG ad1 q2 (aLen R2)) s.heap.size x → s.heap.size ≤ x := fun x hx => hA1 x ((A0_G (by omega) hq2 x).mp hx)
  have g3 := a3.1
  have eB := KC.e (q := q2) (len := aLen R2) hn1 (by omega) kB2
  have hL1 : ([(11, .int (nI h)), (10, .ref (ad1 n1)), (9, .int u), (0, .ref b), (1, .ref (ad1 0)), (8, .int (nI k))] : List (Nat × Value)) = [(11, .int (nI h)), (10, .ref (adG ad1 q2 (aLen R2) n1)), (9, .int u), (0, .ref b), (1, .ref (adG ad1 q2 (aLen R2) 0)), (8, .int (nI k))] := by rw [f2, eB]
  have hs1 : ([Value.ref q2] : List Value) = [.ref (adG ad1 q2 (aLen R2) (nW ad1))] := by rw [f3]
  rw [hL1, hs1]
  generalize adG ad1 q2 (aLen R2) = ad3 at E3 f1' f2 f3 f4 f5 kB3 kA3 hA3 eB ⊢
  clear hL1 hs1 f2 f3 f4 f5 eB kB2
  generalize nW ad1 = n2 at kA3 f1 f1' hn1 a3
  refine ra_astore (L' := [(12, _), (11, _), (10, _), (9, _), (0, _), (1, _), (8, _)]) E3 dL_law_559 (by decide) rfl ?_
  refine ra_aload_n E3 dL_law_561 rfl 5 rfl ?_
  refine ra_callIV (rest := []) E3 (c_X12_undoableCount M3 (fun r M' => r = nI h2 ∧ M' = M3) (t_undoableCount g3 ⟨rfl, rfl⟩)) (lq_X12 _) cv_X12_undoableCount ml_L_234 (by decide) (lm (by decide)) (fun R => ⟨_, cel_0 tc ad3 R⟩) rfl rfl rfl (Nat.le_of_ble_eq_true rfl) ⟨Nat.le_trans (Nat.le_of_ble_eq_true rfl) hR.1, Nat.le_trans (Nat.le_of_ble_eq_true rfl) hR.2⟩ ⟨by omega, by omega⟩ dL_law_562 (fun r M4 hk => ?_)
  obtain ⟨rfl, rfl⟩ := hk
  have h28 := g3.h8
  refine ra_iload E3 dL_law_565 1 rfl ?_
  refine ra_iconst E3 dL_law_567 ki_1 ?_
  refine ra_iadd E3 dL_law_568 ?_
  rw [nI_1]
  have go : ∀ {cells slots : Nat}, cells ≤ 4 * (k + 1) + 1000 ∧ slots ≤ 800 * (k + 1) + 500000 → Wa p l e R s m args below meth c cells slots Q D tc ad3 13 M4 623 [(12, .ref (ad3 n2)), (11, .int (nI h)), (10, .ref (ad3 n1)), (9, .int u), (0, .ref b), (1, .ref (ad3 0)), (8, .int (nI k))] [] := fun {cells slots} hc' =>
    ra_sub (L' := [(0, _), (1, _), (8, _), (10, _), (11, _), (12, _)]) [4, 5, 6, 2, 1, 0] rfl (rd_623 E3 hR ⟨by omega, by omega⟩ hA3 (by omega) (by omega) g3 gd2 (by omega) (by omega) hb2 kB3 kA3 h8 (fun e1 e2 => by
      rcases ch with ⟨-, c2, -⟩ | ⟨c1, -⟩
      · omega
      · exact c1) hc' next)
  refine ra_icmp_ne (tgt := 623) E3 dL_law_569 rfl (fun _ => go ⟨by omega, by omega⟩) (fun e1 => ?_)
  have e2 : h2 = h + 1 := nI_inj (by omega) (by omega) e1
  refine ra_iload E3 dL_law_572 6 rfl ?_
  refine ra_iconst E3 dL_law_574 ki_3 ?_
  refine ra_irem E3 dL_law_575 (by decide) ?_
  refine ra_if_ne (tgt := 623) E3 dL_law_576 rfl (fun _ => go ⟨by omega, by omega⟩) (fun _ => ?_)
  -- undo and again
  have hch : aOpt u RR = some R2 ∧ hr2 = pushR h hr RR := by
    rcases ch with ⟨c1, -, c3⟩ | ⟨-, c2⟩
    · exact ⟨c1, c3⟩
    · omega
  obtain ⟨c1, rfl⟩ := hch
  subst e2
  refine ra_aload_n E3 dL_law_579 rfl 5 rfl ?_
  refine ra_callIV (rest := []) E3 (c_X12_undo M4 (fun r M' => r = nI h ∧ PV M4 (T + 1) RR h (pushR h hr RR) sb S M') (t_undo g3 (fun M' g' => ⟨rfl, by rw [push_at (by omega)] at g'; exact g'⟩))) (lq_X12 _) cv_X12_undo ml_L_249 (by decide) (lm (by decide)) (fun R => ⟨_, cel_0 tc ad3 R⟩) rfl rfl rfl (Nat.le_of_ble_eq_true rfl) ⟨Nat.le_trans (Nat.le_of_ble_eq_true rfl) hR.1, Nat.le_trans (Nat.le_of_ble_eq_true rfl) hR.2⟩ ⟨by omega, by omega⟩ dL_law_580 (fun r M5 hk => ?_)
  obtain ⟨rfl, g5⟩ := hk
  have kB5 := kB3.pv g5
  have kA5 := kA3.pv g5
  refine ra_iload E3 dL_law_583 1 rfl ?_
  refine ra_icmp_ne (tgt := 621) E3 dL_law_585 rfl (fun e => absurd rfl e) (fun _ => ?_)
  refine ra_aload_n E3 dL_law_588 rfl 5 rfl ?_
  have hn3 : 702 ≤ nW ad3 := by omega
  refine ra_callAll E3 hn3 (by omega) rfl (c_L_all hn3 (by omega) g5.self rfl (fun M' a => a)) ml_L_241 rfl (Nat.le_of_ble_eq_true rfl) ⟨Nat.le_trans (Nat.le_of_ble_eq_true rfl) hR.1, Nat.le_trans (Nat.le_of_ble_eq_true rfl) hR.2⟩ ⟨by omega, by omega⟩ dL_law_589 (fun q5 M6 hq5 a6 E6 => ?_)
  obtain ⟨f1'', f2, f3, f4, f5⟩ := gr_f (q := q5) (len := aLen RR) hn3 (by omega)
  have kB6 := KC.all (q := q5) (len := aLen RR) hn3 (by omega) kB5 a6
  have kA6 := KC.all (q := q5) (len := aLen RR) hn3 (by omega) kA5 a6
  have kN6 := KC.new (q := q5) hn3 (by omega) a6
  have hA6 : ∀ x, A0 (adG ad3 q5 (aLen RR)) s.heap.size x → s.heap.size ≤ x := fun x hx => hA3 x ((A0_G (by omega) hq5 x).mp hx)
  have g6 := a6.1
  have eB := KC.e (q := q5) (len := aLen RR) hn3 (by omega) kB5
  have eA := KC.e (q := q5) (len := aLen RR) hn3 (by omega) kA5
  have hL1 : ([(12, .ref (ad3 n2)), (11, .int (nI h)), (10, .ref (ad3 n1)), (9, .int u), (0, .ref b), (1, .ref (ad3 0)), (8, .int (nI k))] : List (Nat × Value)) = [(12, .ref (adG ad3 q5 (aLen RR) n2)), (11, .int (nI h)), (10, .ref (adG ad3 q5 (aLen RR) n1)), (9, .int u), (0, .ref b), (1, .ref (adG ad3 q5 (aLen RR) 0)), (8, .int (nI k))] := by rw [f2, eB, eA]
  have hs1 : ([Value.ref q5] : List Value) = [.ref (adG ad3 q5 (aLen RR) (nW ad3))] := by rw [f3]
  rw [hL1, hs1]
  generalize adG ad3 q5 (aLen RR) = ad6 at E6 f1'' f2 f3 f4 f5 kB6 kA6 kN6 hA6 eB eA ⊢
  clear hL1 hs1 f2 f3 f4 f5 eB eA kB5 kA5
  refine ra_aload E6 dL_law_592 2 rfl ?_
  refine ra_callIS (rest := []) E6 (c_L_alike _ _ kN6.1 n1 _ kB6.1 M6 (fun r M1 => r = 1 ∧ M1 = M6) (alike_1 kN6 kB6 (aLen_lt g1.w) ⟨rfl, rfl⟩)) (Nat.le_refl _) ct_L_alike ml_L_252 (by decide) rfl rfl (Nat.le_of_ble_eq_true rfl) ⟨Nat.le_trans (Nat.le_of_ble_eq_true rfl) hR.1, Nat.le_trans (Nat.le_of_ble_eq_true rfl) hR.2⟩ ⟨by omega, by omega⟩ dL_law_594 (fun r M7 hk => ?_)
  obtain ⟨-, rfl, rfl⟩ := hk
  refine ra_if_eq (tgt := 621) E6 dL_law_597 rfl (fun e => absurd e (by decide)) (fun _ => ?_)
  refine ra_aload_n E6 dL_law_600 rfl 5 rfl ?_
  refine ra_iload E6 dL_law_601 3 rfl ?_
  refine ra_callIS (rest := []) E6 (c_L_act u M7 _ (r_act g6 gd (by omega) (by omega) hb)) (Nat.le_refl _) ct_L_act ml_L_245 (by decide) rfl rfl (Nat.le_of_ble_eq_true rfl) ⟨Nat.le_trans (Nat.le_of_ble_eq_true rfl) hR.1, Nat.le_trans (Nat.le_of_ble_eq_true rfl) hR.2⟩ ⟨by omega, by omega⟩ dL_law_603 (fun r M8 hk => ?_)
  obtain ⟨-, rfl, ap2⟩ := hk
  refine ra_if_eq (tgt := 621) E6 dL_law_606 rfl (fun e => absurd e (by decide)) (fun _ => ?_)
  have g8' : PV M7 (T + 1 + 1) R2 (min (h + 1) 8) (pushR h (pushR h hr RR) RR) sb S M8 := by
    rcases ap2 with ⟨R', e1, g2⟩ | ⟨e1, -⟩
    · rw [c1] at e1
      cases e1
      exact g2
    · rw [c1] at e1
      cases e1
  have kB8 := kB6.pv g8'
  have kA8 := kA6.pv g8'
  refine ra_aload_n E6 dL_law_609 rfl 5 rfl ?_
  have hn6 : 702 ≤ nW ad6 := by omega
  refine ra_callAll E6 hn6 (by omega) rfl (c_L_all hn6 (by omega) g8'.self rfl (fun M' a => a)) ml_L_241 rfl (Nat.le_of_ble_eq_true rfl) ⟨Nat.le_trans (Nat.le_of_ble_eq_true rfl) hR.1, Nat.le_trans (Nat.le_of_ble_eq_true rfl) hR.2⟩ ⟨by omega, by omega⟩ dL_law_610 (fun q8 M9 hq8 a9 E9 => ?_)
  obtain ⟨f1''', f2, f3, f4, f5⟩ := gr_f (q := q8) (len := aLen R2) hn6 (by omega)
  have kB9 := KC.all (q := q8) (len := aLen R2) hn6 (by omega) kB8 a9
  have kA9 := KC.all (q := q8) (len := aLen R2) hn6 (by omega) kA8 a9
  have kN9 := KC.new (q := q8) hn6 (by omega) a9
  have hA9 : ∀ x, A0 (adG ad6 q8 (aLen R2)) s.heap.size x → s.heap.size ≤ x := fun x hx => hA6 x ((A0_G (by omega) hq8 x).mp hx)
  have g9 := a9.1
  have eB := KC.e (q := q8) (len := aLen R2) hn6 (by omega) kB8
  have eA := KC.e (q := q8) (len := aLen R2) hn6 (by omega) kA8
  have hL1 : ([(12, .ref (ad6 n2)), (11, .int (nI h)), (10, .ref (ad6 n1)), (9, .int u), (0, .ref b), (1, .ref (ad6 0)), (8, .int (nI k))] : List (Nat × Value)) = [(12, .ref (adG ad6 q8 (aLen R2) n2)), (11, .int (nI h)), (10, .ref (adG ad6 q8 (aLen R2) n1)), (9, .int u), (0, .ref b), (1, .ref (adG ad6 q8 (aLen R2) 0)), (8, .int (nI k))] := by rw [f2, eB, eA]
  have hs1 : ([Value.ref q8] : List Value) = [.ref (adG ad6 q8 (aLen R2) (nW ad6))] := by rw [f3]
  rw [hL1, hs1]
  generalize adG ad6 q8 (aLen R2) = ad9 at E9 f1''' f2 f3 f4 f5 kB9 kA9 kN9 hA9 eB eA ⊢
  clear hL1 hs1 f2 f3 f4 f5 eB eA kB8 kA8
  refine ra_aload E9 dL_law_613 0 rfl ?_
  refine ra_callIS (rest := []) E9 (c_L_alike _ _ kN9.1 n2 _ kA9.1 M9 (fun r M1 => r = 1 ∧ M1 = M9) (alike_1 kN9 kA9 (aLen_lt g8'.w) ⟨rfl, rfl⟩)) (Nat.le_refl _) ct_L_alike ml_L_252 (by decide) rfl rfl (Nat.le_of_ble_eq_true rfl) ⟨Nat.le_trans (Nat.le_of_ble_eq_true rfl) hR.1, Nat.le_trans (Nat.le_of_ble_eq_true rfl) hR.2⟩ ⟨by omega, by omega⟩ dL_law_615 (fun r M10 hk => ?_)
  obtain ⟨-, rfl, rfl⟩ := hk
  refine ra_if_ne (tgt := 623) E9 dL_law_618 rfl (fun _ => ?_) (fun e => absurd e (by decide))
  exact ra_sub (L' := [(0, _), (1, _), (8, _), (10, _), (11, _), (12, _)]) [4, 5, 6, 2, 1, 0] rfl (rd_623 E9 hR ⟨by omega, by omega⟩ hA9 (by omega) (by omega) g9 gd2 (by omega) (by omega) hb2 kB9 kA9 h8 (fun e1 e2 => by omega) ⟨by omega, by omega⟩ next)
end ROUND3
