/-! p65: the law makes its builder -/
section RQN
variable {p : Program} {l : Launch} {e : Env} {R : Room} {s : State} {m : MethodId} {args : Array Value} {below : List Frame} {meth : Method} {c : Code} {cells slots mc ms t1 t2 N : Nat} {Q : State → Prop} {D DB : va_G} {tc : Nat → ClassId} {ad : Nat → Nat} {H0 : Heap} {ws : va_W} {pc : Nat} {L : List (Nat × Value)} {st : List Value}
theorem rq_new (E : Eq9 p s m args meth c D DB tc ad t1 t2 N H0) {idx : Nat} (hl : Cond.classLink RL idx RJ4 ∈ TS) (hi : Cond.instantiable RJ4 4 ∈ TS) (hcs : cells + 1 ≤ R.cells ∧ slots + 4 ≤ R.slots) (d : decode cL_law pc = .ok (.new idx, 3)) (kk : ∀ q : Nat, Wq p l e R s m args below meth c (cells + 1) (slots + 4) Q DB N H0 [(q, .inr (0, [.null, .int 0, .int 0, .int 0]))] (pc + 3) L (.ref q :: st)) : Wq p l e R s m args below meth c cells slots Q DB N H0 [] pc L st := fun H locs ls hP hD hS hG h => by
  refine va_new (H0 := H) (A := AN N) (locs := locs) (ws := []) (ci := 0) (fs := [.null, .int 0, .int 0, .int 0]) E.1 E.2.1 E.2.2.2.2.1 (fun w q => TSp_r (iT_J4 w q)) tyJ4 tyJ4_ok E.2.2.2.1 (E.2.2.2.2.1 _ (TSp_r hl)) (E.2.2.2.2.1 _ (TSp_r hi)) (E.2.2.2.2.1 _ (TSp_r ini_J4)) E.2.2.2.2.2.1 hP hD ⟨Nat.le_refl _, fun _ _ _ => rfl, hS.2.2⟩ (fun q hq => Nat.le_trans hG.1 hq) (C := RJ4) (T := TJ4) (N := 4) rfl (fun j hj => by
    match j, hj with
    | 0, _ => rfl
    | 1, _ => rfl
    | 2, _ => rfl
    | 3, _ => rfl) hcs.1 hcs.2 d (fun q H1 hP1 hD1 hS1 => ?_)
  exact kk q H1 locs ls hP1 hD1 ⟨Nat.le_trans hS.1 hS1.1, fun x h1 h2 => (hS1.2.1 x (Nat.lt_of_lt_of_le h1 hS.1) h2).trans (hS.2.1 x h1 h2), hS.2.2⟩ ⟨Nat.le_trans hG.1 hS1.1, fun x hx => (hS1.2.1 x (Nat.lt_of_lt_of_le hx hG.1) (Nat.not_le.mpr hx)).trans (hG.2 x hx)⟩ h
/-- its constructor -/
theorem rq_init (E : Eq9 p s m args meth c D DB tc ad t1 t2 N H0) {idx i b : Nat} {rest stk : List Value} (hi : i < nS) (hlen : lenS.getD i 0 ≤ 400) (hl : Cond.methodLink RL idx yJ4_init_a7421 ∈ TS) (hst : stk = .ref (ad (2200 + i)) :: .ref b :: rest) (hcat : (rest.map fun v => v.category).sum ≤ 8) (hR : 9 ≤ R.frames ∧ 360 ≤ R.locals) (hcs : cells + 2 ≤ R.cells ∧ slots + 3000 ≤ R.slots) (d : decode cL_law pc = .ok (.invokespecial idx, 3)) (kk : ∀ ws', BW (tc 0) b (byN i) ws' → Wq p l e R s m args below meth c (cells + 2) (slots + 3000) Q DB N H0 ws' (pc + 3) L rest) : Wq p l e R s m args below meth c cells slots Q DB N H0 [(b, .inr (0, [.null, .int 0, .int 0, .int 0]))] pc L stk := by
  intro H locs ls hP hD hS hG h
  subst hst
  have hG9 : GoodIn TSp (Cond.code yJ4_init_a7421 cJ4_init_a7421 2 none :: TSp) := TSp_good fun w hw => (List.mem_cons.mp hw).elim (fun e => by rw [e]; exact TSp_r yc_J4_init_a7421) id
  refine va_callv (va_runI (As := [.ref (ad (2200 + i))]) (rest := rest) ⟨E.1, E.2.1, E.2.2.1, E.2.2.2.1, E.2.2.2.2.1⟩ (B_init (b := b) hi hlen l DB (AN N)) (cwI 1 E.2.2.2.2.1 hG9 rfl rfl rfl (E.2.2.2.2.1 _ (TSp_r ini_J4)) (E.2.2.2.2.1 _ (TSp_r hl)) (E.2.2.2.2.1 _ (TSp_r (TS_of (tin_6 _ (List.mem_of_getElem? (i := 5) (by decide +kernel))) (by decide +kernel)))) rfl ⟨by decide +kernel, by decide +kernel, by decide +kernel⟩ ⟨hR.1, by show 8 + (2 + 11) + 40 * 8 ≤ R.locals; omega⟩) ⟨preB_blind, fun U hU hW => ⟨rfl, preQ_at E hP hD hS hG.1 hU hW⟩⟩ rfl rfl h.1 rfl (lv_room hcat) d hcs) hS (fun q _ hq => hq) (fun q hq => hq) (fun u t H1 locs1 ht hvm hw hB hz1 hk1 hS1 => ?_)
  exact kk u hw H1 locs1 ls (by rw [← ht]; exact hB.1) hB.2 hS1 ⟨Nat.le_trans hG.1 hz1, fun q hq => (hk1 q (Nat.lt_of_lt_of_le hq hG.1) (fun z => absurd hq (Nat.not_lt.mpr z))).trans (hG.2 q hq)⟩ h
end RQN
