/-! p65: a cell of the script, read in a method of its own: a number, whatever it is; nothing changes -/
theorem kb_37 : (Int8.ofInt 37).toInt32 = 37 := by decide +kernel
theorem kb_28 : (Int8.ofInt 28).toInt32 = 28 := by decide +kernel
theorem kb_36 : (Int8.ofInt 36).toInt32 = 36 := by decide +kernel
def NoA : Nat → Prop := fun _ => False
theorem c_L_cell {b LL k : Nat} {xs : Nat → Int32} (hk : k < 2 ^ 31) (hL : LL < 2 ^ 31) (l : Launch) : Met l yL_cell (Cond.code yL_cell cL_cell 2 (some .int) :: TS) (rmC 1 0 0) (va_Pc [.ref b, .int (nI k)] (fun U => va_X b LL xs U U.heap ∧ b < U.heap.size)) (va_Qi (S := Unit) (fun _ _ => True) (fun _ _ => True) NoA) 0 0 NoA := by
  refine Met.ofW (cc := cL_cell) (maxL := 2) (ret := some .int) (by decide +kernel) rfl ?_
  intro p e s m args below meth c s₁ B hml hv
  obtain ⟨rfl, hX, hbl⟩ := hv
  have hl := lv_entry [Value.ref b, .int (nI k)] (n := 2) (Nat.le_of_ble_eq_true rfl)
  rw [lg_entry_eq]
  generalize (lg_sl [Value.ref b, .int (nI k)] ++ List.replicate (2 - (lg_sl [Value.ref b, .int (nI k)]).length) Slot.unset).toArray = ls at hl ⊢
  have hS : va_S NoA s.heap s.heap [] := va_S.rf
  have hA : ¬ NoA b := fun h => h
  have fin : ∀ v : Int32, ∀ ls, W p l e (rmC 1 0 0) s m [Value.ref b, .int (nI k)].toArray below meth c s.heap [] 0 0 (MQ below (va_Qi (S := Unit) (fun _ _ => True) (fun _ _ => True) NoA) [Value.ref b, .int (nI k)].toArray s 0 0 NoA) (F0 m 16 ls [.int v]) := fun v ls => W.iret (v := v) B.exec B.bytes B.returns (fun t ht _ => ⟨⟨v, (), rfl, trivial, trivial⟩, hS.F ht⟩) hS.2.2 dL_cell_16 B.notSynchronized
  refine lv_iload_n B.exec B.bytes dL_cell_0 rfl (lv_at hl 1 rfl) ?_
  refine lv_aload_n B.exec B.bytes dL_cell_1 rfl (lv_at hl 0 rfl) ?_
  refine va_slen B.exec B.bytes hX hbl hA hS dL_cell_2 ?_
  refine lv_icmp_ge (tgt := 12) B.exec B.bytes dL_cell_3 rfl (fun q => ?_) (fun q => ?_)
  · refine lv_bipush B.exec B.bytes dL_cell_12 kb_37 ?_
    refine lv_iload_n B.exec B.bytes dL_cell_14 rfl (lv_at hl 1 rfl) ?_
    refine lv_imul B.exec B.bytes dL_cell_15 ?_
    exact fin _ _
  · have hlt : k < LL := Nat.lt_of_not_le (fun c => q (nI_le c hk))
    refine lv_aload_n B.exec B.bytes dL_cell_6 rfl (lv_at hl 0 rfl) ?_
    refine lv_iload_n B.exec B.bytes dL_cell_7 rfl (lv_at hl 1 rfl) ?_
    refine va_sld B.exec B.bytes hX hbl hA hS (vp_in_nI hlt hL) dL_cell_8 ?_
    refine lv_goto (tgt := 16) B.exec B.bytes dL_cell_9 rfl ?_
    exact fin _ _
section CELLS
variable {p : Program} {l : Launch} {e : Env} {R : Room} {s : State} {m : MethodId} {args : Array Value} {below : List Frame} {meth : Method} {c : Code} {cells slots : Nat} {Q : State → Prop} {D : va_G} {tc : Nat → ClassId} {ad : Nat → Nat} {nL b LL : Nat} {xs : Nat → Int32} {cc : ByteArray} {pc : Nat} {L : List (Nat × Value)} {st : List Value} {M : TM}
theorem cell_blind {av : List Value} : FrameBlind (va_Pc av (fun U => va_X b LL xs U U.heap ∧ b < U.heap.size)) := fun a U g mk q => by
  obtain ⟨q0, q1, q2⟩ := q
  exact ⟨q0, va_X.moved (u := U) (U := U.calling g mk a) (Vm.Alike.refl U.vm) q1, q2⟩
theorem ra_cell (E : Ev p s m args meth c D tc ad RL cc nL) (hX : va_X b LL xs s s.heap) (hbl : b < s.heap.size) (hbA : ¬ A0 ad s.heap.size b) (hL : LL < 2 ^ 31) {idx k : Nat} {y : Int32} {rest stk : List Value} (hk : k < 2 ^ 31) (hy : y = nI k) (hl : Cond.methodLink RL idx yL_cell ∈ TS) (hst : stk = .int y :: .ref b :: rest) (hcat : (rest.map fun v => v.category).sum ≤ 8) (hR : 2 ≤ R.frames ∧ 80 ≤ R.locals) (hcs : cells ≤ R.cells ∧ slots ≤ R.slots) (d : decode cc pc = .ok (.invokestatic idx, 3)) (kk : ∀ r, Wa p l e R s m args below meth c cells slots Q D tc ad nL M (pc + 3) L (.int r :: rest)) : Wa p l e R s m args below meth c cells slots Q D tc ad nL M pc L stk := by
  intro H locs ls hP hS h
  subst hst hy
  have hlks := GT_S (own := RL) ct_L_cell hl
  obtain ⟨-, -, -, c2, c3, c4⟩ := ct_L_cell
  refine va_calli (va_runS (As := [.ref b, .int (nI k)]) (rest := rest) ⟨E.1, E.2.1, E.2.2.1, E.2.2.2.1, E.2.2.2.2.1⟩ (c_L_cell (b := b) (xs := xs) hk hL l) (va_cwS 2 E.2.2.2.2.1 hlks rfl rfl rfl ⟨c2, c3, c4⟩ ⟨hR.1, by show 8 + (2 + 11) + 40 * 1 ≤ R.locals; omega⟩) ⟨cell_blind, fun U hU hW => ⟨rfl, va_X.moved hW.alike (hU ▸ hX.kept (hS.2.1 b hbl hbA)), hU ▸ Nat.lt_of_lt_of_le hbl hS.1⟩⟩ rfl rfl h.1 rfl (lv_room hcat) d ⟨hcs.1, hcs.2⟩) hS (fun q _ hq => hq.elim) (fun q hq => hq.elim) (fun r u t H1 locs1 ht hvm hw hB hz1 hk1 hS1 => ?_)
  exact kk r H1 locs1 ls (hP.kept (fun k x hx => hk1 x.1 ((hP k x hx).lt) (fun z => z))) hS1 h
end CELLS
