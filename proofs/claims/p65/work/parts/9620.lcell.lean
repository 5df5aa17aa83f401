/-! p65: the law's own small methods, outside the class's world: a cell of the script with its answer, 'most' -/
/-- what cell k of the script answers -/
def cv (LL : Nat) (xs : Nat → Int32) (k : Nat) : Int32 := if k < LL then xs k else 37 * nI k
theorem c_L_cellF {b LL k : Nat} {xs : Nat → Int32} (hk : k < 2 ^ 31) (hL : LL < 2 ^ 31) (l : Launch) : Met l yL_cell (Cond.code yL_cell cL_cell 2 (some .int) :: TS) (rmC 1 0 0) (va_Pc [.ref b, .int (nI k)] (fun U => va_X b LL xs U U.heap ∧ b < U.heap.size)) (va_Qi (S := Unit) (fun r _ => r = cv LL xs k) (fun _ _ => True) NoA) 0 0 NoA := by
  refine Met.ofW (cc := cL_cell) (maxL := 2) (ret := some .int) (by decide +kernel) rfl ?_
  intro p e s m args below meth c s₁ B hml hv
  obtain ⟨rfl, hX, hbl⟩ := hv
  have hl := lv_entry [Value.ref b, .int (nI k)] (n := 2) (Nat.le_of_ble_eq_true rfl)
  rw [lg_entry_eq]
  generalize (lg_sl [Value.ref b, .int (nI k)] ++ List.replicate (2 - (lg_sl [Value.ref b, .int (nI k)]).length) Slot.unset).toArray = ls at hl ⊢
  have hS : va_S NoA s.heap s.heap [] := va_S.rf
  have hA : ¬ NoA b := fun h => h
  have fin : ∀ v : Int32, v = cv LL xs k → ∀ ls, W p l e (rmC 1 0 0) s m [Value.ref b, .int (nI k)].toArray below meth c s.heap [] 0 0 (MQ below (va_Qi (S := Unit) (fun r _ => r = cv LL xs k) (fun _ _ => True) NoA) [Value.ref b, .int (nI k)].toArray s 0 0 NoA) (F0 m 16 ls [.int v]) := fun v hv ls => W.iret (v := v) B.exec B.bytes B.returns (fun t ht _ => ⟨⟨v, (), rfl, hv, trivial⟩, hS.F ht⟩) hS.2.2 dL_cell_16 B.notSynchronized
  refine lv_iload_n B.exec B.bytes dL_cell_0 rfl (lv_at hl 1 rfl) ?_
  refine lv_aload_n B.exec B.bytes dL_cell_1 rfl (lv_at hl 0 rfl) ?_
  refine va_slen B.exec B.bytes hX hbl hA hS dL_cell_2 ?_
  refine lv_icmp_ge (tgt := 12) B.exec B.bytes dL_cell_3 rfl (fun q => ?_) (fun q => ?_)
  · have hge : ¬ k < LL := fun h => nI_ge h hL q
    refine lv_bipush B.exec B.bytes dL_cell_12 kb_37 ?_
    refine lv_iload_n B.exec B.bytes dL_cell_14 rfl (lv_at hl 1 rfl) ?_
    refine lv_imul B.exec B.bytes dL_cell_15 ?_
    exact fin _ (by unfold cv; rw [if_neg hge]) _
  · have hlt : k < LL := Nat.lt_of_not_le (fun c => q (nI_le c hk))
    refine lv_aload_n B.exec B.bytes dL_cell_6 rfl (lv_at hl 0 rfl) ?_
    refine lv_iload_n B.exec B.bytes dL_cell_7 rfl (lv_at hl 1 rfl) ?_
    refine va_sld B.exec B.bytes hX hbl hA hS (vp_in_nI hlt hL) dL_cell_8 ?_
    refine lv_goto (tgt := 16) B.exec B.bytes dL_cell_9 rfl ?_
    exact fin _ (by unfold cv; rw [if_pos hlt, nI_clamp (by omega)]) _
theorem c_L_most0 {v : Int32} {n : Nat} (h0 : 0 < n) (hn : n < 2 ^ 31) (l : Launch) : Met l yL_most (Cond.code yL_most cL_most 2 (some .int) :: TS) (rmC 0 0 0) (va_Pc [.int v, .int (nI n)] (fun _ => True)) (va_Qi (S := Unit) (fun r _ => r = nI (mo v n)) (fun _ _ => True) NoA) 0 0 NoA := by
  refine Met.ofW (cc := cL_most) (maxL := 2) (ret := some .int) (by decide +kernel) rfl ?_
  intro p e s m args below meth c s₁ B hml hv
  obtain ⟨rfl, -⟩ := hv
  have hl := lv_entry [Value.int v, .int (nI n)] (n := 2) (Nat.le_of_ble_eq_true rfl)
  rw [lg_entry_eq]
  generalize (lg_sl [Value.int v, .int (nI n)] ++ List.replicate (2 - (lg_sl [Value.int v, .int (nI n)]).length) Slot.unset).toArray = ls at hl ⊢
  have hS : va_S NoA s.heap s.heap [] := va_S.rf
  have hts := atoms_spec (ws := Cond.code yL_most cL_most 2 (some .int) :: TS) B.pre
  have ho : s.vm.findClass RL = some m.cls := findClass_of_methodNamed B.named
  refine lv_iload_n B.exec B.bytes dL_most_0 rfl (lv_at hl 0 rfl) ?_
  refine lv_ldc B.exec B.bytes ho (hts _ (List.mem_cons_of_mem _ kc_L_7)) dL_most_1 ?_
  refine lv_iand B.exec B.bytes dL_most_3 ?_
  refine lv_iload_n B.exec B.bytes dL_most_4 rfl (lv_at hl 1 rfl) ?_
  refine lv_irem B.exec B.bytes dL_most_5 (nI_ne0 h0 hn) ?_
  rw [pk_and v 31 (by decide), pk_rem (Nat.mod_lt _ (by decide)) h0 hn]
  exact W.iret (v := nI (mo v n)) B.exec B.bytes B.returns (fun t ht _ => ⟨⟨_, (), rfl, rfl, trivial⟩, hS.F ht⟩) hS.2.2 dL_most_6 B.notSynchronized
