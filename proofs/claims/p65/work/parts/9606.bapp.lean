/-! p65: the JDK's builder holds a text: a text, a sign, a number come behind it -/
/-- the builder at b holds the text T -/
def BW (tB : ClassId) (b : Nat) (T : List Nat) (w : va_W) : Prop := ∃ d q f, w = wB tB b d q f T.length ∧ T.length ≤ q ∧ q ≤ 2500 ∧ FB f ∧ ∀ j, j < T.length → f j = nI (T.getD j 0)
def byN (i : Nat) : List Nat := (bytS.getD i []).map (fun x => x.toNatClampNeg)
theorem gd_l {T U : List Nat} {j : Nat} (h : j < T.length) : (T ++ U).getD j 0 = T.getD j 0 := by simp [List.getD, List.getElem?_append_left h]
theorem gd_r {T U : List Nat} {j : Nat} (h : T.length ≤ j) : (T ++ U).getD j 0 = U.getD (j - T.length) 0 := by simp [List.getD, List.getElem?_append_right h]
theorem byN_len : ∀ i : Fin 22, (byN i.val).length = lenS.getD i.val 0 := by decide +kernel
theorem byN_at (i j : Nat) : (bytS.getD i []).getD j 0 = nI ((byN i).getD j 0) := by
  have h : ∀ r ∈ bytS, ∀ x ∈ r, nI x.toNatClampNeg = x := by decide +kernel
  unfold byN
  by_cases hi : i < bytS.length
  · rw [show bytS.getD i [] = bytS[i] from by simp [List.getD, hi]]
    by_cases hj : j < bytS[i].length
    · rw [show bytS[i].getD j 0 = bytS[i][j] from by simp [List.getD, hj], show (bytS[i].map (fun x => x.toNatClampNeg)).getD j 0 = bytS[i][j].toNatClampNeg from by simp [List.getD, hj]]
      exact (h _ (List.getElem_mem hi) _ (List.getElem_mem hj)).symm
    · rw [show bytS[i].getD j 0 = 0 from by simp [List.getD, List.getElem?_eq_none_iff.mpr (Nat.le_of_not_lt hj)], show (bytS[i].map (fun x => x.toNatClampNeg)).getD j 0 = 0 from by simp [List.getD, List.getElem?_eq_none_iff.mpr (Nat.le_of_not_lt hj)]]
      rfl
  · rw [show bytS.getD i [] = [] from by simp [List.getD, List.getElem?_eq_none_iff.mpr (Nat.le_of_not_lt hi)]]
    rfl
theorem ss_a : ∀ v : Fin 100, v.val < 10 → ¬ (-(nI v.val) ≤ (-10 : Int32)) := by decide +kernel
theorem ss_b : ∀ v : Fin 100, ¬ v.val < 10 → -(nI v.val) ≤ (-10 : Int32) := by decide +kernel
theorem ss_c : ∀ v : Fin 100, ¬ (-(nI v.val) ≤ (-100 : Int32)) := by decide +kernel
theorem gc_a : ∀ v : Fin 100, (-100 : Int32) < -(nI v.val) := by decide +kernel
theorem gc_b : ∀ v : Fin 100, v.val < 10 → (-9 : Int32) ≤ -(nI v.val) := by decide +kernel
theorem gc_c : ∀ v : Fin 100, ¬ v.val < 10 → ¬ (-9 : Int32) ≤ -(nI v.val) := by decide +kernel
theorem gc_n : ∀ v : Fin 100, -(-(nI v.val)) = nI v.val := by decide +kernel
theorem gc_o : ∀ v : Fin 100, vp_nar .byte (nI (48 + v.val % 10)) = nI (48 + v.val % 10) ∧ vp_nar .byte (nI (48 + v.val / 10)) = nI (48 + v.val / 10) := by decide +kernel
theorem fb_dg : ∀ v : Fin 128, fits .byte (.int (nI v.val)) = true := by decide +kernel
theorem kb_m10 : (Int8.ofInt (-10)).toInt32 = -10 := by decide +kernel
theorem kb_m9 : (Int8.ofInt (-9)).toInt32 = -9 := by decide +kernel
theorem kb_m100 : (Int8.ofInt (-100)).toInt32 = -100 := by decide +kernel
theorem fb_upd {f : Nat → Int32} (hf : FB f) {k v : Nat} (hv : v < 128) : FB (upd f k (nI v)) := fun j => by
  by_cases h : j = k
  · subst h
    rw [show upd f j (nI v) j = nI v from by simp [upd]]
    exact fb_dg ⟨v, hv⟩
  · rw [show upd f k (nI v) j = f j from by simp [upd, h]]
    exact hf j
section BAPP
variable {tB : ClassId} {ad : Nat → Nat} {t1 t2 : Nat} {ws : va_W}
theorem b_strSize {v : Nat} (hv : v < 100) : BI yJ6_stringSize_0f7a4 cJ6_stringSize_0f7a4 4 (some .int) 0 0 0 tB ad t1 t2 [.int (nI v)] ws (fun r w => r = nI (dg v).length ∧ w = ws) := fun l D A => by
  refine Eb_of RJ6 rfl (by decide +kernel) (Nat.le_of_ble_eq_true rfl) (fun p e s m below meth c E hr => ?_)
  refine rb_iconst E dJ6_stringSize_0f7a4_0 ki_1 ?_
  refine rb_istore_n (L' := [(1, _), (0, _)]) E dJ6_stringSize_0f7a4_1 rfl (by decide) rfl ?_
  refine rb_iload_n E dJ6_stringSize_0f7a4_2 rfl 1 rfl ?_
  refine rb_if_lt (tgt := 11) E dJ6_stringSize_0f7a4_3 rfl (fun q => absurd q (nI_pos (by omega))) (fun _ => ?_)
  refine rb_iconst E dJ6_stringSize_0f7a4_6 ki_0 ?_
  refine rb_istore_n (L' := [(1, _), (0, _)]) E dJ6_stringSize_0f7a4_7 rfl (by decide) rfl ?_
  refine rb_iload_n E dJ6_stringSize_0f7a4_8 rfl 1 rfl ?_
  refine rb_ineg E dJ6_stringSize_0f7a4_9 ?_
  refine rb_istore_n (L' := [(0, _), (1, _)]) E dJ6_stringSize_0f7a4_10 rfl (by decide) rfl ?_
  refine rb_bipush E dJ6_stringSize_0f7a4_11 kb_m10 ?_
  refine rb_istore_n (L' := [(2, _), (0, _), (1, _)]) E dJ6_stringSize_0f7a4_13 rfl (by decide) rfl ?_
  refine rb_iconst E dJ6_stringSize_0f7a4_14 ki_1 ?_
  refine rb_istore_n (L' := [(3, _), (2, _), (0, _), (1, _)]) E dJ6_stringSize_0f7a4_15 rfl (by decide) rfl ?_
  refine rb_iload_n E dJ6_stringSize_0f7a4_16 rfl 0 rfl ?_
  refine rb_bipush E dJ6_stringSize_0f7a4_17 kb_10 ?_
  refine rb_icmp_ge (tgt := 42) E dJ6_stringSize_0f7a4_19 rfl (fun q => absurd q (by decide +kernel)) (fun _ => ?_)
  refine rb_iload_n E dJ6_stringSize_0f7a4_22 rfl 2 rfl ?_
  refine rb_iload_n E dJ6_stringSize_0f7a4_23 rfl 1 rfl ?_
  refine rb_icmp_le (tgt := 31) E dJ6_stringSize_0f7a4_24 rfl (fun q => ?_) (fun q => ?_)
  · have h10 : ¬ v < 10 := fun z => ss_a ⟨v, hv⟩ z q
    refine rb_bipush E dJ6_stringSize_0f7a4_31 kb_10 ?_
    refine rb_iload_n E dJ6_stringSize_0f7a4_33 rfl 1 rfl ?_
    refine rb_imul E dJ6_stringSize_0f7a4_34 ?_
    rw [show (10 : Int32) * (-10) = -100 by decide +kernel]
    refine rb_istore_n (L' := [(2, _), (3, _), (0, _), (1, _)]) E dJ6_stringSize_0f7a4_35 rfl (by decide) rfl ?_
    refine rb_iinc1 (L' := [(3, _), (2, _), (0, _), (1, _)]) E dJ6_stringSize_0f7a4_36 1 rfl (by decide) rfl ?_
    refine rb_goto (tgt := 16) E dJ6_stringSize_0f7a4_39 rfl ?_
    refine rb_iload_n E dJ6_stringSize_0f7a4_16 rfl 0 rfl ?_
    refine rb_bipush E dJ6_stringSize_0f7a4_17 kb_10 ?_
    refine rb_icmp_ge (tgt := 42) E dJ6_stringSize_0f7a4_19 rfl (fun q => absurd q (by decide +kernel)) (fun _ => ?_)
    refine rb_iload_n E dJ6_stringSize_0f7a4_22 rfl 2 rfl ?_
    refine rb_iload_n E dJ6_stringSize_0f7a4_23 rfl 1 rfl ?_
    refine rb_icmp_le (tgt := 31) E dJ6_stringSize_0f7a4_24 rfl (fun q => absurd q (ss_c ⟨v, hv⟩)) (fun _ => ?_)
    refine rb_iload_n E dJ6_stringSize_0f7a4_27 rfl 0 rfl ?_
    refine rb_iload_n E dJ6_stringSize_0f7a4_28 rfl 3 rfl ?_
    refine rb_iadd E dJ6_stringSize_0f7a4_29 ?_
    refine rb_iret E hr rfl (Nat.le_refl _) (Nat.le_refl _) dJ6_stringSize_0f7a4_30 ⟨?_, rfl⟩
    unfold dg
    rw [if_neg h10]
    exact (by decide +kernel : (1 : Int32) + 1 + 0 = nI 2)
  · have h10 : v < 10 := Nat.lt_of_not_le (fun z => q (ss_b ⟨v, hv⟩ (by show ¬ v < 10; omega)))
    refine rb_iload_n E dJ6_stringSize_0f7a4_27 rfl 0 rfl ?_
    refine rb_iload_n E dJ6_stringSize_0f7a4_28 rfl 3 rfl ?_
    refine rb_iadd E dJ6_stringSize_0f7a4_29 ?_
    refine rb_iret E hr rfl (Nat.le_refl _) (Nat.le_refl _) dJ6_stringSize_0f7a4_30 ⟨?_, rfl⟩
    unfold dg
    rw [if_pos h10]
    exact (by decide +kernel : (1 : Int32) + 0 = nI 1)
theorem b_getChars {v k b d q n : Nat} {f : Nat → Int32} (hv : v < 100) (hf : FB f) (hq : k + (dg v).length ≤ q) (hq2 : q ≤ 2500) : BI yJ6_getChars_ba4f3 cJ6_getChars_ba4f3 7 (some .int) 0 0 0 tB ad t1 t2 [.int (nI v), .int (nI (k + (dg v).length)), .ref d] (wB tB b d q f n) (fun _ w => ∃ f', w = wB tB b d q f' n ∧ FB f' ∧ (∀ j, j < (dg v).length → f' (k + j) = nI ((dg v).getD j 0)) ∧ ∀ j, j < k → f' j = f j) := fun l D A => by
  refine Eb_of RJ6 rfl (by decide +kernel) (Nat.le_of_ble_eq_true rfl) (fun p e s m below meth c E hr => ?_)
  have hd := dg_l v
  refine rb_iload_n E dJ6_getChars_ba4f3_0 rfl 1 rfl ?_
  refine rb_istore (L' := [(5, _), (0, _), (1, _), (2, _)]) E dJ6_getChars_ba4f3_1 (by decide) rfl ?_
  refine rb_iload_n E dJ6_getChars_ba4f3_3 rfl 1 rfl ?_
  refine rb_if_ge (tgt := 11) E dJ6_getChars_ba4f3_4 rfl (fun _ => ?_) (fun q9 => absurd (nI_pos' (n := v) (by omega)) q9)
  refine rb_iconst E dJ6_getChars_ba4f3_11 ki_0 ?_
  refine rb_istore (L' := [(6, _), (5, _), (0, _), (1, _), (2, _)]) E dJ6_getChars_ba4f3_12 (by decide) rfl ?_
  refine rb_iload E dJ6_getChars_ba4f3_14 0 rfl ?_
  refine rb_if_ne (tgt := 22) E dJ6_getChars_ba4f3_16 rfl (fun q9 => absurd rfl q9) (fun _ => ?_)
  refine rb_iload_n E dJ6_getChars_ba4f3_19 rfl 2 rfl ?_
  refine rb_ineg E dJ6_getChars_ba4f3_20 ?_
  refine rb_istore_n (L' := [(0, _), (6, _), (5, _), (1, _), (2, _)]) E dJ6_getChars_ba4f3_21 rfl (by decide) rfl ?_
  refine rb_iload_n E dJ6_getChars_ba4f3_22 rfl 0 rfl ?_
  refine rb_bipush E dJ6_getChars_ba4f3_23 kb_m100 ?_
  refine rb_icmp_gt (tgt := 72) E dJ6_getChars_ba4f3_25 rfl (fun _ => ?_) (fun q9 => absurd (gc_a ⟨v, hv⟩) q9)
  refine rb_aload_n E dJ6_getChars_ba4f3_72 rfl 4 rfl ?_
  refine rb_iincm (L' := [(5, _), (0, _), (6, _), (1, _), (2, _)]) E dJ6_getChars_ba4f3_73 2 rfl (by decide) rfl ?_
  rw [nI_negone (by omega)]
  refine rb_iload E dJ6_getChars_ba4f3_76 0 rfl ?_
  refine gb_ones E fl_J6_83 dJ6_getChars_ba4f3_78 ?_
  refine rb_iload_n E dJ6_getChars_ba4f3_81 rfl 1 rfl ?_
  refine rb_ineg E dJ6_getChars_ba4f3_82 ?_
  rw [gc_n ⟨v, hv⟩]
  refine bl_ones E (vp_in_nI hv (by decide)) dJ6_getChars_ba4f3_83 ?_
  rw [nI_clamp (n := v) (by omega)]
  have c1 : (nI (k + (dg v).length - 1)).toNatClampNeg = k + (dg v).length - 1 := nI_clamp (by omega)
  have hg := gc_o ⟨v, hv⟩
  refine rb_bast (ws' := wB tB b d q (upd f (k + (dg v).length - 1) (nI (48 + v % 10))) n) E 1 rfl (vp_in_nI (by omega) (by omega)) (by rw [c1, hg.1]; rfl) dJ6_getChars_ba4f3_84 ?_
  have f1 := fb_upd hf (k := k + (dg v).length - 1) (v := 48 + v % 10) (by omega)
  refine rb_iload_n E dJ6_getChars_ba4f3_85 rfl 1 rfl ?_
  refine rb_bipush E dJ6_getChars_ba4f3_86 kb_m9 ?_
  by_cases h10 : v < 10
  · have el : (dg v).length = 1 := by unfold dg; rw [if_pos h10]; rfl
    refine rb_icmp_ge (tgt := 104) E dJ6_getChars_ba4f3_88 rfl (fun _ => ?_) (fun q9 => absurd (gc_b ⟨v, hv⟩ h10) q9)
    refine rb_iload E dJ6_getChars_ba4f3_104 2 rfl ?_
    refine rb_if_eq (tgt := 118) E dJ6_getChars_ba4f3_106 rfl (fun _ => ?_) (fun q9 => absurd rfl q9)
    refine rb_iload E dJ6_getChars_ba4f3_118 0 rfl ?_
    refine rb_iret E hr rfl (Nat.le_refl _) (Nat.le_refl _) dJ6_getChars_ba4f3_120 ⟨_, rfl, f1, fun j hj => ?_, fun j hj => ?_⟩
    · have ej : j = 0 := by omega
      subst ej
      rw [el, show k + 0 = k + 1 - 1 by omega, show upd f (k + 1 - 1) (nI (48 + v % 10)) (k + 1 - 1) = nI (48 + v % 10) from by simp [upd]]
      unfold dg
      rw [if_pos h10, Nat.mod_eq_of_lt h10]
      rfl
    · rw [el]
      have hne : j ≠ k + 1 - 1 := by omega
      simp only [upd, if_neg hne]
  · have el : (dg v).length = 2 := by unfold dg; rw [if_neg h10]; rfl
    refine rb_icmp_ge (tgt := 104) E dJ6_getChars_ba4f3_88 rfl (fun q9 => absurd q9 (gc_c ⟨v, hv⟩ h10)) (fun _ => ?_)
    refine rb_aload_n E dJ6_getChars_ba4f3_91 rfl 4 rfl ?_
    refine rb_iincm (L' := [(5, _), (0, _), (6, _), (1, _), (2, _)]) E dJ6_getChars_ba4f3_92 0 rfl (by decide) rfl ?_
    rw [nI_negone (by omega)]
    refine rb_iload E dJ6_getChars_ba4f3_95 0 rfl ?_
    refine gb_tens E fl_J6_87 dJ6_getChars_ba4f3_97 ?_
    refine rb_iload_n E dJ6_getChars_ba4f3_100 rfl 1 rfl ?_
    refine rb_ineg E dJ6_getChars_ba4f3_101 ?_
    rw [gc_n ⟨v, hv⟩]
    refine bl_tens E (vp_in_nI hv (by decide)) dJ6_getChars_ba4f3_102 ?_
    rw [nI_clamp (n := v) (by omega)]
    have c2 : (nI (k + (dg v).length - 1 - 1)).toNatClampNeg = k + (dg v).length - 1 - 1 := nI_clamp (by omega)
    refine rb_bast (ws' := wB tB b d q (upd (upd f (k + (dg v).length - 1) (nI (48 + v % 10))) (k + (dg v).length - 1 - 1) (nI (48 + v / 10))) n) E 1 rfl (vp_in_nI (by omega) (by omega)) (by rw [c2, hg.2]; rfl) dJ6_getChars_ba4f3_103 ?_
    have f2 := fb_upd f1 (k := k + (dg v).length - 1 - 1) (v := 48 + v / 10) (by omega)
    refine rb_iload E dJ6_getChars_ba4f3_104 2 rfl ?_
    refine rb_if_eq (tgt := 118) E dJ6_getChars_ba4f3_106 rfl (fun _ => ?_) (fun q9 => absurd rfl q9)
    refine rb_iload E dJ6_getChars_ba4f3_118 0 rfl ?_
    refine rb_iret E hr rfl (Nat.le_refl _) (Nat.le_refl _) dJ6_getChars_ba4f3_120 ⟨_, rfl, f2, fun j hj => ?_, fun j hj => ?_⟩
    · rw [el] at hj ⊢
      have ed : dg v = [48 + v / 10, 48 + v % 10] := by unfold dg; rw [if_neg h10]
      rw [ed]
      have hj2 : j = 0 ∨ j = 1 := by omega
      rcases hj2 with rfl | rfl
      · have e1 : k + 0 = k + 2 - 1 - 1 := by omega
        rw [e1]
        simp only [upd, if_true]
        rfl
      · have e1 : k + 1 ≠ k + 2 - 1 - 1 := by omega
        have e2 : k + 1 = k + 2 - 1 := by omega
        simp only [upd, if_neg e1, if_pos e2]
        rfl
    · rw [el]
      have h1 : j ≠ k + 2 - 1 - 1 := by omega
      have h2 : j ≠ k + 2 - 1 := by omega
      simp only [upd, if_neg h1, if_neg h2]
end BAPP
