/-! p65: an act leaves a good row -/
section ACT5
variable {T P m : Nat} {v : Int32} {R R' : Nat → Int32}
theorem ao_good (w : WF T R) (gd : Gd P m R) (h1 : 1 ≤ nb R) (hm : m + 60 ≤ 10000) (e : aOpt v R = some R') : ∃ m', m' ≤ m + 60 ∧ Gd P m' R' ∧ nb R' = nb R := by
  have n5 := w.nb5
  have n30 := w.no30
  have n16 := w.np16
  have n3 := w.np3
  have hb : vB v R < nb R := mo_lt h1
  have ht : vT v R < np R := mo_lt (by omega)
  have hB : aB v R = some R' → ∃ m', m' ≤ m + 60 ∧ Gd P m' R' ∧ nb R' = nb R := fun e => by
    unfold aB at e
    have l1 := mo_lt (v := vU v) (n := 4) (by decide)
    have l2 := mo_lt (v := vU v >>> ((3 : Int32) &&& 31)) (n := 6) (by decide)
    have l3 := mo_lt (v := vU v >>> ((4 : Int32) &&& 31)) (n := 60) (by decide)
    split at e
    · cases e
    · cases e
      refine ⟨m, by omega, gd_order gd w (by omega) (n1 _) (by omega) (by omega) (n1 _) (by omega) (by omega) (n1 _) (by omega) (by omega), ?_⟩
      unfold nb
      rw [aO_s (by decide) (by decide)]
  unfold aOpt at e
  split at e
  · unfold aA at e
    split at e
    · rename_i o0
      cases e
      have hl : inL R (vB v R) = false := Bool.eq_false_iff.2 (fun e => absurd ((obs_1 R _ (vT v R)).1.2 e) (by rw [o0]; decide))
      refine ⟨m, by omega, gd_sail gd w hb hl, ?_⟩
      unfold nb
      rw [aSail_i (by omega)]
    · cases e
  · split at e
    · exact hB e
    · split at e
      · exact hB e
      · rename_i c0
        have ho : vO v R < no R := mo_lt (by omega)
        split at e
        · unfold aC at e
          split at e
          · rename_i h4
            split at e
            · cases e
            · cases e
              exact ⟨m, by omega, gd_take gd w ho h4, aT_nb⟩
          · cases e
        · split at e
          · unfold aD at e
            split at e
            · rename_i hh
              cases e
              refine ⟨m, by omega, gd_drop gd w ho hh, ?_⟩
              unfold nb
              rw [aD_i (by omega)]
            · cases e
          · split at e
            · unfold aE at e
              have l1 := mo_lt (v := vU v) (n := 20) (by decide)
              split at e
              · split at e
                · cases e
                · rename_i c9
                  cases e
                  refine ⟨m, by omega, gd_flour (k := 1 + mo (vU v) 20) gd w hb (n1 _) (by omega) (Int32.not_lt.1 c9), ?_⟩
                  unfold nb
                  rw [aFlour_i (by omega) (by omega)]
              · cases e
            · split at e
              · unfold aF at e
                split at e
                · cases e
                · cases e
                  have ep := (w.2.1 _ hb).ePl
                  refine ⟨m, by omega, gd_gather gd w hb, ?_⟩
                  unfold nb
                  rw [aGather_i (by omega) (by omega)]
              · split at e
                · unfold aG at e
                  split at e
                  · cases e
                    refine ⟨m, by omega, gd_wash gd w hb, ?_⟩
                    unfold nb
                    rw [aWash_i (by omega) (by omega)]
                  · cases e
                · cases e
                  have lm : vM v ≤ 60 := by
                    unfold vM
                    split
                    · have := mo_lt (v := vU v) (n := 60) (by decide); omega
                    · have := mo_lt (v := vU v) (n := 7) (by decide); omega
                  refine ⟨m + vM v, by omega, gd_pmN gd w _ (by omega), ?_⟩
                  unfold nb
                  rw [(pmN_w w _).2.2.1]
end ACT5
