/-! each of the law's calls keeps what holds between calls -/
section CALLS
variable {xs : Nat → Int32} {i : Int32} {M : TM} {U : Nat}
theorem fl_0 (g : Inv U M) (hT : U + BB + 1 < 2 ^ 31) : f_law_0 xs i M (fun M' => Inv (U + BB) M') := by
  unfold f_law_0
  exact q_appendText g (fun M' h => h.mono (Nat.le_add_right U BB))
theorem fl_1 (g : Inv U M) (hT : U + BB + 1 < 2 ^ 31) : f_law_1 xs i M (fun M' => Inv (U + BB) M') := by
  unfold f_law_1
  exact q_loadCanal g (fun M' h => h.mono (Nat.le_add_right U BB))
theorem fl_2 (g : Inv U M) (hT : U + BB + 1 < 2 ^ 31) : f_law_2 xs i M (fun M' => Inv (U + BB) M') := by
  unfold f_law_2
  exact q_errorCode g (fun M' h => h.mono (Nat.le_add_right U BB))
theorem fl_3 (g : Inv U M) (hT : U + BB + 1 < 2 ^ 31) : f_law_3 xs i M (fun M' => Inv (U + BB) M') := by
  unfold f_law_3
  exact q_errorOffset g (fun M' h => h.mono (Nat.le_add_right U BB))
theorem fl_4 (g : Inv U M) (hT : U + BB + 1 < 2 ^ 31) : f_law_4 xs i M (fun M' => Inv (U + BB) M') := by
  unfold f_law_4
  exact q_minute g (fun M' h => h.mono (Nat.le_add_right U BB))
theorem fl_5 (g : Inv U M) (hT : U + BB + 1 < 2 ^ 31) : f_law_5 xs i M (fun M' => Inv (U + BB) M') := by
  unfold f_law_5
  exact q_placeCount g (fun M' h => h.mono (Nat.le_add_right U BB))
theorem fl_6 (g : Inv U M) (hT : U + BB + 1 < 2 ^ 31) : f_law_6 xs i M (fun M' => Inv (U + BB) M') := by
  unfold f_law_6
  exact q_lockWait g (fun M' h => h.mono (Nat.le_add_right U BB))
theorem fl_7 (g : Inv U M) (hT : U + BB + 1 < 2 ^ 31) : f_law_7 xs i M (fun M' => Inv (U + BB) M') := by
  unfold f_law_7
  exact q_clearance g (fun M' h => h.mono (Nat.le_add_right U BB))
theorem fl_8 (g : Inv U M) (hT : U + BB + 1 < 2 ^ 31) : f_law_8 xs i M (fun M' => Inv (U + BB) M') := by
  unfold f_law_8
  exact q_bargeInLock g (fun M' h => h.mono (Nat.le_add_right U BB))
theorem fl_9 (g : Inv U M) (hT : U + BB + 1 < 2 ^ 31) : f_law_9 xs i M (fun M' => Inv (U + BB) M') := by
  unfold f_law_9
  exact q_usedPairs g (fun M' h => h.mono (Nat.le_add_right U BB))
theorem fl_10 (g : Inv U M) (hT : U + BB + 1 < 2 ^ 31) : f_law_10 xs i M (fun M' => Inv (U + BB) M') := by
  unfold f_law_10
  exact q_bargesAt g (fun M' h => h.mono (Nat.le_add_right U BB))
theorem fl_11 (g : Inv U M) (hT : U + BB + 1 < 2 ^ 31) : f_law_11 xs i M (fun M' => Inv (U + BB) M') := by
  unfold f_law_11
  exact q_ordersAt g (fun M' h => h.mono (Nat.le_add_right U BB))
theorem fl_12 (g : Inv U M) (hT : U + BB + 1 < 2 ^ 31) : f_law_12 xs i M (fun M' => Inv (U + BB) M') := by
  unfold f_law_12
  exact q_bargeCount g (fun M' h => h.mono (Nat.le_add_right U BB))
theorem fl_13 (g : Inv U M) (hT : U + BB + 1 < 2 ^ 31) : f_law_13 xs i M (fun M' => Inv (U + BB) M') := by
  unfold f_law_13
  exact q_placeOf g (fun M' h => h.mono (Nat.le_add_right U BB))
theorem fl_14 (g : Inv U M) (hT : U + BB + 1 < 2 ^ 31) : f_law_14 xs i M (fun M' => Inv (U + BB) M') := by
  unfold f_law_14
  exact q_targetOf g (fun M' h => h.mono (Nat.le_add_right U BB))
theorem fl_15 (g : Inv U M) (hT : U + BB + 1 < 2 ^ 31) : f_law_15 xs i M (fun M' => Inv (U + BB) M') := by
  unfold f_law_15
  exact q_heightOf g (fun M' h => h.mono (Nat.le_add_right U BB))
theorem fl_16 (g : Inv U M) (hT : U + BB + 1 < 2 ^ 31) : f_law_16 xs i M (fun M' => Inv (U + BB) M') := by
  unfold f_law_16
  exact q_timeInLock g (fun M' h => h.mono (Nat.le_add_right U BB))
theorem fl_17 (g : Inv U M) (hT : U + BB + 1 < 2 ^ 31) : f_law_17 xs i M (fun M' => Inv (U + BB) M') := by
  unfold f_law_17
  exact q_flour g (fun M' h => h.mono (Nat.le_add_right U BB))
theorem fl_18 (g : Inv U M) (hT : U + BB + 1 < 2 ^ 31) : f_law_18 xs i M (fun M' => Inv (U + BB) M') := by
  unfold f_law_18
  exact q_cleanPairs g (fun M' h => h.mono (Nat.le_add_right U BB))
theorem fl_19 (g : Inv U M) (hT : U + BB + 1 < 2 ^ 31) : f_law_19 xs i M (fun M' => Inv (U + BB) M') := by
  unfold f_law_19
  exact q_dirtyPairs g (fun M' h => h.mono (Nat.le_add_right U BB))
theorem fl_20 (g : Inv U M) (hT : U + BB + 1 < 2 ^ 31) : f_law_20 xs i M (fun M' => Inv (U + BB) M') := by
  unfold f_law_20
  exact q_queueLength g (fun M' h => h.mono (Nat.le_add_right U BB))
theorem fl_21 (g : Inv U M) (hT : U + BB + 1 < 2 ^ 31) : f_law_21 xs i M (fun M' => Inv (U + BB) M') := by
  unfold f_law_21
  exact q_queuedOrder g (fun M' h => h.mono (Nat.le_add_right U BB))
theorem fl_22 (g : Inv U M) (hT : U + BB + 1 < 2 ^ 31) : f_law_22 xs i M (fun M' => Inv (U + BB) M') := by
  unfold f_law_22
  exact q_readyCount g (fun M' h => h.mono (Nat.le_add_right U BB))
theorem fl_23 (g : Inv U M) (hT : U + BB + 1 < 2 ^ 31) : f_law_23 xs i M (fun M' => Inv (U + BB) M') := by
  unfold f_law_23
  exact q_flourNeeded g (fun M' h => h.mono (Nat.le_add_right U BB))
theorem fl_24 (g : Inv U M) (hT : U + BB + 1 < 2 ^ 31) : f_law_24 xs i M (fun M' => Inv (U + BB) M') := by
  unfold f_law_24
  exact q_orderCount g (fun M' h => h.mono (Nat.le_add_right U BB))
theorem fl_25 (g : Inv U M) (hT : U + BB + 1 < 2 ^ 31) : f_law_25 xs i M (fun M' => Inv (U + BB) M') := by
  unfold f_law_25
  exact q_orderPlace g (fun M' h => h.mono (Nat.le_add_right U BB))
theorem fl_26 (g : Inv U M) (hT : U + BB + 1 < 2 ^ 31) : f_law_26 xs i M (fun M' => Inv (U + BB) M') := by
  unfold f_law_26
  exact q_bowls g (fun M' h => h.mono (Nat.le_add_right U BB))
theorem fl_27 (g : Inv U M) (hT : U + BB + 1 < 2 ^ 31) : f_law_27 xs i M (fun M' => Inv (U + BB) M') := by
  unfold f_law_27
  exact q_pullsLeft g (fun M' h => h.mono (Nat.le_add_right U BB))
theorem fl_28 (g : Inv U M) (hT : U + BB + 1 < 2 ^ 31) : f_law_28 xs i M (fun M' => Inv (U + BB) M') := by
  unfold f_law_28
  exact q_deadline g (fun M' h => h.mono (Nat.le_add_right U BB))
theorem fl_29 (g : Inv U M) (hT : U + BB + 1 < 2 ^ 31) : f_law_29 xs i M (fun M' => Inv (U + BB) M') := by
  unfold f_law_29
  exact q_price g (fun M' h => h.mono (Nat.le_add_right U BB))
theorem fl_30 (g : Inv U M) (hT : U + BB + 1 < 2 ^ 31) : f_law_30 xs i M (fun M' => Inv (U + BB) M') := by
  unfold f_law_30
  exact q_bargeOf g (fun M' h => h.mono (Nat.le_add_right U BB))
theorem fl_31 (g : Inv U M) (hT : U + BB + 1 < 2 ^ 31) : f_law_31 xs i M (fun M' => Inv (U + BB) M') := by
  unfold f_law_31
  exact q_isOpen g (fun M' h => h.mono (Nat.le_add_right U BB))
theorem fl_32 (g : Inv U M) (hT : U + BB + 1 < 2 ^ 31) : f_law_32 xs i M (fun M' => Inv (U + BB) M') := by
  unfold f_law_32
  exact q_isReady g (fun M' h => h.mono (Nat.le_add_right U BB))
theorem fl_33 (g : Inv U M) (hT : U + BB + 1 < 2 ^ 31) : f_law_33 xs i M (fun M' => Inv (U + BB) M') := by
  unfold f_law_33
  exact q_isEaten g (fun M' h => h.mono (Nat.le_add_right U BB))
theorem fl_34 (g : Inv U M) (hT : U + BB + 1 < 2 ^ 31) : f_law_34 xs i M (fun M' => Inv (U + BB) M') := by
  unfold f_law_34
  exact q_mostUrgentOrder g (fun M' h => h.mono (Nat.le_add_right U BB))
theorem fl_35 (g : Inv U M) (hT : U + BB + 1 < 2 ^ 31) : f_law_35 xs i M (fun M' => Inv (U + BB) M') := by
  unfold f_law_35
  exact q_coins g (fun M' h => h.mono (Nat.le_add_right U BB))
theorem fl_36 (g : Inv U M) (hT : U + BB + 1 < 2 ^ 31) : f_law_36 xs i M (fun M' => Inv (U + BB) M') := by
  unfold f_law_36
  exact q_eatenBowls g (fun M' h => h.mono (Nat.le_add_right U BB))
theorem fl_37 (g : Inv U M) (hT : U + BB + 1 < 2 ^ 31) : f_law_37 xs i M (fun M' => Inv (U + BB) M') := by
  unfold f_law_37
  exact q_expiredOrders g (fun M' h => h.mono (Nat.le_add_right U BB))
theorem fl_38 (g : Inv U M) (hT : U + BB + 1 < 2 ^ 31) : f_law_38 xs i M (fun M' => Inv (U + BB) M') := by
  unfold f_law_38
  exact q_meanCleanPairs g (fun M' h => h.mono (Nat.le_add_right U BB))
theorem fl_39 (g : Inv U M) (hT : U + BB + 1 < 2 ^ 31) : f_law_39 xs i M (fun M' => Inv (U + BB) M') := by
  unfold f_law_39
  exact q_eatenShare g (fun M' h => h.mono (Nat.le_add_right U BB))
theorem fl_40 (g : Inv U M) (hT : U + BB + 1 < 2 ^ 31) : f_law_40 xs i M (fun M' => Inv (U + BB) M') := by
  unfold f_law_40
  exact q_gap g (fun M' h => h.mono (Nat.le_add_right U BB))
theorem fl_41 (g : Inv U M) (hT : U + BB + 1 < 2 ^ 31) : f_law_41 xs i M (fun M' => Inv (U + BB) M') := by
  unfold f_law_41
  exact q_sailObstacle g (fun M' h => h.mono (Nat.le_add_right U BB))
theorem fl_42 (g : Inv U M) (hT : U + BB + 1 < 2 ^ 31) : f_law_42 xs i M (fun M' => Inv (U + BB) M') := by
  unfold f_law_42
  exact q_journeyTime g (fun M' h => h.mono (Nat.le_add_right U BB))
theorem fl_43 (g : Inv U M) (hT : U + BB + 1 < 2 ^ 31) : f_law_43 xs i M (fun M' => Inv (U + BB) M') := by
  unfold f_law_43
  exact q_minutesToTarget g (fun M' h => h.mono (Nat.le_add_right U BB))
theorem fl_44 (g : Inv U M) (hT : U + BB + 1 < 2 ^ 31) : f_law_44 xs i M (fun M' => Inv (U + BB) M') := by
  unfold f_law_44
  exact q_willBeEaten g (fun M' h => h.mono (Nat.le_add_right U BB))
theorem fl_45 (g : Inv U M) (hT : U + BB + 1 < 2 ^ 31) : f_law_45 xs i M (fun M' => Inv (U + BB) M') := by
  unfold f_law_45
  exact q_coinsAfter g (fun M' h => h.mono (Nat.le_add_right U BB))
theorem fl_46 (g : Inv U M) (hT : U + BB + 1 < 2 ^ 31) : f_law_46 xs i M (fun M' => Inv (U + BB) M') := by
  unfold f_law_46
  exact q_nearestBarge g (fun M' h => h.mono (Nat.le_add_right U BB))
theorem fl_47 (g : Inv U M) (hT : U + BB + 1 < 2 ^ 31) : f_law_47 xs i M (fun M' => Inv (U + BB) M') := by
  unfold f_law_47
  exact q_sail g (fun M' h => h.mono (Nat.le_add_right U BB))
theorem fl_48 (g : Inv U M) (hT : U + BB + 1 < 2 ^ 31) : f_law_48 xs i M (fun M' => Inv (U + BB) M') := by
  unfold f_law_48
  exact q_makeOrder g (fun M' h => h.mono (Nat.le_add_right U BB))
theorem fl_49 (g : Inv U M) (hT : U + BB + 1 < 2 ^ 31) : f_law_49 xs i M (fun M' => Inv (U + BB) M') := by
  unfold f_law_49
  exact q_take g (by have e : BB = 231525 := rfl; omega) (fun M' h => h.mono (Nat.add_le_add_left (show 1 ≤ BB by decide) U))
theorem fl_50 (g : Inv U M) (hT : U + BB + 1 < 2 ^ 31) : f_law_50 xs i M (fun M' => Inv (U + BB) M') := by
  unfold f_law_50
  exact q_drop g (fun M' h => h.mono (Nat.le_add_right U BB))
theorem fl_51 (g : Inv U M) (hT : U + BB + 1 < 2 ^ 31) : f_law_51 xs i M (fun M' => Inv (U + BB) M') := by
  unfold f_law_51
  exact q_buyFlour g (fun M' h => h.mono (Nat.le_add_right U BB))
theorem fl_52 (g : Inv U M) (hT : U + BB + 1 < 2 ^ 31) : f_law_52 xs i M (fun M' => Inv (U + BB) M') := by
  unfold f_law_52
  exact q_collect g (fun M' h => h.mono (Nat.le_add_right U BB))
theorem fl_53 (g : Inv U M) (hT : U + BB + 1 < 2 ^ 31) : f_law_53 xs i M (fun M' => Inv (U + BB) M') := by
  unfold f_law_53
  exact q_wash g (fun M' h => h.mono (Nat.le_add_right U BB))
theorem fl_54 (g : Inv U M) (hT : U + BB + 1 < 2 ^ 31) : f_law_54 xs i M (fun M' => Inv (U + BB) M') := by
  unfold f_law_54
  exact q_passMinutes g (fun M' h => h.mono (Nat.le_add_right U BB))
theorem fl_55 (g : Inv U M) (hT : U + BB + 1 < 2 ^ 31) : f_law_55 xs i M (fun M' => Inv (U + BB) M') := by
  unfold f_law_55
  exact q_runScript g hT (fun M' h => h)
theorem fl_56 (g : Inv U M) (hT : U + BB + 1 < 2 ^ 31) : f_law_56 xs i M (fun M' => Inv (U + BB) M') := by
  unfold f_law_56
  exact q_writeCanal g (fun M' h => h.mono (Nat.le_add_right U BB))
theorem fl_57 (g : Inv U M) (hT : U + BB + 1 < 2 ^ 31) : f_law_57 xs i M (fun M' => Inv (U + BB) M') := by
  unfold f_law_57
  exact q_outputByte g (fun M' h => h.mono (Nat.le_add_right U BB))
theorem fl_58 (g : Inv U M) (hT : U + BB + 1 < 2 ^ 31) : f_law_58 xs i M (fun M' => Inv (U + BB) M') := by
  unfold f_law_58
  exact q_undoableCount g (fun M' h => h.mono (Nat.le_add_right U BB))
theorem fl_59 (g : Inv U M) (hT : U + BB + 1 < 2 ^ 31) : f_law_59 xs i M (fun M' => Inv (U + BB) M') := by
  unfold f_law_59
  exact q_undo g (fun M' h => h.mono (Nat.le_add_right U BB))
theorem fl_60 (g : Inv U M) (hT : U + BB + 1 < 2 ^ 31) : f_law_60 xs i M (fun M' => Inv (U + BB) M') := by
  unfold f_law_60
  exact q_saveSnapshot g (fun M' h => h.mono (Nat.le_add_right U BB))
theorem fl_61 (g : Inv U M) (hT : U + BB + 1 < 2 ^ 31) : f_law_61 xs i M (fun M' => Inv (U + BB) M') := by
  unfold f_law_61
  exact q_restoreSnapshot g (fun M' h => h.mono (Nat.le_add_right U BB))
theorem fl_all (g : Inv U M) (hT : U + BB + 1 < 2 ^ 31) : f_law xs i M (fun M' => Inv (U + BB) M') := by
  unfold f_law
  exact ⟨fun _ => fl_0 g hT, fun _ => fl_1 g hT, fun _ => fl_2 g hT, fun _ => fl_3 g hT, fun _ => fl_4 g hT, fun _ => fl_5 g hT, fun _ => fl_6 g hT, fun _ => fl_7 g hT, fun _ => fl_8 g hT, fun _ => fl_9 g hT, fun _ => fl_10 g hT, fun _ => fl_11 g hT, fun _ => fl_12 g hT, fun _ => fl_13 g hT, fun _ => fl_14 g hT, fun _ => fl_15 g hT, fun _ => fl_16 g hT, fun _ => fl_17 g hT, fun _ => fl_18 g hT, fun _ => fl_19 g hT, fun _ => fl_20 g hT, fun _ => fl_21 g hT, fun _ => fl_22 g hT, fun _ => fl_23 g hT, fun _ => fl_24 g hT, fun _ => fl_25 g hT, fun _ => fl_26 g hT, fun _ => fl_27 g hT, fun _ => fl_28 g hT, fun _ => fl_29 g hT, fun _ => fl_30 g hT, fun _ => fl_31 g hT, fun _ => fl_32 g hT, fun _ => fl_33 g hT, fun _ => fl_34 g hT, fun _ => fl_35 g hT, fun _ => fl_36 g hT, fun _ => fl_37 g hT, fun _ => fl_38 g hT, fun _ => fl_39 g hT, fun _ => fl_40 g hT, fun _ => fl_41 g hT, fun _ => fl_42 g hT, fun _ => fl_43 g hT, fun _ => fl_44 g hT, fun _ => fl_45 g hT, fun _ => fl_46 g hT, fun _ => fl_47 g hT, fun _ => fl_48 g hT, fun _ => fl_49 g hT, fun _ => fl_50 g hT, fun _ => fl_51 g hT, fun _ => fl_52 g hT, fun _ => fl_53 g hT, fun _ => fl_54 g hT, fun _ => fl_55 g hT, fun _ => fl_56 g hT, fun _ => fl_57 g hT, fun _ => fl_58 g hT, fun _ => fl_59 g hT, fun _ => fl_60 g hT, fun _ => fl_61 g hT, fun _ _ _ _ _ _ _ _ _ _ _ _ _ _ _ _ _ _ _ _ _ _ _ _ _ _ _ _ _ _ _ _ _ _ _ _ _ _ _ _ _ _ _ _ _ _ _ _ _ _ _ _ _ _ _ _ _ _ _ _ _ _ => g.mono (Nat.le_add_right U BB)⟩
end CALLS
