/-! p65: what holds of the object alone between calls; what its telling calls answer -/
def CurR (T : Nat) (M : TM) (ci di : Nat) (R : Nat → Int32) : Prop := ((ci = 9 ∧ di = 10) ∨ (ci = 10 ∧ di = 9)) ∧ M 0 5 = nI ci ∧ M 0 6 = nI di ∧ RelC (27 + 61 * ci) M R ∧ WF T R ∧ Nb R
def HisR (T : Nat) (M : TM) (nx h : Nat) (hr : Nat → Nat → Int32) : Prop := M 25 1 = nI nx ∧ M 25 2 = nI h ∧ nx ≤ 8 ∧ h ≤ 8 ∧ ∀ k, k < h → RelC (slot nx h k) M (hr k) ∧ WF T (hr k) ∧ Nb (hr k)
def SnR (T : Nat) (M : TM) (sb : Bool) (S : Nat → Int32) : Prop := bz (M 0 4) = bi sb ∧ (sb = true → RelC 515 M S ∧ WF T S ∧ Nb S)
/-- the object: its canal's row R, its history of h rows, its snapshot; the law's own cells are L's -/
def PV (L : TM) (T : Nat) (R : Nat → Int32) (h : Nat) (hr : Nat → Nat → Int32) (sb : Bool) (S : Nat → Int32) (M : TM) : Prop := (∃ ci di nx : Nat, CurR T M ci di R ∧ HisR T M nx h hr ∧ SnR T M sb S) ∧ ∀ i, 699 ≤ i → M i = L i
section TELLR
variable {M M1 M' L L' : TM} {T U : Nat} {KI : Int32 → TM → Prop} {KO : Option Nat → TM → Prop} {KV : TM → Prop} {p q u v : Int32} {R R' S : Nat → Int32} {a b c d e f j k m h nx ci di t o : Nat} {hr : Nat → Nat → Int32} {sb : Bool}
theorem CurR.fr (g : CurR T M ci di R) (h0 : M' 0 5 = M 0 5 ∧ M' 0 6 = M 0 6) (hc : ∀ i, 27 + 61 * ci ≤ i → i < 27 + 61 * ci + 61 → M' i = M i) : CurR T M' ci di R := by
  obtain ⟨a1, a2, a3, a5, a6, a7⟩ := g
  unfold CurR
  rw [h0.1, h0.2]
  exact ⟨a1, a2, a3, a5.frame hc a6.nb5 a6.no30, a6, a7⟩
theorem HisR.fr (g : HisR T M nx h hr) (h25 : M' 25 = M 25) (hc : ∀ i, 27 ≤ i → i < 515 → M' i = M i) : HisR T M' nx h hr := by
  obtain ⟨a1, a2, a3, a4, a6⟩ := g
  unfold HisR
  rw [h25]
  refine ⟨a1, a2, a3, a4, fun k hk => ?_⟩
  obtain ⟨b1, b2, b3⟩ := a6 k hk
  have sl : 27 ≤ slot nx h k ∧ slot nx h k + 61 ≤ 515 := by
    unfold slot
    have := Nat.mod_lt (nx + 8 - h + k) (show 8 > 0 by decide)
    omega
  exact ⟨b1.frame (fun i h1 h2 => hc i (by omega) (by omega)) b2.nb5 b2.no30, b2, b3⟩
theorem SnR.fr (g : SnR T M sb S) (h0 : M' 0 4 = M 0 4) (hc : ∀ i, 515 ≤ i → i < 576 → M' i = M i) : SnR T M' sb S := by
  unfold SnR
  rw [h0]
  exact ⟨g.1, fun h => ⟨(g.2 h).1.frame hc (g.2 h).2.1.nb5 (g.2 h).2.1.no30, (g.2 h).2⟩⟩
theorem PV.fr (g : PV L T R h hr sb S M) (hc : ∀ i, i < 698 → M' i = M i) (hL : ∀ i, 699 ≤ i → M' i = L' i) : PV L' T R h hr sb S M' := by
  obtain ⟨⟨ci, di, nx, g1, g2, g3⟩, gL⟩ := g
  have hci : ci ≤ 10 := by have := g1.1; omega
  exact ⟨⟨ci, di, nx, g1.fr ⟨by rw [hc 0 (by decide)], by rw [hc 0 (by decide)]⟩ (fun i h1 h2 => hc i (by omega)), g2.fr (hc 25 (by decide)) (fun i h1 h2 => hc i (by omega)), g3.fr (by rw [hc 0 (by decide)]) (fun i h1 h2 => hc i (by omega))⟩, hL⟩
theorem PV.w (g : PV L T R h hr sb S M) : WF T R := by obtain ⟨⟨ci, di, nx, g1, -⟩, -⟩ := g; exact g1.2.2.2.2.1
theorem PV.nbR (g : PV L T R h hr sb S M) : Nb R := by obtain ⟨⟨ci, di, nx, g1, -⟩, -⟩ := g; exact g1.2.2.2.2.2
theorem PV.h8 (g : PV L T R h hr sb S M) : h ≤ 8 := by obtain ⟨⟨ci, di, nx, g1, g2, -⟩, -⟩ := g; exact g2.2.2.2.1
theorem CurR.mono (hT : T ≤ U) (g : CurR T M ci di R) : CurR U M ci di R := ⟨g.1, g.2.1, g.2.2.1, g.2.2.2.1, WF.mono hT g.2.2.2.2.1, g.2.2.2.2.2⟩
theorem HisR.mono (hT : T ≤ U) (g : HisR T M nx h hr) : HisR U M nx h hr := ⟨g.1, g.2.1, g.2.2.1, g.2.2.2.1, fun k hk => ⟨(g.2.2.2.2 k hk).1, WF.mono hT (g.2.2.2.2 k hk).2.1, (g.2.2.2.2 k hk).2.2⟩⟩
theorem SnR.mono (hT : T ≤ U) (g : SnR T M sb S) : SnR U M sb S := ⟨g.1, fun h => ⟨(g.2 h).1, WF.mono hT (g.2 h).2.1, (g.2 h).2.2⟩⟩
theorem PV.mono (hT : T ≤ U) (g : PV L T R h hr sb S M) : PV L U R h hr sb S M := by
  obtain ⟨⟨ci, di, nx, g1, g2, g3⟩, gL⟩ := g
  exact ⟨⟨ci, di, nx, g1.mono hT, g2.mono hT, g3.mono hT⟩, gL⟩
theorem CurR.in11 (g : CurR T M ci di R) : vp_in (M 0 5) 11 ∧ 27 + 61 * (M 0 5).toNatClampNeg = 27 + 61 * ci ∧ 27 ≤ 27 + 61 * ci ∧ (27 + 61 * ci = 576 ∨ 27 + 61 * ci = 637) := by
  have h1 := g.1
  rw [g.2.1]
  refine ⟨vp_in_nI (by omega) (by decide), by rw [nI_clamp (by omega)], by omega, by omega⟩
theorem CurR.di11 (g : CurR T M ci di R) : vp_in (M 0 6) 11 ∧ 27 + 61 * (M 0 6).toNatClampNeg = 27 + 61 * di := by
  have h1 := g.1
  rw [g.2.2.1]
  exact ⟨vp_in_nI (by omega) (by decide), by rw [nI_clamp (by omega)]⟩
theorem some_ok {P : Nat → Prop} {F : Nat → Prop} {x : Nat} (hP : P x) (hF : F x) : (∃ x3, P x3 ∧ (some x : Option Nat) = some x3) ∧ ∀ x3, P x3 → (some x : Option Nat) = some x3 → F x3 := ⟨⟨x, hP, rfl⟩, fun x3 _ e => by cases e; exact hF⟩
theorem iSecR (g : CurR T M ci di R) (hj : j < 15) : IsSec (27 + 61 * ci + 6 + j) := ⟨ci, j, by have := g.1; omega, hj, rfl⟩
theorem iBarR (g : CurR T M ci di R) (hj : j < 5) : IsBarge (27 + 61 * ci + 21 + 2 * j) := ⟨ci, j, by have := g.1; omega, hj, rfl⟩
theorem iOrdR (g : CurR T M ci di R) (hj : j < 30) : IsOrder (27 + 61 * ci + 31 + j) := ⟨ci, j, by have := g.1; omega, hj, rfl⟩
theorem r_place (g : CurR T M ci di R) (e : p = nI t) (ht : t < np R) (hK : KV M) : f_X12_requirePlace p M KV := by
  unfold f_X12_requirePlace
  obtain ⟨v1, v2, v3, v4⟩ := g.in11
  have n16 := g.2.2.2.2.1.np16
  refine ⟨v1, ?_⟩
  rw [v2]
  refine c_hasPlace g.2.2.2.2.1 g.2.2.2.1 ?_
  rw [e, inR_nI ht (by omega)]
  exact bT (fun _ => hK) (fun c => by cases c)
theorem r_barge (g : CurR T M ci di R) (e : p = nI b) (hb : b < nb R) (hK : KV M) : f_X12_requireBarge p M KV := by
  unfold f_X12_requireBarge
  obtain ⟨v1, v2, v3, v4⟩ := g.in11
  have n5 := g.2.2.2.2.1.nb5
  refine ⟨v1, ?_⟩
  rw [v2]
  refine c_hasBarge g.2.2.2.2.1 g.2.2.2.1 ?_
  rw [e, inR_nI hb (by omega)]
  exact bT (fun _ => hK) (fun c => by cases c)
theorem r_order (g : CurR T M ci di R) (e : p = nI o) (ho : o < no R) (hK : KV M) : f_X12_requireOrder p M KV := by
  unfold f_X12_requireOrder
  obtain ⟨v1, v2, v3, v4⟩ := g.in11
  have n30 := g.2.2.2.2.1.no30
  refine ⟨v1, ?_⟩
  rw [v2]
  refine c_hasOrder g.2.2.2.2.1 g.2.2.2.1 ?_
  rw [e, inR_nI ho (by omega)]
  exact bT (fun _ => hK) (fun c => by cases c)
theorem r_sect (g : CurR T M ci di R) (e : p = nI j) (hj : j < np R - 1) (hK : KO (some (27 + 61 * ci + 6 + j)) M) : f_X12_sectionAt p M KO := by
  unfold f_X12_sectionAt
  obtain ⟨v1, v2, v3, v4⟩ := g.in11
  have w := g.2.2.2.2.1
  have n16 := w.np16
  refine ⟨v1, ?_⟩
  rw [v2]
  refine c_hasSection w g.2.2.2.1 ?_
  rw [e, inR_nI hj (by omega)]
  refine bT (fun _ => ⟨v1, vp_in_nI (by omega) (by decide), ?_⟩) (fun c => by cases c)
  rw [v2, nI_clamp (by omega)]
  exact hK
theorem r_bargAt (g : CurR T M ci di R) (e : p = nI b) (hb : b < nb R) (hK : KO (some (27 + 61 * ci + 21 + 2 * b)) M) : f_X12_bargeAt p M KO := by
  unfold f_X12_bargeAt
  obtain ⟨v1, v2, v3, v4⟩ := g.in11
  have n5 := g.2.2.2.2.1.nb5
  refine r_barge g e hb ?_
  rw [e]
  refine ⟨v1, vp_in_nI (by omega) (by decide), ?_⟩
  rw [v2, nI_clamp (by omega)]
  exact hK
theorem r_ordAt (g : CurR T M ci di R) (e : p = nI o) (ho : o < no R) (hK : KO (some (27 + 61 * ci + 31 + o)) M) : f_X12_orderAt p M KO := by
  unfold f_X12_orderAt
  obtain ⟨v1, v2, v3, v4⟩ := g.in11
  have n30 := g.2.2.2.2.1.no30
  refine r_order g e ho ?_
  rw [e]
  refine ⟨v1, vp_in_nI (by omega) (by decide), ?_⟩
  rw [v2, nI_clamp (by omega)]
  exact hK
theorem t_minute (g : PV L T R h hr sb S M) (hK : KI (R 0) M) : f_X12_minute M KI := by
  unfold f_X12_minute
  obtain ⟨⟨ci, di, nx, g, -⟩, -⟩ := g
  obtain ⟨v1, v2, -⟩ := g.in11
  refine ⟨v1, ?_⟩
  rw [v2, g.2.2.2.1.1.2.2.2.1]
  exact hK
theorem t_placeCount (g : PV L T R h hr sb S M) (hK : KI (R 1) M) : f_X12_placeCount M KI := by
  unfold f_X12_placeCount
  obtain ⟨⟨ci, di, nx, g, -⟩, -⟩ := g
  obtain ⟨v1, v2, -⟩ := g.in11
  refine ⟨v1, ?_⟩
  rw [v2, g.2.2.2.1.1.1]
  exact hK
theorem t_bargeCount (g : PV L T R h hr sb S M) (hK : KI (R 2) M) : f_X12_bargeCount M KI := by
  unfold f_X12_bargeCount
  obtain ⟨⟨ci, di, nx, g, -⟩, -⟩ := g
  obtain ⟨v1, v2, -⟩ := g.in11
  refine ⟨v1, ?_⟩
  rw [v2, g.2.2.2.1.1.2.1]
  exact hK
theorem t_orderCount (g : PV L T R h hr sb S M) (hK : KI (R 3) M) : f_X12_orderCount M KI := by
  unfold f_X12_orderCount
  obtain ⟨⟨ci, di, nx, g, -⟩, -⟩ := g
  obtain ⟨v1, v2, -⟩ := g.in11
  refine ⟨v1, ?_⟩
  rw [v2, g.2.2.2.1.1.2.2.1]
  exact hK
theorem t_coins (g : PV L T R h hr sb S M) (hK : KI (R 4) M) : f_X12_coins M KI := by
  unfold f_X12_coins
  obtain ⟨⟨ci, di, nx, g, -⟩, -⟩ := g
  obtain ⟨v1, v2, -⟩ := g.in11
  refine ⟨v1, ?_⟩
  rw [v2, g.2.2.2.1.1.2.2.2.2.1]
  exact hK
theorem t_eatenBowls (g : PV L T R h hr sb S M) (hK : KI (R 5) M) : f_X12_eatenBowls M KI := by
  unfold f_X12_eatenBowls
  obtain ⟨⟨ci, di, nx, g, -⟩, -⟩ := g
  obtain ⟨v1, v2, -⟩ := g.in11
  refine ⟨v1, ?_⟩
  rw [v2, g.2.2.2.1.1.2.2.2.2.2.2.1]
  exact hK
theorem t_expiredOrders (g : PV L T R h hr sb S M) (hK : KI (R 6) M) : f_X12_expiredOrders M KI := by
  unfold f_X12_expiredOrders
  obtain ⟨⟨ci, di, nx, g, -⟩, -⟩ := g
  obtain ⟨v1, v2, -⟩ := g.in11
  refine ⟨v1, ?_⟩
  rw [v2, g.2.2.2.1.1.2.2.2.2.2.2.2.2]
  exact hK
theorem t_placeOf (g : PV L T R h hr sb S M) (e : p = nI b) (hb : b < nb R) (hK : KI (bg R b 0) M) : f_X12_placeOf p M KI := by
  unfold f_X12_placeOf
  obtain ⟨⟨ci, di, nx, g, -⟩, -⟩ := g
  have n5 := g.2.2.2.2.1.nb5
  refine r_bargAt g e hb (some_ok (iBarR g (by omega)) ?_)
  rw [(g.2.2.2.1.2.2.2.1 b hb).1]
  exact hK
theorem t_targetOf (g : PV L T R h hr sb S M) (e : p = nI b) (hb : b < nb R) (hK : KI (bg R b 1) M) : f_X12_targetOf p M KI := by
  unfold f_X12_targetOf
  obtain ⟨⟨ci, di, nx, g, -⟩, -⟩ := g
  have n5 := g.2.2.2.2.1.nb5
  refine r_bargAt g e hb (some_ok (iBarR g (by omega)) ?_)
  rw [(g.2.2.2.1.2.2.2.1 b hb).2.1]
  exact hK
theorem t_timeInLock (g : PV L T R h hr sb S M) (e : p = nI b) (hb : b < nb R) (hK : KI (bg R b 6) M) : f_X12_timeInLock p M KI := by
  unfold f_X12_timeInLock
  obtain ⟨⟨ci, di, nx, g, -⟩, -⟩ := g
  have n5 := g.2.2.2.2.1.nb5
  refine r_bargAt g e hb (some_ok (iBarR g (by omega)) ?_)
  rw [(g.2.2.2.1.2.2.2.1 b hb).2.2.2.1]
  exact hK
theorem t_flour (g : PV L T R h hr sb S M) (e : p = nI b) (hb : b < nb R) (hK : KI (bg R b 3) M) : f_X12_flour p M KI := by
  unfold f_X12_flour
  obtain ⟨⟨ci, di, nx, g, -⟩, -⟩ := g
  have n5 := g.2.2.2.2.1.nb5
  refine r_bargAt g e hb (some_ok (iBarR g (by omega)) ?_)
  rw [(g.2.2.2.1.2.2.2.1 b hb).2.2.2.2.1]
  exact hK
theorem t_cleanPairs (g : PV L T R h hr sb S M) (e : p = nI b) (hb : b < nb R) (hK : KI (bg R b 4) M) : f_X12_cleanPairs p M KI := by
  unfold f_X12_cleanPairs
  obtain ⟨⟨ci, di, nx, g, -⟩, -⟩ := g
  have n5 := g.2.2.2.2.1.nb5
  refine r_bargAt g e hb (some_ok (iBarR g (by omega)) ?_)
  rw [(g.2.2.2.1.2.2.2.1 b hb).2.2.2.2.2.1]
  exact hK
theorem t_dirtyPairs (g : PV L T R h hr sb S M) (e : p = nI b) (hb : b < nb R) (hK : KI (bg R b 5) M) : f_X12_dirtyPairs p M KI := by
  unfold f_X12_dirtyPairs
  obtain ⟨⟨ci, di, nx, g, -⟩, -⟩ := g
  have n5 := g.2.2.2.2.1.nb5
  refine r_bargAt g e hb (some_ok (iBarR g (by omega)) ?_)
  rw [(g.2.2.2.1.2.2.2.1 b hb).2.2.2.2.2.2]
  exact hK
theorem t_orderPlace (g : PV L T R h hr sb S M) (e : p = nI o) (ho : o < no R) (hK : KI (og R o 0) M) : f_X12_orderPlace p M KI := by
  unfold f_X12_orderPlace
  obtain ⟨⟨ci, di, nx, g, -⟩, -⟩ := g
  have n30 := g.2.2.2.2.1.no30
  refine r_ordAt g e ho (some_ok (iOrdR g (by omega)) ?_)
  rw [(g.2.2.2.1.2.2.2.2.2 o ho).1]
  exact hK
theorem t_bowls (g : PV L T R h hr sb S M) (e : p = nI o) (ho : o < no R) (hK : KI (og R o 1) M) : f_X12_bowls p M KI := by
  unfold f_X12_bowls
  obtain ⟨⟨ci, di, nx, g, -⟩, -⟩ := g
  have n30 := g.2.2.2.2.1.no30
  refine r_ordAt g e ho (some_ok (iOrdR g (by omega)) ?_)
  rw [(g.2.2.2.1.2.2.2.2.2 o ho).2.1]
  exact hK
theorem t_pullsLeft (g : PV L T R h hr sb S M) (e : p = nI o) (ho : o < no R) (hK : KI (og R o 7) M) : f_X12_pullsLeft p M KI := by
  unfold f_X12_pullsLeft
  obtain ⟨⟨ci, di, nx, g, -⟩, -⟩ := g
  have n30 := g.2.2.2.2.1.no30
  refine r_ordAt g e ho (some_ok (iOrdR g (by omega)) ?_)
  rw [(g.2.2.2.1.2.2.2.2.2 o ho).2.2.2.1]
  exact hK
theorem t_deadline (g : PV L T R h hr sb S M) (e : p = nI o) (ho : o < no R) (hK : KI (og R o 3) M) : f_X12_deadline p M KI := by
  unfold f_X12_deadline
  obtain ⟨⟨ci, di, nx, g, -⟩, -⟩ := g
  have n30 := g.2.2.2.2.1.no30
  refine r_ordAt g e ho (some_ok (iOrdR g (by omega)) ?_)
  rw [(g.2.2.2.1.2.2.2.2.2 o ho).2.2.2.2.1]
  exact hK
theorem t_bargeOf (g : PV L T R h hr sb S M) (e : p = nI o) (ho : o < no R) (hK : KI (og R o 5) M) : f_X12_bargeOf p M KI := by
  unfold f_X12_bargeOf
  obtain ⟨⟨ci, di, nx, g, -⟩, -⟩ := g
  have n30 := g.2.2.2.2.1.no30
  refine r_ordAt g e ho (some_ok (iOrdR g (by omega)) ?_)
  rw [(g.2.2.2.1.2.2.2.2.2 o ho).2.2.2.2.2.2.2]
  exact hK
theorem t_isOpen (g : PV L T R h hr sb S M) (e : p = nI o) (ho : o < no R) (hK : KI (bi (decide (og R o 4 = 0))) M) : f_X12_isOpen p M KI := by
  unfold f_X12_isOpen
  obtain ⟨⟨ci, di, nx, g, -⟩, -⟩ := g
  have n30 := g.2.2.2.2.1.no30
  refine r_ordAt g e ho (some_ok (iOrdR g (by omega)) ?_)
  rw [(g.2.2.2.1.2.2.2.2.2 o ho).2.2.2.2.2.2.1]
  exact ⟨WO.st g.2.2.2.2.1 ho, rt1 hK⟩
theorem t_isReady (g : PV L T R h hr sb S M) (e : p = nI o) (ho : o < no R) (hK : KI (bi (decide (og R o 4 = 2))) M) : f_X12_isReady p M KI := by
  unfold f_X12_isReady
  obtain ⟨⟨ci, di, nx, g, -⟩, -⟩ := g
  have n30 := g.2.2.2.2.1.no30
  refine r_ordAt g e ho (some_ok (iOrdR g (by omega)) ?_)
  rw [(g.2.2.2.1.2.2.2.2.2 o ho).2.2.2.2.2.2.1]
  exact ⟨WO.st g.2.2.2.2.1 ho, rt1 hK⟩
theorem t_isEaten (g : PV L T R h hr sb S M) (e : p = nI o) (ho : o < no R) (hK : KI (bi (decide (og R o 4 = 3))) M) : f_X12_isEaten p M KI := by
  unfold f_X12_isEaten
  obtain ⟨⟨ci, di, nx, g, -⟩, -⟩ := g
  have n30 := g.2.2.2.2.1.no30
  refine r_ordAt g e ho (some_ok (iOrdR g (by omega)) ?_)
  rw [(g.2.2.2.1.2.2.2.2.2 o ho).2.2.2.2.2.2.1]
  exact ⟨WO.st g.2.2.2.2.1 ho, rt1 hK⟩
theorem t_lockWait (g : PV L T R h hr sb S M) (e : p = nI j) (hj : j < np R - 1) (hK : KI (R (10 + j)) M) : f_X12_lockWait p M KI := by
  unfold f_X12_lockWait
  obtain ⟨⟨ci, di, nx, g, -⟩, -⟩ := g
  have n16 := g.2.2.2.2.1.np16
  refine r_sect g e hj (some_ok (iSecR g (by omega)) ?_)
  rw [(g.2.2.2.1.2.1 j (by omega)).1]
  exact hK
theorem t_bargeInLock (g : PV L T R h hr sb S M) (e : p = nI j) (hj : j < np R - 1) (hK : KI (who R (nI j)) M) : f_X12_bargeInLock p M KI := by
  unfold f_X12_bargeInLock
  obtain ⟨⟨ci, di, nx, g, -⟩, -⟩ := g
  have n16 := g.2.2.2.2.1.np16
  refine r_sect g e hj (some_ok (iSecR g (by omega)) ?_)
  rw [(g.2.2.2.1.2.1 j (by omega)).2.2]
  exact hK
theorem t_usedPairs (g : PV L T R h hr sb S M) (e : p = nI t) (ht : t < np R) (hK : KI (R (40 + t)) M) : f_X12_usedPairs p M KI := by
  unfold f_X12_usedPairs
  obtain ⟨⟨ci, di, nx, g, -⟩, -⟩ := g
  have n16 := g.2.2.2.2.1.np16
  obtain ⟨v1, v2, -⟩ := g.in11
  refine r_place g e ht ?_
  rw [e]
  refine ⟨v1, vp_in_nI (by omega) (by decide), ?_⟩
  rw [v2, nI_clamp (by omega), (g.2.2.2.1.2.2.1 t (by omega)).1]
  exact hK
theorem t_bargesAt (g : PV L T R h hr sb S M) (e : p = nI t) (ht : t < np R) (hK : KI (nI (cAt R p)) M) : f_X12_bargesAt p M KI := by
  unfold f_X12_bargesAt
  obtain ⟨⟨ci, di, nx, g, -⟩, -⟩ := g
  obtain ⟨v1, v2, -⟩ := g.in11
  refine r_place g e ht ⟨v1, ?_⟩
  rw [v2]
  exact c_cAt g.2.2.2.2.1 g.2.2.2.1 hK
theorem t_ordersAt (g : PV L T R h hr sb S M) (e : p = nI t) (ht : t < np R) (hK : KI (nI (cOrd R p)) M) : f_X12_ordersAt p M KI := by
  unfold f_X12_ordersAt
  obtain ⟨⟨ci, di, nx, g, -⟩, -⟩ := g
  obtain ⟨v1, v2, -⟩ := g.in11
  refine r_place g e ht ⟨v1, ?_⟩
  rw [v2]
  exact c_cOrd g.2.2.2.2.1 g.2.2.2.1 hK
theorem t_journeyTime (g : PV L T R h hr sb S M) (e1 : p = nI a) (e2 : q = nI t) (ha : a < np R) (ht : t < np R) (hK : KI (tB R a t) M) : f_X12_journeyTime p q M KI := by
  unfold f_X12_journeyTime
  obtain ⟨⟨ci, di, nx, g, -⟩, -⟩ := g
  obtain ⟨v1, v2, -⟩ := g.in11
  refine r_place g e1 ha (r_place g e2 ht ⟨v1, ?_⟩)
  rw [v2]
  exact c_tB g.2.2.2.2.1 g.2.2.2.1 e1 e2 ha ht hK
theorem t_sailObstacle (g : PV L T R h hr sb S M) (e1 : p = nI b) (e2 : q = nI t) (hb : b < nb R) (ht : t < np R) (hK : KI (obs R b t) M) : f_X12_sailObstacle p q M KI := by
  unfold f_X12_sailObstacle
  obtain ⟨⟨ci, di, nx, g, -⟩, -⟩ := g
  obtain ⟨v1, v2, -⟩ := g.in11
  refine r_barge g e1 hb (r_place g e2 ht ⟨v1, ?_⟩)
  rw [v2]
  exact c_obs g.2.2.2.2.1 g.2.2.2.1 e1 hb e2 ht hK
theorem t_mostUrgentOrder (g : PV L T R h hr sb S M) (hK : KI (urg R) M) : f_X12_mostUrgentOrder M KI := by
  unfold f_X12_mostUrgentOrder
  obtain ⟨⟨ci, di, nx, g, -⟩, -⟩ := g
  obtain ⟨v1, v2, -⟩ := g.in11
  refine ⟨v1, ?_⟩
  rw [v2]
  exact c_urg g.2.2.2.2.1 g.2.2.2.1 hK
theorem t_gap (g : PV L T R h hr sb S M) (hK : KI (absI (R 7 - (sOf R 4 + sOf R 5 + sAt R 40)) + absI (R 5 - sAt R 56)) M) : f_X12_gap M KI := by
  unfold f_X12_gap
  obtain ⟨⟨ci, di, nx, g, -⟩, -⟩ := g
  obtain ⟨v1, v2, -⟩ := g.in11
  refine ⟨v1, ?_⟩
  rw [v2]
  refine c_pgap g.2.2.2.2.1 g.2.2.2.1 ⟨v1, ?_⟩
  rw [v2]
  exact c_bgap g.2.2.2.2.1 g.2.2.2.1 hK
theorem t_undoableCount (g : PV L T R h hr sb S M) (hK : KI (nI h) M) : f_X12_undoableCount M KI := by
  unfold f_X12_undoableCount
  obtain ⟨⟨ci, di, nx, g, g2, -⟩, -⟩ := g
  rw [g2.2.1]
  exact hK
theorem t_queueLength (g : PV L T R h hr sb S M) (e : p = nI b) (hb : b < nb R) (hK : KI (nI (cOf R (nI b) 1)) M) : f_X12_queueLength p M KI := by
  unfold f_X12_queueLength
  obtain ⟨⟨ci, di, nx, g, -⟩, -⟩ := g
  have n5 := g.2.2.2.2.1.nb5
  refine r_bargAt g e hb (some_ok (iBarR g (by omega)) ?_)
  obtain ⟨l, hq, h1, h2⟩ := g.2.2.2.1.2.2.2.2.1 b hb
  rw [h1, hq.len]
  exact hK
theorem t_queuedOrder (g : PV L T R h hr sb S M) (e : p = nI b) (hb : b < nb R) (hK : KI (qd R (nI b) q) M) : f_X12_queuedOrder p q M KI := by
  unfold f_X12_queuedOrder
  obtain ⟨⟨ci, di, nx, g, -⟩, -⟩ := g
  have n5 := g.2.2.2.2.1.nb5
  refine r_bargAt g e hb (some_ok (iBarR g (by omega)) ?_)
  exact c_queuedAt g.2.2.2.2.1 g.2.2.2.1 hb hK
theorem t_readyCount (g : PV L T R h hr sb S M) (e : p = nI b) (hb : b < nb R) (hK : KI (nI (cOf R (nI b) 2)) M) : f_X12_readyCount p M KI := by
  unfold f_X12_readyCount
  obtain ⟨⟨ci, di, nx, g, -⟩, -⟩ := g
  have n5 := g.2.2.2.2.1.nb5
  obtain ⟨v1, v2, -⟩ := g.in11
  refine r_barge g e hb ⟨v1, ?_⟩
  rw [v2, e]
  refine c_held g.2.2.2.2.1 g.2.2.2.1 ?_
  refine r_bargAt g rfl hb (some_ok (iBarR g (by omega)) ?_)
  obtain ⟨l, hq, h1, h2⟩ := g.2.2.2.1.2.2.2.2.1 b hb
  rw [h1, hq.len, cOf_held, nI_sub (by omega), Nat.add_sub_cancel_left]
  exact hK
theorem t_flourNeeded (g : PV L T R h hr sb S M) (e : p = nI b) (hb : b < nb R) (hK : KI (sFl R (nI b)) M) : f_X12_flourNeeded p M KI := by
  unfold f_X12_flourNeeded
  obtain ⟨⟨ci, di, nx, g, -⟩, -⟩ := g
  have n5 := g.2.2.2.2.1.nb5
  obtain ⟨v1, v2, -⟩ := g.in11
  refine ⟨v1, ?_⟩
  refine r_bargAt g e hb (some_ok (iBarR g (by omega)) ?_)
  rw [v2]
  exact c_sFl g.2.2.2.2.1 g.2.2.2.1 hb hK
theorem t_price (g : PV L T R h hr sb S M) (e : p = nI o) (ho : o < no R) (hK : KI (prc R o) M) : f_X12_price p M KI := by
  unfold f_X12_price
  obtain ⟨⟨ci, di, nx, g, -⟩, -⟩ := g
  have n30 := g.2.2.2.2.1.no30
  refine r_ordAt g e ho (some_ok (iOrdR g (by omega)) ?_)
  unfold f_X6_worth
  rw [(g.2.2.2.1.2.2.2.2.2 o ho).2.1, (g.2.2.2.1.2.2.2.2.2 o ho).2.2.1]
  exact hK
theorem t_nearestBarge (g : PV L T R h hr sb S M) (e : p = nI o) (ho : o < no R) (hK : KI (nI (near R (fop R o))) M) : f_X12_nearestBarge p M KI := by
  unfold f_X12_nearestBarge
  obtain ⟨⟨ci, di, nx, g, -⟩, -⟩ := g
  have w := g.2.2.2.2.1
  have n30 := w.no30
  obtain ⟨v1, v2, -⟩ := g.in11
  refine ⟨v1, ?_⟩
  refine r_ordAt g e ho (some_ok (iOrdR g (by omega)) ?_)
  rw [v2, (g.2.2.2.1.2.2.2.2.2 o ho).1]
  have ep := (w.2.2.1 o ho).ePl
  exact c_near w g.2.2.2.1 g.2.2.2.2.2.1 ep.1 ep.2 hK
end TELLR
