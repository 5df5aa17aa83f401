/-! p65: the law's text is of letters below 128; the text as a row that goes on with spaces -/
def AscL (l : List Nat) : Prop := ∀ c ∈ l, c < 128
section ASC
variable {LL k np n v : Nat} {xs : Nat → Int32} {a b w : List Nat} {f : Nat → List Nat}
theorem asc_nil : AscL [] := fun _ h => absurd h List.not_mem_nil
theorem asc_app (h1 : AscL a) (h2 : AscL b) : AscL (a ++ b) := fun c hc => (List.mem_append.mp hc).elim (h1 c) (h2 c)
theorem asc_cons (h1 : v < 128) (h2 : AscL a) : AscL (v :: a) := fun c hc => (List.mem_cons.mp hc).elim (fun e => by rw [e]; exact h1) (h2 c)
theorem asc_dg (h : v < 100) : AscL (dg v) := by
  unfold dg
  split
  · exact asc_cons (by omega) asc_nil
  · exact asc_cons (by omega) (asc_cons (by omega) asc_nil)
theorem asc_tx2 (hw : AscL w) (hk : k < 100) (hv : v < 100) : AscL (tx2 w k v) := asc_app hw (asc_cons (by decide) (asc_app (asc_dg hk) (asc_cons (by decide) (asc_app (asc_dg hv) (asc_cons (by decide) asc_nil)))))
theorem asc_tx4 {i j : Nat} (hw : AscL w) (hi : i < 100) (hj : j < 100) (hk : k < 100) (hv : v < 100) : AscL (tx4 w i j k v) := asc_app hw (asc_cons (by decide) (asc_app (asc_dg hi) (asc_cons (by decide) (asc_app (asc_dg hj) (asc_cons (by decide) (asc_app (asc_dg hk) (asc_cons (by decide) (asc_app (asc_dg hv) (asc_cons (by decide) asc_nil)))))))))
theorem asc_cat : ∀ n k, (∀ j, j < k + n → AscL (f j)) → AscL (catR f k n) := by
  intro n
  induction n with
  | zero => exact fun k h => asc_nil
  | succ n ih => exact fun k h => asc_app (h k (by omega)) (ih (k + 1) (fun j hj => h j (by omega)))
theorem asc_fsA (hk : k < 100) : AscL (fsA LL xs k) := by
  have h1 := lkV_b (LL := LL) (xs := xs) (k := k)
  have h2 := brV_b (LL := LL) (xs := xs) (k := k)
  refine asc_app ?_ ?_
  · unfold fsT
    split
    · exact asc_tx2 (by unfold AscL; decide) hk (by omega)
    · exact asc_nil
  · unfold fsU
    split
    · exact asc_tx2 (by unfold AscL; decide) hk (by omega)
    · exact asc_nil
theorem asc_fbA (h0 : 0 < np) (h8 : np ≤ 8) : AscL (fbA LL xs np k) := by
  have a1 := mo_lt (v := cv LL xs (10 + k)) (n := np) h0
  have a2 := mo_lt (v := cvSh LL xs (10 + k) 2) (n := 5) (by decide)
  have a3 := mo_lt (v := cvSh LL xs (10 + k) 4) (n := 30) (by decide)
  have a4 := mo_lt (v := cvSh LL xs (10 + k) 6) (n := 12) (by decide)
  exact asc_tx4 (by unfold AscL; decide) (by omega) (by omega) (by omega) (by omega)
theorem asc_foA (h0 : 0 < np) (h8 : np ≤ 8) : AscL (foA LL xs np k) := by
  have a1 := mo_lt (v := cv LL xs (16 + k)) (n := np) h0
  have a2 := mo_lt (v := cvSh LL xs (16 + k) 2) (n := 4) (by decide)
  have a3 := mo_lt (v := cvSh LL xs (16 + k) 4) (n := 6) (by decide)
  have a4 := mo_lt (v := cvSh LL xs (16 + k) 6) (n := 80) (by decide)
  exact asc_tx4 (by unfold AscL; decide) (by omega) (by omega) (by omega) (by omega)
theorem asc_TA : AscL (txAll (NPv LL xs) (nBv LL xs) (nOv LL xs) (fsA LL xs) (fbA LL xs (NPv LL xs)) (foA LL xs (NPv LL xs))) := by
  have hNP := NPv_b (LL := LL) (xs := xs)
  have hnB := nBv_b (LL := LL) (xs := xs)
  have hnO := nOv_b (LL := LL) (xs := xs)
  refine asc_app (by unfold AscL; decide) (asc_cons (by decide) (asc_app (asc_dg (by omega)) (asc_cons (by decide) (asc_app ?_ (asc_app ?_ ?_)))))
  · exact asc_cat _ _ (fun j hj => asc_fsA (by omega))
  · exact asc_cat _ _ (fun j hj => asc_fbA (by omega) hNP.2)
  · exact asc_cat _ _ (fun j hj => asc_foA (by omega) hNP.2)
/-- the text, then spaces -/
def Xt (l : List Nat) (i : Nat) : Nat := if i < l.length then l.getD i 0 else 32
theorem Xt_lt (h : AscL a) (i : Nat) : Xt a i < 128 := by
  unfold Xt
  split
  · rename_i hi
    rw [List.getD_eq_getElem?_getD, List.getElem?_eq_getElem hi]
    exact h _ (List.getElem_mem hi)
  · decide
theorem Xt_at {i : Nat} (hi : i < a.length) : Xt a i = a.getD i 0 := if_pos hi
theorem Xt_sp {i : Nat} (hi : a.length ≤ i) : Xt a i = 32 := if_neg (Nat.not_lt.mpr hi)
theorem Xt_Sf : Sf (Xt a) a.length 0 a := ⟨Nat.zero_add _, fun i hi => by rw [Nat.zero_add]; exact if_pos hi⟩
end ASC
