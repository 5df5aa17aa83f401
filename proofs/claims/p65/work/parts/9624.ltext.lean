/-! p65: what the law's builder writes: its pieces, their sizes, and that they are what the reader asks for -/
theorem kb_59 : (Int8.ofInt 59).toInt32 = nI 59 := by decide +kernel
/-- a cell of the script, moved down by n bits -/
def cvSh (LL : Nat) (xs : Nat → Int32) (k n : Nat) : Int32 := cv LL xs k >>> (nI n &&& 31)
def lkV (LL : Nat) (xs : Nat → Int32) (k : Nat) : Nat := 1 + mo (cvSh LL xs (1 + k) 2) 4
def brV (LL : Nat) (xs : Nat → Int32) (k : Nat) : Nat := 1 + mo (cvSh LL xs (1 + k) 4) 9
def fsT (LL : Nat) (xs : Nat → Int32) (k : Nat) : List Nat := if mo (cv LL xs (1 + k)) 3 = 0 then tx2 wLk k (lkV LL xs k) else []
def fsU (LL : Nat) (xs : Nat → Int32) (k : Nat) : List Nat := if mo (cvSh LL xs (1 + k) 3) 5 = 0 then tx2 wBr k (brV LL xs k) else []
def fsA (LL : Nat) (xs : Nat → Int32) (k : Nat) : List Nat := fsT LL xs k ++ fsU LL xs k
def fbA (LL : Nat) (xs : Nat → Int32) (np k : Nat) : List Nat := tx4 wBa (mo (cv LL xs (10 + k)) np) (1 + mo (cvSh LL xs (10 + k) 2) 5) (mo (cvSh LL xs (10 + k) 4) 30) (mo (cvSh LL xs (10 + k) 6) 12)
def foA (LL : Nat) (xs : Nat → Int32) (np k : Nat) : List Nat := tx4 wOr (mo (cv LL xs (16 + k)) np) (1 + mo (cvSh LL xs (16 + k) 2) 4) (1 + mo (cvSh LL xs (16 + k) 4) 6) (1 + mo (cvSh LL xs (16 + k) 6) 80)
def NPv (LL : Nat) (xs : Nat → Int32) : Nat := 3 + mo (cv LL xs 0) 6
def nBv (LL : Nat) (xs : Nat → Int32) : Nat := 1 + mo (cvSh LL xs 0 2) 4
def nOv (LL : Nat) (xs : Nat → Int32) : Nat := mo (cvSh LL xs 0 4) 6
section LTX
variable {LL k np n a : Nat} {xs : Nat → Int32} {T w W : List Nat}
theorem lkV_b : 1 ≤ lkV LL xs k ∧ lkV LL xs k ≤ 9 := by
  have := mo_lt (v := cvSh LL xs (1 + k) 2) (n := 4) (by decide)
  unfold lkV
  omega
theorem brV_b : 1 ≤ brV LL xs k ∧ brV LL xs k ≤ 9 := by
  have := mo_lt (v := cvSh LL xs (1 + k) 4) (n := 9) (by decide)
  unfold brV
  omega
theorem NPv_b : 3 ≤ NPv LL xs ∧ NPv LL xs ≤ 8 := by
  have := mo_lt (v := cv LL xs 0) (n := 6) (by decide)
  unfold NPv
  omega
theorem nBv_b : 1 ≤ nBv LL xs ∧ nBv LL xs ≤ 4 := by
  have := mo_lt (v := cvSh LL xs 0 2) (n := 4) (by decide)
  unfold nBv
  omega
theorem nOv_b : nOv LL xs ≤ 5 := by
  have := mo_lt (v := cvSh LL xs 0 4) (n := 6) (by decide)
  unfold nOv
  omega
theorem secF_A (LL : Nat) (xs : Nat → Int32) : SecF (fsA LL xs) := fun k => by
  unfold fsA fsT fsU
  by_cases h1 : mo (cv LL xs (1 + k)) 3 = 0
  · by_cases h2 : mo (cvSh LL xs (1 + k) 3) 5 = 0
    · rw [if_pos h1, if_pos h2]
      exact Or.inr (Or.inr (Or.inr ⟨_, _, lkV_b.1, lkV_b.2, brV_b.1, brV_b.2, rfl⟩))
    · rw [if_pos h1, if_neg h2, List.append_nil]
      exact Or.inr (Or.inl ⟨_, lkV_b.1, lkV_b.2, rfl⟩)
  · by_cases h2 : mo (cvSh LL xs (1 + k) 3) 5 = 0
    · rw [if_neg h1, if_pos h2, List.nil_append]
      exact Or.inr (Or.inr (Or.inl ⟨_, brV_b.1, brV_b.2, rfl⟩))
    · rw [if_neg h1, if_neg h2, List.nil_append]
      exact Or.inl rfl
theorem barF_A (h : 0 < np) : BarF np (fbA LL xs np) := fun k => by
  have a2 := mo_lt (v := cvSh LL xs (10 + k) 2) (n := 5) (by decide)
  have a3 := mo_lt (v := cvSh LL xs (10 + k) 4) (n := 30) (by decide)
  have a4 := mo_lt (v := cvSh LL xs (10 + k) 6) (n := 12) (by decide)
  exact ⟨_, _, _, _, rfl, mo_lt h, by omega, by omega, by omega, by omega⟩
theorem ordF_A (h : 0 < np) : OrdF np (foA LL xs np) := fun k => by
  have a2 := mo_lt (v := cvSh LL xs (16 + k) 2) (n := 4) (by decide)
  have a3 := mo_lt (v := cvSh LL xs (16 + k) 4) (n := 6) (by decide)
  have a4 := mo_lt (v := cvSh LL xs (16 + k) 6) (n := 80) (by decide)
  exact ⟨_, _, _, _, rfl, mo_lt h, by omega, by omega, by omega, by omega, by omega, by omega⟩
theorem fsT_len : (fsT LL xs k).length ≤ 11 := by
  have h1 := dg_l k
  have h2 := dg_l (lkV LL xs k)
  unfold fsT
  split
  · rw [tx2_len]
    have : wLk.length = 4 := rfl
    omega
  · exact Nat.zero_le _
theorem fsU_len : (fsU LL xs k).length ≤ 13 := by
  have h1 := dg_l k
  have h2 := dg_l (brV LL xs k)
  unfold fsU
  split
  · rw [tx2_len]
    have : wBr.length = 6 := rfl
    omega
  · exact Nat.zero_le _
theorem fsA_len : (fsA LL xs k).length ≤ 24 := by
  have h1 := fsT_len (LL := LL) (xs := xs) (k := k)
  have h2 := fsU_len (LL := LL) (xs := xs) (k := k)
  unfold fsA
  rw [List.length_append]
  omega
theorem fbA_len : (fbA LL xs np k).length ≤ 18 := by
  have h1 := dg_l (mo (cv LL xs (10 + k)) np)
  have h2 := dg_l (1 + mo (cvSh LL xs (10 + k) 2) 5)
  have h3 := dg_l (mo (cvSh LL xs (10 + k) 4) 30)
  have h4 := dg_l (mo (cvSh LL xs (10 + k) 6) 12)
  unfold fbA
  rw [tx4_len]
  have : wBa.length = 5 := rfl
  omega
theorem foA_len : (foA LL xs np k).length ≤ 18 := by
  have h1 := dg_l (mo (cv LL xs (16 + k)) np)
  have h2 := dg_l (1 + mo (cvSh LL xs (16 + k) 2) 4)
  have h3 := dg_l (1 + mo (cvSh LL xs (16 + k) 4) 6)
  have h4 := dg_l (1 + mo (cvSh LL xs (16 + k) 6) 80)
  unfold foA
  rw [tx4_len]
  have : wOr.length = 5 := rfl
  omega
theorem ln_a (h : T.length ≤ a) (hw : w.length ≤ 10) : (T ++ w).length ≤ a + 10 := by
  rw [List.length_append]
  omega
theorem tx2_b {k v : Nat} (hW : W = w ++ [32]) : ((((T ++ W) ++ dg k) ++ [32]) ++ dg v) ++ [59] = T ++ tx2 w k v := by
  subst hW
  unfold tx2
  simp only [List.append_assoc, List.cons_append, List.nil_append]
theorem tx4_b {i j k v : Nat} (hW : W = w ++ [32]) : ((((((((T ++ W) ++ dg i) ++ [32]) ++ dg j) ++ [32]) ++ dg k) ++ [32]) ++ dg v) ++ [59] = T ++ tx4 w i j k v := by
  subst hW
  unfold tx4
  simp only [List.append_assoc, List.cons_append, List.nil_append]
theorem catR_s (f : Nat → List Nat) (k n : Nat) : (T ++ f k) ++ catR f (k + 1) n = T ++ catR f k (n + 1) := by
  show _ = T ++ (f k ++ catR f (k + 1) n)
  rw [List.append_assoc]
theorem txAll_b {nb no : Nat} {fs fb fo : Nat → List Nat} : ((((byN 0 ++ dg np) ++ [59]) ++ catR fs 0 (np - 1)) ++ catR fb 0 nb) ++ catR fo 0 no = txAll np nb no fs fb fo := by
  have e : byN 0 = wCa ++ [32] := by decide +kernel
  rw [e]
  unfold txAll
  simp only [List.append_assoc, List.cons_append, List.nil_append]
end LTX
