/-! THE WORLD: the first nW ad (699: the class's; 702: the law's row, its text and bytes too; up to 707: rows that the law keeps) cells at the addresses ad 0 .., what they hold read off one table of ints M (cell, place) -/
def nW (ad : Nat → Nat) : Nat := ad 1999
/-- how many cells the methods of a class find -/
def Lim (own : String) : Nat := if own = "NoodleCanalLaw" then 702 else 699
theorem Lim_ge (own : String) : 699 ≤ Lim own := by
  unfold Lim
  split <;> decide
theorem lm {own : String} {k : Nat} (h : k < 699) : k < Lim own := Nat.lt_of_lt_of_le h (Lim_ge own)
theorem lmL {k : Nat} (h : k < 702) : k < Lim "NoodleCanalLaw" := Nat.lt_of_lt_of_le h (by decide +kernel)
def uR (M : Nat → Nat → Int32) (k : Nat) (r : Nat → Int32) : Nat → Nat → Int32 := fun i => if i = k then r else M i
abbrev u2 (M : Nat → Nat → Int32) (k j : Nat) (v : Int32) : Nat → Nat → Int32 := uR M k (upd (M k) j v)
theorem uR_s (M : Nat → Nat → Int32) (k : Nat) (r : Nat → Int32) : uR M k r k = r := if_pos rfl
theorem uR_n {M : Nat → Nat → Int32} {k i : Nat} {r : Nat → Int32} (h : i ≠ k) : uR M k r i = M i := if_neg h
/-- a boolean as a cell keeps it -/
def bz (x : Int32) : Int32 := x &&& 1
theorem bz_or (x : Int32) : bz x = 0 ∨ bz x = 1 := by
  have h : ∀ b : BitVec 32, b &&& 1#32 = 0#32 ∨ b &&& 1#32 = 1#32 := by
    intro b
    by_cases hb : b.getLsbD 0 = true
    · right
      apply BitVec.eq_of_getLsbD_eq
      intro i hi
      by_cases h0 : i = 0
      · subst h0; simp [hb]
      · simp [h0]
    · left
      apply BitVec.eq_of_getLsbD_eq
      intro i hi
      by_cases h0 : i = 0
      · subst h0; simp at hb; simp [hb]
      · simp [h0]
  rcases h x.toBitVec with h | h
  · left; exact Int32.toBitVec_inj.mp (by simpa [bz] using h)
  · right; exact Int32.toBitVec_inj.mp (by simpa [bz] using h)
theorem bz_0 : bz 0 = 0 := by decide +kernel
theorem bz_1 : bz 1 = 1 := by decide +kernel
theorem bz_bz (x : Int32) : bz (bz x) = bz x := by rcases bz_or x with h | h <;> rw [h] <;> decide +kernel
theorem bz_fit (x : Int32) : fits .boolean (.int (bz x)) = true := by rcases bz_or x with h | h <;> rw [h] <;> decide +kernel
abbrev ars (f : Nat → Nat) (n : Nat) (t : ClassId) : va_E := .inl (t, n, .inr (.inr (.inr (.inr (fun j => some (f j))))))
abbrev ari (t : ClassId) (n : Nat) (R : Nat → Int32) : va_E := .inl (t, n, .inl R)
abbrev eBarge (ad : Nat → Nat) (k : Nat) (R : Nat → Int32) : va_E := .inr (0, [.int (R 0), .int (R 1), .int (R 2), .int (R 3), .int (R 4), .int (R 5), .int (R 6), .ref (ad (k + 1)), .int (R 8)])
abbrev eCanal (ad : Nat → Nat) (k : Nat) (R : Nat → Int32) : va_E := .inr (1, [.int (R 0), .ref (ad (k + 1)), .ref (ad (k + 2)), .ref (ad (k + 3)), .int (R 4), .ref (ad (k + 4)), .int (R 6), .ref (ad (k + 5)), .int (R 8), .int (R 9), .int (R 10), .int (R 11), .int (R 12), .int (R 13)])
abbrev eCommand (ad : Nat → Nat) (R : Nat → Int32) : va_E := .inr (2, [.ref (ad (2100 + (R 0).toNatClampNeg)), .int (R 1), .int (R 2), .int (R 3), .int (R 4), .int (R 5)])
abbrev eHistory (ad : Nat → Nat) (R : Nat → Int32) : va_E := .inr (3, [.ref (ad 26), .int (R 1), .int (R 2)])
abbrev eOrder (ad : Nat → Nat) (R : Nat → Int32) : va_E := .inr (4, [.int (R 0), .int (R 1), .int (R 2), .int (R 3), .int (R 4), .int (bz (R 5)), .ref (ad (2000 + (R 6).toNatClampNeg)), .int (R 7)])
abbrev eScript (ad : Nat → Nat) (R : Nat → Int32) : va_E := .inr (5, [.ref (ad 4), .int (R 1), .int (R 2)])
abbrev eSection (R : Nat → Int32) : va_E := .inr (6, [.int (R 0), .int (R 1), .int (R 2)])
abbrev eText (ad : Nat → Nat) (R : Nat → Int32) : va_E := .inr (7, [.ref (ad 2), .int (R 1), .int (R 2), .int (R 3), .int (R 4), .int (R 5), .int (R 6), .int (R 7)])
abbrev eMain (ad : Nat → Nat) (R : Nat → Int32) : va_E := .inr (8, [.ref (ad 1), .ref (ad 3), .ref (ad 25), .ref (ad 515), .int (bz (R 4)), .ref (ad (27 + 61 * (R 5).toNatClampNeg)), .ref (ad (27 + 61 * (R 6).toNatClampNeg)), .ref (ad 698), .int (R 8)])
abbrev eStr (ad : Nat → Nat) (R : Nat → Int32) : va_E := .inr (9, [.ref (ad 701), .int (R 1), .int (R 2), .int (bz (R 3))])
/-- a canal's cells: r is the place in its block of 61, k the cell -/
def celC (tc : Nat → ClassId) (ad : Nat → Nat) (k r : Nat) (R : Nat → Int32) : va_E :=
  if r = 0 then eCanal ad k R else if r = 1 then ars (fun j => ad (k + 5 + j)) 15 (tc 3) else if r = 2 then ari (tc 1) 16 R else if r = 3 then ari (tc 1) 16 R
  else if r = 4 then ars (fun j => ad (k + 17 + 2 * j)) 5 (tc 4) else if r = 5 then ars (fun j => ad (k + 26 + j)) 30 (tc 5)
  else if r < 21 then eSection R else if r < 31 then (if r % 2 = 1 then eBarge ad k R else ari (tc 1) 4 R) else eOrder ad R
def cel (tc : Nat → ClassId) (ad : Nat → Nat) (k : Nat) (R : Nat → Int32) : va_E :=
  if k < 27 then
    (if k = 0 then eMain ad R else if k = 1 then eText ad R else if k = 2 then ari (tc 0) 500 R else if k = 3 then eScript ad R else if k = 4 then ars (fun j => ad (5 + j)) 20 (tc 7)
     else if k < 25 then eCommand ad R else if k = 25 then eHistory ad R else ars (fun j => ad (27 + 61 * j)) 8 (tc 6))
  else if k < 698 then celC tc ad k ((k - 27) % 61) R
  else if k = 698 then ari (tc 0) 31 R else if k = 699 then ari (tc 1) 6 R else if k = 700 then eStr ad R else if k = 701 then ari (tc 0) (ad 1701) R
  else ari (tc 1) (ad (1000 + k)) R
def IsCanal (k : Nat) : Prop := ∃ c, c < 11 ∧ k = 27 + 61 * c
def IsSec (k : Nat) : Prop := ∃ c j, c < 11 ∧ j < 15 ∧ k = 27 + 61 * c + 6 + j
def IsBarge (k : Nat) : Prop := ∃ c j, c < 11 ∧ j < 5 ∧ k = 27 + 61 * c + 21 + 2 * j
def IsOrder (k : Nat) : Prop := ∃ c j, c < 11 ∧ j < 30 ∧ k = 27 + 61 * c + 31 + j
def IsCmd (k : Nat) : Prop := 5 ≤ k ∧ k < 25
theorem IsCanal.lt {k : Nat} (h : IsCanal k) : k + 60 < 699 := by obtain ⟨c, h1, rfl⟩ := h; omega
theorem IsSec.lt {k : Nat} (h : IsSec k) : k < 699 := by obtain ⟨c, j, h1, h2, rfl⟩ := h; omega
theorem IsBarge.lt {k : Nat} (h : IsBarge k) : k + 1 < 699 := by obtain ⟨c, j, h1, h2, rfl⟩ := h; omega
theorem IsOrder.lt {k : Nat} (h : IsOrder k) : k < 699 := by obtain ⟨c, j, h1, h2, rfl⟩ := h; omega
theorem IsCmd.lt {k : Nat} (h : IsCmd k) : k < 699 := by have := h.2; omega
section CEL
variable (tc : Nat → ClassId) (ad : Nat → Nat)
theorem cel_mid {k : Nat} (h1 : 27 ≤ k) (h2 : k < 698) (R : Nat → Int32) : cel tc ad k R = celC tc ad k ((k - 27) % 61) R := by
  unfold cel; rw [if_neg (by omega), if_pos h2]
theorem cel_canal {k : Nat} (h : IsCanal k) (R : Nat → Int32) : cel tc ad k R = eCanal ad k R := by
  obtain ⟨c, h1, rfl⟩ := h
  rw [cel_mid tc ad (by omega) (by omega), show (27 + 61 * c - 27) % 61 = 0 by omega]; unfold celC; rw [if_pos rfl]
theorem cel_secs {k : Nat} (h : IsCanal k) (R : Nat → Int32) : cel tc ad (k + 1) R = ars (fun j => ad (k + 6 + j)) 15 (tc 3) := by
  obtain ⟨c, h1, rfl⟩ := h
  rw [cel_mid tc ad (by omega) (by omega), show (27 + 61 * c + 1 - 27) % 61 = 1 by omega]; unfold celC; rw [if_neg (by omega), if_pos rfl]
theorem cel_used {k : Nat} (h : IsCanal k) (R : Nat → Int32) : cel tc ad (k + 2) R = ari (tc 1) 16 R := by
  obtain ⟨c, h1, rfl⟩ := h
  rw [cel_mid tc ad (by omega) (by omega), show (27 + 61 * c + 2 - 27) % 61 = 2 by omega]; unfold celC; rw [if_neg (by omega), if_neg (by omega), if_pos rfl]
theorem cel_eat {k : Nat} (h : IsCanal k) (R : Nat → Int32) : cel tc ad (k + 3) R = ari (tc 1) 16 R := by
  obtain ⟨c, h1, rfl⟩ := h
  rw [cel_mid tc ad (by omega) (by omega), show (27 + 61 * c + 3 - 27) % 61 = 3 by omega]; unfold celC; rw [if_neg (by omega), if_neg (by omega), if_neg (by omega), if_pos rfl]
theorem cel_bars {k : Nat} (h : IsCanal k) (R : Nat → Int32) : cel tc ad (k + 4) R = ars (fun j => ad (k + 21 + 2 * j)) 5 (tc 4) := by
  obtain ⟨c, h1, rfl⟩ := h
  rw [cel_mid tc ad (by omega) (by omega), show (27 + 61 * c + 4 - 27) % 61 = 4 by omega]; unfold celC; rw [if_neg (by omega), if_neg (by omega), if_neg (by omega), if_neg (by omega), if_pos rfl]
theorem cel_ords {k : Nat} (h : IsCanal k) (R : Nat → Int32) : cel tc ad (k + 5) R = ars (fun j => ad (k + 31 + j)) 30 (tc 5) := by
  obtain ⟨c, h1, rfl⟩ := h
  rw [cel_mid tc ad (by omega) (by omega), show (27 + 61 * c + 5 - 27) % 61 = 5 by omega]; unfold celC; rw [if_neg (by omega), if_neg (by omega), if_neg (by omega), if_neg (by omega), if_neg (by omega), if_pos rfl]
theorem cel_sec {k : Nat} (h : IsSec k) (R : Nat → Int32) : cel tc ad k R = eSection R := by
  obtain ⟨c, j, h1, h2, rfl⟩ := h
  rw [cel_mid tc ad (by omega) (by omega), show (27 + 61 * c + 6 + j - 27) % 61 = 6 + j by omega]; unfold celC
  rw [if_neg (by omega), if_neg (by omega), if_neg (by omega), if_neg (by omega), if_neg (by omega), if_neg (by omega), if_pos (by omega)]
theorem cel_barge {k : Nat} (h : IsBarge k) (R : Nat → Int32) : cel tc ad k R = eBarge ad k R := by
  obtain ⟨c, j, h1, h2, rfl⟩ := h
  rw [cel_mid tc ad (by omega) (by omega), show (27 + 61 * c + 21 + 2 * j - 27) % 61 = 21 + 2 * j by omega]; unfold celC
  rw [if_neg (by omega), if_neg (by omega), if_neg (by omega), if_neg (by omega), if_neg (by omega), if_neg (by omega), if_neg (by omega), if_pos (by omega), if_pos (by omega)]
theorem cel_queue {k : Nat} (h : IsBarge k) (R : Nat → Int32) : cel tc ad (k + 1) R = ari (tc 1) 4 R := by
  obtain ⟨c, j, h1, h2, rfl⟩ := h
  rw [cel_mid tc ad (by omega) (by omega), show (27 + 61 * c + 21 + 2 * j + 1 - 27) % 61 = 22 + 2 * j by omega]; unfold celC
  rw [if_neg (by omega), if_neg (by omega), if_neg (by omega), if_neg (by omega), if_neg (by omega), if_neg (by omega), if_neg (by omega), if_pos (by omega), if_neg (by omega)]
theorem cel_order {k : Nat} (h : IsOrder k) (R : Nat → Int32) : cel tc ad k R = eOrder ad R := by
  obtain ⟨c, j, h1, h2, rfl⟩ := h
  rw [cel_mid tc ad (by omega) (by omega), show (27 + 61 * c + 31 + j - 27) % 61 = 31 + j by omega]; unfold celC
  rw [if_neg (by omega), if_neg (by omega), if_neg (by omega), if_neg (by omega), if_neg (by omega), if_neg (by omega), if_neg (by omega), if_neg (by omega)]
theorem cel_cmd {k : Nat} (h : IsCmd k) (R : Nat → Int32) : cel tc ad k R = eCommand ad R := by
  have h1 := h.1; have h2 := h.2
  unfold cel; rw [if_pos (by omega), if_neg (by omega), if_neg (by omega), if_neg (by omega), if_neg (by omega), if_neg (by omega), if_pos h2]
theorem cel_0 (R : Nat → Int32) : cel tc ad 0 R = eMain ad R := rfl
theorem cel_1 (R : Nat → Int32) : cel tc ad 1 R = eText ad R := rfl
theorem cel_2 (R : Nat → Int32) : cel tc ad 2 R = ari (tc 0) 500 R := rfl
theorem cel_3 (R : Nat → Int32) : cel tc ad 3 R = eScript ad R := rfl
theorem cel_4 (R : Nat → Int32) : cel tc ad 4 R = ars (fun j => ad (5 + j)) 20 (tc 7) := rfl
theorem cel_25 (R : Nat → Int32) : cel tc ad 25 R = eHistory ad R := rfl
theorem cel_26 (R : Nat → Int32) : cel tc ad 26 R = ars (fun j => ad (27 + 61 * j)) 8 (tc 6) := rfl
theorem cel_698 (R : Nat → Int32) : cel tc ad 698 R = ari (tc 0) 31 R := rfl
theorem cel_699 (R : Nat → Int32) : cel tc ad 699 R = ari (tc 1) 6 R := rfl
theorem cel_700 (R : Nat → Int32) : cel tc ad 700 R = eStr ad R := rfl
theorem cel_701 (R : Nat → Int32) : cel tc ad 701 R = ari (tc 0) (ad 1701) R := rfl
theorem cel_kept {k : Nat} (h : 702 ≤ k) (R : Nat → Int32) : cel tc ad k R = ari (tc 1) (ad (1000 + k)) R := by
  unfold cel
  rw [if_neg (by omega), if_neg (by omega), if_neg (by omega), if_neg (by omega), if_neg (by omega), if_neg (by omega)]
end CEL
def Wd (tc : Nat → ClassId) (ad : Nat → Nat) (M : Nat → Nat → Int32) : va_W := (List.range (nW ad)).map (fun k => (ad k, cel tc ad k (M k)))
def tysN (tc : Nat → ClassId) : List (ClassId × FieldType) := [(tc 0, .byte), (tc 1, .int), (tc 2, .int), (tc 3, .object "NoodleCanal$Section"), (tc 4, .object "NoodleCanal$Barge"), (tc 5, .object "NoodleCanal$Order"), (tc 6, .object "NoodleCanal$Canal"), (tc 7, .object "NoodleCanal$Command")]
def A0 (ad : Nat → Nat) (sz : Nat) : Nat → Prop := fun q => (∃ k, k < nW ad ∧ q = ad k) ∨ sz ≤ q
def Inj (ad : Nat → Nat) : Prop := ∀ i j, i < nW ad → j < nW ad → ad i = ad j → i = j
theorem Wd_at (tc : Nat → ClassId) (ad : Nat → Nat) (M : Nat → Nat → Int32) {k : Nat} (h : k < nW ad) : (Wd tc ad M)[k]? = some (ad k, cel tc ad k (M k)) := by
  unfold Wd; rw [List.getElem?_map, List.getElem?_range h]; rfl
theorem Wd_set (tc : Nat → ClassId) (ad : Nat → Nat) (M : Nat → Nat → Int32) {k : Nat} (h : k < nW ad) (r : Nat → Int32) : (Wd tc ad M).set k (ad k, cel tc ad k r) = Wd tc ad (uR M k r) := by
  apply List.ext_getElem?
  intro i
  rw [List.getElem?_set]
  by_cases hi : k = i
  · subst hi
    have hl : k < (Wd tc ad M).length := by unfold Wd; simp [h]
    rw [if_pos rfl, if_pos hl, Wd_at tc ad _ h, uR_s]
  · rw [if_neg hi]
    by_cases hl : i < nW ad
    · rw [Wd_at tc ad _ hl, Wd_at tc ad _ hl, uR_n (fun e => hi e.symm)]
    · have : ∀ M, (Wd tc ad M)[i]? = none := fun M => by unfold Wd; simp; omega
      rw [this, this]
theorem Wd_D {tc : Nat → ClassId} {ad : Nat → Nat} (M : Nat → Nat → Int32) (sz : Nat) (hI : Inj ad) : va_D (A0 ad sz) (Wd tc ad M) := by
  have key : ∀ (i : Nat) (p : Nat × va_E), (Wd tc ad M)[i]? = some p → i < nW ad ∧ p.1 = ad i := by
    intro i p h
    by_cases hl : i < nW ad
    · rw [Wd_at tc ad _ hl] at h; exact ⟨hl, by rw [← Option.some.inj h]⟩
    · have : (Wd tc ad M)[i]? = none := by unfold Wd; simp; omega
      rw [this] at h; cases h
  refine ⟨fun i j p q hp hq e => ?_, fun k q hk => ?_⟩
  · obtain ⟨h1, h2⟩ := key i p hp
    obtain ⟨h3, h4⟩ := key j q hq
    exact hI i j h1 h3 (by rw [← h2, ← h4, e])
  · obtain ⟨h1, h2⟩ := key k q hk
    exact Or.inl ⟨k, h1, h2⟩
theorem A0_mono {ad : Nat → Nat} {a b : Nat} (h : a ≤ b) : ∀ q, A0 ad b q → A0 ad a q := fun _ hq => hq.imp_right (fun z => Nat.le_trans h z)
/-! the words: all that the tables say and that stays -/
def TS : List Cond := lw_tbl.filter goodWord
theorem TS_of {w : Cond} (h : w ∈ lw_tbl) (h2 : goodWord w = true) : w ∈ TS := List.mem_filter.mpr ⟨h, h2⟩
theorem TS_good {ws : List Cond} (h : ∀ w ∈ ws, w ∈ TS) : GoodIn TS ws := fun w hw => ⟨h w hw, good_of_word (List.mem_filter.mp (h w hw)).2⟩
theorem TS_self : GoodIn TS TS := TS_good fun _ h => h
def nmO : List String := ["OPEN", "TAKEN", "READY", "EATEN", "EXPIRED"]
def nmV : List String := ["WAIT"]
abbrev adO (ad : Nat → Nat) : Nat → Nat := fun i => ad (2000 + i)
abbrev adV (ad : Nat → Nat) : Nat → Nat := fun i => ad (2107 + i)
/-- what stands beside the world and is never written: the enums' constants -/
def StE (ad : Nat → Nat) (A : Nat → Prop) (U : State) (H : Heap) : Prop :=
  va_En "NoodleCanal$OrderState" "LNoodleCanal$OrderState;" nmO [] (adO ad) A U H ∧ va_En "NoodleCanal$Verb" "LNoodleCanal$Verb;" nmV [] (adV ad) A U H
/-- the texts: their lengths and bytes -/
def nS : Nat := 22
def lenS : List Nat := [6, 5, 5, 7, 6, 6, 4, 4, 4, 5, 4, 6, 5, 111, 33, 15, 13, 13, 13, 12, 16, 4]
def bytS : List (List Int32) := [[99, 97, 110, 97, 108, 32], [111, 114, 100, 101, 114], [108, 111, 99, 107, 32], [98, 114, 105, 100, 103, 101, 32], [98, 97, 114, 103, 101, 32], [111, 114, 100, 101, 114, 32], [108, 111, 99, 107], [108, 111, 99, 107], [108, 111, 99, 107], [99, 97, 110, 97, 108], [108, 111, 99, 107], [98, 114, 105, 100, 103, 101], [98, 97, 114, 103, 101], [99, 97, 110, 97, 108, 32, 54, 59, 108, 111, 99, 107, 32, 49, 32, 51, 59, 98, 114, 105, 100, 103, 101, 32, 51, 32, 52, 59, 108, 111, 99, 107, 32, 52, 32, 50, 59, 98, 97, 114, 103, 101, 32, 48, 32, 51, 32, 49, 48, 32, 54, 59, 98, 97, 114, 103, 101, 32, 50, 32, 53, 32, 52, 32, 50, 59, 111, 114, 100, 101, 114, 32, 50, 32, 50, 32, 51, 32, 50, 48, 59, 111, 114, 100, 101, 114, 32, 53, 32, 49, 32, 49, 32, 51, 48, 59, 111, 114, 100, 101, 114, 32, 49, 32, 51, 32, 50, 32, 49, 53, 59], [110, 111, 116, 32, 116, 104, 97, 116, 32, 109, 97, 110, 121, 32, 98, 121, 116, 101, 115, 32, 105, 110, 32, 116, 104, 101, 32, 98, 117, 102, 102, 101, 114], [110, 111, 32, 115, 117, 99, 104, 32, 115, 101, 99, 116, 105, 111, 110], [110, 111, 32, 115, 117, 99, 104, 32, 112, 108, 97, 99, 101], [110, 111, 32, 115, 117, 99, 104, 32, 98, 97, 114, 103, 101], [110, 111, 32, 115, 117, 99, 104, 32, 111, 114, 100, 101, 114], [111, 117, 116, 32, 111, 102, 32, 114, 97, 110, 103, 101], [110, 111, 116, 32, 112, 111, 115, 115, 105, 98, 108, 101, 32, 110, 111, 119], [108, 111, 99, 107]]
/-- the class files' entries that hold them: class, entry, text's number, text -/
def srefs : List (String × Nat × Nat × String) := [("NoodleCanal", 55, 13, "canal 6;lock 1 3;bridge 3 4;lock 4 2;barge 0 3 10 6;barge 2 5 4 2;order 2 2 3 20;order 5 1 1 30;order 1 3 2 15;"), ("NoodleCanal", 368, 15, "no such section"), ("NoodleCanal", 385, 16, "no such place"), ("NoodleCanal", 390, 17, "no such barge"), ("NoodleCanal", 395, 18, "no such order"), ("NoodleCanal", 399, 14, "not that many bytes in the buffer"), ("NoodleCanal", 402, 19, "out of range"), ("NoodleCanal", 406, 20, "not possible now"), ("NoodleCanal$CanalParser", 9, 9, "canal"), ("NoodleCanal$CanalParser", 42, 10, "lock"), ("NoodleCanal$CanalParser", 51, 11, "bridge"), ("NoodleCanal$CanalParser", 86, 12, "barge"), ("NoodleCanal$CanalParser", 98, 1, "order"), ("NoodleCanalLaw", 196, 0, "canal "), ("NoodleCanalLaw", 208, 2, "lock "), ("NoodleCanalLaw", 213, 3, "bridge "), ("NoodleCanalLaw", 215, 4, "barge "), ("NoodleCanalLaw", 217, 5, "order ")]
def nests : List (String × Nat × MethodName) := [("NoodleCanal", 9, ⟨"NoodleCanal$TextInput", "<init>", "()V"⟩), ("NoodleCanal$Script", 24, ⟨"NoodleCanal$Command", "<init>", "()V"⟩), ("NoodleCanal$Canal", 64, ⟨"NoodleCanal$Section", "<init>", "()V"⟩), ("NoodleCanal$Canal", 65, ⟨"NoodleCanal$Barge", "<init>", "()V"⟩), ("NoodleCanal$Canal", 66, ⟨"NoodleCanal$Order", "<init>", "()V"⟩)]
/-- what the tables say between nest mates -/
def StN (U : State) : Prop := ∀ q ∈ nests, va_Nw (.methodLinkNest q.1 q.2.1 q.2.2 "NoodleCanal") U
theorem StN.same {u U : State} (hvm : U.vm = u.vm) (h : StN u) : StN U := fun q hq => (h q hq).same rfl hvm.symm
theorem StN.warm {u U : State} (hW : u.WarmedH U.vm) (h : StN u) : StN U := fun q hq => va_Nw.warmM hW (h q hq)
def StR (ad : Nat → Nat) (U : State) : Prop := (∀ q ∈ srefs, vk_R q.1 q.2.1 q.2.2.2 (ad (2200 + q.2.2.1)) U) ∧ StN U
/-- the texts, each by itself -/
def tx_S (N : Nat) (len : List Nat) (byt : List (List Int32)) (aK aV : Nat → Nat) (A : Nat → Prop) (U : State) (H : Heap) : Prop := ∀ i, i < N → vk_S 1 [len.getD i 0] [byt.getD i []] (fun _ => aK i) (fun _ => aV i) A U H
theorem tx_S.moved {N : Nat} {len : List Nat} {byt : List (List Int32)} {aK aV : Nat → Nat} {A : Nat → Prop} {u U : State} {H : Heap} (hvm : u.vm.Alike U.vm) (h : tx_S N len byt aK aV A u H) : tx_S N len byt aK aV A U H := fun i hi => (h i hi).moved hvm
theorem tx_S.kept {N : Nat} {len : List Nat} {byt : List (List Int32)} {aK aV : Nat → Nat} {A : Nat → Prop} {U : State} {H H1 : Heap} (h : tx_S N len byt aK aV A U H) (hq : ∀ a : Nat, a < H.size → ¬ A a → H1[a]? = H[a]?) : tx_S N len byt aK aV A U H1 := fun i hi => (h i hi).kept hq
theorem tx_S.narrow {N : Nat} {len : List Nat} {byt : List (List Int32)} {aK aV : Nat → Nat} {A B : Nat → Prop} {U : State} {H : Heap} (h : tx_S N len byt aK aV A U H) (hAB : ∀ q, B q → A q) : tx_S N len byt aK aV B U H := fun i hi => (h i hi).narrow hAB
theorem tx_at {N i : Nat} {len : List Nat} {byt : List (List Int32)} {aK aV : Nat → Nat} {A : Nat → Prop} {U : State} {H : Heap} (h : tx_S N len byt aK aV A U H) (hi : i < N) : va_O "java/lang/String" (aK i) A U H ∧ va_OF "java/lang/String" "coder" "B" (.int 0) (aK i) A U H ∧ va_OF "java/lang/String" "value" "[B" (.ref (aV i)) (aK i) A U H ∧ va_T .byte (aV i) (len.getD i 0) (fun j => .int ((byt.getD i []).getD j 0)) A U H := (h i hi).1 0 Nat.zero_lt_one
/-- the texts, the JDK's statics -/
def StX (ad : Nat → Nat) (A : Nat → Prop) (U : State) (H : Heap) : Prop :=
  tx_S nS lenS bytS (fun i => ad (2200 + i)) (fun i => ad (2300 + i)) A U H ∧
  va_Z "java/lang/String" "COMPACT_STRINGS" "Z" (.int 1) A U H ∧ va_Zq "jdk/internal/util/Preconditions" "SIOOBE_FORMATTER" "Ljava/util/function/BiFunction;" A U H
theorem StX.moved {ad : Nat → Nat} {A : Nat → Prop} {u U : State} {H : Heap} (hvm : u.vm.Alike U.vm) (h : StX ad A u H) : StX ad A U H := ⟨h.1.moved hvm, h.2.1.moved hvm, h.2.2.moved hvm⟩
theorem StX.kept {ad : Nat → Nat} {A : Nat → Prop} {U : State} {H H1 : Heap} (h : StX ad A U H) (hq : ∀ a : Nat, a < H.size → ¬ A a → H1[a]? = H[a]?) : StX ad A U H1 := ⟨h.1.kept hq, h.2.1.kept hq, h.2.2.kept hq⟩
theorem StX.narrow {ad : Nat → Nat} {A B : Nat → Prop} {U : State} {H : Heap} (h : StX ad A U H) (hAB : ∀ q, B q → A q) : StX ad B U H := ⟨h.1.narrow hAB, h.2.1.narrow hAB, h.2.2.narrow hAB⟩
def St (ad : Nat → Nat) (A : Nat → Prop) (U : State) (H : Heap) : Prop := StE ad A U H ∧ StX ad A U H ∧ StR ad U
theorem St.same {ad : Nat → Nat} {A : Nat → Prop} {u U : State} {H : Heap} (hvm : U.vm = u.vm) (h : St ad A u H) : St ad A U H :=
  have ha : u.vm.Alike U.vm := by rw [hvm]; exact Vm.Alike.refl u.vm
  ⟨⟨h.1.1.moved ha, h.1.2.moved ha⟩, h.2.1.moved ha, fun q hq => (h.2.2.1 q hq).same hvm, h.2.2.2.same hvm⟩
theorem St.warm {ad : Nat → Nat} {A : Nat → Prop} {u U : State} {H : Heap} (hW : u.WarmedH U.vm) (h : St ad A u H) : St ad A U H := ⟨⟨h.1.1.moved hW.alike, h.1.2.moved hW.alike⟩, h.2.1.moved hW.alike, fun q hq => (h.2.2.1 q hq).warm hW, h.2.2.2.warm hW⟩
theorem St.kept {ad : Nat → Nat} {A : Nat → Prop} {U : State} {H H1 : Heap} (h : St ad A U H) (hq : ∀ a : Nat, a < H.size → ¬ A a → H1[a]? = H[a]?) : St ad A U H1 := ⟨⟨h.1.1.kept hq, h.1.2.kept hq⟩, h.2.1.kept hq, h.2.2⟩
theorem St.narrow {ad : Nat → Nat} {A B : Nat → Prop} {U : State} {H : Heap} (h : St ad A U H) (hAB : ∀ q, B q → A q) : St ad B U H := ⟨⟨h.1.1.narrow hAB, h.1.2.narrow hAB⟩, h.2.1.narrow hAB, h.2.2⟩
/-- a method's start -/
def PreW (D : va_G) (tc : Nat → ClassId) (ad : Nat → Nat) (M : Nat → Nat → Int32) (U : State) : Prop :=
  va_P D vwCl (Wd tc ad M) U.heap ∧ va_K D vwCl (tysN tc) U ∧ Inj ad ∧ St ad (A0 ad U.heap.size) U U.heap
def rmD (d : Nat) : Room := { frames := d, cells := 0, slots := 0, locals := 40 * d }
def EndW (D : va_G) (tc : Nat → ClassId) (ad : Nat → Nat) : (Nat → Nat → Int32) → State → Prop := fun M t => va_P D vwCl (Wd tc ad M) t.heap
/-- contracts of methods that neither throw nor make cells: an int answer, none, a cell of the world -/
def MI (y : MethodName) (bytes : ByteArray) (maxL : Nat) (ret : Option FieldType) (d : Nat) (ad : Nat → Nat) (av : List Value) (M : Nat → Nat → Int32) (K : Int32 → (Nat → Nat → Int32) → Prop) : Prop :=
  Lim y.cls ≤ nW ad → ∀ (l : Launch) (D : va_G) (tc : Nat → ClassId) (sz : Nat), Met l y (Cond.code y bytes maxL ret :: TS) (rmD d) (va_Pc av (fun U => U.heap.size = sz ∧ PreW D tc ad M U)) (va_Qi K (EndW D tc ad) (A0 ad sz)) 0 0 (A0 ad sz)
def MV (y : MethodName) (bytes : ByteArray) (maxL : Nat) (d : Nat) (ad : Nat → Nat) (av : List Value) (M : Nat → Nat → Int32) (K : (Nat → Nat → Int32) → Prop) : Prop :=
  Lim y.cls ≤ nW ad → ∀ (l : Launch) (D : va_G) (tc : Nat → ClassId) (sz : Nat), Met l y (Cond.code y bytes maxL none :: TS) (rmD d) (va_Pc av (fun U => U.heap.size = sz ∧ PreW D tc ad M U)) (va_Qv K (EndW D tc ad) (A0 ad sz)) 0 0 (A0 ad sz)
/-- the fixed facts of a walk -/
def Ev (p : Program) (s : State) (m : MethodId) (args : Array Value) (meth : Method) (c : Code) (D : va_G) (tc : Nat → ClassId) (ad : Nat → Nat) (own : String) (cc : ByteArray) (nL : Nat) : Prop :=
  p.tables.exec = Jvm.exec ∧ c.code = cc ∧ c.maxLocals = nL ∧ s.vm.findClass own = some m.cls ∧ (∀ w ∈ TS, w.before args s = true) ∧ va_K D vwCl (tysN tc) s ∧ Inj ad ∧ St ad (A0 ad s.heap.size) s s.heap ∧ meth.locks = false ∧ Lim own ≤ nW ad
def Wa (p : Program) (l : Launch) (e : Env) (R : Room) (s : State) (m : MethodId) (args : Array Value) (below : List Frame) (meth : Method) (c : Code) (cells slots : Nat) (Q : State → Prop) (D : va_G) (tc : Nat → ClassId) (ad : Nat → Nat) (nL : Nat) (M : Nat → Nat → Int32) (pc : Nat) (L : List (Nat × Value)) (st : List Value) : Prop :=
  ∀ (H : Heap) (locs : List Loc) (ls : Array Slot), va_P D vwCl (Wd tc ad M) H → va_S (A0 ad s.heap.size) s.heap H locs → lv_has ls nL L → W p l e R s m args below meth c H locs cells slots Q (F0 m pc ls st)
