/-! PURE PART: the class's and the model's meanings agree. Basics: booleans, loops, counts -/
def bi (b : Bool) : Int32 := if b then 1 else 0
theorem bi_T : bi true = 1 := rfl
theorem bi_F : bi false = 0 := rfl
theorem bi_eq {b : Bool} : bi b = 0 ↔ b = false := by cases b <;> decide
theorem bi_ne {b : Bool} : ¬ bi b = 0 ↔ b = true := by cases b <;> decide
theorem bi_nI (b : Bool) : bi b = nI (if b then 1 else 0) := by cases b <;> rfl
theorem bz_bi (b : Bool) : bz (bi b) = bi b := by cases b <;> decide +kernel
/-- a method's boolean answer -/
theorem rt0 {α : Type} {c : Prop} [Decidable c] {K : Int32 → α → Prop} {M : α} (h : K (bi (decide (¬ c))) M) : (c → K 0 M) ∧ (¬ c → K 1 M) :=
  ⟨fun hc => by rw [show (decide (¬ c)) = false by simp [hc], bi_F] at h; exact h, fun hc => by rw [show (decide (¬ c)) = true by simp [hc], bi_T] at h; exact h⟩
theorem rt0' {α : Type} {c : Prop} [Decidable c] {K : Int32 → α → Prop} {M : α} (h : K (bi (decide (¬ c))) M) : (¬ c → K 1 M) ∧ (c → K 0 M) := (rt0 h).symm
theorem rt1 {α : Type} {c : Prop} [Decidable c] {K : Int32 → α → Prop} {M : α} (h : K (bi (decide c)) M) : (¬ c → K 0 M) ∧ (c → K 1 M) :=
  ⟨fun hc => by rw [show decide c = false by simp [hc], bi_F] at h; exact h, fun hc => by rw [show decide c = true by simp [hc], bi_T] at h; exact h⟩
theorem rt1' {α : Type} {c : Prop} [Decidable c] {K : Int32 → α → Prop} {M : α} (h : K (bi (decide c)) M) : (c → K 1 M) ∧ (¬ c → K 0 M) := (rt1 h).symm
/-- a branch on a boolean answer -/
theorem bT {b : Bool} {A B : Prop} (h1 : b = true → A) (h0 : b = false → B) : (¬ bi b = 0 → A) ∧ (bi b = 0 → B) := ⟨fun h => h1 (bi_ne.1 h), fun h => h0 (bi_eq.1 h)⟩
theorem bF {b : Bool} {A B : Prop} (h1 : b = true → A) (h0 : b = false → B) : (bi b = 0 → B) ∧ (¬ bi b = 0 → A) := ⟨fun h => h0 (bi_eq.1 h), fun h => h1 (bi_ne.1 h)⟩
theorem pT {c : Prop} [Decidable c] {A B : Prop} (h1 : c → A) (h0 : ¬ c → B) : (¬ bi (decide c) = 0 → A) ∧ (bi (decide c) = 0 → B) := bT (fun h => h1 (of_decide_eq_true h)) (fun h => h0 (of_decide_eq_false h))
theorem pF {c : Prop} [Decidable c] {A B : Prop} (h1 : c → A) (h0 : ¬ c → B) : (bi (decide c) = 0 → B) ∧ (¬ bi (decide c) = 0 → A) := (pT h1 h0).symm
theorem cT {c A B : Prop} (hc : c) (h : A) : (¬ c → B) ∧ (c → A) := ⟨fun n => absurd hc n, fun _ => h⟩
theorem cT' {c A B : Prop} (hc : c) (h : A) : (c → A) ∧ (¬ c → B) := ⟨fun _ => h, fun n => absurd hc n⟩
theorem cN {c A B : Prop} (hc : ¬ c) (h : A) : (¬ c → A) ∧ (c → B) := ⟨fun _ => h, fun n => absurd n hc⟩
theorem cN' {c A B : Prop} (hc : ¬ c) (h : A) : (c → B) ∧ (¬ c → A) := ⟨fun n => absurd n hc, fun _ => h⟩
/-- loops: n steps are left at place k -/
theorem inv_loop {σ : Type} (L : Nat → σ → Nat → Prop) (I : Nat → σ → Prop) (N : Nat) (hend : ∀ n s, I N s → L (n + 1) s N) (hstep : ∀ n s k, k < N → I k s → (∀ s', I (k + 1) s' → L n s' (k + 1)) → L (n + 1) s k) : ∀ n k s, k + n = N → I k s → L (n + 1) s k := by
  intro n
  induction n with
  | zero => intro k s h hI; obtain rfl : k = N := by omega
            exact hend _ _ hI
  | succ n ih => intro k s h hI; exact hstep _ _ _ (by omega) hI (fun s' h' => ih _ _ (by omega) h')
def fo {α : Type} (f : Nat → α → α) : Nat → α → α
  | 0, a => a
  | n + 1, a => f n (fo f n a)
/-- a loop that changes nothing but its own numbers -/
theorem fo_loop {σ : Type} (L : Nat → σ → Nat → Prop) (f : Nat → σ → σ) (a : σ) (N : Nat) (hend : ∀ n, L (n + 1) (fo f N a) N) (hstep : ∀ n s k, k < N → L n (f k s) (k + 1) → L (n + 1) s k) : ∃ n, L n a 0 :=
  ⟨N + 1, inv_loop L (fun k s => s = fo f k a) N (fun n s h => by rw [h]; exact hend n) (fun n s k hk h c => hstep n s k hk (c _ (by rw [h]; rfl))) N 0 a (Nat.zero_add _) rfl⟩
theorem fo_congr {α : Type} {f g : Nat → α → α} : ∀ n a, (∀ k, k < n → ∀ a, f k a = g k a) → fo f n a = fo g n a := by
  intro n
  induction n with
  | zero => intro a _; rfl
  | succ n ih => intro a h; show f n (fo f n a) = g n (fo g n a); rw [ih a (fun k hk => h k (by omega)), h n (by omega)]
/-- the first that holds -/
def ff (p : Nat → Bool) (n : Nat) : Int32 := ((List.range n).find? p).elim (-1) nI
theorem ff_none {p : Nat → Bool} {n : Nat} (h : ∀ j, j < n → p j = false) : ff p n = -1 := by
  unfold ff
  rw [show (List.range n).find? p = none from List.find?_eq_none.2 (fun x hx => by rw [h x (List.mem_range.1 hx)]; decide)]
  rfl
theorem find_range {p : Nat → Bool} : ∀ n k, k < n → p k = true → (∀ j, j < k → p j = false) → (List.range n).find? p = some k := by
  intro n
  induction n with
  | zero => intro k h; omega
  | succ n ih =>
    intro k hk hp hj
    rw [List.range_succ, List.find?_append]
    by_cases h : k < n
    · rw [ih k h hp hj]; rfl
    · obtain rfl : k = n := by omega
      rw [show (List.range k).find? p = none from List.find?_eq_none.2 (fun x hx => by rw [hj x (List.mem_range.1 hx)]; decide)]
      simp [hp]
theorem ff_some {p : Nat → Bool} {n k : Nat} (hk : k < n) (hp : p k = true) (hj : ∀ j, j < k → p j = false) : ff p n = nI k := by
  unfold ff
  rw [find_range n k hk hp hj]
  rfl
theorem ff_cases (p : Nat → Bool) (n : Nat) : (ff p n = -1 ∧ ∀ j, j < n → p j = false) ∨ ∃ k, k < n ∧ ff p n = nI k ∧ p k = true ∧ ∀ j, j < k → p j = false := by
  induction n with
  | zero => exact Or.inl ⟨rfl, fun j h => by omega⟩
  | succ n ih =>
    rcases ih with ⟨h1, h2⟩ | ⟨k, h1, h2, h3, h4⟩
    · cases hp : p n with
      | true => exact Or.inr ⟨n, by omega, ff_some (by omega) hp h2, hp, h2⟩
      | false =>
        have : ∀ j, j < n + 1 → p j = false := fun j hj => by
          by_cases e : j = n
          · rw [e]; exact hp
          · exact h2 j (by omega)
        exact Or.inl ⟨ff_none this, this⟩
    · exact Or.inr ⟨k, by omega, ff_some (by omega) h3 h4, h3, h4⟩
theorem ff_congr {p q : Nat → Bool} {n : Nat} (h : ∀ k, k < n → p k = q k) : ff p n = ff q n := by
  rcases ff_cases p n with ⟨h1, h2⟩ | ⟨k, h1, h2, h3, h4⟩
  · rw [h1, ff_none (fun j hj => by rw [← h j hj]; exact h2 j hj)]
  · rw [h2, ff_some h1 (by rw [← h k h1]; exact h3) (fun j hj => by rw [← h j (by omega)]; exact h4 j hj)]
/-- how many hold -/
def cn (p : Nat → Bool) : Nat → Nat
  | 0 => 0
  | n + 1 => cn p n + (if p n then 1 else 0)
theorem cn_le (p : Nat → Bool) : ∀ n, cn p n ≤ n := by
  intro n
  induction n with
  | zero => exact Nat.le_refl _
  | succ n ih => unfold cn; split <;> omega
theorem cn_congr {p q : Nat → Bool} : ∀ n, (∀ k, k < n → p k = q k) → cn p n = cn q n := by
  intro n
  induction n with
  | zero => intro _; rfl
  | succ n ih => intro h; unfold cn; rw [ih (fun k hk => h k (by omega)), h n (by omega)]
theorem cn_off {p q : Nat → Bool} : ∀ n i, i < n → (∀ k, k < n → k ≠ i → p k = q k) → p i = false → q i = true → cn q n = cn p n + 1 := by
  intro n
  induction n with
  | zero => intro i h; omega
  | succ n ih =>
    intro i hi h hp hq
    unfold cn
    by_cases e : i = n
    · subst e; rw [cn_congr i (fun k hk => (h k (by omega) (by omega)).symm), hp, hq]; simp
    · rw [ih i (by omega) (fun k hk hne => h k (by omega) hne) hp hq, h n (by omega) (fun e' => e e'.symm)]; omega
theorem cn_split {p q r : Nat → Bool} : ∀ n, (∀ k, k < n → (if p k then 1 else 0) = (if q k then 1 else 0) + (if r k then 1 else 0)) → cn p n = cn q n + cn r n := by
  intro n
  induction n with
  | zero => intro _; rfl
  | succ n ih => intro h; unfold cn; rw [ih (fun k hk => h k (by omega)), h n (by omega)]; omega
theorem cn_filter (p : Nat → Bool) : ∀ n, cn p n = ((List.range n).filter p).length := by
  intro n
  induction n with
  | zero => rfl
  | succ n ih => unfold cn; rw [List.range_succ, List.filter_append, List.length_append, ← ih]; cases h : p n <;> simp [h]
theorem cn_zero {p : Nat → Bool} {n : Nat} (h : ∀ k, k < n → p k = false) : cn p n = 0 := by
  induction n with
  | zero => rfl
  | succ n ih => unfold cn; rw [ih (fun k hk => h k (by omega)), h n (by omega)]; rfl
theorem fo_cn (p : Nat → Bool) (a : Nat) : ∀ n, fo (fun k x => x + bi (p k)) n (nI a) = nI (a + cn p n) := by
  intro n
  induction n with
  | zero => rfl
  | succ n ih => show fo _ n (nI a) + bi (p n) = _; rw [ih, bi_nI, nI_add, Nat.add_assoc]; rfl
/-- small numbers -/
theorem nI_mul (a b : Nat) : nI a * nI b = nI (a * b) := (Int32.ofNat_mul a b).symm
theorem nI_sub {a b : Nat} (h : b ≤ a) : nI a - nI b = nI (a - b) := by
  have e : nI a = nI (a - b) + nI b := by rw [nI_add]; congr 1; omega
  rw [e, Int32.add_sub_cancel]
theorem nI_m1 {a : Nat} (h : a < 2 ^ 31) : ¬ nI a = -1 := fun e => by
  have := nI_toInt h
  rw [e] at this
  have h2 : (-1 : Int32).toInt = -1 := by decide
  omega
theorem nI_inj {a b : Nat} (ha : a < 2 ^ 31) (hb : b < 2 ^ 31) (h : nI a = nI b) : a = b := (nI_eq ha hb).1 h
/-- an answer that lies in a range -/
def inR (p : Int32) (n : Nat) : Bool := decide (0 ≤ p ∧ p < nI n)
theorem inR_of {p : Int32} {n : Nat} (hn : n < 2 ^ 31) (h : inR p n = true) : ∃ j, j < n ∧ p = nI j := by
  have h := of_decide_eq_true h
  obtain ⟨j, hj, rfl⟩ := nI_of (x := p) (by have := h.1; exact fun c => absurd this (Int32.not_le.2 c))
  exact ⟨j, (nI_ltI hj hn).1 h.2, rfl⟩
theorem inR_nI {j n : Nat} (h : j < n) (hn : n < 2 ^ 31) : inR (nI j) n = true := decide_eq_true ⟨nI_pos' (by omega), nI_lt h hn⟩
theorem inR_not {p : Int32} {n : Nat} (hn : n < 2 ^ 31) (h : inR p n = false) : ∀ j, j < n → p ≠ nI j := fun j hj e => by
  rw [e, inR_nI hj hn] at h
  cases h
theorem inR_m1 (n : Nat) : inR (-1) n = false := decide_eq_false (fun h => absurd h.1 (by decide))
/-- the class's test of a range -/
theorem cl_rng {α : Type} {p x : Int32} {n : Nat} {K : Int32 → α → Prop} {M : α} (hx : x = nI n) (h : K (bi (inR p n)) M) : (p < 0 → K 0 M) ∧ (¬ p < 0 → ((x ≤ p → K 0 M) ∧ (¬ x ≤ p → K 1 M))) := by
  subst hx
  refine ⟨fun h0 => ?_, fun h0 => ⟨fun h1 => ?_, fun h1 => ?_⟩⟩
  · rw [show inR p n = false from decide_eq_false (fun c => absurd c.1 (Int32.not_le.2 h0)), bi_F] at h; exact h
  · rw [show inR p n = false from decide_eq_false (fun c => absurd h1 (Int32.not_le.2 c.2)), bi_F] at h; exact h
  · rw [show inR p n = true from decide_eq_true ⟨Int32.not_lt.1 h0, Int32.not_le.1 h1⟩, bi_T] at h; exact h
theorem m_inRange {p a b : Int32} {M : TM} {K : Int32 → TM → Prop} (h : K (bi (decide (a ≤ p ∧ p ≤ b))) M) : f_X13_inRange p a b M K := by
  unfold f_X13_inRange
  refine ⟨fun h0 => ?_, fun h0 => ⟨fun h1 => ?_, fun h1 => ?_⟩⟩
  · rw [show decide (a ≤ p ∧ p ≤ b) = false from decide_eq_false (fun c => absurd c.1 (Int32.not_le.2 h0)), bi_F] at h; exact h
  · rw [show decide (a ≤ p ∧ p ≤ b) = false from decide_eq_false (fun c => absurd c.2 (Int32.not_le.2 h1)), bi_F] at h; exact h
  · rw [show decide (a ≤ p ∧ p ≤ b) = true from decide_eq_true ⟨Int32.not_lt.1 h0, Int32.not_lt.1 h1⟩, bi_T] at h; exact h
theorem le_pred {p : Int32} {n : Nat} (hn : n < 2 ^ 31) : (p ≤ nI n - 1) ↔ p < nI n := by
  rw [Int32.le_iff_toInt_le, Int32.lt_iff_toInt_lt, Int32.toInt_sub, nI_toInt hn, show (1 : Int32).toInt = 1 from rfl]
  rw [show ((n : Int) - 1).bmod (2 ^ 32) = (n : Int) - 1 by rw [Int.bmod_eq_of_le] <;> omega]
  omega
theorem m_inR {p : Int32} {n : Nat} (hn : n < 2 ^ 31) : decide (0 ≤ p ∧ p ≤ nI n - 1) = inR p n := by
  unfold inR
  exact decide_eq_decide.2 (by rw [le_pred hn])
/-- tables of ints -/
theorem uR_uR (M : TM) (k : Nat) (r r' : Nat → Int32) : uR (uR M k r) k r' = uR M k r' := by
  funext i
  by_cases h : i = k
  · subst h; rw [uR_s, uR_s]
  · rw [uR_n h, uR_n h, uR_n h]
theorem uR_id (M : TM) (k : Nat) : uR M k (M k) = M := by
  funext i
  by_cases h : i = k
  · subst h; rw [uR_s]
  · rw [uR_n h]
theorem up_s (f : Nat → Int32) (k : Nat) (x : Int32) : upd f k x k = x := if_pos rfl
theorem up_n {f : Nat → Int32} {k j : Nat} {x : Int32} (h : j ≠ k) : upd f k x j = f j := if_neg h
theorem up_up (f : Nat → Int32) (k : Nat) (x y : Int32) : upd (upd f k x) k y = upd f k y := by
  funext i
  by_cases h : i = k
  · subst h; rw [up_s, up_s]
  · rw [up_n h, up_n h, up_n h]
theorem up_id (f : Nat → Int32) (k : Nat) : upd f k (f k) = f := by
  funext i
  by_cases h : i = k
  · subst h; rw [up_s]
  · rw [up_n h]
theorem u2_uR (M : TM) (r i : Nat) (R : Nat → Int32) (v : Int32) : u2 (uR M r R) r i v = uR M r (upd R i v) := by
  show uR (uR M r R) r (upd ((uR M r R) r) i v) = _
  rw [uR_s, uR_uR]
theorem u2_id (M : TM) (r i : Nat) (v : Int32) : u2 M r i v = uR M r (upd (M r) i v) := rfl
theorem u2_s (M : TM) (k j : Nat) (v : Int32) : (u2 M k j v) k j = v := by
  show (uR M k (upd (M k) j v)) k j = v
  rw [uR_s, up_s]
theorem u2_f {M : TM} {k j i : Nat} {v : Int32} (h : i ≠ j) : (u2 M k j v) k i = M k i := by
  show (uR M k (upd (M k) j v)) k i = _
  rw [uR_s, up_n h]
theorem u2_n {M : TM} {k j i : Nat} {v : Int32} (h : i ≠ k) : (u2 M k j v) i = M i := uR_n h
