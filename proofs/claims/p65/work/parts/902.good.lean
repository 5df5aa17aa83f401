/-! p65: sums; chopsticks are kept, orders are as they were told -/
def sN (f : Nat → Nat) : Nat → Nat
  | 0 => 0
  | n + 1 => sN f n + f n
theorem sN_congr {f g : Nat → Nat} : ∀ n, (∀ k, k < n → f k = g k) → sN f n = sN g n := by
  intro n
  induction n with
  | zero => intro _; rfl
  | succ n ih => intro h; unfold sN; rw [ih (fun k hk => h k (by omega)), h n (by omega)]
theorem sN_one {f g : Nat → Nat} {i : Nat} : ∀ n, i < n → (∀ k, k < n → k ≠ i → g k = f k) → sN g n + f i = sN f n + g i := by
  intro n
  induction n with
  | zero => intro h; omega
  | succ n ih =>
    intro hi h
    unfold sN
    by_cases e : i = n
    · subst e
      rw [sN_congr i (fun k hk => h k (by omega) (by omega))]
      omega
    · have := ih (by omega) (fun k hk hn => h k (by omega) hn)
      rw [h n (by omega) (fun e' => e e'.symm)]
      omega
theorem sN_mem {f : Nat → Nat} {i : Nat} : ∀ n, i < n → f i ≤ sN f n := by
  intro n
  induction n with
  | zero => intro h; omega
  | succ n ih =>
    intro hi
    unfold sN
    by_cases e : i = n
    · subst e; omega
    · have := ih (by omega); omega
theorem sN_le {f : Nat → Nat} {c : Nat} : ∀ n, (∀ k, k < n → f k ≤ c) → sN f n ≤ n * c := by
  intro n
  induction n with
  | zero => intro _; exact Nat.zero_le _
  | succ n ih => intro h; unfold sN; rw [Nat.succ_mul]; have := ih (fun k hk => h k (by omega)); have := h n (by omega); omega
theorem sN_zero {f : Nat → Nat} : ∀ n, (∀ k, k < n → f k = 0) → sN f n = 0 := by
  intro n
  induction n with
  | zero => intro _; rfl
  | succ n ih => intro h; unfold sN; rw [ih (fun k hk => h k (by omega)), h n (by omega)]
theorem sN_add {f g : Nat → Nat} : ∀ n, sN (fun k => f k + g k) n = sN f n + sN g n := by
  intro n
  induction n with
  | zero => rfl
  | succ n ih => unfold sN; rw [ih]; omega
theorem sN_tail {f : Nat → Nat} {n : Nat} : ∀ m, n ≤ m → (∀ k, n ≤ k → k < m → f k = 0) → sN f m = sN f n := by
  intro m
  induction m with
  | zero => intro h _; rw [show n = 0 by omega]
  | succ m ih =>
    intro h hz
    by_cases e : n = m + 1
    · rw [e]
    · show sN f m + f m = _; rw [ih (by omega) (fun k h1 h2 => hz k h1 (by omega)), hz m (by omega) (by omega)]; rfl
theorem cn_sN (p : Nat → Bool) : ∀ n, cn p n = sN (fun k => if p k then 1 else 0) n := by
  intro n
  induction n with
  | zero => rfl
  | succ n ih => unfold cn sN; rw [ih]
theorem sN_swap {f : Nat → Nat → Nat} (n : Nat) : ∀ m, sN (fun i => sN (fun j => f i j) n) m = sN (fun j => sN (fun i => f i j) m) n := by
  intro m
  induction m with
  | zero => exact (sN_zero n (fun _ _ => rfl)).symm
  | succ m ih => show sN _ m + sN (fun j => f m j) n = sN (fun j => sN (fun i => f i j) m + f m j) n; rw [ih, sN_add]
/-- a sum of ints that are small numbers -/
theorem fo_sN {f : Nat → Int32} {g : Nat → Nat} : ∀ n, (∀ k, k < n → f k = nI (g k)) → ∀ a, fo (fun k x => x + f k) n (nI a) = nI (a + sN g n) := by
  intro n
  induction n with
  | zero => intro _ a; rfl
  | succ n ih => intro h a; show fo _ n (nI a) + f n = _; rw [ih (fun k hk => h k (by omega)), h n (by omega), nI_add, Nat.add_assoc]; rfl
def cl (R : Nat → Int32) (b : Nat) : Nat := (bg R b 4).toNatClampNeg
def dt (R : Nat → Int32) (b : Nat) : Nat := (bg R b 5).toNatClampNeg
def us (R : Nat → Int32) (t : Nat) : Nat := (R (40 + t)).toNatClampNeg
def ea (R : Nat → Int32) (t : Nat) : Nat := (R (56 + t)).toNatClampNeg
def bw (R : Nat → Int32) (o : Nat) : Nat := (og R o 1).toNatClampNeg
def eb (R : Nat → Int32) : Nat := sN (fun o => if og R o 4 = 3 then bw R o else 0) (no R)
/-- flour, chopsticks -/
def GA (P : Nat) (R : Nat → Int32) : Prop := (∀ b, b < nb R → ∃ f, f ≤ 99 ∧ bg R b 3 = nI f) ∧ (∀ b, b < nb R → bg R b 4 = nI (cl R b) ∧ bg R b 5 = nI (dt R b)) ∧ (∀ t, t < 16 → R (40 + t) = nI (us R t)) ∧ sN (fun b => cl R b + dt R b) (nb R) + sN (us R) 16 = P ∧ R 7 = nI P ∧ P ≤ 1000
/-- an order -/
def OK1 (m : Nat) (R : Nat → Int32) (o : Nat) : Prop := ∃ b u l d : Nat, (1 ≤ b ∧ b ≤ 4) ∧ (1 ≤ u ∧ u ≤ 6) ∧ l ≤ 6 ∧ d < 20000 ∧ og R o 1 = nI b ∧ og R o 2 = nI u ∧ og R o 7 = nI l ∧ og R o 3 = nI d ∧ (og R o 4 = 0 → og R o 6 = 0 ∧ l = u) ∧ (og R o 4 = 1 → (og R o 6 = 0 ∧ l = u) ∨ (og R o 6 = 1 ∧ 1 ≤ l)) ∧ (og R o 4 = 2 ∨ og R o 4 = 3 → l = 0) ∧ (alive R o = true → m ≤ d)
/-- what was eaten -/
def GE (R : Nat → Int32) : Prop := R 5 = nI (eb R) ∧ (∀ t, t < 16 → R (56 + t) = nI (ea R t)) ∧ sN (ea R) 16 = eb R
def GO (m : Nat) (R : Nat → Int32) : Prop := (∀ o, o < no R → OK1 m R o) ∧ GE R
/-- who is in a lock stays there no longer than its time -/
def GL (R : Nat → Int32) : Prop := ∀ b j, b < nb R → j < 15 → inL R b = true → ahead R b = nI j → bg R b 6 ≤ R (10 + j)
def Gd (P m : Nat) (R : Nat → Int32) : Prop := GA P R ∧ (GO m R ∧ R 0 = nI m) ∧ GL R
section GOOD
variable {T P m i k v' b d o t f x j : Nat} {R R' : Nat → Int32} {p q u v : Int32}
def Kp (i : Nat) : Prop := i = 2 ∨ i = 7 ∨ (40 ≤ i ∧ i < 56) ∨ (72 ≤ i ∧ i < 107 ∧ 3 ≤ (i - 72) % 7 ∧ (i - 72) % 7 ≤ 5)
def Ko (i : Nat) : Prop := i = 3 ∨ i = 5 ∨ (56 ≤ i ∧ i < 72) ∨ (107 ≤ i ∧ i < 377 ∧ (i - 107) % 9 ≠ 0 ∧ (i - 107) % 9 ≠ 5 ∧ (i - 107) % 9 ≠ 8)
theorem GA.same (g : GA P R) (n5 : nb R ≤ 5) (h : ∀ i, Kp i → R' i = R i) : GA P R' := by
  obtain ⟨a1, a2, a3, a4, a5, a6⟩ := g
  have en : nb R' = nb R := by unfold nb; rw [h 2 (Or.inl rfl)]
  have e : ∀ b f, b < nb R → 3 ≤ f → f ≤ 5 → bg R' b f = bg R b f := fun b f hb h1 h2 => h _ (Or.inr (Or.inr (Or.inr ⟨by omega, by omega, by omega, by omega⟩)))
  have ec : ∀ b, b < nb R → cl R' b = cl R b := fun b hb => by unfold cl; rw [e b 4 hb (by decide) (by decide)]
  have ed : ∀ b, b < nb R → dt R' b = dt R b := fun b hb => by unfold dt; rw [e b 5 hb (by decide) (by decide)]
  have eu : ∀ t, t < 16 → R' (40 + t) = R (40 + t) := fun t ht => h _ (Or.inr (Or.inr (Or.inl ⟨by omega, by omega⟩)))
  have eu2 : ∀ t, t < 16 → us R' t = us R t := fun t ht => by unfold us; rw [eu t ht]
  unfold GA
  rw [en, h 7 (Or.inr (Or.inl rfl)), sN_congr _ (fun b hb => show cl R' b + dt R' b = cl R b + dt R b by rw [ec b hb, ed b hb]), sN_congr 16 eu2]
  refine ⟨fun b hb => ?_, fun b hb => ?_, fun t ht => ?_, a4, a5, a6⟩
  · rw [e b 3 hb (by decide) (by decide)]; exact a1 b hb
  · rw [e b 4 hb (by decide) (by decide), e b 5 hb (by decide) (by decide), ec b hb, ed b hb]; exact a2 b hb
  · rw [eu t ht, eu2 t ht]; exact a3 t ht
theorem OK1.same (g : OK1 m R o) (h : ∀ f, f < 9 → f ≠ 0 → f ≠ 5 → f ≠ 8 → og R' o f = og R o f) : OK1 m R' o := by
  unfold OK1 alive
  rw [h 1 (by decide) (by decide) (by decide) (by decide), h 2 (by decide) (by decide) (by decide) (by decide), h 3 (by decide) (by decide) (by decide) (by decide), h 4 (by decide) (by decide) (by decide) (by decide), h 6 (by decide) (by decide) (by decide) (by decide), h 7 (by decide) (by decide) (by decide) (by decide)]
  exact g
theorem eb_same (hn : no R' = no R) (h : ∀ o, o < no R → og R' o 1 = og R o 1 ∧ (og R' o 4 = 3 ↔ og R o 4 = 3)) : eb R' = eb R := by
  unfold eb
  rw [hn]
  refine sN_congr _ (fun o ho => ?_)
  have e1 : bw R' o = bw R o := by unfold bw; rw [(h o ho).1]
  rw [e1]
  by_cases c : og R o 4 = 3
  · rw [if_pos c, if_pos ((h o ho).2.2 c)]
  · rw [if_neg c, if_neg (fun z => c ((h o ho).2.1 z))]
theorem GE.same (g : GE R) (he : eb R' = eb R) (h5 : R' 5 = R 5) (h56 : ∀ t, t < 16 → R' (56 + t) = R (56 + t)) : GE R' := by
  obtain ⟨a1, a2, a3⟩ := g
  have ee : ∀ t, t < 16 → ea R' t = ea R t := fun t ht => by unfold ea; rw [h56 t ht]
  unfold GE
  rw [he, h5, sN_congr 16 ee]
  exact ⟨a1, fun t ht => by rw [h56 t ht, ee t ht]; exact a2 t ht, a3⟩
theorem GO.same (g : GO m R) (n30 : no R ≤ 30) (h : ∀ i, Ko i → R' i = R i) : GO m R' := by
  have en : no R' = no R := by unfold no; rw [h 3 (Or.inl rfl)]
  have e : ∀ o, o < no R → ∀ f, f < 9 → f ≠ 0 → f ≠ 5 → f ≠ 8 → og R' o f = og R o f := fun o ho f h1 h2 h3 h4 => h _ (Or.inr (Or.inr (Or.inr ⟨by omega, by omega, by omega, by omega, by omega⟩)))
  refine ⟨fun o ho => ?_, g.2.same (eb_same en (fun o ho => ⟨e o ho 1 (by decide) (by decide) (by decide) (by decide), by rw [e o ho 4 (by decide) (by decide) (by decide) (by decide)]⟩)) (h 5 (Or.inr (Or.inl rfl))) (fun t ht => h _ (Or.inr (Or.inr (Or.inl ⟨by omega, by omega⟩))))⟩
  rw [en] at ho
  exact (g.1 o ho).same (e o ho)
theorem GL.same (g : GL R) (n5 : nb R ≤ 5) (h : Sm R R') : GL R' := by
  intro b j hb hj hi ha
  have en : nb R' = nb R := by unfold nb; rw [h 2 (Or.inl rfl)]
  rw [en] at hb
  have e : ∀ f, f = 0 ∨ f = 1 ∨ f = 6 → bg R' b f = bg R b f := fun f hf => h.fb (by omega) hf
  have e1 : inL R' b = inL R b := by unfold inL; rw [e 6 (by omega)]
  have e2 : ahead R' b = ahead R b := by unfold ahead; rw [e 0 (by omega), e 1 (by omega)]
  rw [e1] at hi
  rw [e2] at ha
  rw [e 6 (by omega), h (10 + j) (Or.inr (Or.inl ⟨by omega, by omega⟩))]
  exact g b j hb hj hi ha
theorem aSail_i (h : i ≠ 72 + 7 * b + 1) : aSail R b q i = R i := by unfold aSail sB; exact up_n h
theorem aFlour_i (h : i ≠ 72 + 7 * b + 3) (h4 : i ≠ 4) : aFlour R b q i = R i := by unfold aFlour sB; rw [up_n h4, up_n h]
theorem aGather_i (h : i ≠ 72 + 7 * b + 5) (h4 : i ≠ 40 + pl R b) : aGather R b i = R i := by unfold aGather sB; rw [up_n h4, up_n h]
theorem aWash_i (h : i ≠ 72 + 7 * b + 4) (h4 : i ≠ 72 + 7 * b + 5) : aWash R b i = R i := by unfold aWash sB; rw [up_n h4, up_n h]
/-- sail -/
theorem GL.sail (g : GL R) (n5 : nb R ≤ 5) (hb : b < nb R) (hi : inL R b = false) : GL (aSail R b q) := by
  intro d j hd hj hl ha
  have en : nb (aSail R b q) = nb R := by unfold nb aSail sB; rw [up_n (by omega)]
  rw [en] at hd
  by_cases e : d = b
  · subst e
    have e6 : inL (aSail R d q) d = inL R d := by unfold inL; rw [show bg (aSail R d q) d 6 = bg R d 6 from up_n (by omega)]
    rw [e6, hi] at hl
    cases hl
  · have e0 : ∀ f, f < 7 → bg (aSail R b q) d f = bg R d f := fun f hf => up_n (by omega)
    have e1 : inL (aSail R b q) d = inL R d := by unfold inL; rw [e0 6 (by decide)]
    have e2 : ahead (aSail R b q) d = ahead R d := by unfold ahead; rw [e0 0 (by decide), e0 1 (by decide)]
    rw [e1] at hl
    rw [e2] at ha
    rw [e0 6 (by decide), show aSail R b q (10 + j) = R (10 + j) from up_n (by omega)]
    exact g d j hd hj hl ha
theorem gd_sail (g : Gd P m R) (w : WF T R) (hb : b < nb R) (hi : inL R b = false) : Gd P m (aSail R b q) := by
  have n5 := w.nb5
  have n30 := w.no30
  refine ⟨g.1.same n5 (fun i hi => aSail_i ?_), ⟨g.2.1.1.same n30 (fun i hi => aSail_i ?_), ?_⟩, g.2.2.sail n5 hb hi⟩
  · unfold Kp at hi; omega
  · unfold Ko at hi; omega
  · rw [aSail_i (by omega)]; exact g.2.1.2
/-- flour -/
theorem GA.flour (g : GA P R) (n5 : nb R ≤ 5) (hb : b < nb R) (hf : f ≤ 99) (h3 : bg R' b 3 = nI f) (h : ∀ i, i ≠ 72 + 7 * b + 3 → Kp i → R' i = R i) : GA P R' := by
  obtain ⟨a1, a2, a3, a4, a5, a6⟩ := g
  have en : nb R' = nb R := by unfold nb; rw [h 2 (by omega) (Or.inl rfl)]
  have e : ∀ d f, d < nb R → 3 ≤ f → f ≤ 5 → (d ≠ b ∨ f ≠ 3) → bg R' d f = bg R d f := fun d f hd h1 h2 h4 => h _ (by omega) (Or.inr (Or.inr (Or.inr ⟨by omega, by omega, by omega, by omega⟩)))
  have ec : ∀ d, d < nb R → cl R' d = cl R d := fun d hd => by unfold cl; rw [e d 4 hd (by decide) (by decide) (by omega)]
  have ed : ∀ d, d < nb R → dt R' d = dt R d := fun d hd => by unfold dt; rw [e d 5 hd (by decide) (by decide) (by omega)]
  have eu : ∀ t, t < 16 → R' (40 + t) = R (40 + t) := fun t ht => h _ (by omega) (Or.inr (Or.inr (Or.inl ⟨by omega, by omega⟩)))
  have eu2 : ∀ t, t < 16 → us R' t = us R t := fun t ht => by unfold us; rw [eu t ht]
  unfold GA
  rw [en, h 7 (by omega) (Or.inr (Or.inl rfl)), sN_congr _ (fun b hb => show cl R' b + dt R' b = cl R b + dt R b by rw [ec b hb, ed b hb]), sN_congr 16 eu2]
  refine ⟨fun d hd => ?_, fun d hd => ?_, fun t ht => ?_, a4, a5, a6⟩
  · by_cases ed : d = b
    · subst ed; exact ⟨f, hf, h3⟩
    · rw [e d 3 hd (by decide) (by decide) (Or.inl ed)]; exact a1 d hd
  · rw [e d 4 hd (by decide) (by decide) (by omega), e d 5 hd (by decide) (by decide) (by omega), ec d hd, ed d hd]; exact a2 d hd
  · rw [eu t ht, eu2 t ht]; exact a3 t ht
theorem gd_flour (g : Gd P m R) (w : WF T R) (hb : b < nb R) (hu : u = nI k) (hk : k ≤ 99) (h9 : bg R b 3 + u ≤ 99) : Gd P m (aFlour R b u) := by
  have n5 := w.nb5
  have n30 := w.no30
  obtain ⟨f, hf, e3⟩ := g.1.1 b hb
  have e3' : bg (aFlour R b u) b 3 = nI (f + k) := by
    rw [show bg (aFlour R b u) b 3 = bg R b 3 + u from (up_n (by omega)).trans (up_s _ _ _), e3, hu, nI_add]
  rw [e3, hu, nI_add] at h9
  refine ⟨g.1.flour n5 hb (f := f + k) ((nI_leI (b := 99) (by omega) (by decide)).1 h9) e3' (fun i h1 h2 => ?_), ⟨g.2.1.1.same n30 (fun i hi => ?_), ?_⟩, g.2.2.same n5 (sm_flour (by omega))⟩
  · exact aFlour_i h1 (by unfold Kp at h2; omega)
  · exact aFlour_i (by unfold Ko at hi; omega) (by unfold Ko at hi; omega)
  · rw [aFlour_i (by omega) (by decide)]; exact g.2.1.2
/-- chopsticks go from here to there -/
theorem GA.move (g : GA P R) (n5 : nb R ≤ 5) (en : nb R' = nb R) (h7 : R' 7 = R 7) (h3 : ∀ d, d < nb R → bg R' d 3 = bg R d 3) (hc : ∀ d, d < nb R → bg R' d 4 = nI (cl R' d) ∧ bg R' d 5 = nI (dt R' d)) (hu : ∀ t, t < 16 → R' (40 + t) = nI (us R' t)) (hs : sN (fun b => cl R' b + dt R' b) (nb R) + sN (us R') 16 = sN (fun b => cl R b + dt R b) (nb R) + sN (us R) 16) : GA P R' := by
  obtain ⟨a1, a2, a3, a4, a5, a6⟩ := g
  unfold GA
  rw [en, h7, hs]
  exact ⟨fun d hd => by rw [h3 d hd]; exact a1 d hd, hc, hu, a4, a5, a6⟩
theorem GA.lt (g : GA P R) : (∀ b, b < nb R → cl R b + dt R b ≤ 1000) ∧ (∀ t, t < 16 → us R t ≤ 1000) ∧ (∀ b t, b < nb R → t < 16 → cl R b + dt R b + us R t ≤ 1000) := by
  obtain ⟨a1, a2, a3, a4, a5, a6⟩ := g
  have h1 : ∀ b, b < nb R → cl R b + dt R b ≤ sN (fun b => cl R b + dt R b) (nb R) := fun b hb => sN_mem (f := fun b => cl R b + dt R b) _ hb
  have h2 : ∀ t, t < 16 → us R t ≤ sN (us R) 16 := fun t ht => sN_mem (f := us R) _ ht
  exact ⟨fun b hb => by have := h1 b hb; omega, fun t ht => by have := h2 t ht; omega, fun b t hb ht => by have := h1 b hb; have := h2 t ht; omega⟩
theorem gd_gather (g : Gd P m R) (w : WF T R) (hb : b < nb R) : Gd P m (aGather R b) := by
  have n5 := w.nb5
  have n30 := w.no30
  have n16 := w.np16
  have hpl := (w.2.1 b hb).ePl
  have hp : pl R b < 16 := by omega
  have hlt := g.1.lt
  have f4 : ∀ d, d < nb R → bg (aGather R b) d 4 = bg R d 4 := fun d hd => (up_n (by omega)).trans (up_n (by omega))
  have f3 : ∀ d, d < nb R → bg (aGather R b) d 3 = bg R d 3 := fun d hd => (up_n (by omega)).trans (up_n (by omega))
  have f5 : bg (aGather R b) b 5 = nI (dt R b + us R (pl R b)) := by
    rw [show bg (aGather R b) b 5 = bg R b 5 + R (40 + pl R b) from (up_n (by omega)).trans (up_s _ _ _), (g.1.2.1 b hb).2, g.1.2.2.1 _ hp, nI_add]
  have f5n : ∀ d, d < nb R → d ≠ b → bg (aGather R b) d 5 = bg R d 5 := fun d hd hn => (up_n (by omega)).trans (up_n (by omega))
  have fu : aGather R b (40 + pl R b) = nI 0 := up_s _ _ _
  have fun' : ∀ t, t < 16 → t ≠ pl R b → aGather R b (40 + t) = R (40 + t) := fun t ht hn => (up_n (by omega)).trans (up_n (by omega))
  have l0 := hlt.2.2 b _ hb hp
  have ec : ∀ d, d < nb R → cl (aGather R b) d = cl R d := fun d hd => by unfold cl; rw [f4 d hd]
  have ed : dt (aGather R b) b = dt R b + us R (pl R b) := by unfold dt; rw [f5, nI_clamp (by omega)]; rfl
  have edn : ∀ d, d < nb R → d ≠ b → dt (aGather R b) d = dt R d := fun d hd hn => by unfold dt; rw [f5n d hd hn]
  have eu : us (aGather R b) (pl R b) = 0 := by unfold us; rw [fu, nI_clamp (by decide)]
  have eun : ∀ t, t < 16 → t ≠ pl R b → us (aGather R b) t = us R t := fun t ht hn => by unfold us; rw [fun' t ht hn]
  refine ⟨g.1.move n5 (by unfold nb; rw [aGather_i (by omega) (by omega)]) (aGather_i (by omega) (by omega)) f3 (fun d hd => ?_) (fun t ht => ?_) ?_, ⟨g.2.1.1.same n30 (fun i hi => ?_), ?_⟩, g.2.2.same n5 (sm_gather (by omega) hp)⟩
  · refine ⟨by rw [f4 d hd, ec d hd]; exact (g.1.2.1 d hd).1, ?_⟩
    by_cases e : d = b
    · subst e; rw [f5, ed]
    · rw [f5n d hd e, edn d hd e]; exact (g.1.2.1 d hd).2
  · by_cases e : t = pl R b
    · rw [e, fu, eu]
    · rw [fun' t ht e, eun t ht e]; exact g.1.2.2.1 t ht
  · have s1 := sN_one (f := fun d => cl R d + dt R d) (g := fun d => cl (aGather R b) d + dt (aGather R b) d) (i := b) (nb R) hb (fun d hd hn => show cl (aGather R b) d + dt (aGather R b) d = cl R d + dt R d by rw [ec d hd, edn d hd hn])
    have s2 := sN_one (f := us R) (g := us (aGather R b)) (i := pl R b) 16 hp (fun t ht hn => eun t ht hn)
    rw [ec b hb, ed] at s1
    rw [eu] at s2
    omega
  · exact aGather_i (by unfold Ko at hi; omega) (by unfold Ko at hi; omega)
  · rw [aGather_i (by omega) (by omega)]; exact g.2.1.2
theorem gd_wash (g : Gd P m R) (w : WF T R) (hb : b < nb R) : Gd P m (aWash R b) := by
  have n5 := w.nb5
  have n30 := w.no30
  have hlt := g.1.lt
  have f4 : bg (aWash R b) b 4 = nI (cl R b + dt R b) := by
    rw [show bg (aWash R b) b 4 = bg R b 4 + bg R b 5 from (up_n (by omega)).trans (up_s _ _ _), (g.1.2.1 b hb).1, (g.1.2.1 b hb).2, nI_add]
  have f5 : bg (aWash R b) b 5 = nI 0 := up_s _ _ _
  have fn : ∀ d f, d < nb R → f < 7 → (d ≠ b ∨ (f ≠ 4 ∧ f ≠ 5)) → bg (aWash R b) d f = bg R d f := fun d f hd hf hn => (up_n (by omega)).trans (up_n (by omega))
  have l0 := hlt.1 b hb
  have ec : cl (aWash R b) b = cl R b + dt R b := by unfold cl; rw [f4, nI_clamp (by omega)]; rfl
  have ed : dt (aWash R b) b = 0 := by unfold dt; rw [f5, nI_clamp (by decide)]
  have ecn : ∀ d, d < nb R → d ≠ b → cl (aWash R b) d = cl R d := fun d hd hn => by unfold cl; rw [fn d 4 hd (by decide) (Or.inl hn)]
  have edn : ∀ d, d < nb R → d ≠ b → dt (aWash R b) d = dt R d := fun d hd hn => by unfold dt; rw [fn d 5 hd (by decide) (Or.inl hn)]
  have fu : ∀ t, t < 16 → aWash R b (40 + t) = R (40 + t) := fun t ht => aWash_i (by omega) (by omega)
  have eu : ∀ t, t < 16 → us (aWash R b) t = us R t := fun t ht => by unfold us; rw [fu t ht]
  refine ⟨g.1.move n5 (by unfold nb; rw [aWash_i (by omega) (by omega)]) (aWash_i (by omega) (by omega)) (fun d hd => fn d 3 hd (by decide) (Or.inr ⟨by decide, by decide⟩)) (fun d hd => ?_) (fun t ht => by rw [fu t ht, eu t ht]; exact g.1.2.2.1 t ht) ?_, ⟨g.2.1.1.same n30 (fun i hi => ?_), ?_⟩, g.2.2.same n5 (sm_wash (by omega))⟩
  · by_cases e : d = b
    · subst e; rw [f4, f5, ec, ed]; exact ⟨rfl, rfl⟩
    · rw [fn d 4 hd (by decide) (Or.inl e), fn d 5 hd (by decide) (Or.inl e), ecn d hd e, edn d hd e]; exact g.1.2.1 d hd
  · have s1 := sN_one (f := fun d => cl R d + dt R d) (g := fun d => cl (aWash R b) d + dt (aWash R b) d) (i := b) (nb R) hb (fun d hd hn => show cl (aWash R b) d + dt (aWash R b) d = cl R d + dt R d by rw [ecn d hd hn, edn d hd hn])
    rw [ec, ed] at s1
    rw [sN_congr 16 eu]
    omega
  · exact aWash_i (by unfold Ko at hi; omega) (by unfold Ko at hi; omega)
  · rw [aWash_i (by omega) (by omega)]; exact g.2.1.2
end GOOD
