/-! rows that agree on their 377 places; the class's ring against the model's history -/
def REq (R R' : Nat → Int32) : Prop := ∀ j, j < 377 → R' j = R j
/-- who is in a lock is in one -/
def LK (R : Nat → Int32) : Prop := ∀ b j, b < nb R → j < 15 → inL R b = true → ahead R b = nI j → ¬ R (10 + j) = 0
def Nb (R : Nat → Int32) : Prop := 1 ≤ nb R ∧ LK R
def hrow (M : TM) (k : Nat) : Nat → Int32 := fun j => M 705 (377 * k + j)
def slot (nx h k : Nat) : Nat := 27 + 61 * ((nx + 8 - h + k) % 8)
def His (T : Nat) (M : TM) (nx h : Nat) : Prop := M 25 1 = nI nx ∧ M 25 2 = nI h ∧ nx ≤ 8 ∧ h ≤ 8 ∧ M 699 7 = nI h ∧ ∀ k, k < h → RelC (slot nx h k) M (hrow M k) ∧ WF T (hrow M k) ∧ Nb (hrow M k)
section HISTORY
variable {c' : Bool} {i : Nat} {M M1 M' : TM} {T : Nat} {K : Int32 → TM → Prop} {KV : TM → Prop} {p q u v : Int32} {R R' : Nat → Int32} {a b c d e f j k m x' h nx U r : Nat}
theorem REq.refl (R : Nat → Int32) : REq R R := fun _ _ => rfl
theorem REq.symm (h : REq R R') : REq R' R := fun j hj => (h j hj).symm
theorem REq.trans {R2 : Nat → Int32} (h : REq R R') (g : REq R' R2) : REq R R2 := fun j hj => (g j hj).trans (h j hj)
theorem REq.nbE (h : REq R R') : nb R' = nb R := by unfold nb; rw [h 2 (by decide)]
theorem REq.noE (h : REq R R') : no R' = no R := by unfold no; rw [h 3 (by decide)]
theorem REq.npE (h : REq R R') : np R' = np R := by unfold np; rw [h 1 (by decide)]
theorem REq.so (h : REq R R') (n30 : no R ≤ 30) : SOr R R' := ⟨h 3 (by decide), fun o ho f hf => h _ (by omega)⟩
theorem REq.sb (h : REq R R') (n5 : nb R ≤ 5) : SBa R R' := ⟨h 2 (by decide), fun o ho f hf => h _ (by omega)⟩
theorem RelC.row (g : RelC c M R) (w : WF T R) (h : REq R R') : RelC c M R' := by
  have n5 := w.nb5
  have n30 := w.no30
  have so := h.so n30
  have sb := h.sb n5
  refine ⟨?_, fun j hj => (g.2.1 j hj).congr rfl (h _ (by omega)) (h _ (by omega)) (sb.eWho _), fun j hj => ?_, fun d hd => ?_, fun d hd => ?_, fun x hx => ?_⟩
  · have hs := g.1
    unfold Sc at hs ⊢
    rw [so.eCIn, h 0 (by decide), h 1 (by decide), h 2 (by decide), h 3 (by decide), h 4 (by decide), h 5 (by decide), h 6 (by decide), h 7 (by decide)]
    exact hs
  · rw [h _ (by omega), h _ (by omega)]
    exact g.2.2.1 j hj
  · rw [sb.eN] at hd
    exact (g.2.2.2.1 d hd).congr rfl (sb.2 d hd)
  · rw [sb.eN] at hd
    exact (g.2.2.2.2.1 d hd).congr rfl rfl (fun l hl => so.isQ hl)
  · rw [so.eN] at hx
    exact (g.2.2.2.2.2 x hx).congr rfl (so.2 x hx)
theorem WF.row (w : WF T R) (h : REq R R') : WF T R' := by
  have n5 := w.nb5
  have n30 := w.no30
  have n16 := w.np16
  have so := h.so n30
  have sb := h.sb n5
  have np' := h.npE
  obtain ⟨⟨⟨⟨a1, a2⟩, ⟨a3, a4⟩, a5, a6⟩, a7, a8, a9, a10, a11, a12, a13⟩, b1, b2, b3, b4, b5⟩ := id w
  refine ⟨⟨⟨⟨by rw [h 1 (by decide), np']; exact a1, by rw [np']; exact a2⟩, ⟨by rw [h 2 (by decide), sb.eN]; exact a3, by rw [sb.eN]; exact a4⟩, by rw [h 3 (by decide), so.eN]; exact a5, by rw [so.eN]; exact a6⟩, by rw [np']; exact a7, trivial, by rw [h 0 (by decide)]; exact a9, by rw [h 8 (by decide)]; exact a10, by rw [h 6 (by decide), so.eCIn]; exact a11, fun j hj => by rw [h _ (by omega)]; exact a12 j hj, fun j h1 h2 => by rw [np'] at h1; rw [h _ (by omega), h _ (by omega)]; exact a13 j h1 h2⟩, fun d hd => ?_, fun x hx => ?_, sb.wl b3, fun d hd => ?_, so.wt b5⟩
  · rw [sb.eN] at hd
    exact (b1 d hd).congr (h 1 (by decide)) (sb.2 d hd)
  · rw [so.eN] at hx
    exact (b2 x hx).congr (h 1 (by decide)) (h 2 (by decide)) (by rw [h 8 (by decide)]; exact Nat.le_refl _) (so.2 x hx)
  · rw [sb.eN] at hd
    rw [so.eHeld]
    exact b4 d hd
theorem LK.congr (g : LK R) (hn : nb R' = nb R) (hb : ∀ b, b < nb R → inL R' b = true → inL R b = true ∧ ahead R' b = ahead R b) (h10 : ∀ j, j < 15 → R' (10 + j) = R (10 + j)) : LK R' := by
  intro b j h1 h2 h3 h4
  rw [hn] at h1
  obtain ⟨a1, a2⟩ := hb b h1 h3
  rw [h10 j h2]
  exact g b j h1 h2 a1 (by rw [← a2]; exact h4)
theorem Nb.row (g : Nb R) (w : WF T R) (h : REq R R') : Nb R' := by
  have n5 := w.nb5
  have sb := h.sb n5
  refine ⟨by rw [sb.eN]; exact g.1, g.2.congr sb.eN (fun b hb hi => ?_) (fun j hj => h _ (by omega))⟩
  rw [sb.eInL hb] at hi
  exact ⟨hi, sb.eAh hb⟩
/-- the model's copies -/
theorem m_copy {a0 a2 n0 n2 k0 k2 : Nat} (e1 : p = nI k0) (e2 : q = nI k2) (h0 : 377 * k0 + 377 ≤ n0) (h2 : 377 * k2 + 377 ≤ n2) (b0 : n0 < 5000) (b2 : n2 < 5000) (hK : ∀ M', (∀ i, i ≠ a2 → M' i = M i) → (∀ j, j < 377 → M' a2 (377 * k2 + j) = M a0 (377 * k0 + j)) → (∀ j, (j < 377 * k2 ∨ 377 * k2 + 377 ≤ j) → M' a2 j = M a2 j) → KV M') : f_X13_copy a0 n0 p a2 n2 q M KV := by
  subst e1 e2
  unfold f_X13_copy
  rw [show (377 : Int32) = nI 377 from rfl, nI_mul, nI_mul, nI_clamp (n := 377 * k0) (by omega), nI_clamp (n := 377 * k2) (by omega), nI_clamp (n := 377) (by decide)]
  refine ⟨⟨nI_pos (by omega), nI_pos (by omega), nI_pos (by decide), h0, h2⟩, ?_⟩
  intro M2 eM
  refine hK M2 (fun i hi => by rw [eM, uR_n hi]) (fun j hj => ?_) (fun j hj => ?_)
  · rw [eM, uR_s]
    unfold va_cpy
    rw [if_pos (by omega)]
    congr 1
    omega
  · rw [eM, uR_s]
    unfold va_cpy
    rw [if_neg (by omega)]
/-- a whole row onto a whole row -/
theorem m_copyRow {a0 a2 n0 n2 : Nat} (e1 : p = 0) (e2 : q = 0) (h0 : 377 ≤ n0) (h2 : 377 ≤ n2) (b0 : n0 < 5000) (b2 : n2 < 5000) (hK : ∀ M', (∀ i, i ≠ a2 → M' i = M i) → REq (M a0) (M' a2) → KV M') : f_X13_copy a0 n0 p a2 n2 q M KV := by
  refine m_copy (k0 := 0) (k2 := 0) e1 e2 (by omega) (by omega) b0 b2 (fun M' m1 m2 _ => hK M' m1 (fun j hj => ?_))
  have := m2 j hj
  rw [Nat.mul_zero, Nat.zero_add] at this
  exact this
/-- the model records what it kept -/
theorem m_record (h7 : M 699 7 = nI h) (h8 : h ≤ 8) (hK : ∀ M', (∀ i, i ≠ 699 → i ≠ 705 → M' i = M i) → (∀ j, j ≠ 7 → M' 699 j = M 699 j) → M' 699 7 = nI (min (h + 1) 8) → (∀ k, k + 1 < min (h + 1) 8 → REq (hrow M (if h = 8 then k + 1 else k)) (hrow M' k)) → REq (M 703) (hrow M' (min (h + 1) 8 - 1)) → KV M') : f_X13_record M KV := by
  unfold f_X13_record
  have last : ∀ (M2 : TM) (g : Nat), M2 699 7 = nI g → g < 8 → (∀ M', (∀ i, i ≠ 699 → i ≠ 705 → M' i = M2 i) → (∀ j, j ≠ 7 → M' 699 j = M2 699 j) → M' 699 7 = nI (g + 1) → (∀ k, k < g → REq (hrow M2 k) (hrow M' k)) → REq (M2 703) (hrow M' g) → KV M') → f_X13_record_L48 KV M2 := fun M2 g hg h8 hK => by
    unfold f_X13_record_L48
    refine m_copy (k0 := 0) (k2 := g) rfl hg (by omega) (by omega) (by decide) (by decide) (fun M3 m1 m2 m3 => ?_)
    intro M4 e4
    rw [m1 699 (by decide), hg, nI_1] at e4
    refine hK M4 (fun i i1 i2 => by rw [e4, u2_n i1, m1 i i2]) (fun j hj => by rw [e4, u2_f hj, m1 699 (by decide)]) (by rw [e4, u2_s]) (fun k hk j hj => ?_) (fun j hj => ?_)
    · unfold hrow
      rw [e4, u2_n (by decide)]
      exact m3 _ (by omega)
    · unfold hrow
      rw [e4, u2_n (by decide), m2 j hj, Nat.mul_zero, Nat.zero_add]
  rw [h7, show (8 : Int32) = nI 8 from rfl, nI_eq (by omega) (by decide)]
  refine ⟨fun c1 => ?_, fun c1 => ?_⟩
  · refine last M h h7 (by omega) (fun M' m1 m2 m3 m4 m5 => hK M' m1 m2 (by rw [m3]; congr 1; omega) (fun k hk => ?_) ?_)
    · rw [if_neg c1]; exact m4 k (by omega)
    · rw [show min (h + 1) 8 - 1 = h by omega]; exact m5
  · subst c1
    refine ⟨_, inv_loop (fun m (s : TM) k => f_X13_record_L11 KV m (nI (1 + k)) s) (fun k s => (∀ i, i ≠ 705 → s i = M i) ∧ (∀ x, x < k → REq (hrow M (x + 1)) (hrow s x)) ∧ ∀ x, k ≤ x → REq (hrow M x) (hrow s x)) 7 (fun m s hs => ?_) (fun m s k hk hs hL => ?_) 7 0 M (Nat.zero_add _) ⟨fun _ _ => rfl, fun x hx => absurd hx (Nat.not_lt_zero _), fun x _ => REq.refl _⟩⟩
    · obtain ⟨s1, s2, s3⟩ := hs
      rw [f_X13_record_L11]
      refine cT' (nI_le (a := 8) (b := 8) (Nat.le_refl _) (by decide)) ?_
      intro M5 e5
      rw [s1 699 (by decide), h7, show (1 : Int32) = nI 1 from rfl, nI_sub (by decide)] at e5
      refine last M5 7 (by rw [e5, u2_s]) (by decide) (fun M' m1 m2 m3 m4 m5 => hK M' (fun i i1 i2 => by rw [m1 i i1 i2, e5, u2_n i1, s1 i i2]) (fun j hj => by rw [m2 j hj, e5, u2_f hj, s1 699 (by decide)]) m3 (fun k hk => ?_) ?_)
      · rw [if_pos rfl]
        have e : hrow M5 k = hrow s k := by unfold hrow; rw [e5, u2_n (by decide)]
        have := m4 k (by omega)
        rw [e] at this
        exact (s2 k (by omega)).trans this
      · have : M5 703 = M 703 := by rw [e5, u2_n (by decide), s1 703 (by decide)]
        rw [this] at m5
        exact m5
    · obtain ⟨s1, s2, s3⟩ := hs
      rw [f_X13_record_L11]
      refine cN' (nI_ge (b := 8) (by omega) (by decide)) ?_
      rw [show nI (1 + k) - 1 = nI k by rw [Nat.add_comm, nI_pred], nI_1]
      refine m_copy (k0 := 1 + k) (k2 := k) rfl rfl (by omega) (by omega) (by decide) (by decide) (fun M2 m1 m2 m3 => hL M2 ⟨fun i hi => by rw [m1 i hi, s1 i hi], fun x hx => ?_, fun x hx => ?_⟩)
      · by_cases e : x = k
        · subst e
          have h1 := s3 (x + 1) (by omega)
          intro j hj
          rw [← h1 j hj]
          unfold hrow
          rw [m2 j hj, Nat.add_comm 1 x]
        · intro j hj
          rw [← s2 x (by omega) j hj]
          unfold hrow
          exact m3 _ (by omega)
      · intro j hj
        rw [← s3 x (by omega) j hj]
        unfold hrow
        exact m3 _ (by omega)
/-- the class remembers -/
theorem c_remember (hc : c = 576 ∨ c = 637) (h1 : M 25 1 = nI nx) (h2 : M 25 2 = nI h) (hn : nx ≤ 8) (h8 : h ≤ 8) (w : WF T R) (rc : RelC c M R) (hK : ∀ M' s, s = nx % 8 → (∀ i, i ≠ 25 → (i < 27 + 61 * s ∨ 27 + 61 * s + 61 ≤ i) → M' i = M i) → M' 25 1 = nI (s + 1) → M' 25 2 = nI (min (h + 1) 8) → RelC (27 + 61 * s) M' R → KV M') : f_X5_remember c M KV := by
  have body : ∀ (M2 : TM) (s : Nat), s < 8 → M2 25 1 = nI s → s = nx % 8 → (∀ i, i ≠ 25 → M2 i = M i) → M2 25 2 = nI h → f_X5_remember_L24 c KV M2 := fun M2 s hs m1 es mf m2 => by
    unfold f_X5_remember_L24
    refine ⟨by rw [m1]; exact vp_in_nI hs (by decide), ?_⟩
    rw [m1, nI_clamp (by omega)]
    have rc2 : RelC c M2 R := rc.frame (fun k h1 h2 => mf k (by omega)) w.nb5 w.no30
    refine c_copy w rc2 (by omega) (fun M3 f3 r3 => ?_)
    intro M5 e5 M6 e6
    have m351 : M3 25 1 = nI s := by rw [f3 25 (by omega)]; exact m1
    have m352 : M3 25 2 = nI h := by rw [f3 25 (by omega)]; exact m2
    rw [m351, nI_1] at e5
    have v5 : M5 25 2 = nI h := by rw [e5, u2_f (by decide)]; exact m352
    rw [v5, nI_1] at e6
    have fM : ∀ i, i ≠ 25 → M6 i = M3 i := fun i hi => by rw [e6, u2_n hi, e5, u2_n hi]
    refine hK M6 s es (fun i i1 i2 => by rw [fM i i1, f3 i i2, mf i i1]) (by rw [e6, u2_f (by decide), e5, u2_s]) ?_ (r3.frame (fun k h1 h2 => fM k (by omega)) w.nb5 w.no30)
    rw [e6, u2_s, show (8 : Int32) = nI 8 from rfl]
    by_cases c8 : 8 < h + 1
    · rw [if_pos (nI_lt (a := 8) c8 (by omega)), show min (h + 1) 8 = 8 by omega]
    · rw [if_neg (nI_nlt (a := 8) (b := h + 1) (by omega) (by decide)), show min (h + 1) 8 = h + 1 by omega]
  unfold f_X5_remember
  rw [h1]
  refine ⟨fun c1 => absurd c1 (nI_pos (by omega)), fun _ => ?_⟩
  rw [show (8 : Int32) = nI 8 from rfl, nI_ltI (by omega) (by decide)]
  refine ⟨fun c1 => body M nx c1 h1 (by omega) (fun _ _ => rfl) h2, fun c1 => ?_⟩
  unfold f_X5_remember_L19
  intro M2 e2
  exact body M2 0 (by decide) (by rw [e2, u2_s]; rfl) (by omega) (fun i hi => by rw [e2, u2_n hi]) (by rw [e2, u2_f (by decide)]; exact h2)
end HISTORY
