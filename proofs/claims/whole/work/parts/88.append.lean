/-! appendText -/
def bt (p : Int32) (s : Nat) : Int32 := nI ((p.toBitVec.toNat >>> s) % 256)
def p5 (p1 p2 p3 p4 p5 : Int32) (k : Nat) : Int32 := if k = 0 then p1 else if k = 1 then p2 else if k = 2 then p3 else if k = 3 then p4 else p5
def btk (P : Nat → Int32) (k : Nat) : Int32 := bt (P (k / 4)) (24 - 8 * (k % 4))
section APPEND
variable {c' : Bool} {i : Nat} {M M1 M' S S' : TM} {T U : Nat} {K : TM → Prop} {KI KL : Int32 → TM → Prop} {KV : TM → Prop} {p q u v z : Int32} {P : Nat → Int32} {a b c d e f j k m x' h nx ci di r o t s n' : Nat}
theorem tn_255 (x : BitVec 32) : (x &&& 255#32).toNat = x.toNat % 256 := by
  rw [BitVec.toNat_and]
  exact Nat.and_two_pow_sub_one_eq_mod x.toNat 8
theorem and_255 (x : Int32) : x &&& 255 = nI (x.toBitVec.toNat % 256) := by
  apply Int32.toBitVec_inj.1
  apply BitVec.eq_of_toNat_eq
  rw [Int32.toBitVec_and]
  refine (tn_255 x.toBitVec).trans ?_
  show _ = (BitVec.ofNat 32 (x.toBitVec.toNat % 256)).toNat
  rw [BitVec.toNat_ofNat, Nat.mod_eq_of_lt (a := x.toBitVec.toNat % 256) (by omega)]
theorem sh_and (x : BitVec 32) (h : s ≤ 24) : (x.sshiftRight s).toNat % 256 = (x.toNat >>> s) % 256 := by
  rw [← tn_255, ← BitVec.toNat_ushiftRight, ← tn_255]
  congr 1
  apply BitVec.eq_of_getLsbD_eq
  intro i hi
  rw [BitVec.getLsbD_and, BitVec.getLsbD_and, BitVec.getLsbD_sshiftRight, BitVec.getLsbD_ushiftRight]
  by_cases h8 : i < 8
  · rw [if_pos (show s + i < 32 by omega), decide_eq_false (show ¬ 32 ≤ i by omega)]
    rfl
  · have : (255#32).getLsbD i = false := by
      show Nat.testBit 255 i = false
      exact Nat.testBit_lt_two_pow (Nat.lt_of_lt_of_le (show 255 < 2 ^ 8 by decide) (Nat.pow_le_pow_right (by decide) (by omega)))
    rw [this, Bool.and_false, Bool.and_false]
theorem bt_m {b : Int32} (hb : (b.toBitVec.smod (32 : BitVec 32)).toNat = s) (hs : s ≤ 24) : (p >>> b) &&& 255 = bt p s := by
  rw [and_255]
  unfold bt
  congr 1
  rw [Int32.toBitVec_shiftRight, BitVec.sshiftRight_eq', hb]
  exact sh_and _ hs
/-- a byte in the class and in the model -/
theorem byr (z : Int32) : ByR (vp_nar .byte (z.toInt8.toInt32)) (nI (z.toBitVec.toNat % 256)) := by
  have e : vp_nar .byte (z.toInt8.toInt32) = z.toInt8.toInt32 := by unfold vp_nar; rw [pk_nb]
  rw [e]
  have h1 : z.toInt8.toInt32.toInt = z.toInt.bmod 256 := by rw [Int8.toInt_toInt32, Int32.toInt_toInt8]
  have h2 : z.toInt = if z.toBitVec.toNat < 2 ^ 31 then (z.toBitVec.toNat : Int) else (z.toBitVec.toNat : Int) - 2 ^ 32 := by
    show z.toBitVec.toInt = _
    rw [BitVec.toInt_eq_toNat_cond]
    have hlt := z.toBitVec.isLt
    split <;> split <;> omega
  have hlt := z.toBitVec.isLt
  have h3 : z.toInt.bmod 256 = if z.toBitVec.toNat % 256 < 128 then ((z.toBitVec.toNat % 256 : Nat) : Int) else ((z.toBitVec.toNat % 256 : Nat) : Int) - 256 := by
    rw [h2, Int.bmod_def]
    split <;> split <;> omega
  refine ⟨z.toBitVec.toNat % 256, Nat.mod_lt _ (by decide), rfl, fun hv => ?_, fun hv => ?_⟩
  · apply Int32.toInt_inj.1
    rw [h1, h3, if_pos hv, nI_toInt (by omega)]
  · rw [Int32.lt_iff_toInt_lt, h1, h3, if_neg (by omega)]
    have : ((z.toBitVec.toNat % 256 : Nat) : Int) < 256 := by omega
    show _ < (0 : Int)
    omega
theorem bt_c {b : UInt32} (hb : (b.toBitVec % (32 : BitVec 32)).toNat = s) : ByR (vp_nar .byte (((p.toUInt32 >>> b).toInt32).toInt8.toInt32)) (bt p s) := by
  have e : ((p.toUInt32 >>> b).toInt32).toBitVec.toNat = p.toBitVec.toNat >>> s := by
    show (p.toUInt32 >>> b).toBitVec.toNat = _
    rw [UInt32.toBitVec_shiftRight, BitVec.ushiftRight_eq', hb, BitVec.toNat_ushiftRight]
    rfl
  have := byr ((p.toUInt32 >>> b).toInt32)
  rw [e] at this
  exact this
theorem bt_0 : ByR (vp_nar .byte (p.toInt8.toInt32)) (bt p 0) := byr p
/-- one byte, one int in the class -/
theorem c_byte (hf : M 1 1 = nI f) (h5 : f < 500) (hv : vp_nar .byte (p.toInt8.toInt32) = v) (hK : ∀ M', (∀ i, i ≠ 1 → i ≠ 2 → M' i = M i) → (∀ x, x ≠ 1 → M' 1 x = M 1 x) → M' 1 1 = nI (f + 1) → M' 2 f = v → (∀ x, x ≠ f → M' 2 x = M 2 x) → KV M') : f_X10_appendByte p M KV := by
  unfold f_X10_appendByte
  rw [hf]
  refine cN' (nI_ge (b := 500) h5 (by decide)) ⟨vp_in_nI h5 (by decide), ?_⟩
  rw [nI_clamp (by omega), hv]
  intro M3 e3 M4 e4
  have h3 : M3 1 1 = nI f := by rw [e3, u2_n (by decide)]; exact hf
  rw [h3, nI_1] at e4
  exact hK M4 (fun i i1 i2 => by rw [e4, u2_n i1, e3, u2_n i2]) (fun x hx => by rw [e4, u2_f hx, e3, u2_n (by decide)]) (by rw [e4, u2_s]) (by rw [e4, u2_n (by decide), e3, u2_s]) (fun x hx => by rw [e4, u2_n (by decide), e3, u2_f hx])
theorem c_int (hf : M 1 1 = nI f) (h5 : f + 4 ≤ 500) (hK : ∀ M', (∀ i, i ≠ 1 → i ≠ 2 → M' i = M i) → (∀ x, x ≠ 1 → M' 1 x = M 1 x) → M' 1 1 = nI (f + 4) → (∀ y, y < 4 → ByR (M' 2 (f + y)) (bt p (24 - 8 * y))) → (∀ x, x < f → M' 2 x = M 2 x) → KV M') : f_X10_appendInt p M KV := by
  unfold f_X10_appendInt
  refine c_byte hf (by omega) rfl (fun M1 a1 a2 a3 a4 a5 => ?_)
  refine c_byte a3 (by omega) rfl (fun M2 b1 b2 b3 b4 b5 => ?_)
  refine c_byte b3 (by omega) rfl (fun M3 c1 c2 c3 c4 c5 => ?_)
  refine c_byte c3 (by omega) rfl (fun M4 d1 d2 d3 d4 d5 => ?_)
  refine hK M4 (fun i i1 i2 => by rw [d1 i i1 i2, c1 i i1 i2, b1 i i1 i2, a1 i i1 i2]) (fun x hx => by rw [d2 x hx, c2 x hx, b2 x hx, a2 x hx]) d3 (fun y hy => ?_) (fun x hx => by rw [d5 x (by omega), c5 x (by omega), b5 x (by omega), a5 x (by omega)])
  have hy4 : y = 0 ∨ y = 1 ∨ y = 2 ∨ y = 3 := by omega
  rcases hy4 with rfl | rfl | rfl | rfl
  · rw [d5 _ (by omega), c5 _ (by omega), b5 _ (by omega), Nat.add_zero, a4]
    exact bt_c (by decide)
  · rw [d5 _ (by omega), c5 _ (by omega), b4]
    exact bt_c (by decide)
  · rw [d5 _ (by omega), show f + 2 = f + 1 + 1 from rfl, c4]
    exact bt_c (by decide)
  · rw [show f + 3 = f + 1 + 1 + 1 from rfl, d4]
    exact bt_0
theorem c_app {q1 q2 q3 q4 q5 : Int32} (hf : M 1 1 = nI f) (h5 : f ≤ 500) (h0 : 500 < f + 20 → KI (-1) M) (h1 : ∀ M', f + 20 ≤ 500 → (∀ i, i ≠ 1 → i ≠ 2 → M' i = M i) → (∀ x, x ≠ 1 → M' 1 x = M 1 x) → M' 1 1 = nI (f + 20) → (∀ y, y < 20 → ByR (M' 2 (f + y)) (btk (p5 q1 q2 q3 q4 q5) y)) → (∀ x, x < f → M' 2 x = M 2 x) → KI (nI (f + 20)) M') : f_X12_appendText q1 q2 q3 q4 q5 M KI := by
  unfold f_X12_appendText f_X10_hasRoomFor
  rw [hf, show (20 : Int32) = nI 20 from rfl, nI_add, show (500 : Int32) = nI 500 from rfl]
  refine ⟨fun c1 => cT rfl ?_, fun c1 => cN (by decide) ?_⟩
  · refine h0 (Nat.lt_of_not_le (fun hle => ?_))
    exact nI_nlt hle (by decide) c1
  · have h20 : f + 20 ≤ 500 := Nat.le_of_not_lt (fun hlt => c1 (nI_lt hlt (by omega)))
    refine c_int hf (by omega) (fun M1 a1 a2 a3 a4 a5 => ?_)
    refine c_int a3 (by omega) (fun M2 b1 b2 b3 b4 b5 => ?_)
    refine c_int b3 (by omega) (fun M3 c1 c2 c3 c4 c5 => ?_)
    refine c_int c3 (by omega) (fun M4 d1 d2 d3 d4 d5 => ?_)
    refine c_int d3 (by omega) (fun M5 e1 e2 e3 e4 e5 => ?_)
    rw [e3]
    refine h1 M5 h20 (fun i i1 i2 => by rw [e1 i i1 i2, d1 i i1 i2, c1 i i1 i2, b1 i i1 i2, a1 i i1 i2]) (fun x hx => by rw [e2 x hx, d2 x hx, c2 x hx, b2 x hx, a2 x hx]) e3 (fun y hy => ?_) (fun x hx => by rw [e5 x (by omega), d5 x (by omega), c5 x (by omega), b5 x (by omega), a5 x (by omega)])
    unfold btk
    have hy5 : y / 4 = 0 ∨ y / 4 = 1 ∨ y / 4 = 2 ∨ y / 4 = 3 ∨ y / 4 = 4 := by omega
    have hy4 : y % 4 < 4 := Nat.mod_lt _ (by decide)
    rcases hy5 with hq | hq | hq | hq | hq
    · rw [hq, e5 _ (by omega), d5 _ (by omega), c5 _ (by omega), b5 _ (by omega), show f + y = f + y % 4 by omega]
      exact a4 _ hy4
    · rw [hq, e5 _ (by omega), d5 _ (by omega), c5 _ (by omega), show f + y = f + 4 + y % 4 by omega]
      exact b4 _ hy4
    · rw [hq, e5 _ (by omega), d5 _ (by omega), show f + y = f + 4 + 4 + y % 4 by omega]
      exact c4 _ hy4
    · rw [hq, e5 _ (by omega), show f + y = f + 4 + 4 + 4 + y % 4 by omega]
      exact d4 _ hy4
    · rw [hq, show f + y = f + 4 + 4 + 4 + 4 + y % 4 by omega]
      exact e4 _ hy4
/-- the model -/
theorem sh_m : ∀ k : Fin 20, (((((24 : Int32) - ((8 : Int32) * (nI k.val - nI k.val / (4 : Int32) * (4 : Int32)))) &&& 31).toBitVec).smod (32 : BitVec 32)).toNat = 24 - 8 * (k.val % 4) := by decide +kernel
theorem m_app {q1 q2 q3 q4 q5 : Int32} (hf : M 699 15 = nI f) (h5 : f ≤ 500) (h0 : 500 < f + 20 → KI (-1) (u2 M 699 8 0)) (h1 : ∀ M', f + 20 ≤ 500 → (∀ i, i ≠ 699 → i ≠ 707 → M' i = M i) → (∀ x, x ≠ 8 → x ≠ 15 → M' 699 x = M 699 x) → M' 699 15 = nI (f + 20) → (∀ y, y < 20 → M' 707 (f + y) = btk (p5 q1 q2 q3 q4 q5) y) → (∀ x, x < f → M' 707 x = M 707 x) → KI (nI (f + 20)) M') : f_X13_appendText q1 q2 q3 q4 q5 M KI := by
  unfold f_X13_appendText
  intro M1 e1
  have hf1 : M1 699 15 = nI f := by rw [e1, u2_f (by decide)]; exact hf
  rw [hf1, show (20 : Int32) = nI 20 from rfl, nI_add, show (500 : Int32) = nI 500 from rfl]
  refine ⟨fun c1 => ?_, fun c1 => ?_⟩
  · have h20 : f + 20 ≤ 500 := Nat.le_of_not_lt (fun hlt => nI_ge hlt (by omega) c1)
    refine ⟨_, inv_loop (fun m (s : TM) k => f_X13_appendText_L23 q1 q2 q3 q4 q5 KI m q1 q2 q3 q4 q5 (nI k) s) (fun k s => (∀ i, i ≠ 699 → i ≠ 707 → s i = M i) ∧ (∀ x, x ≠ 8 → x ≠ 15 → s 699 x = M 699 x) ∧ s 699 15 = nI (f + k) ∧ (∀ y, y < k → s 707 (f + y) = btk (p5 q1 q2 q3 q4 q5) y) ∧ ∀ x, x < f → s 707 x = M 707 x) 20 (fun m s hs => ?_) (fun m s k hk hs hL => ?_) 20 0 M1 (Nat.zero_add _) ⟨fun i i1 _ => by rw [e1, u2_n i1], fun x x1 _ => by rw [e1, u2_f x1], hf1, fun y hy => absurd hy (Nat.not_lt_zero _), fun x _ => by rw [e1, u2_n (by decide)]⟩⟩
    · obtain ⟨s1, s2, s3, s4, s5⟩ := hs
      rw [f_X13_appendText_L23]
      refine cT' (by decide) ?_
      rw [s3]
      exact h1 s h20 s1 s2 s3 s4 s5
    · obtain ⟨s1, s2, s3, s4, s5⟩ := hs
      have sh := sh_m ⟨k, hk⟩
      have fin : ∀ w : Int32, w = p5 q1 q2 q3 q4 q5 (k / 4) → vp_in (s 699 15) 500 ∧ ∀ M9, M9 = u2 s 707 (s 699 15).toNatClampNeg ((w >>> (((24 : Int32) - ((8 : Int32) * (nI k - nI k / (4 : Int32) * (4 : Int32)))) &&& 31)) &&& (255 : Int32)) → ∀ M10, M10 = u2 M9 699 15 ((M9 699 15) + (1 : Int32)) → f_X13_appendText_L23 q1 q2 q3 q4 q5 KI m q1 q2 q3 q4 q5 (nI k + 1) M10 := fun w ew => by
        rw [s3]
        refine ⟨vp_in_nI (by omega) (by decide), ?_⟩
        rw [nI_clamp (by omega), bt_m sh (by omega), nI_1]
        intro M9 e9 M10 e10
        have e91 : M9 699 15 = nI (f + k) := by rw [e9, u2_n (by decide)]; exact s3
        rw [e91, nI_1] at e10
        refine hL M10 ⟨fun i i1 i2 => by rw [e10, u2_n i1, e9, u2_n i2, s1 i i1 i2], fun x x1 x2 => by rw [e10, u2_f x2, e9, u2_n (by decide), s2 x x1 x2], by rw [e10, u2_s]; congr 1, fun y hy => ?_, fun x hx => by rw [e10, u2_n (by decide), e9, u2_f (by omega), s5 x hx]⟩
        by_cases ey : y = k
        · subst ey
          rw [e10, u2_n (by decide), e9, u2_s, ew]
          rfl
        · rw [e10, u2_n (by decide), e9, u2_f (by omega)]
          exact s4 y (by omega)
      rw [f_X13_appendText_L23]
      refine cN' (nI_ge (b := 20) hk (by decide)) ⟨fun a1 => ⟨fun a2 => ⟨fun a3 => ⟨fun a4 => ?_, fun a4 => ?_⟩, fun a3 => ?_⟩, fun a2 => ?_⟩, fun a1 => ?_⟩
      · have g4 : 16 ≤ k := Nat.le_of_not_lt (fun hlt => nI_ge (b := 16) hlt (by decide) a4)
        exact fin _ (by unfold p5; rw [if_neg (by omega), if_neg (by omega), if_neg (by omega), if_neg (by omega)])
      · have g3 : 12 ≤ k := Nat.le_of_not_lt (fun hlt => nI_ge (b := 12) hlt (by decide) a3)
        have g4 : k < 16 := Nat.lt_of_not_le (fun hle => a4 (nI_le (a := 16) hle (by omega)))
        exact fin _ (by unfold p5; rw [if_neg (by omega), if_neg (by omega), if_neg (by omega), if_pos (by omega)])
      · have g2 : 8 ≤ k := Nat.le_of_not_lt (fun hlt => nI_ge (b := 8) hlt (by decide) a2)
        have g3 : k < 12 := Nat.lt_of_not_le (fun hle => a3 (nI_le (a := 12) hle (by omega)))
        exact fin _ (by unfold p5; rw [if_neg (by omega), if_neg (by omega), if_pos (by omega)])
      · have g1 : 4 ≤ k := Nat.le_of_not_lt (fun hlt => nI_ge (b := 4) hlt (by decide) a1)
        have g2 : k < 8 := Nat.lt_of_not_le (fun hle => a2 (nI_le (a := 8) hle (by omega)))
        exact fin _ (by unfold p5; rw [if_neg (by omega), if_pos (by omega)])
      · have g1 : k < 4 := Nat.lt_of_not_le (fun hle => a1 (nI_le (a := 4) hle (by omega)))
        exact fin _ (by unfold p5; rw [if_pos (by omega)])
  · rw [e1]
    exact h0 (Nat.lt_of_not_le (fun hle => c1 (nI_le hle (by decide))))
theorem q_appendText {q1 q2 q3 q4 q5 : Int32} (g : Inv T M) (hK : ∀ M', Inv T M' → K M') : f_X12_appendText q1 q2 q3 q4 q5 M (fun r2 M1 => f_X13_appendText q1 q2 q3 q4 q5 M1 (fun r4 M3 => ((r2 = r4 → K M3) ∧ (¬ r2 = r4 → False)))) := by
  obtain ⟨ci, di, nx, h, g1, g2, g3, ⟨f, t1, t2, t3, t4, t5, t6⟩, g5⟩ := id g
  have hci := g1.1
  refine c_app t2 t1 (fun hlt => ?_) (fun M1 h20 a1 a2 a3 a4 a5 => ?_)
  · exact m_app t3 t1 (fun _ => cT' rfl (hK _ g.u8)) (fun M' hle => absurd hle (by omega))
  · refine m_app (f := f) (by rw [a1 699 (by decide) (by decide)]; exact t3) t1 (fun hlt => absurd hlt (by omega)) (fun M2 _ b1 b2 b3 b4 b5 => cT' rfl (hK M2 ?_))
    have fr : ∀ i, i ≠ 1 → i ≠ 2 → i ≠ 699 → i ≠ 707 → M2 i = M i := fun i i1 i2 i3 i4 => by rw [b1 i i3 i4, a1 i i1 i2]
    have f9 : ∀ x, x ≠ 8 → x ≠ 15 → M2 699 x = M 699 x := fun x x1 x2 => by rw [b2 x x1 x2, a1 699 (by decide) (by decide)]
    have e1 : M2 1 = M1 1 := b1 1 (by decide) (by decide)
    have e2 : M2 2 = M1 2 := b1 2 (by decide) (by decide)
    have e7 : M1 707 = M 707 := a1 707 (by decide) (by decide)
    refine ⟨ci, di, nx, h, g1.fr (fr 0 (by decide) (by decide) (by decide) (by decide)) (fun i i1 i2 => fr i (by omega) (by omega) (by omega) (by omega)) (f9 6 (by decide) (by decide)) (fr 700 (by decide) (by decide) (by decide) (by decide)), g2.fr (fr 25 (by decide) (by decide) (by decide) (by decide)) (fun i i1 i2 => fr i (by omega) (by omega) (by omega) (by omega)) (f9 7 (by decide) (by decide)) (fr 705 (by decide) (by decide) (by decide) (by decide)), g3.fr (by rw [fr 0 (by decide) (by decide) (by decide) (by decide)]) (fun i i1 i2 => fr i (by omega) (by omega) (by omega) (by omega)) (f9 11 (by decide) (by decide)) (fr 704 (by decide) (by decide) (by decide) (by decide)), ⟨f + 20, h20, by rw [e1]; exact a3, b3, fun x hx => ?_, by rw [e1, a2 6 (by decide), f9 9 (by decide) (by decide)]; exact t5, by rw [e1, a2 7 (by decide), f9 22 (by decide) (by decide)]; exact t6⟩, g5.fr (by rw [fr 0 (by decide) (by decide) (by decide) (by decide)]) (fr 698 (by decide) (by decide) (by decide) (by decide)) (f9 13 (by decide) (by decide)) (fr 706 (by decide) (by decide) (by decide) (by decide))⟩
    rw [e2]
    by_cases hxf : x < f
    · rw [a5 x hxf, b5 x hxf, e7]
      exact t4 x hxf
    · obtain ⟨y, rfl⟩ : ∃ y, x = f + y := ⟨x - f, by omega⟩
      rw [b4 y (by omega)]
      exact a4 y (by omega)
end APPEND
