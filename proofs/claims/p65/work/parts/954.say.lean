/-! p65: bytes into the class's text -/
def ByR (x y : Int32) : Prop := ∃ v : Nat, v < 256 ∧ y = nI v ∧ (v < 128 → x = nI v) ∧ (128 ≤ v → x < 0)
def bt (p : Int32) (s : Nat) : Int32 := nI ((p.toBitVec.toNat >>> s) % 256)
def p5 (p1 p2 p3 p4 p5 : Int32) (k : Nat) : Int32 := if k = 0 then p1 else if k = 1 then p2 else if k = 2 then p3 else if k = 3 then p4 else p5
def btk (P : Nat → Int32) (k : Nat) : Int32 := bt (P (k / 4)) (24 - 8 * (k % 4))
section APPEND
variable {c' : Bool} {i : Nat} {M M1 M' S S' : TM} {T U : Nat} {K : TM → Prop} {KI KL : Int32 → TM → Prop} {KV : TM → Prop} {p q u v z : Int32} {P : Nat → Int32} {a b c d e f j k m x' h nx ci di r o t s n' : Nat}
theorem tn_255 (x : BitVec 32) : (x &&& 255#32).toNat = x.toNat % 256 := by
  rw [BitVec.toNat_and]
  exact Nat.and_two_pow_sub_one_eq_mod x.toNat 8
theorem and_255 (x : Int32) : x &&& 255 = nI (x.toBitVec.toNat % 256) := by
  apply Int32.toBitVec_inj.1
  apply BitVec.eq_of_toNat_eq
  rw [Int32.toBitVec_and]
  refine (tn_255 x.toBitVec).trans ?_
  show _ = (BitVec.ofNat 32 (x.toBitVec.toNat % 256)).toNat
  rw [BitVec.toNat_ofNat, Nat.mod_eq_of_lt (a := x.toBitVec.toNat % 256) (by omega)]
theorem sh_and (x : BitVec 32) (h : s ≤ 24) : (x.sshiftRight s).toNat % 256 = (x.toNat >>> s) % 256 := by
  rw [← tn_255, ← BitVec.toNat_ushiftRight, ← tn_255]
  congr 1
  apply BitVec.eq_of_getLsbD_eq
  intro i hi
  rw [BitVec.getLsbD_and, BitVec.getLsbD_and, BitVec.getLsbD_sshiftRight, BitVec.getLsbD_ushiftRight]
  by_cases h8 : i < 8
  · rw [if_pos (show s + i < 32 by omega), decide_eq_false (show ¬ 32 ≤ i by omega)]
    rfl
  · have : (255#32).getLsbD i = false := by
      show Nat.testBit 255 i = false
      exact Nat.testBit_lt_two_pow (Nat.lt_of_lt_of_le (show 255 < 2 ^ 8 by decide) (Nat.pow_le_pow_right (by decide) (by omega)))
    rw [this, Bool.and_false, Bool.and_false]
theorem bt_m {b : Int32} (hb : (b.toBitVec.smod (32 : BitVec 32)).toNat = s) (hs : s ≤ 24) : (p >>> b) &&& 255 = bt p s := by
  rw [and_255]
  unfold bt
  congr 1
  rw [Int32.toBitVec_shiftRight, BitVec.sshiftRight_eq', hb]
  exact sh_and _ hs
/-- a byte in the class and in the model -/
theorem byr (z : Int32) : ByR (vp_nar .byte (z.toInt8.toInt32)) (nI (z.toBitVec.toNat % 256)) := by
  have e : vp_nar .byte (z.toInt8.toInt32) = z.toInt8.toInt32 := by unfold vp_nar; rw [pk_nb]
  rw [e]
  have h1 : z.toInt8.toInt32.toInt = z.toInt.bmod 256 := by rw [Int8.toInt_toInt32, Int32.toInt_toInt8]
  have h2 : z.toInt = if z.toBitVec.toNat < 2 ^ 31 then (z.toBitVec.toNat : Int) else (z.toBitVec.toNat : Int) - 2 ^ 32 := by
    show z.toBitVec.toInt = _
    rw [BitVec.toInt_eq_toNat_cond]
    have hlt := z.toBitVec.isLt
    split <;> split <;> omega
  have hlt := z.toBitVec.isLt
  have h3 : z.toInt.bmod 256 = if z.toBitVec.toNat % 256 < 128 then ((z.toBitVec.toNat % 256 : Nat) : Int) else ((z.toBitVec.toNat % 256 : Nat) : Int) - 256 := by
    rw [h2, Int.bmod_def]
    split <;> split <;> omega
  refine ⟨z.toBitVec.toNat % 256, Nat.mod_lt _ (by decide), rfl, fun hv => ?_, fun hv => ?_⟩
  · apply Int32.toInt_inj.1
    rw [h1, h3, if_pos hv, nI_toInt (by omega)]
  · rw [Int32.lt_iff_toInt_lt, h1, h3, if_neg (by omega)]
    have : ((z.toBitVec.toNat % 256 : Nat) : Int) < 256 := by omega
    show _ < (0 : Int)
    omega
theorem bt_c {b : UInt32} (hb : (b.toBitVec % (32 : BitVec 32)).toNat = s) : ByR (vp_nar .byte (((p.toUInt32 >>> b).toInt32).toInt8.toInt32)) (bt p s) := by
  have e : ((p.toUInt32 >>> b).toInt32).toBitVec.toNat = p.toBitVec.toNat >>> s := by
    show (p.toUInt32 >>> b).toBitVec.toNat = _
    rw [UInt32.toBitVec_shiftRight, BitVec.ushiftRight_eq', hb, BitVec.toNat_ushiftRight]
    rfl
  have := byr ((p.toUInt32 >>> b).toInt32)
  rw [e] at this
  exact this
theorem bt_0 : ByR (vp_nar .byte (p.toInt8.toInt32)) (bt p 0) := byr p
/-- one byte, one int in the class -/
theorem c_byte (hf : M 1 1 = nI f) (h5 : f < 500) (hv : vp_nar .byte (p.toInt8.toInt32) = v) (hK : ∀ M', (∀ i, i ≠ 1 → i ≠ 2 → M' i = M i) → (∀ x, x ≠ 1 → M' 1 x = M 1 x) → M' 1 1 = nI (f + 1) → M' 2 f = v → (∀ x, x ≠ f → M' 2 x = M 2 x) → KV M') : f_X10_appendByte p M KV := by
  unfold f_X10_appendByte
  rw [hf]
  refine cN' (nI_ge (b := 500) h5 (by decide)) ⟨vp_in_nI h5 (by decide), ?_⟩
  rw [nI_clamp (by omega), hv]
  intro M3 e3 M4 e4
  have h3 : M3 1 1 = nI f := by rw [e3, u2_n (by decide)]; exact hf
  rw [h3, nI_1] at e4
  exact hK M4 (fun i i1 i2 => by rw [e4, u2_n i1, e3, u2_n i2]) (fun x hx => by rw [e4, u2_f hx, e3, u2_n (by decide)]) (by rw [e4, u2_s]) (by rw [e4, u2_n (by decide), e3, u2_s]) (fun x hx => by rw [e4, u2_n (by decide), e3, u2_f hx])
theorem c_int (hf : M 1 1 = nI f) (h5 : f + 4 ≤ 500) (hK : ∀ M', (∀ i, i ≠ 1 → i ≠ 2 → M' i = M i) → (∀ x, x ≠ 1 → M' 1 x = M 1 x) → M' 1 1 = nI (f + 4) → (∀ y, y < 4 → ByR (M' 2 (f + y)) (bt p (24 - 8 * y))) → (∀ x, x < f → M' 2 x = M 2 x) → KV M') : f_X10_appendInt p M KV := by
  unfold f_X10_appendInt
  refine c_byte hf (by omega) rfl (fun M1 a1 a2 a3 a4 a5 => ?_)
  refine c_byte a3 (by omega) rfl (fun M2 b1 b2 b3 b4 b5 => ?_)
  refine c_byte b3 (by omega) rfl (fun M3 c1 c2 c3 c4 c5 => ?_)
  refine c_byte c3 (by omega) rfl (fun M4 d1 d2 d3 d4 d5 => ?_)
  refine hK M4 (fun i i1 i2 => by rw [d1 i i1 i2, c1 i i1 i2, b1 i i1 i2, a1 i i1 i2]) (fun x hx => by rw [d2 x hx, c2 x hx, b2 x hx, a2 x hx]) d3 (fun y hy => ?_) (fun x hx => by rw [d5 x (by omega), c5 x (by omega), b5 x (by omega), a5 x (by omega)])
  have hy4 : y = 0 ∨ y = 1 ∨ y = 2 ∨ y = 3 := by omega
  rcases hy4 with rfl | rfl | rfl | rfl
  · rw [d5 _ (by omega), c5 _ (by omega), b5 _ (by omega), Nat.add_zero, a4]
    exact bt_c (by decide)
  · rw [d5 _ (by omega), c5 _ (by omega), b4]
    exact bt_c (by decide)
  · rw [d5 _ (by omega), show f + 2 = f + 1 + 1 from rfl, c4]
    exact bt_c (by decide)
  · rw [show f + 3 = f + 1 + 1 + 1 from rfl, d4]
    exact bt_0
theorem c_app {q1 q2 q3 q4 q5 : Int32} (hf : M 1 1 = nI f) (h5 : f ≤ 500) (h0 : 500 < f + 20 → KI (-1) M) (h1 : ∀ M', f + 20 ≤ 500 → (∀ i, i ≠ 1 → i ≠ 2 → M' i = M i) → (∀ x, x ≠ 1 → M' 1 x = M 1 x) → M' 1 1 = nI (f + 20) → (∀ y, y < 20 → ByR (M' 2 (f + y)) (btk (p5 q1 q2 q3 q4 q5) y)) → (∀ x, x < f → M' 2 x = M 2 x) → KI (nI (f + 20)) M') : f_X12_appendText q1 q2 q3 q4 q5 M KI := by
  unfold f_X12_appendText f_X10_hasRoomFor
  rw [hf, show (20 : Int32) = nI 20 from rfl, nI_add, show (500 : Int32) = nI 500 from rfl]
  refine ⟨fun c1 => cT rfl ?_, fun c1 => cN (by decide) ?_⟩
  · refine h0 (Nat.lt_of_not_le (fun hle => ?_))
    exact nI_nlt hle (by decide) c1
  · have h20 : f + 20 ≤ 500 := Nat.le_of_not_lt (fun hlt => c1 (nI_lt hlt (by omega)))
    refine c_int hf (by omega) (fun M1 a1 a2 a3 a4 a5 => ?_)
    refine c_int a3 (by omega) (fun M2 b1 b2 b3 b4 b5 => ?_)
    refine c_int b3 (by omega) (fun M3 c1 c2 c3 c4 c5 => ?_)
    refine c_int c3 (by omega) (fun M4 d1 d2 d3 d4 d5 => ?_)
    refine c_int d3 (by omega) (fun M5 e1 e2 e3 e4 e5 => ?_)
    rw [e3]
    refine h1 M5 h20 (fun i i1 i2 => by rw [e1 i i1 i2, d1 i i1 i2, c1 i i1 i2, b1 i i1 i2, a1 i i1 i2]) (fun x hx => by rw [e2 x hx, d2 x hx, c2 x hx, b2 x hx, a2 x hx]) e3 (fun y hy => ?_) (fun x hx => by rw [e5 x (by omega), d5 x (by omega), c5 x (by omega), b5 x (by omega), a5 x (by omega)])
    unfold btk
    have hy5 : y / 4 = 0 ∨ y / 4 = 1 ∨ y / 4 = 2 ∨ y / 4 = 3 ∨ y / 4 = 4 := by omega
    have hy4 : y % 4 < 4 := Nat.mod_lt _ (by decide)
    rcases hy5 with hq | hq | hq | hq | hq
    · rw [hq, e5 _ (by omega), d5 _ (by omega), c5 _ (by omega), b5 _ (by omega), show f + y = f + y % 4 by omega]
      exact a4 _ hy4
    · rw [hq, e5 _ (by omega), d5 _ (by omega), c5 _ (by omega), show f + y = f + 4 + y % 4 by omega]
      exact b4 _ hy4
    · rw [hq, e5 _ (by omega), d5 _ (by omega), show f + y = f + 4 + 4 + y % 4 by omega]
      exact c4 _ hy4
    · rw [hq, e5 _ (by omega), show f + y = f + 4 + 4 + 4 + y % 4 by omega]
      exact d4 _ hy4
    · rw [hq, show f + y = f + 4 + 4 + 4 + 4 + y % 4 by omega]
      exact e4 _ hy4
end APPEND
def p4w (q : Nat → Nat) (o : Nat) : Nat := q o * 16777216 + q (o + 1) * 65536 + q (o + 2) * 256 + q (o + 3)
/-- f of the bytes X have been said: what is full lies in the class's text, the rest in the law's row -/
def qb (X : Nat → Nat) (f : Nat) (i : Nat) : Nat := if i < f then X i else 0
def SB (X : Nat → Nat) (f : Nat) (M : TM) : Prop := M 699 5 = nI f ∧ M 1 1 = nI (20 * (f / 20)) ∧ (∀ i, i < 20 * (f / 20) → M 2 i = nI (X i)) ∧ ∀ j, j < 5 → M 699 j = nI (p4w (qb X f) (20 * (f / 20) + 4 * j))
def FrS (M M' : TM) : Prop := (∀ i, i ≠ 1 → i ≠ 2 → i ≠ 699 → M' i = M i) ∧ ∀ x, x ≠ 1 → M' 1 x = M 1 x
section SAY
variable {M M1 M' : TM} {X : Nat → Nat} {KV : TM → Prop} {KI : Int32 → TM → Prop} {f n j y b A B k n9 : Nat} {p : Int32}
theorem FrS.refl (M : TM) : FrS M M := ⟨fun _ _ _ _ => rfl, fun _ _ => rfl⟩
theorem FrS.trans (h : FrS M M1) (g : FrS M1 M') : FrS M M' := ⟨fun i a b c => (g.1 i a b c).trans (h.1 i a b c), fun x a => (g.2 x a).trans (h.2 x a)⟩
theorem shl_k : ∀ b : Fin 128, ∀ y : Fin 4, nI b.val <<< (((24 : Int32) - (8 : Int32) * nI y.val) &&& 31) = nI (b.val * 2 ^ (24 - 8 * y.val)) := by decide +kernel
theorem or_add (hA : A < 2 ^ 32) (hB : B < 2 ^ 32) {k : Nat} (h1 : A % 2 ^ k = 0) (h2 : B < 2 ^ k) : nI A ||| nI B = nI (A + B) := by
  have e : A ||| B = A + B := by
    have e1 : A = (A / 2 ^ k) <<< k := by
      rw [Nat.shiftLeft_eq]
      have := Nat.div_add_mod A (2 ^ k)
      rw [h1, Nat.add_zero, Nat.mul_comm] at this
      exact this.symm
    have := Nat.shiftLeft_add_eq_or_of_lt h2 (A / 2 ^ k)
    rw [← e1] at this
    exact this.symm
  apply Int32.toBitVec_inj.1
  apply BitVec.eq_of_toNat_eq
  rw [Int32.toBitVec_or, BitVec.toNat_or]
  show (BitVec.ofNat 32 A).toNat ||| (BitVec.ofNat 32 B).toNat = (BitVec.ofNat 32 (A + B)).toNat
  rw [BitVec.toNat_ofNat, BitVec.toNat_ofNat, BitVec.toNat_ofNat, Nat.mod_eq_of_lt hA, Nat.mod_eq_of_lt hB, e]
  have : A + B < 2 ^ 32 := by
    rw [← e]
    exact Nat.or_lt_two_pow hA hB
  rw [Nat.mod_eq_of_lt this]
theorem qb_lt (hX : ∀ i, X i < 128) (f i : Nat) : qb X f i < 128 := by
  unfold qb
  split
  · exact hX i
  · decide
theorem p4w_lt (hX : ∀ i, X i < 128) (f o : Nat) : p4w (qb X f) o < 2 ^ 31 := by
  have h0 := qb_lt hX f o
  have h1 := qb_lt hX f (o + 1)
  have h2 := qb_lt hX f (o + 2)
  have h3 := qb_lt hX f (o + 3)
  unfold p4w
  omega
/-- one byte more in a word -/
theorem p4w_add (hX : ∀ i, X i < 128) (o : Nat) (hy : y < 4) : nI (p4w (qb X (o + y)) o) ||| nI (X (o + y) * 2 ^ (24 - 8 * y)) = nI (p4w (qb X (o + y + 1)) o) := by
  have hx := hX (o + y)
  have q : ∀ i, i < o + y → qb X (o + y + 1) i = qb X (o + y) i := fun i hi => by unfold qb; rw [if_pos (by omega), if_pos hi]
  have q1 : qb X (o + y + 1) (o + y) = X (o + y) := if_pos (by omega)
  have q0 : ∀ i, o + y ≤ i → qb X (o + y) i = 0 := fun i hi => if_neg (by omega)
  have q2 : ∀ i, o + y + 1 ≤ i → qb X (o + y + 1) i = 0 := fun i hi => if_neg (by omega)
  have hl := p4w_lt hX (o + y) o
  rcases (show y = 0 ∨ y = 1 ∨ y = 2 ∨ y = 3 by omega) with rfl | rfl | rfl | rfl
  · rw [or_add (k := 32) (by omega) (by omega) (by unfold p4w; rw [q0 o (by omega), q0 (o + 1) (by omega), q0 (o + 2) (by omega), q0 (o + 3) (by omega)]) (by omega)]
    refine congrArg nI ?_
    unfold p4w
    rw [q0 o (by omega), q0 (o + 1) (by omega), q0 (o + 2) (by omega), q0 (o + 3) (by omega), q2 (o + 1) (by omega), q2 (o + 2) (by omega), q2 (o + 3) (by omega), show qb X (o + 0 + 1) o = X (o + 0) from q1]
    omega
  · rw [or_add (k := 24) (by omega) (by omega) (by unfold p4w; rw [q0 (o + 1) (by omega), q0 (o + 2) (by omega), q0 (o + 3) (by omega)]; omega) (by omega)]
    refine congrArg nI ?_
    unfold p4w
    rw [q0 (o + 1) (by omega), q0 (o + 2) (by omega), q0 (o + 3) (by omega), q2 (o + 2) (by omega), q2 (o + 3) (by omega), q1, q o (by omega)]
    omega
  · rw [or_add (k := 16) (by omega) (by omega) (by unfold p4w; rw [q0 (o + 2) (by omega), q0 (o + 3) (by omega)]; omega) (by omega)]
    refine congrArg nI ?_
    unfold p4w
    rw [q0 (o + 2) (by omega), q0 (o + 3) (by omega), q2 (o + 3) (by omega), q1, q o (by omega), q (o + 1) (by omega)]
    omega
  · rw [or_add (k := 8) (by omega) (by omega) (by unfold p4w; rw [q0 (o + 3) (by omega)]; omega) (by omega)]
    refine congrArg nI ?_
    unfold p4w
    rw [q0 (o + 3) (by omega), q1, q o (by omega), q (o + 1) (by omega), q (o + 2) (by omega)]
    omega
/-- the bytes of a word -/
theorem bt_w (hX : ∀ i, X i < 128) (o : Nat) (hy : y < 4) : bt (nI (p4w (qb X f) o)) (24 - 8 * y) = nI (qb X f (o + y)) := by
  have h0 := qb_lt hX f o
  have h1 := qb_lt hX f (o + 1)
  have h2 := qb_lt hX f (o + 2)
  have h3 := qb_lt hX f (o + 3)
  have hl := p4w_lt hX f o
  unfold bt
  congr 1
  rw [pk_tn (by omega)]
  rcases (show y = 0 ∨ y = 1 ∨ y = 2 ∨ y = 3 by omega) with rfl | rfl | rfl | rfl
  · rw [Nat.shiftRight_eq_div_pow]; unfold p4w; show _ / 16777216 % 256 = qb X f o; omega
  · rw [Nat.shiftRight_eq_div_pow]; unfold p4w; show _ / 65536 % 256 = _; omega
  · rw [Nat.shiftRight_eq_div_pow]; unfold p4w; show _ / 256 % 256 = _; omega
  · rw [Nat.shiftRight_eq_div_pow]; unfold p4w; show _ / 1 % 256 = _; omega
end SAY
