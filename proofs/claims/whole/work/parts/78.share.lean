/-! results of divisions are numbers -/
section SHARE
variable {c' : Bool} {i : Nat} {M M1 M' : TM} {T U : Nat} {K : TM → Prop} {p u v r2 r4 : Int32} {s : Bool} {q e : Int} {n m num den x' : Nat}
theorem b64_t : FP.Core.b64.tails = 4503599627370496 := rfl
theorem b64_e : FP.Core.b64.exps = 2048 := rfl
theorem b64_q : FP.Core.b64.qmin = -1074 := by decide
theorem b64_Q : FP.Core.b64.qmax = 971 := by decide
theorem enc_inf : FP.Core.encode FP.Core.b64 (.inf s) % 9223372036854775808 ≤ 9218868437227405312 := by cases s <;> decide
theorem enc_fin (h : n < 9007199254740992) (hq : q ≤ 971) : FP.Core.encode FP.Core.b64 (.fin s n q) % 9223372036854775808 ≤ 9218868437227405312 := by
  rw [show FP.Core.encode FP.Core.b64 (.fin s n q) = if n < FP.Core.b64.tails then FP.Core.assemble FP.Core.b64 s 0 n else FP.Core.assemble FP.Core.b64 s ((q - FP.Core.b64.qmin).toNat + 1) (n - FP.Core.b64.tails) from rfl]
  unfold FP.Core.assemble
  rw [b64_t, b64_e, b64_q]
  split
  · cases s <;> simp only [Bool.toNat_true, Bool.toNat_false] <;> omega
  · cases s <;> simp only [Bool.toNat_true, Bool.toNat_false] <;> omega
theorem enc_bound (h : n < 9007199254740992) : FP.Core.encode FP.Core.b64 (FP.Core.bound FP.Core.b64 s n q) % 9223372036854775808 ≤ 9218868437227405312 := by
  unfold FP.Core.bound
  rw [b64_Q]
  split
  · rename_i h1
    exact enc_fin h h1
  · exact enc_inf
theorem enc_settle : FP.Core.encode FP.Core.b64 (FP.Core.settle FP.Core.b64 s n q) % 9223372036854775808 ≤ 9218868437227405312 := by
  unfold FP.Core.settle
  split
  · rename_i h1
    exact enc_bound h1
  · exact enc_bound (by rw [b64_t]; decide)
theorem enc_ratio : FP.Core.encode FP.Core.b64 (FP.Core.roundRatio FP.Core.b64 s num den e) % 9223372036854775808 ≤ 9218868437227405312 := by
  unfold FP.Core.roundRatio
  split
  · exact enc_fin (by decide) (by decide)
  · exact enc_settle
theorem dec_num (h : n % 9223372036854775808 ≤ 9218868437227405312) : FP.Core.decode FP.Core.b64 n ≠ .nan := by
  unfold FP.Core.decode FP.Core.fieldE FP.Core.fieldT
  rw [b64_t, b64_e]
  split
  · split
    · exact FP.Core.Datum.noConfusion
    · omega
  · split <;> exact FP.Core.Datum.noConfusion
theorem div_num (h : n % 9223372036854775808 ≤ 9218868437227405312) (h1 : FP.Core.decode FP.Core.b64 m = .fin false x' q) (h2 : x' ≠ 0) : FP.Core.div FP.Core.b64 n m % 9223372036854775808 ≤ 9218868437227405312 := by
  unfold FP.Core.div
  have h3 := dec_num h
  rw [h1]
  cases h4 : FP.Core.decode FP.Core.b64 n with
  | nan => exact absurd h4 h3
  | inf t => exact enc_inf
  | fin t c r =>
    show FP.Core.encode FP.Core.b64 (if x' = 0 then (if c = 0 then .nan else .inf (t != false)) else FP.Core.roundRatio FP.Core.b64 (t != false) c x' (r - q)) % _ ≤ _
    rw [if_neg h2]
    exact enc_ratio
theorem u64_num (h : n % 9223372036854775808 ≤ 9218868437227405312) : vf_n64 (UInt64.ofNat n) := by
  unfold vf_n64
  rw [UInt64.le_iff_toNat_le, UInt64.toNat_and, show (0x7fffffffffffffff : UInt64).toNat = 2 ^ 63 - 1 from rfl, Nat.and_two_pow_sub_one_eq_mod, UInt64.toNat_ofNat']
  show n % 18446744073709551616 % 9223372036854775808 ≤ 9218868437227405312
  omega
theorem i2d_5 : ∀ b : Nat, b < 6 → 1 ≤ b → ∃ x q, FP.Core.decode FP.Core.b64 (FP.i2d (nI b)).toNat = .fin false x q ∧ x ≠ 0 := by
  intro b h1 h2
  have : b = 1 ∨ b = 2 ∨ b = 3 ∨ b = 4 ∨ b = 5 := by omega
  rcases this with rfl | rfl | rfl | rfl | rfl
  · exact ⟨_, _, rfl, by decide⟩
  · exact ⟨_, _, rfl, by decide⟩
  · exact ⟨_, _, rfl, by decide⟩
  · exact ⟨_, _, rfl, by decide⟩
  · exact ⟨_, _, rfl, by decide⟩
theorem ddiv_num {b : Nat} (h1 : b < 6) (h2 : 1 ≤ b) : vf_n64 (FP.ddiv (FP.i2d v) (FP.i2d (nI b))) := by
  obtain ⟨x, q, h3, h4⟩ := i2d_5 b h1 h2
  refine u64_num (div_num ?_ h3 h4)
  show (UInt64.ofNat (FP.Core.encode FP.Core.b64 (FP.Core.roundRatio FP.Core.b64 _ _ _ _))).toNat % 9223372036854775808 ≤ 9218868437227405312
  rw [UInt64.toNat_ofNat']
  have := @enc_ratio (decide (v.toInt < 0)) 0 v.toInt.natAbs 1
  show _ % 18446744073709551616 % 9223372036854775808 ≤ 9218868437227405312
  omega
end SHARE
