/-! eatenShare -/
section EATEN
variable {c' : Bool} {i : Nat} {M M1 M' : TM} {T U : Nat} {K : TM → Prop} {p q u v r2 r4 : Int32} {R R' : Nat → Int32} {nx h ci di r : Nat}
theorem f_all : ∀ a : Fin 31, ∀ b : Fin 31, 1 ≤ a.val + b.val → (FP.fdiv (FP.i2f (nI a.val)) (FP.i2f (nI a.val + nI b.val)) &&& 0x7fffffff ≤ 0x7f800000) ∧ (FP.f2d (FP.fdiv (FP.i2f (nI a.val)) (FP.i2f (nI a.val + nI b.val))) &&& 0x7fffffffffffffff ≤ 0x7ff0000000000000) := by decide +kernel
theorem f_num {a b : Nat} (ha : a ≤ 30) (hb : b ≤ 30) (h : 1 ≤ a + b) : vf_n32 (FP.fdiv (FP.i2f (nI a)) (FP.i2f (nI a + nI b))) ∧ vf_n64 (FP.f2d (FP.fdiv (FP.i2f (nI a)) (FP.i2f (nI a + nI b)))) := f_all ⟨a, by omega⟩ ⟨b, by omega⟩ h
theorem f_zero : vf_n64 (FP.f2d FP.fconst0) := by unfold vf_n64; decide +kernel
end EATEN
