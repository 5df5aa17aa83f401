/-! outputByte -/
section OUTB
variable {c' : Bool} {i : Nat} {M M1 M' : TM} {T U : Nat} {K : TM → Prop} {KI : Int32 → TM → Prop} {KV : TM → Prop} {p q u v r2 r4 : Int32} {R R' : Nat → Int32} {a b c d e f j k m x' h nx ci di r : Nat}
theorem m_outR (g : Inv T M) (hM : M 699 13 = nI b) (hb : b ≤ 31) (hK : KI (bi (!inR p b)) (u2 M 699 8 (bi (!inR p b)))) : f_X13_inRange p 0 (M 699 13 - 1) M (fun r2 M1 => f_X13_lacks r2 M1 KI) := by
  refine m_inRange ?_
  rw [hM, m_inR (by omega)]
  exact m_lacks rfl hK
theorem q_outputByte (g : Inv T M) (hK : ∀ M', Inv T M' → K M') : f_L_outputByte p M (fun r2 M1 => f_X13_outputByte p M1 (fun r4 M3 => LawE K r2 r4 M3)) := by
  unfold f_L_outputByte f_X12_outputByte
  obtain ⟨ci, di, nx, h, -, -, -, -, ⟨b, hb, o1, o2, o3⟩⟩ := id g
  have no : inR p b = false → f_X13_outputByte p M (fun r4 M3 => LawE K 1 r4 M3) := fun hp => by
    unfold f_X13_outputByte
    refine m_outR g o2 hb ?_
    rw [hp]
    exact cN' (by decide) (finF g hK)
  refine ⟨fun c1 => ⟨rfl, no (decide_eq_false fun c2 => absurd c2.1 (Int32.not_le.2 c1))⟩, fun c1 => ⟨fun c2 => ?_, fun c2 => ⟨rfl, no (decide_eq_false fun c3 => c2 (by rw [o1]; exact c3.2))⟩⟩⟩
  rw [o1] at c2
  have hp : inR p b = true := decide_eq_true ⟨Int32.not_lt.1 c1, c2⟩
  obtain ⟨j, hj, rfl⟩ := inR_of (by omega) hp
  refine ⟨vp_in_nI (by omega) (by decide), ?_⟩
  intro M4 e4
  subst e4
  unfold f_X13_outputByte
  refine m_outR (b := b) g.u710 (by rw [u2_n (by decide)]; exact o2) hb ?_
  rw [hp]
  refine cT' rfl ⟨vp_in_nI (by omega) (by decide), ?_⟩
  rw [u2_n (by decide), u2_n (by decide), nI_clamp (by omega), o3 j hj]
  exact finT g hK
end OUTB
