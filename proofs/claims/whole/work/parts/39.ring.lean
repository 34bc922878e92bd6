/-! ring, of the class -/
/-- y leads z and z leads x -/
def rgP (K : Nat) (Bs : Nat → Nat → Nat → Bool) (x y z : Nat) : Bool := decide (0 < ldF K Bs y z) && decide (0 < ldF K Bs z x)
theorem p_third_l {d t N K x y : Nat} {Bs : Nat → Nat → Nat → Bool} {M : mx_M} {Q : mx_O → mx_M → Prop} (T : mx_Tp M) (C : ctxC M t N K Bs) (hx : x < N) (hy : y < N) :
    ∀ (k i : Nat), i + k = N → Q (.inl (some (.int (fz N (fnd (rgP K Bs x y) i k))))) M → mx_W m_X10_thirdOfRing (d + 1 + 1 + 1 + 1) 4 [.ref 1, .int (w x), .int (w y), .int (w i)] [] M Q
  | 0, i, hi, hq => by
    have hb := C.2.2.1
    rw [fz_ge (by unfold fnd; omega)] at hq
    refine x_X10_thirdOfRing_4 T t C.1.1 C.1.2 _ _ _ ⟨fun _ => hq, fun h => absurd ?_ h⟩
    rw [C.2.1.1, w_le (by omega) (by omega)]
    omega
  | k + 1, i, hi, hq => by
    have hb := C.2.2.1
    have no : ¬ rgP K Bs x y i = true → mx_W m_X10_thirdOfRing (d + 1 + 1 + 1 + 1) 4 [.ref 1, .int (w x), .int (w y), .int (w i + 1)] [] M Q := by
      intro g
      rw [fnd_next g] at hq
      rw [w_add1]
      exact p_third_l T C hx hy k (i + 1) (by omega) hq
    refine x_X10_thirdOfRing_4 T t C.1.1 C.1.2 _ _ _ ⟨fun h => ?_, fun _ => p_lead T C hy (by omega) ⟨rfl, rfl, _, rfl, fun g => no ?_, fun g => p_lead T C (by omega) hx ⟨rfl, rfl, _, rfl, fun g2 => no ?_, fun g2 => ?_⟩⟩⟩
    · rw [C.2.1.1, w_le (by omega) (by omega)] at h
      omega
    · unfold rgP
      simp only [decide_eq_false (Int32.not_lt.mpr g), Bool.false_and]
      decide
    · unfold rgP
      simp only [decide_eq_false (Int32.not_lt.mpr g2), Bool.and_false]
      decide
    · rw [fnd_stop (by unfold rgP; simp only [decide_eq_true (Int32.not_le.mp g), decide_eq_true (Int32.not_le.mp g2), Bool.and_true]), fz_lt (by omega)] at hq
      exact hq
