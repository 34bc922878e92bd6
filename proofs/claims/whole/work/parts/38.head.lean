/-! head -/
def allF (p : Nat → Bool) : Nat → Nat → Bool
  | _, 0 => true
  | i, k + 1 => p i && allF p (i + 1) k
/-- x leads y, or is y -/
def hdP (K : Nat) (Bs : Nat → Nat → Nat → Bool) (x y : Nat) : Bool := decide (y = x) || decide (0 < ldF K Bs x y)
theorem p_leadsAll_l {d t N K x : Nat} {Bs : Nat → Nat → Nat → Bool} {M : mx_M} {Q : mx_O → mx_M → Prop} (T : mx_Tp M) (C : ctxC M t N K Bs) (hx : x < N) :
    ∀ (k i : Nat), i + k = N → Q (.inl (some (.int (mx_b (allF (hdP K Bs x) i k))))) M → mx_W m_X10_leadsAll (d + 1 + 1 + 1 + 1) 2 [.ref 1, .int (w x), .int (w i)] [] M Q
  | 0, i, hi, hq => by
    have hb := C.2.2.1
    refine x_X10_leadsAll_2 T t C.1.1 C.1.2 _ _ ⟨fun _ => hq, fun h => absurd ?_ h⟩
    rw [C.2.1.1, w_le (by omega) (by omega)]
    omega
  | k + 1, i, hi, hq => by
    have hb := C.2.2.1
    refine x_X10_leadsAll_2 T t C.1.1 C.1.2 _ _ ⟨fun h => ?_, fun _ => ⟨fun h => ?_, fun h => p_lead T C hx (by omega) ⟨rfl, rfl, _, rfl, fun g => ?_, fun g => ?_⟩⟩⟩
    · rw [C.2.1.1, w_le (by omega) (by omega)] at h
      omega
    · rw [w_inj (by omega) (by omega)] at h
      rw [allF, show hdP K Bs x i = true by unfold hdP; simp [h], Bool.true_and] at hq
      rw [w_add1]
      exact p_leadsAll_l T C hx k (i + 1) (by omega) hq
    · rw [allF, show hdP K Bs x i = true by unfold hdP; simp [g], Bool.true_and] at hq
      rw [w_add1]
      exact p_leadsAll_l T C hx k (i + 1) (by omega) hq
    · rw [w_inj (by omega) (by omega)] at h
      rw [allF, show hdP K Bs x i = false by unfold hdP; simp only [decide_eq_false h, decide_eq_false g, Bool.or_false], Bool.false_and] at hq
      exact hq
theorem p_head_l {d t N K : Nat} {Bs : Nat → Nat → Nat → Bool} {M : mx_M} {Q : mx_O → mx_M → Prop} (T : mx_Tp M) (C : ctxC M t N K Bs) :
    ∀ (k i : Nat), i + k = N → Q (.inl (some (.int (fz N (fnd (fun x => allF (hdP K Bs x) 0 N) i k))))) M → mx_W m_X10_head (d + 1 + 1 + 1 + 1 + 1) 2 [.ref 1, .int (w i)] [] M Q
  | 0, i, hi, hq => by
    have hb := C.2.2.1
    rw [fz_ge (by unfold fnd; omega)] at hq
    refine x_X10_head_2 T t C.1.1 C.1.2 _ ⟨fun _ => hq, fun h => absurd ?_ h⟩
    rw [C.2.1.1, w_le (by omega) (by omega)]
    omega
  | k + 1, i, hi, hq => by
    have hb := C.2.2.1
    refine x_X10_head_2 T t C.1.1 C.1.2 _ ⟨fun h => ?_, fun _ => x_X10_leadsAll_0 T t C.1.1 C.1.2 _ (p_leadsAll_l T C (by omega) N 0 (Nat.zero_add N) ⟨rfl, rfl, _, rfl, fun g => ?_, fun g => ?_⟩)⟩
    · rw [C.2.1.1, w_le (by omega) (by omega)] at h
      omega
    · rw [fnd_next (by simp [g])] at hq
      rw [w_add1]
      exact p_head_l T C k (i + 1) (by omega) hq
    · rw [fnd_stop (by simp [g]), fz_lt (by omega)] at hq
      exact hq
theorem p_head {d t N K : Nat} {Bs : Nat → Nat → Nat → Bool} {M : mx_M} {Q : mx_O → mx_M → Prop} (T : mx_Tp M) (C : ctxC M t N K Bs) (hq : Q (.inl (some (.int (fz N (fnd (fun x => allF (hdP K Bs x) 0 N) 0 N))))) M) : mx_W m_X10_head (d + 1 + 1 + 1 + 1 + 1) 0 [.ref 1, .retAddr 0] [] M Q :=
  x_X10_head_0 T t C.1.1 C.1.2 (p_head_l T C N 0 (Nat.zero_add N) hq)
