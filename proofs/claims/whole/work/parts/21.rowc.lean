/-! a row of the class: who is where -/
/-- the row at a is of n cards, f 0, f 1, .. -/
def rowC (M : mx_M) (a n : Nat) (f : Nat → Nat) : Prop := mx_I M a 1 = w n ∧ n ≤ 10 ∧ ∀ i, i < n → mx_I M (a + 1) i = w (f i) ∧ f i < 10
/-- the place of a card, or -1 -/
def plc (n : Nat) (f : Nat → Nat) (c : Nat) : Int32 := if fnd (fun i => decide (f i = c)) 0 n < n then w (fnd (fun i => decide (f i = c)) 0 n) else -1
theorem p_placeOf_l {d a n : Nat} {f : Nat → Nat} {M : mx_M} {Q : mx_O → mx_M → Prop} (T : mx_Tp M) (ha : mx_Row a) (R : rowC M a n f) (c : Nat) (hc : c < 10) :
    ∀ (k i : Nat), i + k = n → Q (.inl (some (.int (if fnd (fun i => decide (f i = c)) i k < n then w (fnd (fun i => decide (f i = c)) i k) else -1)))) M → mx_W m_X5_placeOf d 2 [.ref a, .int (w c), .int (w i)] [] M Q
  | 0, i, hi, hq => by
    unfold fnd at hq
    rw [if_neg (by omega)] at hq
    refine x_X5_placeOf_2 T a ha _ _ ⟨fun _ => hq, fun h => absurd ?_ h⟩
    rw [R.1, w_le (by have := R.2.1; omega) (by have := R.2.1; omega)]
    omega
  | k + 1, i, hi, hq => by
    have h10 := R.2.1
    have ho := R.2.2 i (by omega)
    refine x_X5_placeOf_2 T a ha _ _ ⟨fun h => ?_, fun h => ⟨w_in (by omega) (by omega), fun g => ?_, fun g => ?_⟩⟩
    · rw [R.1, w_le (by omega) (by omega)] at h
      omega
    · rw [w_nat (by omega), ho.1, w_inj (by omega) (by omega)] at g
      unfold fnd at hq
      rw [if_neg (by simpa using g)] at hq
      rw [w_add1]
      exact p_placeOf_l T ha R c hc k (i + 1) (by omega) hq
    · rw [w_nat (by omega), ho.1, w_inj (by omega) (by omega)] at g
      unfold fnd at hq
      rw [if_pos (by simpa using g), if_pos (by omega)] at hq
      exact hq
theorem p_placeOf {d a n : Nat} {f : Nat → Nat} {M : mx_M} {Q : mx_O → mx_M → Prop} (T : mx_Tp M) (ha : mx_Row a) (R : rowC M a n f) (c : Nat) (hc : c < 10) (hq : Q (.inl (some (.int (plc n f c)))) M) : mx_W m_X5_placeOf d 0 [.ref a, .int (w c), .retAddr 0] [] M Q :=
  x_X5_placeOf_0 T a ha _ (p_placeOf_l T ha R c hc n 0 (Nat.zero_add n) hq)
