/-! a row of the class: who is where -/
/-- the row at a is of n cards, f 0, f 1, .. -/
def rowC (M : mx_M) (a n : Nat) (f : Nat → Nat) : Prop := mx_I M a 1 = w n ∧ n ≤ 10 ∧ ∀ i, i < n → mx_I M (a + 1) i = w (f i) ∧ f i < 10
/-- the place of a card, or -1 -/
def plc (n : Nat) (f : Nat → Nat) (c : Nat) : Int32 := fz n (fnd (fun i => decide (f i = c)) 0 n)
theorem p_placeOf_l {d a n : Nat} {f : Nat → Nat} {M : mx_M} {Q : mx_O → mx_M → Prop} (T : mx_Tp M) (ha : mx_Row a) (R : rowC M a n f) (c : Nat) (hc : c < 10) :
    ∀ (k i : Nat), i + k = n → Q (.inl (some (.int (fz n (fnd (fun i => decide (f i = c)) i k))))) M → mx_W m_X5_placeOf d 2 [.ref a, .int (w c), .int (w i)] [] M Q
  | 0, i, hi, hq => by
    have h10 := R.2.1
    rw [fz_ge (by unfold fnd; omega)] at hq
    refine x_X5_placeOf_2 T a ha _ _ ⟨fun _ => hq, fun h => absurd ?_ h⟩
    rw [R.1, w_le (by omega) (by omega)]
    omega
  | k + 1, i, hi, hq => by
    have h10 := R.2.1
    have ho := R.2.2 i (by omega)
    refine x_X5_placeOf_2 T a ha _ _ ⟨fun h => ?_, fun h => ⟨w_in (by omega) (by omega), fun g => ?_, fun g => ?_⟩⟩
    · rw [R.1, w_le (by omega) (by omega)] at h
      omega
    · rw [w_nat (by omega), ho.1, w_inj (by omega) (by omega)] at g
      rw [fnd_next (by simpa using g)] at hq
      rw [w_add1]
      exact p_placeOf_l T ha R c hc k (i + 1) (by omega) hq
    · rw [w_nat (by omega), ho.1, w_inj (by omega) (by omega)] at g
      rw [fnd_stop (by simpa using g), fz_lt (by omega)] at hq
      exact hq
theorem p_placeOf {d a n : Nat} {f : Nat → Nat} {M : mx_M} {Q : mx_O → mx_M → Prop} (T : mx_Tp M) (ha : mx_Row a) (R : rowC M a n f) (c : Nat) (hc : c < 10) (hq : Q (.inl (some (.int (plc n f c)))) M) : mx_W m_X5_placeOf d 0 [.ref a, .int (w c), .retAddr 0] [] M Q :=
  x_X5_placeOf_0 T a ha _ (p_placeOf_l T ha R c hc n 0 (Nat.zero_add n) hq)
/-- by the ranks of an order: is x ahead of y -/
def rkC (M : mx_M) (o : Nat) (g : Nat → Nat) (n : Nat) : Prop := o < 5 ∧ n ≤ 10 ∧ ∀ x, x < n → mx_I M 27 (10 * o + x) = w (g x) ∧ g x < 10
theorem p_rankOf {d o n x : Nat} {g : Nat → Nat} {M : mx_M} {Q : mx_O → mx_M → Prop} (T : mx_Tp M) (G : rkC M o g n) (hx : x < n) (hq : Q (.inl (some (.int (w (g x))))) M) : mx_W m_X3_rankOf d 0 [.ref 24, .int (w o), .int (w x)] [] M Q := by
  have h1 := G.1
  have h2 := G.2.1
  have e : w o * 10 + w x = w (10 * o + x) := by
    rw [show (10 : Int32) = w 10 from rfl, w_mul, w_add, Nat.mul_comm]
  refine x_X3_rankOf_0 T _ _ ?_
  rw [e, w_nat (by omega), (G.2.2 x hx).1]
  exact ⟨w_in (by omega) (by omega), hq⟩
theorem p_isAhead {d o n x y : Nat} {g : Nat → Nat} {M : mx_M} {Q : mx_O → mx_M → Prop} (T : mx_Tp M) (G : rkC M o g n) (hx : x < n) (hy : y < n) (hq : Q (.inl (some (.int (mx_b (decide (g x < g y)))))) M) : mx_W m_X3_isAhead (d + 1) 0 [.ref 24, .int (w o), .int (w x), .int (w y)] [] M Q := by
  have gx := (G.2.2 x hx).2
  have gy := (G.2.2 y hy).2
  refine x_X3_isAhead_0 T _ _ _ (p_rankOf T G hx ⟨rfl, rfl, _, rfl, p_rankOf T G hy ⟨rfl, rfl, _, rfl, fun h => ?_, fun h => ?_⟩⟩)
  · rw [w_le (by omega) (by omega)] at h
    rw [decide_eq_false (by omega)] at hq
    exact hq
  · rw [w_le (by omega) (by omega)] at h
    rw [decide_eq_true (by omega)] at hq
    exact hq
