/-! a row of the class: who is where -/
/-- the row at a is of n cards, f 0, f 1, .., all below N -/
def rowC (M : mx_M) (a n N : Nat) (f : Nat → Nat) : Prop := mx_I M a 1 = w n ∧ (n ≤ 10 ∧ N ≤ 10) ∧ ∀ i, i < n → mx_I M (a + 1) i = w (f i) ∧ f i < N
/-- the place of a card, or -1 -/
def plc (n : Nat) (f : Nat → Nat) (c : Nat) : Int32 := fz n (fnd (fun i => decide (f i = c)) 0 n)
theorem p_placeOf_l {d a n N : Nat} {f : Nat → Nat} {M : mx_M} {Q : mx_O → mx_M → Prop} (T : mx_Tp M) (ha : mx_Row a) (R : rowC M a n N f) (c : Nat) (hc : c < 10) :
    ∀ (k i : Nat), i + k = n → Q (.inl (some (.int (fz n (fnd (fun i => decide (f i = c)) i k))))) M → mx_W m_X5_placeOf d 2 [.ref a, .int (w c), .int (w i)] [] M Q
  | 0, i, hi, hq => by
    have h10 := R.2.1
    rw [fz_ge (by unfold fnd; omega)] at hq
    refine x_X5_placeOf_2 T a ha _ _ ⟨fun _ => hq, fun h => absurd ?_ h⟩
    rw [R.1, w_le (by omega) (by omega)]
    omega
  | k + 1, i, hi, hq => by
    have h10 := R.2.1
    have ho := R.2.2 i (by omega)
    refine x_X5_placeOf_2 T a ha _ _ ⟨fun h => ?_, fun h => ⟨w_in (by omega) (by omega), fun g => ?_, fun g => ?_⟩⟩
    · rw [R.1, w_le (by omega) (by omega)] at h
      omega
    · rw [w_nat (by omega), ho.1, w_inj (by omega) (by omega)] at g
      rw [fnd_next (by simpa using g)] at hq
      rw [w_add1]
      exact p_placeOf_l T ha R c hc k (i + 1) (by omega) hq
    · rw [w_nat (by omega), ho.1, w_inj (by omega) (by omega)] at g
      rw [fnd_stop (by simpa using g), fz_lt (by omega)] at hq
      exact hq
theorem p_placeOf {d a n N : Nat} {f : Nat → Nat} {M : mx_M} {Q : mx_O → mx_M → Prop} (T : mx_Tp M) (ha : mx_Row a) (R : rowC M a n N f) (c : Nat) (hc : c < 10) (hq : Q (.inl (some (.int (plc n f c)))) M) : mx_W m_X5_placeOf d 0 [.ref a, .int (w c), .retAddr 0] [] M Q :=
  x_X5_placeOf_0 T a ha _ (p_placeOf_l T ha R c hc n 0 (Nat.zero_add n) hq)
/-- by the ranks of an order: is x ahead of y -/
def rkC (M : mx_M) (o : Nat) (g : Nat → Nat) (n : Nat) : Prop := o < 5 ∧ n ≤ 10 ∧ ∀ x, x < n → mx_I M 27 (10 * o + x) = w (g x) ∧ g x < 10
theorem p_rankOf {d o n x : Nat} {g : Nat → Nat} {M : mx_M} {Q : mx_O → mx_M → Prop} (T : mx_Tp M) (G : rkC M o g n) (hx : x < n) (hq : Q (.inl (some (.int (w (g x))))) M) : mx_W m_X3_rankOf d 0 [.ref 24, .int (w o), .int (w x)] [] M Q := by
  have h1 := G.1
  have h2 := G.2.1
  have e : w o * 10 + w x = w (10 * o + x) := by
    rw [show (10 : Int32) = w 10 from rfl, w_mul, w_add, Nat.mul_comm]
  refine x_X3_rankOf_0 T _ _ ?_
  rw [e, w_nat (by omega), (G.2.2 x hx).1]
  exact ⟨w_in (by omega) (by omega), hq⟩
/-- by the ranks of an order, of N cards: B x y, if x is ahead of y -/
def ahC (M : mx_M) (o N : Nat) (B : Nat → Nat → Bool) : Prop := ∃ g, rkC M o g N ∧ ∀ x y, x < N → y < N → B x y = decide (g x < g y)
theorem p_isAhead {d o N x y : Nat} {B : Nat → Nat → Bool} {M : mx_M} {Q : mx_O → mx_M → Prop} (T : mx_Tp M) (A : ahC M o N B) (hx : x < N) (hy : y < N) (hq : Q (.inl (some (.int (mx_b (B x y))))) M) : mx_W m_X3_isAhead (d + 1) 0 [.ref 24, .int (w o), .int (w x), .int (w y)] [] M Q := by
  obtain ⟨g, G, hB⟩ := A
  rw [hB x y hx hy] at hq
  have gx := (G.2.2 x hx).2
  have gy := (G.2.2 y hy).2
  refine x_X3_isAhead_0 T _ _ _ (p_rankOf T G hx ⟨rfl, rfl, _, rfl, p_rankOf T G hy ⟨rfl, rfl, _, rfl, fun h => ?_, fun h => ?_⟩⟩)
  · rw [w_le (by omega) (by omega)] at h
    rw [decide_eq_false (by omega)] at hq
    exact hq
  · rw [w_le (by omega) (by omega)] at h
    rw [decide_eq_true (by omega)] at hq
    exact hq
/-- where a card would be put -/
def plf (n : Nat) (f : Nat → Nat) (B : Nat → Nat → Bool) (c : Nat) : Nat := fnd (fun i => B c (f i)) 0 n
theorem p_placeFor_l {d a n N o : Nat} {f : Nat → Nat} {B : Nat → Nat → Bool} {M : mx_M} {Q : mx_O → mx_M → Prop} (T : mx_Tp M) (ha : mx_Row a) (R : rowC M a n N f) (A : ahC M o N B) (c : Nat) (hc : c < N) :
    ∀ (k i : Nat), i + k = n → Q (.inl (some (.int (w (fnd (fun i => B c (f i)) i k))))) M → mx_W m_X5_placeFor (d + 1 + 1) 3 [.ref a, .ref 24, .int (w o), .int (w c), .int (w i)] [] M Q
  | 0, i, hi, hq => by
    have h10 := R.2.1
    refine x_X5_placeFor_3 T a ha _ _ _ ⟨fun _ => ?_, fun h => absurd ?_ h⟩
    · rw [R.1, ← hi]
      exact hq
    · rw [R.1, w_le (by omega) (by omega)]
      omega
  | k + 1, i, hi, hq => by
    have h10 := R.2.1
    have ho := R.2.2 i (by omega)
    refine x_X5_placeFor_3 T a ha _ _ _ ⟨fun h => ?_, fun h => ⟨w_in (by omega) (by omega), ?_⟩⟩
    · rw [R.1, w_le (by omega) (by omega)] at h
      omega
    · rw [w_nat (by omega), ho.1]
      refine p_isAhead T A hc ho.2 ⟨rfl, rfl, _, rfl, fun g => ?_, fun g => ?_⟩
      · rw [fnd_next (by simpa using g)] at hq
        rw [w_add1]
        exact p_placeFor_l T ha R A c hc k (i + 1) (by omega) hq
      · rw [fnd_stop (by simpa using g)] at hq
        exact hq
theorem p_placeFor {d a n N o : Nat} {f : Nat → Nat} {B : Nat → Nat → Bool} {M : mx_M} {Q : mx_O → mx_M → Prop} (T : mx_Tp M) (ha : mx_Row a) (R : rowC M a n N f) (A : ahC M o N B) (c : Nat) (hc : c < N) (hq : Q (.inl (some (.int (w (plf n f B c))))) M) : mx_W m_X5_placeFor (d + 1 + 1) 0 [.ref a, .ref 24, .int (w o), .int (w c), .retAddr 0] [] M Q :=
  x_X5_placeFor_0 T a ha _ _ (p_placeFor_l T ha R A c hc n 0 (Nat.zero_add n) hq)
/-- how many are ahead of a card -/
theorem p_countAhead_l {d a n N o : Nat} {f : Nat → Nat} {B : Nat → Nat → Bool} {M : mx_M} {Q : mx_O → mx_M → Prop} (T : mx_Tp M) (ha : mx_Row a) (R : rowC M a n N f) (A : ahC M o N B) (c : Nat) (hc : c < N) :
    ∀ (k i s : Nat), i + k = n → Q (.inl (some (.int (w (s + cnt (fun i => B (f i) c) i k))))) M → mx_W m_X5_countAhead (d + 1 + 1) 6 [.ref a, .ref 24, .int (w o), .int (w c), .int (w s), .int (w i)] [] M Q
  | 0, i, s, hi, hq => by
    have h10 := R.2.1
    refine x_X5_countAhead_6 T a ha _ _ _ _ ⟨fun _ => hq, fun h => absurd ?_ h⟩
    rw [R.1, w_le (by omega) (by omega)]
    omega
  | k + 1, i, s, hi, hq => by
    have h10 := R.2.1
    have ho := R.2.2 i (by omega)
    refine x_X5_countAhead_6 T a ha _ _ _ _ ⟨fun h => ?_, fun h => ⟨w_in (by omega) (by omega), ?_⟩⟩
    · rw [R.1, w_le (by omega) (by omega)] at h
      omega
    · rw [w_nat (by omega), ho.1]
      refine p_isAhead T A ho.2 hc ⟨rfl, rfl, _, rfl, fun g => ?_, fun g => ?_⟩
      · rw [cnt_no (by simpa using g)] at hq
        rw [w_add1]
        exact p_countAhead_l T ha R A c hc k (i + 1) s (by omega) hq
      · rw [cnt_yes (by simpa using g)] at hq
        rw [w_add1, w_add1]
        exact p_countAhead_l T ha R A c hc k (i + 1) (s + 1) (by omega) (by rw [show s + 1 + cnt (fun i => B (f i) c) (i + 1) k = s + (cnt (fun i => B (f i) c) (i + 1) k + 1) by omega]; exact hq)
theorem p_countAhead {d a n N o : Nat} {f : Nat → Nat} {B : Nat → Nat → Bool} {M : mx_M} {Q : mx_O → mx_M → Prop} (T : mx_Tp M) (ha : mx_Row a) (R : rowC M a n N f) (A : ahC M o N B) (c : Nat) (hc : c < N) (hq : Q (.inl (some (.int (w (cnt (fun i => B (f i) c) 0 n))))) M) : mx_W m_X5_countAhead (d + 1 + 1) 0 [.ref a, .ref 24, .int (w o), .int (w c), .retAddr 0, .retAddr 0] [] M Q :=
  x_X5_countAhead_0 T a ha _ _ (p_countAhead_l T ha R A c hc n 0 0 (Nat.zero_add n) (by rw [Nat.zero_add]; exact hq))
/-- couples of places i.. (k of them) that are wrong -/
def wrb (f : Nat → Nat) (B : Nat → Nat → Bool) : Nat → Nat → Nat
  | _, 0 => 0
  | i, k + 1 => cnt (fun j => B (f j) (f i)) (i + 1) k + wrb f B (i + 1) k
theorem p_wrongBy_l {d a n N o : Nat} {f : Nat → Nat} {B : Nat → Nat → Bool} {M : mx_M} {Q : mx_O → mx_M → Prop} (T : mx_Tp M) (ha : mx_Row a) (R : rowC M a n N f) (A : ahC M o N B) (i : Nat) (hi : i < n)
    (X : ∀ s, Q (.inl (some (.int (w (s + wrb f B (i + 1) (n - (i + 1))))))) M → mx_W m_X5_wrongBy (d + 1 + 1) 5 [.ref a, .ref 24, .int (w o), .int (w s), .int (w (i + 1)), .retAddr 0] [] M Q) :
    ∀ (k j s : Nat), j + k = n → Q (.inl (some (.int (w (s + cnt (fun j => B (f j) (f i)) j k + wrb f B (i + 1) (n - (i + 1))))))) M → mx_W m_X5_wrongBy (d + 1 + 1) 20 [.ref a, .ref 24, .int (w o), .int (w s), .int (w i), .int (w j)] [] M Q
  | 0, j, s, hj, hq => by
    have h10 := R.2.1
    refine x_X5_wrongBy_20 T a ha _ _ _ _ ⟨fun _ => ?_, fun h => absurd ?_ h⟩
    · rw [w_add1]
      exact X s hq
    · rw [R.1, w_le (by omega) (by omega)]
      omega
  | k + 1, j, s, hj, hq => by
    have h10 := R.2.1
    have ho := R.2.2 j (by omega)
    have hi9 := R.2.2 i hi
    refine x_X5_wrongBy_20 T a ha _ _ _ _ ⟨fun h => ?_, fun h => ⟨w_in (by omega) (by omega), w_in (by omega) (by omega), ?_⟩⟩
    · rw [R.1, w_le (by omega) (by omega)] at h
      omega
    · rw [w_nat (by omega), w_nat (by omega), ho.1, hi9.1]
      refine p_isAhead T A ho.2 hi9.2 ⟨rfl, rfl, _, rfl, fun g => ?_, fun g => ?_⟩
      · rw [cnt_no (by simpa using g)] at hq
        rw [w_add1]
        exact p_wrongBy_l T ha R A i hi X k (j + 1) s (by omega) hq
      · rw [cnt_yes (by simpa using g)] at hq
        rw [w_add1, w_add1]
        exact p_wrongBy_l T ha R A i hi X k (j + 1) (s + 1) (by omega) (by rw [show s + 1 + cnt (fun j => B (f j) (f i)) (j + 1) k = s + (cnt (fun j => B (f j) (f i)) (j + 1) k + 1) by omega]; exact hq)
theorem p_wrongBy_m {d a n N o : Nat} {f : Nat → Nat} {B : Nat → Nat → Bool} {M : mx_M} {Q : mx_O → mx_M → Prop} (T : mx_Tp M) (ha : mx_Row a) (R : rowC M a n N f) (A : ahC M o N B) :
    ∀ (k i s : Nat), i + k = n → Q (.inl (some (.int (w (s + wrb f B i k))))) M → mx_W m_X5_wrongBy (d + 1 + 1) 5 [.ref a, .ref 24, .int (w o), .int (w s), .int (w i), .retAddr 0] [] M Q
  | 0, i, s, hi, hq => by
    have h10 := R.2.1
    refine x_X5_wrongBy_5 T a ha _ _ _ ⟨fun _ => hq, fun h => absurd ?_ h⟩
    rw [R.1, w_le (by omega) (by omega)]
    omega
  | k + 1, i, s, hi, hq => by
    have h10 := R.2.1
    refine x_X5_wrongBy_5 T a ha _ _ _ ⟨fun h => ?_, fun h => ?_⟩
    · rw [R.1, w_le (by omega) (by omega)] at h
      omega
    · rw [w_add1]
      have e : n - (i + 1) = k := by omega
      refine p_wrongBy_l T ha R A i (by omega) (fun s9 h9 => p_wrongBy_m T ha R A k (i + 1) s9 (by omega) (by rw [e] at h9; exact h9)) k (i + 1) s (by omega) ?_
      rw [e, Nat.add_assoc]
      exact hq
theorem p_wrongBy {d a n N o : Nat} {f : Nat → Nat} {B : Nat → Nat → Bool} {M : mx_M} {Q : mx_O → mx_M → Prop} (T : mx_Tp M) (ha : mx_Row a) (R : rowC M a n N f) (A : ahC M o N B) (hq : Q (.inl (some (.int (w (wrb f B 0 n))))) M) : mx_W m_X5_wrongBy (d + 1 + 1) 0 [.ref a, .ref 24, .int (w o), .retAddr 0, .retAddr 0, .retAddr 0] [] M Q :=
  x_X5_wrongBy_0 T a ha _ (p_wrongBy_m T ha R A n 0 0 (Nat.zero_add n) (by rw [Nat.zero_add]; exact hq))
