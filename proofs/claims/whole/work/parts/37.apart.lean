/-! votes of the reference; couples of cards that two orders have otherwise -/
theorem p_votesFor {d N K x y : Nat} {Bs : Nat → Nat → Nat → Bool} {M : mx_M} {Q : mx_O → mx_M → Prop} (T : mx_Tp M) (C : ctxM M N K Bs) (hx : x < N) (hy : y < N)
    (hq : ∀ M1, lik mSc M M1 → Q (.inl (some (.int (ldF K Bs x y)))) M1) : mx_W m_X11_votesFor (d + 4 + 1) 0 [.ref 58, .int (w x), .int (w y), .retAddr 0, .retAddr 0] [] M Q := by
  have hb := C.2.1
  refine x_X11_votesFor_0 T _ _ ?_
  by_cases hxy : x = y
  · have h := hq M (lik_refl _ _)
    unfold ldF at h
    rw [if_pos hxy] at h
    exact x_X11_votesFor_5 T _ _ _ _ ⟨fun _ => h, fun _ => ⟨fun _ => h, fun g => absurd (by rw [hxy]) g⟩⟩
  · exact p_votesFor_l C hx hy hxy hq K 0 0 M T (lik_refl _ _) (Nat.zero_add K) (Nat.zero_add _)
theorem p_isApart {d t N o o2 x y : Nat} {B B2 : Nat → Nat → Bool} {M : mx_M} {Q : mx_O → mx_M → Prop} (T : mx_Tp M) (ht : mx_Cat t) (ht0 : mx_R M 1 10 = t) (A : ahC M o N B) (A2 : ahC M o2 N B2) (hx : x < N) (hy : y < N) (hq : Q (.inl (some (.int (mx_b (B x y != B2 x y))))) M) : mx_W m_X10_isApart (d + 1 + 1) 0 [.ref 1, .int (w o), .int (w o2), .int (w x), .int (w y)] [] M Q := by
  refine x_X10_isApart_0 T t ht ht0 _ _ _ _ (p_isAhead T A hx hy ⟨rfl, rfl, _, rfl, p_isAhead T A2 hx hy ⟨rfl, rfl, _, rfl, fun h => ?_, fun h => ?_⟩⟩)
  · have : (B x y != B2 x y) = false := by
      cases h1 : B x y <;> cases h2 : B2 x y <;> first | rfl | (rw [h1, h2] at h; exact absurd h (by decide))
    rw [this] at hq
    exact hq
  · have : (B x y != B2 x y) = true := by
      cases h1 : B x y <;> cases h2 : B2 x y <;> first | rfl | (rw [h1, h2] at h; exact absurd rfl h)
    rw [this] at hq
    exact hq
/-- couples from i on (k of them) of which p holds -/
def cpl (p : Nat → Nat → Bool) : Nat → Nat → Nat
  | _, 0 => 0
  | i, k + 1 => cnt (fun j => p i j) (i + 1) k + cpl p (i + 1) k
theorem p_couplesApart_l {d t N o o2 : Nat} {B B2 : Nat → Nat → Bool} {M : mx_M} {Q : mx_O → mx_M → Prop} (T : mx_Tp M) (ht : mx_Cat t) (ht0 : mx_R M 1 10 = t) (hN : mx_I M t 12 = w N) (h10 : N ≤ 10) (A : ahC M o N B) (A2 : ahC M o2 N B2) (i : Nat) (hi : i < N)
    (X : ∀ s, Q (.inl (some (.int (w (s + cpl (fun x y => B x y != B2 x y) (i + 1) (N - (i + 1))))))) M → mx_W m_X10_couplesApart (d + 1 + 1 + 1) 5 [.ref 1, .int (w o), .int (w o2), .int (w s), .int (w (i + 1)), .retAddr 0] [] M Q) :
    ∀ (k j s : Nat), j + k = N → Q (.inl (some (.int (w (s + cnt (fun j => B i j != B2 i j) j k + cpl (fun x y => B x y != B2 x y) (i + 1) (N - (i + 1))))))) M → mx_W m_X10_couplesApart (d + 1 + 1 + 1) 23 [.ref 1, .int (w o), .int (w o2), .int (w s), .int (w i), .int (w j)] [] M Q
  | 0, j, s, hj, hq => by
    refine x_X10_couplesApart_23 T t ht ht0 _ _ _ _ _ ⟨fun _ => ?_, fun h => absurd ?_ h⟩
    · rw [w_add1]
      exact X s hq
    · rw [hN, w_le (by omega) (by omega)]
      omega
  | k + 1, j, s, hj, hq => by
    refine x_X10_couplesApart_23 T t ht ht0 _ _ _ _ _ ⟨fun h => ?_, fun h => p_isApart T ht ht0 A A2 hi (by omega) ⟨rfl, rfl, _, rfl, fun g => ?_, fun g => ?_⟩⟩
    · rw [hN, w_le (by omega) (by omega)] at h
      omega
    · rw [cnt_no (p := fun j => B i j != B2 i j) (by rw [g]; decide)] at hq
      rw [w_add1]
      exact p_couplesApart_l T ht ht0 hN h10 A A2 i hi X k (j + 1) s (by omega) hq
    · rw [cnt_yes (p := fun j => B i j != B2 i j) g] at hq
      rw [w_add1, w_add1]
      exact p_couplesApart_l T ht ht0 hN h10 A A2 i hi X k (j + 1) (s + 1) (by omega) (by rw [show s + 1 + cnt (fun j => B i j != B2 i j) (j + 1) k = s + (cnt (fun j => B i j != B2 i j) (j + 1) k + 1) by omega]; exact hq)
theorem p_couplesApart_m {d t N o o2 : Nat} {B B2 : Nat → Nat → Bool} {M : mx_M} {Q : mx_O → mx_M → Prop} (T : mx_Tp M) (ht : mx_Cat t) (ht0 : mx_R M 1 10 = t) (hN : mx_I M t 12 = w N) (h10 : N ≤ 10) (A : ahC M o N B) (A2 : ahC M o2 N B2) :
    ∀ (k i s : Nat), i + k = N → Q (.inl (some (.int (w (s + cpl (fun x y => B x y != B2 x y) i k))))) M → mx_W m_X10_couplesApart (d + 1 + 1 + 1) 5 [.ref 1, .int (w o), .int (w o2), .int (w s), .int (w i), .retAddr 0] [] M Q
  | 0, i, s, hi, hq => by
    refine x_X10_couplesApart_5 T t ht ht0 _ _ _ _ ⟨fun _ => hq, fun h => absurd ?_ h⟩
    rw [hN, w_le (by omega) (by omega)]
    omega
  | k + 1, i, s, hi, hq => by
    refine x_X10_couplesApart_5 T t ht ht0 _ _ _ _ ⟨fun h => ?_, fun h => ?_⟩
    · rw [hN, w_le (by omega) (by omega)] at h
      omega
    · rw [w_add1]
      have e : N - (i + 1) = k := by omega
      refine p_couplesApart_l T ht ht0 hN h10 A A2 i (by omega) (fun s9 h9 => p_couplesApart_m T ht ht0 hN h10 A A2 k (i + 1) s9 (by omega) (by rw [e] at h9; exact h9)) k (i + 1) s (by omega) ?_
      rw [e, Nat.add_assoc]
      exact hq
theorem p_couplesApart {d t N o o2 : Nat} {B B2 : Nat → Nat → Bool} {M : mx_M} {Q : mx_O → mx_M → Prop} (T : mx_Tp M) (ht : mx_Cat t) (ht0 : mx_R M 1 10 = t) (hN : mx_I M t 12 = w N) (h10 : N ≤ 10) (A : ahC M o N B) (A2 : ahC M o2 N B2)
    (hq : Q (.inl (some (.int (w (cpl (fun x y => B x y != B2 x y) 0 N))))) M) : mx_W m_X10_couplesApart (d + 1 + 1 + 1) 0 [.ref 1, .int (w o), .int (w o2), .retAddr 0, .retAddr 0, .retAddr 0] [] M Q :=
  x_X10_couplesApart_0 T t ht ht0 _ _ (p_couplesApart_m T ht ht0 hN h10 A A2 N 0 0 (Nat.zero_add N) (by rw [Nat.zero_add]; exact hq))
