/-! votes, by class and by reference -/
/-- the class's catalogue t tells N cards and K clerks, and its orders are by Bs -/
def ctxC (M : mx_M) (t N K : Nat) (Bs : Nat → Nat → Nat → Bool) : Prop := (mx_Cat t ∧ mx_R M 1 10 = t) ∧ (mx_I M t 12 = w N ∧ mx_I M t 13 = w K) ∧ (N ≤ 10 ∧ K ≤ 4) ∧ ∀ o, o < K → ahC M o N (Bs o)
/-- the same of the reference -/
def ctxM (M : mx_M) (N K : Nat) (Bs : Nat → Nat → Nat → Bool) : Prop := (mx_I M 58 1 = w N ∧ mx_I M 58 2 = w K) ∧ (N ≤ 10 ∧ K ≤ 4) ∧ ∀ o, o < K → befM M o N (Bs o)
theorem p_clerksFor_l {d t N K x y : Nat} {Bs : Nat → Nat → Nat → Bool} {M : mx_M} {Q : mx_O → mx_M → Prop} (T : mx_Tp M) (C : ctxC M t N K Bs) (hx : x < N) (hy : y < N) :
    ∀ (k i s : Nat), i + k = K → Q (.inl (some (.int (w (s + cnt (fun o => Bs o x y) i k))))) M → mx_W m_X10_clerksFor (d + 1 + 1) 5 [.ref 1, .int (w x), .int (w y), .int (w s), .int (w i)] [] M Q
  | 0, i, s, hi, hq => by
    have hb := C.2.2.1
    refine x_X10_clerksFor_5 T t C.1.1 C.1.2 _ _ _ _ ⟨fun _ => hq, fun h => absurd ?_ h⟩
    rw [C.2.1.2, w_le (by omega) (by omega)]
    omega
  | k + 1, i, s, hi, hq => by
    have hb := C.2.2.1
    refine x_X10_clerksFor_5 T t C.1.1 C.1.2 _ _ _ _ ⟨fun h => ?_, fun h => p_isAhead T (C.2.2.2 i (by omega)) hx hy ⟨rfl, rfl, _, rfl, fun g => ?_, fun g => ?_⟩⟩
    · rw [C.2.1.2, w_le (by omega) (by omega)] at h
      omega
    · rw [cnt_no (by simpa using g)] at hq
      rw [w_add1]
      exact p_clerksFor_l T C hx hy k (i + 1) s (by omega) hq
    · rw [cnt_yes (by simpa using g)] at hq
      rw [w_add1, w_add1]
      exact p_clerksFor_l T C hx hy k (i + 1) (s + 1) (by omega) (by rw [show s + 1 + cnt (fun o => Bs o x y) (i + 1) k = s + (cnt (fun o => Bs o x y) (i + 1) k + 1) by omega]; exact hq)
theorem p_clerksFor {d t N K x y : Nat} {Bs : Nat → Nat → Nat → Bool} {M : mx_M} {Q : mx_O → mx_M → Prop} (T : mx_Tp M) (C : ctxC M t N K Bs) (hx : x < N) (hy : y < N) (hq : Q (.inl (some (.int (w (cnt (fun o => Bs o x y) 0 K))))) M) : mx_W m_X10_clerksFor (d + 1 + 1) 0 [.ref 1, .int (w x), .int (w y), .retAddr 0, .retAddr 0] [] M Q :=
  x_X10_clerksFor_0 T t C.1.1 C.1.2 _ _ (p_clerksFor_l T C hx hy K 0 0 (Nat.zero_add K) (by rw [Nat.zero_add]; exact hq))
/-- by how many votes x leads y -/
def ldF (K : Nat) (Bs : Nat → Nat → Nat → Bool) (x y : Nat) : Int32 := if x = y then 0 else 2 * w (cnt (fun o => Bs o x y) 0 K) - w K
theorem p_lead {d t N K x y : Nat} {Bs : Nat → Nat → Nat → Bool} {M : mx_M} {Q : mx_O → mx_M → Prop} (T : mx_Tp M) (C : ctxC M t N K Bs) (hx : x < N) (hy : y < N) (hq : Q (.inl (some (.int (ldF K Bs x y)))) M) : mx_W m_X10_lead (d + 1 + 1 + 1) 0 [.ref 1, .int (w x), .int (w y)] [] M Q := by
  have hb := C.2.2.1
  refine x_X10_lead_0 T t C.1.1 C.1.2 _ _ ⟨fun h => p_clerksFor T C hx hy ⟨rfl, rfl, _, rfl, ?_⟩, fun h => ?_⟩
  · rw [w_inj (by omega) (by omega)] at h
    unfold ldF at hq
    rw [if_neg h] at hq
    rw [C.2.1.2]
    exact hq
  · rw [w_inj (by omega) (by omega)] at h
    unfold ldF at hq
    rw [if_pos h] at hq
    exact hq
theorem vt_up (a b : Int32) : 2 * a - b + 1 = 2 * (a + 1) - (b + 1) := by grind
theorem vt_dn (a b : Int32) : 2 * a - b + (-1) = 2 * a - (b + 1) := by grind
theorem p_votesFor_l {d N K x y : Nat} {Bs : Nat → Nat → Nat → Bool} {M0 : mx_M} {Q : mx_O → mx_M → Prop} (C : ctxM M0 N K Bs) (hx : x < N) (hy : y < N) (hxy : ¬ x = y)
    (hq : ∀ M1, lik mSc M0 M1 → Q (.inl (some (.int (ldF K Bs x y)))) M1) :
    ∀ (k i s : Nat) (M : mx_M), mx_Tp M → lik mSc M0 M → i + k = K → s + cnt (fun o => Bs o x y) i k = cnt (fun o => Bs o x y) 0 K → mx_W m_X11_votesFor (d + 4 + 1) 5 [.ref 58, .int (w x), .int (w y), .int (2 * w s - w i), .int (w i)] [] M Q
  | 0, i, s, M, T, L, hi, hs => by
    have hb := C.2.1
    refine x_X11_votesFor_5 T _ _ _ _ ⟨fun _ => ?_, fun h => absurd ?_ h⟩
    · have h := hq M L
      unfold ldF at h
      rw [if_neg hxy, ← hs, ← hi] at h
      exact h
    · rw [(L.2 58 (by intro z; rcases z with z | z <;> omega)).1, C.1.2, w_le (by omega) (by omega)]
      omega
  | k + 1, i, s, M, T, L, hi, hs => by
    have hb := C.2.1
    refine x_X11_votesFor_5 T _ _ _ _ ⟨fun h => ?_, fun _ => ⟨fun h => ?_, fun _ => ?_⟩⟩
    · rw [(L.2 58 (by intro z; rcases z with z | z <;> omega)).1, C.1.2, w_le (by omega) (by omega)] at h
      omega
    · rw [w_inj (by omega) (by omega)] at h
      exact absurd h hxy
    · refine C.2.2 i (by omega) d M x y _ (sc_rd L) T hx hy (fun M1 L1 => ⟨L1.1.1, L1.1.2.1, _, rfl, fun g => ?_, fun g => ?_⟩)
      · rw [cnt_no (by simpa using g)] at hs
        rw [vt_dn, w_add1]
        exact p_votesFor_l C hx hy hxy hq k (i + 1) s M1 (lik_T L1 T) (lik_trans L L1) (by omega) hs
      · rw [cnt_yes (by simpa using g)] at hs
        rw [vt_up, w_add1, w_add1]
        exact p_votesFor_l C hx hy hxy hq k (i + 1) (s + 1) M1 (lik_T L1 T) (lik_trans L L1) (by omega) (by omega)
