/-! head -/
def allF (p : Nat → Bool) : Nat → Nat → Bool
  | _, 0 => true
  | i, k + 1 => p i && allF p (i + 1) k
/-- x leads y, or is y -/
def hdP (K : Nat) (Bs : Nat → Nat → Nat → Bool) (x y : Nat) : Bool := decide (y = x) || decide (0 < ldF K Bs x y)
theorem p_leadsAll_l {d t N K x : Nat} {Bs : Nat → Nat → Nat → Bool} {M : mx_M} {Q : mx_O → mx_M → Prop} (T : mx_Tp M) (C : ctxC M t N K Bs) (hx : x < N) :
    ∀ (k i : Nat), i + k = N → Q (.inl (some (.int (mx_b (allF (hdP K Bs x) i k))))) M → mx_W m_X10_leadsAll (d + 1 + 1 + 1 + 1) 2 [.ref 1, .int (w x), .int (w i)] [] M Q
  | 0, i, hi, hq => by
    have hb := C.2.2.1
    refine x_X10_leadsAll_2 T t C.1.1 C.1.2 _ _ ⟨fun _ => hq, fun h => absurd ?_ h⟩
    rw [C.2.1.1, w_le (by omega) (by omega)]
    omega
  | k + 1, i, hi, hq => by
    have hb := C.2.2.1
    refine x_X10_leadsAll_2 T t C.1.1 C.1.2 _ _ ⟨fun h => ?_, fun _ => ⟨fun h => ?_, fun h => p_lead T C hx (by omega) ⟨rfl, rfl, _, rfl, fun g => ?_, fun g => ?_⟩⟩⟩
    · rw [C.2.1.1, w_le (by omega) (by omega)] at h
      omega
    · rw [w_inj (by omega) (by omega)] at h
      rw [allF, show hdP K Bs x i = true by unfold hdP; simp [h], Bool.true_and] at hq
      rw [w_add1]
      exact p_leadsAll_l T C hx k (i + 1) (by omega) hq
    · rw [allF, show hdP K Bs x i = true by unfold hdP; simp [g], Bool.true_and] at hq
      rw [w_add1]
      exact p_leadsAll_l T C hx k (i + 1) (by omega) hq
    · rw [w_inj (by omega) (by omega)] at h
      rw [allF, show hdP K Bs x i = false by unfold hdP; simp only [decide_eq_false h, decide_eq_false g, Bool.or_false], Bool.false_and] at hq
      exact hq
theorem p_head_l {d t N K : Nat} {Bs : Nat → Nat → Nat → Bool} {M : mx_M} {Q : mx_O → mx_M → Prop} (T : mx_Tp M) (C : ctxC M t N K Bs) :
    ∀ (k i : Nat), i + k = N → Q (.inl (some (.int (fz N (fnd (fun x => allF (hdP K Bs x) 0 N) i k))))) M → mx_W m_X10_head (d + 1 + 1 + 1 + 1 + 1) 2 [.ref 1, .int (w i)] [] M Q
  | 0, i, hi, hq => by
    have hb := C.2.2.1
    rw [fz_ge (by unfold fnd; omega)] at hq
    refine x_X10_head_2 T t C.1.1 C.1.2 _ ⟨fun _ => hq, fun h => absurd ?_ h⟩
    rw [C.2.1.1, w_le (by omega) (by omega)]
    omega
  | k + 1, i, hi, hq => by
    have hb := C.2.2.1
    refine x_X10_head_2 T t C.1.1 C.1.2 _ ⟨fun h => ?_, fun _ => x_X10_leadsAll_0 T t C.1.1 C.1.2 _ (p_leadsAll_l T C (by omega) N 0 (Nat.zero_add N) ⟨rfl, rfl, _, rfl, fun g => ?_, fun g => ?_⟩)⟩
    · rw [C.2.1.1, w_le (by omega) (by omega)] at h
      omega
    · rw [fnd_next (by simp [g])] at hq
      rw [w_add1]
      exact p_head_l T C k (i + 1) (by omega) hq
    · rw [fnd_stop (by simp [g]), fz_lt (by omega)] at hq
      exact hq
theorem p_head {d t N K : Nat} {Bs : Nat → Nat → Nat → Bool} {M : mx_M} {Q : mx_O → mx_M → Prop} (T : mx_Tp M) (C : ctxC M t N K Bs) (hq : Q (.inl (some (.int (fz N (fnd (fun x => allF (hdP K Bs x) 0 N) 0 N))))) M) : mx_W m_X10_head (d + 1 + 1 + 1 + 1 + 1) 0 [.ref 1, .retAddr 0] [] M Q :=
  x_X10_head_0 T t C.1.1 C.1.2 (p_head_l T C N 0 (Nat.zero_add N) hq)
/-- a context of the reference stays where only 88 and 89 change -/
theorem ctxM_lik {N K : Nat} {Bs : Nat → Nat → Nat → Bool} {M M1 : mx_M} (L : lik mSc M M1) (C : ctxM M N K Bs) : ctxM M1 N K Bs := by
  have e := (L.2 58 (by intro z; rcases z with z | z <;> omega)).1
  refine ⟨by rw [e]; exact C.1, C.2.1, fun o ho d M2 x y Q L2 => C.2.2 o ho d M2 x y Q (lik_trans (sc_rd L) L2)⟩
theorem p_mhead_i {d N K x : Nat} {Bs : Nat → Nat → Nat → Bool} {M0 : mx_M} {Q : mx_O → mx_M → Prop} (hx : x < N) (b9 : Bool)
    (X : ∀ M1, mx_Tp M1 → ctxM M1 N K Bs → lik mSc M0 M1 → (b9 = false → mx_W m_X11_head (d + 4 + 1 + 1) 7 [.ref 58, .int (w (x + 1)), .retAddr 0, .retAddr 0] [] M1 Q) ∧ (b9 = true → Q (.inl (some (.int (w x)))) M1)) :
    ∀ (k i : Nat) (b : Bool) (M : mx_M), i + k = N → mx_Tp M → ctxM M N K Bs → lik mSc M0 M → (b && allF (hdP K Bs x) i k) = b9 → mx_W m_X11_head (d + 4 + 1 + 1) 19 [.ref 58, .int (w x), .int (mx_b b), .int (w i)] [] M Q
  | 0, i, b, M, hi, T, C, L, hb9 => by
    have hb := C.2.1
    rw [allF, Bool.and_true] at hb9
    subst hb9
    refine x_X11_head_19 T _ _ _ ⟨fun _ => ⟨fun h => ?_, fun h => ?_⟩, fun h => absurd ?_ h⟩
    · rw [w_add1]; exact (X M T C L).1 (mx_b0.mp h)
    · exact (X M T C L).2 (mx_bn.mp h)
    · rw [C.1.1, w_le (by omega) (by omega)]
      omega
  | k + 1, i, b, M, hi, T, C, L, hb9 => by
    have hb := C.2.1
    rw [allF] at hb9
    refine x_X11_head_19 T _ _ _ ⟨fun h => ?_, fun _ => ⟨fun h => ?_, fun h => ⟨fun e => ?_, fun e => p_votesFor T C hx (by omega) (fun M1 L1 => ⟨L1.1.1, L1.1.2.1, _, rfl, fun g => ?_, fun g => ?_⟩)⟩⟩⟩
    · rw [C.1.1, w_le (by omega) (by omega)] at h
      omega
    · have hf := mx_b0.mp h
      rw [w_add1]
      exact p_mhead_i hx b9 X k (i + 1) false M (by omega) T C L (by rw [← hb9, hf, Bool.false_and, Bool.false_and])
    · have hf := mx_bn.mp h
      rw [w_inj (by omega) (by omega)] at e
      rw [w_add1]
      exact p_mhead_i hx b9 X k (i + 1) true M (by omega) T C L (by rw [← hb9, hf, show hdP K Bs x i = true by unfold hdP; simp [e], Bool.true_and, Bool.true_and])
    · have hf := mx_bn.mp h
      rw [w_inj (by omega) (by omega)] at e
      rw [w_add1]
      exact p_mhead_i hx b9 X k (i + 1) false M1 (by omega) (lik_T L1 T) (ctxM_lik L1 C) (lik_trans L L1) (by rw [← hb9, hf, show hdP K Bs x i = false by unfold hdP; simp only [decide_eq_false (show ¬ i = x from fun z => e z.symm), decide_eq_false (Int32.not_lt.mpr g), Bool.or_false], Bool.true_and, Bool.false_and])
    · have hf := mx_bn.mp h
      rw [w_add1]
      exact p_mhead_i hx b9 X k (i + 1) true M1 (by omega) (lik_T L1 T) (ctxM_lik L1 C) (lik_trans L L1) (by rw [← hb9, hf, show hdP K Bs x i = true by unfold hdP; simp only [decide_eq_true (Int32.not_le.mp g), Bool.or_true], Bool.true_and, Bool.true_and])
theorem p_mhead_l {d N K : Nat} {Bs : Nat → Nat → Nat → Bool} {M0 : mx_M} {Q : mx_O → mx_M → Prop} (hq : ∀ M1, lik mSc M0 M1 → Q (.inl (some (.int (fz N (fnd (fun x => allF (hdP K Bs x) 0 N) 0 N))))) M1) :
    ∀ (k i : Nat) (M : mx_M), i + k = N → mx_Tp M → ctxM M N K Bs → lik mSc M0 M → fnd (fun x => allF (hdP K Bs x) 0 N) i k = fnd (fun x => allF (hdP K Bs x) 0 N) 0 N → mx_W m_X11_head (d + 4 + 1 + 1) 7 [.ref 58, .int (w i), .retAddr 0, .retAddr 0] [] M Q
  | 0, i, M, hi, T, C, L, hf => by
    have hb := C.2.1
    have h := hq M L
    rw [← hf, fz_ge (by unfold fnd; omega)] at h
    refine x_X11_head_7 T _ ⟨fun _ => h, fun h => absurd ?_ h⟩
    rw [C.1.1, w_le (by omega) (by omega)]
    omega
  | k + 1, i, M, hi, T, C, L, hf => by
    have hb := C.2.1
    refine x_X11_head_7 T _ ⟨fun h => ?_, fun _ => ?_⟩
    · rw [C.1.1, w_le (by omega) (by omega)] at h
      omega
    · refine p_mhead_i (b9 := allF (hdP K Bs i) 0 N) (by omega) (fun M1 T1 C1 L1 => ⟨fun g => ?_, fun g => ?_⟩) N 0 true M (Nat.zero_add N) T C L (Bool.true_and _)
      · rw [fnd_next (by simp [g])] at hf
        exact p_mhead_l hq k (i + 1) M1 (by omega) T1 C1 L1 hf
      · rw [fnd_stop (by simp [g])] at hf
        have h := hq M1 L1
        rw [← hf, fz_lt (by omega)] at h
        exact h
