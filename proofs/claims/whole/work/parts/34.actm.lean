/-! the acts of the reference -/
def actM (M : mx_M) (m N : Nat) (n : Nat → Nat) (f : Nat → Nat → Nat) : Prop := mx_I M 58 53 = w m ∧ (m ≤ 40 ∧ N ≤ 10) ∧ ∀ i, i < m → mx_I M 92 (11 * i) = w (n i) ∧ n i ≤ 10 ∧ ∀ j, j < n i → mx_I M 92 (11 * i + 1 + j) = w (f i j) ∧ f i j < N
abbrev actQ : Nat → Nat → Prop := fun k j => k = 92 ∨ (k = 58 ∧ j = 53)
theorem p_keepsB {d a : Nat} {M0 : mx_M} {Q : mx_O → mx_M → Prop} (ha : a < 40) (h0 : mx_I M0 58 53 = w a)
    (hq : ∀ M1, lip actQ M0 M1 → mx_I M1 58 53 = w (a + 1) → (∀ q, q < 11 → mx_I M1 92 (11 * a + q) = mx_I M0 90 q) → (∀ q, ¬ (11 * a ≤ q ∧ q < 11 * a + 11) → mx_I M1 92 q = mx_I M0 92 q) → Q (.inl none) M1) :
    ∀ (k i : Nat) (M : mx_M), i + k = 11 → mx_Tp M → lip (fun k _ => k = 92) M0 M → (∀ q, q < i → mx_I M 92 (11 * a + q) = mx_I M0 90 q) → (∀ q, ¬ (11 * a ≤ q ∧ q < 11 * a + 11) → mx_I M 92 q = mx_I M0 92 q) → mx_W m_X11_keeps d 52 [.ref 58, .int (w i)] [] M Q
  | 0, i, M, hi, T, L, h1, h2 => by
    refine x_X11_keeps_52 T _ ⟨fun _ M1 e1 => ?_, fun h => absurd ?_ h⟩
    · rw [(L.2 58 53 (by omega)).1, h0, w_add1] at e1
      subst e1
      refine hq _ (lip_trans (lip_mono L (fun k j e => Or.inl e)) (lip_setI (Or.inr ⟨rfl, rfl⟩))) I_eq (fun q hq => ?_) (fun q hq => ?_)
      · rw [I_ne (by omega)]; exact h1 q (by omega)
      · rw [I_ne (by omega)]; exact h2 q hq
    · rw [show (11 : Int32) = w 11 from rfl, w_le (by omega) (by omega)]
      omega
  | k + 1, i, M, hi, T, L, h1, h2 => by
    have ea : 11 * mx_I M 58 53 + w i = w (11 * a + i) := by
      rw [(L.2 58 53 (by omega)).1, h0, show (11 : Int32) = w 11 from rfl, w_mul, w_add]
    refine x_X11_keeps_52 T _ ⟨fun h => ?_, fun _ => ⟨w_in (by omega) (by omega), ?_⟩⟩
    · rw [show (11 : Int32) = w 11 from rfl, w_le (by omega) (by omega)] at h
      omega
    · rw [ea]
      refine ⟨w_in (by omega) (by omega), ?_⟩
      intro M1 e1
      rw [w_nat (by omega), w_nat (by omega), (L.2 90 i (by omega)).1] at e1
      subst e1
      rw [w_add1]
      refine p_keepsB ha h0 hq k (i + 1) _ (by omega) (tp_e rfl T) (lip_trans L (lip_setI rfl)) (fun q hq => ?_) (fun q hq => ?_)
      · by_cases g : q = i
        · rw [g, I_eq]
        · rw [I_ne (by omega)]; exact h1 q (by omega)
      · rw [I_ne (by omega)]; exact h2 q hq
theorem p_keepsA {d : Nat} {M0 : mx_M} {Q : mx_O → mx_M → Prop} (h0 : mx_I M0 58 53 = w 40)
    (hq : ∀ M1, mx_Tp M1 → lip actQ M0 M1 → mx_I M1 58 53 = w 39 → (∀ q, q < 429 → mx_I M1 92 q = mx_I M0 92 (q + 11)) → mx_W m_X11_keeps d 52 [.ref 58, .int 0] [] M1 Q) :
    ∀ (k i : Nat) (M : mx_M), i + k = 429 → mx_Tp M → lip (fun k _ => k = 92) M0 M → (∀ q, q < i → mx_I M 92 q = mx_I M0 92 (q + 11)) → (∀ q, i ≤ q → mx_I M 92 q = mx_I M0 92 q) → mx_W m_X11_keeps d 12 [.ref 58, .int (w (i + 11))] [] M Q
  | 0, i, M, hi, T, L, h1, h2 => by
    refine x_X11_keeps_12 T _ ⟨fun _ M1 e1 => ?_, fun h => absurd ?_ h⟩
    · rw [(L.2 58 53 (by omega)).1, h0, show w 40 - 1 = w 39 from rfl] at e1
      subst e1
      refine hq _ (tp_e rfl T) (lip_trans (lip_mono L (fun k j e => Or.inl e)) (lip_setI (Or.inr ⟨rfl, rfl⟩))) I_eq (fun q hq => ?_)
      rw [I_ne (by omega)]; exact h1 q (by omega)
    · rw [show (440 : Int32) = w 440 from rfl, w_le (by omega) (by omega)]
      omega
  | k + 1, i, M, hi, T, L, h1, h2 => by
    have e : w (i + 11) - 11 = w i := by
      rw [show (11 : Int32) = w 11 from rfl, w_sub (by omega)]
      congr 1
    refine x_X11_keeps_12 T _ ⟨fun h => ?_, fun _ => ⟨w_in (by omega) (by omega), ?_⟩⟩
    · rw [show (440 : Int32) = w 440 from rfl, w_le (by omega) (by omega)] at h
      omega
    · rw [e]
      refine ⟨w_in (by omega) (by omega), ?_⟩
      intro M1 e1
      rw [w_nat (by omega), w_nat (by omega), h2 (i + 11) (by omega)] at e1
      subst e1
      rw [w_add1]
      have hh := p_keepsA (d := d) h0 hq k (i + 1) (mx_setI M 92 i (mx_I M0 92 (i + 11))) (by omega) (tp_e rfl T) (lip_trans L (lip_setI rfl)) (fun q hq => by
        by_cases g : q = i
        · rw [g, I_eq]
        · rw [I_ne (by omega)]; exact h1 q (by omega)) (fun q hq => by rw [I_ne (by omega)]; exact h2 q (by omega))
      rw [show i + 1 + 11 = i + 11 + 1 by omega] at hh
      exact hh
theorem p_keeps {d m N k : Nat} {n : Nat → Nat} {f : Nat → Nat → Nat} {g : Nat → Nat} {M : mx_M} {Q : mx_O → mx_M → Prop} (T : mx_Tp M) (K : actM M m N n f) (R : rowM M 90 k N g)
    (hq : ∀ M1, lip actQ M M1 → actM M1 (kpM m) N (kpF m n k) (kpF m f g) → Q (.inl none) M1) : mx_W m_X11_keeps d 0 [.ref 58, .retAddr 0] [] M Q := by
  have h40 := K.2.1
  have h10 := R.2.1
  refine x_X11_keeps_0 T ?_
  rw [K.1, show (40 : Int32) = w 40 from rfl, w_inj (by omega) (by omega)]
  refine ⟨fun h => ?_, fun h => ?_⟩
  · have hm : m < 40 := by omega
    refine p_keepsB hm K.1 (fun M1 L1 e1 e2 e3 => hq M1 L1 ⟨?_, ⟨?_, h40.2⟩, fun i hi => ?_⟩) 11 0 M rfl T (lip_refl _ _) (fun q hq => by omega) (fun q _ => rfl)
    · unfold kpM; rw [if_pos hm]; exact e1
    · unfold kpM; rw [if_pos hm]; omega
    · unfold kpM at hi
      rw [if_pos hm] at hi
      unfold kpF
      rw [if_pos hm, if_pos hm]
      by_cases e : i = m
      · rw [if_pos e, if_pos e, e]
        refine ⟨?_, h10.1, fun j hj => ?_⟩
        · have := e2 0 (by omega); rw [Nat.add_zero] at this; rw [this]; exact R.1
        · have := e2 (j + 1) (by omega)
          rw [show 11 * m + 1 + j = 11 * m + (j + 1) by omega, this]
          exact R.2.2 j hj
      · rw [if_neg e, if_neg e]
        have hK := K.2.2 i (by omega)
        refine ⟨?_, hK.2.1, fun j hj => ?_⟩
        · rw [e3 _ (by omega)]; exact hK.1
        · rw [e3 _ (by omega)]; exact hK.2.2 j hj
  · subst h
    refine p_keepsA K.1 (fun M1 T1 L1 e1 e2 => ?_) 429 0 M rfl T (lip_refl _ _) (fun q hq => by omega) (fun q _ => rfl)
    have R1 := rowM_lip L1 (r := 90) (fun j => by intro z; rcases z with z | z <;> omega) R
    refine p_keepsB (show 39 < 40 by omega) e1 (fun M2 L2 e3 e4 e5 => hq M2 (lip_trans L1 L2) ⟨e3, ⟨Nat.le_refl _, h40.2⟩, fun i hi => ?_⟩) 11 0 M1 rfl T1 (lip_refl _ _) (fun q hq => by omega) (fun q _ => rfl)
    have hi : i < 40 := hi
    unfold kpF
    rw [if_neg (show ¬ 40 < 40 by omega), if_neg (show ¬ 40 < 40 by omega)]
    by_cases e : i = 39
    · rw [if_pos e, if_pos e, e]
      refine ⟨?_, h10.1, fun j hj => ?_⟩
      · have := e4 0 (by omega); rw [Nat.add_zero] at this; rw [this]; exact R1.1
      · have := e4 (j + 1) (by omega)
        rw [show 11 * 39 + 1 + j = 11 * 39 + (j + 1) by omega, this]
        exact R1.2.2 j hj
    · rw [if_neg e, if_neg e]
      have hK := K.2.2 (i + 1) (by omega)
      refine ⟨?_, hK.2.1, fun j hj => ?_⟩
      · rw [e5 _ (by omega), e2 _ (by omega), show 11 * i + 11 = 11 * (i + 1) by omega]; exact hK.1
      · rw [e5 _ (by omega), e2 _ (by omega), show 11 * i + 1 + j + 11 = 11 * (i + 1) + 1 + j by omega]; exact hK.2.2 j hj
