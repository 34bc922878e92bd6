/-! undo -/
abbrev undQ : Nat → Nat → Prop := fun k j => k = 90 ∨ (k = 58 ∧ (j = 53 ∨ j = 0))
theorem p_mundo_l {d a : Nat} {M0 : mx_M} {Q : mx_O → mx_M → Prop} (ha : a < 40) (h0 : mx_I M0 58 53 = w a)
    (hq : ∀ M1, lip (fun k _ => k = 90) M0 M1 → (∀ q, q < 11 → mx_I M1 90 q = mx_I M0 92 (11 * a + q)) → Q (.inl (some (.int (w a)))) M1) :
    ∀ (k i : Nat) (M : mx_M), i + k = 11 → mx_Tp M → lip (fun k _ => k = 90) M0 M → (∀ q, q < i → mx_I M 90 q = mx_I M0 92 (11 * a + q)) → mx_W m_X11_undo d 26 [.ref 58, .int (w i)] [] M Q
  | 0, i, M, hi, T, L, h1 => by
    refine x_X11_undo_26 T _ ⟨fun _ => ?_, fun h => absurd ?_ h⟩
    · rw [(L.2 58 53 (by omega)).1, h0]
      exact hq M L (fun q hq => h1 q (by omega))
    · rw [show (11 : Int32) = w 11 from rfl, w_le (by omega) (by omega)]
      omega
  | k + 1, i, M, hi, T, L, h1 => by
    have ea : 11 * mx_I M 58 53 + w i = w (11 * a + i) := by
      rw [(L.2 58 53 (by omega)).1, h0, show (11 : Int32) = w 11 from rfl, w_mul, w_add]
    refine x_X11_undo_26 T _ ⟨fun h => ?_, fun _ => ?_⟩
    · rw [show (11 : Int32) = w 11 from rfl, w_le (by omega) (by omega)] at h
      omega
    · rw [ea]
      refine ⟨w_in (by omega) (by omega), w_in (by omega) (by omega), ?_⟩
      intro M1 e1
      rw [w_nat (by omega), w_nat (by omega), (L.2 92 _ (by omega)).1] at e1
      subst e1
      rw [w_add1]
      refine p_mundo_l ha h0 hq k (i + 1) _ (by omega) (tp_e rfl T) (lip_trans L (lip_setI rfl)) (fun q hq => ?_)
      by_cases g : q = i
      · rw [g, I_eq]
      · rw [I_ne (by omega)]; exact h1 q (by omega)
theorem p_mundo0 {d N : Nat} {n : Nat → Nat} {f : Nat → Nat → Nat} {M : mx_M} {Q : mx_O → mx_M → Prop} (T : mx_Tp M) (K : actM M 0 N n f)
    (hq : Q (.inl (some (.int (-1)))) (mx_setI M 58 0 0)) : mx_W m_X11_undo d 0 [.ref 58, .retAddr 0] [] M Q := by
  refine x_X11_undo_0 T ?_
  intro M1 e1
  subst e1
  rw [I_ne (by omega), K.1]
  exact ⟨fun h => absurd rfl h, fun _ => hq⟩
theorem p_mundo {d m N : Nat} {n : Nat → Nat} {f : Nat → Nat → Nat} {M : mx_M} {Q : mx_O → mx_M → Prop} (T : mx_Tp M) (K : actM M (m + 1) N n f)
    (hq : ∀ M1, lip undQ M M1 → mx_I M1 58 0 = 0 → actM M1 m N n f → rowM M1 90 (n m) N (f m) → Q (.inl (some (.int (w m)))) M1) : mx_W m_X11_undo d 0 [.ref 58, .retAddr 0] [] M Q := by
  have h40 := K.2.1
  refine x_X11_undo_0 T ?_
  intro M1 e1
  subst e1
  rw [I_ne (by omega), K.1]
  refine ⟨fun _ => ?_, fun h => ?_⟩
  · intro M2 e2
    rw [show w (m + 1) - 1 = w m from w_sub (a := m + 1) (b := 1) (by omega)] at e2
    have L2 : lip undQ M M2 := by
      rw [e2]
      exact lip_trans (lip_setI (Or.inr ⟨rfl, Or.inr rfl⟩)) (lip_setI (Or.inr ⟨rfl, Or.inl rfl⟩))
    have z0 : mx_I M2 58 0 = 0 := by rw [e2, I_ne (by omega), I_eq]
    have z1 : mx_I M2 58 53 = w m := by rw [e2]; exact I_eq
    clear e2
    have z2 : ∀ q, mx_I M2 92 q = mx_I M 92 q := fun q => (L2.2 92 q (by omega)).1
    refine p_mundo_l (show m < 40 by omega) z1 (fun M3 L3 e3 => hq M3 (lip_trans L2 (lip_mono L3 (fun k j e => Or.inl e))) ?_ ⟨?_, ⟨by omega, h40.2⟩, fun i hi => ?_⟩ ⟨?_, ⟨?_, h40.2⟩, fun i hi => ?_⟩) 11 0 M2 rfl (lip_T L2 T) (lip_refl _ _) (fun q hq => by omega)
    · rw [(L3.2 58 0 (by omega)).1]; exact z0
    · rw [(L3.2 58 53 (by omega)).1]; exact z1
    · have hK := K.2.2 i (by omega)
      refine ⟨?_, hK.2.1, fun j hj => ?_⟩
      · rw [(L3.2 92 _ (by omega)).1, z2]; exact hK.1
      · rw [(L3.2 92 _ (by omega)).1, z2]; exact hK.2.2 j hj
    · have := e3 0 (by omega)
      rw [this, Nat.add_zero, z2]; exact (K.2.2 m (by omega)).1
    · exact (K.2.2 m (by omega)).2.1
    · have hK := K.2.2 m (by omega)
      have := e3 (i + 1) (by have := hK.2.1; omega)
      rw [this, z2, show 11 * m + (i + 1) = 11 * m + 1 + i by omega]
      exact hK.2.2 i hi
  · rw [show (0 : Int32) = w 0 from rfl, w_inj (by omega) (by omega)] at h
    omega
