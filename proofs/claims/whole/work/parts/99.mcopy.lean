/-! the reference takes a catalogue: copies, keys -/
abbrev cpL (d : Nat) (Q : QQ) (M : mx_M) : Prop := (mx_W m_X11_copies d 0 [.ref 58, .ref 72, .ref 59, .retAddr 0] [] M (fun o M23 => mx_sh M23 = mx_sh M ∧ mx_R M23 = mx_R M ∧ (o = .inl none ∧ (mx_W m_X11_copies d 0 [.ref 58, .ref 73, .ref 60, .retAddr 0] [] M23 (fun o M24 => mx_sh M24 = mx_sh M23 ∧ mx_R M24 = mx_R M23 ∧ (o = .inl none ∧ (mx_W m_X11_copies d 0 [.ref 58, .ref 74, .ref 61, .retAddr 0] [] M24 (fun o M25 => mx_sh M25 = mx_sh M24 ∧ mx_R M25 = mx_R M24 ∧ (o = .inl none ∧ (mx_W m_X11_copies d 0 [.ref 58, .ref 75, .ref 62, .retAddr 0] [] M25 (fun o M26 => mx_sh M26 = mx_sh M25 ∧ mx_R M26 = mx_R M25 ∧ (o = .inl none ∧ (mx_W m_X11_copies d 0 [.ref 58, .ref 76, .ref 63, .retAddr 0] [] M26 (fun o M27 => mx_sh M27 = mx_sh M26 ∧ mx_R M27 = mx_R M26 ∧ (o = .inl none ∧ (mx_W m_X11_copies d 0 [.ref 58, .ref 77, .ref 64, .retAddr 0] [] M27 (fun o M28 => mx_sh M28 = mx_sh M27 ∧ mx_R M28 = mx_R M27 ∧ (o = .inl none ∧ (mx_W m_X11_copies d 0 [.ref 58, .ref 78, .ref 65, .retAddr 0] [] M28 (fun o M29 => mx_sh M29 = mx_sh M28 ∧ mx_R M29 = mx_R M28 ∧ (o = .inl none ∧ (mx_W m_X11_copies d 0 [.ref 58, .ref 79, .ref 66, .retAddr 0] [] M29 (fun o M30 => mx_sh M30 = mx_sh M29 ∧ mx_R M30 = mx_R M29 ∧ (o = .inl none ∧ (mx_W m_X11_copiesLong d 0 [.ref 58, .ref 81, .ref 67, .retAddr 0] [] M30 (fun o M31 => mx_sh M31 = mx_sh M30 ∧ mx_R M31 = mx_R M30 ∧ (o = .inl none ∧ (mx_W m_X11_copiesLong d 0 [.ref 58, .ref 82, .ref 68, .retAddr 0] [] M31 (fun o M32 => mx_sh M32 = mx_sh M31 ∧ mx_R M32 = mx_R M31 ∧ (o = .inl none ∧ (mx_W m_X11_copiesLong d 0 [.ref 58, .ref 83, .ref 69, .retAddr 0] [] M32 (fun o M33 => mx_sh M33 = mx_sh M32 ∧ mx_R M33 = mx_R M32 ∧ (o = .inl none ∧ mx_W m_X11_catalogue (d + 1) 269 [.ref 58, .retAddr 0, .int 0] [] M33 Q)))))))))))))))))))))))))))))))))
theorem p_copL_l {d K r r2 : Nat} {M0 : mx_M} {Q : QQ} (hK : K < 100000) (hr : mx_shp0 r = some (.inr (.long, K))) (hr2 : mx_shp0 r2 = some (.inr (.long, K))) (hne : ¬ r = r2)
    (hq : ∀ M1, lik (fun k => k = r2) M0 M1 → (∀ i, i < K → mx_J M1 r2 i = mx_J M0 r i) → Q (.inl none) M1) :
    ∀ (k i : Nat) (M : mx_M), i + k = K → mx_Tp M → lik (fun k => k = r2) M0 M → (∀ j, j < i → mx_J M r2 j = mx_J M0 r j) → mx_W m_X11_copiesLong d 2 [.retAddr 0, .ref r, .ref r2, .int (w i)] [] M Q
  | 0, i, M, hi, T, L, h1 => by
    refine x_X11_copiesLong_2 T K r hr r2 hr2 _ ⟨fun _ => hq M L (fun j hj => h1 j (by omega)), fun h => absurd ?_ h⟩
    rw [w_le (by omega) (by omega)]
    omega
  | k + 1, i, M, hi, T, L, h1 => by
    refine x_X11_copiesLong_2 T K r hr r2 hr2 _ ⟨fun h => ?_, fun _ => ⟨w_in (by omega) (by omega), w_in (by omega) (by omega), ?_⟩⟩
    · rw [w_le (by omega) (by omega)] at h
      omega
    · intro M1 e1
      rw [w_nat (by omega), (L.2 r hne).2] at e1
      subst e1
      rw [w_add1]
      refine p_copL_l hK hr hr2 hne hq k (i + 1) _ (by omega) (tp_e rfl T) (lik_trans L (lik_setJ rfl)) (fun j hj => ?_)
      by_cases g : j = i
      · rw [g, J_eq]
      · rw [J_ne (by omega)]; exact h1 j (by omega)
theorem p_copL {d K r r2 : Nat} {M : mx_M} {Q : QQ} (T : mx_Tp M) (hK : K < 100000) (hr : mx_shp0 r = some (.inr (.long, K))) (hr2 : mx_shp0 r2 = some (.inr (.long, K))) (hne : ¬ r = r2)
    (hq : ∀ M1, lik (fun k => k = r2) M M1 → (∀ i, i < K → mx_J M1 r2 i = mx_J M r i) → Q (.inl none) M1) : mx_W m_X11_copiesLong d 0 [.ref 58, .ref r, .ref r2, .retAddr 0] [] M Q :=
  x_X11_copiesLong_0 T K r hr r2 hr2 (p_copL_l hK hr hr2 hne hq K 0 M (Nat.zero_add K) T (lik_refl _ _) (fun j hj => by omega))
/-- all is copied -/
def cpA (M M1 : mx_M) : Prop := lik (fun k => 59 ≤ k ∧ k ≤ 69) M M1 ∧ (∀ j, j < 10 → mx_I M1 59 j = mx_I M 72 j) ∧ (∀ j, j < 10 → mx_I M1 60 j = mx_I M 73 j) ∧ (∀ j, j < 4 → mx_I M1 61 j = mx_I M 74 j) ∧ (∀ j, j < 32 → mx_I M1 62 j = mx_I M 75 j) ∧ (∀ j, j < 5 → mx_I M1 63 j = mx_I M 76 j) ∧ (∀ j, j < 5 → mx_I M1 64 j = mx_I M 77 j) ∧ (∀ j, j < 5 → mx_I M1 65 j = mx_I M 78 j) ∧ (∀ j, j < 2800 → mx_I M1 66 j = mx_I M 79 j) ∧ (∀ j, j < 40 → mx_J M1 67 j = mx_J M 81 j) ∧ (∀ j, j < 32 → mx_J M1 68 j = mx_J M 82 j) ∧ (∀ j, j < 32 → mx_J M1 69 j = mx_J M 83 j)
theorem q_cpA {d : Nat} {M : mx_M} {Q : QQ} (T : mx_Tp M) (hq : ∀ M1, cpA M M1 → mx_W m_X11_catalogue (d + 1) 269 [.ref 58, .retAddr 0, .int 0] [] M1 Q) : cpL d Q M := by
  refine p_copies (K := 10) T (by decide) rfl rfl (by decide) (fun M1 L1 e1 => ⟨L1.1.1, L1.1.2.1, rfl, ?_⟩)
  have T1 := tp_of L1.1.1 L1.1.2.1 T
  refine p_copies (K := 10) T1 (by decide) rfl rfl (by decide) (fun M2 L2 e2 => ⟨L2.1.1, L2.1.2.1, rfl, ?_⟩)
  have T2 := tp_of L2.1.1 L2.1.2.1 T1
  refine p_copies (K := 4) T2 (by decide) rfl rfl (by decide) (fun M3 L3 e3 => ⟨L3.1.1, L3.1.2.1, rfl, ?_⟩)
  have T3 := tp_of L3.1.1 L3.1.2.1 T2
  refine p_copies (K := 32) T3 (by decide) rfl rfl (by decide) (fun M4 L4 e4 => ⟨L4.1.1, L4.1.2.1, rfl, ?_⟩)
  have T4 := tp_of L4.1.1 L4.1.2.1 T3
  refine p_copies (K := 5) T4 (by decide) rfl rfl (by decide) (fun M5 L5 e5 => ⟨L5.1.1, L5.1.2.1, rfl, ?_⟩)
  have T5 := tp_of L5.1.1 L5.1.2.1 T4
  refine p_copies (K := 5) T5 (by decide) rfl rfl (by decide) (fun M6 L6 e6 => ⟨L6.1.1, L6.1.2.1, rfl, ?_⟩)
  have T6 := tp_of L6.1.1 L6.1.2.1 T5
  refine p_copies (K := 5) T6 (by decide) rfl rfl (by decide) (fun M7 L7 e7 => ⟨L7.1.1, L7.1.2.1, rfl, ?_⟩)
  have T7 := tp_of L7.1.1 L7.1.2.1 T6
  refine p_copies (K := 2800) T7 (by decide) rfl rfl (by decide) (fun M8 L8 e8 => ⟨L8.1.1, L8.1.2.1, rfl, ?_⟩)
  have T8 := tp_of L8.1.1 L8.1.2.1 T7
  refine p_copL (K := 40) T8 (by decide) rfl rfl (by decide) (fun M9 L9 e9 => ⟨L9.1.1, L9.1.2.1, rfl, ?_⟩)
  have T9 := tp_of L9.1.1 L9.1.2.1 T8
  refine p_copL (K := 32) T9 (by decide) rfl rfl (by decide) (fun M10 L10 e10 => ⟨L10.1.1, L10.1.2.1, rfl, ?_⟩)
  have T10 := tp_of L10.1.1 L10.1.2.1 T9
  refine p_copL (K := 32) T10 (by decide) rfl rfl (by decide) (fun M11 L11 e11 => ⟨L11.1.1, L11.1.2.1, rfl, ?_⟩)
  have T11 := tp_of L11.1.1 L11.1.2.1 T10
  refine hq M11 ⟨?_, ?_, ?_, ?_, ?_, ?_, ?_, ?_, ?_, ?_, ?_, ?_⟩
  · exact (lik_trans (lik_trans (lik_trans (lik_trans (lik_trans (lik_trans (lik_trans (lik_trans (lik_trans (lik_trans (lik_mono L1 (fun k h => by omega)) (lik_mono L2 (fun k h => by omega))) (lik_mono L3 (fun k h => by omega))) (lik_mono L4 (fun k h => by omega))) (lik_mono L5 (fun k h => by omega))) (lik_mono L6 (fun k h => by omega))) (lik_mono L7 (fun k h => by omega))) (lik_mono L8 (fun k h => by omega))) (lik_mono L9 (fun k h => by omega))) (lik_mono L10 (fun k h => by omega))) (lik_mono L11 (fun k h => by omega)))
  · intro j hj; rw [(L11.2 59 (by omega)).1, (L10.2 59 (by omega)).1, (L9.2 59 (by omega)).1, (L8.2 59 (by omega)).1, (L7.2 59 (by omega)).1, (L6.2 59 (by omega)).1, (L5.2 59 (by omega)).1, (L4.2 59 (by omega)).1, (L3.2 59 (by omega)).1, (L2.2 59 (by omega)).1, e1 j hj]
  · intro j hj; rw [(L11.2 60 (by omega)).1, (L10.2 60 (by omega)).1, (L9.2 60 (by omega)).1, (L8.2 60 (by omega)).1, (L7.2 60 (by omega)).1, (L6.2 60 (by omega)).1, (L5.2 60 (by omega)).1, (L4.2 60 (by omega)).1, (L3.2 60 (by omega)).1, e2 j hj, (L1.2 73 (by omega)).1]
  · intro j hj; rw [(L11.2 61 (by omega)).1, (L10.2 61 (by omega)).1, (L9.2 61 (by omega)).1, (L8.2 61 (by omega)).1, (L7.2 61 (by omega)).1, (L6.2 61 (by omega)).1, (L5.2 61 (by omega)).1, (L4.2 61 (by omega)).1, e3 j hj, (L2.2 74 (by omega)).1, (L1.2 74 (by omega)).1]
  · intro j hj; rw [(L11.2 62 (by omega)).1, (L10.2 62 (by omega)).1, (L9.2 62 (by omega)).1, (L8.2 62 (by omega)).1, (L7.2 62 (by omega)).1, (L6.2 62 (by omega)).1, (L5.2 62 (by omega)).1, e4 j hj, (L3.2 75 (by omega)).1, (L2.2 75 (by omega)).1, (L1.2 75 (by omega)).1]
  · intro j hj; rw [(L11.2 63 (by omega)).1, (L10.2 63 (by omega)).1, (L9.2 63 (by omega)).1, (L8.2 63 (by omega)).1, (L7.2 63 (by omega)).1, (L6.2 63 (by omega)).1, e5 j hj, (L4.2 76 (by omega)).1, (L3.2 76 (by omega)).1, (L2.2 76 (by omega)).1, (L1.2 76 (by omega)).1]
  · intro j hj; rw [(L11.2 64 (by omega)).1, (L10.2 64 (by omega)).1, (L9.2 64 (by omega)).1, (L8.2 64 (by omega)).1, (L7.2 64 (by omega)).1, e6 j hj, (L5.2 77 (by omega)).1, (L4.2 77 (by omega)).1, (L3.2 77 (by omega)).1, (L2.2 77 (by omega)).1, (L1.2 77 (by omega)).1]
  · intro j hj; rw [(L11.2 65 (by omega)).1, (L10.2 65 (by omega)).1, (L9.2 65 (by omega)).1, (L8.2 65 (by omega)).1, e7 j hj, (L6.2 78 (by omega)).1, (L5.2 78 (by omega)).1, (L4.2 78 (by omega)).1, (L3.2 78 (by omega)).1, (L2.2 78 (by omega)).1, (L1.2 78 (by omega)).1]
  · intro j hj; rw [(L11.2 66 (by omega)).1, (L10.2 66 (by omega)).1, (L9.2 66 (by omega)).1, e8 j hj, (L7.2 79 (by omega)).1, (L6.2 79 (by omega)).1, (L5.2 79 (by omega)).1, (L4.2 79 (by omega)).1, (L3.2 79 (by omega)).1, (L2.2 79 (by omega)).1, (L1.2 79 (by omega)).1]
  · intro j hj; rw [(L11.2 67 (by omega)).2, (L10.2 67 (by omega)).2, e9 j hj, (L8.2 81 (by omega)).2, (L7.2 81 (by omega)).2, (L6.2 81 (by omega)).2, (L5.2 81 (by omega)).2, (L4.2 81 (by omega)).2, (L3.2 81 (by omega)).2, (L2.2 81 (by omega)).2, (L1.2 81 (by omega)).2]
  · intro j hj; rw [(L11.2 68 (by omega)).2, e10 j hj, (L9.2 82 (by omega)).2, (L8.2 82 (by omega)).2, (L7.2 82 (by omega)).2, (L6.2 82 (by omega)).2, (L5.2 82 (by omega)).2, (L4.2 82 (by omega)).2, (L3.2 82 (by omega)).2, (L2.2 82 (by omega)).2, (L1.2 82 (by omega)).2]
  · intro j hj; rw [e11 j hj, (L10.2 83 (by omega)).2, (L9.2 83 (by omega)).2, (L8.2 83 (by omega)).2, (L7.2 83 (by omega)).2, (L6.2 83 (by omega)).2, (L5.2 83 (by omega)).2, (L4.2 83 (by omega)).2, (L3.2 83 (by omega)).2, (L2.2 83 (by omega)).2, (L1.2 83 (by omega)).2]
