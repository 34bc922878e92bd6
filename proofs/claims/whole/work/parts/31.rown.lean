/-! a row of the reference: sorted; what is wrong in it; bits; copies -/
theorem rowM_set {M : mx_M} {r n N j v : Nat} {f : Nat → Nat} (R : rowM M r n N f) (hv : v < N) : rowM (mx_setI M r (j + 1) (w v)) r n N (setF f j v) := by
  refine ⟨?_, R.2.1, fun i hi => ?_⟩
  · rw [I_ne (by omega)]; exact R.1
  · by_cases g : i = j
    · rw [g, I_eq, setF_eq]; exact ⟨rfl, hv⟩
    · rw [I_ne (by omega), setF_ne g]; exact R.2.2 i hi
/-- the row's cell, and where the reference writes while it compares -/
abbrev mSr (r : Nat) : Nat → Prop := fun k => k = r ∨ mSc k
theorem sr_rd {r : Nat} (hm2 : mRd r) {M M1 : mx_M} (h : lik (mSr r) M M1) : lik mRd M M1 := lik_mono h (fun k hk g => by
  rcases hk with rfl | hk
  · exact hm2 g
  · rcases hk with rfl | rfl <;> omega)
theorem p_files_i {d r n N o c i : Nat} {B : Nat → Nat → Bool} {M0 : mx_M} {Q : mx_O → mx_M → Prop} (hr : mx_shp0 r = some (.inr (.int, 11))) (hm : ¬ mSc r) (hm2 : mRd r) (A : befM M0 o N B) (hc : c < N) :
    ∀ (j : Nat) (M : mx_M) (f : Nat → Nat), j < n → mx_Tp M → lik (mSr r) M0 M → rowM M r n N f →
      (∀ M1, mx_Tp M1 → lik (mSr r) M0 M1 → rowM M1 r n N (shF B c j f) → mx_W m_X11_files (d + 4 + 1) 2 [.ref 58, .ref r, .int (w o), .int (w (i + 1)), .retAddr 0, .retAddr 0] [] M1 Q) →
      mx_W m_X11_files (d + 4 + 1) 19 [.ref 58, .ref r, .int (w o), .int (w i), .int (w c), .int (w j)] [] M Q
  | 0, M, f, hj, T, L, R, X => by
    have h10 := R.2.1
    refine x_X11_files_19 T r hr _ _ _ _ ⟨fun _ => ?_, fun h => absurd (Int32.le_refl _) h⟩
    rw [w_1add]
    refine ⟨w_in (by omega) (by omega), ?_⟩
    intro M1 e1
    rw [w_nat (by omega)] at e1
    subst e1
    rw [w_add1]
    exact X _ (tp_e rfl T) (lik_trans L (lik_setI (Or.inl rfl))) (rowM_set R hc)
  | j + 1, M, f, hj, T, L, R, X => by
    have h10 := R.2.1
    have ho := R.2.2 j (by omega)
    have e : w (j + 1) - 1 = w j := w_sub (a := j + 1) (b := 1) (by omega)
    have e' : w (j + 1) + (-1) = w j := by rw [← e]; exact (Int32.sub_eq_add_neg _ 1).symm
    refine x_X11_files_19 T r hr _ _ _ _ ⟨fun h => ?_, fun _ => ?_⟩
    · rw [show (0 : Int32) = w 0 from rfl, w_le (by omega) (by omega)] at h
      omega
    · rw [w_1add, w_nat (show j + 1 < 2147483648 by omega), ho.1]
      refine ⟨w_in (by omega) (by omega), A d M c (f j) _ (sr_rd hm2 L) T hc ho.2 (fun M2 L2 => ⟨L2.1.1, L2.1.2.1, _, rfl, fun g => ⟨w_in (by omega) (by omega), ?_⟩, fun g => ⟨w_in (by omega) (by omega), w_in (by omega) (by omega), ?_⟩⟩)⟩
      · intro M1 e1
        have T2 := lik_T L2 T
        rw [w_nat (by omega)] at e1
        subst e1
        rw [w_add1]
        refine X _ (tp_e rfl T2) (lik_trans L (lik_trans (lik_mono L2 (fun _ z => Or.inr z)) (lik_setI (Or.inl rfl)))) ?_
        rw [shF, if_neg (by simp [g])]
        exact rowM_set (rowM_lik L2 hm R) hc
      · intro M1 e1
        have R2 := rowM_lik L2 hm R
        have T2 := lik_T L2 T
        rw [w_nat (by omega), (R2.2.2 j (by omega)).1] at e1
        subst e1
        rw [e']
        refine p_files_i hr hm hm2 A hc j _ (setF f (j + 1) (f j)) (by omega) (tp_e rfl T2) (lik_trans L (lik_trans (lik_mono L2 (fun _ z => Or.inr z)) (lik_setI (Or.inl rfl)))) (rowM_set R2 ho.2) (fun M1 T1 L1 R1 => X M1 T1 L1 ?_)
        rw [shF, if_pos g]
        exact R1
theorem p_files_l {d r n N o : Nat} {B : Nat → Nat → Bool} {M0 : mx_M} {Q : mx_O → mx_M → Prop} (hr : mx_shp0 r = some (.inr (.int, 11))) (hm : ¬ mSc r) (hm2 : mRd r) (A : befM M0 o N B) :
    ∀ (k i : Nat) (M : mx_M) (f : Nat → Nat), 0 < i → (i + k = n ∨ (k = 0 ∧ n ≤ i)) → i < 100 → mx_Tp M → lik (mSr r) M0 M → rowM M r n N f →
      (∀ M1, lik (mSr r) M0 M1 → rowM M1 r n N (srtF B i k f) → Q (.inl none) M1) →
      mx_W m_X11_files (d + 4 + 1) 2 [.ref 58, .ref r, .int (w o), .int (w i), .retAddr 0, .retAddr 0] [] M Q
  | 0, i, M, f, h0, hi, h1, T, L, R, X => by
    have h10 := R.2.1
    refine x_X11_files_2 T r hr _ _ ⟨fun _ => X M L R, fun h => absurd ?_ h⟩
    rw [R.1, w_le (by omega) (by omega)]
    omega
  | k + 1, i, M, f, h0, hi, h1, T, L, R, X => by
    have h10 := R.2.1
    have ho := R.2.2 i (by omega)
    refine x_X11_files_2 T r hr _ _ ⟨fun h => ?_, fun _ => ?_⟩
    · rw [R.1, w_le (by omega) (by omega)] at h
      omega
    · rw [w_1add, w_nat (by omega), ho.1]
      exact ⟨w_in (by omega) (by omega), p_files_i hr hm hm2 A ho.2 i M f (by omega) T L R (fun M1 T1 L1 R1 => p_files_l hr hm hm2 A k (i + 1) M1 _ (by omega) (by omega) (by omega) T1 L1 R1 X)⟩
theorem p_files {d r n N o : Nat} {f : Nat → Nat} {B : Nat → Nat → Bool} {M : mx_M} {Q : mx_O → mx_M → Prop} (T : mx_Tp M) (hr : mx_shp0 r = some (.inr (.int, 11))) (hm : ¬ mSc r) (hm2 : mRd r) (A : befM M o N B) (R : rowM M r n N f)
    (hq : ∀ M1, lik (mSr r) M M1 → rowM M1 r n N (srtF B 1 (n - 1) f) → Q (.inl none) M1) : mx_W m_X11_files (d + 4 + 1) 0 [.ref 58, .ref r, .int (w o), .retAddr 0, .retAddr 0, .retAddr 0] [] M Q :=
  x_X11_files_0 T r hr _ (p_files_l hr hm hm2 A (n - 1) 1 M f (by omega) (by omega) (by omega) T (lik_refl _ _) R hq)
theorem p_wrongIn_l {d r n N o : Nat} {f : Nat → Nat} {B : Nat → Nat → Bool} {M0 : mx_M} {Q : mx_O → mx_M → Prop} (hr : mx_shp0 r = some (.inr (.int, 11))) (hm : ¬ mSc r) (A : befM M0 o N B) (i : Nat) (hi : i < n)
    (X : ∀ s M, mx_Tp M → lik mSc M0 M → rowM M r n N f → (∀ M1, lik mSc M0 M1 → Q (.inl (some (.int (w (s + wrb f B (i + 1) (n - (i + 1))))))) M1) → mx_W m_X11_wrongIn (d + 4 + 1) 5 [.ref 58, .ref r, .int (w o), .int (w s), .int (w (i + 1)), .retAddr 0] [] M Q) :
    ∀ (k j s : Nat) (M : mx_M), mx_Tp M → lik mSc M0 M → rowM M r n N f → j + k = n → (∀ M1, lik mSc M0 M1 → Q (.inl (some (.int (w (s + cnt (fun j => B (f j) (f i)) j k + wrb f B (i + 1) (n - (i + 1))))))) M1) → mx_W m_X11_wrongIn (d + 4 + 1) 19 [.ref 58, .ref r, .int (w o), .int (w s), .int (w i), .int (w j)] [] M Q
  | 0, j, s, M, T, L, R, hj, hq => by
    have h10 := R.2.1
    refine x_X11_wrongIn_19 T r hr _ _ _ _ ⟨fun _ => ?_, fun h => absurd ?_ h⟩
    · rw [w_add1]
      exact X s M T L R hq
    · rw [R.1, w_le (by omega) (by omega)]
      omega
  | k + 1, j, s, M, T, L, R, hj, hq => by
    have h10 := R.2.1
    have ho := R.2.2 j (by omega)
    have hi9 := R.2.2 i hi
    refine x_X11_wrongIn_19 T r hr _ _ _ _ ⟨fun h => ?_, fun h => ?_⟩
    · rw [R.1, w_le (by omega) (by omega)] at h
      omega
    · rw [w_1add, w_1add, w_nat (by omega), w_nat (by omega), ho.1, hi9.1]
      refine ⟨w_in (by omega) (by omega), w_in (by omega) (by omega), A d M (f j) (f i) _ (sc_rd L) T ho.2 hi9.2 (fun M1 L1 => ⟨L1.1.1, L1.1.2.1, _, rfl, fun g => ?_, fun g => ?_⟩)⟩
      · rw [cnt_no (by simpa using g)] at hq
        rw [w_add1, Int32.add_zero]
        exact p_wrongIn_l hr hm A i hi X k (j + 1) s M1 (lik_T L1 T) (lik_trans L L1) (rowM_lik L1 hm R) (by omega) hq
      · rw [cnt_yes (by simpa using g)] at hq
        rw [w_add1, w_add1]
        exact p_wrongIn_l hr hm A i hi X k (j + 1) (s + 1) M1 (lik_T L1 T) (lik_trans L L1) (rowM_lik L1 hm R) (by omega) (by rw [show s + 1 + cnt (fun j => B (f j) (f i)) (j + 1) k = s + (cnt (fun j => B (f j) (f i)) (j + 1) k + 1) by omega]; exact hq)
theorem p_wrongIn_m {d r n N o : Nat} {f : Nat → Nat} {B : Nat → Nat → Bool} {M0 : mx_M} {Q : mx_O → mx_M → Prop} (hr : mx_shp0 r = some (.inr (.int, 11))) (hm : ¬ mSc r) (A : befM M0 o N B) :
    ∀ (k i s : Nat) (M : mx_M), mx_Tp M → lik mSc M0 M → rowM M r n N f → i + k = n → (∀ M1, lik mSc M0 M1 → Q (.inl (some (.int (w (s + wrb f B i k))))) M1) → mx_W m_X11_wrongIn (d + 4 + 1) 5 [.ref 58, .ref r, .int (w o), .int (w s), .int (w i), .retAddr 0] [] M Q
  | 0, i, s, M, T, L, R, hi, hq => by
    have h10 := R.2.1
    refine x_X11_wrongIn_5 T r hr _ _ _ ⟨fun _ => hq M L, fun h => absurd ?_ h⟩
    rw [R.1, w_le (by omega) (by omega)]
    omega
  | k + 1, i, s, M, T, L, R, hi, hq => by
    have h10 := R.2.1
    refine x_X11_wrongIn_5 T r hr _ _ _ ⟨fun h => ?_, fun h => ?_⟩
    · rw [R.1, w_le (by omega) (by omega)] at h
      omega
    · rw [w_add1]
      have e : n - (i + 1) = k := by omega
      refine p_wrongIn_l hr hm A i (by omega) (fun s9 M9 T9 L9 R9 h9 => p_wrongIn_m hr hm A k (i + 1) s9 M9 T9 L9 R9 (by omega) (by rw [e] at h9; exact h9)) k (i + 1) s M T L R (by omega) ?_
      rw [e, Nat.add_assoc]
      exact hq
theorem p_wrongIn {d r n N o : Nat} {f : Nat → Nat} {B : Nat → Nat → Bool} {M : mx_M} {Q : mx_O → mx_M → Prop} (T : mx_Tp M) (hr : mx_shp0 r = some (.inr (.int, 11))) (hm : ¬ mSc r) (A : befM M o N B) (R : rowM M r n N f)
    (hq : ∀ M1, lik mSc M M1 → Q (.inl (some (.int (w (wrb f B 0 n))))) M1) : mx_W m_X11_wrongIn (d + 4 + 1) 0 [.ref 58, .ref r, .int (w o), .retAddr 0, .retAddr 0, .retAddr 0] [] M Q :=
  x_X11_wrongIn_0 T r hr _ (p_wrongIn_m hr hm A n 0 0 M T (lik_refl _ _) R (Nat.zero_add n) (by rw [Nat.zero_add]; exact hq))
theorem p_inDrawer_l {d n N : Nat} {f : Nat → Nat} {M : mx_M} {Q : mx_O → mx_M → Prop} (T : mx_Tp M) (R : rowM M 90 n N f) :
    ∀ (k i : Nat) (s : Int32), i + k = n → Q (.inl (some (.int (btsF f i k s)))) M → mx_W m_X11_inDrawer d 4 [.ref 58, .int s, .int (w i)] [] M Q
  | 0, i, s, hi, hq => by
    have h10 := R.2.1
    refine x_X11_inDrawer_4 T _ _ ⟨fun _ => hq, fun h => absurd ?_ h⟩
    rw [R.1, w_le (by omega) (by omega)]
    omega
  | k + 1, i, s, hi, hq => by
    have h10 := R.2.1
    have ho := R.2.2 i (by omega)
    refine x_X11_inDrawer_4 T _ _ ⟨fun h => ?_, fun h => ?_⟩
    · rw [R.1, w_le (by omega) (by omega)] at h
      omega
    · rw [w_1add, w_nat (by omega), ho.1, w_add1]
      exact ⟨w_in (by omega) (by omega), p_inDrawer_l T R k (i + 1) _ (by omega) hq⟩
theorem p_inDrawer {d n N : Nat} {f : Nat → Nat} {M : mx_M} {Q : mx_O → mx_M → Prop} (T : mx_Tp M) (R : rowM M 90 n N f) (hq : Q (.inl (some (.int (btsF f 0 n 0)))) M) : mx_W m_X11_inDrawer d 0 [.ref 58, .retAddr 0, .retAddr 0] [] M Q :=
  x_X11_inDrawer_0 T (p_inDrawer_l T R n 0 0 (Nat.zero_add n) hq)
theorem p_copies_l {d K r r2 : Nat} {M0 : mx_M} {Q : mx_O → mx_M → Prop} (hK : K < 100000) (hr : mx_shp0 r = some (.inr (.int, K))) (hr2 : mx_shp0 r2 = some (.inr (.int, K))) (hne : ¬ r = r2)
    (hq : ∀ M1, lik (fun k => k = r2) M0 M1 → (∀ i, i < K → mx_I M1 r2 i = mx_I M0 r i) → Q (.inl none) M1) :
    ∀ (k i : Nat) (M : mx_M), i + k = K → mx_Tp M → lik (fun k => k = r2) M0 M → (∀ j, j < i → mx_I M r2 j = mx_I M0 r j) → mx_W m_X11_copies d 2 [.retAddr 0, .ref r, .ref r2, .int (w i)] [] M Q
  | 0, i, M, hi, T, L, h1 => by
    refine x_X11_copies_2 T K r hr r2 hr2 _ ⟨fun _ => hq M L (fun j hj => h1 j (by omega)), fun h => absurd ?_ h⟩
    rw [w_le (by omega) (by omega)]
    omega
  | k + 1, i, M, hi, T, L, h1 => by
    refine x_X11_copies_2 T K r hr r2 hr2 _ ⟨fun h => ?_, fun _ => ⟨w_in (by omega) (by omega), w_in (by omega) (by omega), ?_⟩⟩
    · rw [w_le (by omega) (by omega)] at h
      omega
    · intro M1 e1
      rw [w_nat (by omega), (L.2 r hne).1] at e1
      subst e1
      rw [w_add1]
      refine p_copies_l hK hr hr2 hne hq k (i + 1) _ (by omega) (tp_e rfl T) (lik_trans L (lik_setI rfl)) (fun j hj => ?_)
      by_cases g : j = i
      · rw [g, I_eq]
      · rw [I_ne (by omega)]; exact h1 j (by omega)
theorem p_copies {d K r r2 : Nat} {M : mx_M} {Q : mx_O → mx_M → Prop} (T : mx_Tp M) (hK : K < 100000) (hr : mx_shp0 r = some (.inr (.int, K))) (hr2 : mx_shp0 r2 = some (.inr (.int, K))) (hne : ¬ r = r2)
    (hq : ∀ M1, lik (fun k => k = r2) M M1 → (∀ i, i < K → mx_I M1 r2 i = mx_I M r i) → Q (.inl none) M1) : mx_W m_X11_copies d 0 [.ref 58, .ref r, .ref r2, .retAddr 0] [] M Q :=
  x_X11_copies_0 T K r hr r2 hr2 (p_copies_l hK hr hr2 hne hq K 0 M (Nat.zero_add K) T (lik_refl _ _) (fun j hj => by omega))
