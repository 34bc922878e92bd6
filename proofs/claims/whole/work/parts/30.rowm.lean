/-! a row of the reference -/
/-- the row in the cell r is of n cards, f 0, f 1, .., all below N -/
def rowM (M : mx_M) (r n N : Nat) (f : Nat → Nat) : Prop := mx_I M r 0 = w n ∧ (n ≤ 10 ∧ N ≤ 10) ∧ ∀ i, i < n → mx_I M r (i + 1) = w (f i) ∧ f i < N
theorem rowM_lik {P : Nat → Prop} {M M1 : mx_M} {r n N : Nat} {f : Nat → Nat} (h : lik P M M1) (h1 : ¬ P r) (R : rowM M r n N f) : rowM M1 r n N f := by
  unfold rowM
  rw [(h.2 r h1).1]
  exact R
/-- where the reference writes while it compares; what it reads then -/
abbrev mSc : Nat → Prop := fun k => k = 88 ∨ k = 89
abbrev mRd : Nat → Prop := fun k => ¬ (k = 59 ∨ k = 60 ∨ k = 65 ∨ k = 66 ∨ k = 67 ∨ k = 85 ∨ k = 86)
/-- by the slot o of the reference, of N cards: B x y, if x is before y -/
def befM (M0 : mx_M) (o N : Nat) (B : Nat → Nat → Bool) : Prop := ∀ (d : Nat) (M : mx_M) (x y : Nat) (Q : mx_O → mx_M → Prop), lik mRd M0 M → mx_Tp M → x < N → y < N → (∀ M1, lik mSc M M1 → Q (.inl (some (.int (mx_b (B x y))))) M1) → mx_W m_X11_isBefore (d + 4) 0 [.ref 58, .int (w o), .int (w x), .int (w y), .retAddr 0, .retAddr 0, .retAddr 0] [] M Q
theorem sc_rd {M M1 : mx_M} (h : lik mSc M M1) : lik mRd M M1 := lik_mono h (fun k hk g => by rcases hk with rfl | rfl <;> omega)
theorem w_1add (a : Nat) : 1 + w a = w (a + 1) := by rw [Int32.add_comm]; exact w_add1 a
theorem p_placeIn_l {d r n N : Nat} {f : Nat → Nat} {M : mx_M} {Q : mx_O → mx_M → Prop} (T : mx_Tp M) (hr : mx_shp0 r = some (.inr (.int, 11))) (R : rowM M r n N f) (c : Nat) (hc : c < 10) :
    ∀ (k i : Nat), i + k = n → Q (.inl (some (.int (fz n (fnd (fun i => decide (f i = c)) i k))))) M → mx_W m_X11_placeIn d 2 [.ref r, .int (w c), .int (w i)] [] M Q
  | 0, i, hi, hq => by
    have h10 := R.2.1
    rw [fz_ge (by unfold fnd; omega)] at hq
    refine x_X11_placeIn_2 T r hr _ _ ⟨fun _ => hq, fun h => absurd ?_ h⟩
    rw [R.1, w_le (by omega) (by omega)]
    omega
  | k + 1, i, hi, hq => by
    have h10 := R.2.1
    have ho := R.2.2 i (by omega)
    refine x_X11_placeIn_2 T r hr _ _ ⟨fun h => ?_, fun h => ?_⟩
    · rw [R.1, w_le (by omega) (by omega)] at h
      omega
    · rw [w_1add, w_nat (by omega), ho.1]
      refine ⟨w_in (by omega) (by omega), fun g => ?_, fun g => ?_⟩
      · rw [w_inj (by omega) (by omega)] at g
        rw [fnd_next (by simpa using g)] at hq
        rw [w_add1]
        exact p_placeIn_l T hr R c hc k (i + 1) (by omega) hq
      · rw [w_inj (by omega) (by omega)] at g
        rw [fnd_stop (by simpa using g), fz_lt (by omega)] at hq
        exact hq
theorem p_placeIn {d r n N : Nat} {f : Nat → Nat} {M : mx_M} {Q : mx_O → mx_M → Prop} (T : mx_Tp M) (hr : mx_shp0 r = some (.inr (.int, 11))) (R : rowM M r n N f) (c : Nat) (hc : c < 10) (hq : Q (.inl (some (.int (plc n f c)))) M) : mx_W m_X11_placeIn d 0 [.ref r, .int (w c), .retAddr 0] [] M Q :=
  x_X11_placeIn_0 T r hr _ (p_placeIn_l T hr R c hc n 0 (Nat.zero_add n) hq)
theorem p_mplaceFor_l {d r n N o : Nat} {f : Nat → Nat} {B : Nat → Nat → Bool} {M0 : mx_M} {Q : mx_O → mx_M → Prop} (hr : mx_shp0 r = some (.inr (.int, 11))) (hm : ¬ mSc r) (hm2 : mRd r) (A : befM M0 o N B) (c : Nat) (hc : c < N) :
    ∀ (k i : Nat) (M : mx_M), mx_Tp M → lik mRd M0 M → rowM M r n N f → i + k = n → (∀ M1, lik mSc M M1 → Q (.inl (some (.int (w (fnd (fun i => B c (f i)) i k))))) M1) → mx_W m_X11_placeFor (d + 4 + 1) 3 [.ref 58, .ref r, .int (w c), .int (w o), .int (w i)] [] M Q
  | 0, i, M, T, L, R, hi, hq => by
    have h10 := R.2.1
    refine x_X11_placeFor_3 T r hr _ _ _ ⟨fun _ => ?_, fun h => absurd ?_ h⟩
    · rw [R.1, ← hi]
      exact hq M (lik_refl _ _)
    · rw [R.1, w_le (by omega) (by omega)]
      omega
  | k + 1, i, M, T, L, R, hi, hq => by
    have h10 := R.2.1
    have ho := R.2.2 i (by omega)
    refine x_X11_placeFor_3 T r hr _ _ _ ⟨fun h => ?_, fun h => ?_⟩
    · rw [R.1, w_le (by omega) (by omega)] at h
      omega
    · rw [w_1add, w_nat (by omega), ho.1]
      refine ⟨w_in (by omega) (by omega), A d M c (f i) _ L T hc ho.2 (fun M1 L1 => ⟨L1.1.1, L1.1.2.1, _, rfl, fun g => ?_, fun g => ?_⟩)⟩
      · rw [fnd_next (by simpa using g)] at hq
        rw [w_add1]
        exact p_mplaceFor_l hr hm hm2 A c hc k (i + 1) M1 (lik_T L1 T) (lik_trans L (sc_rd L1)) (rowM_lik L1 hm R) (by omega) (fun M2 L2 => hq M2 (lik_trans L1 L2))
      · rw [fnd_stop (by simpa using g)] at hq
        exact hq M1 L1
theorem p_mplaceFor {d r n N o : Nat} {f : Nat → Nat} {B : Nat → Nat → Bool} {M : mx_M} {Q : mx_O → mx_M → Prop} (T : mx_Tp M) (hr : mx_shp0 r = some (.inr (.int, 11))) (hm : ¬ mSc r) (hm2 : mRd r) (A : befM M o N B) (R : rowM M r n N f) (c : Nat) (hc : c < N)
    (hq : ∀ M1, lik mSc M M1 → Q (.inl (some (.int (w (plf n f B c))))) M1) : mx_W m_X11_placeFor (d + 4 + 1) 0 [.ref 58, .ref r, .int (w c), .int (w o), .retAddr 0] [] M Q :=
  x_X11_placeFor_0 T r hr _ _ (p_mplaceFor_l hr hm hm2 A c hc n 0 M T (lik_refl _ _) R (Nat.zero_add n) hq)
theorem p_putsIn_l {d r n N p c : Nat} {f : Nat → Nat} {M0 : mx_M} {Q : mx_O → mx_M → Prop} (hr : mx_shp0 r = some (.inr (.int, 11))) (hn : n < 10) (hN : N ≤ 10) (hp : p ≤ n) (hc : c < N) (hf : ∀ i, i < n → f i < N)
    (hq : ∀ M1, lik (fun k => k = r) M0 M1 → rowM M1 r (n + 1) N (insF p c f) → Q (.inl none) M1) :
    ∀ (k : Nat) (M : mx_M), mx_Tp M → lik (fun k => k = r) M0 M → p + k ≤ n → mx_I M r 0 = w n → (∀ i, i < p + k → mx_I M r (i + 1) = w (f i)) → (∀ i, p + k < i → i ≤ n → mx_I M r (i + 1) = w (f (i - 1))) → mx_W m_X11_putsIn d 5 [.retAddr 0, .ref r, .int (w c), .int (w p), .int (w (p + k))] [] M Q
  | 0, M, T, L, hk, h0, h1, h2 => by
    refine x_X11_putsIn_5 T r hr _ _ _ ⟨fun _ => ?_, fun h => absurd ?_ h⟩
    · rw [w_1add]
      refine ⟨w_in (by omega) (by omega), ?_⟩
      intro M1 e1 M2 e2
      rw [w_nat (by omega)] at e1
      subst e1
      rw [I_ne (by omega), h0, w_add1] at e2
      subst e2
      refine hq _ (lik_trans L (lik_trans (lik_setI rfl) (lik_setI rfl))) ⟨I_eq, ⟨by omega, hN⟩, fun i hi => ?_⟩
      rw [I_ne (by omega)]
      unfold insF
      by_cases g1 : i < p
      · rw [if_pos g1, I_ne (by omega)]
        exact ⟨h1 i (by omega), hf i (by omega)⟩
      · rw [if_neg g1]
        by_cases g2 : i = p
        · rw [if_pos g2, g2]
          exact ⟨I_eq, hc⟩
        · rw [if_neg g2, I_ne (by omega)]
          exact ⟨h2 i (by omega) (by omega), hf (i - 1) (by omega)⟩
    · rw [w_le (by omega) (by omega)]
      omega
  | k + 1, M, T, L, hk, h0, h1, h2 => by
    refine x_X11_putsIn_5 T r hr _ _ _ ⟨fun h => ?_, fun _ => ?_⟩
    · rw [w_le (by omega) (by omega)] at h
      omega
    · have e : w (p + (k + 1)) - 1 = w (p + k) := w_sub (a := p + (k + 1)) (b := 1) (by omega)
      have e' : w (p + (k + 1)) + (-1) = w (p + k) := by rw [← e]; exact (Int32.sub_eq_add_neg _ 1).symm
      rw [w_1add]
      refine ⟨w_in (by omega) (by omega), w_in (by omega) (by omega), ?_⟩
      intro M3 e3
      rw [w_nat (by omega), w_nat (by omega), show p + (k + 1) = (p + k) + 1 from rfl, h1 (p + k) (by omega)] at e3
      subst e3
      rw [e']
      refine p_putsIn_l hr hn hN hp hc hf hq k _ (tp_e rfl T) (lik_trans L (lik_setI rfl)) (by omega) ?_ (fun i hi => ?_) (fun i h3 h4 => ?_)
      · rw [I_ne (by omega)]; exact h0
      · rw [I_ne (by omega)]; exact h1 i (by omega)
      · by_cases g : i = p + k + 1
        · rw [g, I_eq]; congr 2
        · rw [I_ne (by omega)]; exact h2 i (by omega) h4
theorem p_putsIn {d r n N p c : Nat} {f : Nat → Nat} {M : mx_M} {Q : mx_O → mx_M → Prop} (T : mx_Tp M) (hr : mx_shp0 r = some (.inr (.int, 11))) (R : rowM M r n N f) (hn : n < 10) (hp : p ≤ n) (hc : c < N)
    (hq : ∀ M1, lik (fun k => k = r) M M1 → rowM M1 r (n + 1) N (insF p c f) → Q (.inl none) M1) : mx_W m_X11_putsIn d 0 [.ref 58, .ref r, .int (w c), .int (w p), .retAddr 0] [] M Q := by
  have h10 := R.2.1
  refine x_X11_putsIn_0 T r hr _ _ ?_
  rw [R.1]
  have := p_putsIn_l (d := d) hr hn h10.2 hp hc (fun i hi => (R.2.2 i hi).2) hq (n - p) M T (lik_refl _ _) (by omega) R.1 (fun i hi => (R.2.2 i (by omega)).1) (fun i h3 h4 => by omega)
  rw [show p + (n - p) = n by omega] at this
  exact this
theorem w_2add (a : Nat) : 2 + w a = w (a + 2) := by rw [Int32.add_comm]; exact w_add a 2
theorem p_takesOut_l {d r n N p : Nat} {f : Nat → Nat} {M0 : mx_M} {Q : mx_O → mx_M → Prop} (hr : mx_shp0 r = some (.inr (.int, 11))) (hn : n < 10) (hN : N ≤ 10) (hf : ∀ i, i < n + 1 → f i < N)
    (hq : ∀ M1, lik (fun k => k = r) M0 M1 → rowM M1 r n N (delF p f) → Q (.inl none) M1) :
    ∀ (k j : Nat) (M : mx_M), mx_Tp M → lik (fun k => k = r) M0 M → p ≤ j → j + k = n → mx_I M r 0 = w n → (∀ i, i < j → mx_I M r (i + 1) = w (delF p f i)) → (∀ i, j < i → i ≤ n → mx_I M r (i + 1) = w (f i)) → mx_W m_X11_takesOut d 9 [.retAddr 0, .ref r, .retAddr 0, .int (w j)] [] M Q
  | 0, j, M, T, L, hp, hk, h0, h1, h2 => by
    refine x_X11_takesOut_9 T r hr _ ⟨fun _ => ?_, fun h => absurd ?_ h⟩
    · refine hq _ L ⟨h0, ⟨by omega, hN⟩, fun i hi => ⟨h1 i (by omega), ?_⟩⟩
      unfold delF
      split
      · exact hf i (by omega)
      · exact hf (i + 1) (by omega)
    · rw [h0, w_le (by omega) (by omega)]
      omega
  | k + 1, j, M, T, L, hp, hk, h0, h1, h2 => by
    refine x_X11_takesOut_9 T r hr _ ⟨fun h => ?_, fun _ => ?_⟩
    · rw [h0, w_le (by omega) (by omega)] at h
      omega
    · rw [w_1add, w_2add, w_add1]
      refine ⟨w_in (by omega) (by omega), w_in (by omega) (by omega), ?_⟩
      intro M3 e3
      rw [w_nat (by omega), w_nat (by omega), show j + 2 = (j + 1) + 1 from rfl, h2 (j + 1) (by omega) (by omega)] at e3
      subst e3
      refine p_takesOut_l hr hn hN hf hq k (j + 1) _ (tp_e rfl T) (lik_trans L (lik_setI rfl)) (by omega) (by omega) ?_ (fun i hi => ?_) (fun i h3 h4 => ?_)
      · rw [I_ne (by omega)]; exact h0
      · by_cases g : i = j
        · rw [g, I_eq]; unfold delF; rw [if_neg (by omega)]
        · rw [I_ne (by omega)]; exact h1 i (by omega)
      · rw [I_ne (by omega)]; exact h2 i (by omega) h4
theorem p_takesOut {d r n N p : Nat} {f : Nat → Nat} {M : mx_M} {Q : mx_O → mx_M → Prop} (T : mx_Tp M) (hr : mx_shp0 r = some (.inr (.int, 11))) (R : rowM M r (n + 1) N f) (hp : p ≤ n)
    (hq : ∀ M1, lik (fun k => k = r) M M1 → rowM M1 r n N (delF p f) → Q (.inl none) M1) : mx_W m_X11_takesOut d 0 [.ref 58, .ref r, .int (w p), .retAddr 0] [] M Q := by
  have h10 := R.2.1
  refine x_X11_takesOut_0 T r hr _ ?_
  rw [R.1]
  intro M1 e1
  rw [show w (n + 1) - 1 = w n from w_sub (a := n + 1) (b := 1) (by omega)] at e1
  subst e1
  refine p_takesOut_l hr (by omega) h10.2 (fun i hi => (R.2.2 i hi).2) (fun M1 L1 R1 => hq M1 (lik_trans (lik_setI rfl) L1) R1) (n - p) p _ (tp_e rfl T) (lik_refl _ _) (Nat.le_refl _) (by omega) I_eq (fun i hi => ?_) (fun i h3 h4 => ?_)
  · rw [I_ne (by omega)]
    unfold delF
    rw [if_pos hi]
    exact (R.2.2 i (by omega)).1
  · rw [I_ne (by omega)]
    exact (R.2.2 i (by omega)).1
