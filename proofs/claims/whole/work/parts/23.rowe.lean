/-! worlds that are alike but for some cells; a row of the class that changes -/
/-- M1 is as M, but in the cells of P -/
def lik (P : Nat → Prop) (M M1 : mx_M) : Prop := (mx_sh M1 = mx_sh M ∧ mx_R M1 = mx_R M ∧ mx_rm M1 = mx_rm M ∧ mx_scr M1 = mx_scr M) ∧ ∀ k, ¬ P k → mx_I M1 k = mx_I M k ∧ mx_J M1 k = mx_J M k
theorem lik_refl (P : Nat → Prop) (M : mx_M) : lik P M M := ⟨⟨rfl, rfl, rfl, rfl⟩, fun _ _ => ⟨rfl, rfl⟩⟩
theorem lik_trans {P : Nat → Prop} {M M1 M2 : mx_M} (h : lik P M M1) (g : lik P M1 M2) : lik P M M2 := ⟨⟨g.1.1.trans h.1.1, g.1.2.1.trans h.1.2.1, g.1.2.2.1.trans h.1.2.2.1, g.1.2.2.2.trans h.1.2.2.2⟩, fun k hk => ⟨(g.2 k hk).1.trans (h.2 k hk).1, (g.2 k hk).2.trans (h.2 k hk).2⟩⟩
theorem lik_mono {P P' : Nat → Prop} {M M1 : mx_M} (h : lik P M M1) (hp : ∀ k, P k → P' k) : lik P' M M1 := ⟨h.1, fun k hk => h.2 k (fun z => hk (hp k z))⟩
theorem lik_T {P : Nat → Prop} {M M1 : mx_M} (h : lik P M M1) (T : mx_Tp M) : mx_Tp M1 := tp_of h.1.1 h.1.2.1 T
theorem lik_setI {P : Nat → Prop} {M : mx_M} {k j : Nat} {v : Int32} (h : P k) : lik P M (mx_setI M k j v) := ⟨⟨rfl, rfl, rfl, rfl⟩, fun a ha => ⟨mx_up_off (mx_I M) v (fun e => ha (e ▸ h)), rfl⟩⟩
theorem lik_setJ {P : Nat → Prop} {M : mx_M} {k j : Nat} {v : Int64} (h : P k) : lik P M (mx_setJ M k j v) := ⟨⟨rfl, rfl, rfl, rfl⟩, fun a ha => ⟨rfl, mx_up_off (mx_J M) v (fun e => ha (e ▸ h))⟩⟩
theorem lik_cpI {P : Nat → Prop} {M : mx_M} {r0 r1 a b n : Nat} (h : P r1) : lik P M (mx_cpI M r0 r1 a b n) := ⟨⟨rfl, rfl, rfl, rfl⟩, fun k hk => ⟨if_neg (show ¬ k = r1 from fun e => hk (e ▸ h)), rfl⟩⟩
theorem lik_cpJ {P : Nat → Prop} {M : mx_M} {r0 r1 a b n : Nat} (h : P r1) : lik P M (mx_cpJ M r0 r1 a b n) := ⟨⟨rfl, rfl, rfl, rfl⟩, fun k hk => ⟨rfl, if_neg (show ¬ k = r1 from fun e => hk (e ▸ h))⟩⟩
theorem I_eq {M : mx_M} {k j : Nat} {v : Int32} : mx_I (mx_setI M k j v) k j = v := mx_up_eq (mx_I M) k j v
theorem I_ne {M : mx_M} {k j a b : Nat} {v : Int32} (h : ¬ (a = k ∧ b = j)) : mx_I (mx_setI M k j v) a b = mx_I M a b := if_neg h
theorem J_eq {M : mx_M} {k j : Nat} {v : Int64} : mx_J (mx_setJ M k j v) k j = v := mx_up_eq (mx_J M) k j v
theorem J_ne {M : mx_M} {k j a b : Nat} {v : Int64} (h : ¬ (a = k ∧ b = j)) : mx_J (mx_setJ M k j v) a b = mx_J M a b := if_neg h
/-- what a row is does not change where other cells do -/
theorem rowC_lik {P : Nat → Prop} {M M1 : mx_M} {a n N : Nat} {f : Nat → Nat} (h : lik P M M1) (h1 : ¬ P a) (h2 : ¬ P (a + 1)) (R : rowC M a n N f) : rowC M1 a n N f := by
  refine ⟨?_, R.2.1, fun i hi => ?_⟩
  · rw [(h.2 a h1).1]; exact R.1
  · rw [(h.2 (a + 1) h2).1]; exact R.2.2 i hi
theorem ahC_lik {P : Nat → Prop} {M M1 : mx_M} {o N : Nat} {B : Nat → Nat → Bool} (h : lik P M M1) (h1 : ¬ P 27) (A : ahC M o N B) : ahC M1 o N B := by
  obtain ⟨g, G, hB⟩ := A
  refine ⟨g, ⟨G.1, G.2.1, fun x hx => ?_⟩, hB⟩
  rw [(h.2 27 h1).1]
  exact G.2.2 x hx
/-- a row's own cells -/
abbrev rowP (a : Nat) : Nat → Prop := fun k => k = a ∨ k = a + 1
/-- c at place p, those behind it one further -/
def insF (p c : Nat) (f : Nat → Nat) : Nat → Nat := fun i => if i < p then f i else if i = p then c else f (i - 1)
theorem p_insert_l {d a n N p c : Nat} {f : Nat → Nat} {M0 : mx_M} {Q : mx_O → mx_M → Prop} (ha : mx_Row a) (hn : n < 10) (hN : N ≤ 10) (hp : p ≤ n) (hc : c < N) (hf : ∀ i, i < n → f i < N)
    (hq : ∀ M1, lik (rowP a) M0 M1 → rowC M1 a (n + 1) N (insF p c f) → Q (.inl none) M1) :
    ∀ (k : Nat) (M : mx_M), mx_Tp M → lik (rowP a) M0 M → p + k ≤ n → mx_I M a 1 = w n → (∀ i, i < p + k → mx_I M (a + 1) i = w (f i)) → (∀ i, p + k < i → i ≤ n → mx_I M (a + 1) i = w (f (i - 1))) → mx_W m_X5_insert d 27 [.ref a, .int (w p), .int (w c), .int (w (p + k))] [] M Q
  | 0, M, T, L, hk, h0, h1, h2 => by
    refine x_X5_insert_27 T a ha _ _ _ ⟨fun _ => ⟨w_in (by omega) (by omega), ?_⟩, fun h => absurd ?_ h⟩
    · intro M1 e1 M2 e2
      rw [w_nat (by omega)] at e1
      subst e1
      rw [I_ne (by omega), h0, w_add1] at e2
      subst e2
      refine hq _ (lik_trans L (lik_trans (lik_setI (Or.inr rfl)) (lik_setI (Or.inl rfl)))) ⟨I_eq, ⟨by omega, hN⟩, fun i hi => ?_⟩
      rw [I_ne (by omega)]
      unfold insF
      by_cases g1 : i < p
      · rw [if_pos g1, I_ne (by omega)]
        exact ⟨h1 i (by omega), hf i (by omega)⟩
      · rw [if_neg g1]
        by_cases g2 : i = p
        · rw [if_pos g2, g2]
          exact ⟨I_eq, hc⟩
        · rw [if_neg g2, I_ne (by omega)]
          exact ⟨h2 i (by omega) (by omega), hf (i - 1) (by omega)⟩
    · rw [w_le (by omega) (by omega)]
      omega
  | k + 1, M, T, L, hk, h0, h1, h2 => by
    refine x_X5_insert_27 T a ha _ _ _ ⟨fun h => ?_, fun _ => ?_⟩
    · rw [w_le (by omega) (by omega)] at h
      omega
    · have e : w (p + (k + 1)) - 1 = w (p + k) := w_sub (a := p + (k + 1)) (b := 1) (by omega)
      have e' : w (p + (k + 1)) + (-1) = w (p + k) := by rw [← e]; exact (Int32.sub_eq_add_neg _ 1).symm
      rw [e]
      refine ⟨w_in (by omega) (by omega), w_in (by omega) (by omega), ?_⟩
      intro M3 e3
      rw [w_nat (by omega), w_nat (by omega), h1 (p + k) (by omega)] at e3
      subst e3
      rw [e']
      refine p_insert_l ha hn hN hp hc hf hq k _ (tp_e rfl T) (lik_trans L (lik_setI (Or.inr rfl))) (by omega) ?_ (fun i hi => ?_) (fun i h3 h4 => ?_)
      · rw [I_ne (by omega)]; exact h0
      · rw [I_ne (by omega)]; exact h1 i (by omega)
      · by_cases g : i = p + (k + 1)
        · rw [g, I_eq]; congr 2
        · rw [I_ne (by omega)]; exact h2 i (by omega) h4
theorem p_insert {d a n N p c : Nat} {f : Nat → Nat} {M : mx_M} {Q : mx_O → mx_M → Prop} (T : mx_Tp M) (ha : mx_Row a) (R : rowC M a n N f) (hn : n < 10) (hp : p ≤ n) (hc : c < N)
    (hq : ∀ M1, lik (rowP a) M M1 → rowC M1 a (n + 1) N (insF p c f) → Q (.inl none) M1) : mx_W m_X5_insert d 0 [.ref a, .int (w p), .int (w c), .retAddr 0] [] M Q := by
  have h10 := R.2.1
  refine x_X5_insert_0 T a ha _ _ ?_
  rw [R.1]
  refine ⟨fun h => ?_, fun _ => ⟨fun h => absurd h (w_pos (by omega)), fun _ => ⟨fun _ => ?_, fun h => absurd ?_ h⟩⟩⟩
  · rw [show (10 : Int32) = w 10 from rfl, w_le (by omega) (by omega)] at h
    omega
  · have := p_insert_l (d := d) ha hn h10.2 hp hc (fun i hi => (R.2.2 i hi).2) hq (n - p) M T (lik_refl _ _) (by omega) R.1 (fun i hi => (R.2.2 i (by omega)).1) (fun i h3 h4 => by omega)
    rw [show p + (n - p) = n by omega] at this
    exact this
  · rw [w_le (by omega) (by omega)]
    exact hp
/-- without the one at place p -/
def delF (p : Nat) (f : Nat → Nat) : Nat → Nat := fun i => if i < p then f i else f (i + 1)
theorem p_remove_l {d a n N p : Nat} {f : Nat → Nat} {M0 : mx_M} {Q : mx_O → mx_M → Prop} (ha : mx_Row a) (hn : n < 10) (hN : N ≤ 10) (hf : ∀ i, i < n + 1 → f i < N)
    (hq : ∀ M1, lik (rowP a) M0 M1 → rowC M1 a n N (delF p f) → Q (.inl none) M1) :
    ∀ (k j : Nat) (M : mx_M), mx_Tp M → lik (rowP a) M0 M → p ≤ j → j + k = n → mx_I M a 1 = w n → (∀ i, i < j → mx_I M (a + 1) i = w (delF p f i)) → (∀ i, j < i → i ≤ n → mx_I M (a + 1) i = w (f i)) → mx_W m_X5_remove d 25 [.ref a, .retAddr 0, .int (w j)] [] M Q
  | 0, j, M, T, L, hp, hk, h0, h1, h2 => by
    refine x_X5_remove_25 T a ha _ ⟨fun _ => ?_, fun h => absurd ?_ h⟩
    · refine hq _ L ⟨h0, ⟨by omega, hN⟩, fun i hi => ⟨h1 i (by omega), ?_⟩⟩
      unfold delF
      split
      · exact hf i (by omega)
      · exact hf (i + 1) (by omega)
    · rw [h0, w_le (by omega) (by omega)]
      omega
  | k + 1, j, M, T, L, hp, hk, h0, h1, h2 => by
    refine x_X5_remove_25 T a ha _ ⟨fun h => ?_, fun _ => ?_⟩
    · rw [h0, w_le (by omega) (by omega)] at h
      omega
    · rw [w_add1]
      refine ⟨w_in (by omega) (by omega), w_in (by omega) (by omega), ?_⟩
      intro M3 e3
      rw [w_nat (by omega), w_nat (by omega), h2 (j + 1) (by omega) (by omega)] at e3
      subst e3
      refine p_remove_l ha hn hN hf hq k (j + 1) _ (tp_e rfl T) (lik_trans L (lik_setI (Or.inr rfl))) (by omega) (by omega) ?_ (fun i hi => ?_) (fun i h3 h4 => ?_)
      · rw [I_ne (by omega)]; exact h0
      · by_cases g : i = j
        · rw [g, I_eq]; unfold delF; rw [if_neg (by omega)]
        · rw [I_ne (by omega)]; exact h1 i (by omega)
      · rw [I_ne (by omega)]; exact h2 i (by omega) h4
theorem p_remove {d a n N p : Nat} {f : Nat → Nat} {M : mx_M} {Q : mx_O → mx_M → Prop} (T : mx_Tp M) (ha : mx_Row a) (R : rowC M a (n + 1) N f) (hp : p ≤ n)
    (hq : ∀ M1, lik (rowP a) M M1 → rowC M1 a n N (delF p f) → Q (.inl none) M1) : mx_W m_X5_remove d 0 [.ref a, .int (w p), .retAddr 0] [] M Q := by
  have h10 := R.2.1
  refine x_X5_remove_0 T a ha _ ?_
  rw [R.1]
  refine ⟨fun h => absurd h (w_pos (by omega)), fun _ => ⟨fun _ => ?_, fun h => absurd ?_ h⟩⟩
  · intro M1 e1
    rw [show w (n + 1) - 1 = w n from w_sub (a := n + 1) (b := 1) (by omega)] at e1
    subst e1
    refine p_remove_l ha (by omega) h10.2 (fun i hi => (R.2.2 i hi).2) (fun M1 L1 R1 => hq M1 (lik_trans (lik_setI (Or.inl rfl)) L1) R1) (n - p) p _ (tp_e rfl T) (lik_refl _ _) (Nat.le_refl _) (by omega) I_eq (fun i hi => ?_) (fun i h3 h4 => ?_)
    · rw [I_ne (by omega)]
      unfold delF
      rw [if_pos hi]
      exact (R.2.2 i (by omega)).1
    · rw [I_ne (by omega)]
      exact (R.2.2 i (by omega)).1
  · rw [w_lt (by omega) (by omega)]
    omega
