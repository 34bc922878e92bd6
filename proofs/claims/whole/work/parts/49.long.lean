/-! the longest row that may stay -/
def lnI (B : Nat → Nat → Bool) (f g : Nat → Nat) (i : Nat) : Nat → Nat → Nat → Nat
  | _, 0, s => s
  | j, k + 1, s => lnI B f g i (j + 1) k (if B (f i) (f j) && decide (s < g j + 1) then g j + 1 else s)
def lnS (B : Nat → Nat → Bool) (f : Nat → Nat) (n i : Nat) (g : Nat → Nat) : Nat → Nat := fun x => if x = i then lnI B f g i (i + 1) (n - (i + 1)) 1 else g x
def lnR (B : Nat → Nat → Bool) (f : Nat → Nat) (n : Nat) : Nat → (Nat → Nat) → Nat → (Nat → Nat) × Nat
  | 0, g, b => (g, b)
  | i + 1, g, b => lnR B f n i (lnS B f n i g) (if b < lnS B f n i g i then lnS B f n i g i else b)
theorem lnI_le (B : Nat → Nat → Bool) (f g : Nat → Nat) (i m : Nat) : ∀ (k j s : Nat), s ≤ m → (∀ x, j ≤ x → x < j + k → g x + 1 ≤ m) → lnI B f g i j k s ≤ m
  | 0, j, s, hs, _ => hs
  | k + 1, j, s, hs, hg => by
    rw [lnI]
    refine lnI_le B f g i m k (j + 1) _ ?_ (fun x h1 h2 => hg x (by omega) (by omega))
    split
    · exact hg j (Nat.le_refl _) (by omega)
    · exact hs
theorem lnI_ge (B : Nat → Nat → Bool) (f g : Nat → Nat) (i : Nat) : ∀ (k j s : Nat), s ≤ lnI B f g i j k s
  | 0, j, s => Nat.le_refl _
  | k + 1, j, s => by
    rw [lnI]
    refine Nat.le_trans ?_ (lnI_ge B f g i k (j + 1) _)
    split
    · rename_i h
      rw [Bool.and_eq_true, decide_eq_true_iff] at h
      omega
    · exact Nat.le_refl _
theorem w_m1 (i : Nat) : w i + (-1) = w i - 1 := (Int32.sub_eq_add_neg _ 1).symm
abbrev cL : Nat → Nat → Prop := fun k _ => k = 44
theorem wC_L {M M1 : mx_M} {t n N K : Nat} {f : Nat → Nat} {Bs : BB} (L : lip cL M M1) (W : wC M t n N K f Bs) : wC M1 t n N K f Bs :=
  wC_of L (fun k j h => by have h : k = 44 := h; rcases W.2.1.1.1 with e | e <;> omega) W
theorem p_long_i {d t n N K o i b : Nat} {f g : Nat → Nat} {Bs : BB} {M0 : mx_M} {Q : QQ} (ho : o < K) (hi : i < n) (hb9 : b ≤ 10) (hg : ∀ j, i < j → j < n → g j ≤ n - j) (s9 : Nat)
    (X : ∀ M1, wC M1 t n N K f Bs → lip cL M0 M1 → mx_I M1 44 i = w s9 → (∀ j, i < j → j < n → mx_I M1 44 j = w (g j)) → s9 ≤ 10 → mx_W m_X10_longestStay (d + 1 + 1) 12 [.ref 1, .int (w o), .int (w (if b < s9 then s9 else b)), .int (w i - 1), .retAddr 0] [] M1 Q) :
    ∀ (k j s : Nat) (M : mx_M), wC M t n N K f Bs → lip cL M0 M → j + k = n → i < j → s ≤ 10 → mx_I M 44 i = w s → (∀ j, i < j → j < n → mx_I M 44 j = w (g j)) → lnI (Bs o) f g i j k s = s9 → mx_W m_X10_longestStay (d + 1 + 1) 28 [.ref 1, .int (w o), .int (w b), .int (w i), .int (w j)] [] M Q
  | 0, j, s, M, W, L, hj, hij, hs, c1, c2, e => by
    have h10 := W.2.2.1.2.1
    have e : s = s9 := e
    subst e
    have H := X M W L c1 c2 hs
    refine x_X10_longestStay_28 W.1 t W.2.1.1.1 W.2.1.1.2 _ _ _ _ ⟨fun _ => ?_, fun h => absurd ?_ h⟩
    · rw [w_nat (by omega), c1, w_m1]
      refine ⟨w_in (by omega) (by omega), x_J9_max_7cf53_0 W.1 _ _ ⟨fun g => ⟨rfl, rfl, _, rfl, ?_⟩, fun g => ⟨rfl, rfl, _, rfl, ?_⟩⟩⟩
      · rw [w_lt (by omega) (by omega)] at g
        rw [if_pos g] at H; exact H
      · rw [w_lt (by omega) (by omega)] at g
        rw [if_neg g] at H; exact H
    · rw [W.2.2.1.1, w_le (by omega) (by omega)]; omega
  | k + 1, j, s, M, W, L, hj, hij, hs, c1, c2, e => by
    have h10 := W.2.2.1.2.1
    have o1 := W.2.2.1.2.2 i hi
    have o2 := W.2.2.1.2.2 j (by omega)
    have gj := hg j hij (by omega)
    have cj := c2 j hij (by omega)
    rw [lnI] at e
    refine x_X10_longestStay_28 W.1 t W.2.1.1.1 W.2.1.1.2 _ _ _ _ ⟨fun h => ?_, fun _ => ?_⟩
    · rw [W.2.2.1.1, w_le (by omega) (by omega)] at h; omega
    · rw [w_nat (n := i) (by omega), w_nat (n := j) (by omega), o1.1, o2.1]
      refine ⟨w_in (by omega) (by omega), w_in (by omega) (by omega), p_isAhead W.1 (W.2.1.2.2.2 o ho) o1.2 o2.2 ⟨rfl, rfl, _, rfl, fun z => ?_, fun z => ⟨w_in (by omega) (by omega), w_in (by omega) (by omega), ?_⟩⟩⟩
      · rw [z, Bool.false_and, if_neg (by decide)] at e
        rw [w_add1]
        exact p_long_i ho hi hb9 hg s9 X k (j + 1) s M W L (by omega) (by omega) hs c1 c2 e
      · rw [z, Bool.true_and] at e
        rw [c1, cj, w_add1, w_add1]
        refine x_J9_max_7cf53_0 W.1 _ _ ⟨fun y => ⟨rfl, rfl, _, rfl, w_in (by omega) (by omega), fun M7 e7 => ?_⟩, fun y => ⟨rfl, rfl, _, rfl, w_in (by omega) (by omega), fun M7 e7 => ?_⟩⟩
        · rw [w_lt (by omega) (by omega)] at y
          rw [if_pos (by simpa using y)] at e
          have L7 : lip cL M M7 := by rw [e7]; exact lip_setI rfl
          refine p_long_i ho hi hb9 hg s9 X k (j + 1) (g j + 1) M7 (wC_L L7 W) (lip_trans L L7) (by omega) (by omega) (by omega) (by rw [e7]; exact I_eq) (fun q h1 h2 => ?_) e
          rw [e7, I_ne (by omega)]; exact c2 q h1 h2
        · rw [w_lt (by omega) (by omega)] at y
          rw [if_neg (by simpa using y)] at e
          have L7 : lip cL M M7 := by rw [e7]; exact lip_setI rfl
          refine p_long_i ho hi hb9 hg s9 X k (j + 1) s M7 (wC_L L7 W) (lip_trans L L7) (by omega) (by omega) hs (by rw [e7]; exact I_eq) (fun q h1 h2 => ?_) e
          rw [e7, I_ne (by omega)]; exact c2 q h1 h2
theorem p_long_o {d t n N K o : Nat} {f : Nat → Nat} {Bs : BB} {M0 : mx_M} {Q : QQ} (ho : o < K) (r9 : (Nat → Nat) × Nat)
    (hq : ∀ M1, wC M1 t n N K f Bs → lip cL M0 M1 → (∀ j, j < n → mx_I M1 44 j = w (r9.1 j)) → Q (.inl (some (.int (w r9.2)))) M1) :
    ∀ (i b : Nat) (g : Nat → Nat) (M : mx_M), wC M t n N K f Bs → lip cL M0 M → i ≤ n → b ≤ 10 → (∀ j, i ≤ j → j < n → g j ≤ n - j ∧ mx_I M 44 j = w (g j)) → lnR (Bs o) f n i g b = r9 → mx_W m_X10_longestStay (d + 1 + 1) 12 [.ref 1, .int (w o), .int (w b), .int (w i - 1), .retAddr 0] [] M Q
  | 0, b, g, M, W, L, hi, hb9, hg, e => by
    refine x_X10_longestStay_12 W.1 t W.2.1.1.1 W.2.1.1.2 _ _ _ ⟨fun _ => ?_, fun h => absurd ?_ h⟩
    · have e : (g, b) = r9 := e
      subst e
      exact hq M W L (fun j hj => (hg j (Nat.zero_le _) hj).2)
    · decide
  | i + 1, b, g, M, W, L, hi, hb9, hg, e => by
    have h10 := W.2.2.1.2.1
    have e1 : w (i + 1) - 1 = w i := w_sub (a := i + 1) (b := 1) (by omega)
    rw [lnR] at e
    have eS : lnS (Bs o) f n i g i = lnI (Bs o) f g i (i + 1) (n - (i + 1)) 1 := if_pos rfl
    have hle : lnI (Bs o) f g i (i + 1) (n - (i + 1)) 1 ≤ n - i := lnI_le _ _ _ _ _ _ _ _ (by omega) (fun x h1 h2 => by have := (hg x (by omega) (by omega)).1; omega)
    rw [e1]
    refine x_X10_longestStay_12 W.1 t W.2.1.1.1 W.2.1.1.2 _ _ _ ⟨fun h => absurd h (w_pos (by omega)), fun _ => ⟨w_in (by omega) (by omega), fun M1 e2 => ?_⟩⟩
    rw [w_nat (by omega)] at e2
    have L1 : lip cL M M1 := by rw [e2]; exact lip_setI rfl
    rw [w_add1]
    refine p_long_i ho (by omega) hb9 (fun j h1 h2 => (hg j (by omega) h2).1) (lnI (Bs o) f g i (i + 1) (n - (i + 1)) 1) (fun M2 W2 L2 d1 d2 hs9 => ?_) (n - (i + 1)) (i + 1) 1 M1 (wC_L L1 W) (lip_trans L L1) (by omega) (by omega) (by omega) (by rw [e2]; exact I_eq) (fun q h1 h2 => by rw [e2, I_ne (by omega)]; exact (hg q (by omega) h2).2) rfl
    rw [eS] at e
    refine p_long_o ho r9 hq i _ (lnS (Bs o) f n i g) M2 W2 L2 (by omega) (by split <;> omega) (fun j h1 h2 => ?_) e
    unfold lnS
    by_cases q : j = i
    · rw [if_pos q, q]
      exact ⟨hle, d1⟩
    · rw [if_neg q]
      exact ⟨(hg j (by omega) h2).1, d2 j (by omega) h2⟩
/-- how long the longest row from each place on is, and the longest of all -/
def lnA (B : Nat → Nat → Bool) (f : Nat → Nat) (n : Nat) : (Nat → Nat) × Nat := lnR B f n n (fun _ => 0) 0
theorem p_longest {d t n N K o : Nat} {f : Nat → Nat} {Bs : BB} {M : mx_M} {Q : QQ} (W : wC M t n N K f Bs) (ho : o < K)
    (hq : ∀ M1, wC M1 t n N K f Bs → lip cL M M1 → (∀ j, j < n → mx_I M1 44 j = w ((lnA (Bs o) f n).1 j)) → Q (.inl (some (.int (w (lnA (Bs o) f n).2)))) M1) : mx_W m_X10_longestStay (d + 1 + 1) 0 [.ref 1, .int (w o), .retAddr 0, .retAddr 0, .retAddr 0] [] M Q := by
  refine x_X10_longestStay_0 W.1 t W.2.1.1.1 W.2.1.1.2 _ ?_
  rw [W.2.2.1.1]
  exact p_long_o ho _ hq n 0 (fun _ => 0) M W (lip_refl _ _) (Nat.le_refl _) (by omega) (fun j h1 h2 => by omega) rfl
theorem q_long_i {d n N K o i b : Nat} {f g : Nat → Nat} {Bs : BB} {M0 : mx_M} {Q : QQ} (ho : o < K) (hi : i < n) (hb9 : b ≤ 10) (hg : ∀ j, i < j → j < n → g j ≤ n - j) (s9 : Nat)
    (X : ∀ M1, wM M1 n N K f Bs → lip mQ M0 M1 → mx_I M1 93 i = w s9 → (∀ j, i < j → j < n → mx_I M1 93 j = w (g j)) → s9 ≤ 10 → mx_W m_X11_longest (d + 4 + 1) 11 [.ref 58, .int (w o), .int (w (if b < s9 then s9 else b)), .int (w i - 1), .retAddr 0] [] M1 Q) :
    ∀ (k j s : Nat) (M : mx_M), wM M n N K f Bs → lip mQ M0 M → j + k = n → i < j → s ≤ 10 → mx_I M 93 i = w s → (∀ j, i < j → j < n → mx_I M 93 j = w (g j)) → lnI (Bs o) f g i j k s = s9 → mx_W m_X11_longest (d + 4 + 1) 27 [.ref 58, .int (w o), .int (w b), .int (w i), .int (w j)] [] M Q
  | 0, j, s, M, W, L, hj, hij, hs, c1, c2, e => by
    have h10 := W.2.2.2.1
    have e : s = s9 := e
    subst e
    have H := X M W L c1 c2 hs
    refine x_X11_longest_27 W.1 _ _ _ _ ⟨fun _ => ?_, fun h => absurd ?_ h⟩
    · rw [w_nat (by omega), c1, w_m1]
      refine ⟨w_in (by omega) (by omega), fun g => ?_, fun g => ⟨w_in (by omega) (by omega), ?_⟩⟩
      · rw [w_le (by omega) (by omega)] at g
        rw [if_neg (by omega)] at H; exact H
      · rw [w_le (by omega) (by omega)] at g
        rw [if_pos (by omega)] at H; exact H
    · rw [W.2.2.1, w_le (by omega) (by omega)]; omega
  | k + 1, j, s, M, W, L, hj, hij, hs, c1, c2, e => by
    have h10 := W.2.2.2.1
    have o1 := W.2.2.2.2 i hi
    have o2 := W.2.2.2.2 j (by omega)
    have gj := hg j hij (by omega)
    rw [lnI] at e
    refine x_X11_longest_27 W.1 _ _ _ _ ⟨fun h => ?_, fun _ => ?_⟩
    · rw [W.2.2.1, w_le (by omega) (by omega)] at h; omega
    · rw [w_1add, w_1add, w_nat (n := i + 1) (by omega), w_nat (n := j + 1) (by omega), w_nat (n := i) (by omega), w_nat (n := j) (by omega), o1.1, o2.1]
      refine ⟨w_in (by omega) (by omega), w_in (by omega) (by omega), W.2.1.2.2 o ho d M (f i) (f j) _ (lik_refl _ _) W.1 o1.2 o2.2 (fun M1 L9 => ?_)⟩
      have L1 := sc_q L9
      have W1 := wM_q L1 W
      have e93 := (L9.2 93 (by intro z; rcases z with z | z <;> omega)).1
      have d1 : mx_I M1 93 i = w s := by rw [e93]; exact c1
      have d2 : ∀ j, i < j → j < n → mx_I M1 93 j = w (g j) := fun q h1 h2 => by rw [e93]; exact c2 q h1 h2
      have cj := d2 j hij (by omega)
      refine ⟨L1.1.1, L1.1.2.1, _, rfl, fun z => ?_, fun z => ⟨w_in (by omega) (by omega), w_in (by omega) (by omega), ?_⟩⟩
      · rw [z, Bool.false_and, if_neg (by decide)] at e
        rw [w_add1]
        exact q_long_i ho hi hb9 hg s9 X k (j + 1) s M1 W1 (lip_trans L L1) (by omega) (by omega) hs d1 d2 e
      · rw [z, Bool.true_and] at e
        rw [d1, cj, w_add1, w_add1]
        refine ⟨fun y => ?_, fun y => ⟨w_in (by omega) (by omega), w_in (by omega) (by omega), fun M7 e7 => ?_⟩⟩
        · rw [w_le (by omega) (by omega)] at y
          rw [if_neg (by simp; omega)] at e
          exact q_long_i ho hi hb9 hg s9 X k (j + 1) s M1 W1 (lip_trans L L1) (by omega) (by omega) hs d1 d2 e
        · rw [w_le (by omega) (by omega)] at y
          rw [if_pos (by simp; omega)] at e
          have L7 : lip mQ M1 M7 := by rw [e7]; exact lip_setI (by show _ ∨ _; omega)
          refine q_long_i ho hi hb9 hg s9 X k (j + 1) (g j + 1) M7 (wM_q L7 W1) (lip_trans L (lip_trans L1 L7)) (by omega) (by omega) (by omega) (by rw [e7]; exact I_eq) (fun q h1 h2 => ?_) e
          rw [e7, I_ne (by omega)]; exact d2 q h1 h2
theorem q_long_o {d n N K o : Nat} {f : Nat → Nat} {Bs : BB} {M0 : mx_M} {Q : QQ} (ho : o < K) (r9 : (Nat → Nat) × Nat)
    (hq : ∀ M1, wM M1 n N K f Bs → lip mQ M0 M1 → (∀ j, j < n → mx_I M1 93 j = w (r9.1 j)) → Q (.inl (some (.int (w r9.2)))) M1) :
    ∀ (i b : Nat) (g : Nat → Nat) (M : mx_M), wM M n N K f Bs → lip mQ M0 M → i ≤ n → b ≤ 10 → (∀ j, i ≤ j → j < n → g j ≤ n - j ∧ mx_I M 93 j = w (g j)) → lnR (Bs o) f n i g b = r9 → mx_W m_X11_longest (d + 4 + 1) 11 [.ref 58, .int (w o), .int (w b), .int (w i - 1), .retAddr 0] [] M Q
  | 0, b, g, M, W, L, hi, hb9, hg, e => by
    refine x_X11_longest_11 W.1 _ _ _ ⟨fun _ => ?_, fun h => absurd ?_ h⟩
    · have e : (g, b) = r9 := e
      subst e
      exact hq M W L (fun j hj => (hg j (Nat.zero_le _) hj).2)
    · decide
  | i + 1, b, g, M, W, L, hi, hb9, hg, e => by
    have h10 := W.2.2.2.1
    have e1 : w (i + 1) - 1 = w i := w_sub (a := i + 1) (b := 1) (by omega)
    rw [lnR] at e
    have eS : lnS (Bs o) f n i g i = lnI (Bs o) f g i (i + 1) (n - (i + 1)) 1 := if_pos rfl
    have hle : lnI (Bs o) f g i (i + 1) (n - (i + 1)) 1 ≤ n - i := lnI_le _ _ _ _ _ _ _ _ (by omega) (fun x h1 h2 => by have := (hg x (by omega) (by omega)).1; omega)
    rw [e1]
    refine x_X11_longest_11 W.1 _ _ _ ⟨fun h => absurd h (w_pos (by omega)), fun _ => ⟨w_in (by omega) (by omega), fun M1 e2 => ?_⟩⟩
    rw [w_nat (by omega)] at e2
    have L1 : lip mQ M M1 := by rw [e2]; exact lip_setI (by show _ ∨ _; omega)
    rw [w_add1]
    refine q_long_i ho (by omega) hb9 (fun j h1 h2 => (hg j (by omega) h2).1) (lnI (Bs o) f g i (i + 1) (n - (i + 1)) 1) (fun M2 W2 L2 d1 d2 hs9 => ?_) (n - (i + 1)) (i + 1) 1 M1 (wM_q L1 W) (lip_trans L L1) (by omega) (by omega) (by omega) (by rw [e2]; exact I_eq) (fun q h1 h2 => by rw [e2, I_ne (by omega)]; exact (hg q (by omega) h2).2) rfl
    rw [eS] at e
    refine q_long_o ho r9 hq i _ (lnS (Bs o) f n i g) M2 W2 L2 (by omega) (by split <;> omega) (fun j h1 h2 => ?_) e
    unfold lnS
    by_cases q : j = i
    · rw [if_pos q, q]
      exact ⟨hle, d1⟩
    · rw [if_neg q]
      exact ⟨(hg j (by omega) h2).1, d2 j (by omega) h2⟩
theorem q_longest {d n N K o : Nat} {f : Nat → Nat} {Bs : BB} {M : mx_M} {Q : QQ} (W : wM M n N K f Bs) (ho : o < K)
    (hq : ∀ M1, wM M1 n N K f Bs → lip mQ M M1 → (∀ j, j < n → mx_I M1 93 j = w ((lnA (Bs o) f n).1 j)) → Q (.inl (some (.int (w (lnA (Bs o) f n).2)))) M1) : mx_W m_X11_longest (d + 4 + 1) 0 [.ref 58, .int (w o), .retAddr 0, .retAddr 0, .retAddr 0] [] M Q := by
  refine x_X11_longest_0 W.1 _ ?_
  rw [W.2.2.1]
  exact q_long_o ho _ hq n 0 (fun _ => 0) M W (lip_refl _ _) (Nat.le_refl _) (by omega) (fun j h1 h2 => by omega) rfl
