/-! which cards stay -/
theorem lnI_or (B : Nat → Nat → Bool) (f g : Nat → Nat) (i : Nat) : ∀ (k j s : Nat), lnI B f g i j k s = s ∨ ∃ x, j ≤ x ∧ x < j + k ∧ B (f i) (f x) = true ∧ lnI B f g i j k s = g x + 1
  | 0, j, s => Or.inl rfl
  | k + 1, j, s => by
    rw [lnI]
    by_cases h : (B (f i) (f j) && decide (s < g j + 1)) = true
    · rw [if_pos h]
      rw [Bool.and_eq_true] at h
      rcases lnI_or B f g i k (j + 1) (g j + 1) with e | ⟨x, h1, h2, h3, e⟩
      · exact Or.inr ⟨j, Nat.le_refl _, by omega, h.1, e⟩
      · exact Or.inr ⟨x, by omega, by omega, h3, e⟩
    · rw [if_neg h]
      rcases lnI_or B f g i k (j + 1) s with e | ⟨x, h1, h2, h3, e⟩
      · exact Or.inl e
      · exact Or.inr ⟨x, by omega, by omega, h3, e⟩
def lnV (B : Nat → Nat → Bool) (f : Nat → Nat) (n i : Nat) (g : Nat → Nat) (b : Nat) : Prop := (∀ j, i ≤ j → j < n → (1 ≤ g j ∧ g j ≤ n - j) ∧ (2 ≤ g j → ∃ x, j < x ∧ x < n ∧ B (f j) (f x) = true ∧ g x + 1 = g j)) ∧ (b = 0 ∨ ∃ p, i ≤ p ∧ p < n ∧ g p = b)
theorem lnV_S {B : Nat → Nat → Bool} {f : Nat → Nat} {n i b : Nat} {g : Nat → Nat} (hi : i < n) (V : lnV B f n (i + 1) g b) : lnV B f n i (lnS B f n i g) (if b < lnS B f n i g i then lnS B f n i g i else b) := by
  have eS : lnS B f n i g i = lnI B f g i (i + 1) (n - (i + 1)) 1 := if_pos rfl
  have eN : ∀ x, ¬ x = i → lnS B f n i g x = g x := fun x h => if_neg h
  refine ⟨fun j h1 h2 => ?_, ?_⟩
  · by_cases q : j = i
    · rw [q, eS]
      refine ⟨⟨lnI_ge _ _ _ _ _ _ _, lnI_le _ _ _ _ _ _ _ _ (by omega) (fun x h1 h2 => by have := (V.1 x (by omega) (by omega)).1; omega)⟩, fun h => ?_⟩
      rcases lnI_or B f g i (n - (i + 1)) (i + 1) 1 with e | ⟨x, a1, a2, a3, e⟩
      · omega
      · exact ⟨x, by omega, by omega, a3, by rw [eN x (by omega), e]⟩
    · rw [eN j q]
      refine ⟨(V.1 j (by omega) h2).1, fun h => ?_⟩
      obtain ⟨x, a1, a2, a3, a4⟩ := (V.1 j (by omega) h2).2 h
      exact ⟨x, a1, a2, a3, by rw [eN x (by omega)]; exact a4⟩
  · split
    · exact Or.inr ⟨i, Nat.le_refl _, hi, rfl⟩
    · rcases V.2 with e | ⟨p, a1, a2, a3⟩
      · exact Or.inl e
      · exact Or.inr ⟨p, by omega, a2, by rw [eN p (by omega)]; exact a3⟩
theorem lnV_R {B : Nat → Nat → Bool} {f : Nat → Nat} {n : Nat} : ∀ (i b : Nat) (g : Nat → Nat), i ≤ n → lnV B f n i g b → lnV B f n 0 (lnR B f n i g b).1 (lnR B f n i g b).2
  | 0, b, g, _, V => V
  | i + 1, b, g, hi, V => lnV_R i _ _ (by omega) (lnV_S (by omega) V)
theorem lnV_A (B : Nat → Nat → Bool) (f : Nat → Nat) (n : Nat) : lnV B f n 0 (lnA B f n).1 (lnA B f n).2 :=
  lnV_R n 0 _ (Nat.le_refl _) ⟨fun j h1 h2 => by omega, Or.inl rfl⟩
theorem lnA_le (B : Nat → Nat → Bool) (f : Nat → Nat) (n : Nat) : (lnA B f n).2 ≤ n := by
  have V := lnV_A B f n
  rcases V.2 with e | ⟨p, _, h, e⟩
  · omega
  · have := (V.1 p (Nat.zero_le _) h).1; omega
/-- may be next behind last, v being wanted -/
def nxP (B : Nat → Nat → Bool) (f g : Nat → Nat) (v : Nat) : Option Nat → Nat → Bool
  | none, p => decide (g p = v)
  | some q, p => decide (g p = v) && B (f q) (f p)
theorem nxP_some (B : Nat → Nat → Bool) (f g : Nat → Nat) (v q p : Nat) : nxP B f g v (some q) p = (decide (g p = v) && B (f q) (f p)) := rfl
/-- the cards that stay, from place a on, behind last -/
def srF (B : Nat → Nat → Bool) (f g : Nat → Nat) (n : Nat) : Nat → Nat → Option Nat → Nat → Nat
  | 0, _, _, _ => 0
  | v + 1, a, last, i => if i = 0 then f (fnd (nxP B f g (v + 1) last) a (n - a)) else srF B f g n v (fnd (nxP B f g (v + 1) last) a (n - a) + 1) (some (fnd (nxP B f g (v + 1) last) a (n - a))) (i - 1)
theorem srF_next {B : Nat → Nat → Bool} {f g : Nat → Nat} {n v a : Nat} {last : Option Nat} (ha : a < n) (h : ¬ nxP B f g v last a = true) (i : Nat) : srF B f g n v a last i = srF B f g n v (a + 1) last i := by
  cases v with
  | zero => rfl
  | succ v =>
    have e : fnd (nxP B f g (v + 1) last) a (n - a) = fnd (nxP B f g (v + 1) last) (a + 1) (n - (a + 1)) := by
      rw [show n - a = (n - (a + 1)) + 1 by omega, fnd_next h]
    rw [srF, srF, e]
theorem srF_pick {B : Nat → Nat → Bool} {f g : Nat → Nat} {n v a : Nat} {last : Option Nat} (ha : a < n) (h : nxP B f g (v + 1) last a = true) (i : Nat) : srF B f g n (v + 1) a last i = if i = 0 then f a else srF B f g n v (a + 1) (some a) (i - 1) := by
  have e : fnd (nxP B f g (v + 1) last) a (n - a) = a := by
    rw [show n - a = (n - (a + 1)) + 1 by omega, fnd_stop h]
  rw [srF, e]
def ltF (f : Nat → Nat) : Option Nat → Int32
  | none => -1
  | some q => w (f q)
abbrev cS : Nat → Nat → Prop := fun k j => k = 43 ∨ k = 44 ∨ (k = 1 ∧ j = 11)
theorem wC_S {M M1 : mx_M} {t n N K : Nat} {f : Nat → Nat} {Bs : BB} (L : lip cS M M1) (W : wC M t n N K f Bs) : wC M1 t n N K f Bs :=
  wC_of L (fun k j h => by rcases h with h | h | h <;> rcases W.2.1.1.1 with e | e <;> omega) W
/-- there is a next one -/
def nxE (B : Nat → Nat → Bool) (f g : Nat → Nat) (n v a : Nat) (last : Option Nat) : Prop := 0 < v → ∃ x, a ≤ x ∧ x < n ∧ nxP B f g v last x = true
theorem nxE_next {B : Nat → Nat → Bool} {f g : Nat → Nat} {n v a : Nat} {last : Option Nat} (E : nxE B f g n v a last) (h : ¬ nxP B f g v last a = true) : nxE B f g n v (a + 1) last := by
  intro hv
  obtain ⟨x, h1, h2, h3⟩ := E hv
  refine ⟨x, ?_, h2, h3⟩
  by_cases e : x = a
  · rw [e] at h3; exact absurd h3 h
  · omega
theorem nxP_g {B : Nat → Nat → Bool} {f g : Nat → Nat} {v p : Nat} {last : Option Nat} (h : nxP B f g v last p = true) : g p = v := by
  cases last with
  | none => exact of_decide_eq_true h
  | some q => unfold nxP at h; rw [Bool.and_eq_true] at h; exact of_decide_eq_true h.1
theorem nxE_pick {B : Nat → Nat → Bool} {f g : Nat → Nat} {n v a b : Nat} {last : Option Nat} (V : lnV B f n 0 g b) (ha : a < n) (h : nxP B f g (v + 1) last a = true) : nxE B f g n v (a + 1) (some a) := by
  intro hv
  have e := nxP_g h
  obtain ⟨x, h1, h2, h3, h4⟩ := (V.1 a (Nat.zero_le _) ha).2 (by omega)
  refine ⟨x, h1, h2, ?_⟩
  rw [nxP_some, h3, decide_eq_true (by omega)]
  rfl
theorem p_stay_l {d t n N K o b : Nat} {f g : Nat → Nat} {Bs : BB} {M0 : mx_M} {Q : QQ} (ho : o < K) (V : lnV (Bs o) f n 0 g b) (L9 : Nat) (S9 : Nat → Nat) (hL : L9 ≤ 10)
    (hq : ∀ M1, wC M1 t n N K f Bs → lip cS M0 M1 → mx_I M1 1 11 = w L9 → (∀ i, i < L9 → mx_I M1 43 i = w (S9 i)) → Q (.inl (some (.int (w L9)))) M1) :
    ∀ (k p v m : Nat) (last : Option Nat) (M : mx_M), wC M t n N K f Bs → lip cS M0 M → p + k = n → (∀ j, j < n → mx_I M 44 j = w (g j)) → mx_I M 1 11 = w m → m + v = L9 → (∀ q, last = some q → q < n) → (∀ i, i < m → mx_I M 43 i = w (S9 i)) → nxE (Bs o) f g n v p last → (∀ i, i < v → S9 (m + i) = srF (Bs o) f g n v p last i) → mx_W m_X10_stay (d + 1 + 1) 21 [.ref 1, .int (w o), .int (w v), .int (ltF f last), .int (w p), .retAddr 0] [] M Q
  | 0, p, v, m, last, M, W, L, hp, c1, c2, hm, hl, c3, E, hS => by
    have h10 := W.2.2.1.2.1
    have hv : v = 0 := by
      cases v with
      | zero => rfl
      | succ v => obtain ⟨x, h1, h2, _⟩ := E (by omega); omega
    refine x_X10_stay_21 W.1 t W.2.1.1.1 W.2.1.1.2 _ _ _ _ ⟨fun _ => ?_, fun h => absurd ?_ h⟩
    · have e : m = L9 := by omega
      subst e
      rw [c2]
      exact hq M W L c2 c3
    · rw [W.2.2.1.1, w_le (by omega) (by omega)]; omega
  | k + 1, p, v, m, last, M, W, L, hp, c1, c2, hm, hl, c3, E, hS => by
    have h10 := W.2.2.1.2.1
    have o1 := W.2.2.1.2.2 p (by omega)
    have gp := (V.1 p (Nat.zero_le _) (by omega)).1
    have no : ¬ nxP (Bs o) f g v last p = true → mx_W m_X10_stay (d + 1 + 1) 21 [.ref 1, .int (w o), .int (w v), .int (ltF f last), .int (w p + 1), .retAddr 0] [] M Q := by
      intro h
      rw [w_add1]
      exact p_stay_l ho V L9 S9 hL hq k (p + 1) v m last M W L (by omega) c1 c2 hm hl c3 (nxE_next E h) (fun i hi => by rw [hS i hi]; exact srF_next (by omega) h i)
    have yes : nxP (Bs o) f g v last p = true → ∀ M1, M1 = mx_setI M 43 m (w (f p)) → ∀ M2, M2 = mx_setI M1 1 11 (mx_I M1 1 11 + 1) → mx_W m_X10_stay (d + 1 + 1) 21 [.ref 1, .int (w o), .int (w v + (-1)), .int (w (f p)), .int (w p + 1), .retAddr 0] [] M2 Q := by
      intro h M1 e1 M2 e2
      cases v with
      | zero => have := nxP_g h; omega
      | succ v =>
        have L1 : lip cS M M1 := by rw [e1]; exact lip_setI (Or.inl rfl)
        have L2 : lip cS M1 M2 := by rw [e2]; exact lip_setI (Or.inr (Or.inr ⟨rfl, rfl⟩))
        rw [w_add1, w_m1, show w (v + 1) - 1 = w v from w_sub (a := v + 1) (b := 1) (by omega)]
        refine p_stay_l ho V L9 S9 hL hq k (p + 1) v (m + 1) (some p) M2 (wC_S L2 (wC_S L1 W)) (lip_trans L (lip_trans L1 L2)) (by omega) (fun j hj => ?_) ?_ (by omega) (fun q e => by cases e; omega) (fun i hi => ?_) (nxE_pick V (by omega) h) (fun i hi => ?_)
        · rw [e2, I_ne (by omega), e1, I_ne (by omega)]; exact c1 j hj
        · rw [e2, I_eq, e1, I_ne (by omega), c2, w_add1]
        · rw [e2, I_ne (by omega), e1]
          by_cases q : i = m
          · rw [q, I_eq]
            have := hS 0 (by omega)
            rw [srF_pick (by omega) h, if_pos rfl, Nat.add_zero] at this
            rw [this]
          · rw [I_ne (by omega)]; exact c3 i (by omega)
        · have := hS (i + 1) (by omega)
          rw [srF_pick (by omega) h, if_neg (by omega)] at this
          rw [show m + 1 + i = m + (i + 1) by omega, this]
          rfl
    refine x_X10_stay_21 W.1 t W.2.1.1.1 W.2.1.1.2 _ _ _ _ ⟨fun h => ?_, fun _ => ?_⟩
    · rw [W.2.2.1.1, w_le (by omega) (by omega)] at h; omega
    · rw [w_nat (n := p) (by omega), c1 p (by omega), c2, o1.1, w_nat (n := m) (by omega), w_inj (by omega) (by omega)]
      refine ⟨w_in (by omega) (by omega), w_in (by omega) (by omega), fun h => no (fun z => h (nxP_g z)), fun h => ?_⟩
      cases last with
      | none =>
        refine ⟨fun _ => ⟨w_in (by omega) (by omega), yes (decide_eq_true h)⟩, fun z => absurd rfl z⟩
      | some q =>
        have hq9 := hl q rfl
        have oq := W.2.2.1.2.2 q hq9
        refine ⟨fun z => absurd z (w_ne1 (by omega)), fun _ => p_isAhead W.1 (W.2.1.2.2.2 o ho) oq.2 o1.2 ⟨rfl, rfl, _, rfl, fun z => no ?_, fun z => ?_⟩⟩
        · rw [nxP_some, z, Bool.and_false]
          decide
        · rw [c2, w_nat (n := m) (by omega)]
          exact ⟨w_in (by omega) (by omega), yes (by rw [nxP_some, z, decide_eq_true h]; rfl)⟩
/-- the row that stays -/
def stF (B : Nat → Nat → Bool) (f : Nat → Nat) (n : Nat) : Nat → Nat := srF B f (lnA B f n).1 n (lnA B f n).2 0 none
theorem nxE_0 (B : Nat → Nat → Bool) (f : Nat → Nat) (n : Nat) : nxE B f (lnA B f n).1 n (lnA B f n).2 0 none := by
  intro hv
  rcases (lnV_A B f n).2 with e | ⟨p, _, h2, e⟩
  · omega
  · exact ⟨p, Nat.zero_le _, h2, decide_eq_true e⟩
theorem p_stay {d t n N K : Nat} {v : Int32} {f : Nat → Nat} {Bs : BB} {M : mx_M} {Q : QQ} (W : wC M t n N K f Bs) (hr : rmE M)
    (h1 : ∀ o, o < K → v = w o → ∀ M1, wC M1 t n N K f Bs → lip cS M M1 → mx_I M1 1 11 = w (lnA (Bs o) f n).2 → (∀ i, i < (lnA (Bs o) f n).2 → mx_I M1 43 i = w (stF (Bs o) f n i)) → Q (.inl (some (.int (w (lnA (Bs o) f n).2)))) M1)
    (h2 : ¬ isIn v K → Q (.inr "java/util/NoSuchElementException") (mx_thM M)) : mx_W m_X10_stay (d + 1 + 1 + 1) 0 [.ref 1, .int v, .retAddr 0, .retAddr 0, .retAddr 0, .retAddr 0] [] M Q := by
  have hb := W.2.1.2.2.1
  refine x_X10_stay_0 W.1 t W.2.1.1.1 W.2.1.1.2 _ (p_needClerk W.1 W.2.1.1.1 W.2.1.1.2 W.2.1.2.1.2 (by omega) hr (fun g => ⟨rfl, rfl, Or.inl ⟨rfl, ?_⟩⟩) (fun g => ⟨rfl, rfl, Or.inr ⟨_, rfl, h2 g⟩⟩))
  obtain ⟨o, ho, rfl⟩ := g
  have h9 := lnA_le (Bs o) f n
  have h10 := W.2.2.1.2.1
  refine p_longest W ho (fun M1 W1 L1 c1 => ⟨L1.1.1, L1.1.2.1, _, rfl, fun M4 e4 => ?_⟩)
  have L4 : lip cS M1 M4 := by rw [e4]; exact lip_setI (Or.inr (Or.inr ⟨rfl, rfl⟩))
  have L1' : lip cS M M1 := lip_mono L1 (fun k j h => Or.inr (Or.inl h))
  exact p_stay_l ho (lnV_A (Bs o) f n) _ (stF (Bs o) f n) (by omega) (h1 o ho rfl) n 0 _ 0 none M4 (wC_S L4 W1) (lip_trans L1' L4) (Nat.zero_add n) (fun j hj => by rw [e4, I_ne (by omega)]; exact c1 j hj) (by rw [e4]; exact I_eq) (Nat.zero_add _) (fun q e => by cases e) (fun i hi => by omega) (nxE_0 _ _ _) (fun i hi => by rw [Nat.zero_add]; rfl)
abbrev mS : Nat → Nat → Prop := fun k j => k = 88 ∨ k = 89 ∨ k = 91 ∨ k = 93 ∨ k = 94 ∨ k = 95 ∨ (k = 58 ∧ (j = 56 ∨ j = 57 ∨ j = 59))
theorem wM_S {M M1 : mx_M} {n N K : Nat} {f : Nat → Nat} {Bs : BB} (L : lip mS M M1) (W : wM M n N K f Bs) : wM M1 n N K f Bs := by
  have e1 := (L.2 58 1 (fun z => by rcases z with z | z | z | z | z | z | z <;> omega)).1
  have e2 := (L.2 58 2 (fun z => by rcases z with z | z | z | z | z | z | z <;> omega)).1
  have e3 : lik mRd M M1 := lik_of L (fun k j h g => by rcases h with h | h | h | h | h | h | h <;> omega)
  refine ⟨lip_T L W.1, ⟨⟨by rw [e1]; exact W.2.1.1.1, by rw [e2]; exact W.2.1.1.2⟩, W.2.1.2.1, fun o ho d M2 x y Q L2 => W.2.1.2.2 o ho d M2 x y Q (lik_trans e3 L2)⟩, rowM_lip L (fun j z => by rcases z with z | z | z | z | z | z | z <;> omega) W.2.2⟩
theorem q_S {M M1 : mx_M} (h : lip mQ M M1) : lip mS M M1 := lip_mono h (fun k j hk => by show _ ∨ _; rcases hk with h | h | h | h | h | h <;> omega)
def lpF : Option Nat → Int32
  | none => -1
  | some q => w q
def nxA : Option Nat → Nat
  | none => 0
  | some q => q + 1
theorem q_stay_i {d n N K o b v m : Nat} {f g : Nat → Nat} {Bs : BB} {M0 : mx_M} {Q : QQ} (ho : o < K) (V : lnV (Bs o) f n 0 g b) (L9 : Nat) (hL : L9 ≤ 10) (hm : m + (v + 1) = L9) (last : Option Nat) (hl : ∀ q, last = some q → q < n) (c9 : Nat → Nat)
    (X : ∀ M1 a, wM M1 n N K f Bs → lip mS M0 M1 → a < n → nxP (Bs o) f g (v + 1) last a = true → (∀ j, j < n → mx_I M1 93 j = w (g j)) → (∀ i, i < m → mx_I M1 94 i = w (c9 i)) → (∀ i, srF (Bs o) f g n (v + 1) (nxA last) last i = srF (Bs o) f g n (v + 1) a last i) → ∀ M2, M2 = mx_setI M1 94 m (w (f a)) → mx_W m_X11_stay (d + 4 + 1) 26 [.ref 58, .int (w o), .int (w L9), .int (w a), .int (w m + 1), .retAddr 0] [] M2 Q) :
    ∀ (k a : Nat) (M : mx_M), wM M n N K f Bs → lip mS M0 M → a + k = n → (∀ j, j < n → mx_I M 93 j = w (g j)) → (∀ i, i < m → mx_I M 94 i = w (c9 i)) → nxE (Bs o) f g n (v + 1) a last → (∀ i, srF (Bs o) f g n (v + 1) (nxA last) last i = srF (Bs o) f g n (v + 1) a last i) → mx_W m_X11_stay (d + 4 + 1) 37 [.ref 58, .int (w o), .int (w L9), .int (lpF last), .int (w m), .int (w a)] [] M Q
  | 0, a, M, W, L, ha, c1, c2, E, hS => by
    obtain ⟨x, h1, h2, _⟩ := E (by omega)
    omega
  | k + 1, a, M, W, L, ha, c1, c2, E, hS => by
    have h10 := W.2.2.2.1
    have o1 := W.2.2.2.2 a (by omega)
    have gp := (V.1 a (Nat.zero_le _) (by omega)).1
    have no : ¬ nxP (Bs o) f g (v + 1) last a = true → ∀ M1, wM M1 n N K f Bs → lip mS M0 M1 → (∀ j, j < n → mx_I M1 93 j = w (g j)) → (∀ i, i < m → mx_I M1 94 i = w (c9 i)) → mx_W m_X11_stay (d + 4 + 1) 37 [.ref 58, .int (w o), .int (w L9), .int (lpF last), .int (w m), .int (w a + 1)] [] M1 Q := by
      intro h M1 W1 L1 d1 d2
      rw [w_add1]
      exact q_stay_i ho V L9 hL hm last hl c9 X k (a + 1) M1 W1 L1 (by omega) d1 d2 (nxE_next E h) (fun i => (hS i).trans (srF_next (by omega) h i))
    have es : w L9 - w m = w (v + 1) := by rw [w_sub (by omega)]; congr 1; omega
    refine x_X11_stay_37 W.1 _ _ _ _ _ ?_
    rw [es, w_nat (n := a) (by omega), c1 a (by omega), w_inj (by omega) (by omega), w_1add, w_nat (n := a + 1) (by omega), o1.1, w_nat (n := m) (by omega)]
    refine ⟨w_in (by omega) (by omega), fun h => no (fun z => h (nxP_g z)) M W L c1 c2, fun h => ?_⟩
    cases last with
    | none => exact ⟨fun _ => ⟨w_in (by omega) (by omega), w_in (by omega) (by omega), X M a W L (by omega) (decide_eq_true h) c1 c2 hS⟩, fun z => absurd rfl z⟩
    | some q =>
      have hq9 := hl q rfl
      have oq := W.2.2.2.2 q hq9
      refine ⟨fun z => absurd z (w_ne1 (a := q) (by omega)), fun _ => ?_⟩
      show vp_in (1 + w q) 11 ∧ _
      rw [show lpF (some q) = w q from rfl, w_1add, w_nat (n := q + 1) (by omega), oq.1]
      refine ⟨w_in (by omega) (by omega), w_in (by omega) (by omega), W.2.1.2.2 o ho d M (f q) (f a) _ (lik_refl _ _) W.1 oq.2 o1.2 (fun M1 L9' => ?_)⟩
      have L1 := sc_q L9'
      have W1 := wM_q L1 W
      have e93 := (L9'.2 93 (by intro z; rcases z with z | z <;> omega)).1
      have e94 := (L9'.2 94 (by intro z; rcases z with z | z <;> omega)).1
      have d1 : ∀ j, j < n → mx_I M1 93 j = w (g j) := fun j hj => by rw [e93]; exact c1 j hj
      have d2 : ∀ i, i < m → mx_I M1 94 i = w (c9 i) := fun j hj => by rw [e94]; exact c2 j hj
      have o2 := W1.2.2.2.2 a (by omega)
      rw [o2.1]
      refine ⟨L1.1.1, L1.1.2.1, _, rfl, fun z => ⟨w_in (by omega) (by omega), w_in (by omega) (by omega), ?_⟩, fun z => no ?_ M1 W1 (lip_trans L (q_S L1)) d1 d2⟩
      · exact X M1 a W1 (lip_trans L (q_S L1)) (by omega) (by rw [nxP_some, z, decide_eq_true h]; rfl) d1 d2 hS
      · rw [nxP_some, z, Bool.and_false]
        decide
theorem q_stay_o {d n N K o b : Nat} {f g : Nat → Nat} {Bs : BB} {M0 : mx_M} {Q : QQ} (ho : o < K) (V : lnV (Bs o) f n 0 g b) (L9 : Nat) (S9 : Nat → Nat) (hL : L9 ≤ 10)
    (hq : ∀ M1, wM M1 n N K f Bs → lip mS M0 M1 → mx_I M1 58 56 = w L9 → (∀ i, i < L9 → mx_I M1 94 i = w (S9 i)) → Q (.inl (some (.int (w L9)))) M1) :
    ∀ (v m : Nat) (last : Option Nat) (M : mx_M), wM M n N K f Bs → lip mS M0 M → (∀ j, j < n → mx_I M 93 j = w (g j)) → m + v = L9 → (∀ q, last = some q → q < n) → (∀ i, i < m → mx_I M 94 i = w (S9 i)) → nxE (Bs o) f g n v (nxA last) last → (∀ i, i < v → S9 (m + i) = srF (Bs o) f g n v (nxA last) last i) → mx_W m_X11_stay (d + 4 + 1) 26 [.ref 58, .int (w o), .int (w L9), .int (lpF last), .int (w m), .retAddr 0] [] M Q
  | 0, m, last, M, W, L, c1, hm, hl, c3, E, hS => by
    refine x_X11_stay_26 W.1 _ _ _ _ ⟨fun _ => fun M1 e1 => ?_, fun h => absurd ?_ h⟩
    · have L1 : lip mS M M1 := by rw [e1]; exact lip_setI (by show _ ∨ _; omega)
      exact hq M1 (wM_S L1 W) (lip_trans L L1) (by rw [e1]; exact I_eq) (fun i hi => by rw [e1, I_ne (by omega)]; exact c3 i (by omega))
    · rw [w_le (by omega) (by omega)]; omega
  | v + 1, m, last, M, W, L, c1, hm, hl, c3, E, hS => by
    have h10 := W.2.2.2.1
    refine x_X11_stay_26 W.1 _ _ _ _ ⟨fun h => ?_, fun _ => ?_⟩
    · rw [w_le (by omega) (by omega)] at h; omega
    · have ea : lpF last + 1 = w (nxA last) := by
        cases last with
        | none => decide
        | some q => exact w_add1 q
      have hn : nxA last ≤ n := by
        cases last with
        | none => exact Nat.zero_le _
        | some q => have := hl q rfl; exact this
      rw [ea]
      refine q_stay_i ho V L9 hL hm last hl S9 (fun M1 a W1 L1 ha hx d1 d2 hs M2 e2 => ?_) (n - nxA last) (nxA last) M W L (by omega) c1 c3 E (fun i => rfl)
      rw [w_add1]
      have L2 : lip mS M1 M2 := by rw [e2]; exact lip_setI (by show _ ∨ _; omega)
      refine q_stay_o ho V L9 S9 hL hq v (m + 1) (some a) M2 (wM_S L2 W1) (lip_trans L1 L2) (fun j hj => by rw [e2, I_ne (by omega)]; exact d1 j hj) (by omega) (fun q e => by cases e; exact ha) (fun i hi => ?_) (nxE_pick V ha hx) (fun i hi => ?_)
      · rw [e2]
        by_cases q : i = m
        · rw [q, I_eq]
          have := hS 0 (by omega)
          rw [hs, srF_pick ha hx, if_pos rfl, Nat.add_zero] at this
          rw [this]
        · rw [I_ne (by omega)]; exact d2 i (by omega)
      · have := hS (i + 1) (by omega)
        rw [hs, srF_pick ha hx, if_neg (by omega)] at this
        rw [show m + 1 + i = m + (i + 1) by omega, this]
        rfl
theorem q_stay {d n N K : Nat} {v : Int32} {f : Nat → Nat} {Bs : BB} {M : mx_M} {Q : QQ} (W : wM M n N K f Bs)
    (h1 : ∀ o, o < K → v = w o → ∀ M1, wM M1 n N K f Bs → lip mS (mx_setI M 58 0 0) M1 → mx_I M1 58 56 = w (lnA (Bs o) f n).2 → (∀ i, i < (lnA (Bs o) f n).2 → mx_I M1 94 i = w (stF (Bs o) f n i)) → Q (.inl (some (.int (w (lnA (Bs o) f n).2)))) M1)
    (h2 : ¬ isIn v K → Q (.inl (some (.int 0))) (mx_setI (mx_setI M 58 0 0) 58 0 1)) : mx_W m_X11_stay (d + 4 + 1 + 1) 0 [.ref 58, .int v, .retAddr 0, .retAddr 0, .retAddr 0, .retAddr 0] [] M Q :=
  x_X11_stay_0 W.1 _ (fun M1 e1 => by
    subst e1
    have W1 := wM_0 (v := 0) W
    refine q_isClerk W1 I_eq (fun g => ⟨rfl, rfl, _, rfl, fun _ => ?_, fun z => (by cases z)⟩) (fun g => ⟨rfl, rfl, _, rfl, fun z => (by cases z), fun _ => h2 g⟩)
    obtain ⟨o, ho, rfl⟩ := g
    have h9 := lnA_le (Bs o) f n
    have h10 := W1.2.2.2.1
    exact q_longest W1 ho (fun M2 W2 L2 c1 => ⟨L2.1.1, L2.1.2.1, _, rfl, q_stay_o (d := d + 1) ho (lnV_A (Bs o) f n) _ (stF (Bs o) f n) (by omega) (h1 o ho rfl) _ 0 none M2 W2 (q_S L2) c1 (Nat.zero_add _) (fun q e => by cases e) (fun i hi => by omega) (nxE_0 _ _ _) (fun i hi => by rw [Nat.zero_add]; rfl)⟩))
