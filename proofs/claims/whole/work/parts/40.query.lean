/-! the worlds of class and reference as they are asked; what a question of the reference may write -/
abbrev mQ : Nat → Nat → Prop := fun k j => k = 88 ∨ k = 89 ∨ k = 91 ∨ k = 93 ∨ k = 95 ∨ (k = 58 ∧ (j = 57 ∨ j = 59))
def wM (M : mx_M) (n N K : Nat) (f : Nat → Nat) (Bs : Nat → Nat → Nat → Bool) : Prop := mx_Tp M ∧ ctxM M N K Bs ∧ rowM M 90 n N f
theorem wM_of {P : Nat → Nat → Prop} {M M1 : mx_M} {n N K : Nat} {f : Nat → Nat} {Bs : Nat → Nat → Nat → Bool} (L : lip P M M1) (hP : ∀ k j, P k j → k = 88 ∨ k = 89 ∨ k = 91 ∨ k = 93 ∨ k = 95 ∨ (k = 58 ∧ ¬ j = 1 ∧ ¬ j = 2)) (W : wM M n N K f Bs) : wM M1 n N K f Bs := by
  have e1 := (L.2 58 1 (fun z => by have := hP _ _ z; omega)).1
  have e2 := (L.2 58 2 (fun z => by have := hP _ _ z; omega)).1
  have e3 : lik mRd M M1 := lik_of L (fun k j h g => by have := hP k j h; omega)
  refine ⟨lip_T L W.1, ⟨⟨by rw [e1]; exact W.2.1.1.1, by rw [e2]; exact W.2.1.1.2⟩, W.2.1.2.1, fun o ho d M2 x y Q L2 => W.2.1.2.2 o ho d M2 x y Q (lik_trans e3 L2)⟩, rowM_lip L (fun j z => by have := hP _ _ z; omega) W.2.2⟩
theorem wM_q {M M1 : mx_M} {n N K : Nat} {f : Nat → Nat} {Bs : Nat → Nat → Nat → Bool} (L : lip mQ M M1) (W : wM M n N K f Bs) : wM M1 n N K f Bs := wM_of L (fun k j h => by rcases h with h | h | h | h | h | h <;> omega) W
theorem wM_0 {M : mx_M} {v : Int32} {n N K : Nat} {f : Nat → Nat} {Bs : Nat → Nat → Nat → Bool} (W : wM M n N K f Bs) : wM (mx_setI M 58 0 v) n N K f Bs := wM_of (P := fun k j => k = 58 ∧ j = 0) (lip_setI ⟨rfl, rfl⟩) (fun k j h => by omega) W
theorem sc_q {M M1 : mx_M} (h : lik mSc M M1) : lip mQ M M1 := lip_of h (fun k j hk => hk.elim (fun e => Or.inl e) (fun e => Or.inr (Or.inl e)))
theorem lk_q {M M1 : mx_M} (h : lip mLk M M1) : lip mQ M M1 := lip_mono h (fun k j hk => by show _ ∨ _; omega)
theorem q_bef {d n N K o x y : Nat} {f : Nat → Nat} {Bs : Nat → Nat → Nat → Bool} {M : mx_M} {Q : mx_O → mx_M → Prop} (W : wM M n N K f Bs) (ho : o < K) (hx : x < N) (hy : y < N)
    (hq : ∀ M1, wM M1 n N K f Bs → lip mQ M M1 → Q (.inl (some (.int (mx_b (Bs o x y))))) M1) : mx_W m_X11_isBefore (d + 4) 0 [.ref 58, .int (w o), .int (w x), .int (w y), .retAddr 0, .retAddr 0, .retAddr 0] [] M Q :=
  W.2.1.2.2 o ho d M x y Q (lik_refl _ _) W.1 hx hy (fun M1 L => hq M1 (wM_q (sc_q L) W) (sc_q L))
theorem q_votes {d n N K x y : Nat} {f : Nat → Nat} {Bs : Nat → Nat → Nat → Bool} {M : mx_M} {Q : mx_O → mx_M → Prop} (W : wM M n N K f Bs) (hx : x < N) (hy : y < N)
    (hq : ∀ M1, wM M1 n N K f Bs → lip mQ M M1 → Q (.inl (some (.int (ldF K Bs x y)))) M1) : mx_W m_X11_votesFor (d + 4 + 1) 0 [.ref 58, .int (w x), .int (w y), .retAddr 0, .retAddr 0] [] M Q :=
  p_votesFor W.1 W.2.1 hx hy (fun M1 L => hq M1 (wM_q (sc_q L) W) (sc_q L))
theorem q_wrong {d n N K o : Nat} {f : Nat → Nat} {Bs : Nat → Nat → Nat → Bool} {M : mx_M} {Q : mx_O → mx_M → Prop} (W : wM M n N K f Bs) (ho : o < K)
    (hq : ∀ M1, wM M1 n N K f Bs → lip mQ M M1 → Q (.inl (some (.int (w (wrb f (Bs o) 0 n))))) M1) : mx_W m_X11_wrongIn (d + 4 + 1) 0 [.ref 58, .ref 90, .int (w o), .retAddr 0, .retAddr 0, .retAddr 0] [] M Q :=
  p_wrongIn W.1 rfl (by intro z; rcases z with z | z <;> omega) (W.2.1.2.2 o ho) W.2.2 (fun M1 L => hq M1 (wM_q (sc_q L) W) (sc_q L))
theorem q_placeFor {d n N K o c : Nat} {f : Nat → Nat} {Bs : Nat → Nat → Nat → Bool} {M : mx_M} {Q : mx_O → mx_M → Prop} (W : wM M n N K f Bs) (ho : o < K) (hc : c < N)
    (hq : ∀ M1, wM M1 n N K f Bs → lip mQ M M1 → Q (.inl (some (.int (w (plf n f (Bs o) c))))) M1) : mx_W m_X11_placeFor (d + 4 + 1) 0 [.ref 58, .ref 90, .int (w c), .int (w o), .retAddr 0] [] M Q :=
  p_mplaceFor W.1 rfl (by intro z; rcases z with z | z <;> omega) (by intro z; omega) (W.2.1.2.2 o ho) W.2.2 c hc (fun M1 L => hq M1 (wM_q (sc_q L) W) (sc_q L))
theorem q_looks {d n N K o c : Nat} {f : Nat → Nat} {Bs : Nat → Nat → Nat → Bool} {M : mx_M} {Q : mx_O → mx_M → Prop} (W : wM M n N K f Bs) (ho : o < K) (hc : c < N)
    (hq : ∀ M1, wM M1 n N K f Bs → lip mQ M M1 → mx_I M1 58 57 = w (lkF f (Bs o) c 10 0 n 0).1 → Q (.inl (some (.int (mx_b (lkF f (Bs o) c 10 0 n 0).2)))) M1) : mx_W m_X11_looksFor (d + 4 + 1) 0 [.ref 58, .ref 90, .int (w o), .int (w c), .retAddr 0, .retAddr 0, .retAddr 0] [] M Q :=
  p_mlooksFor W.1 rfl (by intro j z; rcases z with z | z | z <;> omega) (W.2.1.2.2 o ho) W.2.2 c hc (fun M1 L h => hq M1 (wM_q (lk_q L) W) (lk_q L) h)
theorem q_place {d n N K c : Nat} {f : Nat → Nat} {Bs : Nat → Nat → Nat → Bool} {M : mx_M} {Q : mx_O → mx_M → Prop} (W : wM M n N K f Bs) (hc : c < N)
    (hq : Q (.inl (some (.int (plc n f c)))) M) : mx_W m_X11_placeIn d 0 [.ref 90, .int (w c), .retAddr 0] [] M Q :=
  p_placeIn W.1 rfl W.2.2 c (by have := W.2.1.2.1; omega) hq
/-- a strict order of N cards, in which any two have their order -/
def sto (N : Nat) (B : Nat → Nat → Bool) : Prop := (∀ x, x < N → B x x = false) ∧ (∀ x y z, x < N → y < N → z < N → B x y = true → B y z = true → B x z = true) ∧ ∀ x y, x < N → y < N → ¬ x = y → B x y = true ∨ B y x = true
/-- how many are ahead of x -/
def rnk (N : Nat) (B : Nat → Nat → Bool) (x : Nat) : Nat := cnt (fun z => B z x) 0 N
/-- an order of the class, with its ranks and the cards by their ranks -/
def ordC (M : mx_M) (o N : Nat) (B : Nat → Nat → Bool) : Prop := sto N B ∧ rkC M o (rnk N B) N ∧ ∀ x, x < N → mx_I M 28 (10 * o + rnk N B x) = w x
def wC (M : mx_M) (t n N K : Nat) (f : Nat → Nat) (Bs : Nat → Nat → Nat → Bool) : Prop := mx_Tp M ∧ ctxC M t N K Bs ∧ rowC M 31 n N f ∧ ∀ o, o < K → ordC M o N (Bs o)
theorem wC_of {P : Nat → Nat → Prop} {M M1 : mx_M} {t n N K : Nat} {f : Nat → Nat} {Bs : Nat → Nat → Nat → Bool} (L : lip P M M1) (hP : ∀ k j, P k j → ¬ (k = t ∧ (j = 12 ∨ j = 13)) ∧ ¬ k = 31 ∧ ¬ k = 32 ∧ ¬ (k = 27 ∧ j < 40) ∧ ¬ (k = 28 ∧ j < 40)) (W : wC M t n N K f Bs) : wC M1 t n N K f Bs := by
  obtain ⟨T, ⟨C1, C2, C3, C4⟩, R, O⟩ := W
  have e1 := (L.2 t 12 (fun z => by have := hP _ _ z; omega)).1
  have e2 := (L.2 t 13 (fun z => by have := hP _ _ z; omega)).1
  have e3 : ∀ o g, o < K → rkC M o g N → rkC M1 o g N := fun o g ho G => ⟨G.1, G.2.1, fun x hx => by
    rw [(L.2 27 (10 * o + x) (fun z => by have := hP _ _ z; omega)).1]; exact G.2.2 x hx⟩
  refine ⟨lip_T L T, ⟨⟨C1.1, by rw [L.1.2.1]; exact C1.2⟩, ⟨by rw [e1]; exact C2.1, by rw [e2]; exact C2.2⟩, C3, fun o ho => ?_⟩, ⟨?_, R.2.1, fun i hi => ?_⟩, fun o ho => ⟨(O o ho).1, e3 o _ ho (O o ho).2.1, fun x hx => ?_⟩⟩
  · obtain ⟨g, G, hB⟩ := C4 o ho
    exact ⟨g, e3 o g ho G, hB⟩
  · rw [(L.2 31 1 (fun z => by have := hP _ _ z; omega)).1]; exact R.1
  · rw [(L.2 32 i (fun z => by have := hP _ _ z; omega)).1]; exact R.2.2 i hi
  · have hr := ((O o ho).2.1.2.2 x hx).2
    rw [(L.2 28 (10 * o + rnk N (Bs o) x) (fun z => by have := hP _ _ z; omega)).1]; exact (O o ho).2.2 x hx
/-! ring -/
def rgT (N K : Nat) (Bs : Nat → Nat → Nat → Bool) (x y : Nat) : Nat := fnd (rgP K Bs x y) (x + 1) (N - (x + 1))
def rgB (N K : Nat) (Bs : Nat → Nat → Nat → Bool) (x : Nat) : Nat → Nat → Option Int32
  | _, 0 => none
  | i, k + 1 => if 0 < ldF K Bs x i ∧ rgT N K Bs x i < N then some (100 * w x + 10 * w i + w (rgT N K Bs x i)) else rgB N K Bs x (i + 1) k
def rgF (N K : Nat) (Bs : Nat → Nat → Nat → Bool) : Nat → Nat → Int32
  | _, 0 => -1
  | i, k + 1 => (rgB N K Bs i (i + 1) (N - (i + 1))).getD (rgF N K Bs (i + 1) k)
theorem p_ring_b {d t N K x : Nat} {Bs : Nat → Nat → Nat → Bool} {M : mx_M} {Q : mx_O → mx_M → Prop} (T : mx_Tp M) (C : ctxC M t N K Bs) (hx : x < N) (r9 : Option Int32)
    (X : r9 = none → mx_W m_X10_ring (d + 1 + 1 + 1 + 1 + 1) 2 [.ref 1, .int (w (x + 1)), .retAddr 0, .retAddr 0] [] M Q) (Y : ∀ v, r9 = some v → Q (.inl (some (.int v))) M) :
    ∀ (k i : Nat), i + k = N → rgB N K Bs x i k = r9 → mx_W m_X10_ring (d + 1 + 1 + 1 + 1 + 1) 17 [.ref 1, .int (w x), .int (w i), .retAddr 0] [] M Q
  | 0, i, hi, e => by
    have hb := C.2.2.1
    refine x_X10_ring_17 T t C.1.1 C.1.2 _ _ ⟨fun _ => ?_, fun h => absurd ?_ h⟩
    · rw [w_add1]; exact X e.symm
    · rw [C.2.1.1, w_le (by omega) (by omega)]; omega
  | k + 1, i, hi, e => by
    have hb := C.2.2.1
    have no : ¬ (0 < ldF K Bs x i ∧ rgT N K Bs x i < N) → mx_W m_X10_ring (d + 1 + 1 + 1 + 1 + 1) 17 [.ref 1, .int (w x), .int (w i + 1), .retAddr 0] [] M Q := by
      intro g
      rw [rgB, if_neg g] at e
      rw [w_add1]
      exact p_ring_b T C hx r9 X Y k (i + 1) (by omega) e
    refine x_X10_ring_17 T t C.1.1 C.1.2 _ _ ⟨fun h => ?_, fun _ => p_lead T C hx (by omega) ⟨rfl, rfl, _, rfl, fun g => no (fun z => Int32.not_le.mpr z.1 g), fun g => x_X10_thirdOfRing_0 T t C.1.1 C.1.2 _ _ ?_⟩⟩
    · rw [C.2.1.1, w_le (by omega) (by omega)] at h; omega
    · rw [w_add1]
      refine p_third_l T C hx (by omega) (N - (x + 1)) (x + 1) (by omega) ⟨rfl, rfl, _, rfl, fun g2 => no (fun z => ?_), fun g2 => ?_⟩
      · rw [fz_none (by omega)] at g2
        have := z.2
        unfold rgT at this
        omega
      · rw [fz_none (by omega)] at g2
        have g3 : rgT N K Bs x i < N := by unfold rgT; omega
        rw [rgB, if_pos ⟨Int32.not_le.mp g, g3⟩] at e
        rw [fz_lt (by omega)]
        exact Y _ e.symm
theorem p_ring_a {d t N K : Nat} {Bs : Nat → Nat → Nat → Bool} {M : mx_M} {Q : mx_O → mx_M → Prop} (T : mx_Tp M) (C : ctxC M t N K Bs) :
    ∀ (k i : Nat), i + k = N → Q (.inl (some (.int (rgF N K Bs i k)))) M → mx_W m_X10_ring (d + 1 + 1 + 1 + 1 + 1) 2 [.ref 1, .int (w i), .retAddr 0, .retAddr 0] [] M Q
  | 0, i, hi, hq => by
    have hb := C.2.2.1
    refine x_X10_ring_2 T t C.1.1 C.1.2 _ ⟨fun _ => hq, fun h => absurd ?_ h⟩
    rw [C.2.1.1, w_le (by omega) (by omega)]; omega
  | k + 1, i, hi, hq => by
    have hb := C.2.2.1
    refine x_X10_ring_2 T t C.1.1 C.1.2 _ ⟨fun h => ?_, fun _ => ?_⟩
    · rw [C.2.1.1, w_le (by omega) (by omega)] at h; omega
    · rw [w_add1]
      refine p_ring_b T C (by omega) (rgB N K Bs i (i + 1) (N - (i + 1))) (fun e => ?_) (fun v e => ?_) (N - (i + 1)) (i + 1) (by omega) rfl
      · rw [rgF, e] at hq
        exact p_ring_a T C k (i + 1) (by omega) hq
      · rw [rgF, e] at hq
        exact hq
theorem p_ring {d t N K : Nat} {Bs : Nat → Nat → Nat → Bool} {M : mx_M} {Q : mx_O → mx_M → Prop} (T : mx_Tp M) (C : ctxC M t N K Bs) (hq : Q (.inl (some (.int (rgF N K Bs 0 N)))) M) : mx_W m_X10_ring (d + 1 + 1 + 1 + 1 + 1) 0 [.ref 1, .retAddr 0, .retAddr 0, .retAddr 0] [] M Q :=
  x_X10_ring_0 T t C.1.1 C.1.2 (p_ring_a T C N 0 (Nat.zero_add N) hq)
theorem q_ring_c {d n N K x y : Nat} {f : Nat → Nat} {Bs : Nat → Nat → Nat → Bool} {M0 : mx_M} {Q : mx_O → mx_M → Prop} (hx : x < N) (hy : y < N) (r9 : Nat)
    (X : ∀ M1, wM M1 n N K f Bs → lip mQ M0 M1 → N ≤ r9 → mx_W m_X11_ring (d + 4 + 1 + 1) 19 [.ref 58, .int (w x), .int (w (y + 1)), .retAddr 0] [] M1 Q)
    (Y : ∀ M1, wM M1 n N K f Bs → lip mQ M0 M1 → r9 < N → Q (.inl (some (.int (100 * w x + 10 * w y + w r9)))) M1) :
    ∀ (k i : Nat) (M : mx_M), wM M n N K f Bs → lip mQ M0 M → i + k = N → (if 0 < ldF K Bs x y then fnd (rgP K Bs x y) i k else i + k) = r9 → mx_W m_X11_ring (d + 4 + 1 + 1) 31 [.ref 58, .int (w x), .int (w y), .int (w i)] [] M Q
  | 0, i, M, W, L, hi, e => by
    have hb := W.2.1.2.1
    refine x_X11_ring_31 W.1 _ _ _ ⟨fun _ => ?_, fun h => absurd ?_ h⟩
    · rw [w_add1]
      refine X M W L ?_
      rw [← e]
      split
      · unfold fnd; omega
      · omega
    · rw [W.2.1.1.1, w_le (by omega) (by omega)]; omega
  | k + 1, i, M, W, L, hi, e => by
    have hb := W.2.1.2.1
    have no : ¬ (0 < ldF K Bs x y ∧ rgP K Bs x y i = true) → ∀ M1, wM M1 n N K f Bs → lip mQ M M1 → mx_W m_X11_ring (d + 4 + 1 + 1) 31 [.ref 58, .int (w x), .int (w y), .int (w i + 1)] [] M1 Q := by
      intro g M1 W1 L1
      rw [w_add1]
      refine q_ring_c hx hy r9 X Y k (i + 1) M1 W1 (lip_trans L L1) (by omega) ?_
      rw [← e]
      split
      · rename_i g2
        rw [fnd_next (fun z => g ⟨g2, z⟩)]
      · omega
    refine x_X11_ring_31 W.1 _ _ _ ⟨fun h => ?_, fun _ => q_votes W hx hy (fun M1 W1 L1 => ⟨L1.1.1, L1.1.2.1, _, rfl, fun g => no (fun z => Int32.not_le.mpr z.1 g) M1 W1 L1, fun g => q_votes W1 hy (by omega) (fun M2 W2 L2 => ⟨L2.1.1, L2.1.2.1, _, rfl, fun g2 => no (fun z => ?_) M2 W2 (lip_trans L1 L2), fun g2 => q_votes W2 (by omega) hx (fun M3 W3 L3 => ⟨L3.1.1, L3.1.2.1, _, rfl, fun g3 => no (fun z => ?_) M3 W3 (lip_trans L1 (lip_trans L2 L3)), fun g3 => ?_⟩)⟩)⟩)⟩
    · rw [W.2.1.1.1, w_le (by omega) (by omega)] at h; omega
    · have := z.2
      unfold rgP at this
      rw [decide_eq_false (Int32.not_lt.mpr g2)] at this
      cases this
    · have := z.2
      unfold rgP at this
      rw [decide_eq_false (Int32.not_lt.mpr g3), Bool.and_false] at this
      cases this
    · have h1 : 0 < ldF K Bs x y := Int32.not_le.mp g
      have h2 : rgP K Bs x y i = true := by
        unfold rgP
        rw [decide_eq_true (Int32.not_le.mp g2), decide_eq_true (Int32.not_le.mp g3)]
        rfl
      rw [if_pos h1, fnd_stop h2] at e
      rw [e]
      exact Y M3 W3 (lip_trans L (lip_trans L1 (lip_trans L2 L3))) (by omega)
theorem q_ring_b {d n N K x : Nat} {f : Nat → Nat} {Bs : Nat → Nat → Nat → Bool} {M0 : mx_M} {Q : mx_O → mx_M → Prop} (hx : x < N) (r9 : Option Int32)
    (X : ∀ M1, wM M1 n N K f Bs → lip mQ M0 M1 → r9 = none → mx_W m_X11_ring (d + 4 + 1 + 1) 7 [.ref 58, .int (w (x + 1)), .retAddr 0, .retAddr 0] [] M1 Q)
    (Y : ∀ M1 v, wM M1 n N K f Bs → lip mQ M0 M1 → r9 = some v → Q (.inl (some (.int v))) M1) :
    ∀ (k i : Nat) (M : mx_M), wM M n N K f Bs → lip mQ M0 M → i + k = N → rgB N K Bs x i k = r9 → mx_W m_X11_ring (d + 4 + 1 + 1) 19 [.ref 58, .int (w x), .int (w i), .retAddr 0] [] M Q
  | 0, i, M, W, L, hi, e => by
    have hb := W.2.1.2.1
    refine x_X11_ring_19 W.1 _ _ ⟨fun _ => ?_, fun h => absurd ?_ h⟩
    · rw [w_add1]; exact X M W L e.symm
    · rw [W.2.1.1.1, w_le (by omega) (by omega)]; omega
  | k + 1, i, M, W, L, hi, e => by
    have hb := W.2.1.2.1
    refine x_X11_ring_19 W.1 _ _ ⟨fun h => ?_, fun _ => ?_⟩
    · rw [W.2.1.1.1, w_le (by omega) (by omega)] at h; omega
    · rw [w_add1]
      refine q_ring_c hx (by omega) _ (fun M1 W1 L1 g => ?_) (fun M1 W1 L1 g => ?_) (N - (x + 1)) (x + 1) M W L (by omega) rfl
      · refine q_ring_b hx r9 X Y k (i + 1) M1 W1 L1 (by omega) ?_
        rw [← e]
        conv => rhs; rw [rgB]
        rw [if_neg]
        rintro ⟨z1, z2⟩
        rw [if_pos z1] at g
        unfold rgT at z2
        omega
      · by_cases z1 : 0 < ldF K Bs x i
        · rw [if_pos z1] at g ⊢
          rw [rgB, if_pos ⟨z1, g⟩] at e
          exact Y M1 _ W1 L1 e.symm
        · rw [if_neg z1] at g
          omega
theorem q_ring_a {d n N K : Nat} {f : Nat → Nat} {Bs : Nat → Nat → Nat → Bool} {M0 : mx_M} {Q : mx_O → mx_M → Prop} (v9 : Int32) (hq : ∀ M1, wM M1 n N K f Bs → lip mQ M0 M1 → Q (.inl (some (.int v9))) M1) :
    ∀ (k i : Nat) (M : mx_M), wM M n N K f Bs → lip mQ M0 M → i + k = N → rgF N K Bs i k = v9 → mx_W m_X11_ring (d + 4 + 1 + 1) 7 [.ref 58, .int (w i), .retAddr 0, .retAddr 0] [] M Q
  | 0, i, M, W, L, hi, e => by
    have hb := W.2.1.2.1
    refine x_X11_ring_7 W.1 _ ⟨fun _ => ?_, fun h => absurd ?_ h⟩
    · have := hq M W L
      rw [← e] at this
      exact this
    · rw [W.2.1.1.1, w_le (by omega) (by omega)]; omega
  | k + 1, i, M, W, L, hi, e => by
    have hb := W.2.1.2.1
    refine x_X11_ring_7 W.1 _ ⟨fun h => ?_, fun _ => ?_⟩
    · rw [W.2.1.1.1, w_le (by omega) (by omega)] at h; omega
    · rw [w_add1]
      refine q_ring_b (by omega) (rgB N K Bs i (i + 1) (N - (i + 1))) (fun M1 W1 L1 g => ?_) (fun M1 v W1 L1 g => ?_) (N - (i + 1)) (i + 1) M W L (by omega) rfl
      · rw [rgF, g] at e
        exact q_ring_a v9 hq k (i + 1) M1 W1 L1 (by omega) e
      · rw [rgF, g] at e
        have := hq M1 W1 L1
        rw [← e] at this
        exact this
theorem q_ring {d n N K : Nat} {f : Nat → Nat} {Bs : Nat → Nat → Nat → Bool} {M : mx_M} {Q : mx_O → mx_M → Prop} (W : wM M n N K f Bs) (hq : ∀ M1, wM M1 n N K f Bs → lip mQ (mx_setI M 58 0 0) M1 → Q (.inl (some (.int (rgF N K Bs 0 N)))) M1) : mx_W m_X11_ring (d + 4 + 1 + 1) 0 [.ref 58, .retAddr 0, .retAddr 0, .retAddr 0] [] M Q :=
  x_X11_ring_0 W.1 (fun M1 e1 => by subst e1; exact q_ring_a _ hq N 0 _ (wM_0 W) (lip_refl _ _) (Nat.zero_add N) rfl)
