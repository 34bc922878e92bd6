/-! how far off a card is; the worst card -/
theorem row_lt {M : mx_M} {n N K : Nat} {f : Nat → Nat} {Bs : BB} (W : wM M n N K f Bs) : ∀ a, a < n → f a < N := fun a ha => (W.2.2.2.2 a ha).2
theorem q_copyThen {d n N K : Nat} {f : Nat → Nat} {Bs : BB} {M : mx_M} {Q : QQ} (W : wM M n N K f Bs) (hq : ∀ M1, wM M1 n N K f Bs → lip mQ M M1 → rowM M1 91 n N f → Q (.inl none) M1) : mx_W m_X11_copies d 0 [.ref 58, .ref 90, .ref 91, .retAddr 0] [] M Q := by
  have h10 := W.2.2.2.1
  refine p_copies (K := 11) W.1 (by decide) rfl rfl (by decide) (fun M1 L1 c1 => ?_)
  have L : lip mQ M M1 := lip_of L1 (fun k j hk => Or.inr (Or.inr (Or.inl hk)))
  refine hq M1 (wM_q L W) L ⟨?_, W.2.2.2.1, fun i hi => ?_⟩
  · rw [c1 0 (by decide)]; exact W.2.2.1
  · rw [c1 (i + 1) (by omega)]; exact W.2.2.2.2 i hi
theorem q_fileThen {d n N K o : Nat} {f g : Nat → Nat} {Bs : BB} {M : mx_M} {Q : QQ} (W : wM M n N K f Bs) (ho : o < K) (R : rowM M 91 n N g) (hq : ∀ M1, wM M1 n N K f Bs → lip mQ M M1 → rowM M1 91 n N (srtF (Bs o) 1 (n - 1) g) → Q (.inl none) M1) : mx_W m_X11_files (d + 4 + 1) 0 [.ref 58, .ref 91, .int (w o), .retAddr 0, .retAddr 0, .retAddr 0] [] M Q := by
  refine p_files W.1 rfl (by intro z; rcases z with z | z <;> omega) (by intro z; omega) (W.2.1.2.2 o ho) R (fun M1 L1 R1 => ?_)
  have L : lip mQ M M1 := lip_of L1 (fun k j hk => by show _ ∨ _; rcases hk with h | h | h <;> omega)
  exact hq M1 (wM_q L W) L R1
theorem plc_ne {n c : Nat} {f : Nat → Nat} (hn : n ≤ 10) (h : ¬ plc n f c = -1) : ∃ i, i < n ∧ f i = c ∧ plc n f c = w i ∧ fnd (fun i => decide (f i = c)) 0 n = i := by
  unfold plc at h ⊢
  rw [fz_none (by omega)] at h
  exact ⟨_, by omega, of_decide_eq_true (fnd_so (fun i => decide (f i = c)) 0 n (by omega)), fz_lt (by omega), rfl⟩
def ofA (n : Nat) (f : Nat → Nat) (B : Nat → Nat → Bool) (c : Nat) : Int32 := if plc n f c = -1 then -99 else plc n f c - w (cnt (fun i => B (f i) c) 0 n)
theorem p_off {d t n N K : Nat} {v1 v2 : Int32} {f : Nat → Nat} {Bs : BB} {M : mx_M} {Q : QQ} (W : wC M t n N K f Bs) (hr : rmE M)
    (h1 : ∀ o c, o < K → c < N → v1 = w o → v2 = w c → Q (.inl (some (.int (ofA n f (Bs o) c)))) M) (h2 : ¬ (isIn v1 K ∧ isIn v2 N) → Q (.inr NSE) (mx_thM M)) : mx_W m_X10_off (d + 1 + 1 + 1) 0 [.ref 1, .int v1, .int v2, .retAddr 0] [] M Q := by
  have hb := W.2.1.2.2.1
  refine x_X10_off_0 W.1 t W.2.1.1.1 W.2.1.1.2 _ _ (c_clerkG W hr (fun g => ⟨rfl, rfl, Or.inl ⟨rfl, c_cardG W hr (fun g2 => ⟨rfl, rfl, Or.inl ⟨rfl, ?_⟩⟩) (fun g2 => ⟨rfl, rfl, Or.inr ⟨_, rfl, h2 (fun z => g2 z.2)⟩⟩)⟩⟩) (fun g => ⟨rfl, rfl, Or.inr ⟨_, rfl, h2 (fun z => g z.1)⟩⟩))
  obtain ⟨o, ho, rfl⟩ := g
  obtain ⟨c, hc, rfl⟩ := g2
  have H := h1 o c ho hc rfl rfl
  unfold ofA at H
  refine p_placeOf W.1 (Or.inl rfl) W.2.2.1 c (by omega) ⟨rfl, rfl, _, rfl, fun z => ?_, fun z => ?_⟩
  · rw [if_neg z] at H
    exact p_countAhead W.1 (Or.inl rfl) W.2.2.1 (W.2.1.2.2.2 o ho) c hc ⟨rfl, rfl, _, rfl, H⟩
  · rw [if_pos z] at H
    exact H
theorem q_off {d n N K : Nat} {v1 v2 : Int32} {f : Nat → Nat} {Bs : BB} {M : mx_M} {Q : QQ} (W : wM M n N K f Bs) (S : ∀ o, o < K → sto N (Bs o)) (D : dst n f)
    (h1 : ∀ o c, o < K → c < N → v1 = w o → v2 = w c → ∀ M1, wM M1 n N K f Bs → lip mQ (mx_setI M 58 0 0) M1 → Q (.inl (some (.int (ofA n f (Bs o) c)))) M1) (h2 : ¬ (isIn v1 K ∧ isIn v2 N) → Q (.inl (some (.int 0))) (mx_setI (mx_setI M 58 0 0) 58 0 1)) : mx_W m_X11_off (d + 4 + 1 + 1) 0 [.ref 58, .int v1, .int v2, .retAddr 0] [] M Q :=
  x_X11_off_0 W.1 _ _ (fun M1 e1 => by
    subst e1
    have W1 := wM_0 (v := 0) W
    have hb := W1.2.1.2.1
    refine q_isClerk W1 I_eq (fun g => ⟨rfl, rfl, _, rfl, fun z => (by cases z), fun _ => q_isCard W1 I_eq (fun g2 => ⟨rfl, rfl, _, rfl, fun _ => ?_, fun z => (by cases z)⟩) (fun g2 => ⟨rfl, rfl, _, rfl, fun z => (by cases z), fun _ => h2 (fun z => g2 z.2)⟩)⟩) (fun g => ⟨rfl, rfl, _, rfl, fun _ => h2 (fun z => g z.1), fun z => (by cases z)⟩)
    obtain ⟨o, ho, rfl⟩ := g
    obtain ⟨c, hc, rfl⟩ := g2
    have H := h1 o c ho hc rfl rfl
    unfold ofA at H
    refine q_place W1 hc ⟨rfl, rfl, _, rfl, fun z => ?_, fun z => ?_⟩
    · rw [if_neg z] at H
      obtain ⟨i, hi, ei, _⟩ := plc_ne W1.2.2.2.1.1 z
      refine q_copyThen W1 (fun M2 W2 L2 R2 => ⟨L2.1.1, L2.1.2.1, rfl, q_fileThen W2 ho R2 (fun M3 W3 L3 R3 => ⟨L3.1.1, L3.1.2.1, rfl, p_placeIn W3.1 rfl R3 c (by omega) ⟨rfl, rfl, _, rfl, ?_⟩⟩)⟩)
      rw [off_eq (S o ho) (row_lt W) D hi ei]
      exact H M3 W3 (lip_trans L2 L3)
    · rw [if_pos z] at H
      exact H _ W1 (lip_refl _ _))
/-! the worst card -/
def wwF (n : Nat) (f : Nat → Nat) (B : Nat → Nat → Bool) (c : Nat) : Nat := cnt (fun i => !decide (i = fnd (fun i => decide (f i = c)) 0 n) && (decide (i < fnd (fun i => decide (f i = c)) 0 n) != B (f i) c)) 0 n
def woU (n : Nat) (f : Nat → Nat) (B : Nat → Nat → Bool) (v : Int32) (c : Nat) : Nat := if v = 0 then wwF n f B c else (lkF f B c 10 0 n 0).1
theorem woU_le {n : Nat} (f : Nat → Nat) (B : Nat → Nat → Bool) (v : Int32) (c : Nat) (hn : n ≤ 10) : woU n f B v c ≤ 10 := by
  unfold woU wwF
  split
  · exact Nat.le_trans (cnt_le _ _ _) hn
  · have := lkF_le f B c 10 0 n 0; omega
def woF (n : Nat) (f : Nat → Nat) (B : Nat → Nat → Bool) (v : Int32) : Nat → Nat → Nat → Int32 → Int32
  | _, 0, _, b => b
  | i, k + 1, m, b => if plc n f i = -1 then woF n f B v (i + 1) k m b else if m < woU n f B v i then woF n f B v (i + 1) k (woU n f B v i) (w i) else woF n f B v (i + 1) k m b
theorem p_worst_l {d t n N K o : Nat} {v : Int32} {f : Nat → Nat} {Bs : BB} {M : mx_M} {Q : QQ} (W : wC M t n N K f Bs) (ho : o < K) :
    ∀ (k i m : Nat) (b : Int32), i + k = N → m ≤ 10 → Q (.inl (some (.int (woF n f (Bs o) v i k m b)))) M → mx_W m_X10_worst (d + 1 + 1 + 1 + 1) 17 [.ref 1, .int (w o), .int v, .int (w m), .int b, .int (w i), .retAddr 0] [] M Q
  | 0, i, m, b, hi, hm, hq => by
    have hb := W.2.1.2.2.1
    refine x_X10_worst_17 W.1 t W.2.1.1.1 W.2.1.1.2 _ _ _ _ _ ⟨fun _ => hq, fun h => absurd ?_ h⟩
    rw [W.2.1.2.1.1, w_le (by omega) (by omega)]; omega
  | k + 1, i, m, b, hi, hm, hq => by
    have hb := W.2.1.2.2.1
    have h10 := W.2.2.1.2.1
    have hu := woU_le f (Bs o) v i h10.1
    rw [woF] at hq
    refine x_X10_worst_17 W.1 t W.2.1.1.1 W.2.1.1.2 _ _ _ _ _ ⟨fun h => ?_, fun _ => p_placeOf W.1 (Or.inl rfl) W.2.2.1 i (by omega) ⟨rfl, rfl, _, rfl, fun g => ?_, fun g => ?_⟩⟩
    · rw [W.2.1.2.1.1, w_le (by omega) (by omega)] at h; omega
    · rw [if_pos g] at hq
      rw [w_add1]
      exact p_worst_l W ho k (i + 1) m b (by omega) hm hq
    · rw [if_neg g] at hq
      have step : (w (woU n f (Bs o) v i) ≤ w m → mx_W m_X10_worst (d + 1 + 1 + 1 + 1) 17 [.ref 1, .int (w o), .int v, .int (w m), .int b, .int (w i + 1), .retAddr 0] [] M Q) ∧ (¬ w (woU n f (Bs o) v i) ≤ w m → mx_W m_X10_worst (d + 1 + 1 + 1 + 1) 17 [.ref 1, .int (w o), .int v, .int (w (woU n f (Bs o) v i)), .int (w i), .int (w i + 1), .retAddr 0] [] M Q) := by
        rw [w_le (by omega) (by omega), w_add1]
        refine ⟨fun z => ?_, fun z => ?_⟩
        · rw [if_neg (by omega)] at hq
          exact p_worst_l W ho k (i + 1) m b (by omega) hm hq
        · rw [if_pos (by omega)] at hq
          exact p_worst_l W ho k (i + 1) _ _ (by omega) hu hq
      refine ⟨fun z => ?_, fun z => ?_⟩
      · rw [show woU n f (Bs o) v i = (lkF f (Bs o) i 10 0 n 0).1 from if_neg z] at step
        exact p_looksFor W.1 (Or.inl rfl) W.2.2.1 (W.2.1.2.2.2 o ho) i (by omega) ⟨rfl, rfl, _, rfl, step⟩
      · rw [show woU n f (Bs o) v i = wwF n f (Bs o) i from if_pos z] at step
        obtain ⟨p, hp, _, ep, ef⟩ := plc_ne h10.1 g
        unfold wwF at step
        rw [ef] at step
        exact p_wrongWith W.1 (Or.inl rfl) W.2.2.1 (W.2.1.2.2.2 o ho) i (by omega) p hp ep ⟨rfl, rfl, _, rfl, step⟩
theorem p_worst {d t n N K : Nat} {v1 v2 : Int32} {f : Nat → Nat} {Bs : BB} {M : mx_M} {Q : QQ} (W : wC M t n N K f Bs) (hr : rmE M)
    (h1 : ∀ o, o < K → v1 = w o → isIn v2 2 → Q (.inl (some (.int (woF n f (Bs o) v2 0 N 0 (-1))))) M) (h2 : ¬ (isIn v1 K ∧ isIn v2 2) → Q (.inr NSE) (mx_thM M)) : mx_W m_X10_worst (d + 1 + 1 + 1 + 1) 0 [.ref 1, .int v1, .int v2, .retAddr 0, .retAddr 0, .retAddr 0, .retAddr 0] [] M Q := by
  refine x_X10_worst_0 W.1 t W.2.1.1.1 W.2.1.1.2 _ _ (c_clerkG W hr (fun g => ⟨rfl, rfl, Or.inl ⟨rfl, c_zoG W hr (fun g2 => ⟨rfl, rfl, Or.inl ⟨rfl, ?_⟩⟩) (fun g2 => ⟨rfl, rfl, Or.inr ⟨_, rfl, h2 (fun z => g2 z.2)⟩⟩)⟩⟩) (fun g => ⟨rfl, rfl, Or.inr ⟨_, rfl, h2 (fun z => g z.1)⟩⟩))
  obtain ⟨o, ho, rfl⟩ := g
  exact p_worst_l W ho N 0 0 (-1) (Nat.zero_add N) (by omega) (h1 o ho rfl g2)
/-- the reference's count of what stands wrong with the card at p -/
def wrF (f : Nat → Nat) (B : Nat → Nat → Bool) (p : Nat) : Nat → Bool := fun k => !decide (k = p) && (if k < p then B (f p) (f k) else B (f k) (f p))
theorem q_wrongs_l {d n N K o p : Nat} {f : Nat → Nat} {Bs : BB} {M0 : mx_M} {Q : QQ} (ho : o < K) (hp : p < n) (s9 : Nat) (hq : ∀ M1, wM M1 n N K f Bs → lip mQ M0 M1 → Q (.inl (some (.int (w s9)))) M1) :
    ∀ (k i s : Nat) (M : mx_M), wM M n N K f Bs → lip mQ M0 M → i + k = n → s + cnt (wrF f (Bs o) p) i k = s9 → mx_W m_X11_wrongsOf (d + 4 + 1) 5 [.ref 58, .int (w o), .int (w p), .int (w s), .int (w i), .retAddr 0, .retAddr 0] [] M Q
  | 0, i, s, M, W, L, hi, e => by
    have h10 := W.2.2.2.1
    have e : s = s9 := e
    subst e
    refine x_X11_wrongsOf_5 W.1 _ _ _ _ ⟨fun _ => hq M W L, fun h => absurd ?_ h⟩
    rw [W.2.2.1, w_le (by omega) (by omega)]; omega
  | k + 1, i, s, M, W, L, hi, e => by
    have h10 := W.2.2.2.1
    have o1 := W.2.2.2.2 i (by omega)
    have o2 := W.2.2.2.2 p hp
    have no : wrF f (Bs o) p i = false → ∀ M1, wM M1 n N K f Bs → lip mQ M M1 → mx_W m_X11_wrongsOf (d + 4 + 1) 5 [.ref 58, .int (w o), .int (w p), .int (w s), .int (w i + 1), .retAddr 0, .retAddr 0] [] M1 Q := by
      intro g M1 W1 L1
      rw [cnt_no (by rw [g]; decide)] at e
      rw [w_add1]
      exact q_wrongs_l ho hp s9 hq k (i + 1) s M1 W1 (lip_trans L L1) (by omega) e
    have yes : wrF f (Bs o) p i = true → ∀ M1, wM M1 n N K f Bs → lip mQ M M1 → mx_W m_X11_wrongsOf (d + 4 + 1) 5 [.ref 58, .int (w o), .int (w p), .int (w s + 1), .int (w i + 1), .retAddr 0, .retAddr 0] [] M1 Q := by
      intro g M1 W1 L1
      rw [cnt_yes g] at e
      rw [w_add1, w_add1]
      exact q_wrongs_l ho hp s9 hq k (i + 1) (s + 1) M1 W1 (lip_trans L L1) (by omega) (by omega)
    refine x_X11_wrongsOf_5 W.1 _ _ _ _ ⟨fun h => ?_, fun _ => ⟨fun g => ?_, fun g => ?_⟩⟩
    · rw [W.2.2.1, w_le (by omega) (by omega)] at h; omega
    · rw [w_inj (by omega) (by omega)] at g
      rw [w_le (a := p) (b := i) (by omega) (by omega), w_1add, w_1add, w_nat (n := p + 1) (by omega), w_nat (n := i + 1) (by omega), o1.1, o2.1, Int32.add_zero]
      refine ⟨fun z => ⟨w_in (by omega) (by omega), fun _ => ⟨w_in (by omega) (by omega), q_bef W ho o1.2 o2.2 (fun M1 W1 L1 => ⟨L1.1.1, L1.1.2.1, _, rfl, fun y => no ?_ M1 W1 L1, fun y => yes ?_ M1 W1 L1⟩)⟩, fun z2 => absurd z z2⟩, fun z => ⟨w_in (by omega) (by omega), fun z2 => absurd z2 z, fun _ => ⟨w_in (by omega) (by omega), q_bef W ho o2.2 o1.2 (fun M1 W1 L1 => ⟨L1.1.1, L1.1.2.1, _, rfl, fun y => no ?_ M1 W1 L1, fun y => yes ?_ M1 W1 L1⟩)⟩⟩⟩
      · unfold wrF; rw [if_neg (by omega), y, Bool.and_false]
      · unfold wrF; rw [if_neg (by omega), y, decide_eq_false g]; rfl
      · unfold wrF; rw [if_pos (by omega), y, Bool.and_false]
      · unfold wrF; rw [if_pos (by omega), y, decide_eq_false g]; rfl
    · rw [w_inj (by omega) (by omega)] at g
      exact no (by unfold wrF; rw [decide_eq_true g]; rfl) M W (lip_refl _ _)
theorem wr_ww {N n p c : Nat} {B : Nat → Nat → Bool} {f : Nat → Nat} (S : sto N B) (hf : ∀ a, a < n → f a < N) (D : dst n f) (hp : p < n) (e : f p = c) (ep : fnd (fun i => decide (f i = c)) 0 n = p) : cnt (wrF f B p) 0 n = wwF n f B c := by
  unfold wwF
  rw [ep]
  refine cnt_congr 0 n (fun j _ hj => ?_)
  unfold wrF
  by_cases g : j = p
  · rw [decide_eq_true g]; rfl
  · rw [decide_eq_false g, Bool.not_false, Bool.true_and, Bool.true_and, ← e]
    have hne : ¬ f j = f p := fun z => g (D j p (by omega) hp z)
    have := sto_opp S (hf j (by omega)) (hf p hp) hne
    by_cases g2 : j < p
    · rw [if_pos g2, decide_eq_true g2, this]
      cases B (f j) (f p) <;> rfl
    · rw [if_neg g2, decide_eq_false g2]
      cases B (f j) (f p) <;> rfl
theorem q_worst_l {d n N K o : Nat} {v : Int32} {f : Nat → Nat} {Bs : BB} {M0 : mx_M} {Q : QQ} (ho : o < K) (S : sto N (Bs o)) (D : dst n f) (b9 : Int32) (hq : ∀ M1, wM M1 n N K f Bs → lip mQ M0 M1 → Q (.inl (some (.int b9))) M1) :
    ∀ (k i m : Nat) (b : Int32) (M : mx_M), wM M n N K f Bs → lip mQ M0 M → i + k = N → m ≤ 10 → woF n f (Bs o) v i k m b = b9 → mx_W m_X11_worst (d + 4 + 1 + 1) 32 [.ref 58, .int (w o), .int v, .int b, .int (w m), .int (w i), .retAddr 0, .retAddr 0] [] M Q
  | 0, i, m, b, M, W, L, hi, hm, e => by
    have hb := W.2.1.2.1
    have e : b = b9 := e
    subst e
    refine x_X11_worst_32 W.1 _ _ _ _ _ ⟨fun _ => hq M W L, fun h => absurd ?_ h⟩
    rw [W.2.1.1.1, w_le (by omega) (by omega)]; omega
  | k + 1, i, m, b, M, W, L, hi, hm, e => by
    have hb := W.2.1.2.1
    have h10 := W.2.2.2.1
    have hu := woU_le f (Bs o) v i h10.1
    rw [woF] at e
    refine x_X11_worst_32 W.1 _ _ _ _ _ ⟨fun h => ?_, fun _ => q_place W (by omega) ⟨rfl, rfl, _, rfl, fun g => ?_, fun g => ?_⟩⟩
    · rw [W.2.1.1.1, w_le (by omega) (by omega)] at h; omega
    · rw [if_neg g] at e
      have step : ∀ M1, wM M1 n N K f Bs → lip mQ M M1 → (w m < w (woU n f (Bs o) v i) → mx_W m_X11_worst (d + 4 + 1 + 1) 32 [.ref 58, .int (w o), .int v, .int (w i), .int (w (woU n f (Bs o) v i)), .int (w i + 1), .retAddr 0, .retAddr 0] [] M1 Q) ∧ (¬ w m < w (woU n f (Bs o) v i) → mx_W m_X11_worst (d + 4 + 1 + 1) 32 [.ref 58, .int (w o), .int v, .int b, .int (w m), .int (w i + 1), .retAddr 0, .retAddr 0] [] M1 Q) := by
        intro M1 W1 L1
        rw [w_lt (by omega) (by omega), w_add1]
        refine ⟨fun z => ?_, fun z => ?_⟩
        · rw [if_pos z] at e
          exact q_worst_l ho S D b9 hq k (i + 1) _ _ M1 W1 (lip_trans L L1) (by omega) hu e
        · rw [if_neg z] at e
          exact q_worst_l ho S D b9 hq k (i + 1) m b M1 W1 (lip_trans L L1) (by omega) hm e
      refine q_looks W ho (by omega) (fun M1 W1 L1 hl => ⟨L1.1.1, L1.1.2.1, _, rfl, fun z => ?_, fun z => ?_⟩)
      · rw [hl]
        rw [show woU n f (Bs o) v i = (lkF f (Bs o) i 10 0 n 0).1 from if_neg z] at step
        exact step M1 W1 L1
      · rw [show woU n f (Bs o) v i = wwF n f (Bs o) i from if_pos z] at step
        obtain ⟨p, hp, ei, ep, ef⟩ := plc_ne h10.1 g
        rw [ep]
        refine x_X11_wrongsOf_0 W1.1 _ _ (q_wrongs_l ho hp (wwF n f (Bs o) i) (fun M2 W2 L2 => ⟨L2.1.1, L2.1.2.1, _, rfl, step M2 W2 (lip_trans L1 L2)⟩) n 0 0 M1 W1 (lip_refl _ _) (Nat.zero_add n) ?_)
        rw [Nat.zero_add, wr_ww S (row_lt W) D hp ei ef]
    · rw [if_pos g] at e
      rw [w_add1]
      exact q_worst_l ho S D b9 hq k (i + 1) m b M W L (by omega) hm e
theorem q_worst {d n N K : Nat} {v1 v2 : Int32} {f : Nat → Nat} {Bs : BB} {M : mx_M} {Q : QQ} (W : wM M n N K f Bs) (S : ∀ o, o < K → sto N (Bs o)) (D : dst n f)
    (h1 : ∀ o, o < K → v1 = w o → isIn v2 2 → ∀ M1, wM M1 n N K f Bs → lip mQ (mx_setI M 58 0 0) M1 → Q (.inl (some (.int (woF n f (Bs o) v2 0 N 0 (-1))))) M1) (h2 : ¬ (isIn v1 K ∧ isIn v2 2) → Q (.inl (some (.int 0))) (mx_setI (mx_setI M 58 0 0) 58 0 1)) : mx_W m_X11_worst (d + 4 + 1 + 1) 0 [.ref 58, .int v1, .int v2, .retAddr 0, .retAddr 0, .retAddr 0, .retAddr 0, .retAddr 0] [] M Q :=
  x_X11_worst_0 W.1 _ _ (fun M1 e1 => by
    subst e1
    have W1 := wM_0 (v := 0) W
    refine q_isClerk W1 I_eq (fun g => ⟨rfl, rfl, _, rfl, fun z => (by cases z), fun _ => p_isWhat (n := 1) W1.1 I_eq (by decide) (fun g2 => ⟨rfl, rfl, _, rfl, fun _ => ?_, fun z => (by cases z)⟩) (fun g2 => ⟨rfl, rfl, _, rfl, fun z => (by cases z), fun _ => h2 (fun z => g2 z.2)⟩)⟩) (fun g => ⟨rfl, rfl, _, rfl, fun _ => h2 (fun z => g z.1), fun z => (by cases z)⟩)
    obtain ⟨o, ho, rfl⟩ := g
    exact q_worst_l ho (S o ho) D _ (h1 o ho rfl g2) N 0 0 (-1) _ W1 (lip_refl _ _) (Nat.zero_add N) (by omega) rfl)
