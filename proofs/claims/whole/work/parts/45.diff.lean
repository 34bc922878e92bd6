/-! where clerks differ; the closest two -/
theorem w_10 (i j : Nat) : 10 * w i + w j = w (10 * i + j) := by rw [show (10 : Int32) = w 10 from rfl, w_mul, w_add]
theorem cpl_le (p : Nat → Nat → Bool) : ∀ (k i : Nat), k ≤ 10 → cpl p i k ≤ k * 10
  | 0, i, _ => Nat.le_refl _
  | k + 1, i, h => by
    have h1 := cnt_le (fun j => p i j) (i + 1) k
    have h2 := cpl_le p k (i + 1) (by omega)
    rw [cpl]
    omega
/-- two orders have a couple otherwise -/
def apt (Bs : BB) (c e : Nat) : Nat → Nat → Bool := fun x y => Bs c x y != Bs e x y
def fcI (p : Nat → Nat → Bool) (i : Nat) : Nat → Nat → Option Nat → Option Nat
  | _, 0, s => s
  | j, k + 1, s => fcI p i (j + 1) k (if p i j && s.isNone then some (10 * i + j) else s)
def fcO (p : Nat → Nat → Bool) : Nat → Nat → Option Nat → Option Nat
  | _, 0, s => s
  | i, k + 1, s => fcO p (i + 1) k (fcI p i (i + 1) k s)
theorem fcI_some (p : Nat → Nat → Bool) (i v : Nat) : ∀ (k j : Nat), fcI p i j k (some v) = some v
  | 0, j => rfl
  | k + 1, j => by
    rw [fcI, if_neg (by rw [Option.isNone_some, Bool.and_false]; decide)]
    exact fcI_some p i v k (j + 1)
theorem fcO_some (p : Nat → Nat → Bool) (v : Nat) : ∀ (k i : Nat), fcO p i k (some v) = some v
  | 0, i => rfl
  | k + 1, i => by rw [fcO, fcI_some]; exact fcO_some p v k (i + 1)
theorem mx_bb {a b : Bool} : mx_b a = mx_b b ↔ (a != b) = false := by cases a <;> cases b <;> decide
theorem p_first_i {d t N o o2 : Nat} {Bs : BB} {M : mx_M} {Q : QQ} (T : mx_Tp M) (ht : mx_Cat t) (ht0 : mx_R M 1 10 = t) (hN : mx_I M t 12 = w N) (h10 : N ≤ 10) (A : ahC M o N (Bs o)) (A2 : ahC M o2 N (Bs o2)) (i : Nat) (hi : i < N) (r9 : Option Nat)
    (X : r9 = none → mx_W m_X10_firstCoupleApart (d + 1 + 1 + 1) 2 [.ref 1, .int (w o), .int (w o2), .int (w (i + 1)), .retAddr 0] [] M Q) (Y : ∀ v, r9 = some v → Q (.inl (some (.int (w v)))) M) :
    ∀ (k j : Nat), j + k = N → fcI (apt Bs o o2) i j k none = r9 → mx_W m_X10_firstCoupleApart (d + 1 + 1 + 1) 18 [.ref 1, .int (w o), .int (w o2), .int (w i), .int (w j)] [] M Q
  | 0, j, hj, e => by
    refine x_X10_firstCoupleApart_18 T t ht ht0 _ _ _ _ ⟨fun _ => ?_, fun h => absurd ?_ h⟩
    · rw [w_add1]; exact X e.symm
    · rw [hN, w_le (by omega) (by omega)]; omega
  | k + 1, j, hj, e => by
    rw [fcI] at e
    refine x_X10_firstCoupleApart_18 T t ht ht0 _ _ _ _ ⟨fun h => ?_, fun _ => p_isApart T ht ht0 A A2 hi (by omega) ⟨rfl, rfl, _, rfl, fun g => ?_, fun g => ?_⟩⟩
    · rw [hN, w_le (by omega) (by omega)] at h; omega
    · rw [show apt Bs o o2 i j = false from g, Bool.false_and, if_neg (by decide)] at e
      rw [w_add1]
      exact p_first_i T ht ht0 hN h10 A A2 i hi r9 X Y k (j + 1) (by omega) e
    · rw [show apt Bs o o2 i j = true from g, Bool.true_and, if_pos (by decide), fcI_some] at e
      rw [w_10]
      exact Y _ e.symm
theorem p_first_o {d t N o o2 : Nat} {Bs : BB} {M : mx_M} {Q : QQ} (T : mx_Tp M) (ht : mx_Cat t) (ht0 : mx_R M 1 10 = t) (hN : mx_I M t 12 = w N) (h10 : N ≤ 10) (A : ahC M o N (Bs o)) (A2 : ahC M o2 N (Bs o2)) :
    ∀ (k i : Nat), i + k = N → Q (.inl (some (.int (onW (fcO (apt Bs o o2) i k none))))) M → mx_W m_X10_firstCoupleApart (d + 1 + 1 + 1) 2 [.ref 1, .int (w o), .int (w o2), .int (w i), .retAddr 0] [] M Q
  | 0, i, hi, hq => by
    refine x_X10_firstCoupleApart_2 T t ht ht0 _ _ _ ⟨fun _ => hq, fun h => absurd ?_ h⟩
    rw [hN, w_le (by omega) (by omega)]; omega
  | k + 1, i, hi, hq => by
    rw [fcO] at hq
    refine x_X10_firstCoupleApart_2 T t ht ht0 _ _ _ ⟨fun h => ?_, fun _ => ?_⟩
    · rw [hN, w_le (by omega) (by omega)] at h; omega
    · rw [w_add1]
      refine p_first_i T ht ht0 hN h10 A A2 i (by omega) (fcI (apt Bs o o2) i (i + 1) k none) (fun g => ?_) (fun v g => ?_) k (i + 1) (by omega) rfl
      · rw [g] at hq
        exact p_first_o T ht ht0 hN h10 A A2 k (i + 1) (by omega) hq
      · rw [g, fcO_some] at hq
        exact hq
/-- the answer of differ -/
def dfA (N : Nat) (p : Nat → Nat → Bool) (v : Int32) : Int32 := if v = 0 then w (cpl p 0 N) else onW (fcO p 0 N none)
theorem p_differ {d t n N K : Nat} {v1 v2 v3 : Int32} {f : Nat → Nat} {Bs : BB} {M : mx_M} {Q : QQ} (W : wC M t n N K f Bs) (hr : rmE M)
    (h1 : ∀ c e, c < K → e < K → v1 = w c → v2 = w e → isIn v3 2 → Q (.inl (some (.int (dfA N (apt Bs c e) v3)))) M) (h2 : ¬ (isIn v1 K ∧ isIn v2 K ∧ isIn v3 2) → Q (.inr "java/util/NoSuchElementException") (mx_thM M)) : mx_W m_X10_differ (d + 1 + 1 + 1 + 1) 0 [.ref 1, .int v1, .int v2, .int v3] [] M Q := by
  have hb := W.2.1.2.2.1
  refine x_X10_differ_0 W.1 t W.2.1.1.1 W.2.1.1.2 _ _ _ (p_needClerk W.1 W.2.1.1.1 W.2.1.1.2 W.2.1.2.1.2 (by omega) hr (fun g => ⟨rfl, rfl, Or.inl ⟨rfl, p_needClerk W.1 W.2.1.1.1 W.2.1.1.2 W.2.1.2.1.2 (by omega) hr (fun g2 => ⟨rfl, rfl, Or.inl ⟨rfl, p_needZeroOrOne W.1 W.2.1.1.1 W.2.1.1.2 hr (fun g3 => ⟨rfl, rfl, Or.inl ⟨rfl, ?_⟩⟩) (fun g3 => ⟨rfl, rfl, Or.inr ⟨_, rfl, h2 (fun z => g3 z.2.2)⟩⟩)⟩⟩) (fun g2 => ⟨rfl, rfl, Or.inr ⟨_, rfl, h2 (fun z => g2 z.2.1)⟩⟩)⟩⟩) (fun g => ⟨rfl, rfl, Or.inr ⟨_, rfl, h2 (fun z => g z.1)⟩⟩))
  obtain ⟨c, hc, rfl⟩ := g
  obtain ⟨e, he, rfl⟩ := g2
  have H := h1 c e hc he rfl rfl g3
  unfold dfA at H
  refine ⟨fun z => ?_, fun z => ?_⟩
  · rw [if_neg z] at H
    exact x_X10_firstCoupleApart_0 W.1 t W.2.1.1.1 W.2.1.1.2 _ _ (p_first_o W.1 W.2.1.1.1 W.2.1.1.2 W.2.1.2.1.1 hb.1 (W.2.1.2.2.2 c hc) (W.2.1.2.2.2 e he) N 0 (Nat.zero_add N) ⟨rfl, rfl, _, rfl, H⟩)
  · rw [if_pos z] at H
    exact p_couplesApart W.1 W.2.1.1.1 W.2.1.1.2 W.2.1.2.1.1 hb.1 (W.2.1.2.2.2 c hc) (W.2.1.2.2.2 e he) ⟨rfl, rfl, _, rfl, H⟩
theorem q_diff_i {d n N K c e i : Nat} {v : Int32} {f : Nat → Nat} {Bs : BB} {M0 : mx_M} {Q : QQ} (hc : c < K) (he : e < K) (hi : i < N) (s9 : Nat) (f9 : Option Nat)
    (X : ∀ M1, wM M1 n N K f Bs → lip mQ M0 M1 → (∀ z, f9 = some z → z < 1000) → mx_W m_X11_differ (d + 4 + 1) 41 [.ref 58, .int (w c), .int (w e), .int v, .int (w s9), .int (onW f9), .int (w (i + 1)), .retAddr 0] [] M1 Q) :
    ∀ (k j s : Nat) (fs : Option Nat) (M : mx_M), wM M n N K f Bs → lip mQ M0 M → j + k = N → (∀ z, fs = some z → z < 1000) → s + cnt (fun j => apt Bs c e i j) j k = s9 → fcI (apt Bs c e) i j k fs = f9 → mx_W m_X11_differ (d + 4 + 1) 56 [.ref 58, .int (w c), .int (w e), .int v, .int (w s), .int (onW fs), .int (w i), .int (w j)] [] M Q
  | 0, j, s, fs, M, W, L, hj, hf, e1, e2 => by
    have hb := W.2.1.2.1
    refine x_X11_differ_56 W.1 _ _ _ _ _ _ _ ⟨fun _ => ?_, fun h => absurd ?_ h⟩
    · rw [w_add1]
      have e1 : s = s9 := e1
      have e2 : fs = f9 := e2
      subst e1 e2
      exact X M W L hf
    · rw [W.2.1.1.1, w_le (by omega) (by omega)]; omega
  | k + 1, j, s, fs, M, W, L, hj, hf, e1, e2 => by
    have hb := W.2.1.2.1
    rw [fcI] at e2
    refine x_X11_differ_56 W.1 _ _ _ _ _ _ _ ⟨fun h => ?_, fun _ => q_bef W hc hi (by omega) (fun M1 W1 L1 => ⟨L1.1.1, L1.1.2.1, _, rfl, q_bef W1 he hi (by omega) (fun M2 W2 L2 => ⟨L2.1.1, L2.1.2.1, _, rfl, fun g => ?_, fun g => ?_⟩)⟩)⟩
    · rw [W.2.1.1.1, w_le (by omega) (by omega)] at h; omega
    · have g1 : apt Bs c e i j = true := by
        cases g2 : apt Bs c e i j
        · exact absurd (mx_bb.mpr g2) g
        · rfl
      rw [cnt_yes (p := fun j => apt Bs c e i j) g1] at e1
      rw [g1, Bool.true_and] at e2
      rw [w_add1, w_add1, w_10]
      cases fs with
      | none =>
        rw [Option.isNone_none, if_pos rfl] at e2
        have := q_diff_i (d := d) hc he hi s9 f9 X k (j + 1) (s + 1) (some (10 * i + j)) M2 W2 (lip_trans L (lip_trans L1 L2)) (by omega) (fun z h => by cases h; omega) (by omega) e2
        exact ⟨fun z => absurd rfl z, fun _ => this⟩
      | some z9 =>
        rw [Option.isNone_some, if_neg (by decide)] at e2
        have := q_diff_i (d := d) hc he hi s9 f9 X k (j + 1) (s + 1) (some z9) M2 W2 (lip_trans L (lip_trans L1 L2)) (by omega) hf (by omega) e2
        exact ⟨fun _ => this, fun z => absurd z (w_ne1 (by have := hf z9 rfl; omega))⟩
    · have g1 : apt Bs c e i j = false := mx_bb.mp g
      rw [cnt_no (by rw [g1]; decide)] at e1
      rw [g1, Bool.false_and, if_neg (by decide)] at e2
      rw [w_add1]
      exact q_diff_i hc he hi s9 f9 X k (j + 1) s fs M2 W2 (lip_trans L (lip_trans L1 L2)) (by omega) hf e1 e2
theorem q_diff_o {d n N K c e : Nat} {v : Int32} {f : Nat → Nat} {Bs : BB} {M0 : mx_M} {Q : QQ} (hc : c < K) (he : e < K) (s9 : Nat) (f9 : Option Nat)
    (hq : ∀ M1, wM M1 n N K f Bs → lip mQ M0 M1 → Q (.inl (some (.int (if v = 0 then w s9 else onW f9)))) M1) :
    ∀ (k i s : Nat) (fs : Option Nat) (M : mx_M), wM M n N K f Bs → lip mQ M0 M → i + k = N → (∀ z, fs = some z → z < 1000) → s + cpl (apt Bs c e) i k = s9 → fcO (apt Bs c e) i k fs = f9 → mx_W m_X11_differ (d + 4 + 1) 41 [.ref 58, .int (w c), .int (w e), .int v, .int (w s), .int (onW fs), .int (w i), .retAddr 0] [] M Q
  | 0, i, s, fs, M, W, L, hi, hf, e1, e2 => by
    have hb := W.2.1.2.1
    have e1 : s = s9 := e1
    have e2 : fs = f9 := e2
    subst e1 e2
    have H := hq M W L
    refine x_X11_differ_41 W.1 _ _ _ _ _ _ ⟨fun _ => ⟨fun z => ?_, fun z => ?_⟩, fun h => absurd ?_ h⟩
    · rw [if_neg z] at H; exact H
    · rw [if_pos z] at H; exact H
    · rw [W.2.1.1.1, w_le (by omega) (by omega)]; omega
  | k + 1, i, s, fs, M, W, L, hi, hf, e1, e2 => by
    have hb := W.2.1.2.1
    rw [fcO] at e2
    rw [cpl] at e1
    refine x_X11_differ_41 W.1 _ _ _ _ _ _ ⟨fun h => ?_, fun _ => ?_⟩
    · rw [W.2.1.1.1, w_le (by omega) (by omega)] at h; omega
    · rw [w_add1]
      exact q_diff_i hc he (by omega) (s + cnt (fun j => apt Bs c e i j) (i + 1) k) (fcI (apt Bs c e) i (i + 1) k fs) (fun M1 W1 L1 hf1 => q_diff_o hc he s9 f9 hq k (i + 1) _ _ M1 W1 L1 (by omega) hf1 (by omega) e2) k (i + 1) s fs M W L (by omega) hf rfl rfl
theorem q_isClerk {d n N K : Nat} {v : Int32} {f : Nat → Nat} {Bs : BB} {M : mx_M} {Q : QQ} (W : wM M n N K f Bs) (h0 : mx_I M 58 0 = 0) (h1 : isIn v K → Q (.inl (some (.int (mx_b true)))) M) (h2 : ¬ isIn v K → Q (.inl (some (.int (mx_b false)))) (mx_setI M 58 0 1)) : mx_W m_X11_isClerk (d + 1) 0 [.ref 58, .int v] [] M Q :=
  p_isClerk W.1 h0 W.2.1.1.2 (by have := W.2.1.2.1; omega) h1 h2
theorem q_isCard {d n N K : Nat} {v : Int32} {f : Nat → Nat} {Bs : BB} {M : mx_M} {Q : QQ} (W : wM M n N K f Bs) (h0 : mx_I M 58 0 = 0) (h1 : isIn v N → Q (.inl (some (.int (mx_b true)))) M) (h2 : ¬ isIn v N → Q (.inl (some (.int (mx_b false)))) (mx_setI M 58 0 1)) : mx_W m_X11_isCard (d + 1) 0 [.ref 58, .int v] [] M Q :=
  p_isCard W.1 h0 W.2.1.1.1 W.2.1.2.1.1 h1 h2
theorem q_differ {d n N K : Nat} {v1 v2 v3 : Int32} {f : Nat → Nat} {Bs : BB} {M : mx_M} {Q : QQ} (W : wM M n N K f Bs)
    (h1 : ∀ c e, c < K → e < K → v1 = w c → v2 = w e → isIn v3 2 → ∀ M1, wM M1 n N K f Bs → lip mQ (mx_setI M 58 0 0) M1 → Q (.inl (some (.int (dfA N (apt Bs c e) v3)))) M1)
    (h2 : ¬ (isIn v1 K ∧ isIn v2 K ∧ isIn v3 2) → Q (.inl (some (.int 0))) (mx_setI (mx_setI M 58 0 0) 58 0 1)) : mx_W m_X11_differ (d + 4 + 1) 0 [.ref 58, .int v1, .int v2, .int v3, .retAddr 0, .retAddr 0, .retAddr 0, .retAddr 0] [] M Q :=
  x_X11_differ_0 W.1 _ _ _ (fun M1 e1 => by
    subst e1
    have W1 := wM_0 (v := 0) W
    refine q_isClerk W1 I_eq (fun g => ⟨rfl, rfl, _, rfl, fun z => (by cases z), fun _ => q_isClerk W1 I_eq (fun g2 => ⟨rfl, rfl, _, rfl, fun z => (by cases z), fun _ => p_isWhat (n := 1) W1.1 I_eq (by decide) (fun g3 => ⟨rfl, rfl, _, rfl, fun _ => ?_, fun z => (by cases z)⟩) (fun g3 => ⟨rfl, rfl, _, rfl, fun z => (by cases z), fun _ => h2 (fun z => g3 z.2.2)⟩)⟩) (fun g2 => ⟨rfl, rfl, _, rfl, fun _ => h2 (fun z => g2 z.2.1), fun z => (by cases z)⟩)⟩) (fun g => ⟨rfl, rfl, _, rfl, fun _ => h2 (fun z => g z.1), fun z => (by cases z)⟩)
    obtain ⟨c, hc, rfl⟩ := g
    obtain ⟨e, he, rfl⟩ := g2
    exact q_diff_o hc he _ _ (h1 c e hc he rfl rfl g3) N 0 0 none _ W1 (lip_refl _ _) (Nat.zero_add N) (fun z h => by cases h) (Nat.zero_add _) rfl)
