/-! explained; the card that tells most: counts of bits -/
/-- bits of v, as the machine's library counts them -/
def bcF (v0 : Int32) : Int32 := ((((((((v0 - (((v0.toUInt32 >>> ((1 : Int32).toUInt32 &&& Int32.toUInt32 31)).toInt32) &&& 1431655765)) &&& 858993459) + ((((v0 - (((v0.toUInt32 >>> ((1 : Int32).toUInt32 &&& Int32.toUInt32 31)).toInt32) &&& 1431655765)).toUInt32 >>> ((2 : Int32).toUInt32 &&& Int32.toUInt32 31)).toInt32) &&& 858993459)) + (((((v0 - (((v0.toUInt32 >>> ((1 : Int32).toUInt32 &&& Int32.toUInt32 31)).toInt32) &&& 1431655765)) &&& 858993459) + ((((v0 - (((v0.toUInt32 >>> ((1 : Int32).toUInt32 &&& Int32.toUInt32 31)).toInt32) &&& 1431655765)).toUInt32 >>> ((2 : Int32).toUInt32 &&& Int32.toUInt32 31)).toInt32) &&& 858993459)).toUInt32 >>> ((4 : Int32).toUInt32 &&& Int32.toUInt32 31)).toInt32)) &&& 252645135) + (((((((v0 - (((v0.toUInt32 >>> ((1 : Int32).toUInt32 &&& Int32.toUInt32 31)).toInt32) &&& 1431655765)) &&& 858993459) + ((((v0 - (((v0.toUInt32 >>> ((1 : Int32).toUInt32 &&& Int32.toUInt32 31)).toInt32) &&& 1431655765)).toUInt32 >>> ((2 : Int32).toUInt32 &&& Int32.toUInt32 31)).toInt32) &&& 858993459)) + (((((v0 - (((v0.toUInt32 >>> ((1 : Int32).toUInt32 &&& Int32.toUInt32 31)).toInt32) &&& 1431655765)) &&& 858993459) + ((((v0 - (((v0.toUInt32 >>> ((1 : Int32).toUInt32 &&& Int32.toUInt32 31)).toInt32) &&& 1431655765)).toUInt32 >>> ((2 : Int32).toUInt32 &&& Int32.toUInt32 31)).toInt32) &&& 858993459)).toUInt32 >>> ((4 : Int32).toUInt32 &&& Int32.toUInt32 31)).toInt32)) &&& 252645135).toUInt32 >>> ((8 : Int32).toUInt32 &&& Int32.toUInt32 31)).toInt32)) + ((((((((v0 - (((v0.toUInt32 >>> ((1 : Int32).toUInt32 &&& Int32.toUInt32 31)).toInt32) &&& 1431655765)) &&& 858993459) + ((((v0 - (((v0.toUInt32 >>> ((1 : Int32).toUInt32 &&& Int32.toUInt32 31)).toInt32) &&& 1431655765)).toUInt32 >>> ((2 : Int32).toUInt32 &&& Int32.toUInt32 31)).toInt32) &&& 858993459)) + (((((v0 - (((v0.toUInt32 >>> ((1 : Int32).toUInt32 &&& Int32.toUInt32 31)).toInt32) &&& 1431655765)) &&& 858993459) + ((((v0 - (((v0.toUInt32 >>> ((1 : Int32).toUInt32 &&& Int32.toUInt32 31)).toInt32) &&& 1431655765)).toUInt32 >>> ((2 : Int32).toUInt32 &&& Int32.toUInt32 31)).toInt32) &&& 858993459)).toUInt32 >>> ((4 : Int32).toUInt32 &&& Int32.toUInt32 31)).toInt32)) &&& 252645135) + (((((((v0 - (((v0.toUInt32 >>> ((1 : Int32).toUInt32 &&& Int32.toUInt32 31)).toInt32) &&& 1431655765)) &&& 858993459) + ((((v0 - (((v0.toUInt32 >>> ((1 : Int32).toUInt32 &&& Int32.toUInt32 31)).toInt32) &&& 1431655765)).toUInt32 >>> ((2 : Int32).toUInt32 &&& Int32.toUInt32 31)).toInt32) &&& 858993459)) + (((((v0 - (((v0.toUInt32 >>> ((1 : Int32).toUInt32 &&& Int32.toUInt32 31)).toInt32) &&& 1431655765)) &&& 858993459) + ((((v0 - (((v0.toUInt32 >>> ((1 : Int32).toUInt32 &&& Int32.toUInt32 31)).toInt32) &&& 1431655765)).toUInt32 >>> ((2 : Int32).toUInt32 &&& Int32.toUInt32 31)).toInt32) &&& 858993459)).toUInt32 >>> ((4 : Int32).toUInt32 &&& Int32.toUInt32 31)).toInt32)) &&& 252645135).toUInt32 >>> ((8 : Int32).toUInt32 &&& Int32.toUInt32 31)).toInt32)).toUInt32 >>> ((16 : Int32).toUInt32 &&& Int32.toUInt32 31)).toInt32)) &&& 63)
theorem p_bitCount {d : Nat} {v : Int32} {M : mx_M} {Q : QQ} (T : mx_Tp M) (hq : Q (.inl (some (.int (bcF v)))) M) : mx_W m_J6_bitCount_0f7a4 d 0 [.int v] [] M Q := x_J6_bitCount_0f7a4_0 T v hq
/-- bits of v, counted from i on (k of them) -/
def rb (v : Int32) : Nat → Nat → Int32 → Int32
  | _, 0, s => s
  | i, k + 1, s => rb v (i + 1) k (s + ((v >>> (w i &&& 31)) &&& 1))
theorem bc_10 : ∀ m : Fin 16, bcF (w m.val) = rb (w m.val) 0 10 0 := by decide +kernel
theorem bc_11 : ∀ m : Fin 2048, bcF (w m.val) = rb (w m.val) 0 11 0 ∧ -1 < rb (w m.val) 0 11 0 := by decide +kernel
theorem q_bits_l {d : Nat} {v : Int32} {M : mx_M} {Q : QQ} (T : mx_Tp M) : ∀ (k i : Nat) (s : Int32), i + k = 10 → Q (.inl (some (.int (rb v i k s)))) M → mx_W m_X11_bits d 4 [.int v, .int s, .int (w i)] [] M Q
  | 0, i, s, hi, hq => by
    refine x_X11_bits_4 T _ _ _ ⟨fun _ => hq, fun h => absurd ?_ h⟩
    rw [show (10 : Int32) = w 10 from rfl, w_le (by omega) (by omega)]; omega
  | k + 1, i, s, hi, hq => by
    refine x_X11_bits_4 T _ _ _ ⟨fun h => ?_, fun h => ?_⟩
    · rw [show (10 : Int32) = w 10 from rfl, w_le (by omega) (by omega)] at h; omega
    · rw [w_add1]
      exact q_bits_l T k (i + 1) _ (by omega) hq
theorem q_bits {d : Nat} {v : Int32} {M : mx_M} {Q : QQ} (T : mx_Tp M) (hq : Q (.inl (some (.int (rb v 0 10 0)))) M) : mx_W m_X11_bits d 0 [.int v, .retAddr 0, .retAddr 0] [] M Q :=
  x_X11_bits_0 T _ (q_bits_l T 10 0 0 rfl hq)
def bitF (s o : Nat) : Bool := decide (((w s >>> (w o &&& 31)) &&& 1) = 1)
def orF (p : Nat → Bool) : Nat → Nat → Bool → Bool
  | _, 0, b => b
  | i, k + 1, b => orF p (i + 1) k (b || p i)
def xpP (f : Nat → Nat) (Bs : BB) (s q : Nat) : Nat → Bool := fun o => bitF s o && Bs o (f q) (f (q + 1))
def xpF (K : Nat) (f : Nat → Nat) (Bs : BB) (s q : Nat) : Bool := orF (xpP f Bs s q) 0 K false
theorem p_expl_i {d t n N K s q : Nat} {f : Nat → Nat} {Bs : BB} {M : mx_M} {Q : QQ} (W : wC M t n N K f Bs) (hq1 : q + 1 < n) (b9 : Bool)
    (X : b9 = true → mx_W m_X10_explains (d + 1 + 1) 2 [.ref 1, .int (w s), .int (w (q + 1 + 1)), .retAddr 0, .retAddr 0] [] M Q) (Y : b9 = false → Q (.inl (some (.int (mx_b false)))) M) :
    ∀ (k i : Nat) (b : Bool), i + k = K → orF (xpP f Bs s q) i k b = b9 → mx_W m_X10_explains (d + 1 + 1) 18 [.ref 1, .int (w s), .int (w (q + 1)), .int (mx_b b), .int (w i)] [] M Q
  | 0, i, b, hi, e => by
    have hb := W.2.1.2.2.1
    refine x_X10_explains_18 W.1 t W.2.1.1.1 W.2.1.1.2 _ _ _ _ ⟨fun _ => ⟨fun g => ?_, fun g => ?_⟩, fun h => absurd ?_ h⟩
    · rw [w_add1]; exact X (e.symm.trans (mx_bn.mp g))
    · exact Y (e.symm.trans (mx_b0.mp g))
    · rw [W.2.1.2.1.2, w_le (by omega) (by omega)]; omega
  | k + 1, i, b, hi, e => by
    have hb := W.2.1.2.2.1
    have h10 := W.2.2.1.2.1
    have ho := W.2.2.1.2.2 q (by omega)
    have ho2 := W.2.2.1.2.2 (q + 1) (by omega)
    rw [orF] at e
    have e1 : w (q + 1) - 1 = w q := w_sub (a := q + 1) (b := 1) (by omega)
    refine x_X10_explains_18 W.1 t W.2.1.1.1 W.2.1.1.2 _ _ _ _ ⟨fun h => ?_, fun _ => ⟨fun g => ?_, fun g => ?_⟩⟩
    · rw [W.2.1.2.1.2, w_le (by omega) (by omega)] at h; omega
    · rw [show xpP f Bs s q i = false by unfold xpP bitF; rw [decide_eq_false g]; rfl, Bool.or_false] at e
      rw [w_add1]
      exact p_expl_i W hq1 b9 X Y k (i + 1) b (by omega) e
    · rw [e1, w_nat (by omega), w_nat (by omega), ho.1, ho2.1]
      refine ⟨w_in (by omega) (by omega), w_in (by omega) (by omega), p_isAhead W.1 (W.2.1.2.2.2 i (by omega)) ho.2 ho2.2 ⟨rfl, rfl, _, rfl, fun g2 => ?_, fun g2 => ?_⟩⟩
      · rw [show xpP f Bs s q i = false by unfold xpP; rw [g2, Bool.and_false], Bool.or_false] at e
        rw [w_add1]
        exact p_expl_i W hq1 b9 X Y k (i + 1) b (by omega) e
      · rw [show xpP f Bs s q i = true by unfold xpP bitF; rw [g2, decide_eq_true g]; rfl, Bool.or_true] at e
        rw [w_add1]
        exact p_expl_i W hq1 b9 X Y k (i + 1) true (by omega) e
theorem p_expl_o {d t n N K s : Nat} {f : Nat → Nat} {Bs : BB} {M : mx_M} {Q : QQ} (W : wC M t n N K f Bs) :
    ∀ (k q : Nat), q + k = n - 1 → Q (.inl (some (.int (mx_b (allF (xpF K f Bs s) q k))))) M → mx_W m_X10_explains (d + 1 + 1) 2 [.ref 1, .int (w s), .int (w (q + 1)), .retAddr 0, .retAddr 0] [] M Q
  | 0, q, hi, hq => by
    have h10 := W.2.2.1.2.1
    refine x_X10_explains_2 W.1 t W.2.1.1.1 W.2.1.1.2 _ _ ⟨fun _ => hq, fun h => absurd ?_ h⟩
    rw [W.2.2.1.1, w_le (by omega) (by omega)]; omega
  | k + 1, q, hi, hq => by
    have h10 := W.2.2.1.2.1
    rw [allF] at hq
    refine x_X10_explains_2 W.1 t W.2.1.1.1 W.2.1.1.2 _ _ ⟨fun h => ?_, fun _ => ?_⟩
    · rw [W.2.2.1.1, w_le (by omega) (by omega)] at h; omega
    · refine p_expl_i W (by omega) (xpF K f Bs s q) (fun g => ?_) (fun g => ?_) K 0 false (Nat.zero_add K) rfl
      · rw [g, Bool.true_and] at hq
        exact p_expl_o W k (q + 1) (by omega) hq
      · rw [g, Bool.false_and] at hq
        exact hq
theorem p_explains {d t n N K s : Nat} {f : Nat → Nat} {Bs : BB} {M : mx_M} {Q : QQ} (W : wC M t n N K f Bs) (hq : Q (.inl (some (.int (mx_b (allF (xpF K f Bs s) 0 (n - 1)))))) M) : mx_W m_X10_explains (d + 1 + 1) 0 [.ref 1, .int (w s), .retAddr 0, .retAddr 0, .retAddr 0] [] M Q :=
  x_X10_explains_0 W.1 t W.2.1.1.1 W.2.1.1.2 _ (p_expl_o W (n - 1) 0 (Nat.zero_add _) hq)
theorem q_expl_i {d n N K s q : Nat} {f : Nat → Nat} {Bs : BB} {M0 : mx_M} {Q : QQ} (hq1 : q + 1 < n) (b9 : Bool)
    (X : ∀ M1, wM M1 n N K f Bs → lip mQ M0 M1 → b9 = true → mx_W m_X11_isExplained (d + 4 + 1) 2 [.ref 58, .int (w s), .int (w (q + 1)), .retAddr 0, .retAddr 0] [] M1 Q) (Y : ∀ M1, wM M1 n N K f Bs → lip mQ M0 M1 → b9 = false → Q (.inl (some (.int (mx_b false)))) M1) :
    ∀ (k i : Nat) (b : Bool) (M : mx_M), wM M n N K f Bs → lip mQ M0 M → i + k = K → orF (xpP f Bs s q) i k b = b9 → mx_W m_X11_isExplained (d + 4 + 1) 19 [.ref 58, .int (w s), .int (w q), .int (mx_b b), .int (w i)] [] M Q
  | 0, i, b, M, W, L, hi, e => by
    have hb := W.2.1.2.1
    refine x_X11_isExplained_19 W.1 _ _ _ _ ⟨fun _ => ⟨fun g => ?_, fun g => ?_⟩, fun h => absurd ?_ h⟩
    · rw [w_add1]; exact X M W L (e.symm.trans (mx_bn.mp g))
    · exact Y M W L (e.symm.trans (mx_b0.mp g))
    · rw [W.2.1.1.2, w_le (by omega) (by omega)]; omega
  | k + 1, i, b, M, W, L, hi, e => by
    have hb := W.2.1.2.1
    have h10 := W.2.2.2.1
    have ho := W.2.2.2.2 q (by omega)
    have ho2 := W.2.2.2.2 (q + 1) (by omega)
    rw [orF] at e
    refine x_X11_isExplained_19 W.1 _ _ _ _ ⟨fun h => ?_, fun _ => ⟨fun z => ?_, fun z => ⟨fun g => ?_, fun g => ?_⟩⟩⟩
    · rw [W.2.1.1.2, w_le (by omega) (by omega)] at h; omega
    · rw [mx_bn.mp z, Bool.true_or] at e
      rw [w_add1]
      exact q_expl_i hq1 b9 X Y k (i + 1) true M W L (by omega) e
    · rw [mx_b0.mp z, show xpP f Bs s q i = false by unfold xpP bitF; rw [decide_eq_false g]; rfl, Bool.or_false] at e
      rw [w_add1]
      exact q_expl_i hq1 b9 X Y k (i + 1) false M W L (by omega) e
    · rw [w_1add, w_2add, w_nat (by omega), w_nat (by omega), ho.1, show q + 2 = q + 1 + 1 from rfl, ho2.1]
      refine ⟨w_in (by omega) (by omega), w_in (by omega) (by omega), q_bef W (by omega) ho.2 ho2.2 (fun M1 W1 L1 => ⟨L1.1.1, L1.1.2.1, _, rfl, fun g2 => ?_, fun g2 => ?_⟩)⟩
      · rw [mx_b0.mp z, show xpP f Bs s q i = false by unfold xpP; rw [g2, Bool.and_false], Bool.or_false] at e
        rw [w_add1]
        exact q_expl_i hq1 b9 X Y k (i + 1) false M1 W1 (lip_trans L L1) (by omega) e
      · rw [show xpP f Bs s q i = true by unfold xpP bitF; rw [g2, decide_eq_true g]; rfl, Bool.or_true] at e
        rw [w_add1]
        exact q_expl_i hq1 b9 X Y k (i + 1) true M1 W1 (lip_trans L L1) (by omega) e
theorem q_expl_o {d n N K s : Nat} {f : Nat → Nat} {Bs : BB} {M0 : mx_M} {Q : QQ} (b9 : Bool) (hq : ∀ M1, wM M1 n N K f Bs → lip mQ M0 M1 → Q (.inl (some (.int (mx_b b9)))) M1) :
    ∀ (k q : Nat) (M : mx_M), wM M n N K f Bs → lip mQ M0 M → q + k = n - 1 → allF (xpF K f Bs s) q k = b9 → mx_W m_X11_isExplained (d + 4 + 1) 2 [.ref 58, .int (w s), .int (w q), .retAddr 0, .retAddr 0] [] M Q
  | 0, q, M, W, L, hi, e => by
    have h10 := W.2.2.2.1
    refine x_X11_isExplained_2 W.1 _ _ ⟨fun _ => ?_, fun h => absurd ?_ h⟩
    · have := hq M W L
      rw [← e] at this
      exact this
    · rw [W.2.2.1, w_add1, w_le (by omega) (by omega)]; omega
  | k + 1, q, M, W, L, hi, e => by
    have h10 := W.2.2.2.1
    rw [allF] at e
    refine x_X11_isExplained_2 W.1 _ _ ⟨fun h => ?_, fun _ => ?_⟩
    · rw [W.2.2.1, w_add1, w_le (by omega) (by omega)] at h; omega
    · refine q_expl_i (by omega) (xpF K f Bs s q) (fun M1 W1 L1 g => ?_) (fun M1 W1 L1 g => ?_) K 0 false M W L (Nat.zero_add K) rfl
      · rw [g, Bool.true_and] at e
        exact q_expl_o b9 hq k (q + 1) M1 W1 L1 (by omega) e
      · rw [g, Bool.false_and] at e
        rw [e]
        exact hq M1 W1 L1
theorem q_explains {d n N K s : Nat} {f : Nat → Nat} {Bs : BB} {M : mx_M} {Q : QQ} (W : wM M n N K f Bs) (hq : ∀ M1, wM M1 n N K f Bs → lip mQ M M1 → Q (.inl (some (.int (mx_b (allF (xpF K f Bs s) 0 (n - 1)))))) M1) : mx_W m_X11_isExplained (d + 4 + 1) 0 [.ref 58, .int (w s), .retAddr 0, .retAddr 0, .retAddr 0] [] M Q :=
  x_X11_isExplained_0 W.1 _ (q_expl_o _ hq (n - 1) 0 M W (lip_refl _ _) (Nat.zero_add _) rfl)
/-- a number, or -1 -/
def onW : Option Nat → Int32
  | none => -1
  | some c => w c
def xlT : Option Nat → Nat → Bool
  | none, _ => true
  | some c, i => decide (rb (w i) 0 10 0 < rb (w c) 0 10 0)
def xlF (n K : Nat) (f : Nat → Nat) (Bs : BB) : Nat → Nat → Option Nat → Option Nat
  | _, 0, b => b
  | i, k + 1, b => xlF n K f Bs (i + 1) k (if xlT b i && allF (xpF K f Bs i) 0 (n - 1) then some i else b)
theorem shl_K {K : Nat} (h : K ≤ 4) : (1 : Int32) <<< (w K &&& 31) = w (2 ^ K) := by
  rcases (show K = 0 ∨ K = 1 ∨ K = 2 ∨ K = 3 ∨ K = 4 by omega) with rfl | rfl | rfl | rfl | rfl <;> decide
theorem two_K {K : Nat} (h : K ≤ 4) : 2 ^ K ≤ 16 := by
  rcases (show K = 0 ∨ K = 1 ∨ K = 2 ∨ K = 3 ∨ K = 4 by omega) with rfl | rfl | rfl | rfl | rfl <;> decide
theorem p_expd_l {d t n N K : Nat} {f : Nat → Nat} {Bs : BB} {M : mx_M} {Q : QQ} (W : wC M t n N K f Bs) :
    ∀ (k i : Nat) (b : Option Nat), i + k = 2 ^ K → (∀ c, b = some c → c < 16) → Q (.inl (some (.int (onW (xlF n K f Bs i k b))))) M → mx_W m_X10_explained (d + 1 + 1 + 1) 14 [.ref 1, .int (onW b), .int (w (2 ^ K)), .int (w i)] [] M Q
  | 0, i, b, hi, hb, hq => by
    have h2 := two_K W.2.1.2.2.1.2
    refine x_X10_explained_14 W.1 t W.2.1.1.1 W.2.1.1.2 _ _ _ ⟨fun _ => hq, fun h => absurd ?_ h⟩
    rw [w_le (by omega) (by omega)]; omega
  | k + 1, i, b, hi, hb, hq => by
    have h2 := two_K W.2.1.2.2.1.2
    have hi16 : i < 16 := by omega
    rw [xlF] at hq
    have yes : (xlT b i && allF (xpF K f Bs i) 0 (n - 1)) = true → mx_W m_X10_explained (d + 1 + 1 + 1) 14 [.ref 1, .int (w i), .int (w (2 ^ K)), .int (w i + 1)] [] M Q := by
      intro g
      rw [if_pos g] at hq
      rw [w_add1]
      exact p_expd_l W k (i + 1) (some i) (by omega) (fun c e => by cases e; exact hi16) hq
    have no : ¬ (xlT b i && allF (xpF K f Bs i) 0 (n - 1)) = true → mx_W m_X10_explained (d + 1 + 1 + 1) 14 [.ref 1, .int (onW b), .int (w (2 ^ K)), .int (w i + 1)] [] M Q := by
      intro g
      rw [if_neg g] at hq
      rw [w_add1]
      exact p_expd_l W k (i + 1) b (by omega) hb hq
    refine x_X10_explained_14 W.1 t W.2.1.1.1 W.2.1.1.2 _ _ _ ⟨fun h => ?_, fun _ => ⟨fun e => p_explains W ⟨rfl, rfl, _, rfl, fun g => no ?_, fun g => yes ?_⟩, fun e => p_bitCount W.1 ⟨rfl, rfl, _, rfl, p_bitCount W.1 ⟨rfl, rfl, _, rfl, fun g => no ?_, fun g => p_explains W ⟨rfl, rfl, _, rfl, fun g2 => no ?_, fun g2 => yes ?_⟩⟩⟩⟩⟩
    · rw [w_le (by omega) (by omega)] at h; omega
    · rw [g, Bool.and_false]; decide
    · rw [g, Bool.and_true]
      cases b with
      | none => rfl
      | some c => exact absurd e (w_ne1 (by have := hb c rfl; omega))
    · cases b with
      | none => exact absurd rfl e
      | some c =>
        have hc := hb c rfl
        have b1 := bc_10 ⟨i, hi16⟩
        have b2 := bc_10 ⟨c, hc⟩
        have g : bcF (w c) ≤ bcF (w i) := g
        rw [b1, b2] at g
        rw [xlT, decide_eq_false (Int32.not_lt.mpr g)]
        exact fun z => by cases z
    · rw [g2, Bool.and_false]; decide
    · rw [g2, Bool.and_true]
      cases b with
      | none => rfl
      | some c =>
        have hc := hb c rfl
        have b1 := bc_10 ⟨i, hi16⟩
        have b2 := bc_10 ⟨c, hc⟩
        have g : ¬ bcF (w c) ≤ bcF (w i) := g
        rw [b1, b2] at g
        rw [xlT, decide_eq_true (Int32.not_le.mp g)]
theorem p_explained {d t n N K : Nat} {f : Nat → Nat} {Bs : BB} {M : mx_M} {Q : QQ} (W : wC M t n N K f Bs) (hq : Q (.inl (some (.int (onW (xlF n K f Bs 0 (2 ^ K) none))))) M) : mx_W m_X10_explained (d + 1 + 1 + 1) 0 [.ref 1, .retAddr 0, .retAddr 0, .retAddr 0] [] M Q := by
  refine x_X10_explained_0 W.1 t W.2.1.1.1 W.2.1.1.2 ?_
  rw [W.2.1.2.1.2, shl_K W.2.1.2.2.1.2]
  exact p_expd_l W (2 ^ K) 0 none (Nat.zero_add _) (fun c e => by cases e) hq
theorem q_expd_l {d n N K : Nat} {f : Nat → Nat} {Bs : BB} {M0 : mx_M} {Q : QQ} (v9 : Option Nat) (hq : ∀ M1, wM M1 n N K f Bs → lip mQ M0 M1 → Q (.inl (some (.int (onW v9)))) M1) :
    ∀ (k i : Nat) (b : Option Nat) (M : mx_M), wM M n N K f Bs → lip mQ M0 M → i + k = 2 ^ K → (∀ c, b = some c → c < 16) → xlF n K f Bs i k b = v9 → mx_W m_X11_explained (d + 4 + 1 + 1) 9 [.ref 58, .int (onW b), .int (w i)] [] M Q
  | 0, i, b, M, W, L, hi, hb, e => by
    have h2 := two_K W.2.1.2.1.2
    refine x_X11_explained_9 W.1 _ _ ⟨fun _ => ?_, fun h => absurd ?_ h⟩
    · have := hq M W L
      rw [← e] at this
      exact this
    · rw [W.2.1.1.2, shl_K W.2.1.2.1.2, w_le (by omega) (by omega)]; omega
  | k + 1, i, b, M, W, L, hi, hb, e9 => by
    have h2 := two_K W.2.1.2.1.2
    have hi16 : i < 16 := by omega
    rw [xlF] at e9
    have yes : (xlT b i && allF (xpF K f Bs i) 0 (n - 1)) = true → ∀ M1, wM M1 n N K f Bs → lip mQ M M1 → mx_W m_X11_explained (d + 4 + 1 + 1) 9 [.ref 58, .int (w i), .int (w i + 1)] [] M1 Q := by
      intro g M1 W1 L1
      rw [if_pos g] at e9
      rw [w_add1]
      exact q_expd_l v9 hq k (i + 1) (some i) M1 W1 (lip_trans L L1) (by omega) (fun c e => by cases e; exact hi16) e9
    have no : ¬ (xlT b i && allF (xpF K f Bs i) 0 (n - 1)) = true → ∀ M1, wM M1 n N K f Bs → lip mQ M M1 → mx_W m_X11_explained (d + 4 + 1 + 1) 9 [.ref 58, .int (onW b), .int (w i + 1)] [] M1 Q := by
      intro g M1 W1 L1
      rw [if_neg g] at e9
      rw [w_add1]
      exact q_expd_l v9 hq k (i + 1) b M1 W1 (lip_trans L L1) (by omega) hb e9
    refine x_X11_explained_9 W.1 _ _ ⟨fun h => ?_, fun _ => ⟨fun e => q_explains W (fun M1 W1 L1 => ⟨L1.1.1, L1.1.2.1, _, rfl, fun g => no ?_ M1 W1 L1, fun g => yes ?_ M1 W1 L1⟩), fun e => q_bits W.1 ⟨rfl, rfl, _, rfl, q_bits W.1 ⟨rfl, rfl, _, rfl, fun g => no ?_ M W (lip_refl _ _), fun g => q_explains W (fun M1 W1 L1 => ⟨L1.1.1, L1.1.2.1, _, rfl, fun g2 => no ?_ M1 W1 L1, fun g2 => yes ?_ M1 W1 L1⟩)⟩⟩⟩⟩
    · rw [W.2.1.1.2, shl_K W.2.1.2.1.2, w_le (by omega) (by omega)] at h; omega
    · rw [g, Bool.and_false]; decide
    · rw [g, Bool.and_true]
      cases b with
      | none => rfl
      | some c => exact absurd e (w_ne1 (by have := hb c rfl; omega))
    · cases b with
      | none => exact absurd rfl e
      | some c =>
        have g : rb (w c) 0 10 0 ≤ rb (w i) 0 10 0 := g
        rw [xlT, decide_eq_false (Int32.not_lt.mpr g)]
        exact fun z => by cases z
    · rw [g2, Bool.and_false]; decide
    · rw [g2, Bool.and_true]
      cases b with
      | none => rfl
      | some c =>
        have g : ¬ rb (w c) 0 10 0 ≤ rb (w i) 0 10 0 := g
        rw [xlT, decide_eq_true (Int32.not_le.mp g)]
theorem q_explained {d n N K : Nat} {f : Nat → Nat} {Bs : BB} {M : mx_M} {Q : QQ} (W : wM M n N K f Bs) (hq : ∀ M1, wM M1 n N K f Bs → lip mQ (mx_setI M 58 0 0) M1 → Q (.inl (some (.int (onW (xlF n K f Bs 0 (2 ^ K) none))))) M1) : mx_W m_X11_explained (d + 4 + 1 + 1) 0 [.ref 58, .retAddr 0, .retAddr 0] [] M Q :=
  x_X11_explained_0 W.1 (fun M1 e1 => by subst e1; exact q_expd_l _ hq (2 ^ K) 0 none _ (wM_0 W) (lip_refl _ _) (Nat.zero_add _) (fun c e => by cases e) rfl)
