/-! see-cards; the reader -/
def kyC (M : mx_M) (N K : Nat) (kl : Nat → Nat → Nat) (ks : Nat → Nat → Nat → Nat) : Prop := ∀ o x, o < K → x < N → slC M (10 * o + x) (kl o x) (ks o x)
def kyM (M : mx_M) (N K : Nat) (kl : Nat → Nat → Nat) (ks : Nat → Nat → Nat → Nat) : Prop := ∀ o x, o < K → x < N → slM M (10 * o + x) (kl o x) (ks o x)
theorem slM_of {P : Nat → Nat → Prop} {M M1 : mx_M} {z l : Nat} {k : Nat → Nat} (L : lip P M M1) (hP : ∀ a j, P a j → ¬ a = 85 ∧ ¬ a = 86) (A : slM M z l k) : slM M1 z l k := by
  refine ⟨A.1, A.2.1, ?_, fun i hi => ?_⟩
  · rw [(L.2 85 z (fun h => (hP _ _ h).1 rfl)).1]; exact A.2.2.1
  · rw [(L.2 86 _ (fun h => (hP _ _ h).2 rfl)).1]; exact A.2.2.2 i hi
theorem kyM_q {M M1 : mx_M} {N K : Nat} {kl : Nat → Nat → Nat} {ks : Nat → Nat → Nat → Nat} (L : lip mQ M M1) (A : kyM M N K kl ks) : kyM M1 N K kl ks :=
  fun o x ho hx => slM_of L (fun a j h => by rcases h with h | h | h | h | h | h <;> omega) (A o x ho hx)
theorem kyM_0 {M : mx_M} {v : Int32} {N K : Nat} {kl : Nat → Nat → Nat} {ks : Nat → Nat → Nat → Nat} (A : kyM M N K kl ks) : kyM (mx_setI M 58 0 v) N K kl ks :=
  fun o x ho hx => slM_of (P := fun k j => k = 58 ∧ j = 0) (lip_setI ⟨rfl, rfl⟩) (fun a j h => by omega) (A o x ho hx)
def fdF (n : Nat) (f : Nat → Nat) (Bs : BB) (c x : Nat) : Bool := (lkF f (Bs c) x 10 0 n 0).2
/-- e finds x, or has another key for it than c -/
def nsP (n : Nat) (f : Nat → Nat) (Bs : BB) (kl : Nat → Nat → Nat) (ks : Nat → Nat → Nat → Nat) (c x e : Nat) : Bool := fdF n f Bs e x || !smF (kl e x) (ks e x) (kl c x) (ks c x)
def nsF (n : Nat) (f : Nat → Nat) (Bs : BB) (kl : Nat → Nat → Nat) (ks : Nat → Nat → Nat → Nat) (x c : Nat) : Bool := !fdF n f Bs c x && allF (nsP n f Bs kl ks c x) 0 c
def seF (n K : Nat) (f : Nat → Nat) (Bs : BB) (kl : Nat → Nat → Nat) (ks : Nat → Nat → Nat → Nat) : Nat → Nat → Nat
  | _, 0 => 0
  | i, k + 1 => cnt (nsF n f Bs kl ks (f i)) 0 K + seF n K f Bs kl ks (i + 1) k
theorem p_needs_l {d t n N K c x : Nat} {f : Nat → Nat} {Bs : BB} {kl : Nat → Nat → Nat} {ks : Nat → Nat → Nat → Nat} {M : mx_M} {Q : QQ} (W : wC M t n N K f Bs) (Ky : kyC M N K kl ks) (hc : c < K) (hx : x < N) :
    ∀ (k i : Nat), i + k = c → Q (.inl (some (.int (mx_b (allF (nsP n f Bs kl ks c x) i k))))) M → mx_W m_X10_needsSeeCard (d + 1 + 1 + 1 + 1) 20 [.ref 1, .int (w c), .int (w x), .int (w i)] [] M Q
  | 0, i, hi, hq => by
    have hb := W.2.1.2.2.1
    refine x_X10_needsSeeCard_20 W.1 t W.2.1.1.1 W.2.1.1.2 _ _ _ ⟨fun _ => hq, fun h => absurd ?_ h⟩
    rw [w_le (by omega) (by omega)]; omega
  | k + 1, i, hi, hq => by
    have hb := W.2.1.2.2.1
    rw [allF] at hq
    refine x_X10_needsSeeCard_20 W.1 t W.2.1.1.1 W.2.1.1.2 _ _ _ ⟨fun h => ?_, fun _ => p_finds W.1 (Or.inl rfl) W.2.2.1 (W.2.1.2.2.2 i (by omega)) x hx ⟨rfl, rfl, _, rfl, fun g => ?_, fun g => p_sameKey W.1 (Ky i x (by omega) hx) (Ky c x hc hx) ⟨rfl, rfl, _, rfl, fun g2 => ?_, fun g2 => ?_⟩⟩⟩
    · rw [w_le (by omega) (by omega)] at h; omega
    · rw [show nsP n f Bs kl ks c x i = true by unfold nsP fdF; rw [g, Bool.true_or], Bool.true_and] at hq
      rw [w_add1]
      exact p_needs_l W Ky hc hx k (i + 1) (by omega) hq
    · rw [show nsP n f Bs kl ks c x i = true by unfold nsP fdF; rw [g2, Bool.not_false, Bool.or_true], Bool.true_and] at hq
      rw [w_add1]
      exact p_needs_l W Ky hc hx k (i + 1) (by omega) hq
    · rw [show nsP n f Bs kl ks c x i = false by unfold nsP fdF; rw [g, g2]; rfl, Bool.false_and] at hq
      exact hq
theorem p_needs {d t n N K c x : Nat} {f : Nat → Nat} {Bs : BB} {kl : Nat → Nat → Nat} {ks : Nat → Nat → Nat → Nat} {M : mx_M} {Q : QQ} (W : wC M t n N K f Bs) (Ky : kyC M N K kl ks) (hc : c < K) (hx : x < N) (hq : Q (.inl (some (.int (mx_b (nsF n f Bs kl ks x c))))) M) : mx_W m_X10_needsSeeCard (d + 1 + 1 + 1 + 1) 0 [.ref 1, .int (w c), .int (w x), .retAddr 0] [] M Q := by
  unfold nsF at hq
  refine x_X10_needsSeeCard_0 W.1 t W.2.1.1.1 W.2.1.1.2 _ _ (p_finds W.1 (Or.inl rfl) W.2.2.1 (W.2.1.2.2.2 c hc) x hx ⟨rfl, rfl, _, rfl, fun g => ?_, fun g => ?_⟩)
  · rw [show fdF n f Bs c x = false from g, Bool.not_false, Bool.true_and] at hq
    exact p_needs_l W Ky hc hx c 0 (Nat.zero_add c) hq
  · rw [show fdF n f Bs c x = true from g, Bool.not_true, Bool.false_and] at hq
    exact hq
theorem p_sees_i {d t n N K i : Nat} {f : Nat → Nat} {Bs : BB} {kl : Nat → Nat → Nat} {ks : Nat → Nat → Nat → Nat} {M : mx_M} {Q : QQ} (W : wC M t n N K f Bs) (Ky : kyC M N K kl ks) (hi : i < n) (s9 : Nat)
    (X : mx_W m_X10_sees (d + 1 + 1 + 1 + 1 + 1) 4 [.ref 1, .int (w s9), .int (w (i + 1)), .retAddr 0] [] M Q) :
    ∀ (k c s : Nat), c + k = K → s + cnt (nsF n f Bs kl ks (f i)) c k = s9 → mx_W m_X10_sees (d + 1 + 1 + 1 + 1 + 1) 17 [.ref 1, .int (w s), .int (w i), .int (w c)] [] M Q
  | 0, c, s, hc, e => by
    have hb := W.2.1.2.2.1
    have e : s = s9 := e
    subst e
    refine x_X10_sees_17 W.1 t W.2.1.1.1 W.2.1.1.2 _ _ _ ⟨fun _ => ?_, fun h => absurd ?_ h⟩
    · rw [w_add1]; exact X
    · rw [W.2.1.2.1.2, w_le (by omega) (by omega)]; omega
  | k + 1, c, s, hc, e => by
    have hb := W.2.1.2.2.1
    have h10 := W.2.2.1.2.1
    have ho := W.2.2.1.2.2 i hi
    refine x_X10_sees_17 W.1 t W.2.1.1.1 W.2.1.1.2 _ _ _ ⟨fun h => ?_, fun _ => ?_⟩
    · rw [W.2.1.2.1.2, w_le (by omega) (by omega)] at h; omega
    · rw [w_nat (by omega), ho.1]
      refine ⟨w_in (by omega) (by omega), p_needs W Ky (by omega) ho.2 ⟨rfl, rfl, _, rfl, fun g => ?_, fun g => ?_⟩⟩
      · rw [cnt_no (by rw [g]; decide)] at e
        rw [w_add1]
        exact p_sees_i W Ky hi s9 X k (c + 1) s (by omega) e
      · rw [cnt_yes g] at e
        rw [w_add1, w_add1]
        exact p_sees_i W Ky hi s9 X k (c + 1) (s + 1) (by omega) (by omega)
theorem p_sees_o {d t n N K : Nat} {f : Nat → Nat} {Bs : BB} {kl : Nat → Nat → Nat} {ks : Nat → Nat → Nat → Nat} {M : mx_M} {Q : QQ} (W : wC M t n N K f Bs) (Ky : kyC M N K kl ks) :
    ∀ (k i s : Nat), i + k = n → Q (.inl (some (.int (w (s + seF n K f Bs kl ks i k))))) M → mx_W m_X10_sees (d + 1 + 1 + 1 + 1 + 1) 4 [.ref 1, .int (w s), .int (w i), .retAddr 0] [] M Q
  | 0, i, s, hi, hq => by
    have h10 := W.2.2.1.2.1
    refine x_X10_sees_4 W.1 t W.2.1.1.1 W.2.1.1.2 _ _ ⟨fun _ => hq, fun h => absurd ?_ h⟩
    rw [W.2.2.1.1, w_le (by omega) (by omega)]; omega
  | k + 1, i, s, hi, hq => by
    have h10 := W.2.2.1.2.1
    rw [seF, ← Nat.add_assoc] at hq
    refine x_X10_sees_4 W.1 t W.2.1.1.1 W.2.1.1.2 _ _ ⟨fun h => ?_, fun _ => ?_⟩
    · rw [W.2.2.1.1, w_le (by omega) (by omega)] at h; omega
    · exact p_sees_i W Ky (by omega) _ (p_sees_o W Ky k (i + 1) _ (by omega) hq) K 0 s (Nat.zero_add K) rfl
theorem p_sees {d t n N K : Nat} {f : Nat → Nat} {Bs : BB} {kl : Nat → Nat → Nat} {ks : Nat → Nat → Nat → Nat} {M : mx_M} {Q : QQ} (W : wC M t n N K f Bs) (Ky : kyC M N K kl ks) (hq : Q (.inl (some (.int (w (seF n K f Bs kl ks 0 n))))) M) : mx_W m_X10_sees (d + 1 + 1 + 1 + 1 + 1) 0 [.ref 1, .retAddr 0, .retAddr 0, .retAddr 0] [] M Q :=
  x_X10_sees_0 W.1 t W.2.1.1.1 W.2.1.1.2 (p_sees_o W Ky n 0 0 (Nat.zero_add n) (by rw [Nat.zero_add]; exact hq))
theorem q_sees_e {d n N K i c : Nat} {f : Nat → Nat} {Bs : BB} {kl : Nat → Nat → Nat} {ks : Nat → Nat → Nat → Nat} {M0 : mx_M} {Q : QQ} (Ky : kyM M0 N K kl ks) (hc : c < K) (hx : f i < N) (s : Nat) (b9 : Bool)
    (X : ∀ M1, wM M1 n N K f Bs → lip mQ M0 M1 → mx_W m_X11_sees (d + 4 + 1 + 1) 31 [.ref 58, .int (w (s + if b9 then 1 else 0)), .int (w i), .int (w (f i)), .int (w (c + 1)), .retAddr 0, .retAddr 0] [] M1 Q) :
    ∀ (k e : Nat) (b : Bool) (M : mx_M), wM M n N K f Bs → lip mQ M0 M → e + k = c → (b && allF (nsP n f Bs kl ks c (f i)) e k) = b9 → mx_W m_X11_sees (d + 4 + 1 + 1) 63 [.ref 58, .int (w s), .int (w i), .int (w (f i)), .int (w c), .int (mx_b b), .int (w e)] [] M Q
  | 0, e, b, M, W, L, he, e1 => by
    have hb := W.2.1.2.1
    have H := X M W L
    rw [allF, Bool.and_true] at e1
    subst e1
    refine x_X11_sees_63 W.1 _ _ _ _ _ _ ⟨fun _ => ⟨fun g => ?_, fun g => ?_⟩, fun h => absurd ?_ h⟩
    · rw [mx_b0.mp g] at H
      rw [w_add1, Int32.add_zero]
      exact H
    · rw [mx_bn.mp g] at H
      rw [w_add1, w_add1]
      exact H
    · rw [w_le (by omega) (by omega)]; omega
  | k + 1, e, b, M, W, L, he, e1 => by
    have hb := W.2.1.2.1
    rw [allF] at e1
    refine x_X11_sees_63 W.1 _ _ _ _ _ _ ⟨fun h => ?_, fun _ => ⟨fun g => ?_, fun g => q_looks W (by omega) hx (fun M1 W1 L1 _ => ⟨L1.1.1, L1.1.2.1, _, rfl, fun g2 => ?_, fun g2 => q_areAlike W1.1 (kyM_q (lip_trans L L1) Ky c (f i) hc hx) (kyM_q (lip_trans L L1) Ky e (f i) (by omega) hx) ⟨rfl, rfl, _, rfl, fun g3 => ?_, fun g3 => ?_⟩⟩)⟩⟩
    · rw [w_le (by omega) (by omega)] at h; omega
    · rw [mx_b0.mp g, Bool.false_and] at e1
      rw [w_add1]
      exact q_sees_e Ky hc hx s b9 X k (e + 1) false M W L (by omega) (by rw [Bool.false_and]; exact e1)
    · rw [mx_bn.mp g, show nsP n f Bs kl ks c (f i) e = true by unfold nsP fdF; rw [g2, Bool.true_or], Bool.true_and, Bool.true_and] at e1
      rw [w_add1]
      exact q_sees_e Ky hc hx s b9 X k (e + 1) true M1 W1 (lip_trans L L1) (by omega) (by rw [Bool.true_and]; exact e1)
    · rw [smF_comm] at g3
      rw [show nsP n f Bs kl ks c (f i) e = false by unfold nsP fdF; rw [g2, g3]; rfl, Bool.false_and, Bool.and_false] at e1
      rw [w_add1]
      exact q_sees_e Ky hc hx s b9 X k (e + 1) false M1 W1 (lip_trans L L1) (by omega) (by rw [Bool.false_and]; exact e1)
    · rw [smF_comm] at g3
      rw [mx_bn.mp g, show nsP n f Bs kl ks c (f i) e = true by unfold nsP fdF; rw [g3, Bool.not_false, Bool.or_true], Bool.true_and, Bool.true_and] at e1
      rw [w_add1]
      exact q_sees_e Ky hc hx s b9 X k (e + 1) true M1 W1 (lip_trans L L1) (by omega) (by rw [Bool.true_and]; exact e1)
theorem q_sees_i {d n N K i : Nat} {f : Nat → Nat} {Bs : BB} {kl : Nat → Nat → Nat} {ks : Nat → Nat → Nat → Nat} {M0 : mx_M} {Q : QQ} (Ky : kyM M0 N K kl ks) (hx : f i < N) (s9 : Nat)
    (X : ∀ M1, wM M1 n N K f Bs → lip mQ M0 M1 → mx_W m_X11_sees (d + 4 + 1 + 1) 9 [.ref 58, .int (w s9), .int (w (i + 1)), .retAddr 0, .retAddr 0, .retAddr 0, .retAddr 0] [] M1 Q) :
    ∀ (k c s : Nat) (M : mx_M), wM M n N K f Bs → lip mQ M0 M → c + k = K → s + cnt (nsF n f Bs kl ks (f i)) c k = s9 → mx_W m_X11_sees (d + 4 + 1 + 1) 31 [.ref 58, .int (w s), .int (w i), .int (w (f i)), .int (w c), .retAddr 0, .retAddr 0] [] M Q
  | 0, c, s, M, W, L, hc, e => by
    have hb := W.2.1.2.1
    have e : s = s9 := e
    subst e
    refine x_X11_sees_31 W.1 _ _ _ _ ⟨fun _ => ?_, fun h => absurd ?_ h⟩
    · rw [w_add1]; exact X M W L
    · rw [W.2.1.1.2, w_le (by omega) (by omega)]; omega
  | k + 1, c, s, M, W, L, hc, e => by
    have hb := W.2.1.2.1
    refine x_X11_sees_31 W.1 _ _ _ _ ⟨fun h => ?_, fun _ => q_looks W (by omega) hx (fun M1 W1 L1 _ => ⟨L1.1.1, L1.1.2.1, _, rfl, fun g => ?_, fun g => ?_⟩)⟩
    · rw [W.2.1.1.2, w_le (by omega) (by omega)] at h; omega
    · refine q_sees_e Ky (by omega) hx s (nsF n f Bs kl ks (f i) c) (fun M2 W2 L2 => q_sees_i Ky hx s9 X k (c + 1) _ M2 W2 L2 (by omega) ?_) c 0 true M1 W1 (lip_trans L L1) (Nat.zero_add c) ?_
      · rw [cnt] at e
        omega
      · unfold nsF
        rw [show fdF n f Bs c (f i) = false from g]
        rfl
    · rw [cnt_no (by unfold nsF; rw [show fdF n f Bs c (f i) = true from g, Bool.not_true, Bool.false_and]; decide)] at e
      rw [w_add1]
      exact q_sees_i Ky hx s9 X k (c + 1) s M1 W1 (lip_trans L L1) (by omega) e
theorem q_sees_o {d n N K : Nat} {f : Nat → Nat} {Bs : BB} {kl : Nat → Nat → Nat} {ks : Nat → Nat → Nat → Nat} {M0 : mx_M} {Q : QQ} (Ky : kyM M0 N K kl ks) (s9 : Nat)
    (hq : ∀ M1, wM M1 n N K f Bs → lip mQ M0 M1 → Q (.inl (some (.int (w s9)))) M1) :
    ∀ (k i s : Nat) (M : mx_M), wM M n N K f Bs → lip mQ M0 M → i + k = n → s + seF n K f Bs kl ks i k = s9 → mx_W m_X11_sees (d + 4 + 1 + 1) 9 [.ref 58, .int (w s), .int (w i), .retAddr 0, .retAddr 0, .retAddr 0, .retAddr 0] [] M Q
  | 0, i, s, M, W, L, hi, e => by
    have h10 := W.2.2.2.1
    have e : s = s9 := e
    subst e
    refine x_X11_sees_9 W.1 _ _ ⟨fun _ => hq M W L, fun h => absurd ?_ h⟩
    rw [W.2.2.1, w_le (by omega) (by omega)]; omega
  | k + 1, i, s, M, W, L, hi, e => by
    have h10 := W.2.2.2.1
    have ho := W.2.2.2.2 i (by omega)
    rw [seF] at e
    refine x_X11_sees_9 W.1 _ _ ⟨fun h => ?_, fun _ => ?_⟩
    · rw [W.2.2.1, w_le (by omega) (by omega)] at h; omega
    · rw [w_1add, w_nat (by omega), ho.1]
      exact ⟨w_in (by omega) (by omega), q_sees_i Ky ho.2 _ (fun M1 W1 L1 => q_sees_o Ky s9 hq k (i + 1) _ M1 W1 L1 (by omega) (by omega)) K 0 s M W L (Nat.zero_add K) rfl⟩
theorem q_sees {d n N K : Nat} {f : Nat → Nat} {Bs : BB} {kl : Nat → Nat → Nat} {ks : Nat → Nat → Nat → Nat} {M : mx_M} {Q : QQ} (W : wM M n N K f Bs) (Ky : kyM M N K kl ks)
    (hq : ∀ M1, wM M1 n N K f Bs → lip mQ (mx_setI M 58 0 0) M1 → Q (.inl (some (.int (w (seF n K f Bs kl ks 0 n))))) M1) : mx_W m_X11_sees (d + 4 + 1 + 1) 0 [.ref 58, .retAddr 0, .retAddr 0, .retAddr 0, .retAddr 0, .retAddr 0, .retAddr 0] [] M Q :=
  x_X11_sees_0 W.1 (fun M1 e1 => by subst e1; exact q_sees_o (kyM_0 Ky) _ hq n 0 0 _ (wM_0 W) (lip_refl _ _) (Nat.zero_add n) (Nat.zero_add _))
/-! the reader -/
theorem le_lt1 {v : Int32} {a : Nat} (ha : a < 100000) : v ≤ w a ↔ v < w (a + 1) := by
  rw [Int32.le_iff_toInt_le, Int32.lt_iff_toInt_lt, w_int (by omega), w_int (by omega)]; omega
def rdP (kl : Nat → Nat → Nat) (ks : Nat → Nat → Nat → Nat) (o x n : Nat) : Nat → Bool := fun y => baF n (kl o x) (ks o x) (kl o y) (ks o y)
theorem p_read_l {d t n N K o x m : Nat} {f : Nat → Nat} {Bs : BB} {kl : Nat → Nat → Nat} {ks : Nat → Nat → Nat → Nat} {M : mx_M} {Q : QQ} (W : wC M t n N K f Bs) (Ky : kyC M N K kl ks) (ho : o < K) (hx : x < N) (hm : m < 1000) :
    ∀ (k i : Nat) (s : Int32), i + k = N → Q (.inl (some (.int (btF (rdP kl ks o x m) i k s)))) M → mx_W m_X10_reader (d + 1 + 1 + 1) 37 [.ref 1, .int (w o), .int (w x), .int (w m), .int s, .int (w i)] [] M Q
  | 0, i, s, hi, hq => by
    have hb := W.2.1.2.2.1
    refine x_X10_reader_37 W.1 t W.2.1.1.1 W.2.1.1.2 _ _ _ _ _ ⟨fun _ => hq, fun h => absurd ?_ h⟩
    rw [W.2.1.2.1.1, w_le (by omega) (by omega)]; omega
  | k + 1, i, s, hi, hq => by
    have hb := W.2.1.2.2.1
    rw [btF] at hq
    refine x_X10_reader_37 W.1 t W.2.1.1.1 W.2.1.1.2 _ _ _ _ _ ⟨fun h => ?_, fun _ => p_begins W.1 (Ky o x ho hx) (Ky o i ho (by omega)) hm ⟨rfl, rfl, _, rfl, fun g => ?_, fun g => ?_⟩⟩
    · rw [W.2.1.2.1.1, w_le (by omega) (by omega)] at h; omega
    · rw [show rdP kl ks o x m i = false from g, if_neg (by decide)] at hq
      rw [w_add1]
      exact p_read_l W Ky ho hx hm k (i + 1) _ (by omega) hq
    · rw [show rdP kl ks o x m i = true from g, if_pos rfl] at hq
      rw [w_add1]
      exact p_read_l W Ky ho hx hm k (i + 1) _ (by omega) hq
theorem p_reader {d t n N K : Nat} {v1 v2 v3 : Int32} {f : Nat → Nat} {Bs : BB} {kl : Nat → Nat → Nat} {ks : Nat → Nat → Nat → Nat} {M : mx_M} {Q : QQ} (W : wC M t n N K f Bs) (Ky : kyC M N K kl ks) (hr : rmE M)
    (h1 : ∀ o x m, o < K → x < N → m < 10 → v1 = w o → v2 = w x → v3 = w m → Q (.inl (some (.int (btF (rdP kl ks o x m) 0 N 0)))) M)
    (h2 : ¬ (isIn v1 K ∧ isIn v2 N) → Q (.inr "java/util/NoSuchElementException") (mx_thM M)) (h3 : isIn v1 K → isIn v2 N → ¬ isIn v3 10 → Q (.inr "java/lang/IllegalArgumentException") (mx_thM M)) :
    mx_W m_X10_reader (d + 1 + 1 + 1) 0 [.ref 1, .int v1, .int v2, .int v3, .retAddr 0, .retAddr 0] [] M Q := by
  have hb := W.2.1.2.2.1
  refine x_X10_reader_0 W.1 t W.2.1.1.1 W.2.1.1.2 _ _ _ (p_needClerk W.1 W.2.1.1.1 W.2.1.1.2 W.2.1.2.1.2 (by omega) hr (fun g => ⟨rfl, rfl, Or.inl ⟨rfl, p_needCard W.1 W.2.1.1.1 W.2.1.1.2 W.2.1.2.1.1 (by omega) hr (fun g2 => ⟨rfl, rfl, Or.inl ⟨rfl, fun z => ?_, fun z => ⟨fun z2 => ?_, fun z2 => ?_⟩⟩⟩) (fun g2 => ⟨rfl, rfl, Or.inr ⟨_, rfl, h2 (fun z => g2 z.2)⟩⟩)⟩⟩) (fun g => ⟨rfl, rfl, Or.inr ⟨_, rfl, h2 (fun z => g z.1)⟩⟩))
  · exact ⟨hr.1, hr.2, h3 g g2 (isIn_neg (by decide) z)⟩
  · rw [show (9 : Int32) = w 9 from rfl, le_lt1 (by decide)] at z2
    obtain ⟨m, hm, rfl⟩ := isIn_of (n := 10) (by decide) z z2
    obtain ⟨o, ho, rfl⟩ := g
    obtain ⟨x, hx, rfl⟩ := g2
    exact p_read_l W Ky ho hx (by omega) N 0 0 (Nat.zero_add N) (h1 o x m ho hx hm rfl rfl rfl)
  · rw [show (9 : Int32) = w 9 from rfl, le_lt1 (by decide)] at z2
    exact ⟨hr.1, hr.2, h3 g g2 (isIn_big (by decide) z2)⟩
theorem q_read_i {d n N K o x y m : Nat} {s : Int32} {f : Nat → Nat} {Bs : BB} {l l2 : Nat} {k k2 : Nat → Nat} {M : mx_M} {Q : QQ} (W : wM M n N K f Bs) (A : slM M (10 * o + x) l k) (A2 : slM M (10 * o + y) l2 k2)
    (X : mx_W m_X11_reader (d + 1) 76 [.ref 58, .int (w o), .retAddr 0, .retAddr 0, .int (w (10 * o + x)), .int (w (mn m l)), .int (if baF m l k l2 k2 then s ||| (1 <<< (w y &&& 31)) else s), .int (w (y + 1)), .retAddr 0, .retAddr 0, .retAddr 0] [] M Q) :
    ∀ (c i : Nat) (b : Bool), i + c = mn m l → (b = false → baF m l k l2 k2 = false) → (b = true → mn m l ≤ l2 ∧ ∀ j, j < i → k j = k2 j) → mx_W m_X11_reader (d + 1) 116 [.ref 58, .int (w o), .retAddr 0, .retAddr 0, .int (w (10 * o + x)), .int (w (mn m l)), .int s, .int (w y), .int (w (10 * o + y)), .int (mx_b b), .int (w i)] [] M Q
  | 0, i, b, hi, e1, e2 => by
    have h1 := A.2.1
    have hm := mn_le m l
    refine x_X11_reader_116 W.1 _ _ _ _ _ _ _ _ ⟨fun _ => ⟨fun g => ?_, fun g => ?_⟩, fun h => absurd ?_ h⟩
    · rw [e1 (mx_b0.mp g), if_neg (by decide)] at X
      rw [w_add1, Int32.or_zero]; exact X
    · have g2 := e2 (mx_bn.mp g)
      rw [baF_iff.mpr ⟨g2.1, fun j hj => g2.2 j (by omega)⟩, if_pos rfl] at X
      rw [w_add1]; exact X
    · rw [w_le (by omega) (by omega)]; omega
  | c + 1, i, b, hi, e1, e2 => by
    have h1 := A.2.1
    have h2 := A.1
    have h3 := A2.1
    have h4 := A2.2.1
    have hm := mn_le m l
    refine x_X11_reader_116 W.1 _ _ _ _ _ _ _ _ ⟨fun h => ?_, fun _ => ⟨fun g => ⟨fun _ => ?_, fun z => absurd g z⟩, fun g => ?_⟩⟩
    · rw [w_le (by omega) (by omega)] at h; omega
    · rw [e1 (mx_b0.mp g), if_neg (by decide)] at X
      rw [w_add1, Int32.or_zero]; exact X
    · have g2 := e2 (mx_bn.mp g)
      have o1 := A.2.2.2 i (by omega)
      have o2 := A2.2.2.2 i (by omega)
      rw [w_36, w_36, w_nat (by omega), w_nat (by omega), o1.1, o2.1, w_inj (by omega) (by omega)]
      refine ⟨w_in (by omega) (by omega), w_in (by omega) (by omega), fun z => ?_, fun z => ?_⟩
      · rw [w_add1]
        refine q_read_i W A A2 X c (i + 1) false (by omega) (fun _ => ?_) (fun h => by cases h)
        cases h : baF m l k l2 k2
        · rfl
        · exact absurd ((baF_iff.mp h).2 i (by omega)) z
      · rw [w_add1]
        refine q_read_i W A A2 X c (i + 1) true (by omega) (fun h => by cases h) (fun _ => ⟨g2.1, fun j hj => ?_⟩)
        by_cases e : j = i
        · rw [e]; exact z
        · exact g2.2 j (by omega)
theorem q_read_o {d n N K o x m : Nat} {f : Nat → Nat} {Bs : BB} {kl : Nat → Nat → Nat} {ks : Nat → Nat → Nat → Nat} {M : mx_M} {Q : QQ} (W : wM M n N K f Bs) (Ky : kyM M N K kl ks) (ho : o < K) (hx : x < N) :
    ∀ (k i : Nat) (s : Int32), i + k = N → Q (.inl (some (.int (btF (rdP kl ks o x m) i k s)))) M → mx_W m_X11_reader (d + 1) 76 [.ref 58, .int (w o), .retAddr 0, .retAddr 0, .int (w (10 * o + x)), .int (w (mn m (kl o x))), .int s, .int (w i), .retAddr 0, .retAddr 0, .retAddr 0] [] M Q
  | 0, i, s, hi, hq => by
    have hb := W.2.1.2.1
    refine x_X11_reader_76 W.1 _ _ _ _ _ ⟨fun _ => hq, fun h => absurd ?_ h⟩
    rw [W.2.1.1.1, w_le (by omega) (by omega)]; omega
  | k + 1, i, s, hi, hq => by
    have hb := W.2.1.2.1
    have A := Ky o x ho hx
    have A2 := Ky o i ho (by omega)
    have h1 := A.2.1
    have h3 := A2.1
    have h4 := A2.2.1
    have hm := mn_le m (kl o x)
    rw [btF] at hq
    refine x_X11_reader_76 W.1 _ _ _ _ _ ⟨fun h => ?_, fun _ => ?_⟩
    · rw [W.2.1.1.1, w_le (by omega) (by omega)] at h; omega
    · rw [w_10, w_nat (by omega), A2.2.2.1, w_lt (by omega) (by omega)]
      have H := q_read_o (d := d) W Ky ho hx k (i + 1) _ (by omega) hq
      refine ⟨w_in (by omega) (by omega), fun g => ?_, fun g => ?_⟩
      · refine q_read_i W A A2 H _ 0 false (Nat.zero_add _) (fun _ => ?_) (fun h => by cases h)
        cases h : baF m (kl o x) (ks o x) (kl o i) (ks o i)
        · rfl
        · have := (baF_iff.mp h).1; omega
      · exact q_read_i W A A2 H _ 0 true (Nat.zero_add _) (fun h => by cases h) (fun _ => ⟨by omega, fun j hj => by omega⟩)
theorem q_reader {d n N K : Nat} {v1 v2 v3 : Int32} {f : Nat → Nat} {Bs : BB} {kl : Nat → Nat → Nat} {ks : Nat → Nat → Nat → Nat} {M : mx_M} {Q : QQ} (W : wM M n N K f Bs) (Ky : kyM M N K kl ks)
    (h1 : ∀ o x m, o < K → x < N → m < 10 → v1 = w o → v2 = w x → v3 = w m → Q (.inl (some (.int (btF (rdP kl ks o x m) 0 N 0)))) (mx_setI M 58 0 0))
    (h2 : ¬ (isIn v1 K ∧ isIn v2 N) → Q (.inl (some (.int 0))) (mx_setI (mx_setI M 58 0 0) 58 0 1)) (h3 : isIn v1 K → isIn v2 N → ¬ isIn v3 10 → Q (.inl (some (.int 0))) (mx_setI (mx_setI M 58 0 0) 58 0 2)) :
    mx_W m_X11_reader (d + 1 + 1) 0 [.ref 58, .int v1, .int v2, .int v3, .retAddr 0, .retAddr 0, .retAddr 0, .retAddr 0, .retAddr 0, .retAddr 0, .retAddr 0] [] M Q :=
  x_X11_reader_0 W.1 _ _ _ (fun M1 e1 => by
    subst e1
    have W1 := wM_0 (v := 0) W
    have Ky1 := kyM_0 (v := 0) Ky
    refine q_isClerk W1 I_eq (fun g => ⟨rfl, rfl, _, rfl, fun z => (by cases z), fun _ => q_isCard W1 I_eq (fun g2 => ⟨rfl, rfl, _, rfl, fun z => (by cases z), fun _ => x_X11_within_0 W1.1 _ _ _ ⟨fun z => ⟨rfl, rfl, false, rfl, p_rightF W1.1 I_eq (by decide) ⟨rfl, rfl, _, rfl, fun z => (by cases z), fun _ => h3 g g2 (isIn_neg (by decide) z)⟩⟩, fun z => ⟨fun z2 => ⟨rfl, rfl, false, rfl, p_rightF W1.1 I_eq (by decide) ⟨rfl, rfl, _, rfl, fun z => (by cases z), fun _ => h3 g g2 (isIn_big (by decide) ?_)⟩⟩, fun z2 => ⟨rfl, rfl, true, rfl, p_rightT W1.1 I_eq ⟨rfl, rfl, _, rfl, fun _ => ?_, fun z => (by cases z)⟩⟩⟩⟩⟩) (fun g2 => ⟨rfl, rfl, _, rfl, fun _ => h2 (fun z => g2 z.2), fun z => (by cases z)⟩)⟩) (fun g => ⟨rfl, rfl, _, rfl, fun _ => h2 (fun z => g z.1), fun z => (by cases z)⟩)
    · rw [← le_lt1 (a := 9) (by decide)]
      exact Int32.not_le.mpr z2
    · have z3 : v3 ≤ w 9 := Int32.not_lt.mp z2
      rw [le_lt1 (by decide)] at z3
      obtain ⟨m, hm, rfl⟩ := isIn_of (n := 10) (by decide) z z3
      obtain ⟨o, ho, rfl⟩ := g
      obtain ⟨x, hx, rfl⟩ := g2
      have A := Ky1 o x ho hx
      have a1 := A.1
      have a2 := A.2.1
      have H := q_read_o (d := d + 1) W1 Ky1 ho hx (m := m) N 0 0 (Nat.zero_add N) (h1 o x m ho hx hm rfl rfl rfl)
      unfold mn at H
      rw [w_10, w_nat (by omega), A.2.2.1]
      refine ⟨w_in (by omega) (by omega), fun z => ⟨w_in (by omega) (by omega), ?_⟩, fun z => ?_⟩
      · rw [w_le (by omega) (by omega)] at z
        by_cases e : kl o x < m
        · rw [if_pos e] at H; exact H
        · rw [if_neg e, show m = kl o x by omega] at H; exact H
      · rw [w_le (by omega) (by omega)] at z
        rw [if_neg (show ¬ kl o x < m by omega)] at H; exact H)
