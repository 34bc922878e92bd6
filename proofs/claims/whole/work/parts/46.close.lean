/-! the closest two clerks; what a rule matters -/
abbrev CS := Option (Nat × Nat)
def clS (m b : Nat) : CS → CS
  | none => some (m, b)
  | some (m2, b2) => if m < m2 then some (m, b) else some (m2, b2)
def clI (N : Nat) (Bs : BB) (i : Nat) : Nat → Nat → CS → CS
  | _, 0, s => s
  | j, k + 1, s => clI N Bs i (j + 1) k (clS (cpl (apt Bs i j) 0 N) (10 * i + j) s)
def clO (N K : Nat) (Bs : BB) : Nat → Nat → CS → CS
  | _, 0, s => s
  | i, k + 1, s => clO N K Bs (i + 1) k (clI N Bs i (i + 1) k s)
def csM : CS → Int32
  | none => -1
  | some (m, _) => w m
def csB : CS → Int32
  | none => -1
  | some (_, b) => w b
def csG (s : CS) : Prop := ∀ m b, s = some (m, b) → m ≤ 100 ∧ b < 100
theorem csG_S {m b : Nat} {s : CS} (hm : m ≤ 100) (hb : b < 100) (h : csG s) : csG (clS m b s) := by
  intro m2 b2 e
  cases s with
  | none => cases e; exact ⟨hm, hb⟩
  | some z =>
    obtain ⟨m9, b9⟩ := z
    rw [clS] at e
    split at e
    · cases e; exact ⟨hm, hb⟩
    · exact h m2 b2 e
def clA (v : Int32) (s : CS) : Int32 := if v = 0 then csM s else csB s
theorem p_close_i {d t n N K i : Nat} {v : Int32} {f : Nat → Nat} {Bs : BB} {M : mx_M} {Q : QQ} (W : wC M t n N K f Bs) (hi : i < K) (s9 : CS)
    (X : csG s9 → mx_W m_X10_closest (d + 1 + 1 + 1 + 1) 11 [.ref 1, .int v, .int (csM s9), .int (csB s9), .int (w (i + 1)), .retAddr 0, .retAddr 0] [] M Q) :
    ∀ (k j : Nat) (s : CS), j + k = K → csG s → clI N Bs i j k s = s9 → mx_W m_X10_closest (d + 1 + 1 + 1 + 1) 29 [.ref 1, .int v, .int (csM s), .int (csB s), .int (w i), .int (w j), .retAddr 0] [] M Q
  | 0, j, s, hj, hs, e => by
    have hb := W.2.1.2.2.1
    have e : s = s9 := e
    subst e
    refine x_X10_closest_29 W.1 t W.2.1.1.1 W.2.1.1.2 _ _ _ _ _ ⟨fun _ => ?_, fun h => absurd ?_ h⟩
    · rw [w_add1]; exact X hs
    · rw [W.2.1.2.1.2, w_le (by omega) (by omega)]; omega
  | k + 1, j, s, hj, hs, e => by
    have hb := W.2.1.2.2.1
    have h9 := cpl_le (apt Bs i j) N 0 hb.1
    rw [clI] at e
    have H := p_close_i (d := d) W hi s9 X k (j + 1) _ (by omega) (csG_S (m := cpl (apt Bs i j) 0 N) (b := 10 * i + j) (by omega) (by omega) hs) e
    refine x_X10_closest_29 W.1 t W.2.1.1.1 W.2.1.1.2 _ _ _ _ _ ⟨fun h => ?_, fun _ => p_couplesApart W.1 W.2.1.1.1 W.2.1.1.2 W.2.1.2.1.1 hb.1 (W.2.1.2.2.2 i hi) (W.2.1.2.2.2 j (by omega)) ⟨rfl, rfl, _, rfl, ?_⟩⟩
    · rw [W.2.1.2.1.2, w_le (by omega) (by omega)] at h; omega
    · show (_ → _) ∧ (_ → (csM s ≤ w (cpl (apt Bs i j) 0 N) → _) ∧ (¬ csM s ≤ w (cpl (apt Bs i j) 0 N) → _))
      rw [w_add1, w_10]
      cases s with
      | none => exact ⟨fun _ => H, fun z => absurd rfl z⟩
      | some z9 =>
        obtain ⟨m2, b2⟩ := z9
        have h2 := hs m2 b2 rfl
        rw [clS] at H
        show (_ → _) ∧ (_ → (w m2 ≤ w (cpl (apt Bs i j) 0 N) → _) ∧ (¬ w m2 ≤ w (cpl (apt Bs i j) 0 N) → _))
        rw [w_le (by omega) (by omega)]
        refine ⟨fun z => absurd z (w_ne1 (by omega)), fun _ => ⟨fun z => ?_, fun z => ?_⟩⟩
        · rw [if_neg (by omega)] at H; exact H
        · rw [if_pos (by omega)] at H; exact H
theorem p_close_o {d t n N K : Nat} {v : Int32} {f : Nat → Nat} {Bs : BB} {M : mx_M} {Q : QQ} (W : wC M t n N K f Bs) :
    ∀ (k i : Nat) (s : CS), i + k = K → csG s → Q (.inl (some (.int (clA v (clO N K Bs i k s))))) M → mx_W m_X10_closest (d + 1 + 1 + 1 + 1) 11 [.ref 1, .int v, .int (csM s), .int (csB s), .int (w i), .retAddr 0, .retAddr 0] [] M Q
  | 0, i, s, hi, hs, hq => by
    have hb := W.2.1.2.2.1
    unfold clA at hq
    refine x_X10_closest_11 W.1 t W.2.1.1.1 W.2.1.1.2 _ _ _ _ ⟨fun _ => ⟨fun z => ?_, fun z => ?_⟩, fun h => absurd ?_ h⟩
    · rw [if_neg z] at hq; exact hq
    · rw [if_pos z] at hq; exact hq
    · rw [W.2.1.2.1.2, w_le (by omega) (by omega)]; omega
  | k + 1, i, s, hi, hs, hq => by
    have hb := W.2.1.2.2.1
    rw [clO] at hq
    refine x_X10_closest_11 W.1 t W.2.1.1.1 W.2.1.1.2 _ _ _ _ ⟨fun h => ?_, fun _ => ?_⟩
    · rw [W.2.1.2.1.2, w_le (by omega) (by omega)] at h; omega
    · rw [w_add1]
      exact p_close_i W (by omega) _ (fun G => p_close_o W k (i + 1) _ (by omega) G hq) k (i + 1) s (by omega) hs rfl
theorem p_closest {d t n N K : Nat} {v : Int32} {f : Nat → Nat} {Bs : BB} {M : mx_M} {Q : QQ} (W : wC M t n N K f Bs) (hr : rmE M) (h1 : isIn v 2 → Q (.inl (some (.int (clA v (clO N K Bs 0 K none))))) M) (h2 : ¬ isIn v 2 → Q (.inr "java/util/NoSuchElementException") (mx_thM M)) : mx_W m_X10_closest (d + 1 + 1 + 1 + 1) 0 [.ref 1, .int v, .retAddr 0, .retAddr 0, .retAddr 0, .retAddr 0, .retAddr 0] [] M Q :=
  x_X10_closest_0 W.1 t W.2.1.1.1 W.2.1.1.2 _ (p_needZeroOrOne W.1 W.2.1.1.1 W.2.1.1.2 hr (fun g => ⟨rfl, rfl, Or.inl ⟨rfl, p_close_o W K 0 none (Nat.zero_add K) (fun b m e => by cases e) (h1 g)⟩⟩) (fun g => ⟨rfl, rfl, Or.inr ⟨_, rfl, h2 g⟩⟩))
theorem q_close_b {d n N K c e i : Nat} {v m2 b2 : Int32} {f : Nat → Nat} {Bs : BB} {M0 : mx_M} {Q : QQ} (hc : c < K) (he : e < K) (hi : i < N) (s9 : Nat)
    (X : ∀ M1, wM M1 n N K f Bs → lip mQ M0 M1 → mx_W m_X11_closest (d + 4 + 1) 53 [.ref 58, .int v, .int b2, .int m2, .int (w c), .int (w e), .int (w s9), .int (w (i + 1)), .retAddr 0] [] M1 Q) :
    ∀ (k j s : Nat) (M : mx_M), wM M n N K f Bs → lip mQ M0 M → j + k = N → s + cnt (fun j => apt Bs c e i j) j k = s9 → mx_W m_X11_closest (d + 4 + 1) 68 [.ref 58, .int v, .int b2, .int m2, .int (w c), .int (w e), .int (w s), .int (w i), .int (w j)] [] M Q
  | 0, j, s, M, W, L, hj, e1 => by
    have hb := W.2.1.2.1
    have e1 : s = s9 := e1
    subst e1
    refine x_X11_closest_68 W.1 _ _ _ _ _ _ _ _ ⟨fun _ => ?_, fun h => absurd ?_ h⟩
    · rw [w_add1]; exact X M W L
    · rw [W.2.1.1.1, w_le (by omega) (by omega)]; omega
  | k + 1, j, s, M, W, L, hj, e1 => by
    have hb := W.2.1.2.1
    refine x_X11_closest_68 W.1 _ _ _ _ _ _ _ _ ⟨fun h => ?_, fun _ => q_bef W hc hi (by omega) (fun M1 W1 L1 => ⟨L1.1.1, L1.1.2.1, _, rfl, q_bef W1 he hi (by omega) (fun M2 W2 L2 => ⟨L2.1.1, L2.1.2.1, _, rfl, fun g => ?_, fun g => ?_⟩)⟩)⟩
    · rw [W.2.1.1.1, w_le (by omega) (by omega)] at h; omega
    · have g1 : apt Bs c e i j = false := mx_bb.mp g
      rw [cnt_no (p := fun j => apt Bs c e i j) (by rw [g1]; decide)] at e1
      rw [w_add1, Int32.add_zero]
      exact q_close_b hc he hi s9 X k (j + 1) s M2 W2 (lip_trans L (lip_trans L1 L2)) (by omega) e1
    · have g1 : apt Bs c e i j = true := by
        cases g2 : apt Bs c e i j
        · exact absurd (mx_bb.mpr g2) g
        · rfl
      rw [cnt_yes (p := fun j => apt Bs c e i j) g1] at e1
      rw [w_add1, w_add1]
      exact q_close_b hc he hi s9 X k (j + 1) (s + 1) M2 W2 (lip_trans L (lip_trans L1 L2)) (by omega) (by omega)
theorem q_close_a {d n N K c e : Nat} {v : Int32} {f : Nat → Nat} {Bs : BB} {M0 : mx_M} {Q : QQ} (hc : c < K) (he : e < K) (hK : K ≤ 4) (cs : CS) (hs : csG cs) (n9 : Nat) (hn9 : n9 ≤ 100)
    (X : ∀ M1, wM M1 n N K f Bs → lip mQ M0 M1 → mx_W m_X11_closest (d + 4 + 1) 38 [.ref 58, .int v, .int (csB (clS n9 (10 * c + e) cs)), .int (csM (clS n9 (10 * c + e) cs)), .int (w c), .int (w (e + 1)), .retAddr 0, .retAddr 0, .retAddr 0] [] M1 Q) :
    ∀ (k i s : Nat) (M : mx_M), wM M n N K f Bs → lip mQ M0 M → i + k = N → s + cpl (apt Bs c e) i k = n9 → mx_W m_X11_closest (d + 4 + 1) 53 [.ref 58, .int v, .int (csB cs), .int (csM cs), .int (w c), .int (w e), .int (w s), .int (w i), .retAddr 0] [] M Q
  | 0, i, s, M, W, L, hi, e1 => by
    have hb := W.2.1.2.1
    have e1 : s = n9 := e1
    subst e1
    have H := X M W L
    refine x_X11_closest_53 W.1 _ _ _ _ _ _ _ ⟨fun _ => ?_, fun h => absurd ?_ h⟩
    · rw [w_add1, w_10]
      cases cs with
      | none => exact ⟨fun _ => H, fun z => absurd rfl z⟩
      | some z9 =>
        obtain ⟨m2, b2⟩ := z9
        have h2 := hs m2 b2 rfl
        rw [clS] at H
        show (_ → _) ∧ (_ → (w s < w m2 → _) ∧ (¬ w s < w m2 → _))
        rw [w_lt (by omega) (by omega)]
        refine ⟨fun z => absurd z (w_ne1 (by omega)), fun _ => ⟨fun z => ?_, fun z => ?_⟩⟩
        · rw [if_pos (by omega)] at H; exact H
        · rw [if_neg (by omega)] at H; exact H
    · rw [W.2.1.1.1, w_le (by omega) (by omega)]; omega
  | k + 1, i, s, M, W, L, hi, e1 => by
    have hb := W.2.1.2.1
    rw [cpl] at e1
    refine x_X11_closest_53 W.1 _ _ _ _ _ _ _ ⟨fun h => ?_, fun _ => ?_⟩
    · rw [W.2.1.1.1, w_le (by omega) (by omega)] at h; omega
    · rw [w_add1]
      exact q_close_b hc he (by omega) (s + cnt (fun j => apt Bs c e i j) (i + 1) k) (fun M1 W1 L1 => q_close_a hc he hK cs hs n9 hn9 X k (i + 1) _ M1 W1 L1 (by omega) (by omega)) k (i + 1) s M W L (by omega) rfl
theorem q_close_i {d n N K c : Nat} {v : Int32} {f : Nat → Nat} {Bs : BB} {M0 : mx_M} {Q : QQ} (hc : c < K) (s9 : CS)
    (X : ∀ M1, wM M1 n N K f Bs → lip mQ M0 M1 → csG s9 → mx_W m_X11_closest (d + 4 + 1) 23 [.ref 58, .int v, .int (csB s9), .int (csM s9), .int (w (c + 1)), .retAddr 0, .retAddr 0, .retAddr 0, .retAddr 0] [] M1 Q) :
    ∀ (k e : Nat) (s : CS) (M : mx_M), wM M n N K f Bs → lip mQ M0 M → e + k = K → csG s → clI N Bs c e k s = s9 → mx_W m_X11_closest (d + 4 + 1) 38 [.ref 58, .int v, .int (csB s), .int (csM s), .int (w c), .int (w e), .retAddr 0, .retAddr 0, .retAddr 0] [] M Q
  | 0, e, s, M, W, L, hi, hs, e1 => by
    have hb := W.2.1.2.1
    have e1 : s = s9 := e1
    subst e1
    refine x_X11_closest_38 W.1 _ _ _ _ _ ⟨fun _ => ?_, fun h => absurd ?_ h⟩
    · rw [w_add1]; exact X M W L hs
    · rw [W.2.1.1.2, w_le (by omega) (by omega)]; omega
  | k + 1, e, s, M, W, L, hi, hs, e1 => by
    have hb := W.2.1.2.1
    have h9 := cpl_le (apt Bs c e) N 0 hb.1
    rw [clI] at e1
    refine x_X11_closest_38 W.1 _ _ _ _ _ ⟨fun h => ?_, fun _ => ?_⟩
    · rw [W.2.1.1.2, w_le (by omega) (by omega)] at h; omega
    · exact q_close_a hc (by omega) hb.2 s hs (cpl (apt Bs c e) 0 N) (by omega) (fun M1 W1 L1 => q_close_i hc s9 X k (e + 1) _ M1 W1 L1 (by omega) (csG_S (by omega) (by omega) hs) e1) N 0 0 M W L (Nat.zero_add N) (Nat.zero_add _)
theorem q_close_o {d n N K : Nat} {v : Int32} {f : Nat → Nat} {Bs : BB} {M0 : mx_M} {Q : QQ} (s9 : CS) (hq : ∀ M1, wM M1 n N K f Bs → lip mQ M0 M1 → Q (.inl (some (.int (clA v s9)))) M1) :
    ∀ (k i : Nat) (s : CS) (M : mx_M), wM M n N K f Bs → lip mQ M0 M → i + k = K → csG s → clO N K Bs i k s = s9 → mx_W m_X11_closest (d + 4 + 1) 23 [.ref 58, .int v, .int (csB s), .int (csM s), .int (w i), .retAddr 0, .retAddr 0, .retAddr 0, .retAddr 0] [] M Q
  | 0, i, s, M, W, L, hi, hs, e1 => by
    have hb := W.2.1.2.1
    have e1 : s = s9 := e1
    subst e1
    have H := hq M W L
    unfold clA at H
    refine x_X11_closest_23 W.1 _ _ _ _ ⟨fun _ => ⟨fun z => ?_, fun z => ?_⟩, fun h => absurd ?_ h⟩
    · rw [if_neg z] at H; exact H
    · rw [if_pos z] at H; exact H
    · rw [W.2.1.1.2, w_le (by omega) (by omega)]; omega
  | k + 1, i, s, M, W, L, hi, hs, e1 => by
    have hb := W.2.1.2.1
    rw [clO] at e1
    refine x_X11_closest_23 W.1 _ _ _ _ ⟨fun h => ?_, fun _ => ?_⟩
    · rw [W.2.1.1.2, w_le (by omega) (by omega)] at h; omega
    · rw [w_add1]
      exact q_close_i (by omega) _ (fun M1 W1 L1 G => q_close_o s9 hq k (i + 1) _ M1 W1 L1 (by omega) G e1) k (i + 1) s M W L (by omega) hs rfl
theorem q_closest {d n N K : Nat} {v : Int32} {f : Nat → Nat} {Bs : BB} {M : mx_M} {Q : QQ} (W : wM M n N K f Bs) (h1 : isIn v 2 → ∀ M1, wM M1 n N K f Bs → lip mQ (mx_setI M 58 0 0) M1 → Q (.inl (some (.int (clA v (clO N K Bs 0 K none))))) M1)
    (h2 : ¬ isIn v 2 → Q (.inl (some (.int 0))) (mx_setI (mx_setI M 58 0 0) 58 0 1)) : mx_W m_X11_closest (d + 4 + 1) 0 [.ref 58, .int v, .retAddr 0, .retAddr 0, .retAddr 0, .retAddr 0, .retAddr 0, .retAddr 0, .retAddr 0] [] M Q :=
  x_X11_closest_0 W.1 _ (fun M1 e1 => by
    subst e1
    have W1 := wM_0 (v := 0) W
    exact p_isWhat (n := 1) W1.1 I_eq (by decide) (fun g => ⟨rfl, rfl, _, rfl, fun _ => q_close_o _ (h1 g) K 0 none _ W1 (lip_refl _ _) (Nat.zero_add K) (fun b m e => by cases e) rfl, fun z => by cases z⟩) (fun g => ⟨rfl, rfl, _, rfl, fun z => (by cases z), fun _ => h2 g⟩))
/-- couples by which an order and another slot's differ -/
theorem befM_q {o N : Nat} {B : Nat → Nat → Bool} {M M1 : mx_M} (L : lip mQ M M1) (A : befM M o N B) : befM M1 o N B :=
  fun d M2 x y Q L2 => A d M2 x y Q (lik_trans (lik_of L (fun k j h g => by rcases h with h | h | h | h | h | h <;> omega)) L2)
theorem q_matt_i {d n N K c i : Nat} {f : Nat → Nat} {Bs : BB} {B4 : Nat → Nat → Bool} {M0 : mx_M} {Q : QQ} (hc : c < K) (hi : i < N) (A4 : befM M0 4 N B4) (s9 : Nat)
    (X : ∀ M1, wM M1 n N K f Bs → lip mQ M0 M1 → mx_W m_X11_mattersNow (d + 4 + 1) 4 [.ref 58, .int (w c), .int (w s9), .int (w (i + 1)), .retAddr 0] [] M1 Q) :
    ∀ (k j s : Nat) (M : mx_M), wM M n N K f Bs → lip mQ M0 M → j + k = N → s + cnt (fun j => Bs c i j != B4 i j) j k = s9 → mx_W m_X11_mattersNow (d + 4 + 1) 17 [.ref 58, .int (w c), .int (w s), .int (w i), .int (w j)] [] M Q
  | 0, j, s, M, W, L, hj, e1 => by
    have hb := W.2.1.2.1
    have e1 : s = s9 := e1
    subst e1
    refine x_X11_mattersNow_17 W.1 _ _ _ _ ⟨fun _ => ?_, fun h => absurd ?_ h⟩
    · rw [w_add1]; exact X M W L
    · rw [W.2.1.1.1, w_le (by omega) (by omega)]; omega
  | k + 1, j, s, M, W, L, hj, e1 => by
    have hb := W.2.1.2.1
    refine x_X11_mattersNow_17 W.1 _ _ _ _ ⟨fun h => ?_, fun _ => q_bef W hc hi (by omega) (fun M1 W1 L1 => ⟨L1.1.1, L1.1.2.1, _, rfl, befM_q (lip_trans L L1) A4 d M1 i j _ (lik_refl _ _) W1.1 hi (by omega) (fun M2 L2 => ⟨L2.1.1, L2.1.2.1, _, rfl, fun g => ?_, fun g => ?_⟩)⟩)⟩
    · rw [W.2.1.1.1, w_le (by omega) (by omega)] at h; omega
    · have g1 : (Bs c i j != B4 i j) = false := mx_bb.mp g
      rw [cnt_no (p := fun j => Bs c i j != B4 i j) (by rw [g1]; decide)] at e1
      rw [w_add1, Int32.add_zero]
      exact q_matt_i hc hi A4 s9 X k (j + 1) s M2 (wM_q (sc_q L2) W1) (lip_trans L (lip_trans L1 (sc_q L2))) (by omega) e1
    · have g1 : (Bs c i j != B4 i j) = true := by
        cases g2 : (Bs c i j != B4 i j)
        · exact absurd (mx_bb.mpr g2) g
        · rfl
      rw [cnt_yes (p := fun j => Bs c i j != B4 i j) g1] at e1
      rw [w_add1, w_add1]
      exact q_matt_i hc hi A4 s9 X k (j + 1) (s + 1) M2 (wM_q (sc_q L2) W1) (lip_trans L (lip_trans L1 (sc_q L2))) (by omega) (by omega)
theorem q_matt_o {d n N K c : Nat} {f : Nat → Nat} {Bs : BB} {B4 : Nat → Nat → Bool} {M0 : mx_M} {Q : QQ} (hc : c < K) (A4 : befM M0 4 N B4) (s9 : Nat)
    (hq : ∀ M1, wM M1 n N K f Bs → lip mQ M0 M1 → Q (.inl (some (.int (w s9)))) M1) :
    ∀ (k i s : Nat) (M : mx_M), wM M n N K f Bs → lip mQ M0 M → i + k = N → s + cpl (fun x y => Bs c x y != B4 x y) i k = s9 → mx_W m_X11_mattersNow (d + 4 + 1) 4 [.ref 58, .int (w c), .int (w s), .int (w i), .retAddr 0] [] M Q
  | 0, i, s, M, W, L, hi, e1 => by
    have hb := W.2.1.2.1
    have e1 : s = s9 := e1
    subst e1
    refine x_X11_mattersNow_4 W.1 _ _ _ ⟨fun _ => hq M W L, fun h => absurd ?_ h⟩
    rw [W.2.1.1.1, w_le (by omega) (by omega)]; omega
  | k + 1, i, s, M, W, L, hi, e1 => by
    have hb := W.2.1.2.1
    rw [cpl] at e1
    refine x_X11_mattersNow_4 W.1 _ _ _ ⟨fun h => ?_, fun _ => ?_⟩
    · rw [W.2.1.1.1, w_le (by omega) (by omega)] at h; omega
    · rw [w_add1]
      exact q_matt_i hc (by omega) A4 (s + cnt (fun j => Bs c i j != B4 i j) (i + 1) k) (fun M1 W1 L1 => q_matt_o hc A4 s9 hq k (i + 1) _ M1 W1 L1 (by omega) (by omega)) k (i + 1) s M W L (by omega) rfl
theorem q_mattersNow {d n N K c : Nat} {f : Nat → Nat} {Bs : BB} {B4 : Nat → Nat → Bool} {M : mx_M} {Q : QQ} (W : wM M n N K f Bs) (hc : c < K) (A4 : befM M 4 N B4)
    (hq : ∀ M1, wM M1 n N K f Bs → lip mQ M M1 → Q (.inl (some (.int (w (cpl (fun x y => Bs c x y != B4 x y) 0 N))))) M1) : mx_W m_X11_mattersNow (d + 4 + 1) 0 [.ref 58, .int (w c), .retAddr 0, .retAddr 0, .retAddr 0] [] M Q :=
  x_X11_mattersNow_0 W.1 _ (q_matt_o hc A4 _ hq N 0 0 M W (lip_refl _ _) (Nat.zero_add N) (Nat.zero_add _))
