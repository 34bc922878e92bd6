/-! years of filing by a seed -/
theorem w_eq0 {a : Nat} (h : a < 2147483648) : w a = 0 ↔ a = 0 := w_inj (b := 0) h (by decide)
theorem w_le0 {a : Nat} (h : a < 2147483648) : w a ≤ 0 ↔ a ≤ 0 := w_le (b := 0) h (by decide)
def drW (v : Int32) : Int32 := (v >>> (16 &&& 31)) &&& 32767
theorem dr_eq (v : Int32) : ((v.toUInt32 >>> ((16 : Int32).toUInt32 &&& Int32.toUInt32 31)).toInt32 &&& 32767) = drW v := by
  apply Int32.toBitVec_inj.mp
  show (v.toBitVec >>> 16) &&& 32767#32 = (v.toBitVec.sshiftRight 16) &&& 32767#32
  apply BitVec.eq_of_getLsbD_eq
  intro i hi
  rw [BitVec.getLsbD_and, BitVec.getLsbD_and, BitVec.getLsbD_sshiftRight, BitVec.getLsbD_ushiftRight]
  by_cases h : i < 15
  · rw [if_pos (show 16 + i < 32 by omega), decide_eq_false (show ¬ 32 ≤ i by omega)]; simp
  · have e : (32767#32).getLsbD i = false := by
      show (32767#32).toNat.testBit i = false
      exact Nat.testBit_lt_two_pow (Nat.lt_of_lt_of_le (show (32767#32).toNat < 2 ^ 15 by decide) (Nat.pow_le_pow_right (by decide) (by omega)))
    rw [e, Bool.and_false, Bool.and_false]
def drN (v : Int32) : Nat := (drW v).toBitVec.toNat
theorem drN_is (v : Int32) : drW v = w (drN v) ∧ drN v < 32768 := by
  refine ⟨?_, ?_⟩
  · apply Int32.toBitVec_inj.mp
    show _ = BitVec.ofNat 32 (drN v)
    unfold drN
    rw [BitVec.ofNat_toNat, BitVec.setWidth_eq]
  · unfold drN
    have : (drW v).toBitVec = (v.toBitVec.sshiftRight 16) &&& 32767#32 := rfl
    rw [this, BitVec.toNat_and]
    exact Nat.lt_of_le_of_lt Nat.and_le_right (by decide)
theorem w_mod {a b : Nat} (ha : a < 2147483648) (hb : b < 2147483648) : w a - w a / w b * w b = w (a % b) := by
  rw [w_div ha hb, w_mul, w_sub (Nat.div_mul_le_self a b)]
  congr 1
  have := Nat.mod_add_div a b
  rw [Nat.mul_comm] at this
  omega
theorem p_draw {d t n : Nat} {v : Int32} {M : mx_M} {Q : QQ} (T : mx_Tp M) (ht : mx_Cat t) (ht0 : mx_R M 1 10 = t) (h1 : 1 ≤ n) (h2 : n ≤ 10) (hq : Q (.inl (some (.int (w (drN v % n))))) M) : mx_W m_X10_draw d 0 [.int v, .int (w n)] [] M Q := by
  have dn := drN_is v
  refine x_X10_draw_0 T t ht ht0 _ _ ?_
  rw [dr_eq, dn.1, w_mod (by omega) (by omega)]
  refine ⟨fun _ => ⟨fun z => ?_, hq⟩, fun z => absurd ?_ z⟩
  · rw [show (0 : Int32) = w 0 from rfl, w_inj (by omega) (by omega)] at z; omega
  · rw [show (1 : Int32) = w 1 from rfl, w_le (by omega) (by omega)]; exact h1
theorem q_draw {d n : Nat} {sd : Int32} {M : mx_M} {Q : QQ} (T : mx_Tp M) (h1 : 1 ≤ n) (h2 : n ≤ 10) (e : mx_I M 58 59 = sd) (hq : ∀ M1, lip mQ M M1 → (∀ j, mx_I M1 91 j = mx_I M 91 j) → mx_I M1 58 59 = sd * 1103515245 + 12345 → Q (.inl (some (.int (w (drN (sd * 1103515245 + 12345) % n))))) M1) : mx_W m_X11_draw d 0 [.ref 58, .int (w n)] [] M Q := by
  refine x_X11_draw_0 T _ (fun M1 e1 => ?_)
  have e2 : mx_I M1 58 59 = sd * 1103515245 + 12345 := by rw [e1, e]; exact I_eq
  have dn := drN_is (sd * 1103515245 + 12345)
  have L1 : lip mQ M M1 := by rw [e1]; exact lip_setI (by show _ ∨ _; omega)
  rw [e2]
  refine ⟨fun z => ?_, ?_⟩
  · rw [show (0 : Int32) = w 0 from rfl, w_inj (by omega) (by omega)] at z; omega
  · have H := hq M1 L1 (fun j => by rw [e1, I_ne (by omega)]) e2
    rw [← w_mod (a := drN (sd * 1103515245 + 12345)) (b := n) (by omega) (by omega), ← dn.1] at H
    exact H
/-! rows of cards that are each once -/
theorem dst_ins {n p c : Nat} {f : Nat → Nat} (D : dst n f) (hp : p ≤ n) (hc : ∀ i, i < n → ¬ f i = c) : dst (n + 1) (insF p c f) := by
  intro i j hi hj e
  unfold insF at e
  by_cases a1 : i < p
  · rw [if_pos a1] at e
    by_cases b1 : j < p
    · rw [if_pos b1] at e; exact D i j (by omega) (by omega) e
    · rw [if_neg b1] at e
      by_cases b2 : j = p
      · rw [if_pos b2] at e; exact absurd e (hc i (by omega))
      · rw [if_neg b2] at e; have := D i (j - 1) (by omega) (by omega) e; omega
  · rw [if_neg a1] at e
    by_cases a2 : i = p
    · rw [if_pos a2] at e
      by_cases b1 : j < p
      · rw [if_pos b1] at e; exact absurd e.symm (hc j (by omega))
      · rw [if_neg b1] at e
        by_cases b2 : j = p
        · omega
        · rw [if_neg b2] at e; exact absurd e.symm (hc (j - 1) (by omega))
    · rw [if_neg a2] at e
      by_cases b1 : j < p
      · rw [if_pos b1] at e; have := D (i - 1) j (by omega) (by omega) e; omega
      · rw [if_neg b1] at e
        by_cases b2 : j = p
        · rw [if_pos b2] at e; exact absurd e (hc (i - 1) (by omega))
        · rw [if_neg b2] at e; have := D (i - 1) (j - 1) (by omega) (by omega) e; omega
theorem dst_del {n p : Nat} {f : Nat → Nat} (D : dst (n + 1) f) : dst n (delF p f) := by
  intro i j hi hj e
  unfold delF at e
  by_cases a : i < p
  · by_cases b : j < p
    · rw [if_pos a, if_pos b] at e; exact D i j (by omega) (by omega) e
    · rw [if_pos a, if_neg b] at e; have := D i (j + 1) (by omega) (by omega) e; omega
  · by_cases b : j < p
    · rw [if_neg a, if_pos b] at e; have := D (i + 1) j (by omega) (by omega) e; omega
    · rw [if_neg a, if_neg b] at e; have := D (i + 1) (j + 1) (by omega) (by omega) e; omega
theorem dst_room {n N c : Nat} {f : Nat → Nat} (D : dst n f) (hf : ∀ i, i < n → f i < N) (hc : c < N) (h : ∀ i, i < n → ¬ f i = c) : n < N := by
  rcases Nat.lt_or_ge n N with g | g
  · exact g
  · obtain ⟨x, hx, e⟩ := inj_sur N f (fun x hx => hf x (by omega)) (fun x y hx hy e => D x y (by omega) (by omega) e) c hc
    exact absurd e (h x (by omega))
theorem plc_no {n c : Nat} {f : Nat → Nat} (hn : n ≤ 10) (h : plc n f c = -1) : ∀ i, i < n → ¬ f i = c := by
  intro i hi e
  unfold plc at h
  rw [fz_none (by omega)] at h
  have := fnd_not (fun i => decide (f i = c)) 0 n i (Nat.zero_le _) (by omega)
  rw [decide_eq_true e] at this
  cases this
abbrev RW := Nat × (Nat → Nat)
def sdF (v : Int32) : Int32 := v * 1103515245 + 12345
/-- k years -/
def yrF (N K : Nat) (Bs : BB) : Nat → RW → Nat → Int32 → RW × Nat
  | 0, r, l, _ => (r, l)
  | k + 1, r, l, sd =>
    if plc r.1 r.2 (drN (sdF sd) % N) = -1 then yrF N K Bs k (r.1 + 1, insF (plf r.1 r.2 (Bs (drN (sdF (sdF sd)) % K)) (drN (sdF sd) % N)) (drN (sdF sd) % N) r.2) l (sdF (sdF sd))
    else if (lkF r.2 (Bs (drN (sdF (sdF sd)) % K)) (drN (sdF sd) % N) 10 0 r.1 0).2 then yrF N K Bs k (r.1 - 1, delF (fnd (fun i => decide (r.2 i = drN (sdF sd) % N)) 0 r.1) r.2) l (sdF (sdF sd))
    else yrF N K Bs k r (l + 1) (sdF (sdF sd))
theorem p_years_l {d t n N K m : Nat} {f : Nat → Nat} {Bs : BB} {M0 : mx_M} {Q : QQ} (hN : 1 ≤ N) (hK : 1 ≤ K) (hm : m ≤ 60) (z9 : RW × Nat)
    (hq : ∀ M1, wC M1 t n N K f Bs → lip cT M0 M1 → rowC M1 33 z9.1.1 N z9.1.2 → Q (.inl (some (.int (w z9.2)))) M1) :
    ∀ (k i l : Nat) (r : RW) (sd : Int32) (M : mx_M), wC M t n N K f Bs → lip cT M0 M → i + k = m → rowC M 33 r.1 N r.2 → dst r.1 r.2 → yrF N K Bs k r l sd = z9 → mx_W m_X10_missedInYears (d + 1 + 1 + 1 + 1) 8 [.ref 1, .retAddr 0, .int (w m), .int (w l), .int sd, .int (w i), .retAddr 0, .retAddr 0, .retAddr 0] [] M Q
  | 0, i, l, r, sd, M, W, L, hi, R, D, e => by
    have e : (r, l) = z9 := e
    subst e
    refine x_X10_missedInYears_8 W.1 t W.2.1.1.1 W.2.1.1.2 _ _ _ _ ⟨fun _ => hq M W L R, fun h => absurd ?_ h⟩
    rw [w_le (by omega) (by omega)]; omega
  | k + 1, i, l, r, sd, M, W, L, hi, R, D, e => by
    have hb := W.2.1.2.2.1
    have h10 := R.2.1
    have hc : drN (sdF sd) % N < N := Nat.mod_lt _ hN
    have ho : drN (sdF (sdF sd)) % K < K := Nat.mod_lt _ hK
    rw [yrF] at e
    refine x_X10_missedInYears_8 W.1 t W.2.1.1.1 W.2.1.1.2 _ _ _ _ ⟨fun h => ?_, fun _ => x_X10_nextSeed_0 W.1 t W.2.1.1.1 W.2.1.1.2 _ ⟨rfl, rfl, _, rfl, ?_⟩⟩
    · rw [w_le (by omega) (by omega)] at h; omega
    · rw [W.2.1.2.1.1]
      refine p_draw (v := sdF sd) W.1 W.2.1.1.1 W.2.1.1.2 hN hb.1 ⟨rfl, rfl, _, rfl, x_X10_nextSeed_0 W.1 t W.2.1.1.1 W.2.1.1.2 _ ⟨rfl, rfl, _, rfl, ?_⟩⟩
      rw [W.2.1.2.1.2]
      refine p_draw (v := sdF (sdF sd)) W.1 W.2.1.1.1 W.2.1.1.2 hK (by omega) ⟨rfl, rfl, _, rfl, p_placeOf W.1 (Or.inr rfl) R _ (by omega) ⟨rfl, rfl, _, rfl, fun g => ?_, fun g => ?_⟩⟩
      · rw [if_neg g] at e
        obtain ⟨p, hp, ei, ep, ef⟩ := plc_ne h10.1 g
        refine p_finds W.1 (Or.inr rfl) R (W.2.1.2.2.2 _ ho) _ hc ⟨rfl, rfl, _, rfl, fun g2 => ?_, fun g2 => ?_⟩
        · rw [g2, if_neg (by decide)] at e
          rw [w_add1, w_add1]
          exact p_years_l hN hK hm z9 hq k (i + 1) (l + 1) r _ M W L (by omega) R D e
        · rw [g2, if_pos rfl, ef] at e
          obtain ⟨rn, rf⟩ := r
          cases rn with
          | zero => omega
          | succ rn =>
            rw [ep]
            refine p_remove W.1 (Or.inr rfl) R (by omega) (fun M1 L1 R1 => ⟨L1.1.1, L1.1.2.1, rfl, ?_⟩)
            rw [w_add1]
            exact p_years_l hN hK hm z9 hq k (i + 1) l _ _ M1 (wC_T (r33 L1) W) (lip_trans L (r33 L1)) (by omega) R1 (dst_del D) e
      · rw [if_pos g] at e
        have hno := plc_no h10.1 g
        have hroom := dst_room D (fun a ha => (R.2.2 a ha).2) hc hno
        have hpl := plf_le r.1 r.2 (Bs (drN (sdF (sdF sd)) % K)) (drN (sdF sd) % N)
        refine p_placeFor W.1 (Or.inr rfl) R (W.2.1.2.2.2 _ ho) _ hc ⟨rfl, rfl, _, rfl, p_insert W.1 (Or.inr rfl) R (by omega) hpl hc (fun M1 L1 R1 => ⟨L1.1.1, L1.1.2.1, rfl, ?_⟩)⟩
        rw [w_add1]
        exact p_years_l hN hK hm z9 hq k (i + 1) l _ _ M1 (wC_T (r33 L1) W) (lip_trans L (r33 L1)) (by omega) R1 (dst_ins D hpl hno) e
/-- what years answers -/
def yrA (K : Nat) (Bs : BB) (v : Int32) (z : RW × Nat) : Int32 := if v = 0 then w z.2 else if v = 1 then w z.1.1 else if K = 0 then 0 else w (wrb z.1.2 (Bs 0) 0 z.1.1)
/-- the years that are run -/
def yrT (N K m : Nat) : Nat := if N = 0 ∨ K = 0 then 0 else m
theorem p_years {d t n N K : Nat} {v1 v2 v3 : Int32} {f : Nat → Nat} {Bs : BB} {M : mx_M} {Q : QQ} (W : wC M t n N K f Bs) (D : dst n f) (hr : rmE M)
    (h1 : ∀ m, m ≤ 60 → v2 = w m → isIn v3 3 → ∀ M1, wC M1 t n N K f Bs → lip cT M M1 → Q (.inl (some (.int (yrA K Bs v3 (yrF N K Bs (yrT N K m) (n, f) 0 v1))))) M1)
    (h2 : ¬ isIn v3 3 → Q (.inr NSE) (mx_thM M)) (h3 : isIn v3 3 → ¬ isIn v2 61 → Q (.inr IAE) (mx_thM M)) : mx_W m_X10_years (d + 1 + 1 + 1 + 1 + 1) 0 [.ref 1, .int v1, .int v2, .int v3, .retAddr 0] [] M Q := by
  have hb := W.2.1.2.2.1
  have h10 := W.2.2.1.2.1
  have tail : ∀ (z : RW × Nat) (M1 : mx_M), wC M1 t n N K f Bs → rowC M1 33 z.1.1 N z.1.2 → Q (.inl (some (.int (yrA K Bs v3 z)))) M1 → ((¬ v3 = 0 → ((¬ v3 = (1 : Int32) → ((¬ (mx_I M1 t 13) = 0 → (mx_W m_X5_wrongBy (d + 1 + 1 + 1 + 1) 0 [.ref 33, .ref 24, .int 0, .retAddr 0, .retAddr 0, .retAddr 0] [] M1 (fun o M2 => mx_sh M2 = mx_sh M1 ∧ mx_R M2 = mx_R M1 ∧ (∃ x3 : Int32, o = .inl (some (.int x3)) ∧ Q (.inl (some (.int x3))) M2)))) ∧ ((mx_I M1 t 13) = 0 → Q (.inl (some (.int 0))) M1))) ∧ (v3 = (1 : Int32) → Q (.inl (some (.int (mx_I M1 33 1)))) M1))) ∧ (v3 = 0 → Q (.inl (some (.int (w z.2)))) M1)) := by
    intro z M1 W1 R1 H
    unfold yrA at H
    rw [W1.2.1.2.1.2, w_eq0 (a := K) (by omega), R1.1]
    refine ⟨fun y => ⟨fun y2 => ⟨fun y3 => ?_, fun y3 => ?_⟩, fun y2 => ?_⟩, fun y => ?_⟩
    · rw [if_neg y, if_neg y2, if_neg y3] at H
      exact p_wrongBy (o := 0) W1.1 (Or.inr rfl) R1 (W1.2.1.2.2.2 0 (by omega)) ⟨rfl, rfl, _, rfl, H⟩
    · rw [if_neg y, if_neg y2, if_pos y3] at H; exact H
    · rw [if_neg y, if_pos y2] at H; exact H
    · rw [if_pos y] at H; exact H
  refine x_X10_years_0 W.1 t W.2.1.1.1 W.2.1.1.2 _ _ _ ⟨fun z => ⟨hr.1, hr.2, h2 (isIn_neg (by decide) z)⟩, fun z => ⟨fun z2 => ?_, fun z2 => ⟨hr.1, hr.2, h2 (isIn_big (by decide) (fun q => z2 ?_))⟩⟩⟩
  · rw [show (2 : Int32) = w 2 from rfl, le_lt1 (by decide)] at z2
    have g3 : isIn v3 3 := isIn_of (by decide) z z2
    refine ⟨fun y => ⟨hr.1, hr.2, h3 g3 (isIn_neg (by decide) y)⟩, fun y => ⟨fun y2 => ?_, fun y2 => ⟨hr.1, hr.2, h3 g3 (isIn_big (by decide) (fun q => y2 ?_))⟩⟩⟩
    · rw [show (60 : Int32) = w 60 from rfl, le_lt1 (by decide)] at y2
      obtain ⟨m, hm, rfl⟩ := isIn_of (n := 61) (by decide) y y2
      have H := h1 m (by omega) rfl g3
      refine p_copyRow W.1 W.2.2.1 (fun M1 L1 R1 => ⟨L1.1.1, L1.1.2.1, rfl, ?_⟩)
      have W1 := wC_T (r33 L1) W
      have H1 := H M1 W1 (r33 L1)
      unfold yrT at H H1
      have e12 : mx_I M1 t 12 = 0 ↔ N = 0 := by rw [W1.2.1.2.1.1, show (0 : Int32) = w 0 from rfl, w_inj (by omega) (by omega)]
      have e13 : mx_I M1 t 13 = 0 ↔ K = 0 := by rw [W1.2.1.2.1.2, show (0 : Int32) = w 0 from rfl, w_inj (by omega) (by omega)]
      refine ⟨fun q => ?_, fun q => ⟨fun q2 => ?_, fun q2 => ?_⟩⟩
      · rw [if_pos (Or.inl (e12.mp q))] at H1
        exact tail ((n, f), 0) M1 W1 R1 H1
      · have a1 : ¬ N = 0 := fun a => q (e12.mpr a)
        have a2 : ¬ K = 0 := fun a => q2 (e13.mpr a)
        rw [if_neg (by omega)] at H
        exact x_X10_missedInYears_0 W1.1 t W1.2.1.1.1 W1.2.1.1.2 _ _ (p_years_l (by omega) (by omega) (by omega) (yrF N K Bs m (n, f) 0 v1) (fun M2 W2 L2 R2 => ⟨L2.1.1, L2.1.2.1, _, rfl, tail _ M2 W2 R2 (H M2 W2 (lip_trans (r33 L1) L2))⟩) m 0 0 (n, f) v1 M1 W1 (lip_refl _ _) (Nat.zero_add m) R1 D rfl)
      · rw [if_pos (Or.inr (e13.mp q2))] at H1
        exact tail ((n, f), 0) M1 W1 R1 H1
    · rw [show (60 : Int32) = w 60 from rfl, le_lt1 (by decide)]; exact q
  · rw [show (2 : Int32) = w 2 from rfl, le_lt1 (by decide)]; exact q
/-! the reference's -/
theorem rowM_eq {M M1 : mx_M} {n N : Nat} {f : Nat → Nat} (e : ∀ j, mx_I M1 91 j = mx_I M 91 j) (R : rowM M 91 n N f) : rowM M1 91 n N f :=
  ⟨by rw [e]; exact R.1, R.2.1, fun i hi => by rw [e]; exact R.2.2 i hi⟩
theorem q_years_l {d n N K m : Nat} {v3 : Int32} {f : Nat → Nat} {Bs : BB} {M0 : mx_M} {Q : QQ} (hN : 1 ≤ N) (hK : 1 ≤ K) (hm : m ≤ 60) (z9 : RW × Nat)
    (hq : ∀ M1, wM M1 n N K f Bs → lip mQ M0 M1 → Q (.inl (some (.int (yrA K Bs v3 z9)))) M1) :
    ∀ (k i l : Nat) (r : RW) (sd : Int32) (M : mx_M), wM M n N K f Bs → lip mQ M0 M → i + k = m → rowM M 91 r.1 N r.2 → dst r.1 r.2 → mx_I M 58 59 = sd → yrF N K Bs k r l sd = z9 → mx_W m_X11_years (d + 4 + 1 + 1) 54 [.ref 58, .retAddr 0, .int (w m), .int v3, .int (w l), .int (w i), .retAddr 0, .retAddr 0, .retAddr 0] [] M Q
  | 0, i, l, r, sd, M, W, L, hi, R, D, es, e => by
    have hb := W.2.1.2.1
    have e : (r, l) = z9 := e
    subst e
    have H := fun M1 W1 L1 => hq M1 W1 L1
    unfold yrA at H
    refine x_X11_years_54 W.1 _ _ _ _ ⟨fun _ => ⟨fun y => ⟨fun y2 => ⟨fun y3 => ?_, fun y3 => ?_⟩, fun y2 => ?_⟩, fun y => ?_⟩, fun h => absurd ?_ h⟩
    · rw [W.2.1.1.2, show (0 : Int32) = w 0 from rfl, w_inj (by omega) (by omega)] at y3
      rw [if_neg y, if_neg y2, if_neg y3] at H
      exact p_wrongIn (o := 0) W.1 rfl (by intro z; rcases z with z | z <;> omega) (W.2.1.2.2 0 (by omega)) R (fun M1 L1 => ⟨L1.1.1, L1.1.2.1, _, rfl, H M1 (wM_q (sc_q L1) W) (lip_trans L (sc_q L1))⟩)
    · rw [W.2.1.1.2, show (0 : Int32) = w 0 from rfl, w_inj (by omega) (by omega)] at y3
      omega
    · rw [if_neg y, if_pos y2] at H
      rw [R.1]; exact H M W L
    · rw [if_pos y] at H
      exact H M W L
    · rw [w_le (by omega) (by omega)]; omega
  | k + 1, i, l, r, sd, M, W, L, hi, R, D, es, e => by
    have hb := W.2.1.2.1
    have h10 := R.2.1
    have hc : drN (sdF sd) % N < N := Nat.mod_lt _ hN
    have ho : drN (sdF (sdF sd)) % K < K := Nat.mod_lt _ hK
    rw [yrF] at e
    refine x_X11_years_54 W.1 _ _ _ _ ⟨fun h => ?_, fun _ => ?_⟩
    · rw [w_le (by omega) (by omega)] at h; omega
    · rw [W.2.1.1.1, W.2.1.1.2, w_le0 (a := N) (by omega), w_le0 (a := K) (by omega)]
      refine ⟨fun y => by omega, fun _ => ⟨fun y => by omega, fun _ => q_draw W.1 hN hb.1 es (fun M1 L1 r1 s1 => ⟨L1.1.1, L1.1.2.1, _, rfl, ?_⟩)⟩⟩
      have W1 := wM_q L1 W
      rw [W1.2.1.1.2]
      refine q_draw W1.1 hK (by omega) s1 (fun M2 L2 r2 s2 => ⟨L2.1.1, L2.1.2.1, _, rfl, ?_⟩)
      have W2 := wM_q L2 W1
      have R2 := rowM_eq r2 (rowM_eq r1 R)
      have LL := lip_trans L (lip_trans L1 L2)
      refine p_placeIn W2.1 rfl R2 (drN (sdF sd) % N) (by omega) ⟨rfl, rfl, _, rfl, fun g => ?_, fun g => ?_⟩
      · rw [if_neg g] at e
        obtain ⟨p, hp, ei, ep, ef⟩ := plc_ne h10.1 g
        refine p_mlooksFor W2.1 rfl (by intro j z; rcases z with z | z | z <;> omega) (W2.2.1.2.2 _ ho) R2 _ hc (fun M3 L3 _ => ?_)
        have W3 := wM_q (lk_q L3) W2
        have R3 := rowM_lip L3 (by intro j z; rcases z with z | z | z <;> omega) R2
        have s3 : mx_I M3 58 59 = sdF (sdF sd) := by
          rw [(L3.2 58 59 (by intro z; rcases z with z | z | z <;> omega)).1]; exact s2
        refine ⟨L3.1.1, L3.1.2.1, _, rfl, fun g2 => ?_, fun g2 => ?_⟩
        · rw [show (lkF r.2 (Bs (drN (sdF (sdF sd)) % K)) (drN (sdF sd) % N) 10 0 r.1 0).2 = false from g2, if_neg (by decide)] at e
          rw [w_add1, w_add1]
          exact q_years_l hN hK hm z9 hq k (i + 1) (l + 1) r _ M3 W3 (lip_trans LL (lk_q L3)) (by omega) R3 D s3 e
        · rw [show (lkF r.2 (Bs (drN (sdF (sdF sd)) % K)) (drN (sdF sd) % N) 10 0 r.1 0).2 = true from g2, if_pos rfl, ef] at e
          obtain ⟨rn, rf⟩ := r
          cases rn with
          | zero => omega
          | succ rn =>
            rw [ep]
            refine p_takesOut W3.1 rfl R3 (by omega) (fun M4 L4 R4 => ⟨L4.1.1, L4.1.2.1, rfl, ?_⟩)
            have L4' : lip mQ M3 M4 := lip_of L4 (fun k j hk => Or.inr (Or.inr (Or.inl hk)))
            rw [w_add1]
            exact q_years_l hN hK hm z9 hq k (i + 1) l _ _ M4 (wM_q L4' W3) (lip_trans LL (lip_trans (lk_q L3) L4')) (by omega) R4 (dst_del D) (by rw [(L4.2 58 (by decide)).1]; exact s3) e
      · rw [if_pos g] at e
        have hno := plc_no h10.1 g
        have hroom := dst_room D (fun a ha => (R.2.2 a ha).2) hc hno
        have hpl := plf_le r.1 r.2 (Bs (drN (sdF (sdF sd)) % K)) (drN (sdF sd) % N)
        refine p_mplaceFor W2.1 rfl (by intro z; rcases z with z | z <;> omega) (by intro z; omega) (W2.2.1.2.2 _ ho) R2 _ hc (fun M3 L3 => ⟨L3.1.1, L3.1.2.1, _, rfl, ?_⟩)
        have W3 := wM_q (sc_q L3) W2
        have R3 := rowM_lik L3 (by intro z; rcases z with z | z <;> omega) R2
        refine p_putsIn W3.1 rfl R3 (by omega) hpl hc (fun M4 L4 R4 => ⟨L4.1.1, L4.1.2.1, rfl, ?_⟩)
        have L4' : lip mQ M3 M4 := lip_of L4 (fun k j hk => Or.inr (Or.inr (Or.inl hk)))
        rw [w_add1]
        exact q_years_l hN hK hm z9 hq k (i + 1) l _ _ M4 (wM_q L4' W3) (lip_trans LL (lip_trans (sc_q L3) L4')) (by omega) R4 (dst_ins D hpl hno) (by rw [(L4.2 58 (by decide)).1, (L3.2 58 (by intro z; rcases z with z | z <;> omega)).1]; exact s2) e
theorem q_years {d n N K : Nat} {v1 v2 v3 : Int32} {f : Nat → Nat} {Bs : BB} {M : mx_M} {Q : QQ} (W : wM M n N K f Bs) (D : dst n f)
    (h1 : ∀ m, m ≤ 60 → v2 = w m → isIn v3 3 → ∀ M1, wM M1 n N K f Bs → lip mQ (mx_setI M 58 0 0) M1 → Q (.inl (some (.int (yrA K Bs v3 (yrF N K Bs (yrT N K m) (n, f) 0 v1))))) M1)
    (h2 : ¬ isIn v3 3 → Q (.inl (some (.int 0))) (mx_setI (mx_setI M 58 0 0) 58 0 1)) (h3 : isIn v3 3 → ¬ isIn v2 61 → Q (.inl (some (.int 0))) (mx_setI (mx_setI M 58 0 0) 58 0 2)) : mx_W m_X11_years (d + 4 + 1 + 1) 0 [.ref 58, .int v1, .int v2, .int v3, .retAddr 0, .retAddr 0, .retAddr 0, .retAddr 0, .retAddr 0] [] M Q :=
  x_X11_years_0 W.1 _ _ _ (fun M1 e1 => by
    subst e1
    have W1 := wM_0 (v := 0) W
    have hb := W1.2.1.2.1
    refine p_isWhat (n := 2) W1.1 I_eq (by decide) (fun g => ⟨rfl, rfl, _, rfl, fun z => (by cases z), fun _ => x_X11_within_0 W1.1 _ _ _ ⟨fun z => ⟨rfl, rfl, false, rfl, p_rightF W1.1 I_eq (by decide) ⟨rfl, rfl, _, rfl, fun z => (by cases z), fun _ => h3 g (isIn_neg (by decide) z)⟩⟩, fun z => ⟨fun z2 => ⟨rfl, rfl, false, rfl, p_rightF W1.1 I_eq (by decide) ⟨rfl, rfl, _, rfl, fun z => (by cases z), fun _ => h3 g (isIn_big (by decide) (fun q => ?_))⟩⟩, fun z2 => ⟨rfl, rfl, true, rfl, p_rightT W1.1 I_eq ⟨rfl, rfl, _, rfl, fun _ => ?_, fun z => (by cases z)⟩⟩⟩⟩⟩) (fun g => ⟨rfl, rfl, _, rfl, fun _ => h2 g, fun z => (by cases z)⟩)
    · rw [← le_lt1 (a := 60) (by decide)] at q
      exact Int32.not_lt.mpr q z2
    · have z3 : v2 ≤ w 60 := Int32.not_lt.mp z2
      rw [le_lt1 (by decide)] at z3
      obtain ⟨m, hm, rfl⟩ := isIn_of (n := 61) (by decide) z z3
      have H := h1 m (by omega) rfl g
      refine q_copyThen W1 (fun M2 W2 L2 R2 => ⟨L2.1.1, L2.1.2.1, rfl, fun M9 e9 => ?_⟩)
      have L9 : lip mQ M2 M9 := by rw [e9]; exact lip_setI (by show _ ∨ _; omega)
      have W9 := wM_q L9 W2
      have R9 : rowM M9 91 n N f := rowM_eq (fun j => by rw [e9, I_ne (by omega)]) R2
      unfold yrT at H
      by_cases q : N = 0 ∨ K = 0
      · rw [if_pos q] at H
        have H2 := H M9 W9 (lip_trans L2 L9)
        have e9a : yrF N K Bs 0 (n, f) 0 v1 = ((n, f), 0) := rfl
        rw [e9a] at H2
        unfold yrA at H2
        have H3 := fun M1 W1 L1 => H M1 W1 L1
        rw [e9a] at H3
        unfold yrA at H3
        have ans : ((¬ v3 = 0 → ((¬ v3 = (1 : Int32) → ((¬ (mx_I M9 58 2) = 0 → (mx_W m_X11_wrongIn (d + 4 + 1) 0 [.ref 58, .ref 91, .int 0, .retAddr 0, .retAddr 0, .retAddr 0] [] M9 (fun o M1 => mx_sh M1 = mx_sh M9 ∧ mx_R M1 = mx_R M9 ∧ (∃ x2 : Int32, o = .inl (some (.int x2)) ∧ Q (.inl (some (.int x2))) M1)))) ∧ ((mx_I M9 58 2) = 0 → Q (.inl (some (.int 0))) M9))) ∧ (v3 = (1 : Int32) → Q (.inl (some (.int (mx_I M9 91 0)))) M9))) ∧ (v3 = 0 → Q (.inl (some (.int 0))) M9)) := by
          rw [W9.2.1.1.2, w_eq0 (a := K) (by omega), R9.1]
          refine ⟨fun y => ⟨fun y2 => ⟨fun y3 => ?_, fun y3 => ?_⟩, fun y2 => ?_⟩, fun y => ?_⟩
          · rw [if_neg y, if_neg y2, if_neg y3] at H3
            exact p_wrongIn (o := 0) W9.1 rfl (by intro z; rcases z with z | z <;> omega) (W9.2.1.2.2 0 (by omega)) R9 (fun M1 L1 => ⟨L1.1.1, L1.1.2.1, _, rfl, H3 M1 (wM_q (sc_q L1) W9) (lip_trans L2 (lip_trans L9 (sc_q L1)))⟩)
          · rw [if_neg y, if_neg y2, if_pos y3] at H2; exact H2
          · rw [if_neg y, if_pos y2] at H2; exact H2
          · rw [if_pos y] at H2; exact H2
        refine x_X11_years_54 W9.1 _ _ _ _ ⟨fun _ => ans, fun _ => ⟨fun _ => ans, fun y => ⟨fun _ => ans, fun y2 => ?_⟩⟩⟩
        exfalso
        rw [W9.2.1.1.1, show (0 : Int32) = w 0 from rfl, w_le (by omega) (by omega)] at y
        rw [W9.2.1.1.2, show (0 : Int32) = w 0 from rfl, w_le (by omega) (by omega)] at y2
        omega
      · rw [if_neg q] at H
        exact q_years_l (by omega) (by omega) (by omega) (yrF N K Bs m (n, f) 0 v1) (fun M3 W3 L3 => H M3 W3 (lip_trans L2 (lip_trans L9 L3))) m 0 0 (n, f) v1 M9 W9 (lip_refl _ _) (Nat.zero_add m) R9 D (by rw [e9]; exact I_eq) rfl)
