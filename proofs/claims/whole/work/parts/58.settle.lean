/-! the compromise is settled -/
theorem fw_step {N K : Nat} {Bs : BB} {s m b : Nat} {g : Nat → Nat} (e : bfF N K Bs g s 0 N none = some (m, b)) : setF g s ((bfF N K Bs g s 0 N none).getD (0, 0)).1 = setF g s m := by rw [e]; rfl
theorem gSm_set {N K : Nat} {Bs : BB} {s b : Nat} {g : Nat → Nat} (h10 : N ≤ 10) (hK : K ≤ 4) (hs : s < 1024) (hb : b < N) (ht : s.testBit b = true) (G : gSm g s) : gSm (setF g s (hwF N K Bs g s b)) (s + 1) := by
  intro q hq
  by_cases e : q = s
  · rw [e, setF_eq]; exact hwF_le h10 hK hs (by omega) ht G
  · rw [setF_ne e]; exact G q (by omega)
theorem htC_lip {P : Nat → Nat → Prop} {M M1 : mx_M} {N K : Nat} {Bs : BB} (L : lip P M M1) (hP : ∀ j, ¬ P 40 j) (H : htC M N K Bs) : htC M1 N K Bs := fun c o hc ho => by
  rw [(L.2 40 _ (hP _)).1]; exact H c o hc ho
theorem p_settle_l {d N K : Nat} {Bs : BB} {M0 : mx_M} {Q : QQ} (h10 : N ≤ 10) (hK : K ≤ 4) (g9 : Nat → Nat)
    (X : ∀ M1, mx_Tp M1 → lip cK M0 M1 → htC M1 N K Bs → gSm g9 (2 ^ N) → (∀ q, q < 2 ^ N → mx_I M1 41 q = w (g9 q)) → mx_I M1 39 3 = w (g9 (2 ^ N - 1)) → mx_W m_X2_settle (d + 1 + 1) 59 [.ref 39, .int (w N), .retAddr 0, .int (w (2 ^ N - 1)), .int 0] [] M1 Q) :
    ∀ (k s : Nat) (g : Nat → Nat) (M : mx_M), s + k = 2 ^ N → 1 ≤ s → mx_Tp M → lip cK M0 M → htC M N K Bs → gSm g s → (∀ q, q < s → mx_I M 41 q = w (g q)) → fwF N K Bs s k g = g9 → mx_W m_X2_settle (d + 1 + 1) 15 [.ref 39, .int (w N), .int (w (2 ^ N - 1)), .int (w s), .retAddr 0] [] M Q
  | 0, s, g, M, hs, h1, T, L, H, G, hg, e => by
    have hp := pow_N h10
    have e : g = g9 := e
    subst e
    refine x_X2_settle_15 T _ _ _ ⟨fun _ => ⟨w_in (by omega) (by omega), fun M1 e1 => ?_⟩, fun h => absurd ?_ h⟩
    · rw [w_nat (by omega), hg _ (by omega)] at e1
      have L1 : lip cK M M1 := by rw [e1]; exact lip_setI (Or.inl rfl)
      refine X M1 (lip_T L1 T) (lip_trans L L1) (by rw [e1]; exact fun c o hc ho => (I_ne (by omega)).trans (H c o hc ho)) (fun q hq => G q (by omega)) (fun q hq => by rw [e1, I_ne (by omega)]; exact hg q (by omega)) (by rw [e1]; exact I_eq)
    · rw [w_lt (by omega) (by omega)]; omega
  | k + 1, s, g, M, hs, h1, T, L, H, G, hg, e => by
    have hp := pow_N h10
    obtain ⟨m, b, eb, b1, b2, b3⟩ := bf_is (N := N) (K := K) (Bs := Bs) (s := s) g (by omega) (by omega)
    have r := rmv_w (show s < 1024 by omega) (show b < 10 by omega)
    rw [fwF, fw_step eb, b3] at e
    refine x_X2_settle_15 T _ _ _ ⟨fun h => ?_, fun _ => p_best T h10 hK H (by omega) G hg ⟨rfl, rfl, _, rfl, ?_⟩⟩
    · rw [w_lt (by omega) (by omega)] at h; omega
    · rw [eb]
      refine p_hurtW T h10 H (by omega) b1 (hg _ (r.2.2 b2)) ⟨rfl, rfl, _, rfl, w_in (by omega) (by omega), fun M6 e6 => ?_⟩
      rw [w_nat (by omega)] at e6
      have L6 : lip cK M M6 := by rw [e6]; exact lip_setI (Or.inr (Or.inr (Or.inl rfl)))
      rw [w_add1]
      refine p_settle_l h10 hK g9 X k (s + 1) _ M6 (by omega) (by omega) (lip_T L6 T) (lip_trans L L6) (by rw [e6]; exact fun c o hc ho => (I_ne (by omega)).trans (H c o hc ho)) (gSm_set h10 hK (by omega) b1 b2 G) (fun q hq => ?_) e
      rw [e6]
      by_cases y : q = s
      · rw [y, I_eq, setF_eq]
      · rw [I_ne (by omega), setF_ne y]; exact hg q (by omega)
/-- the best first card of a set -/
def bcr (N K : Nat) (Bs : BB) (g : Nat → Nat) (s : Nat) : Nat := ((bfF N K Bs g s 0 N none).getD (0, 0)).2
/-- the row of the best, from a set on -/
def rwF (N K : Nat) (Bs : BB) (g : Nat → Nat) : Nat → Nat → Nat → Nat
  | 0, _, _ => 0
  | k + 1, s, i => if i = 0 then bcr N K Bs g s else rwF N K Bs g k (rmv s (bcr N K Bs g s)) (i - 1)
theorem cnt_rm {p : Nat → Bool} {z : Nat} (hz : p z = true) : ∀ (n : Nat), cnt (fun o => p o && !decide (o = z)) 0 n + (if z < n then 1 else 0) = cnt p 0 n
  | 0 => rfl
  | n + 1 => by
    have ih := cnt_rm hz n
    rw [cnt_end, cnt_end, Nat.zero_add]
    by_cases e : n = z
    · rw [if_neg (by omega)] at ih
      rw [if_pos (show z < n + 1 by omega), e, decide_eq_true rfl, hz]
      rw [e] at ih
      unfold bn
      simp at ih ⊢
      omega
    · rw [decide_eq_false e, Bool.not_false, Bool.and_true]
      by_cases e2 : z < n
      · rw [if_pos e2] at ih
        rw [if_pos (show z < n + 1 by omega)]
        omega
      · rw [if_neg e2] at ih
        rw [if_neg (show ¬ z < n + 1 by omega)]
        omega
/-- a set of k cards -/
def stK (N s k : Nat) : Prop := s < 2 ^ N ∧ cnt (fun o => s.testBit o) 0 N = k
theorem stK_0 {N s k : Nat} (h : stK N s (k + 1)) : ¬ s = 0 := by
  intro e
  have h2 := h.2
  rw [e, cnt_congr (q := fun _ => false) 0 N (fun j _ _ => Nat.zero_testBit j), cnt_none] at h2
  omega
theorem stK_rm {N s k b : Nat} (h10 : N ≤ 10) (h : stK N s (k + 1)) (hb : b < N) (ht : s.testBit b = true) : stK N (rmv s b) k := by
  have hp := pow_N h10
  have r := rmv_w (show s < 1024 by have := h.1; omega) (show b < 10 by omega)
  refine ⟨by have := h.1; omega, ?_⟩
  have a := cnt_rm (p := fun o => s.testBit o) ht N
  rw [if_pos hb, h.2] at a
  rw [cnt_congr (q := fun o => s.testBit o && !decide (o = b)) 0 N (fun j _ _ => rmv_bit s b j)]
  omega
theorem stK_all (N : Nat) : stK N (2 ^ N - 1) N := by
  refine ⟨by have := Nat.one_le_two_pow (n := N); omega, ?_⟩
  rw [cnt_congr (q := fun _ => true) 0 N (fun j _ hj => ?_), cnt_all]
  rw [Nat.testBit_two_pow_sub_one]
  exact decide_eq_true (by omega)
theorem bcr_is {N K s k : Nat} {Bs : BB} (g : Nat → Nat) (h : stK N s (k + 1)) : psB (bfF N K Bs g s 0 N none) = w (bcr N K Bs g s) ∧ bcr N K Bs g s < N ∧ s.testBit (bcr N K Bs g s) = true := by
  obtain ⟨m, b, eb, b1, b2, _⟩ := bf_is (N := N) (K := K) (Bs := Bs) g h.1 (stK_0 h)
  unfold bcr
  rw [eb]
  exact ⟨rfl, b1, b2⟩
theorem p_rows_l {d N K : Nat} {Bs : BB} {M0 : mx_M} {Q : QQ} {g : Nat → Nat} (h10 : N ≤ 10) (hK : K ≤ 4) (S9 : Nat → Nat) (G : gSm g (2 ^ N))
    (hq : ∀ M1, lip cK M0 M1 → (∀ i, i < N → mx_I M1 42 i = w (S9 i)) → mx_I M1 39 3 = mx_I M0 39 3 → mx_I M1 39 4 = 1 → Q (.inl none) M1) :
    ∀ (k i s : Nat) (M : mx_M), i + k = N → stK N s k → mx_Tp M → lip cK M0 M → mx_I M 39 3 = mx_I M0 39 3 → htC M N K Bs → (∀ q, q < 2 ^ N → mx_I M 41 q = w (g q)) → (∀ j, j < i → mx_I M 42 j = w (S9 j)) → (∀ j, j < k → S9 (i + j) = rwF N K Bs g k s j) → mx_W m_X2_settle (d + 1 + 1) 59 [.ref 39, .int (w N), .retAddr 0, .int (w s), .int (w i)] [] M Q
  | 0, i, s, M, hi, hs, T, L, e3, H, hg, c1, hS => by
    refine x_X2_settle_59 T _ _ _ ⟨fun _ => fun M1 e1 => ?_, fun h => absurd ?_ h⟩
    · have L1 : lip cK M M1 := by rw [e1]; exact lip_setI (Or.inl rfl)
      exact hq M1 (lip_trans L L1) (fun j hj => by rw [e1, I_ne (by omega)]; exact c1 j (by omega)) (by rw [e1, I_ne (by omega)]; exact e3) (by rw [e1]; exact I_eq)
    · rw [w_le (by omega) (by omega)]; omega
  | k + 1, i, s, M, hi, hs, T, L, e3, H, hg, c1, hS => by
    have hp := pow_N h10
    have hs2 := hs.1
    obtain ⟨eb, b1, b2⟩ := bcr_is (K := K) (Bs := Bs) g hs
    have r := rmv_w (show s < 1024 by omega) (show bcr N K Bs g s < 10 by omega)
    refine x_X2_settle_59 T _ _ _ ⟨fun h => ?_, fun _ => p_best T h10 hK H (by omega) (fun q hq => G q (by omega)) (fun q hq => hg q (by omega)) ⟨rfl, rfl, _, rfl, w_in (by omega) (by omega), fun M4 e4 => ⟨w_in (by omega) (by omega), ?_⟩⟩⟩
    · rw [w_le (by omega) (by omega)] at h; omega
    · rw [eb, w_nat (by omega)] at e4
      have ec : mx_I M4 42 i = w (bcr N K Bs g s) := by rw [e4]; exact I_eq
      rw [w_nat (by omega), ec, r.1, w_add1]
      have L4 : lip cK M M4 := by rw [e4]; exact lip_setI (Or.inr (Or.inr (Or.inr rfl)))
      refine p_rows_l h10 hK S9 G hq k (i + 1) _ M4 (by omega) (stK_rm h10 hs b1 b2) (lip_T L4 T) (lip_trans L L4) (by rw [e4, I_ne (by omega)]; exact e3) (by rw [e4]; exact fun c o hc ho => (I_ne (by omega)).trans (H c o hc ho)) (fun q hq => by rw [e4, I_ne (by omega)]; exact hg q hq) (fun j hj => ?_) (fun j hj => ?_)
      · by_cases y : j = i
        · rw [y, ec]
          have := hS 0 (by omega)
          rw [rwF, if_pos rfl, Nat.add_zero] at this
          rw [this]
        · rw [e4, I_ne (by omega)]; exact c1 j (by omega)
      · have := hS (j + 1) (by omega)
        rw [rwF, if_neg (by omega)] at this
        rw [show i + 1 + j = i + (j + 1) by omega, this]
        rfl
/-- the fewest for each set -/
def fwA (N K : Nat) (Bs : BB) : Nat → Nat := fwF N K Bs 1 (2 ^ N - 1) (fun _ => 0)
/-- the row of the compromise -/
def cpR (N K : Nat) (Bs : BB) : Nat → Nat := rwF N K Bs (fwA N K Bs) N (2 ^ N - 1)
theorem p_settle {d N K : Nat} {Bs : BB} {M : mx_M} {Q : QQ} (T : mx_Tp M) (h10 : N ≤ 10) (hK : K ≤ 4) (H : htC M N K Bs)
    (hq : ∀ M1, lip cK M M1 → (∀ i, i < N → mx_I M1 42 i = w (cpR N K Bs i)) → mx_I M1 39 3 = w (fwA N K Bs (2 ^ N - 1)) → mx_I M1 39 4 = 1 → Q (.inl none) M1) : mx_W m_X2_settle (d + 1 + 1) 0 [.ref 39, .int (w N), .retAddr 0, .retAddr 0, .retAddr 0] [] M Q := by
  have hp := pow_N h10
  have h1 := Nat.one_le_two_pow (n := N)
  refine x_X2_settle_0 T _ (fun M1 e1 => ?_)
  have L1 : lip cK M M1 := by rw [e1]; exact lip_setI (Or.inr (Or.inr (Or.inl rfl)))
  rw [shl_N h10, show w (2 ^ N) - 1 = w (2 ^ N - 1) from w_sub (a := 2 ^ N) (b := 1) h1]
  refine p_settle_l h10 hK (fwA N K Bs) (fun M2 T2 L2 H2 G2 c1 c2 => ?_) (2 ^ N - 1) 1 (fun _ => 0) M1 (by omega) (Nat.le_refl _) (lip_T L1 T) L1 (by rw [e1]; exact fun c o hc ho => (I_ne (by omega)).trans (H c o hc ho)) (fun q hq => by show 0 ≤ _; omega) (fun q hq => by rw [e1, show q = 0 by omega]; exact I_eq) rfl
  exact p_rows_l h10 hK (cpR N K Bs) G2 (fun M3 L3 d1 d2 d3 => hq M3 (lip_trans L2 L3) d1 (by rw [d2]; exact c2) d3) N 0 _ M2 (Nat.zero_add N) (stK_all N) T2 (lip_refl _ _) rfl H2 c1 (fun j hj => by omega) (fun j hj => by rw [Nat.zero_add]; rfl)
theorem wC_K {M M1 : mx_M} {t n N K : Nat} {f : Nat → Nat} {Bs : BB} (L : lip cK M M1) (W : wC M t n N K f Bs) : wC M1 t n N K f Bs :=
  wC_of L (fun k j h => by rcases h with h | h | h | h <;> rcases W.2.1.1.1 with e | e <;> omega) W
theorem p_weigh_i {d t n N K c : Nat} {f : Nat → Nat} {Bs : BB} {M0 : mx_M} {Q : QQ} (hc : c < N)
    (X : ∀ M1, wC M1 t n N K f Bs → lip cK M0 M1 → (∀ c2 o, c2 < c + 1 → o < N → mx_I M1 40 (10 * c2 + o) = w (htF K Bs c2 o)) → mx_W m_X10_weighCompromise (d + 1 + 1 + 1) 2 [.ref 1, .int (w (c + 1)), .retAddr 0] [] M1 Q) :
    ∀ (k o : Nat) (M : mx_M), wC M t n N K f Bs → lip cK M0 M → o + k = N → (∀ c2 o2, c2 < c → o2 < N → mx_I M 40 (10 * c2 + o2) = w (htF K Bs c2 o2)) → (∀ o2, o2 < o → mx_I M 40 (10 * c + o2) = w (htF K Bs c o2)) → mx_W m_X10_weighCompromise (d + 1 + 1 + 1) 15 [.ref 1, .int (w c), .int (w o)] [] M Q
  | 0, o, M, W, L, ho, c1, c2 => by
    have hb := W.2.1.2.2.1
    refine x_X10_weighCompromise_15 W.1 t W.2.1.1.1 W.2.1.1.2 _ _ ⟨fun _ => ?_, fun h => absurd ?_ h⟩
    · rw [w_add1]
      refine X M W L (fun c3 o3 h1 h2 => ?_)
      by_cases e : c3 = c
      · rw [e]; exact c2 o3 (by omega)
      · exact c1 c3 o3 (by omega) h2
    · rw [W.2.1.2.1.1, w_le (by omega) (by omega)]; omega
  | k + 1, o, M, W, L, ho, c1, c2 => by
    have hb := W.2.1.2.2.1
    refine x_X10_weighCompromise_15 W.1 t W.2.1.1.1 W.2.1.1.2 _ _ ⟨fun h => ?_, fun _ => p_clerksFor W.1 W.2.1 (by omega) hc ⟨rfl, rfl, _, rfl, x_X2_setHurt_0 W.1 _ _ _ ?_⟩⟩
    · rw [W.2.1.2.1.1, w_le (by omega) (by omega)] at h; omega
    · rw [w_x10, w_nat (by omega)]
      refine ⟨w_in (by omega) (by omega), fun M1 e1 => ?_⟩
      have L1 : lip cK M M1 := by rw [e1]; exact lip_setI (Or.inr (Or.inl rfl))
      refine ⟨L1.1.1, L1.1.2.1, rfl, ?_⟩
      rw [w_add1]
      refine p_weigh_i hc X k (o + 1) M1 (wC_K L1 W) (lip_trans L L1) (by omega) (fun c3 o3 h1 h2 => ?_) (fun o3 h1 => ?_)
      · rw [e1, I_ne (by omega)]; exact c1 c3 o3 h1 h2
      · rw [e1]
        by_cases e : o3 = o
        · rw [e, I_eq]; rfl
        · rw [I_ne (by omega)]; exact c2 o3 (by omega)
theorem p_weigh_o {d t n N K : Nat} {f : Nat → Nat} {Bs : BB} {M0 : mx_M} {Q : QQ}
    (hq : ∀ M1, wC M1 t n N K f Bs → lip cK M0 M1 → (∀ i, i < N → mx_I M1 42 i = w (cpR N K Bs i)) → mx_I M1 39 3 = w (fwA N K Bs (2 ^ N - 1)) → mx_I M1 39 4 = 1 → Q (.inl none) M1) :
    ∀ (k c : Nat) (M : mx_M), wC M t n N K f Bs → lip cK M0 M → c + k = N → (∀ c2 o2, c2 < c → o2 < N → mx_I M 40 (10 * c2 + o2) = w (htF K Bs c2 o2)) → mx_W m_X10_weighCompromise (d + 1 + 1 + 1) 2 [.ref 1, .int (w c), .retAddr 0] [] M Q
  | 0, c, M, W, L, hc, c1 => by
    have hb := W.2.1.2.2.1
    refine x_X10_weighCompromise_2 W.1 t W.2.1.1.1 W.2.1.1.2 _ ⟨fun _ => ?_, fun h => absurd ?_ h⟩
    · rw [W.2.1.2.1.1]
      exact p_settle W.1 hb.1 hb.2 (fun c2 o hc2 ho => c1 c2 o (by omega) ho) (fun M1 L1 d1 d2 d3 => ⟨L1.1.1, L1.1.2.1, rfl, hq M1 (wC_K L1 W) (lip_trans L L1) d1 d2 d3⟩)
    · rw [W.2.1.2.1.1, w_le (by omega) (by omega)]; omega
  | k + 1, c, M, W, L, hc, c1 => by
    have hb := W.2.1.2.2.1
    refine x_X10_weighCompromise_2 W.1 t W.2.1.1.1 W.2.1.1.2 _ ⟨fun h => ?_, fun _ => ?_⟩
    · rw [W.2.1.2.1.1, w_le (by omega) (by omega)] at h; omega
    · exact p_weigh_i (by omega) (fun M1 W1 L1 d1 => p_weigh_o hq k (c + 1) M1 W1 L1 (by omega) d1) N 0 M W L (Nat.zero_add N) c1 (fun o2 h => by omega)
/-- what is settled is right -/
def setC (M : mx_M) (N K : Nat) (Bs : BB) : Prop := mx_I M 39 4 = 0 ∨ ((∀ i, i < N → mx_I M 42 i = w (cpR N K Bs i)) ∧ mx_I M 39 3 = w (fwA N K Bs (2 ^ N - 1)))
theorem p_compromise {d t n N K : Nat} {v : Int32} {f : Nat → Nat} {Bs : BB} {M : mx_M} {Q : QQ} (W : wC M t n N K f Bs) (C : setC M N K Bs) (hr : rmE M)
    (h1 : v = -1 → ∀ M1, wC M1 t n N K f Bs → lip cK M M1 → setC M1 N K Bs → Q (.inl (some (.int (w (fwA N K Bs (2 ^ N - 1)))))) M1)
    (h3 : ∀ i, i < N → v = w i → ∀ M1, wC M1 t n N K f Bs → lip cK M M1 → setC M1 N K Bs → Q (.inl (some (.int (w (cpR N K Bs i))))) M1)
    (h2 : ¬ (v = -1 ∨ isIn v N) → Q (.inr NSE) (mx_thM M)) : mx_W m_X10_compromise (d + 1 + 1 + 1 + 1) 0 [.ref 1, .int v] [] M Q := by
  have hb := W.2.1.2.2.1
  refine x_X10_compromise_0 W.1 t W.2.1.1.1 W.2.1.1.2 _ ?_
  rw [W.2.1.2.1.1]
  have ans : ∀ M1, wC M1 t n N K f Bs → lip cK M M1 → ¬ v < -1 → v < w N → (∀ i, i < N → mx_I M1 42 i = w (cpR N K Bs i)) → mx_I M1 39 3 = w (fwA N K Bs (2 ^ N - 1)) → ((¬ v = (-1 : Int32) → (vp_in v 10 ∧ Q (.inl (some (.int (mx_I M1 42 v.toNatClampNeg)))) M1)) ∧ (v = (-1 : Int32) → Q (.inl (some (.int (mx_I M1 39 3)))) M1)) := by
    intro M1 W1 L1 z z2 d1 d2
    refine ⟨fun y => ?_, fun y => ?_⟩
    · obtain ⟨i, hi, rfl⟩ := isIn_of (by omega) (m1_nn z y) z2
      rw [w_nat (by omega), d1 i hi]
      exact ⟨w_in (by omega) (by omega), h3 i hi rfl M1 W1 L1 (Or.inr ⟨d1, d2⟩)⟩
    · rw [d2]; exact h1 y M1 W1 L1 (Or.inr ⟨d1, d2⟩)
  refine ⟨fun z => ⟨hr.1, hr.2, h2 (fun y => ?_)⟩, fun z => ⟨fun z2 => ⟨fun z3 => ?_, fun z3 => x_X10_weighCompromise_0 W.1 t W.2.1.1.1 W.2.1.1.2 (p_weigh_o (fun M1 W1 L1 d1 d2 d3 => ⟨L1.1.1, L1.1.2.1, rfl, ans M1 W1 L1 z z2 d1 d2⟩) N 0 M W (lip_refl _ _) (Nat.zero_add N) (fun c2 o2 h => by omega))⟩, fun z2 => ⟨hr.1, hr.2, h2 (fun y => ?_)⟩⟩⟩
  · rcases y with y | y
    · exact (m1_neg z).2 y
    · exact isIn_neg (by omega) (m1_neg z).1 y
  · rcases C with C | ⟨d1, d2⟩
    · exact absurd C z3
    · exact ans M W (lip_refl _ _) z z2 d1 d2
  · rcases y with y | y
    · rw [y] at z2; exact z2 (m1_w (by omega))
    · exact isIn_big (by omega) z2 y
