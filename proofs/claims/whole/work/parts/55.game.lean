/-! games of two clerks -/
theorem p_apartD_l {d t n N K o o2 : Nat} {f : Nat → Nat} {Bs : BB} {M : mx_M} {Q : QQ} (W : wC M t n N K f Bs) (ho : o < K) (ho2 : o2 < K) (i : Nat) (hi : i < n) (s9 : Nat)
    (X : mx_W m_X10_couplesApartInDrawer (d + 1 + 1 + 1) 5 [.ref 1, .int (w o), .int (w o2), .int (w s9), .int (w (i + 1)), .retAddr 0] [] M Q) :
    ∀ (k j s : Nat), j + k = n → s + cnt (fun j => Bs o (f i) (f j) != Bs o2 (f i) (f j)) j k = s9 → mx_W m_X10_couplesApartInDrawer (d + 1 + 1 + 1) 23 [.ref 1, .int (w o), .int (w o2), .int (w s), .int (w i), .int (w j)] [] M Q
  | 0, j, s, hj, e => by
    have h10 := W.2.2.1.2.1
    have e : s = s9 := e
    subst e
    refine x_X10_couplesApartInDrawer_23 W.1 t W.2.1.1.1 W.2.1.1.2 _ _ _ _ _ ⟨fun _ => ?_, fun h => absurd ?_ h⟩
    · rw [w_add1]; exact X
    · rw [W.2.2.1.1, w_le (by omega) (by omega)]; omega
  | k + 1, j, s, hj, e => by
    have h10 := W.2.2.1.2.1
    have o1 := W.2.2.1.2.2 i hi
    have o3 := W.2.2.1.2.2 j (by omega)
    refine x_X10_couplesApartInDrawer_23 W.1 t W.2.1.1.1 W.2.1.1.2 _ _ _ _ _ ⟨fun h => ?_, fun _ => ?_⟩
    · rw [W.2.2.1.1, w_le (by omega) (by omega)] at h; omega
    · rw [w_nat (n := i) (by omega), w_nat (n := j) (by omega), o1.1, o3.1]
      refine ⟨w_in (by omega) (by omega), w_in (by omega) (by omega), p_isApart W.1 W.2.1.1.1 W.2.1.1.2 (W.2.1.2.2.2 o ho) (W.2.1.2.2.2 o2 ho2) o1.2 o3.2 ⟨rfl, rfl, _, rfl, fun g => ?_, fun g => ?_⟩⟩
      · rw [cnt_no (p := fun j => Bs o (f i) (f j) != Bs o2 (f i) (f j)) (by rw [g]; decide)] at e
        rw [w_add1]
        exact p_apartD_l W ho ho2 i hi s9 X k (j + 1) s (by omega) e
      · rw [cnt_yes (p := fun j => Bs o (f i) (f j) != Bs o2 (f i) (f j)) g] at e
        rw [w_add1, w_add1]
        exact p_apartD_l W ho ho2 i hi s9 X k (j + 1) (s + 1) (by omega) (by omega)
/-- couples of the drawer that two clerks have otherwise -/
def apD (n : Nat) (f : Nat → Nat) (Bs : BB) (o o2 : Nat) : Nat := cpl (fun i j => Bs o (f i) (f j) != Bs o2 (f i) (f j)) 0 n
theorem p_apartD_m {d t n N K o o2 : Nat} {f : Nat → Nat} {Bs : BB} {M : mx_M} {Q : QQ} (W : wC M t n N K f Bs) (ho : o < K) (ho2 : o2 < K) :
    ∀ (k i s : Nat), i + k = n → Q (.inl (some (.int (w (s + cpl (fun i j => Bs o (f i) (f j) != Bs o2 (f i) (f j)) i k))))) M → mx_W m_X10_couplesApartInDrawer (d + 1 + 1 + 1) 5 [.ref 1, .int (w o), .int (w o2), .int (w s), .int (w i), .retAddr 0] [] M Q
  | 0, i, s, hi, hq => by
    have h10 := W.2.2.1.2.1
    refine x_X10_couplesApartInDrawer_5 W.1 t W.2.1.1.1 W.2.1.1.2 _ _ _ _ ⟨fun _ => hq, fun h => absurd ?_ h⟩
    rw [W.2.2.1.1, w_le (by omega) (by omega)]; omega
  | k + 1, i, s, hi, hq => by
    have h10 := W.2.2.1.2.1
    rw [cpl, ← Nat.add_assoc] at hq
    refine x_X10_couplesApartInDrawer_5 W.1 t W.2.1.1.1 W.2.1.1.2 _ _ _ _ ⟨fun h => ?_, fun _ => ?_⟩
    · rw [W.2.2.1.1, w_le (by omega) (by omega)] at h; omega
    · rw [w_add1]
      exact p_apartD_l W ho ho2 i (by omega) _ (p_apartD_m W ho ho2 k (i + 1) _ (by omega) hq) k (i + 1) s (by omega) rfl
theorem p_apartD {d t n N K o o2 : Nat} {f : Nat → Nat} {Bs : BB} {M : mx_M} {Q : QQ} (W : wC M t n N K f Bs) (ho : o < K) (ho2 : o2 < K) (hq : Q (.inl (some (.int (w (apD n f Bs o o2))))) M) : mx_W m_X10_couplesApartInDrawer (d + 1 + 1 + 1) 0 [.ref 1, .int (w o), .int (w o2), .retAddr 0, .retAddr 0, .retAddr 0] [] M Q :=
  x_X10_couplesApartInDrawer_0 W.1 t W.2.1.1.1 W.2.1.1.2 _ _ (p_apartD_m W ho ho2 n 0 0 (Nat.zero_add n) (by rw [Nat.zero_add]; exact hq))
/-- what a player loses -/
def lsF (pl x y ap mu : Nat) : Nat := if x = y then (if x = pl then 0 else ap) else mu
theorem lsF_le {pl x y ap mu : Nat} (h1 : ap ≤ 100) (h2 : mu ≤ 100) : lsF pl x y ap mu ≤ 100 := by
  unfold lsF
  split
  · split <;> omega
  · exact h2
theorem p_loss {d t pl x y ap mu : Nat} {M : mx_M} {Q : QQ} (T : mx_Tp M) (ht : mx_Cat t) (ht0 : mx_R M 1 10 = t) (hp : pl < 100) (hx : x < 100) (hy : y < 100) (hq : Q (.inl (some (.int (w (lsF pl x y ap mu))))) M) : mx_W m_X10_loss d 0 [.int (w pl), .int (w x), .int (w y), .int (w ap), .int (w mu)] [] M Q := by
  unfold lsF at hq
  refine x_X10_loss_0 T t ht ht0 _ _ _ _ _ ?_
  rw [w_inj (by omega) (by omega), w_inj (by omega) (by omega)]
  refine ⟨fun g => ⟨fun g2 => ?_, fun g2 => ?_⟩, fun g => ?_⟩
  · rw [if_pos g, if_neg g2] at hq; exact hq
  · rw [if_pos g, if_pos g2] at hq; exact hq
  · rw [if_neg g] at hq; exact hq
def rsF (x y ap mu : Nat) : Bool := decide (¬ lsF 0 (1 - x) y ap mu < lsF 0 x y ap mu) && decide (¬ lsF 1 x (1 - y) ap mu < lsF 1 x y ap mu)
theorem w_1m {x : Nat} (h : x ≤ 1) : 1 - w x = w (1 - x) := w_sub (a := 1) (b := x) h
theorem p_rests {d t x y ap mu : Nat} {M : mx_M} {Q : QQ} (T : mx_Tp M) (ht : mx_Cat t) (ht0 : mx_R M 1 10 = t) (hx : x ≤ 1) (hy : y ≤ 1) (h1 : ap ≤ 100) (h2 : mu ≤ 100) (hq : Q (.inl (some (.int (mx_b (rsF x y ap mu))))) M) : mx_W m_X10_rests (d + 1) 0 [.int (w x), .int (w y), .int (w ap), .int (w mu)] [] M Q := by
  have a1 := lsF_le (pl := 0) (x := 1 - x) (y := y) h1 h2
  have a2 := lsF_le (pl := 0) (x := x) (y := y) h1 h2
  have a3 := lsF_le (pl := 1) (x := x) (y := 1 - y) h1 h2
  have a4 := lsF_le (pl := 1) (x := x) (y := y) h1 h2
  unfold rsF at hq
  refine x_X10_rests_0 T t ht ht0 _ _ _ _ ?_
  rw [w_1m hx, w_1m hy]
  refine p_loss (pl := 0) T ht ht0 (by omega) (by omega) (by omega) ⟨rfl, rfl, _, rfl, p_loss (pl := 0) T ht ht0 (by omega) (by omega) (by omega) ⟨rfl, rfl, _, rfl, ?_⟩⟩
  rw [w_lt (by omega) (by omega)]
  refine ⟨fun g => ?_, fun g => p_loss (pl := 1) T ht ht0 (by omega) (by omega) (by omega) ⟨rfl, rfl, _, rfl, p_loss (pl := 1) T ht ht0 (by omega) (by omega) (by omega) ⟨rfl, rfl, _, rfl, ?_⟩⟩⟩
  · rw [decide_eq_false (fun z => z g), Bool.false_and] at hq; exact hq
  · rw [w_lt (by omega) (by omega)]
    rw [decide_eq_true g, Bool.true_and] at hq
    refine ⟨fun g2 => ?_, fun g2 => ?_⟩
    · rw [decide_eq_false (fun z => z g2)] at hq; exact hq
    · rw [decide_eq_true g2] at hq; exact hq
def gmF (ap mu : Nat) : Nat → Nat → Nat → Option Nat → Nat × Option Nat
  | _, 0, s, fs => (s, fs)
  | i, k + 1, s, fs => if rsF (i / 2) (i % 2) ap mu then gmF ap mu (i + 1) k (s + 1) (if fs.isNone then some (10 * (i / 2) + i % 2) else fs) else gmF ap mu (i + 1) k s fs
theorem w_half {i : Nat} (hi : i < 100) : w i / 2 = w (i / 2) ∧ w i - w (i / 2) * 2 = w (i % 2) := by
  have a : w i / 2 = w (i / 2) := by rw [show (2 : Int32) = w 2 from rfl, w_div (by omega) (by omega)]
  refine ⟨a, ?_⟩
  rw [show (2 : Int32) = w 2 from rfl, w_mul, w_sub (by omega)]
  congr 1
  omega
def gmA (v : Int32) (z : Nat × Option Nat) : Int32 := if v = 0 then w z.1 else onW z.2
theorem p_game_l {d t n N K ap mu : Nat} {v : Int32} {f : Nat → Nat} {Bs : BB} {M : mx_M} {Q : QQ} (W : wC M t n N K f Bs) (h1 : ap ≤ 100) (h2 : mu ≤ 100) :
    ∀ (k i s : Nat) (fs : Option Nat), i + k = 4 → (∀ z, fs = some z → z < 100) → Q (.inl (some (.int (gmA v (gmF ap mu i k s fs))))) M → mx_W m_X10_game (d + 1 + 1) 58 [.retAddr 0, .retAddr 0, .retAddr 0, .int (w mu), .int v, .int (w ap), .int (w s), .int (onW fs), .int (w i), .retAddr 0, .retAddr 0] [] M Q
  | 0, i, s, fs, hi, hf, hq => by
    unfold gmA at hq
    refine x_X10_game_58 W.1 t W.2.1.1.1 W.2.1.1.2 _ _ _ _ _ _ ⟨fun _ => ⟨fun z => ?_, fun z => ?_⟩, fun h => absurd ?_ h⟩
    · rw [if_neg z] at hq; exact hq
    · rw [if_pos z] at hq; exact hq
    · rw [show (4 : Int32) = w 4 from rfl, w_le (by omega) (by omega)]; omega
  | k + 1, i, s, fs, hi, hf, hq => by
    rw [gmF] at hq
    refine x_X10_game_58 W.1 t W.2.1.1.1 W.2.1.1.2 _ _ _ _ _ _ ⟨fun h => ?_, fun _ => ?_⟩
    · rw [show (4 : Int32) = w 4 from rfl, w_le (by omega) (by omega)] at h; omega
    · rw [(w_half (show i < 100 by omega)).1, (w_half (show i < 100 by omega)).2]
      refine p_rests W.1 W.2.1.1.1 W.2.1.1.2 (by omega) (by omega) h1 h2 ⟨rfl, rfl, _, rfl, fun g => ?_, fun g => ?_⟩
      · rw [g, if_neg (by decide)] at hq
        rw [w_add1]
        exact p_game_l W h1 h2 k (i + 1) s fs (by omega) hf hq
      · rw [g, if_pos rfl] at hq
        rw [w_add1, w_add1, w_10]
        cases fs with
        | none =>
          have := p_game_l (d := d) W h1 h2 k (i + 1) (s + 1) _ (by omega) (fun z e => by cases e; omega) hq
          exact ⟨fun z => absurd rfl z, fun _ => this⟩
        | some z9 =>
          have := p_game_l (d := d) W h1 h2 k (i + 1) (s + 1) (some z9) (by omega) hf hq
          exact ⟨fun _ => this, fun z => absurd z (w_ne1 (by have := hf z9 rfl; omega))⟩
theorem apD_le {n : Nat} (f : Nat → Nat) (Bs : BB) (o o2 : Nat) (hn : n ≤ 10) : apD n f Bs o o2 ≤ 100 := by
  have := cpl_le (fun i j => Bs o (f i) (f j) != Bs o2 (f i) (f j)) n 0 hn
  unfold apD; omega
/-- what is asked of a game -/
def gmP (v1 v2 v3 : Int32) : Prop := ¬ v1 = v2 ∧ isIn v3 100
theorem p_game {d t n N K : Nat} {v1 v2 v3 v4 : Int32} {f : Nat → Nat} {Bs : BB} {M : mx_M} {Q : QQ} (W : wC M t n N K f Bs) (hr : rmE M)
    (h1 : ∀ c e mu, c < K → e < K → ¬ c = e → mu < 100 → v1 = w c → v2 = w e → v3 = w mu → isIn v4 2 → Q (.inl (some (.int (gmA v4 (gmF (apD n f Bs c e) mu 0 4 0 none))))) M)
    (h2 : ¬ (isIn v1 K ∧ isIn v2 K ∧ isIn v4 2) → Q (.inr NSE) (mx_thM M)) (h3 : isIn v1 K → isIn v2 K → isIn v4 2 → ¬ gmP v1 v2 v3 → Q (.inr IAE) (mx_thM M)) : mx_W m_X10_game (d + 1 + 1 + 1 + 1) 0 [.ref 1, .int v1, .int v2, .int v3, .int v4, .retAddr 0, .retAddr 0, .retAddr 0, .retAddr 0, .retAddr 0, .retAddr 0] [] M Q := by
  have hb := W.2.1.2.2.1
  have h10 := W.2.2.1.2.1
  refine x_X10_game_0 W.1 t W.2.1.1.1 W.2.1.1.2 _ _ _ _ (c_clerkG W hr (fun g => ⟨rfl, rfl, Or.inl ⟨rfl, c_clerkG W hr (fun g2 => ⟨rfl, rfl, Or.inl ⟨rfl, c_zoG W hr (fun g3 => ⟨rfl, rfl, Or.inl ⟨rfl, fun z => ⟨hr.1, hr.2, h3 g g2 g3 (fun y => y.1 z)⟩, fun z => ⟨fun z2 => ⟨hr.1, hr.2, h3 g g2 g3 (fun y => isIn_neg (by decide) z2 y.2)⟩, fun z2 => ⟨fun z3 => ?_, fun z3 => ⟨hr.1, hr.2, h3 g g2 g3 (fun y => isIn_big (by decide) (fun q => z3 ?_) y.2)⟩⟩⟩⟩⟩) (fun g3 => ⟨rfl, rfl, Or.inr ⟨_, rfl, h2 (fun z => g3 z.2.2)⟩⟩)⟩⟩) (fun g2 => ⟨rfl, rfl, Or.inr ⟨_, rfl, h2 (fun z => g2 z.2.1)⟩⟩)⟩⟩) (fun g => ⟨rfl, rfl, Or.inr ⟨_, rfl, h2 (fun z => g z.1)⟩⟩))
  · rw [show (99 : Int32) = w 99 from rfl, le_lt1 (by decide)] at z3
    obtain ⟨mu, hmu, rfl⟩ := isIn_of (n := 100) (by decide) z2 z3
    obtain ⟨c, hc, rfl⟩ := g
    obtain ⟨e, he, rfl⟩ := g2
    rw [w_inj (by omega) (by omega)] at z
    exact p_apartD W hc he ⟨rfl, rfl, _, rfl, p_game_l (d := d + 1 + 1) W (apD_le _ _ _ _ h10.1) (by omega) 4 0 0 none rfl (fun z e => by cases e) (h1 c e mu hc he z hmu rfl rfl rfl g3)⟩
  · rw [show (99 : Int32) = w 99 from rfl, le_lt1 (by decide)]; exact q
theorem q_wrongBy {d n N K o o2 : Nat} {f : Nat → Nat} {Bs : BB} {M : mx_M} {Q : QQ} (W : wM M n N K f Bs) (ho : o < K) (ho2 : o2 < K) (hq : ∀ M1, wM M1 n N K f Bs → lip mQ M M1 → Q (.inl (some (.int (w (wrb (srtF (Bs o2) 1 (n - 1) f) (Bs o) 0 n))))) M1) : mx_W m_X11_wrongBy (d + 4 + 1 + 1) 0 [.ref 58, .int (w o), .int (w o2)] [] M Q :=
  x_X11_wrongBy_0 W.1 _ _ (q_copyThen W (fun M2 W2 L2 R2 => ⟨L2.1.1, L2.1.2.1, rfl, q_fileThen W2 ho2 R2 (fun M3 W3 L3 R3 => ⟨L3.1.1, L3.1.2.1, rfl, p_wrongIn W3.1 rfl (by intro z; rcases z with z | z <;> omega) (W3.2.1.2.2 o ho) R3 (fun M4 L4 => ⟨L4.1.1, L4.1.2.1, _, rfl, hq M4 (wM_q (sc_q L4) W3) (lip_trans L2 (lip_trans L3 (sc_q L4)))⟩)⟩)⟩))
/-- the clerk of a player -/
def plK (c e pl : Nat) : Nat := if pl = 0 then c else e
theorem wrb_pl {N n K c e pl x : Nat} {f : Nat → Nat} {Bs : BB} (S : ∀ o, o < K → sto N (Bs o)) (hf : ∀ a, a < n → f a < N) (D : dst n f) (hc : c < K) (he : e < K) (hpl : pl ≤ 1) (hx : x ≤ 1) : wrb (srtF (Bs (plK c e x)) 1 (n - 1) f) (Bs (plK c e pl)) 0 n = if x = pl then 0 else apD n f Bs c e := by
  have hk : plK c e x < K := by unfold plK; split <;> assumption
  by_cases g : x = pl
  · rw [if_pos g, g]
    rw [g] at hk
    exact game_own (S _ hk) hf D
  · rw [if_neg g]
    rcases (show (x = 0 ∧ pl = 1) ∨ (x = 1 ∧ pl = 0) by omega) with ⟨rfl, rfl⟩ | ⟨rfl, rfl⟩
    · exact game_eq (S c hc) (S e he) hf D
    · refine (game_eq (S e he) (S c hc) hf D).trans (cpl_congr n 0 (fun a b _ _ _ => ?_))
      cases Bs e (f a) (f b) <;> cases Bs c (f a) (f b) <;> rfl
theorem q_loses {d n N K c e pl x y mu : Nat} {f : Nat → Nat} {Bs : BB} {M : mx_M} {Q : QQ} (W : wM M n N K f Bs) (S : ∀ o, o < K → sto N (Bs o)) (D : dst n f) (hc : c < K) (he : e < K) (hpl : pl ≤ 1) (hx : x ≤ 1) (hy : y ≤ 1)
    (hq : ∀ M1, wM M1 n N K f Bs → lip mQ M M1 → Q (.inl (some (.int (w (lsF pl x y (apD n f Bs c e) mu))))) M1) : mx_W m_X11_loses (d + 4 + 1 + 1 + 1) 0 [.ref 58, .int (w (plK c e pl)), .int (w c), .int (w e), .int (w x), .int (w y), .int (w mu)] [] M Q := by
  have hk : plK c e pl < K := by unfold plK; split <;> assumption
  have key := wrb_pl S (row_lt W) D hc he hpl hx
  unfold lsF at hq
  refine x_X11_loses_0 W.1 _ _ _ _ _ _ ?_
  rw [w_inj (by omega) (by omega), show (0 : Int32) = w 0 from rfl, w_inj (by omega) (by omega)]
  refine ⟨fun g => ⟨fun g2 => ?_, fun g2 => ?_⟩, fun g => ?_⟩
  · refine q_wrongBy W hk he (fun M1 W1 L1 => ⟨L1.1.1, L1.1.2.1, _, rfl, ?_⟩)
    have H := hq M1 W1 L1
    rw [if_pos g, ← key, show plK c e x = e from if_neg g2] at H
    exact H
  · refine q_wrongBy W hk hc (fun M1 W1 L1 => ⟨L1.1.1, L1.1.2.1, _, rfl, ?_⟩)
    have H := hq M1 W1 L1
    rw [if_pos g, ← key, show plK c e x = c from if_pos g2] at H
    exact H
  · have H := hq M W (lip_refl _ _)
    rw [if_neg g] at H
    exact H
theorem q_game_l {d n N K c e mu : Nat} {v : Int32} {f : Nat → Nat} {Bs : BB} {M0 : mx_M} {Q : QQ} (S : ∀ o, o < K → sto N (Bs o)) (D : dst n f) (hc : c < K) (he : e < K) (hmu : mu ≤ 100) (z9 : Nat × Option Nat) (hq : ∀ M1, wM M1 n N K f Bs → lip mQ M0 M1 → Q (.inl (some (.int (gmA v z9)))) M1) :
    ∀ (k i s : Nat) (fs : Option Nat) (M : mx_M), wM M n N K f Bs → lip mQ M0 M → i + k = 4 → (∀ z, fs = some z → z < 100) → gmF (apD n f Bs c e) mu i k s fs = z9 → mx_W m_X11_game (d + 4 + 1 + 1 + 1 + 1) 70 [.ref 58, .int (w c), .int (w e), .int (w mu), .int v, .int (w s), .int (onW fs), .int (w i), .retAddr 0, .retAddr 0] [] M Q
  | 0, i, s, fs, M, W, L, hi, hf, e9 => by
    have e9 : (s, fs) = z9 := e9
    subst e9
    have H := hq M W L
    unfold gmA at H
    refine x_X11_game_70 W.1 _ _ _ _ _ _ _ ⟨fun _ => ⟨fun z => ?_, fun z => ?_⟩, fun h => absurd ?_ h⟩
    · rw [if_neg z] at H; exact H
    · rw [if_pos z] at H; exact H
    · rw [show (4 : Int32) = w 4 from rfl, w_le (by omega) (by omega)]; omega
  | k + 1, i, s, fs, M, W, L, hi, hf, e9 => by
    have hap := apD_le f Bs c e W.2.2.2.1.1
    rw [gmF] at e9
    have no : rsF (i / 2) (i % 2) (apD n f Bs c e) mu = false → ∀ M1, wM M1 n N K f Bs → lip mQ M M1 → mx_W m_X11_game (d + 4 + 1 + 1 + 1 + 1) 70 [.ref 58, .int (w c), .int (w e), .int (w mu), .int v, .int (w s), .int (onW fs), .int (w i + 1), .retAddr 0, .retAddr 0] [] M1 Q := by
      intro g M1 W1 L1
      rw [g, if_neg (by decide)] at e9
      rw [w_add1]
      exact q_game_l S D hc he hmu z9 hq k (i + 1) s fs M1 W1 (lip_trans L L1) (by omega) hf e9
    have a1 := lsF_le (pl := 0) (x := 1 - i / 2) (y := i % 2) hap hmu
    have a2 := lsF_le (pl := 0) (x := i / 2) (y := i % 2) hap hmu
    have a3 := lsF_le (pl := 1) (x := i / 2) (y := 1 - i % 2) hap hmu
    have a4 := lsF_le (pl := 1) (x := i / 2) (y := i % 2) hap hmu
    refine x_X11_game_70 W.1 _ _ _ _ _ _ _ ⟨fun h => ?_, fun _ => ?_⟩
    · rw [show (4 : Int32) = w 4 from rfl, w_le (by omega) (by omega)] at h; omega
    · rw [(w_half (show i < 100 by omega)).1, (w_half (show i < 100 by omega)).2, w_1m (show i / 2 ≤ 1 by omega), w_1m (show i % 2 ≤ 1 by omega)]
      refine q_loses (pl := 0) W S D hc he (by omega) (by omega) (by omega) (fun M1 W1 L1 => ⟨L1.1.1, L1.1.2.1, _, rfl, q_loses (pl := 0) W1 S D hc he (by omega) (by omega) (by omega) (fun M2 W2 L2 => ⟨L2.1.1, L2.1.2.1, _, rfl, fun g => no ?_ M2 W2 (lip_trans L1 L2), fun g => q_loses (pl := 1) W2 S D hc he (by omega) (by omega) (by omega) (fun M3 W3 L3 => ⟨L3.1.1, L3.1.2.1, _, rfl, q_loses (pl := 1) W3 S D hc he (by omega) (by omega) (by omega) (fun M4 W4 L4 => ⟨L4.1.1, L4.1.2.1, _, rfl, fun g2 => ?_, fun g2 => no ?_ M4 W4 (lip_trans L1 (lip_trans L2 (lip_trans L3 L4)))⟩)⟩)⟩)⟩)
      · rw [w_lt (by omega) (by omega)] at g
        unfold rsF
        rw [decide_eq_false (fun z => z g)]; rfl
      · rw [w_lt (by omega) (by omega)] at g
        rw [w_le (by omega) (by omega)] at g2
        have yes : rsF (i / 2) (i % 2) (apD n f Bs c e) mu = true := by
          unfold rsF
          rw [decide_eq_true g, decide_eq_true (show ¬ lsF 1 (i / 2) (1 - i % 2) (apD n f Bs c e) mu < lsF 1 (i / 2) (i % 2) (apD n f Bs c e) mu by omega)]; rfl
        rw [yes, if_pos rfl] at e9
        rw [w_add1, w_add1, w_10]
        have LL := lip_trans L (lip_trans L1 (lip_trans L2 (lip_trans L3 L4)))
        cases fs with
        | none =>
          have := q_game_l (d := d) S D hc he hmu z9 hq k (i + 1) (s + 1) _ M4 W4 LL (by omega) (fun z e => by cases e; omega) e9
          exact ⟨fun z => absurd rfl z, fun _ => this⟩
        | some q9 =>
          have := q_game_l (d := d) S D hc he hmu z9 hq k (i + 1) (s + 1) (some q9) M4 W4 LL (by omega) hf e9
          exact ⟨fun _ => this, fun z => absurd z (w_ne1 (by have := hf q9 rfl; omega))⟩
      · rw [w_le (by omega) (by omega)] at g2
        unfold rsF
        rw [decide_eq_false (show ¬ ¬ lsF 1 (i / 2) (1 - i % 2) (apD n f Bs c e) mu < lsF 1 (i / 2) (i % 2) (apD n f Bs c e) mu by omega), Bool.and_false]
theorem q_game {d n N K : Nat} {v1 v2 v3 v4 : Int32} {f : Nat → Nat} {Bs : BB} {M : mx_M} {Q : QQ} (W : wM M n N K f Bs) (S : ∀ o, o < K → sto N (Bs o)) (D : dst n f)
    (h1 : ∀ c e mu, c < K → e < K → ¬ c = e → mu < 100 → v1 = w c → v2 = w e → v3 = w mu → isIn v4 2 → ∀ M1, wM M1 n N K f Bs → lip mQ (mx_setI M 58 0 0) M1 → Q (.inl (some (.int (gmA v4 (gmF (apD n f Bs c e) mu 0 4 0 none))))) M1)
    (h2 : ¬ (isIn v1 K ∧ isIn v2 K ∧ isIn v4 2) → Q (.inl (some (.int 0))) (mx_setI (mx_setI M 58 0 0) 58 0 1)) (h3 : isIn v1 K → isIn v2 K → isIn v4 2 → ¬ gmP v1 v2 v3 → Q (.inl (some (.int 0))) (mx_setI (mx_setI M 58 0 0) 58 0 2)) : mx_W m_X11_game (d + 4 + 1 + 1 + 1 + 1) 0 [.ref 58, .int v1, .int v2, .int v3, .int v4, .retAddr 0, .retAddr 0, .retAddr 0, .retAddr 0, .retAddr 0] [] M Q :=
  x_X11_game_0 W.1 _ _ _ _ (fun M1 e1 => by
    subst e1
    have W1 := wM_0 (v := 0) W
    have hb := W1.2.1.2.1
    refine q_isClerk W1 I_eq (fun g => ⟨rfl, rfl, _, rfl, fun z => (by cases z), fun _ => q_isClerk W1 I_eq (fun g2 => ⟨rfl, rfl, _, rfl, fun z => (by cases z), fun _ => p_isWhat (n := 1) W1.1 I_eq (by decide) (fun g3 => ⟨rfl, rfl, _, rfl, fun z => (by cases z), fun _ => ?_⟩) (fun g3 => ⟨rfl, rfl, _, rfl, fun _ => h2 (fun z => g3 z.2.2), fun z => (by cases z)⟩)⟩) (fun g2 => ⟨rfl, rfl, _, rfl, fun _ => h2 (fun z => g2 z.2.1), fun z => (by cases z)⟩)⟩) (fun g => ⟨rfl, rfl, _, rfl, fun _ => h2 (fun z => g z.1), fun z => (by cases z)⟩)
    refine ⟨fun z => p_rightF W1.1 I_eq (by decide) ⟨rfl, rfl, _, rfl, fun q => (by cases q), fun _ => h3 g g2 g3 (fun y => y.1 z)⟩, fun z => x_X11_within_0 W1.1 _ _ _ ⟨fun z2 => ⟨rfl, rfl, false, rfl, fun _ => p_rightF W1.1 I_eq (by decide) ⟨rfl, rfl, _, rfl, fun q => (by cases q), fun _ => h3 g g2 g3 (fun y => isIn_neg (by decide) z2 y.2)⟩, fun q => (by cases q)⟩, fun z2 => ⟨fun z3 => ⟨rfl, rfl, false, rfl, fun _ => p_rightF W1.1 I_eq (by decide) ⟨rfl, rfl, _, rfl, fun q => (by cases q), fun _ => h3 g g2 g3 (fun y => isIn_big (by decide) (fun q => ?_) y.2)⟩, fun q => (by cases q)⟩, fun z3 => ⟨rfl, rfl, true, rfl, fun q => (by cases q), fun _ => p_rightT W1.1 I_eq ⟨rfl, rfl, _, rfl, fun _ => ?_, fun q => (by cases q)⟩⟩⟩⟩⟩
    · rw [← le_lt1 (a := 99) (by decide)] at q
      exact Int32.not_lt.mpr q z3
    · have z4 : v3 ≤ w 99 := Int32.not_lt.mp z3
      rw [le_lt1 (by decide)] at z4
      obtain ⟨mu, hmu, rfl⟩ := isIn_of (n := 100) (by decide) z2 z4
      obtain ⟨c, hc, rfl⟩ := g
      obtain ⟨e, he, rfl⟩ := g2
      rw [w_inj (by omega) (by omega)] at z
      exact q_game_l S D hc he (by omega) _ (h1 c e mu hc he z hmu rfl rfl rfl g3) 4 0 0 none _ W1 (lip_refl _ _) rfl (fun z e => by cases e) rfl)
