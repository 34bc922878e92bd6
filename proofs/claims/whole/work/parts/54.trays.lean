/-! trays and their guides; games -/
theorem m1_neg {v : Int32} (h : v < -1) : v < 0 ∧ ¬ v = -1 := by
  rw [Int32.lt_iff_toInt_lt, show (-1 : Int32).toInt = -1 from by decide] at h
  refine ⟨?_, fun e => ?_⟩
  · rw [Int32.lt_iff_toInt_lt, show (0 : Int32).toInt = 0 from rfl]; omega
  · rw [e, show (-1 : Int32).toInt = -1 from by decide] at h; omega
theorem m1_nn {v : Int32} (h : ¬ v < -1) (h2 : ¬ v = -1) : ¬ v < 0 := by
  rw [Int32.lt_iff_toInt_lt, show (-1 : Int32).toInt = -1 from by decide] at h
  rw [← Int32.toInt_inj, show (-1 : Int32).toInt = -1 from by decide] at h2
  rw [Int32.lt_iff_toInt_lt, show (0 : Int32).toInt = 0 from rfl]
  omega
theorem m1_w {q : Nat} (hq : q < 1000000) : (-1 : Int32) < w q := by
  rw [Int32.lt_iff_toInt_lt, w_int (by omega), show (-1 : Int32).toInt = -1 from by decide]; omega
theorem tr_q {n m : Nat} (hn : n ≤ 10) (hm : m ≤ 10) (h1 : 1 ≤ m) : (w n + w m - 1) / w m = w ((n + m - 1) / m) := by
  rw [w_add, show w (n + m) - 1 = w (n + m - 1) from w_sub (a := n + m) (b := 1) (by omega), w_div (by omega) (by omega)]
theorem tr_le {n m r : Nat} (h : r < (n + m - 1) / m) (h1 : 1 ≤ m) : r * m < n := by
  have a := Nat.div_mul_le_self (n + m - 1) m
  have b : (r + 1) * m ≤ (n + m - 1) / m * m := Nat.mul_le_mul_right m h
  have c : (r + 1) * m = r * m + m := Nat.succ_mul r m
  omega
theorem tr_bd {n m : Nat} (hn : n ≤ 10) (h1 : 1 ≤ m) : (n + m - 1) / m ≤ 10 := by
  have a := Nat.div_mul_le_self (n + m - 1) m
  rcases Nat.lt_or_ge 10 ((n + m - 1) / m) with h | h
  · have b : 11 * m ≤ (n + m - 1) / m * m := Nat.mul_le_mul_right m h
    omega
  · exact h
abbrev cT : Nat → Nat → Prop := fun k _ => k = 33 ∨ k = 34
theorem wC_T {M M1 : mx_M} {t n N K : Nat} {f : Nat → Nat} {Bs : BB} (L : lip cT M M1) (W : wC M t n N K f Bs) : wC M1 t n N K f Bs :=
  wC_of L (fun k j h => by rcases h with h | h <;> rcases W.2.1.1.1 with e | e <;> omega) W
theorem kyC_of {P : Nat → Nat → Prop} {M M1 : mx_M} {N K : Nat} {kl : Nat → Nat → Nat} {ks : Nat → Nat → Nat → Nat} (L : lip P M M1) (hP : ∀ a j, P a j → ¬ a = 25 ∧ ¬ a = 26) (A : kyC M N K kl ks) : kyC M1 N K kl ks := by
  intro o x ho hx
  have a := A o x ho hx
  refine ⟨a.1, a.2.1, ?_, fun i hi => ?_⟩
  · rw [(L.2 26 _ (fun h => (hP _ _ h).2 rfl)).1]; exact a.2.2.1
  · rw [(L.2 25 _ (fun h => (hP _ _ h).1 rfl)).1]; exact a.2.2.2 i hi
theorem r33 {M M1 : mx_M} (h : lik (rowP 33) M M1) : lip cT M M1 := lip_of h (fun k j hk => hk)
/-- the guide of a tray -/
def guF (n m : Nat) (f : Nat → Nat) (B : Nat → Nat → Bool) (kl : Nat → Nat) (ks : Nat → Nat → Nat) (r : Nat) : Nat :=
  mn (kl (srtF B 1 (n - 1) f (r * m))) (alk (kl (srtF B 1 (n - 1) f (r * m))) (ks (srtF B 1 (n - 1) f (r * m))) (kl (srtF B 1 (n - 1) f (r * m - 1))) (ks (srtF B 1 (n - 1) f (r * m - 1))) + 1)
theorem p_guide {d t n N K o m r : Nat} {f : Nat → Nat} {Bs : BB} {kl : Nat → Nat → Nat} {ks : Nat → Nat → Nat → Nat} {M : mx_M} {Q : QQ} (W : wC M t n N K f Bs) (Ky : kyC M N K kl ks) (ho : o < K) (h1 : 1 ≤ m) (hr : 1 ≤ r) (hr2 : r < (n + m - 1) / m)
    (hq : ∀ M1, wC M1 t n N K f Bs → lip cT M M1 → Q (.inl (some (.int (w (guF n m f (Bs o) (kl o) (ks o) r))))) M1) : mx_W m_X10_guide (d + 1 + 1 + 1) 0 [.ref 1, .int (w o), .int (w (r * m))] [] M Q := by
  have hlt := tr_le hr2 h1
  have hge : 1 ≤ r * m := Nat.mul_le_mul hr h1
  have h10 := W.2.2.1.2.1
  refine x_X10_guide_0 W.1 t W.2.1.1.1 W.2.1.1.2 _ _ (p_copyRow W.1 W.2.2.1 (fun M1 L1 R1 => ⟨L1.1.1, L1.1.2.1, rfl, ?_⟩))
  have W1 := wC_T (r33 L1) W
  refine p_sort W1.1 (Or.inr rfl) R1 (W1.2.1.2.2.2 o ho) (fun M2 L2 R2 => ⟨L2.1.1, L2.1.2.1, rfl, ?_⟩)
  have W2 := wC_T (r33 L2) W1
  have L := lip_trans (r33 L1) (r33 L2)
  have Ky2 := kyC_of L (fun a j h => by rcases h with h | h <;> omega) Ky
  have o1 := R2.2.2 (r * m) hlt
  have o2 := R2.2.2 (r * m - 1) (by omega)
  rw [R2.1, show w (r * m) - 1 = w (r * m - 1) from w_sub (a := r * m) (b := 1) hge, w_nat (n := r * m) (by omega), w_nat (n := r * m - 1) (by omega), o1.1, o2.1, show (1 : Int32) = w 1 from rfl, w_lt (by omega) (by omega), w_lt (by omega) (by omega)]
  refine ⟨fun z => by omega, fun _ => ⟨fun _ => ⟨w_in (by omega) (by omega), w_in (by omega) (by omega), p_guideLen W2.1 (Ky2 o _ ho o1.2) (Ky2 o _ ho o2.2) ⟨rfl, rfl, _, rfl, hq M2 W2 L⟩⟩, fun z => by omega⟩⟩
theorem p_trays {d t n N K : Nat} {v1 v2 v3 : Int32} {f : Nat → Nat} {Bs : BB} {kl : Nat → Nat → Nat} {ks : Nat → Nat → Nat → Nat} {M : mx_M} {Q : QQ} (W : wC M t n N K f Bs) (Ky : kyC M N K kl ks) (hr : rmE M)
    (h1 : ∀ o m, o < K → 1 ≤ m → m ≤ 10 → v1 = w o → v2 = w m → (v3 = -1 → Q (.inl (some (.int (w ((n + m - 1) / m))))) M) ∧ (v3 = 0 → 0 < (n + m - 1) / m → Q (.inl (some (.int 0))) M) ∧ (∀ r, 1 ≤ r → r < (n + m - 1) / m → v3 = w r → ∀ M1, wC M1 t n N K f Bs → lip cT M M1 → Q (.inl (some (.int (w (guF n m f (Bs o) (kl o) (ks o) r))))) M1) ∧ (¬ (v3 = -1 ∨ isIn v3 ((n + m - 1) / m)) → Q (.inr NSE) (mx_thM M)))
    (h2 : ¬ isIn v1 K → Q (.inr NSE) (mx_thM M)) (h3 : isIn v1 K → ¬ (isIn v2 11 ∧ ¬ v2 = 0) → Q (.inr IAE) (mx_thM M)) : mx_W m_X10_trays (d + 1 + 1 + 1 + 1) 0 [.ref 1, .int v1, .int v2, .int v3, .retAddr 0] [] M Q := by
  have h10 := W.2.2.1.2.1
  refine x_X10_trays_0 W.1 t W.2.1.1.1 W.2.1.1.2 _ _ _ (c_clerkG W hr (fun g => ⟨rfl, rfl, Or.inl ⟨rfl, fun z => ⟨hr.1, hr.2, h3 g (fun y => ?_)⟩, fun z => ⟨fun z2 => ?_, fun z2 => ⟨hr.1, hr.2, h3 g (fun y => ?_)⟩⟩⟩⟩) (fun g => ⟨rfl, rfl, Or.inr ⟨_, rfl, h2 g⟩⟩))
  · obtain ⟨m, hm, rfl⟩ := y.1
    rw [show (1 : Int32) = w 1 from rfl, w_lt (by omega) (by omega)] at z
    exact y.2 (by rw [show m = 0 by omega]; rfl)
  · have z3 : isIn v2 11 := by
      refine isIn_of (by decide) (fun y => z ?_) ?_
      · rw [Int32.lt_iff_toInt_lt, show (0 : Int32).toInt = 0 from rfl] at y
        rw [Int32.lt_iff_toInt_lt, show (1 : Int32).toInt = 1 from rfl]; omega
      · rw [← le_lt1 (a := 10) (by decide)]; exact z2
    obtain ⟨m, hm, rfl⟩ := z3
    obtain ⟨o, ho, rfl⟩ := g
    rw [show (1 : Int32) = w 1 from rfl, w_lt (by omega) (by omega)] at z
    have hbd := tr_bd h10.1 (show 1 ≤ m by omega)
    have H := h1 o m ho (by omega) (by omega) rfl rfl
    rw [W.2.2.1.1, tr_q h10.1 (by omega) (by omega)]
    refine ⟨fun y => ?_, fun y => ⟨hr.1, hr.2, H.2.2.2 (fun q => ?_)⟩, fun y => ⟨fun y2 => ⟨fun y3 => ⟨fun y4 => ?_, fun y4 => H.2.1 y4 ?_⟩, fun y3 => H.1 y3⟩, fun y2 => ⟨hr.1, hr.2, H.2.2.2 (fun q => ?_)⟩⟩⟩
    · rw [show (0 : Int32) = w 0 from rfl, w_inj (by omega) (by omega)] at y; omega
    · rcases q with q | q
      · exact (m1_neg y).2 q
      · exact isIn_neg (by omega) (m1_neg y).1 q
    · obtain ⟨r, hr9, rfl⟩ := isIn_of (by omega) (m1_nn y y3) y2
      rw [show (0 : Int32) = w 0 from rfl, w_inj (by omega) (by omega)] at y4
      rw [w_mul]
      exact p_guide W Ky ho (by omega) (by omega) hr9 (fun M1 W1 L1 => ⟨L1.1.1, L1.1.2.1, _, rfl, H.2.2.1 r (by omega) hr9 rfl M1 W1 L1⟩)
    · rw [y4, show (0 : Int32) = w 0 from rfl, w_lt (by omega) (by omega)] at y2; exact y2
    · rcases q with q | q
      · rw [q] at y2; exact y2 (m1_w (by omega))
      · exact isIn_big (by omega) y2 q
  · obtain ⟨m, hm, rfl⟩ := y.1
    rw [show (10 : Int32) = w 10 from rfl, w_le (by omega) (by omega)] at z2; omega
theorem mn_comm (a b : Nat) : mn a b = mn b a := by
  unfold mn
  split <;> split <;> omega
theorem alk_comm (l : Nat) (k : Nat → Nat) (l2 : Nat) (k2 : Nat → Nat) : alk l k l2 k2 = alk l2 k2 l k := by
  unfold alk
  rw [mn_comm]
  refine fnd_congr 0 _ (fun j _ _ => ?_)
  by_cases e : k j = k2 j
  · rw [e]
  · rw [decide_eq_true e, decide_eq_true (show ¬ k2 j = k j from fun z => e z.symm)]
theorem guide_ok {l l2 : Nat} {k k2 : Nat → Nat} (h : ckF l2 k2 l k ≤ 0) : (alk l k l2 k2 < mn l l2 ∧ k2 (alk l k l2 k2) < k (alk l k l2 k2)) ∨ (alk l k l2 k2 = l2 ∧ l2 ≤ l) := by
  have ha := alk_le l k l2 k2
  have hm := mn_le l l2
  unfold ckF at h
  rw [alk_comm l2 k2 l k, mn_comm l2 l] at h
  by_cases g : alk l k l2 k2 < mn l l2
  · rw [if_pos g, icm_le] at h
    have := alk_ne g
    exact Or.inl ⟨g, by omega⟩
  · rw [if_neg g, icm_le] at h
    refine Or.inr ⟨?_, h⟩
    have : mn l l2 = l2 := by
      unfold mn
      split <;> omega
    omega
/-- the orders go by the keys first -/
def kbP (N K : Nat) (Bs : BB) (kl : Nat → Nat → Nat) (ks : Nat → Nat → Nat → Nat) : Prop := ∀ o x y, o < K → x < N → y < N → Bs o x y = true → ckF (kl o x) (ks o x) (kl o y) (ks o y) ≤ 0
theorem q_trays {d n N K : Nat} {v1 v2 v3 : Int32} {f : Nat → Nat} {Bs : BB} {kl : Nat → Nat → Nat} {ks : Nat → Nat → Nat → Nat} {M : mx_M} {Q : QQ} (W : wM M n N K f Bs) (Ky : kyM M N K kl ks) (S : ∀ o, o < K → sto N (Bs o)) (D : dst n f) (KB : kbP N K Bs kl ks)
    (h1 : ∀ o m, o < K → 1 ≤ m → m ≤ 10 → v1 = w o → v2 = w m → (v3 = -1 → Q (.inl (some (.int (w ((n + m - 1) / m))))) (mx_setI M 58 0 0)) ∧ (v3 = 0 → 0 < (n + m - 1) / m → Q (.inl (some (.int 0))) (mx_setI M 58 0 0)) ∧ (∀ r, 1 ≤ r → r < (n + m - 1) / m → v3 = w r → ∀ M1, wM M1 n N K f Bs → lip mQ (mx_setI M 58 0 0) M1 → Q (.inl (some (.int (w (guF n m f (Bs o) (kl o) (ks o) r))))) M1) ∧ (¬ (v3 = -1 ∨ isIn v3 ((n + m - 1) / m)) → Q (.inl (some (.int 0))) (mx_setI (mx_setI M 58 0 0) 58 0 1)))
    (h2 : ¬ isIn v1 K → Q (.inl (some (.int 0))) (mx_setI (mx_setI M 58 0 0) 58 0 1)) (h3 : isIn v1 K → ¬ (isIn v2 11 ∧ ¬ v2 = 0) → Q (.inl (some (.int 0))) (mx_setI (mx_setI M 58 0 0) 58 0 2)) : mx_W m_X11_trays (d + 4 + 1 + 1) 0 [.ref 58, .int v1, .int v2, .int v3, .retAddr 0] [] M Q :=
  x_X11_trays_0 W.1 _ _ _ (fun M1 e1 => by
    subst e1
    have W1 := wM_0 (v := 0) W
    have Ky1 := kyM_0 (v := 0) Ky
    have h10 := W1.2.2.2.1
    refine q_isClerk W1 I_eq (fun g => ⟨rfl, rfl, _, rfl, fun z => (by cases z), fun _ => x_X11_within_0 W1.1 _ _ _ ⟨fun z => ⟨rfl, rfl, false, rfl, p_rightF W1.1 I_eq (by decide) ⟨rfl, rfl, _, rfl, fun z => (by cases z), fun _ => h3 g (fun y => ?_)⟩⟩, fun z => ⟨fun z2 => ⟨rfl, rfl, false, rfl, p_rightF W1.1 I_eq (by decide) ⟨rfl, rfl, _, rfl, fun z => (by cases z), fun _ => h3 g (fun y => ?_)⟩⟩, fun z2 => ⟨rfl, rfl, true, rfl, p_rightT W1.1 I_eq ⟨rfl, rfl, _, rfl, fun _ => ?_, fun z => (by cases z)⟩⟩⟩⟩⟩) (fun g => ⟨rfl, rfl, _, rfl, fun _ => h2 g, fun z => (by cases z)⟩)
    · obtain ⟨m, hm, rfl⟩ := y.1
      rw [show (1 : Int32) = w 1 from rfl, w_lt (by omega) (by omega)] at z
      exact y.2 (by rw [show m = 0 by omega]; rfl)
    · obtain ⟨m, hm, rfl⟩ := y.1
      rw [show (10 : Int32) = w 10 from rfl, w_lt (by omega) (by omega)] at z2; omega
    · have z3 : isIn v2 11 := by
        refine isIn_of (by decide) (fun y => z ?_) ?_
        · rw [Int32.lt_iff_toInt_lt, show (0 : Int32).toInt = 0 from rfl] at y
          rw [Int32.lt_iff_toInt_lt, show (1 : Int32).toInt = 1 from rfl]; omega
        · rw [← le_lt1 (a := 10) (by decide)]; exact Int32.not_lt.mp z2
      obtain ⟨m, hm, rfl⟩ := z3
      obtain ⟨o, ho, rfl⟩ := g
      rw [show (1 : Int32) = w 1 from rfl, w_lt (by omega) (by omega)] at z
      have hbd := tr_bd h10.1 (show 1 ≤ m by omega)
      have H := h1 o m ho (by omega) (by omega) rfl rfl
      rw [W1.2.2.1, tr_q h10.1 (by omega) (by omega)]
      refine ⟨fun y => ?_, fun y => p_rightF W1.1 I_eq (by decide) ⟨rfl, rfl, _, rfl, fun z => (by cases z), fun _ => H.2.2.2 (fun q => ?_)⟩, fun y => ⟨fun y2 => p_rightF W1.1 I_eq (by decide) ⟨rfl, rfl, _, rfl, fun z => (by cases z), fun _ => H.2.2.2 (fun q => ?_)⟩, fun y2 => p_rightT W1.1 I_eq ⟨rfl, rfl, _, rfl, fun _ => ⟨fun y3 => ?_, fun y3 => ⟨fun y4 => ?_, fun y4 => H.1 y4⟩⟩, fun z => (by cases z)⟩⟩⟩
      · rw [show (0 : Int32) = w 0 from rfl, w_inj (by omega) (by omega)] at y; omega
      · rcases q with q | q
        · exact (m1_neg y).2 q
        · exact isIn_neg (by omega) (m1_neg y).1 q
      · rcases q with q | q
        · rw [q] at y2; exact absurd (m1_w (q := (n + m - 1) / m) (by omega)) (Int32.not_lt.mpr y2)
        · exact isIn_big (by omega) (Int32.not_lt.mpr y2) q
      · have y5 : ¬ v3 = -1 := fun q => by rw [q] at y3; exact absurd y3 (by decide)
        obtain ⟨r, hr9, rfl⟩ := isIn_of (by omega) (m1_nn y y5) (Int32.not_le.mp y2)
        rw [show (0 : Int32) = w 0 from rfl, w_lt (by omega) (by omega)] at y3
        rw [w_mul, w_1add]
        have hlt := tr_le hr9 (show 1 ≤ m by omega)
        have hge : 1 ≤ r * m := Nat.mul_le_mul (show 1 ≤ r by omega) (show 1 ≤ m by omega)
        refine q_copyThen W1 (fun M2 W2 L2 R2 => ⟨L2.1.1, L2.1.2.1, rfl, q_fileThen W2 ho R2 (fun M3 W3 L3 R3 => ⟨L3.1.1, L3.1.2.1, rfl, w_in (by omega) (by omega), w_in (by omega) (by omega), ?_⟩)⟩)
        have Ky3 := kyM_q (lip_trans L2 L3) Ky1
        have o1 := R3.2.2 (r * m) hlt
        have o2 := R3.2.2 (r * m - 1) (by omega)
        rw [show r * m - 1 + 1 = r * m by omega] at o2
        rw [w_nat (n := r * m + 1) (by omega), w_nat (n := r * m) (by omega), o1.1, o2.1]
        obtain ⟨P, HS⟩ := srt_ok (S o ho) (row_lt W) D
        refine q_guideFor W3.1 (Ky3 o _ ho o1.2) (Ky3 o _ ho o2.2) (guide_ok (KB o _ _ ho o2.2 o1.2 ?_)) ⟨rfl, rfl, _, rfl, H.2.2.1 r (by omega) hr9 rfl M3 W3 (lip_trans L2 L3)⟩
        rw [rnk_iff (S o ho) o2.2 o1.2]
        exact decide_eq_true (HS _ _ (by omega) hlt)
      · have y5 : ¬ v3 < 0 := m1_nn y y4
        obtain ⟨r, hr9, rfl⟩ := isIn_of (by omega) y5 (Int32.not_le.mp y2)
        rw [show (0 : Int32) = w 0 from rfl, w_lt (by omega) (by omega)] at y3
        exact H.2.1 (by rw [show r = 0 by omega]; rfl) (by omega))
