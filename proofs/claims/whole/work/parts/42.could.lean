/-! could; who has a card first; the most looks -/
/-- bits of those of i, i + 1, .. (k of them) that are so -/
def btF (p : Nat → Bool) : Nat → Nat → Int32 → Int32
  | _, 0, s => s
  | i, k + 1, s => btF p (i + 1) k (if p i then s ||| (1 <<< (w i &&& 31)) else s)
theorem wrb_le (f : Nat → Nat) (B : Nat → Nat → Bool) : ∀ (k i : Nat), k ≤ 10 → wrb f B i k ≤ k * 10
  | 0, i, _ => Nat.le_refl _
  | k + 1, i, h => by
    have h1 := cnt_le (fun j => B (f j) (f i)) (i + 1) k
    have h2 := wrb_le f B k (i + 1) (by omega)
    rw [wrb]
    omega
def cdF (n K : Nat) (f : Nat → Nat) (Bs : BB) : Nat → Bool := fun o => decide (wrb f (Bs o) 0 n = 0)
theorem p_could_l {d t n N K : Nat} {f : Nat → Nat} {Bs : BB} {M : mx_M} {Q : QQ} (W : wC M t n N K f Bs) :
    ∀ (k i : Nat) (s : Int32), i + k = K → Q (.inl (some (.int (btF (cdF n K f Bs) i k s)))) M → mx_W m_X10_could (d + 1 + 1 + 1) 4 [.ref 1, .int s, .int (w i)] [] M Q
  | 0, i, s, hi, hq => by
    have hb := W.2.1.2.2.1
    refine x_X10_could_4 W.1 t W.2.1.1.1 W.2.1.1.2 _ _ ⟨fun _ => hq, fun h => absurd ?_ h⟩
    rw [W.2.1.2.1.2, w_le (by omega) (by omega)]; omega
  | k + 1, i, s, hi, hq => by
    have hb := W.2.1.2.2.1
    have h9 := wrb_le f (Bs i) n 0 W.2.2.1.2.1.1
    have h10 := W.2.2.1.2.1
    rw [btF] at hq
    refine x_X10_could_4 W.1 t W.2.1.1.1 W.2.1.1.2 _ _ ⟨fun h => ?_, fun _ => p_wrongBy W.1 (Or.inl rfl) W.2.2.1 (W.2.1.2.2.2 i (by omega)) ⟨rfl, rfl, _, rfl, fun g => ?_, fun g => ?_⟩⟩
    · rw [W.2.1.2.1.2, w_le (by omega) (by omega)] at h; omega
    · rw [show (0 : Int32) = w 0 from rfl, w_inj (by omega) (by omega)] at g
      rw [if_neg (by unfold cdF; simpa using g)] at hq
      rw [w_add1]
      exact p_could_l W k (i + 1) _ (by omega) hq
    · rw [show (0 : Int32) = w 0 from rfl, w_inj (by omega) (by omega)] at g
      rw [if_pos (by unfold cdF; simpa using g)] at hq
      rw [w_add1]
      exact p_could_l W k (i + 1) _ (by omega) hq
theorem p_could {d t n N K : Nat} {f : Nat → Nat} {Bs : BB} {M : mx_M} {Q : QQ} (W : wC M t n N K f Bs) (hq : Q (.inl (some (.int (btF (cdF n K f Bs) 0 K 0)))) M) : mx_W m_X10_could (d + 1 + 1 + 1) 0 [.ref 1, .retAddr 0, .retAddr 0] [] M Q :=
  x_X10_could_0 W.1 t W.2.1.1.1 W.2.1.1.2 (p_could_l W K 0 0 (Nat.zero_add K) hq)
theorem q_could_l {d n N K : Nat} {f : Nat → Nat} {Bs : BB} {M0 : mx_M} {Q : QQ} (v9 : Int32) (hq : ∀ M1, wM M1 n N K f Bs → lip mQ M0 M1 → Q (.inl (some (.int v9))) M1) :
    ∀ (k i : Nat) (s : Int32) (M : mx_M), wM M n N K f Bs → lip mQ M0 M → i + k = K → btF (cdF n K f Bs) i k s = v9 → mx_W m_X11_could (d + 4 + 1 + 1) 9 [.ref 58, .int s, .int (w i)] [] M Q
  | 0, i, s, M, W, L, hi, e => by
    have hb := W.2.1.2.1
    refine x_X11_could_9 W.1 _ _ ⟨fun _ => ?_, fun h => absurd ?_ h⟩
    · have := hq M W L
      rw [← e] at this
      exact this
    · rw [W.2.1.1.2, w_le (by omega) (by omega)]; omega
  | k + 1, i, s, M, W, L, hi, e => by
    have hb := W.2.1.2.1
    have h10 := W.2.2.2.1
    have h9 := wrb_le f (Bs i) n 0 h10.1
    rw [btF] at e
    refine x_X11_could_9 W.1 _ _ ⟨fun h => ?_, fun _ => q_wrong W (by omega) (fun M1 W1 L1 => ⟨L1.1.1, L1.1.2.1, _, rfl, fun g => ?_, fun g => ?_⟩)⟩
    · rw [W.2.1.1.2, w_le (by omega) (by omega)] at h; omega
    · rw [show (0 : Int32) = w 0 from rfl, w_inj (by omega) (by omega)] at g
      rw [if_neg (by unfold cdF; simpa using g)] at e
      rw [w_add1, Int32.or_zero]
      exact q_could_l v9 hq k (i + 1) _ M1 W1 (lip_trans L L1) (by omega) e
    · rw [show (0 : Int32) = w 0 from rfl, w_inj (by omega) (by omega)] at g
      rw [if_pos (by unfold cdF; simpa using g)] at e
      rw [w_add1]
      exact q_could_l v9 hq k (i + 1) _ M1 W1 (lip_trans L L1) (by omega) e
theorem q_could {d n N K : Nat} {f : Nat → Nat} {Bs : BB} {M : mx_M} {Q : QQ} (W : wM M n N K f Bs) (hq : ∀ M1, wM M1 n N K f Bs → lip mQ (mx_setI M 58 0 0) M1 → Q (.inl (some (.int (btF (cdF n K f Bs) 0 K 0)))) M1) : mx_W m_X11_could (d + 4 + 1 + 1) 0 [.ref 58, .retAddr 0, .retAddr 0] [] M Q :=
  x_X11_could_0 W.1 (fun M1 e1 => by subst e1; exact q_could_l _ hq K 0 0 _ (wM_0 W) (lip_refl _ _) (Nat.zero_add K) rfl)
def fbF (N : Nat) (Bs : BB) (c : Nat) : Nat → Bool := fun o => decide (rnk N (Bs o) c = 0)
theorem rnk_le (N : Nat) (B : Nat → Nat → Bool) (x : Nat) : rnk N B x ≤ N := cnt_le _ _ _
theorem p_firstBy_l {d t n N K c : Nat} {f : Nat → Nat} {Bs : BB} {M : mx_M} {Q : QQ} (W : wC M t n N K f Bs) (hc : c < N) :
    ∀ (k i : Nat) (s : Int32), i + k = K → Q (.inl (some (.int (btF (fbF N Bs c) i k s)))) M → mx_W m_X10_clerksWhoHaveFirst (d + 1) 4 [.ref 1, .int (w c), .int s, .int (w i)] [] M Q
  | 0, i, s, hi, hq => by
    have hb := W.2.1.2.2.1
    refine x_X10_clerksWhoHaveFirst_4 W.1 t W.2.1.1.1 W.2.1.1.2 _ _ _ ⟨fun _ => hq, fun h => absurd ?_ h⟩
    rw [W.2.1.2.1.2, w_le (by omega) (by omega)]; omega
  | k + 1, i, s, hi, hq => by
    have hb := W.2.1.2.2.1
    have h9 := rnk_le N (Bs i) c
    rw [btF] at hq
    refine x_X10_clerksWhoHaveFirst_4 W.1 t W.2.1.1.1 W.2.1.1.2 _ _ _ ⟨fun h => ?_, fun _ => c_rank W (by omega) hc ⟨rfl, rfl, _, rfl, fun g => ?_, fun g => ?_⟩⟩
    · rw [W.2.1.2.1.2, w_le (by omega) (by omega)] at h; omega
    · rw [show (0 : Int32) = w 0 from rfl, w_inj (by omega) (by omega)] at g
      rw [if_neg (by unfold fbF; simpa using g)] at hq
      rw [w_add1]
      exact p_firstBy_l W hc k (i + 1) _ (by omega) hq
    · rw [show (0 : Int32) = w 0 from rfl, w_inj (by omega) (by omega)] at g
      rw [if_pos (by unfold fbF; simpa using g)] at hq
      rw [w_add1]
      exact p_firstBy_l W hc k (i + 1) _ (by omega) hq
theorem p_firstBy {d t n N K c : Nat} {f : Nat → Nat} {Bs : BB} {M : mx_M} {Q : QQ} (W : wC M t n N K f Bs) (hc : c < N) (hq : Q (.inl (some (.int (btF (fbF N Bs c) 0 K 0)))) M) : mx_W m_X10_clerksWhoHaveFirst (d + 1) 0 [.ref 1, .int (w c), .retAddr 0, .retAddr 0] [] M Q :=
  x_X10_clerksWhoHaveFirst_0 W.1 t W.2.1.1.1 W.2.1.1.2 _ (p_firstBy_l W hc K 0 0 (Nat.zero_add K) hq)
theorem q_firstBy_l {d n N K c : Nat} {f : Nat → Nat} {Bs : BB} {M0 : mx_M} {Q : QQ} (hc : c < N) (v9 : Int32) (hq : ∀ M1, wM M1 n N K f Bs → lip mQ M0 M1 → Q (.inl (some (.int v9))) M1) :
    ∀ (k i : Nat) (s : Int32) (M : mx_M), wM M n N K f Bs → lip mQ M0 M → i + k = K → btF (fbF N Bs c) i k s = v9 → mx_W m_X11_firstBy (d + 4 + 1 + 1) 4 [.ref 58, .int (w c), .int s, .int (w i)] [] M Q
  | 0, i, s, M, W, L, hi, e => by
    have hb := W.2.1.2.1
    refine x_X11_firstBy_4 W.1 _ _ _ ⟨fun _ => ?_, fun h => absurd ?_ h⟩
    · have := hq M W L
      rw [← e] at this
      exact this
    · rw [W.2.1.1.2, w_le (by omega) (by omega)]; omega
  | k + 1, i, s, M, W, L, hi, e => by
    have hb := W.2.1.2.1
    have h9 := rnk_le N (Bs i) c
    rw [btF] at e
    refine x_X11_firstBy_4 W.1 _ _ _ ⟨fun h => ?_, fun _ => q_rank W (by omega) hc (fun M1 W1 L1 => ⟨L1.1.1, L1.1.2.1, _, rfl, fun g => ?_, fun g => ?_⟩)⟩
    · rw [W.2.1.1.2, w_le (by omega) (by omega)] at h; omega
    · rw [show (0 : Int32) = w 0 from rfl, w_inj (by omega) (by omega)] at g
      rw [if_neg (by unfold fbF; simpa using g)] at e
      rw [w_add1, Int32.or_zero]
      exact q_firstBy_l hc v9 hq k (i + 1) _ M1 W1 (lip_trans L L1) (by omega) e
    · rw [show (0 : Int32) = w 0 from rfl, w_inj (by omega) (by omega)] at g
      rw [if_pos (by unfold fbF; simpa using g)] at e
      rw [w_add1]
      exact q_firstBy_l hc v9 hq k (i + 1) _ M1 W1 (lip_trans L L1) (by omega) e
theorem q_firstBy {d n N K c : Nat} {f : Nat → Nat} {Bs : BB} {M : mx_M} {Q : QQ} (W : wM M n N K f Bs) (hc : c < N) (hq : ∀ M1, wM M1 n N K f Bs → lip mQ M M1 → Q (.inl (some (.int (btF (fbF N Bs c) 0 K 0)))) M1) : mx_W m_X11_firstBy (d + 4 + 1 + 1) 0 [.ref 58, .int (w c), .retAddr 0, .retAddr 0] [] M Q :=
  x_X11_firstBy_0 W.1 _ (q_firstBy_l hc _ hq K 0 0 _ W (lip_refl _ _) (Nat.zero_add K) rfl)
/-- the most of g i, g (i + 1), .. (k of them) and s -/
def mxF (g : Nat → Nat) : Nat → Nat → Nat → Nat
  | _, 0, s => s
  | i, k + 1, s => mxF g (i + 1) k (if s < g i then g i else s)
def mlF (n : Nat) (f : Nat → Nat) (B : Nat → Nat → Bool) (c : Nat) : Nat := (lkF f B c 10 0 n 0).1
theorem mlF_le (n : Nat) (f : Nat → Nat) (B : Nat → Nat → Bool) (c : Nat) : mlF n f B c ≤ 10 := by
  have := lkF_le f B c 10 0 n 0
  unfold mlF; omega
theorem p_mostLooks_l {d t n N K o : Nat} {f : Nat → Nat} {Bs : BB} {M : mx_M} {Q : QQ} (W : wC M t n N K f Bs) (ho : o < K) :
    ∀ (k i s : Nat), i + k = N → s ≤ 10 → Q (.inl (some (.int (w (mxF (mlF n f (Bs o)) i k s))))) M → mx_W m_X10_mostLooks (d + 1 + 1 + 1 + 1) 4 [.ref 1, .int (w o), .int (w s), .int (w i)] [] M Q
  | 0, i, s, hi, hs, hq => by
    have hb := W.2.1.2.2.1
    refine x_X10_mostLooks_4 W.1 t W.2.1.1.1 W.2.1.1.2 _ _ _ ⟨fun _ => hq, fun h => absurd ?_ h⟩
    rw [W.2.1.2.1.1, w_le (by omega) (by omega)]; omega
  | k + 1, i, s, hi, hs, hq => by
    have hb := W.2.1.2.2.1
    have h9 := mlF_le n f (Bs o) i
    rw [mxF] at hq
    refine x_X10_mostLooks_4 W.1 t W.2.1.1.1 W.2.1.1.2 _ _ _ ⟨fun h => ?_, fun _ => p_looksFor W.1 (Or.inl rfl) W.2.2.1 (W.2.1.2.2.2 o ho) i (by omega) ⟨rfl, rfl, _, rfl, x_J9_max_7cf53_0 W.1 _ _ ⟨fun g => ⟨rfl, rfl, _, rfl, ?_⟩, fun g => ⟨rfl, rfl, _, rfl, ?_⟩⟩⟩⟩
    · rw [W.2.1.2.1.1, w_le (by omega) (by omega)] at h; omega
    · have g : w s < w (mlF n f (Bs o) i) := g
      rw [w_lt (by omega) (by omega)] at g
      rw [if_pos g] at hq
      rw [w_add1]
      exact p_mostLooks_l W ho k (i + 1) _ (by omega) h9 hq
    · have g : ¬ w s < w (mlF n f (Bs o) i) := g
      rw [w_lt (by omega) (by omega)] at g
      rw [if_neg g] at hq
      rw [w_add1]
      exact p_mostLooks_l W ho k (i + 1) _ (by omega) hs hq
theorem p_mostLooks {d t n N K o : Nat} {f : Nat → Nat} {Bs : BB} {M : mx_M} {Q : QQ} (W : wC M t n N K f Bs) (ho : o < K) (hq : Q (.inl (some (.int (w (mxF (mlF n f (Bs o)) 0 N 0))))) M) : mx_W m_X10_mostLooks (d + 1 + 1 + 1 + 1) 0 [.ref 1, .int (w o), .retAddr 0, .retAddr 0] [] M Q :=
  x_X10_mostLooks_0 W.1 t W.2.1.1.1 W.2.1.1.2 _ (p_mostLooks_l W ho N 0 0 (Nat.zero_add N) (by omega) hq)
theorem q_mostLooks_l {d n N K o : Nat} {f : Nat → Nat} {Bs : BB} {M0 : mx_M} {Q : QQ} (ho : o < K) (v9 : Nat) (hq : ∀ M1, wM M1 n N K f Bs → lip mQ M0 M1 → Q (.inl (some (.int (w v9)))) M1) :
    ∀ (k i s : Nat) (M : mx_M), wM M n N K f Bs → lip mQ M0 M → i + k = N → s ≤ 10 → mxF (mlF n f (Bs o)) i k s = v9 → mx_W m_X11_mostLooks (d + 4 + 1 + 1) 4 [.ref 58, .int (w o), .int (w s), .int (w i)] [] M Q
  | 0, i, s, M, W, L, hi, hs, e => by
    have hb := W.2.1.2.1
    refine x_X11_mostLooks_4 W.1 _ _ _ ⟨fun _ => ?_, fun h => absurd ?_ h⟩
    · have := hq M W L
      rw [← e] at this
      exact this
    · rw [W.2.1.1.1, w_le (by omega) (by omega)]; omega
  | k + 1, i, s, M, W, L, hi, hs, e => by
    have hb := W.2.1.2.1
    have h9 := mlF_le n f (Bs o) i
    rw [mxF] at e
    refine x_X11_mostLooks_4 W.1 _ _ _ ⟨fun h => ?_, fun _ => q_looks W ho (by omega) (fun M1 W1 L1 hl => ⟨L1.1.1, L1.1.2.1, _, rfl, ?_⟩)⟩
    · rw [W.2.1.1.1, w_le (by omega) (by omega)] at h; omega
    · rw [hl]
      refine ⟨fun g => ?_, fun g => ?_⟩
      · have g : w (mlF n f (Bs o) i) ≤ w s := g
        rw [w_le (by omega) (by omega)] at g
        rw [if_neg (by omega)] at e
        rw [w_add1]
        exact q_mostLooks_l ho v9 hq k (i + 1) _ M1 W1 (lip_trans L L1) (by omega) hs e
      · have g : ¬ w (mlF n f (Bs o) i) ≤ w s := g
        rw [w_le (by omega) (by omega)] at g
        rw [if_pos (by omega)] at e
        rw [w_add1]
        exact q_mostLooks_l ho v9 hq k (i + 1) _ M1 W1 (lip_trans L L1) (by omega) h9 e
theorem q_mostLooks {d n N K o : Nat} {f : Nat → Nat} {Bs : BB} {M : mx_M} {Q : QQ} (W : wM M n N K f Bs) (ho : o < K) (hq : ∀ M1, wM M1 n N K f Bs → lip mQ M M1 → Q (.inl (some (.int (w (mxF (mlF n f (Bs o)) 0 N 0))))) M1) : mx_W m_X11_mostLooks (d + 4 + 1 + 1) 0 [.ref 58, .int (w o), .retAddr 0, .retAddr 0] [] M Q :=
  x_X11_mostLooks_0 W.1 _ (q_mostLooks_l ho _ hq N 0 0 _ W (lip_refl _ _) (Nat.zero_add N) (by omega) rfl)
theorem q_head {d n N K : Nat} {f : Nat → Nat} {Bs : BB} {M : mx_M} {Q : QQ} (W : wM M n N K f Bs) (hq : ∀ M1, wM M1 n N K f Bs → lip mQ (mx_setI M 58 0 0) M1 → Q (.inl (some (.int (fz N (fnd (fun x => allF (hdP K Bs x) 0 N) 0 N))))) M1) : mx_W m_X11_head (d + 4 + 1 + 1) 0 [.ref 58, .retAddr 0, .retAddr 0, .retAddr 0] [] M Q :=
  x_X11_head_0 W.1 (fun M1 e1 => by
    subst e1
    exact p_mhead_l (fun M1 L1 => hq M1 (wM_q (sc_q L1) (wM_0 W)) (sc_q L1)) N 0 _ (Nat.zero_add N) (wM_0 (v := 0) W).1 (wM_0 W).2.1 (lik_refl _ _) rfl)
