/-! short questions -/
abbrev NSE : String := "java/util/NoSuchElementException"
abbrev IAE : String := "java/lang/IllegalArgumentException"
theorem c_clerkG {d t n N K : Nat} {v : Int32} {f : Nat → Nat} {Bs : BB} {M : mx_M} {Q : QQ} (W : wC M t n N K f Bs) (hr : rmE M) (h1 : isIn v K → Q (.inl none) M) (h2 : ¬ isIn v K → Q (.inr NSE) (mx_thM M)) : mx_W m_X10_needClerk d 0 [.ref 1, .int v] [] M Q :=
  p_needClerk W.1 W.2.1.1.1 W.2.1.1.2 W.2.1.2.1.2 (by have := W.2.1.2.2.1; omega) hr h1 h2
theorem c_cardG {d t n N K : Nat} {v : Int32} {f : Nat → Nat} {Bs : BB} {M : mx_M} {Q : QQ} (W : wC M t n N K f Bs) (hr : rmE M) (h1 : isIn v N → Q (.inl none) M) (h2 : ¬ isIn v N → Q (.inr NSE) (mx_thM M)) : mx_W m_X10_needCard d 0 [.ref 1, .int v] [] M Q :=
  p_needCard W.1 W.2.1.1.1 W.2.1.1.2 W.2.1.2.1.1 (by have := W.2.1.2.2.1; omega) hr h1 h2
theorem c_zoG {d t n N K : Nat} {v : Int32} {f : Nat → Nat} {Bs : BB} {M : mx_M} {Q : QQ} (W : wC M t n N K f Bs) (hr : rmE M) (h1 : isIn v 2 → Q (.inl none) M) (h2 : ¬ isIn v 2 → Q (.inr NSE) (mx_thM M)) : mx_W m_X10_needZeroOrOne d 0 [.int v] [] M Q :=
  p_needZeroOrOne W.1 W.2.1.1.1 W.2.1.1.2 hr h1 h2
/-- what a search answers -/
def shA (n : Nat) (f : Nat → Nat) (B : Nat → Nat → Bool) (c : Nat) (v : Int32) : Int32 := if v = 0 then w (lkF f B c 10 0 n 0).1 else mx_b (lkF f B c 10 0 n 0).2
theorem p_search {d t n N K : Nat} {v1 v2 v3 : Int32} {f : Nat → Nat} {Bs : BB} {M : mx_M} {Q : QQ} (W : wC M t n N K f Bs) (hr : rmE M)
    (h1 : ∀ o c, o < K → c < N → v1 = w o → v2 = w c → isIn v3 2 → Q (.inl (some (.int (shA n f (Bs o) c v3)))) M) (h2 : ¬ (isIn v1 K ∧ isIn v2 N ∧ isIn v3 2) → Q (.inr NSE) (mx_thM M)) : mx_W m_X10_search (d + 1 + 1 + 1 + 1) 0 [.ref 1, .int v1, .int v2, .int v3] [] M Q := by
  refine x_X10_search_0 W.1 t W.2.1.1.1 W.2.1.1.2 _ _ _ (c_clerkG W hr (fun g => ⟨rfl, rfl, Or.inl ⟨rfl, c_cardG W hr (fun g2 => ⟨rfl, rfl, Or.inl ⟨rfl, c_zoG W hr (fun g3 => ⟨rfl, rfl, Or.inl ⟨rfl, ?_⟩⟩) (fun g3 => ⟨rfl, rfl, Or.inr ⟨_, rfl, h2 (fun z => g3 z.2.2)⟩⟩)⟩⟩) (fun g2 => ⟨rfl, rfl, Or.inr ⟨_, rfl, h2 (fun z => g2 z.2.1)⟩⟩)⟩⟩) (fun g => ⟨rfl, rfl, Or.inr ⟨_, rfl, h2 (fun z => g z.1)⟩⟩))
  obtain ⟨o, ho, rfl⟩ := g
  obtain ⟨c, hc, rfl⟩ := g2
  have H := h1 o c ho hc rfl rfl g3
  unfold shA at H
  refine ⟨fun z => ?_, fun z => ?_⟩
  · rw [if_neg z] at H
    refine p_finds W.1 (Or.inl rfl) W.2.2.1 (W.2.1.2.2.2 o ho) c hc ⟨rfl, rfl, _, rfl, fun y => ?_, fun y => ?_⟩
    · rw [y] at H; exact H
    · rw [y] at H; exact H
  · rw [if_pos z] at H
    exact p_looksFor W.1 (Or.inl rfl) W.2.2.1 (W.2.1.2.2.2 o ho) c hc ⟨rfl, rfl, _, rfl, H⟩
theorem q_search {d n N K : Nat} {v1 v2 v3 : Int32} {f : Nat → Nat} {Bs : BB} {M : mx_M} {Q : QQ} (W : wM M n N K f Bs)
    (h1 : ∀ o c, o < K → c < N → v1 = w o → v2 = w c → isIn v3 2 → ∀ M1, wM M1 n N K f Bs → lip mQ (mx_setI M 58 0 0) M1 → Q (.inl (some (.int (shA n f (Bs o) c v3)))) M1) (h2 : ¬ (isIn v1 K ∧ isIn v2 N ∧ isIn v3 2) → Q (.inl (some (.int 0))) (mx_setI (mx_setI M 58 0 0) 58 0 1)) : mx_W m_X11_search (d + 4 + 1 + 1) 0 [.ref 58, .int v1, .int v2, .int v3, .retAddr 0] [] M Q :=
  x_X11_search_0 W.1 _ _ _ (fun M1 e1 => by
    subst e1
    have W1 := wM_0 (v := 0) W
    refine q_isClerk W1 I_eq (fun g => ⟨rfl, rfl, _, rfl, fun z => (by cases z), fun _ => q_isCard W1 I_eq (fun g2 => ⟨rfl, rfl, _, rfl, fun z => (by cases z), fun _ => p_isWhat (n := 1) W1.1 I_eq (by decide) (fun g3 => ⟨rfl, rfl, _, rfl, fun _ => ?_, fun z => (by cases z)⟩) (fun g3 => ⟨rfl, rfl, _, rfl, fun z => (by cases z), fun _ => h2 (fun z => g3 z.2.2)⟩)⟩) (fun g2 => ⟨rfl, rfl, _, rfl, fun _ => h2 (fun z => g2 z.2.1), fun z => (by cases z)⟩)⟩) (fun g => ⟨rfl, rfl, _, rfl, fun _ => h2 (fun z => g z.1), fun z => (by cases z)⟩)
    obtain ⟨o, ho, rfl⟩ := g
    obtain ⟨c, hc, rfl⟩ := g2
    refine q_looks W1 ho hc (fun M2 W2 L2 hl => ⟨L2.1.1, L2.1.2.1, _, rfl, ?_⟩)
    have H := h1 o c ho hc rfl rfl g3 M2 W2 L2
    unfold shA at H
    rw [hl]
    refine ⟨fun z => ?_, fun z => ?_⟩
    · rw [if_neg z] at H
      refine ⟨fun y => ?_, fun y => ?_⟩
      · rw [y] at H; exact H
      · rw [y] at H; exact H
    · rw [if_pos z] at H; exact H)
theorem p_rank {d t n N K : Nat} {v1 v2 : Int32} {f : Nat → Nat} {Bs : BB} {M : mx_M} {Q : QQ} (W : wC M t n N K f Bs) (hr : rmE M)
    (h1 : ∀ o c, o < K → c < N → v1 = w o → v2 = w c → Q (.inl (some (.int (w (rnk N (Bs o) c))))) M) (h2 : ¬ (isIn v1 K ∧ isIn v2 N) → Q (.inr NSE) (mx_thM M)) : mx_W m_X10_rank (d + 1) 0 [.ref 1, .int v1, .int v2] [] M Q := by
  refine x_X10_rank_0 W.1 t W.2.1.1.1 W.2.1.1.2 _ _ (c_clerkG W hr (fun g => ⟨rfl, rfl, Or.inl ⟨rfl, c_cardG W hr (fun g2 => ⟨rfl, rfl, Or.inl ⟨rfl, ?_⟩⟩) (fun g2 => ⟨rfl, rfl, Or.inr ⟨_, rfl, h2 (fun z => g2 z.2)⟩⟩)⟩⟩) (fun g => ⟨rfl, rfl, Or.inr ⟨_, rfl, h2 (fun z => g z.1)⟩⟩))
  obtain ⟨o, ho, rfl⟩ := g
  obtain ⟨c, hc, rfl⟩ := g2
  exact c_rank W ho hc ⟨rfl, rfl, _, rfl, h1 o c ho hc rfl rfl⟩
theorem q_rankC {d n N K : Nat} {v1 v2 : Int32} {f : Nat → Nat} {Bs : BB} {M : mx_M} {Q : QQ} (W : wM M n N K f Bs)
    (h1 : ∀ o c, o < K → c < N → v1 = w o → v2 = w c → ∀ M1, wM M1 n N K f Bs → lip mQ (mx_setI M 58 0 0) M1 → Q (.inl (some (.int (w (rnk N (Bs o) c))))) M1) (h2 : ¬ (isIn v1 K ∧ isIn v2 N) → Q (.inl (some (.int 0))) (mx_setI (mx_setI M 58 0 0) 58 0 1)) : mx_W m_X11_rank (d + 4 + 1 + 1) 0 [.ref 58, .int v1, .int v2] [] M Q :=
  x_X11_rank_0 W.1 _ _ (fun M1 e1 => by
    subst e1
    have W1 := wM_0 (v := 0) W
    refine q_isClerk W1 I_eq (fun g => ⟨rfl, rfl, _, rfl, fun z => (by cases z), fun _ => q_isCard W1 I_eq (fun g2 => ⟨rfl, rfl, _, rfl, fun z => (by cases z), fun _ => ?_⟩) (fun g2 => ⟨rfl, rfl, _, rfl, fun _ => h2 (fun z => g2 z.2), fun z => (by cases z)⟩)⟩) (fun g => ⟨rfl, rfl, _, rfl, fun _ => h2 (fun z => g z.1), fun z => (by cases z)⟩)
    obtain ⟨o, ho, rfl⟩ := g
    obtain ⟨c, hc, rfl⟩ := g2
    exact q_rank W1 ho hc (fun M2 W2 L2 => ⟨L2.1.1, L2.1.2.1, _, rfl, h1 o c ho hc rfl rfl M2 W2 L2⟩))
theorem p_at {d t n N K : Nat} {v1 v2 : Int32} {f : Nat → Nat} {Bs : BB} {M : mx_M} {Q : QQ} (W : wC M t n N K f Bs) (hr : rmE M)
    (h1 : ∀ o r, o < K → r < N → v1 = w o → v2 = w r → Q (.inl (some (.int (w (crd N (Bs o) r))))) M) (h2 : ¬ (isIn v1 K ∧ isIn v2 N) → Q (.inr NSE) (mx_thM M)) : mx_W m_X10_at (d + 1) 0 [.ref 1, .int v1, .int v2] [] M Q := by
  have hb := W.2.1.2.2.1
  refine x_X10_at_0 W.1 t W.2.1.1.1 W.2.1.1.2 _ _ (c_clerkG W hr (fun g => ⟨rfl, rfl, Or.inl ⟨rfl, ?_⟩⟩) (fun g => ⟨rfl, rfl, Or.inr ⟨_, rfl, h2 (fun z => g z.1)⟩⟩))
  rw [W.2.1.2.1.1]
  refine ⟨fun z => ⟨hr.1, hr.2, h2 (fun y => isIn_neg (by omega) z y.2)⟩, fun z => ⟨fun z2 => ?_, fun z2 => ⟨hr.1, hr.2, h2 (fun y => isIn_big (by omega) z2 y.2)⟩⟩⟩
  obtain ⟨o, ho, rfl⟩ := g
  obtain ⟨c, hc, rfl⟩ := isIn_of (by omega) z z2
  exact c_card W ho hc ⟨rfl, rfl, _, rfl, h1 o c ho hc rfl rfl⟩
theorem q_at {d n N K : Nat} {v1 v2 : Int32} {f : Nat → Nat} {Bs : BB} {M : mx_M} {Q : QQ} (W : wM M n N K f Bs) (S : ∀ o, o < K → sto N (Bs o))
    (h1 : ∀ o r, o < K → r < N → v1 = w o → v2 = w r → ∀ M1, wM M1 n N K f Bs → lip mQ (mx_setI M 58 0 0) M1 → Q (.inl (some (.int (w (crd N (Bs o) r))))) M1) (h2 : ¬ (isIn v1 K ∧ isIn v2 N) → Q (.inl (some (.int 0))) (mx_setI (mx_setI M 58 0 0) 58 0 1)) : mx_W m_X11_at (d + 4 + 1 + 1 + 1) 0 [.ref 58, .int v1, .int v2] [] M Q :=
  x_X11_at_0 W.1 _ _ (fun M1 e1 => by
    subst e1
    have W1 := wM_0 (v := 0) W
    have hb := W1.2.1.2.1
    refine q_isClerk W1 I_eq (fun g => ⟨rfl, rfl, _, rfl, fun z => (by cases z), fun _ => ?_⟩) (fun g => ⟨rfl, rfl, _, rfl, fun _ => h2 (fun z => g z.1), fun z => (by cases z)⟩)
    rw [W1.2.1.1.1]
    refine ⟨fun z => p_rightF W1.1 I_eq (by decide) ⟨rfl, rfl, _, rfl, fun _ => h2 (fun y => isIn_neg (by omega) z y.2), fun z => (by cases z)⟩, fun z => ⟨fun z2 => p_rightF W1.1 I_eq (by decide) ⟨rfl, rfl, _, rfl, fun _ => h2 (fun y => isIn_big (by omega) (Int32.not_lt.mpr z2) y.2), fun z => (by cases z)⟩, fun z2 => p_rightT W1.1 I_eq ⟨rfl, rfl, _, rfl, fun z => (by cases z), fun _ => ?_⟩⟩⟩
    obtain ⟨o, ho, rfl⟩ := g
    obtain ⟨c, hc, rfl⟩ := isIn_of (by omega) z (Int32.not_le.mp z2)
    exact q_card W1 (S o ho) ho hc (fun M2 W2 L2 => ⟨L2.1.1, L2.1.2.1, _, rfl, h1 o c ho hc rfl rfl M2 W2 L2⟩))
theorem p_before {d t n N K : Nat} {v1 v2 v3 : Int32} {f : Nat → Nat} {Bs : BB} {M : mx_M} {Q : QQ} (W : wC M t n N K f Bs) (hr : rmE M)
    (h1 : ∀ o x y, o < K → x < N → y < N → v1 = w o → v2 = w x → v3 = w y → Q (.inl (some (.int (mx_b (Bs o x y))))) M) (h2 : ¬ (isIn v1 K ∧ isIn v2 N ∧ isIn v3 N) → Q (.inr NSE) (mx_thM M)) : mx_W m_X10_before (d + 1 + 1) 0 [.ref 1, .int v1, .int v2, .int v3] [] M Q := by
  refine x_X10_before_0 W.1 t W.2.1.1.1 W.2.1.1.2 _ _ _ (c_clerkG W hr (fun g => ⟨rfl, rfl, Or.inl ⟨rfl, c_cardG W hr (fun g2 => ⟨rfl, rfl, Or.inl ⟨rfl, c_cardG W hr (fun g3 => ⟨rfl, rfl, Or.inl ⟨rfl, ?_⟩⟩) (fun g3 => ⟨rfl, rfl, Or.inr ⟨_, rfl, h2 (fun z => g3 z.2.2)⟩⟩)⟩⟩) (fun g2 => ⟨rfl, rfl, Or.inr ⟨_, rfl, h2 (fun z => g2 z.2.1)⟩⟩)⟩⟩) (fun g => ⟨rfl, rfl, Or.inr ⟨_, rfl, h2 (fun z => g z.1)⟩⟩))
  obtain ⟨o, ho, rfl⟩ := g
  obtain ⟨c, hc, rfl⟩ := g2
  obtain ⟨e, he, rfl⟩ := g3
  exact p_isAhead W.1 (W.2.1.2.2.2 o ho) hc he ⟨rfl, rfl, _, rfl, h1 o c e ho hc he rfl rfl rfl⟩
theorem q_before {d n N K : Nat} {v1 v2 v3 : Int32} {f : Nat → Nat} {Bs : BB} {M : mx_M} {Q : QQ} (W : wM M n N K f Bs)
    (h1 : ∀ o x y, o < K → x < N → y < N → v1 = w o → v2 = w x → v3 = w y → ∀ M1, wM M1 n N K f Bs → lip mQ (mx_setI M 58 0 0) M1 → Q (.inl (some (.int (mx_b (Bs o x y))))) M1) (h2 : ¬ (isIn v1 K ∧ isIn v2 N ∧ isIn v3 N) → Q (.inl (some (.int (mx_b false)))) (mx_setI (mx_setI M 58 0 0) 58 0 1)) : mx_W m_X11_before (d + 4 + 1) 0 [.ref 58, .int v1, .int v2, .int v3] [] M Q :=
  x_X11_before_0 W.1 _ _ _ (fun M1 e1 => by
    subst e1
    have W1 := wM_0 (v := 0) W
    refine q_isClerk W1 I_eq (fun g => ⟨rfl, rfl, _, rfl, fun z => (by cases z), fun _ => q_isCard W1 I_eq (fun g2 => ⟨rfl, rfl, _, rfl, fun z => (by cases z), fun _ => q_isCard W1 I_eq (fun g3 => ⟨rfl, rfl, _, rfl, fun z => (by cases z), fun _ => ?_⟩) (fun g3 => ⟨rfl, rfl, _, rfl, fun _ => h2 (fun z => g3 z.2.2), fun z => (by cases z)⟩)⟩) (fun g2 => ⟨rfl, rfl, _, rfl, fun _ => h2 (fun z => g2 z.2.1), fun z => (by cases z)⟩)⟩) (fun g => ⟨rfl, rfl, _, rfl, fun _ => h2 (fun z => g z.1), fun z => (by cases z)⟩)
    obtain ⟨o, ho, rfl⟩ := g
    obtain ⟨c, hc, rfl⟩ := g2
    obtain ⟨e, he, rfl⟩ := g3
    refine q_bef W1 ho hc he (fun M2 W2 L2 => ⟨L2.1.1, L2.1.2.1, _, rfl, ?_⟩)
    have H := h1 o c e ho hc he rfl rfl rfl M2 W2 L2
    refine ⟨fun z => ?_, fun z => ?_⟩
    · rw [z] at H; exact H
    · rw [z] at H; exact H)
theorem p_votesC {d t n N K : Nat} {v1 v2 : Int32} {f : Nat → Nat} {Bs : BB} {M : mx_M} {Q : QQ} (W : wC M t n N K f Bs) (hr : rmE M)
    (h1 : ∀ x y, x < N → y < N → v1 = w x → v2 = w y → Q (.inl (some (.int (ldF K Bs x y)))) M) (h2 : ¬ (isIn v1 N ∧ isIn v2 N) → Q (.inr NSE) (mx_thM M)) : mx_W m_X10_votes (d + 1 + 1 + 1 + 1) 0 [.ref 1, .int v1, .int v2] [] M Q := by
  refine x_X10_votes_0 W.1 t W.2.1.1.1 W.2.1.1.2 _ _ (c_cardG W hr (fun g => ⟨rfl, rfl, Or.inl ⟨rfl, c_cardG W hr (fun g2 => ⟨rfl, rfl, Or.inl ⟨rfl, ?_⟩⟩) (fun g2 => ⟨rfl, rfl, Or.inr ⟨_, rfl, h2 (fun z => g2 z.2)⟩⟩)⟩⟩) (fun g => ⟨rfl, rfl, Or.inr ⟨_, rfl, h2 (fun z => g z.1)⟩⟩))
  obtain ⟨o, ho, rfl⟩ := g
  obtain ⟨c, hc, rfl⟩ := g2
  exact p_lead W.1 W.2.1 ho hc ⟨rfl, rfl, _, rfl, h1 o c ho hc rfl rfl⟩
theorem q_votesC {d n N K : Nat} {v1 v2 : Int32} {f : Nat → Nat} {Bs : BB} {M : mx_M} {Q : QQ} (W : wM M n N K f Bs)
    (h1 : ∀ x y, x < N → y < N → v1 = w x → v2 = w y → ∀ M1, wM M1 n N K f Bs → lip mQ (mx_setI M 58 0 0) M1 → Q (.inl (some (.int (ldF K Bs x y)))) M1) (h2 : ¬ (isIn v1 N ∧ isIn v2 N) → Q (.inl (some (.int 0))) (mx_setI (mx_setI M 58 0 0) 58 0 1)) : mx_W m_X11_votes (d + 4 + 1 + 1) 0 [.ref 58, .int v1, .int v2] [] M Q :=
  x_X11_votes_0 W.1 _ _ (fun M1 e1 => by
    subst e1
    have W1 := wM_0 (v := 0) W
    refine q_isCard W1 I_eq (fun g => ⟨rfl, rfl, _, rfl, fun z => (by cases z), fun _ => q_isCard W1 I_eq (fun g2 => ⟨rfl, rfl, _, rfl, fun z => (by cases z), fun _ => ?_⟩) (fun g2 => ⟨rfl, rfl, _, rfl, fun _ => h2 (fun z => g2 z.2), fun z => (by cases z)⟩)⟩) (fun g => ⟨rfl, rfl, _, rfl, fun _ => h2 (fun z => g z.1), fun z => (by cases z)⟩)
    obtain ⟨o, ho, rfl⟩ := g
    obtain ⟨c, hc, rfl⟩ := g2
    exact q_votes W1 ho hc (fun M2 W2 L2 => ⟨L2.1.1, L2.1.2.1, _, rfl, h1 o c ho hc rfl rfl M2 W2 L2⟩))
theorem p_drawer {d t n N K : Nat} {v : Int32} {f : Nat → Nat} {Bs : BB} {M : mx_M} {Q : QQ} (W : wC M t n N K f Bs) (hr : rmE M)
    (h1 : ∀ i, i < n → v = w i → Q (.inl (some (.int (w (f i))))) M) (h2 : ¬ isIn v n → Q (.inr NSE) (mx_thM M)) : mx_W m_X10_drawer d 0 [.ref 1, .int v] [] M Q := by
  have h10 := W.2.2.1.2.1
  refine x_X10_drawer_0 W.1 t W.2.1.1.1 W.2.1.1.2 _ ?_
  rw [W.2.2.1.1]
  refine ⟨fun z => ⟨hr.1, hr.2, h2 (isIn_neg (by omega) z)⟩, fun z => ⟨fun z2 => ?_, fun z2 => ⟨hr.1, hr.2, h2 (isIn_big (by omega) z2)⟩⟩⟩
  obtain ⟨i, hi, rfl⟩ := isIn_of (by omega) z z2
  rw [w_nat (by omega), (W.2.2.1.2.2 i hi).1]
  exact ⟨w_in (by omega) (by omega), h1 i hi rfl⟩
theorem q_drawer {d n N K : Nat} {v : Int32} {f : Nat → Nat} {Bs : BB} {M : mx_M} {Q : QQ} (W : wM M n N K f Bs)
    (h1 : ∀ i, i < n → v = w i → Q (.inl (some (.int (w (f i))))) (mx_setI M 58 0 0)) (h2 : ¬ isIn v n → Q (.inl (some (.int 0))) (mx_setI (mx_setI M 58 0 0) 58 0 1)) : mx_W m_X11_drawer (d + 1) 0 [.ref 58, .int v] [] M Q :=
  x_X11_drawer_0 W.1 _ (fun M1 e1 => by
    subst e1
    have W1 := wM_0 (v := 0) W
    have h10 := W1.2.2.2.1
    rw [W1.2.2.1]
    refine ⟨fun z => p_rightF W1.1 I_eq (by decide) ⟨rfl, rfl, _, rfl, fun _ => h2 (isIn_neg (by omega) z), fun z => (by cases z)⟩, fun z => ⟨fun z2 => p_rightF W1.1 I_eq (by decide) ⟨rfl, rfl, _, rfl, fun _ => h2 (isIn_big (by omega) (Int32.not_lt.mpr z2)), fun z => (by cases z)⟩, fun z2 => p_rightT W1.1 I_eq ⟨rfl, rfl, _, rfl, fun z => (by cases z), fun _ => ?_⟩⟩⟩
    obtain ⟨i, hi, rfl⟩ := isIn_of (by omega) z (Int32.not_le.mp z2)
    rw [w_1add, w_nat (by omega), (W1.2.2.2.2 i hi).1]
    exact ⟨w_in (by omega) (by omega), h1 i hi rfl⟩)
theorem p_stays {d t n N K L9 : Nat} {S9 : Nat → Nat} {v : Int32} {f : Nat → Nat} {Bs : BB} {M : mx_M} {Q : QQ} (W : wC M t n N K f Bs) (hr : rmE M) (hL : L9 ≤ 10) (e1 : mx_I M 1 11 = w L9) (e2 : ∀ i, i < L9 → mx_I M 43 i = w (S9 i))
    (h1 : ∀ i, i < L9 → v = w i → Q (.inl (some (.int (w (S9 i))))) M) (h2 : ¬ isIn v L9 → Q (.inr NSE) (mx_thM M)) : mx_W m_X10_stays d 0 [.ref 1, .int v] [] M Q := by
  refine x_X10_stays_0 W.1 t W.2.1.1.1 W.2.1.1.2 _ ?_
  rw [e1]
  refine ⟨fun z => ⟨hr.1, hr.2, h2 (isIn_neg (by omega) z)⟩, fun z => ⟨fun z2 => ?_, fun z2 => ⟨hr.1, hr.2, h2 (isIn_big (by omega) z2)⟩⟩⟩
  obtain ⟨i, hi, rfl⟩ := isIn_of (by omega) z z2
  rw [w_nat (by omega), e2 i hi]
  exact ⟨w_in (by omega) (by omega), h1 i hi rfl⟩
theorem q_stays {d n N K L9 : Nat} {S9 : Nat → Nat} {v : Int32} {f : Nat → Nat} {Bs : BB} {M : mx_M} {Q : QQ} (W : wM M n N K f Bs) (hL : L9 ≤ 10) (e1 : mx_I M 58 56 = w L9 ∨ (L9 = 0 ∧ mx_I M 58 56 = -1)) (e2 : ∀ i, i < L9 → mx_I M 94 i = w (S9 i))
    (h1 : ∀ i, i < L9 → v = w i → Q (.inl (some (.int (w (S9 i))))) (mx_setI M 58 0 0)) (h2 : ¬ isIn v L9 → Q (.inl (some (.int 0))) (mx_setI (mx_setI M 58 0 0) 58 0 1)) : mx_W m_X11_stays (d + 1) 0 [.ref 58, .int v] [] M Q :=
  x_X11_stays_0 W.1 _ (fun M1 e9 => by
    subst e9
    have W1 := wM_0 (v := 0) W
    rw [I_ne (show ¬ (58 = 58 ∧ 56 = 0) by decide)]
    rcases e1 with e1 | ⟨rfl, e1⟩
    · rw [e1]
      refine ⟨fun z => absurd z (w_ne1 (by omega)), fun _ => ⟨fun z => p_rightF W1.1 I_eq (by decide) ⟨rfl, rfl, _, rfl, fun _ => h2 (isIn_neg (by omega) z), fun z => (by cases z)⟩, fun z => ⟨fun z2 => p_rightF W1.1 I_eq (by decide) ⟨rfl, rfl, _, rfl, fun _ => h2 (isIn_big (by omega) (Int32.not_lt.mpr z2)), fun z => (by cases z)⟩, fun z2 => p_rightT W1.1 I_eq ⟨rfl, rfl, _, rfl, fun z => (by cases z), fun _ => ?_⟩⟩⟩⟩
      obtain ⟨i, hi, rfl⟩ := isIn_of (by omega) z (Int32.not_le.mp z2)
      rw [w_nat (by omega), I_ne (by omega), e2 i hi]
      exact ⟨w_in (by omega) (by omega), h1 i hi rfl⟩
    · have h3 : ¬ isIn v 0 := by rintro ⟨c, hc, _⟩; omega
      rw [e1]
      exact ⟨fun _ => p_rightF W1.1 I_eq (by decide) ⟨rfl, rfl, _, rfl, fun _ => h2 h3, fun z => (by cases z)⟩, fun z => absurd rfl z⟩)
