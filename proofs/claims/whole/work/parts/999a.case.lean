/-! the law's cases (by tools/mkcase.py) -/
abbrev LPW (d : Nat) (v4 : Int32) (Q : QQ) (M : mx_M) : Prop := mx_W m_L_law (d + 60 + 1) 2312 [.retAddr 1, .ref 1, .ref 58, .ref 98, .int v4, .retAddr 0, .retAddr 0] [] M Q
abbrev tlW (d : Nat) (v4 : Int32) (Q : QQ) (x2 x4 : Int32) (M3 : mx_M) : Prop := mx_W m_X11_thrown (d + 60) 0 [.ref 58] [] M3 (fun o M5 => mx_Tp M5 ∧ (∃ x6 : Int32, o = .inl (some (.int x6)) ∧ ((x6 = x2 → ((¬ x2 = 0 → LPW d v4 Q M5) ∧ (x2 = 0 → ((mx_J M5 98 0 = x4.toInt64 → LPW d v4 Q M5) ∧ (¬ mx_J M5 98 0 = x4.toInt64 → Q (.inl (some (.int (mx_b false)))) M5))))) ∧ (¬ x6 = x2 → Q (.inl (some (.int (mx_b false)))) M5))))
abbrev kR (d : Nat) (v4 : Int32) (Q : QQ) (x2 : Int32) : mx_O → mx_M → Prop := fun o M3 => mx_Tp M3 ∧ (∃ x4 : Int32, o = .inl (some (.int x4)) ∧ tlW d v4 Q x2 x4 M3)
theorem kR_of {d : Nat} {v4 : Int32} {Q : QQ} {x2 x4 : Int32} {M3 : mx_M} (T : mx_Tp M3) (e0 : mx_I M3 58 0 = x2) (ej : x2 = 0 → mx_J M3 98 0 = x4.toInt64) (k : LPW d v4 Q M3) : kR d v4 Q x2 (.inl (some (.int x4))) M3 :=
  ⟨T, x4, rfl, x_X11_thrown_0 T ⟨T, _, rfl, fun _ => ⟨fun _ => k, fun z => ⟨fun _ => k, fun y => absurd (ej z) y⟩⟩, fun z => absurd e0 z⟩⟩
theorem iv_T {M : mx_M} {sc : Nat × (Nat → Int32)} {t u : Nat} {X : TX} {c : CD} {n : Nat} {f : Nat → Nat} {A : AQ} {I : IQ} {S Y : NF} {Z : ZQ} {r : Nat} (H : IV M sc t u X c n f A I S Y Z r) : mx_Tp M := H.2.1.1.1
theorem iv_I {M : mx_M} {sc : Nat × (Nat → Int32)} {t u : Nat} {X : TX} {c : CD} {n : Nat} {f : Nat → Nat} {A : AQ} {I : IQ} {S Y : NF} {Z : ZQ} {r : Nat} (H : IV M sc t u X c n f A I S Y Z r) : INV M sc r := ⟨t, u, X, c, n, f, A, I, S, Y, Z, H⟩
theorem fin_s {d : Nat} {v4 v : Int32} {Q : QQ} {M : mx_M} {sc : Nat × (Nat → Int32)} {t u : Nat} {X : TX} {c : CD} {n : Nat} {f : Nat → Nat} {A : AQ} {I : IQ} {S Y : NF} {Z : ZQ} {r : Nat} (k : ∀ M5, INV M5 sc r → LPW d v4 Q M5) (H : IV M sc t u X c n f A I S Y Z r) : kR d v4 Q 0 (.inl (some (.int v))) (mx_setI (mx_setJ M 98 0 v.toInt64) 58 0 0) :=
  kR_of (iv_T (iv_0 (iv_j H))) I_eq (fun _ => J_eq) (k _ (iv_I (iv_0 (iv_j H))))
theorem fin_q {d : Nat} {v4 v : Int32} {Q : QQ} {M M1 : mx_M} {sc : Nat × (Nat → Int32)} {t u : Nat} {X : TX} {c : CD} {n : Nat} {f : Nat → Nat} {A : AQ} {I : IQ} {S Y : NF} {Z : ZQ} {r : Nat} (k : ∀ M5, INV M5 sc r → LPW d v4 Q M5) (H : IV M sc t u X c n f A I S Y Z r) (L : lip mQ (mx_setI (mx_setJ M 98 0 v.toInt64) 58 0 0) M1) : kR d v4 Q 0 (.inl (some (.int v))) M1 :=
  kR_of (iv_T (iv_q L (iv_j H))) (by rw [(L.2 58 0 (by decide)).1]; exact I_eq) (fun _ => by rw [(L.2 98 0 (by decide)).2]; exact J_eq) (k _ (iv_I (iv_q L (iv_j H))))
theorem fin_t {d : Nat} {v4 v e : Int32} {Q : QQ} {M : mx_M} {sc : Nat × (Nat → Int32)} {t u : Nat} {X : TX} {c : CD} {n : Nat} {f : Nat → Nat} {A : AQ} {I : IQ} {S Y : NF} {Z : ZQ} {r : Nat} (he : ¬ e = 0) (k : ∀ M5, INV M5 sc r → LPW d v4 Q M5) (H : IV M sc t u X c n f A I S Y Z r) : kR d v4 Q e (.inl (some (.int v))) (mx_setI (mx_setI M 58 0 0) 58 0 e) :=
  kR_of (iv_T (iv_0 (iv_0 H))) I_eq (fun z => absurd z he) (k _ (iv_I (iv_0 (iv_0 H))))
theorem w_ij {a b : Nat} {v : Int32} (ha : a < 1000) (hb : b < 1000) (e1 : v = w a) (e2 : v = w b) : a = b := (w_inj (by omega) (by omega)).mp (e1.symm.trans e2)
theorem cL_far : far cL := fun k j z => by have z : k = 44 := z; omega
theorem cL_farM : farM cL := fun k j z => by have z : k = 44 := z; omega
theorem cT_far : far cT := fun k j z => by have z : k = 33 ∨ k = 34 := z; omega
theorem cT_farM : farM cT := fun k j z => by have z : k = 33 ∨ k = 34 := z; omega
theorem la_rank {d r : Nat} {v4 : Int32} {Q : QQ} {M : mx_M} {sc : Nat × (Nat → Int32)} (H : INV M sc (r + 1)) (hi : ∀ j, 1 ≤ j → j ≤ 5 → vp_in (v4 + w j) sc.1) (k : ∀ M5, INV M5 sc r → LPW d v4 Q M5) : mx_W m_L_law (d + 61) 713 [.retAddr 1, .ref 1, .ref 58, .ref 98, .int v4, .retAddr 0, .retAddr 0] [] M Q := by
  obtain ⟨t, u, X, c, n, f, A, I, S, Y, Z, V⟩ := H
  have W := V.1.1
  have hr := rm_E V.2.2.2
  have G := V.2.2.1.1
  have g := G.1
  have D := V.2.2.1.2.1
  have hs : mx_scr M = sc := V.2.2.2.2.2
  have T := W.1
  have St := iv_sto V
  have hn := W.2.2.1.2.1
  have hS := V.2.2.1.2.2.2.2
  refine x_L_law_713 (d := d + 60) T _ ?_
  rw [hs]
  refine ⟨hi 1 (by decide) (by decide), hi 2 (by decide) (by decide), x_L_rank_0 (d := d + 59) T _ _ (p_rank W hr (fun o x ho hx eo ex => ⟨T, Or.inl ⟨_, rfl, fun M3 e3 => ?_⟩⟩) (fun z => ⟨T, Or.inr ⟨rfl, ?_⟩⟩))⟩
  · have V1 := (iv_w V)
    rw [e3]
    refine ⟨iv_T (iv_j V1), 0, rfl, ?_⟩
    rw [show mx_scr (mx_setJ M 98 0 _) = sc from V1.2.2.2.2.2]
    refine ⟨hi 1 (by decide) (by decide), hi 2 (by decide) (by decide), q_rankC (im_wM G (iv_j V1).2.1) (fun o' x' ho' hx' eo' ex' M4 W4 L4 => ?_) (fun z => absurd ⟨⟨o, ho, eo⟩, ⟨x, hx, ex⟩⟩ z)⟩
    · obtain rfl : o' = o := w_ij (by omega) (by omega) eo' eo
      obtain rfl : x' = x := w_ij (by omega) (by omega) ex' ex
      exact fin_q k V1 L4
  · have V1 := iv_th V
    refine ⟨iv_T V1, 1, rfl, ?_⟩
    rw [show mx_scr (mx_thM M) = sc from V1.2.2.2.2.2]
    exact ⟨hi 1 (by decide) (by decide), hi 2 (by decide) (by decide), q_rankC (im_wM G V1.2.1) (fun o' x' ho' hx' eo' ex' _ _ _ => absurd ⟨⟨o', ho', eo'⟩, ⟨x', hx', ex'⟩⟩ z) (fun _ => fin_t (by decide) k V1)⟩
theorem la_at {d r : Nat} {v4 : Int32} {Q : QQ} {M : mx_M} {sc : Nat × (Nat → Int32)} (H : INV M sc (r + 1)) (hi : ∀ j, 1 ≤ j → j ≤ 5 → vp_in (v4 + w j) sc.1) (k : ∀ M5, INV M5 sc r → LPW d v4 Q M5) : mx_W m_L_law (d + 61) 781 [.retAddr 1, .ref 1, .ref 58, .ref 98, .int v4, .retAddr 0, .retAddr 0] [] M Q := by
  obtain ⟨t, u, X, c, n, f, A, I, S, Y, Z, V⟩ := H
  have W := V.1.1
  have hr := rm_E V.2.2.2
  have G := V.2.2.1.1
  have g := G.1
  have D := V.2.2.1.2.1
  have hs : mx_scr M = sc := V.2.2.2.2.2
  have T := W.1
  have St := iv_sto V
  have hn := W.2.2.1.2.1
  have hS := V.2.2.1.2.2.2.2
  refine x_L_law_781 (d := d + 60) T _ ?_
  rw [hs]
  refine ⟨hi 1 (by decide) (by decide), hi 2 (by decide) (by decide), x_L_at_0 (d := d + 59) T _ _ (p_at W hr (fun o x ho hx eo ex => ⟨T, Or.inl ⟨_, rfl, fun M3 e3 => ?_⟩⟩) (fun z => ⟨T, Or.inr ⟨rfl, ?_⟩⟩))⟩
  · have V1 := (iv_w V)
    rw [e3]
    refine ⟨iv_T (iv_j V1), 0, rfl, ?_⟩
    rw [show mx_scr (mx_setJ M 98 0 _) = sc from V1.2.2.2.2.2]
    refine ⟨hi 1 (by decide) (by decide), hi 2 (by decide) (by decide), q_at (im_wM G (iv_j V1).2.1) St (fun o' x' ho' hx' eo' ex' M4 W4 L4 => ?_) (fun z => absurd ⟨⟨o, ho, eo⟩, ⟨x, hx, ex⟩⟩ z)⟩
    · obtain rfl : o' = o := w_ij (by omega) (by omega) eo' eo
      obtain rfl : x' = x := w_ij (by omega) (by omega) ex' ex
      exact fin_q k V1 L4
  · have V1 := iv_th V
    refine ⟨iv_T V1, 1, rfl, ?_⟩
    rw [show mx_scr (mx_thM M) = sc from V1.2.2.2.2.2]
    exact ⟨hi 1 (by decide) (by decide), hi 2 (by decide) (by decide), q_at (im_wM G V1.2.1) St (fun o' x' ho' hx' eo' ex' _ _ _ => absurd ⟨⟨o', ho', eo'⟩, ⟨x', hx', ex'⟩⟩ z) (fun _ => fin_t (by decide) k V1)⟩
theorem la_votes {d r : Nat} {v4 : Int32} {Q : QQ} {M : mx_M} {sc : Nat × (Nat → Int32)} (H : INV M sc (r + 1)) (hi : ∀ j, 1 ≤ j → j ≤ 5 → vp_in (v4 + w j) sc.1) (k : ∀ M5, INV M5 sc r → LPW d v4 Q M5) : mx_W m_L_law (d + 61) 1246 [.retAddr 1, .ref 1, .ref 58, .ref 98, .int v4, .retAddr 0, .retAddr 0] [] M Q := by
  obtain ⟨t, u, X, c, n, f, A, I, S, Y, Z, V⟩ := H
  have W := V.1.1
  have hr := rm_E V.2.2.2
  have G := V.2.2.1.1
  have g := G.1
  have D := V.2.2.1.2.1
  have hs : mx_scr M = sc := V.2.2.2.2.2
  have T := W.1
  have St := iv_sto V
  have hn := W.2.2.1.2.1
  have hS := V.2.2.1.2.2.2.2
  refine x_L_law_1246 (d := d + 60) T _ ?_
  rw [hs]
  refine ⟨hi 1 (by decide) (by decide), hi 2 (by decide) (by decide), x_L_votes_0 (d := d + 59) T _ _ (p_votesC W hr (fun x y hx hy ex ey => ⟨T, Or.inl ⟨_, rfl, fun M3 e3 => ?_⟩⟩) (fun z => ⟨T, Or.inr ⟨rfl, ?_⟩⟩))⟩
  · have V1 := (iv_w V)
    rw [e3]
    refine ⟨iv_T (iv_j V1), 0, rfl, ?_⟩
    rw [show mx_scr (mx_setJ M 98 0 _) = sc from V1.2.2.2.2.2]
    refine ⟨hi 1 (by decide) (by decide), hi 2 (by decide) (by decide), q_votesC (im_wM G (iv_j V1).2.1) (fun x' y' hx' hy' ex' ey' M4 W4 L4 => ?_) (fun z => absurd ⟨⟨x, hx, ex⟩, ⟨y, hy, ey⟩⟩ z)⟩
    · obtain rfl : x' = x := w_ij (by omega) (by omega) ex' ex
      obtain rfl : y' = y := w_ij (by omega) (by omega) ey' ey
      exact fin_q k V1 L4
  · have V1 := iv_th V
    refine ⟨iv_T V1, 1, rfl, ?_⟩
    rw [show mx_scr (mx_thM M) = sc from V1.2.2.2.2.2]
    exact ⟨hi 1 (by decide) (by decide), hi 2 (by decide) (by decide), q_votesC (im_wM G V1.2.1) (fun x' y' hx' hy' ex' ey' _ _ _ => absurd ⟨⟨x', hx', ex'⟩, ⟨y', hy', ey'⟩⟩ z) (fun _ => fin_t (by decide) k V1)⟩
theorem la_differ {d r : Nat} {v4 : Int32} {Q : QQ} {M : mx_M} {sc : Nat × (Nat → Int32)} (H : INV M sc (r + 1)) (hi : ∀ j, 1 ≤ j → j ≤ 5 → vp_in (v4 + w j) sc.1) (k : ∀ M5, INV M5 sc r → LPW d v4 Q M5) : mx_W m_L_law (d + 61) 1166 [.retAddr 1, .ref 1, .ref 58, .ref 98, .int v4, .retAddr 0, .retAddr 0] [] M Q := by
  obtain ⟨t, u, X, c, n, f, A, I, S, Y, Z, V⟩ := H
  have W := V.1.1
  have hr := rm_E V.2.2.2
  have G := V.2.2.1.1
  have g := G.1
  have D := V.2.2.1.2.1
  have hs : mx_scr M = sc := V.2.2.2.2.2
  have T := W.1
  have St := iv_sto V
  have hn := W.2.2.1.2.1
  have hS := V.2.2.1.2.2.2.2
  refine x_L_law_1166 (d := d + 60) T _ ?_
  rw [hs]
  refine ⟨hi 1 (by decide) (by decide), hi 2 (by decide) (by decide), hi 3 (by decide) (by decide), x_L_differ_0 (d := d + 59) T _ _ _ (p_differ W hr (fun o e ho he eo ee i0 => ⟨T, Or.inl ⟨_, rfl, fun M3 e3 => ?_⟩⟩) (fun z => ⟨T, Or.inr ⟨rfl, ?_⟩⟩))⟩
  · have V1 := (iv_w V)
    rw [e3]
    refine ⟨iv_T (iv_j V1), 0, rfl, ?_⟩
    rw [show mx_scr (mx_setJ M 98 0 _) = sc from V1.2.2.2.2.2]
    refine ⟨hi 1 (by decide) (by decide), hi 2 (by decide) (by decide), hi 3 (by decide) (by decide), q_differ (im_wM G (iv_j V1).2.1) (fun o' e' ho' he' eo' ee' _ M4 W4 L4 => ?_) (fun z => absurd ⟨⟨o, ho, eo⟩, ⟨e, he, ee⟩, i0⟩ z)⟩
    · obtain rfl : o' = o := w_ij (by omega) (by omega) eo' eo
      obtain rfl : e' = e := w_ij (by omega) (by omega) ee' ee
      exact fin_q k V1 L4
  · have V1 := iv_th V
    refine ⟨iv_T V1, 1, rfl, ?_⟩
    rw [show mx_scr (mx_thM M) = sc from V1.2.2.2.2.2]
    exact ⟨hi 1 (by decide) (by decide), hi 2 (by decide) (by decide), hi 3 (by decide) (by decide), q_differ (im_wM G V1.2.1) (fun o' e' ho' he' eo' ee' j0 _ _ _ => absurd ⟨⟨o', ho', eo'⟩, ⟨e', he', ee'⟩, j0⟩ z) (fun _ => fin_t (by decide) k V1)⟩
theorem la_search {d r : Nat} {v4 : Int32} {Q : QQ} {M : mx_M} {sc : Nat × (Nat → Int32)} (H : INV M sc (r + 1)) (hi : ∀ j, 1 ≤ j → j ≤ 5 → vp_in (v4 + w j) sc.1) (k : ∀ M5, INV M5 sc r → LPW d v4 Q M5) : mx_W m_L_law (d + 61) 1452 [.retAddr 1, .ref 1, .ref 58, .ref 98, .int v4, .retAddr 0, .retAddr 0] [] M Q := by
  obtain ⟨t, u, X, c, n, f, A, I, S, Y, Z, V⟩ := H
  have W := V.1.1
  have hr := rm_E V.2.2.2
  have G := V.2.2.1.1
  have g := G.1
  have D := V.2.2.1.2.1
  have hs : mx_scr M = sc := V.2.2.2.2.2
  have T := W.1
  have St := iv_sto V
  have hn := W.2.2.1.2.1
  have hS := V.2.2.1.2.2.2.2
  refine x_L_law_1452 (d := d + 60) T _ ?_
  rw [hs]
  refine ⟨hi 1 (by decide) (by decide), hi 2 (by decide) (by decide), hi 3 (by decide) (by decide), x_L_search_0 (d := d + 59) T _ _ _ (p_search W hr (fun o x ho hx eo ex i0 => ⟨T, Or.inl ⟨_, rfl, fun M3 e3 => ?_⟩⟩) (fun z => ⟨T, Or.inr ⟨rfl, ?_⟩⟩))⟩
  · have V1 := (iv_w V)
    rw [e3]
    refine ⟨iv_T (iv_j V1), 0, rfl, ?_⟩
    rw [show mx_scr (mx_setJ M 98 0 _) = sc from V1.2.2.2.2.2]
    refine ⟨hi 1 (by decide) (by decide), hi 2 (by decide) (by decide), hi 3 (by decide) (by decide), q_search (im_wM G (iv_j V1).2.1) (fun o' x' ho' hx' eo' ex' _ M4 W4 L4 => ?_) (fun z => absurd ⟨⟨o, ho, eo⟩, ⟨x, hx, ex⟩, i0⟩ z)⟩
    · obtain rfl : o' = o := w_ij (by omega) (by omega) eo' eo
      obtain rfl : x' = x := w_ij (by omega) (by omega) ex' ex
      exact fin_q k V1 L4
  · have V1 := iv_th V
    refine ⟨iv_T V1, 1, rfl, ?_⟩
    rw [show mx_scr (mx_thM M) = sc from V1.2.2.2.2.2]
    exact ⟨hi 1 (by decide) (by decide), hi 2 (by decide) (by decide), hi 3 (by decide) (by decide), q_search (im_wM G V1.2.1) (fun o' x' ho' hx' eo' ex' j0 _ _ _ => absurd ⟨⟨o', ho', eo'⟩, ⟨x', hx', ex'⟩, j0⟩ z) (fun _ => fin_t (by decide) k V1)⟩
theorem la_off {d r : Nat} {v4 : Int32} {Q : QQ} {M : mx_M} {sc : Nat × (Nat → Int32)} (H : INV M sc (r + 1)) (hi : ∀ j, 1 ≤ j → j ≤ 5 → vp_in (v4 + w j) sc.1) (k : ∀ M5, INV M5 sc r → LPW d v4 Q M5) : mx_W m_L_law (d + 61) 2072 [.retAddr 1, .ref 1, .ref 58, .ref 98, .int v4, .retAddr 0, .retAddr 0] [] M Q := by
  obtain ⟨t, u, X, c, n, f, A, I, S, Y, Z, V⟩ := H
  have W := V.1.1
  have hr := rm_E V.2.2.2
  have G := V.2.2.1.1
  have g := G.1
  have D := V.2.2.1.2.1
  have hs : mx_scr M = sc := V.2.2.2.2.2
  have T := W.1
  have St := iv_sto V
  have hn := W.2.2.1.2.1
  have hS := V.2.2.1.2.2.2.2
  refine x_L_law_2072 (d := d + 60) T _ ?_
  rw [hs]
  refine ⟨hi 1 (by decide) (by decide), hi 2 (by decide) (by decide), x_L_off_0 (d := d + 59) T _ _ (p_off W hr (fun o x ho hx eo ex => ⟨T, Or.inl ⟨_, rfl, fun M3 e3 => ?_⟩⟩) (fun z => ⟨T, Or.inr ⟨rfl, ?_⟩⟩))⟩
  · have V1 := (iv_w V)
    rw [e3]
    refine ⟨iv_T (iv_j V1), 0, rfl, ?_⟩
    rw [show mx_scr (mx_setJ M 98 0 _) = sc from V1.2.2.2.2.2]
    refine ⟨hi 1 (by decide) (by decide), hi 2 (by decide) (by decide), q_off (im_wM G (iv_j V1).2.1) St D (fun o' x' ho' hx' eo' ex' M4 W4 L4 => ?_) (fun z => absurd ⟨⟨o, ho, eo⟩, ⟨x, hx, ex⟩⟩ z)⟩
    · obtain rfl : o' = o := w_ij (by omega) (by omega) eo' eo
      obtain rfl : x' = x := w_ij (by omega) (by omega) ex' ex
      exact fin_q k V1 L4
  · have V1 := iv_th V
    refine ⟨iv_T V1, 1, rfl, ?_⟩
    rw [show mx_scr (mx_thM M) = sc from V1.2.2.2.2.2]
    exact ⟨hi 1 (by decide) (by decide), hi 2 (by decide) (by decide), q_off (im_wM G V1.2.1) St D (fun o' x' ho' hx' eo' ex' _ _ _ => absurd ⟨⟨o', ho', eo'⟩, ⟨x', hx', ex'⟩⟩ z) (fun _ => fin_t (by decide) k V1)⟩
theorem la_worst {d r : Nat} {v4 : Int32} {Q : QQ} {M : mx_M} {sc : Nat × (Nat → Int32)} (H : INV M sc (r + 1)) (hi : ∀ j, 1 ≤ j → j ≤ 5 → vp_in (v4 + w j) sc.1) (k : ∀ M5, INV M5 sc r → LPW d v4 Q M5) : mx_W m_L_law (d + 61) 2140 [.retAddr 1, .ref 1, .ref 58, .ref 98, .int v4, .retAddr 0, .retAddr 0] [] M Q := by
  obtain ⟨t, u, X, c, n, f, A, I, S, Y, Z, V⟩ := H
  have W := V.1.1
  have hr := rm_E V.2.2.2
  have G := V.2.2.1.1
  have g := G.1
  have D := V.2.2.1.2.1
  have hs : mx_scr M = sc := V.2.2.2.2.2
  have T := W.1
  have St := iv_sto V
  have hn := W.2.2.1.2.1
  have hS := V.2.2.1.2.2.2.2
  refine x_L_law_2140 (d := d + 60) T _ ?_
  rw [hs]
  refine ⟨hi 1 (by decide) (by decide), hi 2 (by decide) (by decide), x_L_worst_0 (d := d + 59) T _ _ (p_worst W hr (fun o ho eo i0 => ⟨T, Or.inl ⟨_, rfl, fun M3 e3 => ?_⟩⟩) (fun z => ⟨T, Or.inr ⟨rfl, ?_⟩⟩))⟩
  · have V1 := (iv_w V)
    rw [e3]
    refine ⟨iv_T (iv_j V1), 0, rfl, ?_⟩
    rw [show mx_scr (mx_setJ M 98 0 _) = sc from V1.2.2.2.2.2]
    refine ⟨hi 1 (by decide) (by decide), hi 2 (by decide) (by decide), q_worst (im_wM G (iv_j V1).2.1) St D (fun o' ho' eo' _ M4 W4 L4 => ?_) (fun z => absurd ⟨⟨o, ho, eo⟩, i0⟩ z)⟩
    · obtain rfl : o' = o := w_ij (by omega) (by omega) eo' eo
      exact fin_q k V1 L4
  · have V1 := iv_th V
    refine ⟨iv_T V1, 1, rfl, ?_⟩
    rw [show mx_scr (mx_thM M) = sc from V1.2.2.2.2.2]
    exact ⟨hi 1 (by decide) (by decide), hi 2 (by decide) (by decide), q_worst (im_wM G V1.2.1) St D (fun o' ho' eo' j0 _ _ _ => absurd ⟨⟨o', ho', eo'⟩, j0⟩ z) (fun _ => fin_t (by decide) k V1)⟩
theorem la_card {d r : Nat} {v4 : Int32} {Q : QQ} {M : mx_M} {sc : Nat × (Nat → Int32)} (H : INV M sc (r + 1)) (hi : ∀ j, 1 ≤ j → j ≤ 5 → vp_in (v4 + w j) sc.1) (k : ∀ M5, INV M5 sc r → LPW d v4 Q M5) : mx_W m_L_law (d + 61) 410 [.retAddr 1, .ref 1, .ref 58, .ref 98, .int v4, .retAddr 0, .retAddr 0] [] M Q := by
  obtain ⟨t, u, X, c, n, f, A, I, S, Y, Z, V⟩ := H
  have W := V.1.1
  have hr := rm_E V.2.2.2
  have G := V.2.2.1.1
  have g := G.1
  have D := V.2.2.1.2.1
  have hs : mx_scr M = sc := V.2.2.2.2.2
  have T := W.1
  have St := iv_sto V
  have hn := W.2.2.1.2.1
  have hS := V.2.2.1.2.2.2.2
  refine x_L_law_410 (d := d + 60) T _ ?_
  rw [hs]
  refine ⟨hi 1 (by decide) (by decide), hi 2 (by decide) (by decide), x_L_card_0 (d := d + 59) T _ _ (p_card W V.1.2.2.1.2.1 hr (fun x q hx hq ex eq => ⟨T, Or.inl ⟨_, rfl, fun M3 e3 => ?_⟩⟩) (fun z => ⟨T, Or.inr ⟨rfl, ?_⟩⟩))⟩
  · have V1 := (iv_w V)
    rw [e3]
    refine ⟨iv_T (iv_j V1), 0, rfl, ?_⟩
    rw [show mx_scr (mx_setJ M 98 0 _) = sc from V1.2.2.2.2.2]
    refine ⟨hi 1 (by decide) (by decide), hi 2 (by decide) (by decide), q_cardC (im_wM G (iv_j V1).2.1) (iv_j V1).2.1.2.1.2.1 (fun x' q' hx' hq' ex' eq' M4 W4 L4 => ?_) (fun z => absurd ⟨⟨x, hx, ex⟩, ⟨q, hq, eq⟩⟩ z)⟩
    · obtain rfl : x' = x := w_ij (by omega) (by omega) ex' ex
      obtain rfl : q' = q := w_ij (by omega) (by omega) eq' eq
      exact fin_q k V1 L4
  · have V1 := iv_th V
    refine ⟨iv_T V1, 1, rfl, ?_⟩
    rw [show mx_scr (mx_thM M) = sc from V1.2.2.2.2.2]
    exact ⟨hi 1 (by decide) (by decide), hi 2 (by decide) (by decide), q_cardC (im_wM G V1.2.1) V1.2.1.2.1.2.1 (fun x' q' hx' hq' ex' eq' _ _ _ => absurd ⟨⟨x', hx', ex'⟩, ⟨q', hq', eq'⟩⟩ z) (fun _ => fin_t (by decide) k V1)⟩
theorem la_clerk {d r : Nat} {v4 : Int32} {Q : QQ} {M : mx_M} {sc : Nat × (Nat → Int32)} (H : INV M sc (r + 1)) (hi : ∀ j, 1 ≤ j → j ≤ 5 → vp_in (v4 + w j) sc.1) (k : ∀ M5, INV M5 sc r → LPW d v4 Q M5) : mx_W m_L_law (d + 61) 478 [.retAddr 1, .ref 1, .ref 58, .ref 98, .int v4, .retAddr 0, .retAddr 0] [] M Q := by
  obtain ⟨t, u, X, c, n, f, A, I, S, Y, Z, V⟩ := H
  have W := V.1.1
  have hr := rm_E V.2.2.2
  have G := V.2.2.1.1
  have g := G.1
  have D := V.2.2.1.2.1
  have hs : mx_scr M = sc := V.2.2.2.2.2
  have T := W.1
  have St := iv_sto V
  have hn := W.2.2.1.2.1
  have hS := V.2.2.1.2.2.2.2
  refine x_L_law_478 (d := d + 60) T _ ?_
  rw [hs]
  refine ⟨hi 1 (by decide) (by decide), hi 2 (by decide) (by decide), x_L_clerk_0 (d := d + 59) T _ _ (p_clerk W V.1.2.2.1.2.2.2.1 hr (fun o q ho hq eo eq M1 W1 L1 => ⟨(lip_T L1 T), Or.inl ⟨_, rfl, fun M3 e3 => ?_⟩⟩) (fun z => ⟨T, Or.inr ⟨rfl, ?_⟩⟩))⟩
  · have V1 := (iv_far L1 cL_far cL_farM (iv_w V))
    rw [e3]
    refine ⟨iv_T (iv_j V1), 0, rfl, ?_⟩
    rw [show mx_scr (mx_setJ M1 98 0 _) = sc from V1.2.2.2.2.2]
    refine ⟨hi 1 (by decide) (by decide), hi 2 (by decide) (by decide), q_clerk (im_wM G (iv_j V1).2.1) (iv_j V1).2.1.2.1.2.2.2.1 (fun o' q' ho' hq' eo' eq' M4 W4 L4 => ?_) (fun z => absurd ⟨⟨o, ho, eo⟩, ⟨q, hq, eq⟩⟩ z)⟩
    · obtain rfl : o' = o := w_ij (by omega) (by omega) eo' eo
      obtain rfl : q' = q := w_ij (by omega) (by omega) eq' eq
      exact fin_q k V1 L4
  · have V1 := iv_th V
    refine ⟨iv_T V1, 1, rfl, ?_⟩
    rw [show mx_scr (mx_thM M) = sc from V1.2.2.2.2.2]
    exact ⟨hi 1 (by decide) (by decide), hi 2 (by decide) (by decide), q_clerk (im_wM G V1.2.1) V1.2.1.2.1.2.2.2.1 (fun o' q' ho' hq' eo' eq' _ _ _ => absurd ⟨⟨o', ho', eo'⟩, ⟨q', hq', eq'⟩⟩ z) (fun _ => fin_t (by decide) k V1)⟩
theorem la_drawer {d r : Nat} {v4 : Int32} {Q : QQ} {M : mx_M} {sc : Nat × (Nat → Int32)} (H : INV M sc (r + 1)) (hi : ∀ j, 1 ≤ j → j ≤ 5 → vp_in (v4 + w j) sc.1) (k : ∀ M5, INV M5 sc r → LPW d v4 Q M5) : mx_W m_L_law (d + 61) 849 [.retAddr 1, .ref 1, .ref 58, .ref 98, .int v4, .retAddr 0, .retAddr 0] [] M Q := by
  obtain ⟨t, u, X, c, n, f, A, I, S, Y, Z, V⟩ := H
  have W := V.1.1
  have hr := rm_E V.2.2.2
  have G := V.2.2.1.1
  have g := G.1
  have D := V.2.2.1.2.1
  have hs : mx_scr M = sc := V.2.2.2.2.2
  have T := W.1
  have St := iv_sto V
  have hn := W.2.2.1.2.1
  have hS := V.2.2.1.2.2.2.2
  refine x_L_law_849 (d := d + 60) T _ ?_
  rw [hs]
  refine ⟨hi 1 (by decide) (by decide), x_L_drawer_0 (d := d + 59) T _ (p_drawer W hr (fun q hq eq => ⟨T, Or.inl ⟨_, rfl, fun M3 e3 => ?_⟩⟩) (fun z => ⟨T, Or.inr ⟨rfl, ?_⟩⟩))⟩
  · have V1 := (iv_w V)
    rw [e3]
    refine ⟨iv_T (iv_j V1), 0, rfl, ?_⟩
    rw [show mx_scr (mx_setJ M 98 0 _) = sc from V1.2.2.2.2.2]
    refine ⟨hi 1 (by decide) (by decide), q_drawer (im_wM G (iv_j V1).2.1) (fun q' hq' eq' => ?_) (fun z => absurd ⟨q, hq, eq⟩ z)⟩
    · obtain rfl : q' = q := w_ij (by omega) (by omega) eq' eq
      exact fin_s k V1
  · have V1 := iv_th V
    refine ⟨iv_T V1, 1, rfl, ?_⟩
    rw [show mx_scr (mx_thM M) = sc from V1.2.2.2.2.2]
    exact ⟨hi 1 (by decide) (by decide), q_drawer (im_wM G V1.2.1) (fun q' hq' eq' => absurd ⟨q', hq', eq'⟩ z) (fun _ => fin_t (by decide) k V1)⟩
theorem la_stays {d r : Nat} {v4 : Int32} {Q : QQ} {M : mx_M} {sc : Nat × (Nat → Int32)} (H : INV M sc (r + 1)) (hi : ∀ j, 1 ≤ j → j ≤ 5 → vp_in (v4 + w j) sc.1) (k : ∀ M5, INV M5 sc r → LPW d v4 Q M5) : mx_W m_L_law (d + 61) 1396 [.retAddr 1, .ref 1, .ref 58, .ref 98, .int v4, .retAddr 0, .retAddr 0] [] M Q := by
  obtain ⟨t, u, X, c, n, f, A, I, S, Y, Z, V⟩ := H
  have W := V.1.1
  have hr := rm_E V.2.2.2
  have G := V.2.2.1.1
  have g := G.1
  have D := V.2.2.1.2.1
  have hs : mx_scr M = sc := V.2.2.2.2.2
  have T := W.1
  have St := iv_sto V
  have hn := W.2.2.1.2.1
  have hS := V.2.2.1.2.2.2.2
  refine x_L_law_1396 (d := d + 60) T _ ?_
  rw [hs]
  refine ⟨hi 1 (by decide) (by decide), x_L_stays_0 (d := d + 59) T _ (p_stays W hr hS V.1.2.2.2.2.2.2.2.1.1 V.1.2.2.2.2.2.2.2.1.2 (fun q hq eq => ⟨T, Or.inl ⟨_, rfl, fun M3 e3 => ?_⟩⟩) (fun z => ⟨T, Or.inr ⟨rfl, ?_⟩⟩))⟩
  · have V1 := (iv_w V)
    rw [e3]
    refine ⟨iv_T (iv_j V1), 0, rfl, ?_⟩
    rw [show mx_scr (mx_setJ M 98 0 _) = sc from V1.2.2.2.2.2]
    refine ⟨hi 1 (by decide) (by decide), q_stays (im_wM G (iv_j V1).2.1) hS (iv_j V1).2.1.2.2.2.2.2.1.1 (iv_j V1).2.1.2.2.2.2.2.1.2 (fun q' hq' eq' => ?_) (fun z => absurd ⟨q, hq, eq⟩ z)⟩
    · obtain rfl : q' = q := w_ij (by omega) (by omega) eq' eq
      exact fin_s k V1
  · have V1 := iv_th V
    refine ⟨iv_T V1, 1, rfl, ?_⟩
    rw [show mx_scr (mx_thM M) = sc from V1.2.2.2.2.2]
    exact ⟨hi 1 (by decide) (by decide), q_stays (im_wM G V1.2.1) hS V1.2.1.2.2.2.2.2.1.1 V1.2.1.2.2.2.2.2.1.2 (fun q' hq' eq' => absurd ⟨q', hq', eq'⟩ z) (fun _ => fin_t (by decide) k V1)⟩
theorem la_count {d r : Nat} {v4 : Int32} {Q : QQ} {M : mx_M} {sc : Nat × (Nat → Int32)} (H : INV M sc (r + 1)) (hi : ∀ j, 1 ≤ j → j ≤ 5 → vp_in (v4 + w j) sc.1) (k : ∀ M5, INV M5 sc r → LPW d v4 Q M5) : mx_W m_L_law (d + 61) 354 [.retAddr 1, .ref 1, .ref 58, .ref 98, .int v4, .retAddr 0, .retAddr 0] [] M Q := by
  obtain ⟨t, u, X, c, n, f, A, I, S, Y, Z, V⟩ := H
  have W := V.1.1
  have hr := rm_E V.2.2.2
  have G := V.2.2.1.1
  have g := G.1
  have D := V.2.2.1.2.1
  have hs : mx_scr M = sc := V.2.2.2.2.2
  have T := W.1
  have St := iv_sto V
  have hn := W.2.2.1.2.1
  have hS := V.2.2.1.2.2.2.2
  refine x_L_law_354 (d := d + 60) T _ ?_
  rw [hs]
  refine ⟨hi 1 (by decide) (by decide), x_L_count_0 (d := d + 59) T _ (p_count W hr V.1.2.2.2.2.1.1 V.1.2.2.2.2.2.2.2.2.1.1 V.1.2.2.2.2.2.2.2.2.2.2.1 V.1.2.2.2.2.2.2.2.2.2.2.2 (fun q hq eq => ⟨T, Or.inl ⟨_, rfl, fun M3 e3 => ?_⟩⟩) (fun z => ⟨T, Or.inr ⟨rfl, ?_⟩⟩))⟩
  · have V1 := (iv_w V)
    rw [e3]
    refine ⟨iv_T (iv_j V1), 0, rfl, ?_⟩
    rw [show mx_scr (mx_setJ M 98 0 _) = sc from V1.2.2.2.2.2]
    refine ⟨hi 1 (by decide) (by decide), q_count (im_wM G (iv_j V1).2.1) (iv_j V1).2.1.2.2.2.1.1 (iv_j V1).2.1.2.2.2.2.2.2.1.1 (iv_j V1).2.1.2.2.2.2.2.2.2.2.1 (iv_j V1).2.1.2.2.2.2.2.2.2.2.2 (fun q' hq' eq' => ?_) (fun z => absurd ⟨q, hq, eq⟩ z)⟩
    · obtain rfl : q' = q := w_ij (by omega) (by omega) eq' eq
      exact fin_s k V1
  · have V1 := iv_th V
    refine ⟨iv_T V1, 1, rfl, ?_⟩
    rw [show mx_scr (mx_thM M) = sc from V1.2.2.2.2.2]
    exact ⟨hi 1 (by decide) (by decide), q_count (im_wM G V1.2.1) V1.2.1.2.2.2.1.1 V1.2.1.2.2.2.2.2.2.1.1 V1.2.1.2.2.2.2.2.2.2.2.1 V1.2.1.2.2.2.2.2.2.2.2.2 (fun q' hq' eq' => absurd ⟨q', hq', eq'⟩ z) (fun _ => fin_t (by decide) k V1)⟩
theorem la_telling {d r : Nat} {v4 : Int32} {Q : QQ} {M : mx_M} {sc : Nat × (Nat → Int32)} (H : INV M sc (r + 1)) (hi : ∀ j, 1 ≤ j → j ≤ 5 → vp_in (v4 + w j) sc.1) (k : ∀ M5, INV M5 sc r → LPW d v4 Q M5) : mx_W m_L_law (d + 61) 1558 [.retAddr 1, .ref 1, .ref 58, .ref 98, .int v4, .retAddr 0, .retAddr 0] [] M Q := by
  obtain ⟨t, u, X, c, n, f, A, I, S, Y, Z, V⟩ := H
  have W := V.1.1
  have hr := rm_E V.2.2.2
  have G := V.2.2.1.1
  have g := G.1
  have D := V.2.2.1.2.1
  have hs : mx_scr M = sc := V.2.2.2.2.2
  have T := W.1
  have St := iv_sto V
  have hn := W.2.2.1.2.1
  have hS := V.2.2.1.2.2.2.2
  refine x_L_law_1558 (d := d + 60) T _ ?_
  rw [hs]
  refine ⟨hi 1 (by decide) (by decide), x_L_telling_0 (d := d + 59) T _ (p_telling W hr (fun i0 => ⟨T, Or.inl ⟨_, rfl, fun M3 e3 => ?_⟩⟩) (fun z => ⟨T, Or.inr ⟨rfl, ?_⟩⟩))⟩
  · have V1 := (iv_w V)
    rw [e3]
    refine ⟨iv_T (iv_j V1), 0, rfl, ?_⟩
    rw [show mx_scr (mx_setJ M 98 0 _) = sc from V1.2.2.2.2.2]
    refine ⟨hi 1 (by decide) (by decide), q_telling (im_wM G (iv_j V1).2.1) (fun _ M4 W4 L4 => ?_) (fun z => absurd i0 z)⟩
    · skip
      exact fin_q k V1 L4
  · have V1 := iv_th V
    refine ⟨iv_T V1, 1, rfl, ?_⟩
    rw [show mx_scr (mx_thM M) = sc from V1.2.2.2.2.2]
    exact ⟨hi 1 (by decide) (by decide), q_telling (im_wM G V1.2.1) (fun j0 _ _ _ => absurd j0 z) (fun _ => fin_t (by decide) k V1)⟩
theorem la_closest {d r : Nat} {v4 : Int32} {Q : QQ} {M : mx_M} {sc : Nat × (Nat → Int32)} (H : INV M sc (r + 1)) (hi : ∀ j, 1 ≤ j → j ≤ 5 → vp_in (v4 + w j) sc.1) (k : ∀ M5, INV M5 sc r → LPW d v4 Q M5) : mx_W m_L_law (d + 61) 2016 [.retAddr 1, .ref 1, .ref 58, .ref 98, .int v4, .retAddr 0, .retAddr 0] [] M Q := by
  obtain ⟨t, u, X, c, n, f, A, I, S, Y, Z, V⟩ := H
  have W := V.1.1
  have hr := rm_E V.2.2.2
  have G := V.2.2.1.1
  have g := G.1
  have D := V.2.2.1.2.1
  have hs : mx_scr M = sc := V.2.2.2.2.2
  have T := W.1
  have St := iv_sto V
  have hn := W.2.2.1.2.1
  have hS := V.2.2.1.2.2.2.2
  refine x_L_law_2016 (d := d + 60) T _ ?_
  rw [hs]
  refine ⟨hi 1 (by decide) (by decide), x_L_closest_0 (d := d + 59) T _ (p_closest W hr (fun i0 => ⟨T, Or.inl ⟨_, rfl, fun M3 e3 => ?_⟩⟩) (fun z => ⟨T, Or.inr ⟨rfl, ?_⟩⟩))⟩
  · have V1 := (iv_w V)
    rw [e3]
    refine ⟨iv_T (iv_j V1), 0, rfl, ?_⟩
    rw [show mx_scr (mx_setJ M 98 0 _) = sc from V1.2.2.2.2.2]
    refine ⟨hi 1 (by decide) (by decide), q_closest (im_wM G (iv_j V1).2.1) (fun _ M4 W4 L4 => ?_) (fun z => absurd i0 z)⟩
    · skip
      exact fin_q k V1 L4
  · have V1 := iv_th V
    refine ⟨iv_T V1, 1, rfl, ?_⟩
    rw [show mx_scr (mx_thM M) = sc from V1.2.2.2.2.2]
    exact ⟨hi 1 (by decide) (by decide), q_closest (im_wM G V1.2.1) (fun j0 _ _ _ => absurd j0 z) (fun _ => fin_t (by decide) k V1)⟩
theorem la_reader {d r : Nat} {v4 : Int32} {Q : QQ} {M : mx_M} {sc : Nat × (Nat → Int32)} (H : INV M sc (r + 1)) (hi : ∀ j, 1 ≤ j → j ≤ 5 → vp_in (v4 + w j) sc.1) (k : ∀ M5, INV M5 sc r → LPW d v4 Q M5) : mx_W m_L_law (d + 61) 1695 [.retAddr 1, .ref 1, .ref 58, .ref 98, .int v4, .retAddr 0, .retAddr 0] [] M Q := by
  obtain ⟨t, u, X, c, n, f, A, I, S, Y, Z, V⟩ := H
  have W := V.1.1
  have hr := rm_E V.2.2.2
  have G := V.2.2.1.1
  have g := G.1
  have D := V.2.2.1.2.1
  have hs : mx_scr M = sc := V.2.2.2.2.2
  have T := W.1
  have St := iv_sto V
  have hn := W.2.2.1.2.1
  have hS := V.2.2.1.2.2.2.2
  refine x_L_law_1695 (d := d + 60) T _ ?_
  rw [hs]
  refine ⟨hi 1 (by decide) (by decide), hi 2 (by decide) (by decide), hi 3 (by decide) (by decide), x_L_reader_0 (d := d + 59) T _ _ _ (p_reader W V.1.2.2.2.1 hr (fun o x m ho hx hm eo ex em => ⟨T, Or.inl ⟨_, rfl, fun M3 e3 => ?_⟩⟩) (fun z => ⟨T, Or.inr (Or.inl ⟨rfl, ?_⟩)⟩) (fun a b z => ⟨T, Or.inr (Or.inr ⟨rfl, ?_⟩)⟩))⟩
  · have V1 := (iv_w V)
    rw [e3]
    refine ⟨iv_T (iv_j V1), 0, rfl, ?_⟩
    rw [show mx_scr (mx_setJ M 98 0 _) = sc from V1.2.2.2.2.2]
    refine ⟨hi 1 (by decide) (by decide), hi 2 (by decide) (by decide), hi 3 (by decide) (by decide), q_reader (im_wM G (iv_j V1).2.1) (iv_j V1).2.1.2.2.1 (fun o' x' m' ho' hx' hm' eo' ex' em' => ?_) (fun z => absurd ⟨⟨o, ho, eo⟩, ⟨x, hx, ex⟩⟩ z) (fun _ _ z => absurd ⟨m, hm, em⟩ z)⟩
    obtain rfl : o' = o := w_ij (by omega) (by omega) eo' eo
    obtain rfl : x' = x := w_ij (by omega) (by omega) ex' ex
    obtain rfl : m' = m := w_ij (by omega) (by omega) em' em
    exact fin_s k V1
  · have V1 := iv_th V
    refine ⟨iv_T V1, 1, rfl, ?_⟩
    rw [show mx_scr (mx_thM M) = sc from V1.2.2.2.2.2]
    exact ⟨hi 1 (by decide) (by decide), hi 2 (by decide) (by decide), hi 3 (by decide) (by decide), q_reader (im_wM G V1.2.1) V1.2.1.2.2.1 (fun o' x' m' ho' hx' hm' eo' ex' em' => absurd ⟨⟨o', ho', eo'⟩, ⟨x', hx', ex'⟩⟩ z) (fun _ => fin_t (by decide) k V1) (fun a b _ => absurd ⟨a, b⟩ z)⟩
  · have V1 := iv_th V
    refine ⟨iv_T V1, 2, rfl, ?_⟩
    rw [show mx_scr (mx_thM M) = sc from V1.2.2.2.2.2]
    exact ⟨hi 1 (by decide) (by decide), hi 2 (by decide) (by decide), hi 3 (by decide) (by decide), q_reader (im_wM G V1.2.1) V1.2.1.2.2.1 (fun o' x' m' ho' hx' hm' eo' ex' em' => absurd ⟨m', hm', em'⟩ z) (fun y => absurd ⟨a, b⟩ y) (fun _ _ _ => fin_t (by decide) k V1)⟩
theorem la_years {d r : Nat} {v4 : Int32} {Q : QQ} {M : mx_M} {sc : Nat × (Nat → Int32)} (H : INV M sc (r + 1)) (hi : ∀ j, 1 ≤ j → j ≤ 5 → vp_in (v4 + w j) sc.1) (k : ∀ M5, INV M5 sc r → LPW d v4 Q M5) : mx_W m_L_law (d + 61) 1867 [.retAddr 1, .ref 1, .ref 58, .ref 98, .int v4, .retAddr 0, .retAddr 0] [] M Q := by
  obtain ⟨t, u, X, c, n, f, A, I, S, Y, Z, V⟩ := H
  have W := V.1.1
  have hr := rm_E V.2.2.2
  have G := V.2.2.1.1
  have g := G.1
  have D := V.2.2.1.2.1
  have hs : mx_scr M = sc := V.2.2.2.2.2
  have T := W.1
  have St := iv_sto V
  have hn := W.2.2.1.2.1
  have hS := V.2.2.1.2.2.2.2
  refine x_L_law_1867 (d := d + 60) T _ ?_
  rw [hs]
  refine ⟨hi 1 (by decide) (by decide), hi 2 (by decide) (by decide), hi 3 (by decide) (by decide), x_L_years_0 (d := d + 59) T _ _ _ (p_years W D hr (fun m hm em i3 M1 W1 L1 => ⟨lip_T L1 T, Or.inl ⟨_, rfl, fun M3 e3 => ?_⟩⟩) (fun z => ⟨T, Or.inr (Or.inl ⟨rfl, ?_⟩)⟩) (fun a z => ⟨T, Or.inr (Or.inr ⟨rfl, ?_⟩)⟩))⟩
  · have V1 := (iv_far L1 cT_far cT_farM (iv_w V))
    rw [e3]
    refine ⟨iv_T (iv_j V1), 0, rfl, ?_⟩
    rw [show mx_scr (mx_setJ M1 98 0 _) = sc from V1.2.2.2.2.2]
    refine ⟨hi 1 (by decide) (by decide), hi 2 (by decide) (by decide), hi 3 (by decide) (by decide), q_years (im_wM G (iv_j V1).2.1) D (fun m' hm' em' _ M4 W4 L4 => ?_) (fun z => absurd i3 z) (fun _ z => absurd ⟨m, by omega, em⟩ z)⟩
    obtain rfl : m' = m := w_ij (by omega) (by omega) em' em
    exact fin_q k V1 L4
  · have V1 := iv_th V
    refine ⟨iv_T V1, 1, rfl, ?_⟩
    rw [show mx_scr (mx_thM M) = sc from V1.2.2.2.2.2]
    exact ⟨hi 1 (by decide) (by decide), hi 2 (by decide) (by decide), hi 3 (by decide) (by decide), q_years (im_wM G V1.2.1) D (fun m' hm' em' j3 _ _ _ => absurd j3 z) (fun _ => fin_t (by decide) k V1) (fun a _ => absurd a z)⟩
  · have V1 := iv_th V
    refine ⟨iv_T V1, 2, rfl, ?_⟩
    rw [show mx_scr (mx_thM M) = sc from V1.2.2.2.2.2]
    exact ⟨hi 1 (by decide) (by decide), hi 2 (by decide) (by decide), hi 3 (by decide) (by decide), q_years (im_wM G V1.2.1) D (fun m' hm' em' j3 _ _ _ => absurd ⟨m', by omega, em'⟩ z) (fun y => absurd a y) (fun _ _ => fin_t (by decide) k V1)⟩
theorem gmP_of {v1 v2 v3 : Int32} {a b m : Nat} (ha : a < 4) (hb : b < 4) (hne : ¬ a = b) (hm : m < 100) (e1 : v1 = w a) (e2 : v2 = w b) (e3 : v3 = w m) : gmP v1 v2 v3 := by
  exact ⟨fun h => hne ((w_inj (by omega) (by omega)).mp (e1.symm.trans (h.trans e2))), ⟨m, hm, e3⟩⟩
theorem la_game {d r : Nat} {v4 : Int32} {Q : QQ} {M : mx_M} {sc : Nat × (Nat → Int32)} (H : INV M sc (r + 1)) (hi : ∀ j, 1 ≤ j → j ≤ 5 → vp_in (v4 + w j) sc.1) (k : ∀ M5, INV M5 sc r → LPW d v4 Q M5) : mx_W m_L_law (d + 61) 1775 [.retAddr 1, .ref 1, .ref 58, .ref 98, .int v4, .retAddr 0, .retAddr 0] [] M Q := by
  obtain ⟨t, u, X, c, n, f, A, I, S, Y, Z, V⟩ := H
  have W := V.1.1
  have hr := rm_E V.2.2.2
  have G := V.2.2.1.1
  have g := G.1
  have D := V.2.2.1.2.1
  have hs : mx_scr M = sc := V.2.2.2.2.2
  have T := W.1
  have St := iv_sto V
  have hn := W.2.2.1.2.1
  have hS := V.2.2.1.2.2.2.2
  refine x_L_law_1775 (d := d + 60) T _ ?_
  rw [hs]
  refine ⟨hi 1 (by decide) (by decide), hi 2 (by decide) (by decide), hi 3 (by decide) (by decide), hi 4 (by decide) (by decide), x_L_game_0 (d := d + 59) T _ _ _ _ (p_game W hr (fun a b m ha hb hne hm ea eb em i4 => ⟨T, Or.inl ⟨_, rfl, fun M3 e3 => ?_⟩⟩) (fun z => ⟨T, Or.inr (Or.inl ⟨rfl, ?_⟩)⟩) (fun x y y4 z => ⟨T, Or.inr (Or.inr ⟨rfl, ?_⟩)⟩))⟩
  · have V1 := (iv_w V)
    rw [e3]
    refine ⟨iv_T (iv_j V1), 0, rfl, ?_⟩
    rw [show mx_scr (mx_setJ M 98 0 _) = sc from V1.2.2.2.2.2]
    refine ⟨hi 1 (by decide) (by decide), hi 2 (by decide) (by decide), hi 3 (by decide) (by decide), hi 4 (by decide) (by decide), q_game (im_wM G (iv_j V1).2.1) St D (fun a' b' m' ha' hb' hne' hm' ea' eb' em' _ M4 W4 L4 => ?_) (fun z => absurd ⟨⟨a, ha, ea⟩, ⟨b, hb, eb⟩, i4⟩ z) (fun _ _ _ z => absurd (gmP_of (by omega) (by omega) hne hm ea eb em) z)⟩
    obtain rfl : a' = a := w_ij (by omega) (by omega) ea' ea
    obtain rfl : b' = b := w_ij (by omega) (by omega) eb' eb
    obtain rfl : m' = m := w_ij (by omega) (by omega) em' em
    exact fin_q k V1 L4
  · have V1 := iv_th V
    refine ⟨iv_T V1, 1, rfl, ?_⟩
    rw [show mx_scr (mx_thM M) = sc from V1.2.2.2.2.2]
    exact ⟨hi 1 (by decide) (by decide), hi 2 (by decide) (by decide), hi 3 (by decide) (by decide), hi 4 (by decide) (by decide), q_game (im_wM G V1.2.1) St D (fun a' b' m' ha' hb' hne' hm' ea' eb' em' j4 _ _ _ => absurd ⟨⟨a', ha', ea'⟩, ⟨b', hb', eb'⟩, j4⟩ z) (fun _ => fin_t (by decide) k V1) (fun x y y4 _ => absurd ⟨x, y, y4⟩ z)⟩
  · have V1 := iv_th V
    refine ⟨iv_T V1, 2, rfl, ?_⟩
    rw [show mx_scr (mx_thM M) = sc from V1.2.2.2.2.2]
    exact ⟨hi 1 (by decide) (by decide), hi 2 (by decide) (by decide), hi 3 (by decide) (by decide), hi 4 (by decide) (by decide), q_game (im_wM G V1.2.1) St D (fun a' b' m' ha' hb' hne' hm' ea' eb' em' j4 _ _ _ => absurd (gmP_of (by omega) (by omega) hne' hm' ea' eb' em') z) (fun v => absurd ⟨x, y, y4⟩ v) (fun _ _ _ _ => fin_t (by decide) k V1)⟩
