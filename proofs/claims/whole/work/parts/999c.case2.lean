/-! the law's cases, those that change something (by tools/mkcase2.py) -/
theorem fin_B {F : Nat → Nat → Prop} {d : Nat} {v4 v : Int32} {Q : QQ} {M1 M4 : mx_M} {sc : Nat × (Nat → Int32)} {t u : Nat} {X : TX} {c : CD} {n : Nat} {f : Nat → Nat} {A : AQ} {I : IQ} {S Y : NF} {Z : ZQ} {r : Nat} (k : ∀ M5, INV M5 sc r → LPW d v4 Q M5) (C : IC M1 t u X c n f A I S Y Z) (L : lip F (mx_setI (mx_setJ M1 98 0 v.toInt64) 58 0 0) M4) (hF : ∀ k j, F k j → 58 ≤ k ∧ ¬ (k = 58 ∧ j = 0) ∧ ¬ k = 98) (R : IM M4 X c n f A I S Y Z) (Dd : ID X c n f A I S) (rm : rmN M1 sc r) : kR d v4 Q 0 (.inl (some (.int v))) M4 := by
  have C2 : IC (mx_setJ M1 98 0 v.toInt64) t u X c n f A I S Y Z := ic_far (P := fun k j => k = 98 ∧ j = 0) (lip_setJ ⟨rfl, rfl⟩) (fun k j z => by omega) C
  have C3 : IC (mx_setI (mx_setJ M1 98 0 v.toInt64) 58 0 0) t u X c n f A I S Y Z := ic_far (P := fun k j => k = 58 ∧ j = 0) (lip_setI ⟨rfl, rfl⟩) (fun k j z => by omega) C2
  have C4 := ic_far L (f_M (fun k j z => (hF k j z).1)) C3
  exact kR_of R.1.1 (by rw [(L.2 58 0 (fun z => (hF _ _ z).2.1 ⟨rfl, rfl⟩)).1]; exact I_eq) (fun _ => by rw [(L.2 98 0 (fun z => (hF _ _ z).2.2 rfl)).2]; exact J_eq) (k _ (iv_I ⟨C4, R, Dd, rm_lip (P := F) L rm⟩))
theorem im_j {M : mx_M} {v : Int64} {X : TX} {c : CD} {n : Nat} {f : Nat → Nat} {A : AQ} {I : IQ} {S Y : NF} {Z : ZQ} (H : IM M X c n f A I S Y Z) : IM (mx_setJ M 98 0 v) X c n f A I S Y Z := im_far (P := fun k j => k = 98 ∧ j = 0) (lip_setJ ⟨rfl, rfl⟩) (fun k j z => by omega) H
theorem im_0 {M : mx_M} {v : Int32} {X : TX} {c : CD} {n : Nat} {f : Nat → Nat} {A : AQ} {I : IQ} {S Y : NF} {Z : ZQ} (H : IM M X c n f A I S Y Z) : IM (mx_setI M 58 0 v) X c n f A I S Y Z := im_far (P := fun k j => k = 58 ∧ j = 0) (lip_setI ⟨rfl, rfl⟩) (fun k j z => by omega) H
theorem mQ_B : ∀ k j, mQ k j → 58 ≤ k ∧ ¬ (k = 58 ∧ j = 0) ∧ ¬ k = 98 := fun k j z => by rcases z with z | z | z | z | z | z <;> omega
theorem mS_B : ∀ k j, mS k j → 58 ≤ k ∧ ¬ (k = 58 ∧ j = 0) ∧ ¬ k = 98 := fun k j z => by rcases z with z | z | z | z | z | z | z <;> omega
theorem mA_B : ∀ k j, mA k j → 58 ≤ k ∧ ¬ (k = 58 ∧ j = 0) ∧ ¬ k = 98 := fun k j z => by rcases z with z | z | z | z | z | z <;> omega
theorem mMt_B : ∀ k j, mMt k j → 58 ≤ k ∧ ¬ (k = 58 ∧ j = 0) ∧ ¬ k = 98 := fun k j z => by
  rcases z with z | z | z
  · have z1 := z.1; omega
  · omega
  · exact mQ_B k j z
theorem cA_M : farM cA := fM_C (fun k j z => by have z : k = 31 ∨ k = 32 ∨ k = 33 ∨ k = 34 ∨ k = 35 ∨ k = 36 := z; omega)
theorem cK_M : farM cK := fM_C (fun k j z => by have z : k = 39 ∨ k = 40 ∨ k = 41 ∨ k = 42 := z; omega)
theorem cS_M : farM cS := fM_C (fun k j z => by have z : k = 43 ∨ k = 44 ∨ (k = 1 ∧ j = 11) := z; omega)
theorem cI_M : farM cI := fM_C (fun k j z => by omega)
theorem cMt_M : farM cMt := fM_C (fun k j z => by omega)
theorem cD_M : farM cD := fM_C (fun k j z => by omega)
theorem la_key {d r : Nat} {v4 : Int32} {Q : QQ} {M : mx_M} {sc : Nat × (Nat → Int32)} (H : INV M sc (r + 1)) (hi : ∀ j, 1 ≤ j → j ≤ 5 → vp_in (v4 + w j) sc.1) (k : ∀ M5, INV M5 sc r → LPW d v4 Q M5) : mx_W m_L_law (d + 61) 546 [.retAddr 1, .ref 1, .ref 58, .ref 98, .int v4, .retAddr 0, .retAddr 0] [] M Q := by
  obtain ⟨t, u, X, c, n, f, A, I, S, Y, Z, V⟩ := H
  have W := V.1.1
  have hr := rm_E V.2.2.2
  have G := V.2.2.1.1
  have g := G.1
  have D := V.2.2.1.2.1
  have hs : mx_scr M = sc := V.2.2.2.2.2
  have T := W.1
  have St := iv_sto V
  have hn := W.2.2.1.2.1
  have hS := V.2.2.1.2.2.2.2
  refine x_L_law_546 (d := d + 60) T _ ?_
  rw [hs]
  refine ⟨hi 1 (by decide) (by decide), hi 2 (by decide) (by decide), hi 3 (by decide) (by decide), x_L_key_0 (d := d + 59) T _ _ _ (p_key W V.1.2.2.2.1 hr (fun o x ho hx eo ex => ⟨fun e => ⟨T, Or.inl ⟨_, rfl, fun M3 e3 => ?_⟩⟩, fun i hi9 ei => ⟨T, Or.inl ⟨_, rfl, fun M3 e3 => ?_⟩⟩, fun z => ⟨T, Or.inr ⟨rfl, ?_⟩⟩⟩) (fun z => ⟨T, Or.inr ⟨rfl, ?_⟩⟩))⟩
  · have V1 := (iv_w V)
    rw [e3]
    refine ⟨iv_T (iv_j V1), 0, rfl, ?_⟩
    rw [show mx_scr (mx_setJ M 98 0 _) = sc from V1.2.2.2.2.2]
    refine ⟨hi 1 (by decide) (by decide), hi 2 (by decide) (by decide), hi 3 (by decide) (by decide), q_key (im_wM G (iv_j V1).2.1) (iv_j V1).2.1.2.2.1 (fun o' x' ho' hx' eo' ex' => ?_) (fun z => absurd ⟨⟨o, ho, eo⟩, ⟨x, hx, ex⟩⟩ z)⟩
    obtain rfl : o' = o := w_ij (by omega) (by omega) eo' eo
    obtain rfl : x' = x := w_ij (by omega) (by omega) ex' ex
    have k35 := (V.1.2.2.2.1 _ _ ho hx).2.1
    exact ⟨fun _ => fin_s k V1, fun i hi9 ei => absurd (ei.symm.trans e) (w_ne1 (by omega)), fun z => absurd (Or.inl e) z⟩
  · have V1 := (iv_w V)
    rw [e3]
    refine ⟨iv_T (iv_j V1), 0, rfl, ?_⟩
    rw [show mx_scr (mx_setJ M 98 0 _) = sc from V1.2.2.2.2.2]
    refine ⟨hi 1 (by decide) (by decide), hi 2 (by decide) (by decide), hi 3 (by decide) (by decide), q_key (im_wM G (iv_j V1).2.1) (iv_j V1).2.1.2.2.1 (fun o' x' ho' hx' eo' ex' => ?_) (fun z => absurd ⟨⟨o, ho, eo⟩, ⟨x, hx, ex⟩⟩ z)⟩
    obtain rfl : o' = o := w_ij (by omega) (by omega) eo' eo
    obtain rfl : x' = x := w_ij (by omega) (by omega) ex' ex
    have k35 := (V.1.2.2.2.1 _ _ ho hx).2.1
    refine ⟨fun e => absurd (ei.symm.trans e) (w_ne1 (by omega)), fun j hj9 ej => ?_, fun z => absurd (Or.inr ⟨i, hi9, ei⟩) z⟩
    obtain rfl : j = i := w_ij (by omega) (by omega) ej ei
    exact fin_s k V1
  · have V1 := iv_th V
    refine ⟨iv_T V1, 1, rfl, ?_⟩
    rw [show mx_scr (mx_thM M) = sc from V1.2.2.2.2.2]
    refine ⟨hi 1 (by decide) (by decide), hi 2 (by decide) (by decide), hi 3 (by decide) (by decide), q_key (im_wM G V1.2.1) V1.2.1.2.2.1 (fun o' x' ho' hx' eo' ex' => ?_) (fun _ => fin_t (by decide) k V1)⟩
    obtain rfl : o' = o := w_ij (by omega) (by omega) eo' eo
    obtain rfl : x' = x := w_ij (by omega) (by omega) ex' ex
    exact ⟨fun e => absurd (Or.inl e) z, fun i hi9 ei => absurd (Or.inr ⟨i, hi9, ei⟩) z, fun _ => fin_t (by decide) k V1⟩
  · have V1 := iv_th V
    refine ⟨iv_T V1, 1, rfl, ?_⟩
    rw [show mx_scr (mx_thM M) = sc from V1.2.2.2.2.2]
    exact ⟨hi 1 (by decide) (by decide), hi 2 (by decide) (by decide), hi 3 (by decide) (by decide), q_key (im_wM G V1.2.1) V1.2.1.2.2.1 (fun o' x' ho' hx' eo' ex' => absurd ⟨⟨o', ho', eo'⟩, ⟨x', hx', ex'⟩⟩ z) (fun _ => fin_t (by decide) k V1)⟩
theorem tr_le9 {n m : Nat} (hn : n ≤ 10) (h1 : 1 ≤ m) : (n + m - 1) / m ≤ 20 := by
  have : (n + m - 1) / m * m ≤ n + m - 1 := Nat.div_mul_le_self _ _
  rcases Nat.lt_or_ge 20 ((n + m - 1) / m) with h | h
  · have h2 : 21 * m ≤ (n + m - 1) / m * m := Nat.mul_le_mul_right m h
    omega
  · exact h
theorem la_trays {d r : Nat} {v4 : Int32} {Q : QQ} {M : mx_M} {sc : Nat × (Nat → Int32)} (H : INV M sc (r + 1)) (hi : ∀ j, 1 ≤ j → j ≤ 5 → vp_in (v4 + w j) sc.1) (k : ∀ M5, INV M5 sc r → LPW d v4 Q M5) : mx_W m_L_law (d + 61) 2208 [.retAddr 1, .ref 1, .ref 58, .ref 98, .int v4, .retAddr 0, .retAddr 0] [] M Q := by
  obtain ⟨t, u, X, c, n, f, A, I, S, Y, Z, V⟩ := H
  have W := V.1.1
  have hr := rm_E V.2.2.2
  have G := V.2.2.1.1
  have g := G.1
  have D := V.2.2.1.2.1
  have hs : mx_scr M = sc := V.2.2.2.2.2
  have T := W.1
  have St := iv_sto V
  have hn := W.2.2.1.2.1
  have hS := V.2.2.1.2.2.2.2
  refine x_L_law_2208 (d := d + 60) T _ ?_
  rw [hs]
  refine ⟨hi 1 (by decide) (by decide), hi 2 (by decide) (by decide), hi 3 (by decide) (by decide), x_L_trays_0 (d := d + 59) T _ _ _ (p_trays W V.1.2.2.2.1 hr (fun o m ho h1 h2 eo em => ⟨fun e => ⟨T, Or.inl ⟨_, rfl, fun M3 e3 => ?_⟩⟩, fun e p => ⟨T, Or.inl ⟨_, rfl, fun M3 e3 => ?_⟩⟩, fun i p1 p2 ei M1 W1 L1 => ⟨lip_T L1 T, Or.inl ⟨_, rfl, fun M3 e3 => ?_⟩⟩, fun z => ⟨T, Or.inr (Or.inl ⟨rfl, ?_⟩)⟩⟩) (fun z => ⟨T, Or.inr (Or.inl ⟨rfl, ?_⟩)⟩) (fun a z => ⟨T, Or.inr (Or.inr ⟨rfl, ?_⟩)⟩))⟩
  · have V1 := (iv_w V)
    rw [e3]
    refine ⟨iv_T (iv_j V1), 0, rfl, ?_⟩
    rw [show mx_scr (mx_setJ M 98 0 _) = sc from V1.2.2.2.2.2]
    have tl := tr_le9 (m := m) hn.1 h1
    refine ⟨hi 1 (by decide) (by decide), hi 2 (by decide) (by decide), hi 3 (by decide) (by decide), q_trays (im_wM G (iv_j V1).2.1) (iv_j V1).2.1.2.2.1 St D (iv_kb V) (fun o' m' ho' h1' h2' eo' em' => ?_) (fun z => absurd ⟨o, ho, eo⟩ z) (fun _ z => absurd ⟨⟨m, by omega, em⟩, fun y => by rw [em, w_eq0 (by omega)] at y; omega⟩ z)⟩
    obtain rfl : o' = o := w_ij (by omega) (by omega) eo' eo
    obtain rfl : m' = m := w_ij (by omega) (by omega) em' em
    exact ⟨fun _ => fin_s k V1, fun y _ => absurd (e.symm.trans y) (by decide), fun i p1 p2 ei => absurd (ei.symm.trans e) (w_ne1 (by omega)), fun z => absurd (Or.inl e) z⟩
  · have V1 := (iv_w V)
    rw [e3]
    refine ⟨iv_T (iv_j V1), 0, rfl, ?_⟩
    rw [show mx_scr (mx_setJ M 98 0 _) = sc from V1.2.2.2.2.2]
    have tl := tr_le9 (m := m) hn.1 h1
    refine ⟨hi 1 (by decide) (by decide), hi 2 (by decide) (by decide), hi 3 (by decide) (by decide), q_trays (im_wM G (iv_j V1).2.1) (iv_j V1).2.1.2.2.1 St D (iv_kb V) (fun o' m' ho' h1' h2' eo' em' => ?_) (fun z => absurd ⟨o, ho, eo⟩ z) (fun _ z => absurd ⟨⟨m, by omega, em⟩, fun y => by rw [em, w_eq0 (by omega)] at y; omega⟩ z)⟩
    obtain rfl : o' = o := w_ij (by omega) (by omega) eo' eo
    obtain rfl : m' = m := w_ij (by omega) (by omega) em' em
    exact ⟨fun y => absurd (e.symm.trans y) (by decide), fun _ _ => fin_s k V1, fun i p1 p2 ei => absurd (ei.symm.trans e) (fun y => by rw [w_eq0 (by omega)] at y; omega), fun z => absurd (Or.inr ⟨0, p, e⟩) z⟩
  · have V1 := (iv_far L1 cT_far cT_farM (iv_w V))
    rw [e3]
    refine ⟨iv_T (iv_j V1), 0, rfl, ?_⟩
    rw [show mx_scr (mx_setJ M1 98 0 _) = sc from V1.2.2.2.2.2]
    have tl := tr_le9 (m := m) hn.1 h1
    refine ⟨hi 1 (by decide) (by decide), hi 2 (by decide) (by decide), hi 3 (by decide) (by decide), q_trays (im_wM G (iv_j V1).2.1) (iv_j V1).2.1.2.2.1 St D (iv_kb V) (fun o' m' ho' h1' h2' eo' em' => ?_) (fun z => absurd ⟨o, ho, eo⟩ z) (fun _ z => absurd ⟨⟨m, by omega, em⟩, fun y => by rw [em, w_eq0 (by omega)] at y; omega⟩ z)⟩
    obtain rfl : o' = o := w_ij (by omega) (by omega) eo' eo
    obtain rfl : m' = m := w_ij (by omega) (by omega) em' em
    refine ⟨fun y => absurd (ei.symm.trans y) (w_ne1 (by omega)), fun y _ => absurd (ei.symm.trans y) (fun y => by rw [w_eq0 (by omega)] at y; omega), fun j q1 q2 ej M4 W4 L4 => ?_, fun z => absurd (Or.inr ⟨i, p2, ei⟩) z⟩
    obtain rfl : j = i := w_ij (by omega) (by omega) ej ei
    exact fin_q k V1 L4
  · have V1 := iv_th V
    refine ⟨iv_T V1, 1, rfl, ?_⟩
    rw [show mx_scr (mx_thM M) = sc from V1.2.2.2.2.2]
    refine ⟨hi 1 (by decide) (by decide), hi 2 (by decide) (by decide), hi 3 (by decide) (by decide), q_trays (im_wM G V1.2.1) V1.2.1.2.2.1 St D (iv_kb V) (fun o' m' ho' h1' h2' eo' em' => ?_) (fun _ => fin_t (by decide) k V1) (fun _ z => absurd ⟨⟨m, by omega, em⟩, fun y => by rw [em, w_eq0 (by omega)] at y; omega⟩ z)⟩
    obtain rfl : o' = o := w_ij (by omega) (by omega) eo' eo
    obtain rfl : m' = m := w_ij (by omega) (by omega) em' em
    exact ⟨fun e => absurd (Or.inl e) z, fun e p => absurd (Or.inr ⟨0, p, e⟩) z, fun i p1 p2 ei _ _ _ => absurd (Or.inr ⟨i, p2, ei⟩) z, fun _ => fin_t (by decide) k V1⟩
  · have V1 := iv_th V
    refine ⟨iv_T V1, 1, rfl, ?_⟩
    rw [show mx_scr (mx_thM M) = sc from V1.2.2.2.2.2]
    exact ⟨hi 1 (by decide) (by decide), hi 2 (by decide) (by decide), hi 3 (by decide) (by decide), q_trays (im_wM G V1.2.1) V1.2.1.2.2.1 St D (iv_kb V) (fun o' m' ho' h1' h2' eo' em' => absurd ⟨o', ho', eo'⟩ z) (fun _ => fin_t (by decide) k V1) (fun a _ => absurd a z)⟩
  · have V1 := iv_th V
    refine ⟨iv_T V1, 2, rfl, ?_⟩
    rw [show mx_scr (mx_thM M) = sc from V1.2.2.2.2.2]
    exact ⟨hi 1 (by decide) (by decide), hi 2 (by decide) (by decide), hi 3 (by decide) (by decide), q_trays (im_wM G V1.2.1) V1.2.1.2.2.1 St D (iv_kb V) (fun o' m' ho' h1' h2' eo' em' => absurd ⟨⟨m', by omega, em'⟩, fun y => by rw [em', w_eq0 (by omega)] at y; omega⟩ z) (fun y => absurd a y) (fun _ _ => fin_t (by decide) k V1)⟩
theorem la_compromise {d r : Nat} {v4 : Int32} {Q : QQ} {M : mx_M} {sc : Nat × (Nat → Int32)} (H : INV M sc (r + 1)) (hi : ∀ j, 1 ≤ j → j ≤ 5 → vp_in (v4 + w j) sc.1) (k : ∀ M5, INV M5 sc r → LPW d v4 Q M5) : mx_W m_L_law (d + 61) 1947 [.retAddr 1, .ref 1, .ref 58, .ref 98, .int v4, .retAddr 0, .retAddr 0] [] M Q := by
  obtain ⟨t, u, X, c, n, f, A, I, S, Y, Z, V⟩ := H
  have W := V.1.1
  have hr := rm_E V.2.2.2
  have G := V.2.2.1.1
  have g := G.1
  have D := V.2.2.1.2.1
  have hs : mx_scr M = sc := V.2.2.2.2.2
  have T := W.1
  have St := iv_sto V
  have hn := W.2.2.1.2.1
  have hS := V.2.2.1.2.2.2.2
  refine x_L_law_1947 (d := d + 60) T _ ?_
  rw [hs]
  refine ⟨hi 1 (by decide) (by decide), x_L_compromise_0 (d := d + 59) T _ (p_compromise W V.1.2.2.2.2.2.2.1 hr (fun e M1 W1 L1 s1 => ⟨lip_T L1 T, Or.inl ⟨_, rfl, fun M3 e3 => ?_⟩⟩) (fun i hi9 ei M1 W1 L1 s1 => ⟨lip_T L1 T, Or.inl ⟨_, rfl, fun M3 e3 => ?_⟩⟩) (fun z => ⟨T, Or.inr ⟨rfl, ?_⟩⟩))⟩
  · have V1 := (⟨ic_K L1 W1 s1 V.1, im_far L1 cK_M V.2.1, V.2.2.1, rm_lip L1 (rm_w V.2.2.2)⟩ : IV M1 sc t u X c n f A I S Y Z r)
    rw [e3]
    refine ⟨iv_T (iv_j V1), 0, rfl, ?_⟩
    rw [show mx_scr (mx_setJ M1 98 0 _) = sc from V1.2.2.2.2.2]
    exact ⟨hi 1 (by decide) (by decide), q_compromise (im_wM G (iv_j V1).2.1) (fun _ M4 W4 L4 => fin_q k V1 L4) (fun i hi9 ei _ _ _ => absurd (ei.symm.trans e) (w_ne1 (by omega))) (fun z => absurd (Or.inl e) z)⟩
  · have V1 := (⟨ic_K L1 W1 s1 V.1, im_far L1 cK_M V.2.1, V.2.2.1, rm_lip L1 (rm_w V.2.2.2)⟩ : IV M1 sc t u X c n f A I S Y Z r)
    rw [e3]
    refine ⟨iv_T (iv_j V1), 0, rfl, ?_⟩
    rw [show mx_scr (mx_setJ M1 98 0 _) = sc from V1.2.2.2.2.2]
    refine ⟨hi 1 (by decide) (by decide), q_compromise (im_wM G (iv_j V1).2.1) (fun e _ _ _ => absurd (ei.symm.trans e) (w_ne1 (by omega))) (fun j hj9 ej M4 W4 L4 => ?_) (fun z => absurd (Or.inr ⟨i, hi9, ei⟩) z)⟩
    obtain rfl : j = i := w_ij (by omega) (by omega) ej ei
    exact fin_q k V1 L4
  · have V1 := iv_th V
    refine ⟨iv_T V1, 1, rfl, ?_⟩
    rw [show mx_scr (mx_thM M) = sc from V1.2.2.2.2.2]
    exact ⟨hi 1 (by decide) (by decide), q_compromise (im_wM G V1.2.1) (fun e _ _ _ => absurd (Or.inl e) z) (fun i hi9 ei _ _ _ => absurd (Or.inr ⟨i, hi9, ei⟩) z) (fun _ => fin_t (by decide) k V1)⟩
theorem la_stay {d r : Nat} {v4 : Int32} {Q : QQ} {M : mx_M} {sc : Nat × (Nat → Int32)} (H : INV M sc (r + 1)) (hi : ∀ j, 1 ≤ j → j ≤ 5 → vp_in (v4 + w j) sc.1) (k : ∀ M5, INV M5 sc r → LPW d v4 Q M5) : mx_W m_L_law (d + 61) 1340 [.retAddr 1, .ref 1, .ref 58, .ref 98, .int v4, .retAddr 0, .retAddr 0] [] M Q := by
  obtain ⟨t, u, X, c, n, f, A, I, S, Y, Z, V⟩ := H
  have W := V.1.1
  have hr := rm_E V.2.2.2
  have G := V.2.2.1.1
  have g := G.1
  have D := V.2.2.1.2.1
  have hs : mx_scr M = sc := V.2.2.2.2.2
  have T := W.1
  have St := iv_sto V
  have hn := W.2.2.1.2.1
  have hS := V.2.2.1.2.2.2.2
  refine x_L_law_1340 (d := d + 60) T _ ?_
  rw [hs]
  refine ⟨hi 1 (by decide) (by decide), x_L_stay_0 (d := d + 59) T _ (p_stay W hr (fun o ho eo M1 W1 L1 s1 s2 => ⟨lip_T L1 T, Or.inl ⟨_, rfl, fun M3 e3 => ?_⟩⟩) (fun z => ⟨T, Or.inr ⟨rfl, ?_⟩⟩))⟩
  · rw [e3]
    have C1 := ic_S (S2 := ((lnA (bsX X c o) f n).2, stF (bsX X c o) f n)) L1 W1 ⟨s1, s2⟩ V.1
    have R1 := im_far L1 cS_M V.2.1
    have r1 : rmN M1 sc r := rm_lip L1 (rm_w V.2.2.2)
    refine ⟨(im_j R1).1.1, 0, rfl, ?_⟩
    rw [show mx_scr (mx_setJ M1 98 0 _) = sc from r1.2.2]
    refine ⟨hi 1 (by decide) (by decide), q_stay (im_wM G (im_j R1)) (fun o' ho' eo' M4 W4 L4 s3 s4 => ?_) (fun z => absurd ⟨o, ho, eo⟩ z)⟩
    obtain rfl : o' = o := w_ij (by omega) (by omega) eo' eo
    have l9 := lnA_le (bsX X c o') f n
    exact fin_B k C1 L4 mS_B (im_S L4 ⟨Or.inl s3, s4⟩ (im_0 (im_j R1))) ⟨G, D, V.2.2.1.2.2.1, V.2.2.1.2.2.2.1, by show (lnA (bsX X c o') f n).2 ≤ 10; omega⟩ r1
  · have V1 := iv_th V
    refine ⟨iv_T V1, 1, rfl, ?_⟩
    rw [show mx_scr (mx_thM M) = sc from V1.2.2.2.2.2]
    exact ⟨hi 1 (by decide) (by decide), q_stay (im_wM G V1.2.1) (fun o' ho' eo' _ _ _ _ _ => absurd ⟨o', ho', eo'⟩ z) (fun _ => fin_t (by decide) k V1)⟩
theorem la_matters {d r : Nat} {v4 : Int32} {Q : QQ} {M : mx_M} {sc : Nat × (Nat → Int32)} (H : INV M sc (r + 1)) (hi : ∀ j, 1 ≤ j → j ≤ 5 → vp_in (v4 + w j) sc.1) (k : ∀ M5, INV M5 sc r → LPW d v4 Q M5) : mx_W m_L_law (d + 61) 1614 [.retAddr 1, .ref 1, .ref 58, .ref 98, .int v4, .retAddr 0, .retAddr 0] [] M Q := by
  obtain ⟨t, u, X, c, n, f, A, I, S, Y, Z, V⟩ := H
  have W := V.1.1
  have hr := rm_E V.2.2.2
  have G := V.2.2.1.1
  have g := G.1
  have D := V.2.2.1.2.1
  have hs : mx_scr M = sc := V.2.2.2.2.2
  have T := W.1
  have St := iv_sto V
  have hn := W.2.2.1.2.1
  have hS := V.2.2.1.2.2.2.2
  refine x_L_law_1614 (d := d + 60) T _ ?_
  rw [hs]
  refine ⟨hi 1 (by decide) (by decide), hi 2 (by decide) (by decide), x_L_matters_0 (d := d + 59) T _ _ (p_matters W G V.1.2.2.1 V.1.2.2.2.1 hr (fun o ho eo z1 z2 M1 L1 => ⟨lip_T L1 T, Or.inl ⟨_, rfl, fun M3 e3 => ?_⟩⟩) (fun z => ⟨T, Or.inr ⟨rfl, ?_⟩⟩))⟩
  · rw [e3]
    have C1 := ic_Mt g L1 V.1
    have R1 := im_far L1 cMt_M V.2.1
    have r1 : rmN M1 sc r := rm_lip L1 (rm_w V.2.2.2)
    refine ⟨(im_j R1).1.1, 0, rfl, ?_⟩
    rw [show mx_scr (mx_setJ M1 98 0 _) = sc from r1.2.2]
    refine ⟨hi 1 (by decide) (by decide), hi 2 (by decide) (by decide), q_matters (im_wM G (im_j R1)) G (im_j R1).2.1 (im_j R1).2.2.1 (fun o' ho' eo' y1 y2 M4 W4 L4 a4 b4 => ?_) (fun z => absurd ⟨o, ho, eo, z1, z2⟩ z)⟩
    obtain rfl : o' = o := w_ij (by omega) (by omega) eo' eo
    exact fin_B k C1 L4 mMt_B (im_Mt L4 a4 b4 (im_0 (im_j R1))) V.2.2.1 r1
  · have V1 := iv_th V
    refine ⟨iv_T V1, 1, rfl, ?_⟩
    rw [show mx_scr (mx_thM M) = sc from V1.2.2.2.2.2]
    exact ⟨hi 1 (by decide) (by decide), hi 2 (by decide) (by decide), q_matters (im_wM G V1.2.1) G V1.2.1.2.1 V1.2.1.2.2.1 (fun o' ho' eo' y1 y2 _ _ _ _ _ => absurd ⟨o', ho', eo', y1, y2⟩ z) (fun _ => fin_t (by decide) k V1)⟩
theorem la_put {d r : Nat} {v4 : Int32} {Q : QQ} {M : mx_M} {sc : Nat × (Nat → Int32)} (H : INV M sc (r + 1)) (hi : ∀ j, 1 ≤ j → j ≤ 5 → vp_in (v4 + w j) sc.1) (k : ∀ M5, INV M5 sc r → LPW d v4 Q M5) : mx_W m_L_law (d + 61) 905 [.retAddr 1, .ref 1, .ref 58, .ref 98, .int v4, .retAddr 0, .retAddr 0] [] M Q := by
  obtain ⟨t, u, X, c, n, f, A, I, S, Y, Z, V⟩ := H
  have W := V.1.1
  have hr := rm_E V.2.2.2
  have G := V.2.2.1.1
  have g := G.1
  have D := V.2.2.1.2.1
  have hs : mx_scr M = sc := V.2.2.2.2.2
  have T := W.1
  have St := iv_sto V
  have hn := W.2.2.1.2.1
  have hS := V.2.2.1.2.2.2.2
  refine x_L_law_905 (d := d + 60) T _ ?_
  rw [hs]
  have h40 := V.1.2.2.2.2.1.2.1.1
  refine ⟨hi 1 (by decide) (by decide), hi 2 (by decide) (by decide), x_L_put_0 (d := d + 59) T _ _ (p_put W D V.1.2.2.2.2.1 hr (fun x o hx ho ex eo => ⟨fun e M1 W1 L1 a1 => ⟨lip_T L1 T, Or.inl ⟨_, rfl, fun M3 e3 => ?_⟩⟩, fun e => ⟨tp_e rfl T, Or.inl ⟨_, rfl, fun M3 e3 => ?_⟩⟩⟩) (fun z => ⟨T, Or.inr ⟨rfl, ?_⟩⟩))⟩
  · rw [e3]
    have C1 := ic_A (A2 := (kpM A.1, kpF A.1 A.2.1 n, kpF A.1 A.2.2 f)) L1 W1 a1 V.1
    have R1 := im_far L1 cA_M V.2.1
    have r1 : rmN M1 sc r := rm_lip L1 (rm_w V.2.2.2)
    refine ⟨(im_j R1).1.1, 0, rfl, ?_⟩
    rw [show mx_scr (mx_setJ M1 98 0 _) = sc from r1.2.2]
    refine ⟨hi 1 (by decide) (by decide), hi 2 (by decide) (by decide), q_put (im_wM G (im_j R1)) D (im_j R1).2.2.2.1 (fun x' o' hx' ho' ex' eo' => ?_) (fun z => absurd ⟨⟨x, hx, ex⟩, ⟨o, ho, eo⟩⟩ z)⟩
    obtain rfl : x' = x := w_ij (by omega) (by omega) ex' ex
    obtain rfl : o' = o := w_ij (by omega) (by omega) eo' eo
    exact ⟨fun _ M4 W4 L4 a4 => fin_B (A := (kpM A.1, kpF A.1 A.2.1 n, kpF A.1 A.2.2 f)) k C1 L4 mA_B (im_A (A2 := (kpM A.1, kpF A.1 A.2.1 n, kpF A.1 A.2.2 f)) L4 W4.2.2 a4 (im_0 (im_j R1))) ⟨G, dst_ins D (plf_le n f _ _) (plc_no hn.1 e), kp_dst V.2.2.1.2.2.1 D h40, V.2.2.1.2.2.2⟩ r1, fun y => absurd e y⟩
  · rw [e3]
    have C1 := ic_rf V.1
    have R1 : IM (rfC M) X c n f A I S Y Z := im_far (P := fun k j => k = 1 ∧ j = 16) (lip_setI ⟨rfl, rfl⟩) (fM_C (fun k j z => by omega)) V.2.1
    have r1 : rmN (rfC M) sc r := rm_w V.2.2.2
    refine ⟨(im_j R1).1.1, 0, rfl, ?_⟩
    rw [show mx_scr (mx_setJ (rfC M) 98 0 _) = sc from r1.2.2]
    refine ⟨hi 1 (by decide) (by decide), hi 2 (by decide) (by decide), q_put (im_wM G (im_j R1)) D (im_j R1).2.2.2.1 (fun x' o' hx' ho' ex' eo' => ?_) (fun z => absurd ⟨⟨x, hx, ex⟩, ⟨o, ho, eo⟩⟩ z)⟩
    obtain rfl : x' = x := w_ij (by omega) (by omega) ex' ex
    obtain rfl : o' = o := w_ij (by omega) (by omega) eo' eo
    exact ⟨fun y => absurd y e, fun _ => fin_B (F := fun k j => k = 71 ∧ j = 1) k C1 (lip_setI ⟨rfl, rfl⟩) (fun k j z => by omega) (im_rf (im_0 (im_j R1))) V.2.2.1 r1⟩
  · have V1 := iv_th V
    refine ⟨iv_T V1, 1, rfl, ?_⟩
    rw [show mx_scr (mx_thM M) = sc from V1.2.2.2.2.2]
    exact ⟨hi 1 (by decide) (by decide), hi 2 (by decide) (by decide), q_put (im_wM G V1.2.1) D V1.2.1.2.2.2.1 (fun x' o' hx' ho' ex' eo' => absurd ⟨⟨x', hx', ex'⟩, ⟨o', ho', eo'⟩⟩ z) (fun _ => fin_t (by decide) k V1)⟩
theorem la_take {d r : Nat} {v4 : Int32} {Q : QQ} {M : mx_M} {sc : Nat × (Nat → Int32)} (H : INV M sc (r + 1)) (hi : ∀ j, 1 ≤ j → j ≤ 5 → vp_in (v4 + w j) sc.1) (k : ∀ M5, INV M5 sc r → LPW d v4 Q M5) : mx_W m_L_law (d + 61) 973 [.retAddr 1, .ref 1, .ref 58, .ref 98, .int v4, .retAddr 0, .retAddr 0] [] M Q := by
  obtain ⟨t, u, X, c, n, f, A, I, S, Y, Z, V⟩ := H
  have W := V.1.1
  have hr := rm_E V.2.2.2
  have G := V.2.2.1.1
  have g := G.1
  have D := V.2.2.1.2.1
  have hs : mx_scr M = sc := V.2.2.2.2.2
  have T := W.1
  have St := iv_sto V
  have hn := W.2.2.1.2.1
  have hS := V.2.2.1.2.2.2.2
  refine x_L_law_973 (d := d + 60) T _ ?_
  rw [hs]
  have h40 := V.1.2.2.2.2.1.2.1.1
  refine ⟨hi 1 (by decide) (by decide), x_L_take_0 (d := d + 59) T _ (p_take W V.1.2.2.2.2.1 hr (fun x hx ex => ⟨fun p n1 hp en ep pp M1 W1 L1 a1 => ⟨lip_T L1 T, Or.inl ⟨_, rfl, fun M3 e3 => ?_⟩⟩, fun e => ⟨tp_e rfl T, Or.inl ⟨_, rfl, fun M3 e3 => ?_⟩⟩⟩) (fun z => ⟨T, Or.inr ⟨rfl, ?_⟩⟩))⟩
  · rw [e3]
    have C1 := ic_A (A2 := (kpM A.1, kpF A.1 A.2.1 n, kpF A.1 A.2.2 f)) L1 W1 a1 V.1
    have R1 := im_far L1 cA_M V.2.1
    have r1 : rmN M1 sc r := rm_lip L1 (rm_w V.2.2.2)
    refine ⟨(im_j R1).1.1, 0, rfl, ?_⟩
    rw [show mx_scr (mx_setJ M1 98 0 _) = sc from r1.2.2]
    refine ⟨hi 1 (by decide) (by decide), q_take (im_wM G (im_j R1)) (im_j R1).2.2.2.1 (fun x' hx' ex' => ?_) (fun z => absurd ⟨x, hx, ex⟩ z)⟩
    obtain rfl : x' = x := w_ij (by omega) (by omega) ex' ex
    refine ⟨fun p' n1' hp' en' ep' pp' M4 W4 L4 a4 => ?_, fun y => absurd (pp.symm.trans y) (w_ne1 (by omega))⟩
    obtain rfl : p' = p := w_ij (by omega) (by omega) pp' pp
    obtain rfl : n1' = n1 := by omega
    exact fin_B (A := (kpM A.1, kpF A.1 A.2.1 n, kpF A.1 A.2.2 f)) k C1 L4 mA_B (im_A (A2 := (kpM A.1, kpF A.1 A.2.1 n, kpF A.1 A.2.2 f)) L4 W4.2.2 a4 (im_0 (im_j R1))) ⟨G, dst_del (by rw [← en]; exact D), kp_dst V.2.2.1.2.2.1 D h40, V.2.2.1.2.2.2⟩ r1
  · rw [e3]
    have C1 := ic_rf V.1
    have R1 : IM (rfC M) X c n f A I S Y Z := im_far (P := fun k j => k = 1 ∧ j = 16) (lip_setI ⟨rfl, rfl⟩) (fM_C (fun k j z => by omega)) V.2.1
    have r1 : rmN (rfC M) sc r := rm_w V.2.2.2
    refine ⟨(im_j R1).1.1, 0, rfl, ?_⟩
    rw [show mx_scr (mx_setJ (rfC M) 98 0 _) = sc from r1.2.2]
    refine ⟨hi 1 (by decide) (by decide), q_take (im_wM G (im_j R1)) (im_j R1).2.2.2.1 (fun x' hx' ex' => ?_) (fun z => absurd ⟨x, hx, ex⟩ z)⟩
    obtain rfl : x' = x := w_ij (by omega) (by omega) ex' ex
    exact ⟨fun p' n1' hp' en' ep' pp' _ _ _ _ => absurd (pp'.symm.trans e) (w_ne1 (by omega)), fun _ => fin_B (F := fun k j => k = 71 ∧ j = 1) k C1 (lip_setI ⟨rfl, rfl⟩) (fun k j z => by omega) (im_rf (im_0 (im_j R1))) V.2.2.1 r1⟩
  · have V1 := iv_th V
    refine ⟨iv_T V1, 1, rfl, ?_⟩
    rw [show mx_scr (mx_thM M) = sc from V1.2.2.2.2.2]
    exact ⟨hi 1 (by decide) (by decide), q_take (im_wM G V1.2.1) V1.2.1.2.2.2.1 (fun x' hx' ex' => absurd ⟨x', hx', ex'⟩ z) (fun _ => fin_t (by decide) k V1)⟩
theorem mv_dst2 {n p q c : Nat} {f : Nat → Nat} (D : dst n f) (hp : p < n) (hq : q < n) (e : f p = c) : dst n (insF q c (delF p f)) := by
  cases n with
  | zero => omega
  | succ n1 => exact mv_dst D hp hq e
theorem la_move {d r : Nat} {v4 : Int32} {Q : QQ} {M : mx_M} {sc : Nat × (Nat → Int32)} (H : INV M sc (r + 1)) (hi : ∀ j, 1 ≤ j → j ≤ 5 → vp_in (v4 + w j) sc.1) (k : ∀ M5, INV M5 sc r → LPW d v4 Q M5) : mx_W m_L_law (d + 61) 1029 [.retAddr 1, .ref 1, .ref 58, .ref 98, .int v4, .retAddr 0, .retAddr 0] [] M Q := by
  obtain ⟨t, u, X, c, n, f, A, I, S, Y, Z, V⟩ := H
  have W := V.1.1
  have hr := rm_E V.2.2.2
  have G := V.2.2.1.1
  have g := G.1
  have D := V.2.2.1.2.1
  have hs : mx_scr M = sc := V.2.2.2.2.2
  have T := W.1
  have St := iv_sto V
  have hn := W.2.2.1.2.1
  have hS := V.2.2.1.2.2.2.2
  refine x_L_law_1029 (d := d + 60) T _ ?_
  rw [hs]
  have h40 := V.1.2.2.2.2.1.2.1.1
  refine ⟨hi 1 (by decide) (by decide), hi 2 (by decide) (by decide), x_L_move_0 (d := d + 59) T _ _ (p_move W V.1.2.2.2.2.1 hr (fun x hx ex => ⟨fun p q hp hq ep pp eq M1 W1 L1 a1 => ⟨lip_T L1 T, Or.inl ⟨_, rfl, fun M3 e3 => ?_⟩⟩, fun e => ⟨tp_e rfl T, Or.inl ⟨_, rfl, fun M3 e3 => ?_⟩⟩⟩) (fun z => ⟨T, Or.inr ⟨rfl, ?_⟩⟩))⟩
  · rw [e3]
    have C1 := ic_A (A2 := (kpM A.1, kpF A.1 A.2.1 n, kpF A.1 A.2.2 f)) L1 W1 a1 V.1
    have R1 := im_far L1 cA_M V.2.1
    have r1 : rmN M1 sc r := rm_lip L1 (rm_w V.2.2.2)
    refine ⟨(im_j R1).1.1, 0, rfl, ?_⟩
    rw [show mx_scr (mx_setJ M1 98 0 _) = sc from r1.2.2]
    refine ⟨hi 1 (by decide) (by decide), hi 2 (by decide) (by decide), q_move (im_wM G (im_j R1)) (im_j R1).2.2.2.1 (fun x' hx' ex' => ?_) (fun z => absurd ⟨x, hx, ex⟩ z)⟩
    obtain rfl : x' = x := w_ij (by omega) (by omega) ex' ex
    refine ⟨fun p' q' hp' hq' ep' pp' eq' M4 W4 L4 a4 => ?_, fun y => ?_⟩
    · obtain rfl : p' = p := w_ij (by omega) (by omega) pp' pp
      obtain rfl : q' = q := w_ij (by omega) (by omega) eq' eq
      exact fin_B (A := (kpM A.1, kpF A.1 A.2.1 n, kpF A.1 A.2.2 f)) k C1 L4 mA_B (im_A (A2 := (kpM A.1, kpF A.1 A.2.1 n, kpF A.1 A.2.2 f)) L4 W4.2.2 a4 (im_0 (im_j R1))) ⟨G, mv_dst2 D hp hq ep, kp_dst V.2.2.1.2.2.1 D h40, V.2.2.1.2.2.2⟩ r1
    · rcases y with y | y
      · exact absurd (pp.symm.trans y) (w_ne1 (by omega))
      · exact absurd ⟨q, hq, eq⟩ y
  · rw [e3]
    have C1 := ic_rf V.1
    have R1 : IM (rfC M) X c n f A I S Y Z := im_far (P := fun k j => k = 1 ∧ j = 16) (lip_setI ⟨rfl, rfl⟩) (fM_C (fun k j z => by omega)) V.2.1
    have r1 : rmN (rfC M) sc r := rm_w V.2.2.2
    refine ⟨(im_j R1).1.1, 0, rfl, ?_⟩
    rw [show mx_scr (mx_setJ (rfC M) 98 0 _) = sc from r1.2.2]
    refine ⟨hi 1 (by decide) (by decide), hi 2 (by decide) (by decide), q_move (im_wM G (im_j R1)) (im_j R1).2.2.2.1 (fun x' hx' ex' => ?_) (fun z => absurd ⟨x, hx, ex⟩ z)⟩
    obtain rfl : x' = x := w_ij (by omega) (by omega) ex' ex
    refine ⟨fun p' q' hp' hq' ep' pp' eq' _ _ _ _ => ?_, fun _ => fin_B (F := fun k j => k = 71 ∧ j = 1) k C1 (lip_setI ⟨rfl, rfl⟩) (fun k j z => by omega) (im_rf (im_0 (im_j R1))) V.2.2.1 r1⟩
    rcases e with e | e
    · exact absurd (pp'.symm.trans e) (w_ne1 (by omega))
    · exact absurd ⟨q', hq', eq'⟩ e
  · have V1 := iv_th V
    refine ⟨iv_T V1, 1, rfl, ?_⟩
    rw [show mx_scr (mx_thM M) = sc from V1.2.2.2.2.2]
    exact ⟨hi 1 (by decide) (by decide), hi 2 (by decide) (by decide), q_move (im_wM G V1.2.1) V1.2.1.2.2.2.1 (fun x' hx' ex' => absurd ⟨x', hx', ex'⟩ z) (fun _ => fin_t (by decide) k V1)⟩
theorem la_file {d r : Nat} {v4 : Int32} {Q : QQ} {M : mx_M} {sc : Nat × (Nat → Int32)} (H : INV M sc (r + 1)) (hi : ∀ j, 1 ≤ j → j ≤ 5 → vp_in (v4 + w j) sc.1) (k : ∀ M5, INV M5 sc r → LPW d v4 Q M5) : mx_W m_L_law (d + 61) 1097 [.retAddr 1, .ref 1, .ref 58, .ref 98, .int v4, .retAddr 0, .retAddr 0] [] M Q := by
  obtain ⟨t, u, X, c, n, f, A, I, S, Y, Z, V⟩ := H
  have W := V.1.1
  have hr := rm_E V.2.2.2
  have G := V.2.2.1.1
  have g := G.1
  have D := V.2.2.1.2.1
  have hs : mx_scr M = sc := V.2.2.2.2.2
  have T := W.1
  have St := iv_sto V
  have hn := W.2.2.1.2.1
  have hS := V.2.2.1.2.2.2.2
  refine x_L_law_1097 (d := d + 60) T _ ?_
  rw [hs]
  have h40 := V.1.2.2.2.2.1.2.1.1
  refine ⟨hi 1 (by decide) (by decide), x_L_file_0 (d := d + 59) T _ (p_file W V.1.2.2.2.2.1 hr (fun o ho eo M1 W1 L1 a1 => ⟨lip_T L1 T, Or.inl ⟨_, rfl, fun M3 e3 => ?_⟩⟩) (fun z => ⟨T, Or.inr ⟨rfl, ?_⟩⟩))⟩
  · rw [e3]
    have C1 := ic_A (A2 := (kpM A.1, kpF A.1 A.2.1 n, kpF A.1 A.2.2 f)) L1 W1 a1 V.1
    have R1 := im_far L1 cA_M V.2.1
    have r1 : rmN M1 sc r := rm_lip L1 (rm_w V.2.2.2)
    refine ⟨(im_j R1).1.1, 0, rfl, ?_⟩
    rw [show mx_scr (mx_setJ M1 98 0 _) = sc from r1.2.2]
    refine ⟨hi 1 (by decide) (by decide), q_file (im_wM G (im_j R1)) (im_j R1).2.2.2.1 (fun o' ho' eo' M4 W4 L4 a4 => ?_) (fun z => absurd ⟨o, ho, eo⟩ z)⟩
    obtain rfl : o' = o := w_ij (by omega) (by omega) eo' eo
    exact fin_B (A := (kpM A.1, kpF A.1 A.2.1 n, kpF A.1 A.2.2 f)) k C1 L4 mA_B (im_A (A2 := (kpM A.1, kpF A.1 A.2.1 n, kpF A.1 A.2.2 f)) L4 W4.2.2 a4 (im_0 (im_j R1))) ⟨G, prm_dst (srt_ok (St _ ho) (fun a ha => (W.2.2.1.2.2 a ha).2) D).1 D, kp_dst V.2.2.1.2.2.1 D h40, V.2.2.1.2.2.2⟩ r1
  · have V1 := iv_th V
    refine ⟨iv_T V1, 1, rfl, ?_⟩
    rw [show mx_scr (mx_thM M) = sc from V1.2.2.2.2.2]
    exact ⟨hi 1 (by decide) (by decide), q_file (im_wM G V1.2.1) V1.2.1.2.2.2.1 (fun o' ho' eo' _ _ _ _ => absurd ⟨o', ho', eo'⟩ z) (fun _ => fin_t (by decide) k V1)⟩
