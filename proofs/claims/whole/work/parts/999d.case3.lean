/-! the law's last cases (by tools/mkcase3.py) -/
abbrev kE (d : Nat) (v4 : Int32) (Q : QQ) (x2 : Int32) : mx_O → mx_M → Prop := fun o M3 => mx_Tp M3 ∧ (∃ x4 : Int32, o = .inl (some (.int x4)) ∧ ((x2 = x4 → LPW d v4 Q M3) ∧ (¬ x2 = x4 → Q (.inl (some (.int (mx_b false)))) M3)))
theorem kE_of {d : Nat} {v4 v : Int32} {Q : QQ} {M : mx_M} {sc : Nat × (Nat → Int32)} {r : Nat} (k : ∀ M5, INV M5 sc r → LPW d v4 Q M5) (H : INV M sc r) : kE d v4 Q v (.inl (some (.int v))) M := by
  obtain ⟨t, u, X, c, n, f, A, I, S, Y, Z, V⟩ := H
  exact ⟨iv_T V, v, rfl, fun _ => k M (iv_I V), fun z => absurd rfl z⟩
theorem la_ring {d r : Nat} {v4 : Int32} {Q : QQ} {M : mx_M} {sc : Nat × (Nat → Int32)} (H : INV M sc (r + 1)) (hi : ∀ j, 1 ≤ j → j ≤ 5 → vp_in (v4 + w j) sc.1) (k : ∀ M5, INV M5 sc r → LPW d v4 Q M5) : mx_W m_L_law (d + 61) 1314 [.retAddr 1, .ref 1, .ref 58, .ref 98, .int v4, .retAddr 0, .retAddr 0] [] M Q := by
  obtain ⟨t, u, X, c, n, f, A, I, S, Y, Z, V⟩ := H
  have W := V.1.1
  have hr := rm_E V.2.2.2
  have G := V.2.2.1.1
  have g := G.1
  have D := V.2.2.1.2.1
  have hs : mx_scr M = sc := V.2.2.2.2.2
  have T := W.1
  have St := iv_sto V
  have hn := W.2.2.1.2.1
  have hS := V.2.2.1.2.2.2.2
  refine x_L_law_1314 (d := d + 60) T _ ?_
  refine p_ring W.1 W.2.1 ⟨T, _, rfl, ?_⟩
  have V1 := iv_w V
  exact q_ring (im_wM G V1.2.1) (fun M4 W4 L4 => kE_of k (iv_I (iv_q L4 V1)))
theorem la_head {d r : Nat} {v4 : Int32} {Q : QQ} {M : mx_M} {sc : Nat × (Nat → Int32)} (H : INV M sc (r + 1)) (hi : ∀ j, 1 ≤ j → j ≤ 5 → vp_in (v4 + w j) sc.1) (k : ∀ M5, INV M5 sc r → LPW d v4 Q M5) : mx_W m_L_law (d + 61) 1327 [.retAddr 1, .ref 1, .ref 58, .ref 98, .int v4, .retAddr 0, .retAddr 0] [] M Q := by
  obtain ⟨t, u, X, c, n, f, A, I, S, Y, Z, V⟩ := H
  have W := V.1.1
  have hr := rm_E V.2.2.2
  have G := V.2.2.1.1
  have g := G.1
  have D := V.2.2.1.2.1
  have hs : mx_scr M = sc := V.2.2.2.2.2
  have T := W.1
  have St := iv_sto V
  have hn := W.2.2.1.2.1
  have hS := V.2.2.1.2.2.2.2
  refine x_L_law_1327 (d := d + 60) T _ ?_
  refine p_head W.1 W.2.1 ⟨T, _, rfl, ?_⟩
  have V1 := iv_w V
  exact q_head (im_wM G V1.2.1) (fun M4 W4 L4 => kE_of k (iv_I (iv_q L4 V1)))
theorem la_could {d r : Nat} {v4 : Int32} {Q : QQ} {M : mx_M} {sc : Nat × (Nat → Int32)} (H : INV M sc (r + 1)) (hi : ∀ j, 1 ≤ j → j ≤ 5 → vp_in (v4 + w j) sc.1) (k : ∀ M5, INV M5 sc r → LPW d v4 Q M5) : mx_W m_L_law (d + 61) 1532 [.retAddr 1, .ref 1, .ref 58, .ref 98, .int v4, .retAddr 0, .retAddr 0] [] M Q := by
  obtain ⟨t, u, X, c, n, f, A, I, S, Y, Z, V⟩ := H
  have W := V.1.1
  have hr := rm_E V.2.2.2
  have G := V.2.2.1.1
  have g := G.1
  have D := V.2.2.1.2.1
  have hs : mx_scr M = sc := V.2.2.2.2.2
  have T := W.1
  have St := iv_sto V
  have hn := W.2.2.1.2.1
  have hS := V.2.2.1.2.2.2.2
  refine x_L_law_1532 (d := d + 60) T _ ?_
  refine p_could W ⟨T, _, rfl, ?_⟩
  have V1 := iv_w V
  exact q_could (im_wM G V1.2.1) (fun M4 W4 L4 => kE_of k (iv_I (iv_q L4 V1)))
theorem la_explained {d r : Nat} {v4 : Int32} {Q : QQ} {M : mx_M} {sc : Nat × (Nat → Int32)} (H : INV M sc (r + 1)) (hi : ∀ j, 1 ≤ j → j ≤ 5 → vp_in (v4 + w j) sc.1) (k : ∀ M5, INV M5 sc r → LPW d v4 Q M5) : mx_W m_L_law (d + 61) 1545 [.retAddr 1, .ref 1, .ref 58, .ref 98, .int v4, .retAddr 0, .retAddr 0] [] M Q := by
  obtain ⟨t, u, X, c, n, f, A, I, S, Y, Z, V⟩ := H
  have W := V.1.1
  have hr := rm_E V.2.2.2
  have G := V.2.2.1.1
  have g := G.1
  have D := V.2.2.1.2.1
  have hs : mx_scr M = sc := V.2.2.2.2.2
  have T := W.1
  have St := iv_sto V
  have hn := W.2.2.1.2.1
  have hS := V.2.2.1.2.2.2.2
  refine x_L_law_1545 (d := d + 60) T _ ?_
  refine p_explained W ⟨T, _, rfl, ?_⟩
  have V1 := iv_w V
  exact q_explained (im_wM G V1.2.1) (fun M4 W4 L4 => kE_of k (iv_I (iv_q L4 V1)))
theorem la_sees {d r : Nat} {v4 : Int32} {Q : QQ} {M : mx_M} {sc : Nat × (Nat → Int32)} (H : INV M sc (r + 1)) (hi : ∀ j, 1 ≤ j → j ≤ 5 → vp_in (v4 + w j) sc.1) (k : ∀ M5, INV M5 sc r → LPW d v4 Q M5) : mx_W m_L_law (d + 61) 1682 [.retAddr 1, .ref 1, .ref 58, .ref 98, .int v4, .retAddr 0, .retAddr 0] [] M Q := by
  obtain ⟨t, u, X, c, n, f, A, I, S, Y, Z, V⟩ := H
  have W := V.1.1
  have hr := rm_E V.2.2.2
  have G := V.2.2.1.1
  have g := G.1
  have D := V.2.2.1.2.1
  have hs : mx_scr M = sc := V.2.2.2.2.2
  have T := W.1
  have St := iv_sto V
  have hn := W.2.2.1.2.1
  have hS := V.2.2.1.2.2.2.2
  refine x_L_law_1682 (d := d + 60) T _ ?_
  refine p_sees W V.1.2.2.2.1 ⟨T, _, rfl, ?_⟩
  have V1 := iv_w V
  exact q_sees (im_wM G V1.2.1) V1.2.1.2.2.1 (fun M4 W4 L4 => kE_of k (iv_I (iv_q L4 V1)))
theorem la_agreed {d r : Nat} {v4 : Int32} {Q : QQ} {M : mx_M} {sc : Nat × (Nat → Int32)} (H : INV M sc (r + 1)) (hi : ∀ j, 1 ≤ j → j ≤ 5 → vp_in (v4 + w j) sc.1) (k : ∀ M5, INV M5 sc r → LPW d v4 Q M5) : mx_W m_L_law (d + 61) 2003 [.retAddr 1, .ref 1, .ref 58, .ref 98, .int v4, .retAddr 0, .retAddr 0] [] M Q := by
  obtain ⟨t, u, X, c, n, f, A, I, S, Y, Z, V⟩ := H
  have W := V.1.1
  have hr := rm_E V.2.2.2
  have G := V.2.2.1.1
  have g := G.1
  have D := V.2.2.1.2.1
  have hs : mx_scr M = sc := V.2.2.2.2.2
  have T := W.1
  have St := iv_sto V
  have hn := W.2.2.1.2.1
  have hS := V.2.2.1.2.2.2.2
  refine x_L_law_2003 (d := d + 60) T _ ?_
  refine p_agreed W (fun M1 W1 L1 => ⟨lip_T L1 T, _, rfl, ?_⟩)
  have V1 := iv_far L1 cL_far cL_farM (iv_w V)
  exact q_agreed (im_wM G V1.2.1) St (fun M4 W4 L4 => kE_of k (iv_I (iv_q L4 V1)))
theorem la_fault {d r : Nat} {v4 : Int32} {Q : QQ} {M : mx_M} {sc : Nat × (Nat → Int32)} (H : INV M sc (r + 1)) (hi : ∀ j, 1 ≤ j → j ≤ 5 → vp_in (v4 + w j) sc.1) (k : ∀ M5, INV M5 sc r → LPW d v4 Q M5) : mx_W m_L_law (d + 61) 341 [.retAddr 1, .ref 1, .ref 58, .ref 98, .int v4, .retAddr 0, .retAddr 0] [] M Q := by
  obtain ⟨t, u, X, c, n, f, A, I, S, Y, Z, V⟩ := H
  have W := V.1.1
  have hr := rm_E V.2.2.2
  have G := V.2.2.1.1
  have g := G.1
  have D := V.2.2.1.2.1
  have hs : mx_scr M = sc := V.2.2.2.2.2
  have T := W.1
  have St := iv_sto V
  have hn := W.2.2.1.2.1
  have hS := V.2.2.1.2.2.2.2
  refine x_L_law_341 (d := d + 60) T _ (x_X10_fault_0 T t W.2.1.1.1 W.2.1.1.2 ⟨T, _, rfl, x_X11_fault_0 T (fun M1 e1 => ?_)⟩)
  have V1 := iv_0 (v := 0) (iv_w V)
  rw [← e1] at V1
  rw [V.1.2.2.2.2.2.2.2.2.2.1, V1.2.1.2.2.2.2.2.2.2.1]
  exact kE_of k (iv_I V1)
theorem la_feed {d r : Nat} {v4 : Int32} {Q : QQ} {M : mx_M} {sc : Nat × (Nat → Int32)} (H : INV M sc (r + 1)) (hi : ∀ j, 1 ≤ j → j ≤ 5 → vp_in (v4 + w j) sc.1) (k : ∀ M5, INV M5 sc r → LPW d v4 Q M5) : mx_W m_L_law (d + 61) 212 [.retAddr 1, .ref 1, .ref 58, .ref 98, .int v4, .retAddr 0, .retAddr 0] [] M Q := by
  obtain ⟨t, u, X, c, n, f, A, I, S, Y, Z, V⟩ := H
  have W := V.1.1
  have hr := rm_E V.2.2.2
  have G := V.2.2.1.1
  have g := G.1
  have D := V.2.2.1.2.1
  have hs : mx_scr M = sc := V.2.2.2.2.2
  have T := W.1
  have St := iv_sto V
  have hn := W.2.2.1.2.1
  have hS := V.2.2.1.2.2.2.2
  refine x_L_law_212 (d := d + 60) T _ ?_
  rw [hs]
  refine ⟨hi 1 (by decide) (by decide), hi 2 (by decide) (by decide), hi 3 (by decide) (by decide), hi 4 (by decide) (by decide), hi 5 (by decide) (by decide), p_feed T W.2.1.1.1 W.2.1.1.2 V.1.2.2.2.2.2.2.2.2.1 (fun y M1 L1 y1 => ⟨lip_T L1 T, _, rfl, ?_⟩) (fun y => ⟨T, _, rfl, ?_⟩)⟩
  · have R1 := im_far L1 cD_M V.2.1
    have r1 : rmN M1 sc r := rm_lip L1 (rm_w V.2.2.2)
    rw [show mx_scr M1 = sc from r1.2.2]
    refine ⟨hi 1 (by decide) (by decide), hi 2 (by decide) (by decide), hi 3 (by decide) (by decide), hi 4 (by decide) (by decide), hi 5 (by decide) (by decide), q_feed R1.1.1 R1.2.2.2.2.2.2.1 (fun _ M4 L4 y4 => ?_) (fun z => absurd y z)⟩
    have C1 := ic_D (Y2 := (Y.1 + 20, fd5 Y.2 Y.1 (sc.2 (v4 + 1).toNatClampNeg) (sc.2 (v4 + 2).toNatClampNeg) (sc.2 (v4 + 3).toNatClampNeg) (sc.2 (v4 + 4).toNatClampNeg) (sc.2 (v4 + 5).toNatClampNeg))) L1 y1 V.1
    have C2 := ic_far (P := fun k j => k = 58 ∧ j = 0) (M1 := mx_setI M1 58 0 0) (lip_setI ⟨rfl, rfl⟩) (fun k j z => by omega) C1
    have C4 := ic_far L4 (f_M (fun k j z => by omega)) C2
    exact kE_of k (iv_I ⟨C4, im_D L4 y4 (im_0 R1), V.2.2.1, rm_lip L4 (rm_lip (P := fun k j => k = 58 ∧ j = 0) (lip_setI ⟨rfl, rfl⟩) r1)⟩)
  · have V1 := iv_w V
    rw [hs]
    exact ⟨hi 1 (by decide) (by decide), hi 2 (by decide) (by decide), hi 3 (by decide) (by decide), hi 4 (by decide) (by decide), hi 5 (by decide) (by decide), q_feed V1.2.1.1.1 V1.2.1.2.2.2.2.2.2.1 (fun z => absurd z y) (fun _ => kE_of k (iv_I (iv_0 V1)))⟩
theorem la_undo {d r : Nat} {v4 : Int32} {Q : QQ} {M : mx_M} {sc : Nat × (Nat → Int32)} (H : INV M sc (r + 1)) (hi : ∀ j, 1 ≤ j → j ≤ 5 → vp_in (v4 + w j) sc.1) (k : ∀ M5, INV M5 sc r → LPW d v4 Q M5) : mx_W m_L_law (d + 61) 1153 [.retAddr 1, .ref 1, .ref 58, .ref 98, .int v4, .retAddr 0, .retAddr 0] [] M Q := by
  obtain ⟨t, u, X, c, n, f, A, I, S, Y, Z, V⟩ := H
  have W := V.1.1
  have hr := rm_E V.2.2.2
  have G := V.2.2.1.1
  have g := G.1
  have D := V.2.2.1.2.1
  have hs : mx_scr M = sc := V.2.2.2.2.2
  have T := W.1
  have St := iv_sto V
  have hn := W.2.2.1.2.1
  have hS := V.2.2.1.2.2.2.2
  refine x_L_law_1153 (d := d + 60) T _ (p_undo W V.1.2.2.2.2.1 (fun e => ⟨T, _, rfl, ?_⟩) (fun m1 e M1 W1 L1 a1 => ⟨lip_T L1 T, _, rfl, ?_⟩))
  · have V1 := iv_w V
    exact q_undo (im_wM G V1.2.1) V1.2.1.2.2.2.1 (fun _ => kE_of k (iv_I (iv_0 V1))) (fun m1 y => absurd (e.symm.trans y) (by omega))
  · have C1 := ic_A (A2 := (m1, A.2.1, A.2.2)) L1 W1 a1 V.1
    have R1 := im_far L1 cA_M V.2.1
    have r1 : rmN M1 sc r := rm_lip L1 (rm_w V.2.2.2)
    refine q_undo (im_wM G R1) R1.2.2.2.1 (fun y => absurd (y.symm.trans e) (by omega)) (fun m2 y M4 W4 L4 e0 a4 => ?_)
    obtain rfl : m2 = m1 := by omega
    exact kE_of k (iv_I ⟨ic_far L4 (f_M (fun k j z => by omega)) C1, im_u (A2 := (m2, A.2.1, A.2.2)) L4 W4.2.2 a4 R1, ⟨G, V.2.2.1.2.2.1 m2 (by omega), fun i hi9 => V.2.2.1.2.2.1 i (by have hi9 : i < m2 := hi9; omega), V.2.2.1.2.2.2⟩, rm_lip L4 r1⟩)
theorem la_image {d r : Nat} {v4 : Int32} {Q : QQ} {M : mx_M} {sc : Nat × (Nat → Int32)} (H : INV M sc (r + 1)) (hi : ∀ j, 1 ≤ j → j ≤ 5 → vp_in (v4 + w j) sc.1) (k : ∀ M5, INV M5 sc r → LPW d v4 Q M5) : mx_W m_L_law (d + 61) 2288 [.retAddr 1, .ref 1, .ref 58, .ref 98, .int v4, .retAddr 0, .retAddr 0] [] M Q := by
  obtain ⟨t, u, X, c, n, f, A, I, S, Y, Z, V⟩ := H
  have W := V.1.1
  have hr := rm_E V.2.2.2
  have G := V.2.2.1.1
  have g := G.1
  have D := V.2.2.1.2.1
  have hs : mx_scr M = sc := V.2.2.2.2.2
  have T := W.1
  have St := iv_sto V
  have hn := W.2.2.1.2.1
  have hS := V.2.2.1.2.2.2.2
  refine x_L_law_2288 (d := d + 60) T _ (p_image W V.1.2.2.2.2.1 (fun M1 W1 L1 i1 => ⟨lip_T L1 T, rfl, ?_⟩))
  have C1 := ic_I (I2 := (true, (n, f), A)) L1 W1 i1 V.1
  have R1 := im_far L1 cI_M V.2.1
  have r1 : rmN M1 sc r := rm_lip L1 (rm_w V.2.2.2)
  have C2 := ic_far (P := fun k j => k = 58 ∧ j = 0) (M1 := mx_setI M1 58 0 0) (lip_setI ⟨rfl, rfl⟩) (fun k j z => by omega) C1
  exact q_image (im_wM G R1) R1.2.2.2.1 (fun M4 W4 L4 i4 => ⟨W4.1, rfl, k M4 (iv_I ⟨ic_far L4 (f_M (fun k j z => by omega)) C2, im_I (I2 := (true, (n, f), A)) L4 i4 (im_0 R1), ⟨G, D, V.2.2.1.2.2.1, fun _ => ⟨D, V.2.2.1.2.2.1⟩, hS⟩, rm_lip L4 (rm_lip (P := fun k j => k = 58 ∧ j = 0) (lip_setI ⟨rfl, rfl⟩) r1)⟩)⟩)
theorem la_restore {d r : Nat} {v4 : Int32} {Q : QQ} {M : mx_M} {sc : Nat × (Nat → Int32)} (H : INV M sc (r + 1)) (hi : ∀ j, 1 ≤ j → j ≤ 5 → vp_in (v4 + w j) sc.1) (k : ∀ M5, INV M5 sc r → LPW d v4 Q M5) : mx_W m_L_law (d + 61) 2299 [.retAddr 1, .ref 1, .ref 58, .ref 98, .int v4, .retAddr 0, .retAddr 0] [] M Q := by
  obtain ⟨t, u, X, c, n, f, A, I, S, Y, Z, V⟩ := H
  have W := V.1.1
  have hr := rm_E V.2.2.2
  have G := V.2.2.1.1
  have g := G.1
  have D := V.2.2.1.2.1
  have hs : mx_scr M = sc := V.2.2.2.2.2
  have T := W.1
  have St := iv_sto V
  have hn := W.2.2.1.2.1
  have hS := V.2.2.1.2.2.2.2
  refine x_L_law_2299 (d := d + 60) T _ (p_restore (m := 0) (an := fun _ => 0) (af := fun _ _ => 0) W V.1.2.2.2.2.2.1 (fun e => ⟨T, false, rfl, ?_⟩) (fun e M1 W1 L1 a1 => ⟨lip_T L1 T, true, rfl, ?_⟩))
  · have V1 := iv_w V
    exact q_restore (im_wM G V1.2.1) V1.2.1.2.2.2.2.1 (fun _ => ⟨iv_T (iv_0 V1), false, rfl, fun _ => k _ (iv_I (iv_0 V1)), fun z => absurd rfl z⟩) (fun y => absurd (e.symm.trans y) (by decide))
  · have C1 := ic_A (A2 := I.2.2) L1 W1 a1 V.1
    have R1 := im_far L1 cA_M V.2.1
    have r1 : rmN M1 sc r := rm_lip L1 (rm_w V.2.2.2)
    have di := V.2.2.1.2.2.2.1 e
    have C2 := ic_far (P := fun k j => k = 58 ∧ j = 0) (M1 := mx_setI M1 58 0 0) (lip_setI ⟨rfl, rfl⟩) (fun k j z => by omega) C1
    exact q_restore (im_wM G R1) R1.2.2.2.2.1 (fun y => absurd (e.symm.trans y) (by decide)) (fun _ M4 W4 L4 a4 => ⟨W4.1, true, rfl, fun _ => k M4 (iv_I ⟨ic_far L4 (f_M (fun k j z => (show 58 ≤ k by omega))) C2, im_A (A2 := I.2.2) L4 W4.2.2 a4 (im_0 R1), ⟨G, di.1, di.2, fun _ => di, hS⟩, rm_lip L4 (rm_lip (P := fun k j => k = 58 ∧ j = 0) (lip_setI ⟨rfl, rfl⟩) r1)⟩), fun z => absurd rfl z⟩)
abbrev tlB (d : Nat) (v4 : Int32) (Q : QQ) (x2 : Int32) (x4 : Bool) (M3 : mx_M) : Prop := mx_W m_X11_thrown (d + 60) 0 [.ref 58] [] M3 (fun o M5 => mx_Tp M5 ∧ (∃ x6 : Int32, o = .inl (some (.int x6)) ∧ ((x6 = x2 → ((¬ x2 = 0 → LPW d v4 Q M5) ∧ (x2 = 0 → ((x4 = false → ((mx_J M5 98 0 = 0 → LPW d v4 Q M5) ∧ (¬ mx_J M5 98 0 = 0 → Q (.inl (some (.int (mx_b false)))) M5))) ∧ (x4 = true → ((mx_J M5 98 0 = 1 → LPW d v4 Q M5) ∧ (¬ mx_J M5 98 0 = 1 → Q (.inl (some (.int (mx_b false)))) M5))))))) ∧ (¬ x6 = x2 → Q (.inl (some (.int (mx_b false)))) M5))))
theorem tlB_of {d : Nat} {v4 : Int32} {Q : QQ} {x2 : Int32} {x4 : Bool} {M3 : mx_M} (T : mx_Tp M3) (e0 : mx_I M3 58 0 = x2) (ej : x2 = 0 → mx_J M3 98 0 = (if x4 = true then 1 else 0)) (k : LPW d v4 Q M3) : tlB d v4 Q x2 x4 M3 :=
  x_X11_thrown_0 T ⟨T, _, rfl, fun _ => ⟨fun _ => k, fun z => ⟨fun y => ⟨fun _ => k, fun v => absurd (by rw [ej z, y]; rfl) v⟩, fun y => ⟨fun _ => k, fun v => absurd (by rw [ej z, y]; rfl) v⟩⟩⟩, fun z => absurd e0 z⟩
theorem la_before {d r : Nat} {v4 : Int32} {Q : QQ} {M : mx_M} {sc : Nat × (Nat → Int32)} (H : INV M sc (r + 1)) (hi : ∀ j, 1 ≤ j → j ≤ 5 → vp_in (v4 + w j) sc.1) (k : ∀ M5, INV M5 sc r → LPW d v4 Q M5) : mx_W m_L_law (d + 61) 626 [.retAddr 1, .ref 1, .ref 58, .ref 98, .int v4, .retAddr 0, .retAddr 0] [] M Q := by
  obtain ⟨t, u, X, c, n, f, A, I, S, Y, Z, V⟩ := H
  have W := V.1.1
  have hr := rm_E V.2.2.2
  have G := V.2.2.1.1
  have g := G.1
  have D := V.2.2.1.2.1
  have hs : mx_scr M = sc := V.2.2.2.2.2
  have T := W.1
  have St := iv_sto V
  have hn := W.2.2.1.2.1
  have hS := V.2.2.1.2.2.2.2
  refine x_L_law_626 (d := d + 60) T _ ?_
  rw [hs]
  refine ⟨hi 1 (by decide) (by decide), hi 2 (by decide) (by decide), hi 3 (by decide) (by decide), x_L_before_0 (d := d + 59) T _ _ _ (p_before W hr (fun o x y ho hx hy eo ex ey => ⟨T, Or.inl ⟨_, rfl, fun b => fun M3 e3 => ?_, fun b => fun M3 e3 => ?_⟩⟩) (fun z => ⟨T, Or.inr ⟨rfl, ?_⟩⟩))⟩
  · have V1 := (iv_w V)
    have V2 := iv_j (v := 0) V1
    rw [e3]
    refine ⟨iv_T V2, 0, rfl, ?_⟩
    rw [show mx_scr (mx_setJ M 98 0 _) = sc from V1.2.2.2.2.2]
    refine ⟨hi 1 (by decide) (by decide), hi 2 (by decide) (by decide), hi 3 (by decide) (by decide), q_before (im_wM G V2.2.1) (fun o' x' y' ho' hx' hy' eo' ex' ey' M4 W4 L4 => ?_) (fun z => absurd ⟨⟨o, ho, eo⟩, ⟨x, hx, ex⟩, ⟨y, hy, ey⟩⟩ z)⟩
    obtain rfl : o' = o := w_ij (by omega) (by omega) eo' eo
    obtain rfl : x' = x := w_ij (by omega) (by omega) ex' ex
    obtain rfl : y' = y := w_ij (by omega) (by omega) ey' ey
    refine ⟨W4.1, _, rfl, tlB_of W4.1 (by rw [(L4.2 58 0 (by decide)).1]; exact I_eq) (fun _ => ?_) (k _ (iv_I (iv_q L4 V2)))⟩
    rw [(L4.2 98 0 (by decide)).2, b]; exact J_eq
  · have V1 := (iv_w V)
    have V2 := iv_j (v := 1) V1
    rw [e3]
    refine ⟨iv_T V2, 0, rfl, ?_⟩
    rw [show mx_scr (mx_setJ M 98 0 _) = sc from V1.2.2.2.2.2]
    refine ⟨hi 1 (by decide) (by decide), hi 2 (by decide) (by decide), hi 3 (by decide) (by decide), q_before (im_wM G V2.2.1) (fun o' x' y' ho' hx' hy' eo' ex' ey' M4 W4 L4 => ?_) (fun z => absurd ⟨⟨o, ho, eo⟩, ⟨x, hx, ex⟩, ⟨y, hy, ey⟩⟩ z)⟩
    obtain rfl : o' = o := w_ij (by omega) (by omega) eo' eo
    obtain rfl : x' = x := w_ij (by omega) (by omega) ex' ex
    obtain rfl : y' = y := w_ij (by omega) (by omega) ey' ey
    refine ⟨W4.1, _, rfl, tlB_of W4.1 (by rw [(L4.2 58 0 (by decide)).1]; exact I_eq) (fun _ => ?_) (k _ (iv_I (iv_q L4 V2)))⟩
    rw [(L4.2 98 0 (by decide)).2, b]; exact J_eq
  · have V1 := iv_th V
    refine ⟨iv_T V1, 1, rfl, ?_⟩
    rw [show mx_scr (mx_thM M) = sc from V1.2.2.2.2.2]
    exact ⟨hi 1 (by decide) (by decide), hi 2 (by decide) (by decide), hi 3 (by decide) (by decide), q_before (im_wM G V1.2.1) (fun o' x' y' ho' hx' hy' eo' ex' ey' _ _ _ => absurd ⟨⟨o', ho', eo'⟩, ⟨x', hx', ex'⟩, ⟨y', hy', ey'⟩⟩ z) (fun _ => ⟨iv_T (iv_0 (iv_0 V1)), false, rfl, tlB_of (iv_T (iv_0 (iv_0 V1))) I_eq (fun z => absurd z (by decide)) (k _ (iv_I (iv_0 (iv_0 V1))))⟩)⟩
