/-! the law's case of a catalogue -/
theorem im_lis {P : Nat → Nat → Prop} {M M1 : mx_M} {X : TX} {c : CD} {n : Nat} {f : Nat → Nat} {A : AQ} {I : IQ} {S Y : NF} {Z : ZQ} (L : lis P M M1) (hP : farM P) (T1 : mx_Tp M1) (H : IM M X c n f A I S Y Z) : IM M1 X c n f A I S Y Z := by
  have L2 : lip P M (mx_sh M1, mx_I M1, mx_J M1, mx_R M, mx_rm M1, mx_scr M1) := ⟨⟨L.1.1, rfl, L.1.2.1, L.1.2.2⟩, L.2⟩
  obtain ⟨⟨_, R⟩, ⟨c1, c2, c3, c4, c5⟩, h2⟩ := im_far L2 hP H
  refine ⟨⟨T1, R⟩, ⟨c1, c2, c3, c4, fun o ho hi => ?_⟩, h2⟩
  obtain ⟨a, r1, r2, r3⟩ := c5 o ho hi
  exact ⟨a, r1, r2, cdL_eq (M := (mx_sh M1, mx_I M1, mx_J M1, mx_R M, mx_rm M1, mx_scr M1)) (M1 := M1) rfl _ _ r3⟩
abbrev A00 : AQ := (0, fun _ => 0, fun _ _ => 0)
abbrev I00 : IQ := (false, (0, fun _ => 0), A00)
abbrev S00 : NF := (0, fun _ => 0)
abbrev f00 : Nat → Nat := fun _ => 0
theorem ic_new {M M1 : mx_M} {t u : Nat} {X : TX} {c : CD} {Z : ZQ} (ht : mx_Cat t) (hu : mx_Cat u) (hne : ¬ u = t) (G : gdC X c) (H : cntC M Z) (N : nwC M M1 t u X c) : IC M1 u t X c 0 f00 A00 I00 S00 S00 (-1, Z.2.1, Z.2.2) := by
  have g := G.1
  obtain ⟨⟨T1, Ru, Rt⟩, L, C, O, ⟨e41, e14, e11, e12⟩, e39, e31, e35⟩ := N
  have hc : u = 11 ∨ u = 45 := hu
  have n15 : ¬ cWs u 1 15 := by
    intro z
    rcases z with z | z | z
    · rcases z with z | z | z | z | z | z | z | z <;> omega
    · omega
    · omega
  have n16 : ¬ cWs u 1 16 := by
    intro z
    rcases z with z | z | z
    · rcases z with z | z | z | z | z | z | z | z <;> omega
    · omega
    · omega
  refine ⟨⟨T1, ⟨⟨hu, Ru⟩, C.1, g, fun o ho => ah_ord (O o ho).2⟩, ⟨e31, ⟨Nat.zero_le _, g.1⟩, fun i hi => absurd hi (Nat.not_lt_zero _)⟩, fun o ho => (O o ho).2⟩, ⟨ht, Rt, fun z => hne z.symm⟩, C, fun o x ho hx => (O o ho).1 x hx, ⟨e35, ⟨Nat.zero_le _, g.1⟩, fun i hi => absurd hi (Nat.not_lt_zero _)⟩, ⟨e12, fun y => by cases y⟩, Or.inl e39, ⟨e11, fun i hi => absurd hi (Nat.not_lt_zero _)⟩, ⟨e41, Nat.zero_le _, fun i hi => absurd hi (Nat.not_lt_zero _)⟩, e14, ?_, ?_⟩
  · rw [(L.2 1 15 n15).1]; exact H.2.1
  · rw [(L.2 1 16 n16).1]; exact H.2.2
theorem cBP_no {u k j : Nat} (hu : mx_Cat u) (h : k = 1 ∨ (k = 4) ∨ k = 5 ∨ (25 ≤ k ∧ k ≤ 44)) : ¬ cBP u k j := by
  have hc : u = 11 ∨ u = 45 := hu
  intro z
  rcases z with z | z | z | z | z | z | z | z <;> omega
theorem ic_bad {M M1 : mx_M} {t u : Nat} {X : TX} {c : CD} {n : Nat} {f : Nat → Nat} {A : AQ} {I : IQ} {S Y : NF} {Z : ZQ} {p : Int32} (L : lip (cWf u) M M1) (e41 : mx_I M1 4 1 = 0) (e14 : mx_I M1 1 14 = p) (e15 : mx_I M1 1 15 = mx_I M 1 15 + 1) (H : IC M t u X c n f A I S Y Z) : IC M1 t u X c n f A I S S00 (p, Z.2.1 + 1, Z.2.2) := by
  have ht := H.1.2.1.1.1
  have hu := H.2.1.1
  have hne := H.2.1.2.2
  have hc : t = 11 ∨ t = 45 := ht
  have hc2 : u = 11 ∨ u = 45 := hu
  have g : ∀ k j, (25 ≤ k ∧ k ≤ 44) ∨ (k = 1 ∧ ¬ j = 14 ∧ ¬ j = 15) → ¬ cWf u k j := fun k j h z => by
    rcases z with z | z | z
    · exact cBP_no hu (by omega) z
    · omega
    · omega
  have gt : ∀ k j, cWf u k j → ¬ (t ≤ k ∧ k ≤ t + 12) := fun k j z y => by
    rcases z with z | z | z
    · rcases z with z | z | z | z | z | z | z | z <;> omega
    · omega
    · omega
  obtain ⟨W, h1, h2, h3, h4, h5, h6, h7, h8, h9⟩ := H
  refine ⟨wC_of L (fun k j z => ⟨fun y => gt k j z (by omega), fun y => g k j (by omega) z, fun y => g k j (by omega) z, fun y => g k j (by omega) z, fun y => g k j (by omega) z⟩) W, u_lip L h1, CDC_lip L gt h2, kyC_of L (fun k j z => ⟨fun y => g k j (by omega) z, fun y => g k j (by omega) z⟩) h3, act_lip L (g _ _ (by omega)) (fun j => g _ _ (by omega)) h4, img_lip L (g _ _ (by omega)) (g _ _ (by omega)) (g _ _ (by omega)) (fun j => g _ _ (by omega)) h5, set_lip L (fun j => g _ _ (by omega)) (fun j => g _ _ (by omega)) h6, sty_lip L (g _ _ (by omega)) (fun j => g _ _ (by omega)) h7, ⟨e41, Nat.zero_le _, fun i hi => absurd hi (Nat.not_lt_zero _)⟩, e14, ?_, ?_⟩
  · rw [e15, h9.2.1]
  · rw [(L.2 1 16 (g _ _ (by omega))).1]; exact h9.2.2
theorem cWs_M {u : Nat} (hu : mx_Cat u) : farM (cWs u) := fM_C (fun k j z => by
  have hc : u = 11 ∨ u = 45 := hu
  rcases z with z | z | z
  · rcases z with z | z | z | z | z | z | z | z <;> omega
  · omega
  · omega)
theorem cWf_M {u : Nat} (hu : mx_Cat u) : farM (cWf u) := fM_C (fun k j z => by
  have hc : u = 11 ∨ u = 45 := hu
  rcases z with z | z | z
  · rcases z with z | z | z | z | z | z | z | z <;> omega
  · omega
  · omega)
theorem mWs_B : ∀ k j, mWs k j → 58 ≤ k ∧ ¬ k = 98 ∧ ¬ k = 71 := fun k j z => by
  rcases z with z | z | z | z | z | z | z
  · rcases z with z | z <;> omega
  · omega
  · omega
  · omega
  · have z : k = 85 ∨ k = 86 ∨ k = 87 := z
    omega
  · omega
  · omega
theorem mWf_B : ∀ k j, mWf k j → 58 ≤ k ∧ ¬ k = 98 ∧ ¬ (k = 71 ∧ j = 1) ∧ ¬ (59 ≤ k ∧ k ≤ 70) ∧ ¬ (85 ≤ k) ∧ ¬ (k = 58 ∧ (j = 1 ∨ j = 2 ∨ (53 ≤ j ∧ j ≤ 61))) := fun k j z => by
  rcases z with z | z | z
  · rcases z with z | z <;> omega
  · omega
  · omega
theorem im_new {M M1 : mx_M} {X : TX} {c : CD} {Z : ZQ} (G : gdC X c) (H : cntM M Z) (N : nwM M M1 X c) : IM M1 X c 0 f00 A00 I00 S00 S00 (-1, Z.2.1, Z.2.2) := by
  have g := G.1
  obtain ⟨T1, L, C, Ky, ⟨e0, e15, e17⟩, e90, e53, e56, e60⟩ := N
  refine ⟨⟨T1, e90, ⟨Nat.zero_le _, g.1⟩, fun i hi => absurd hi (Nat.not_lt_zero _)⟩, C, Ky, ⟨e53, ⟨Nat.zero_le _, g.1⟩, fun i hi => absurd hi (Nat.not_lt_zero _)⟩, ⟨e60, fun y => by cases y⟩, ⟨Or.inr ⟨rfl, e56⟩, fun i hi => absurd hi (Nat.not_lt_zero _)⟩, ⟨e15, Nat.zero_le _, fun i hi => absurd hi (Nat.not_lt_zero _)⟩, e17, ?_, ?_⟩
  · rw [(L.2 71 0 (fun z => (mWs_B _ _ z).2.2 rfl)).1]; exact H.2.1
  · rw [(L.2 71 1 (fun z => (mWs_B _ _ z).2.2 rfl)).1]; exact H.2.2
theorem im_bad {M M1 : mx_M} {X : TX} {c : CD} {n : Nat} {f : Nat → Nat} {A : AQ} {I : IQ} {S Y : NF} {Z : ZQ} {p : Int32} (L : lip mWf M M1) (e15 : mx_I M1 58 15 = 0) (e17 : mx_I M1 58 17 = p) (e71 : mx_I M1 71 0 = mx_I M 71 0 + 1) (H : IM M X c n f A I S Y Z) : IM M1 X c n f A I S S00 (p, Z.2.1 + 1, Z.2.2) := by
  have g := mWf_B
  obtain ⟨⟨T, R⟩, h1, h2, h3, h4, h5, h6, h7⟩ := H
  refine ⟨⟨lip_T L T, rowM_of L (fun j z => by have := g _ _ z; omega) R⟩, CDM_lip L (fun k j z => by have := g _ _ z; omega) h1, fun o x ho hx => slM_of L (fun a j z => by have := g _ _ z; omega) (h2 o x ho hx), actN_lip L (fun z => by have := g _ _ z; omega) (fun j z => by have := g _ _ z; omega) h3, imgM_lip L (fun z => by have := g _ _ z; omega) (fun z => by have := g _ _ z; omega) (fun j z => by have := g _ _ z; omega) (fun j z => by have := g _ _ z; omega) h4, styM_lip L (fun z => by have := g _ _ z; omega) (fun j z => by have := g _ _ z; omega) h5, ⟨e15, Nat.zero_le _, fun i hi => absurd hi (Nat.not_lt_zero _)⟩, e17, ?_, ?_⟩
  · rw [e71, h7.2.1]
  · rw [(L.2 71 1 (fun z => by have := g _ _ z; omega)).1]; exact h7.2.2
theorem la_catalogue {d r : Nat} {v4 : Int32} {Q : QQ} {M : mx_M} {sc : Nat × (Nat → Int32)} (H : INV M sc (r + 1)) (hi : ∀ j, 1 ≤ j → j ≤ 5 → vp_in (v4 + w j) sc.1) (k : ∀ M5, INV M5 sc r → LPW d v4 Q M5) : mx_W m_L_law (d + 61) 285 [.retAddr 1, .ref 1, .ref 58, .ref 98, .int v4, .retAddr 0, .retAddr 0] [] M Q := by
  obtain ⟨t, u, X, c, n, f, A, I, S, Y, Z, V⟩ := H
  have W := V.1.1
  have hr := rm_E V.2.2.2
  have G := V.2.2.1.1
  have hs : mx_scr M = sc := V.2.2.2.2.2
  have T := W.1
  have ht := W.2.1.1.1
  have hu := V.1.2.1.1
  have hne := V.1.2.1.2.2
  have tp := V.1.2.2.2.2.2.2.2.2.1
  have tpm := V.2.1.2.2.2.2.2.2.1
  have h7 := tp.2.1
  refine x_L_law_285 (d := d + 60) T _ ?_
  rw [hs]
  refine ⟨hi 1 (by decide) (by decide), x_L_catalogue_0 (d := d + 59) T _ (p_catalogue (d := d + 7) T ht W.2.1.1.2 hu V.1.2.1.2.1 hr tp (fun l hl ev z0 G1 M1 N1 => ⟨N1.1.1, Or.inl ⟨_, rfl, fun M3 e3 => ?_⟩⟩) (fun l hl ev z0 z5 M1 L1 e41 e14 e15 => ⟨lip_T L1 T, Or.inl ⟨_, rfl, fun M3 e3 => ?_⟩⟩) (fun z => ⟨T, Or.inr ⟨rfl, ?_⟩⟩))⟩
  · rw [e3]
    have C1 := ic_new ht hu hne G1 V.1.2.2.2.2.2.2.2.2.2 N1
    have R1 := im_lis N1.2.1 (cWs_M hu) N1.1.1 V.2.1
    have r0 := rm_w V.2.2.2
    have r1 : rmN M1 sc r := ⟨by rw [N1.2.1.1.2.1]; exact r0.1, by rw [N1.2.1.1.2.1]; exact r0.2.1, by rw [N1.2.1.1.2.2]; exact r0.2.2⟩
    refine ⟨(im_j R1).1.1, 0, rfl, ?_⟩
    rw [show mx_scr (mx_setJ M1 98 0 _) = sc from r1.2.2]
    refine ⟨hi 1 (by decide) (by decide), q_catalogue (d := d + 52) (im_j R1).1.1 (im_j R1).2.2.2.2.2.2.1 (fun l' hl' ev' z0' G' M4 N4 => ?_) (fun l' hl' ev' z0' _ M4 L4 _ _ _ _ => ?_) (fun z => absurd ⟨l, by omega, ev⟩ z)⟩
    · obtain rfl : l' = l := w_ij (by omega) (by omega) ev' ev
      have C2 : IC (mx_setJ M1 98 0 ((0 : Int32).toInt64)) u t _ _ 0 f00 A00 I00 S00 S00 (-1, Z.2.1, Z.2.2) := ic_far (P := fun k j => k = 98 ∧ j = 0) (lip_setJ ⟨rfl, rfl⟩) (fun k j z => by omega) C1
      have C4 := ic_far N4.2.1 (f_M (fun k j z => (mWs_B k j z).1)) C2
      have R4 := im_new G' (im_j R1).2.2.2.2.2.2.2 N4
      refine kR_of N4.1 N4.2.2.2.2.1.1 (fun _ => ?_) (k M4 (iv_I ⟨C4, R4, ⟨G', fun i j hi hj => absurd hi (Nat.not_lt_zero _), fun i hi => absurd hi (Nat.not_lt_zero _), fun y => (by cases y), Nat.zero_le _⟩, rm_lip N4.2.1 (rm_lip (P := fun k j => k = 98 ∧ j = 0) (lip_setJ ⟨rfl, rfl⟩) r1)⟩))
      rw [(N4.2.1.2 98 0 (fun z => (mWs_B _ _ z).2.1 rfl)).2]; exact J_eq
    · obtain rfl : l' = l := w_ij (by omega) (by omega) ev' ev
      exact absurd z0 z0'
  · rw [e3]
    have C1 := ic_bad L1 e41 e14 e15 V.1
    have R1 := im_far L1 (cWf_M hu) V.2.1
    have r1 : rmN M1 sc r := rm_lip L1 (rm_w V.2.2.2)
    refine ⟨(im_j R1).1.1, 0, rfl, ?_⟩
    rw [show mx_scr (mx_setJ M1 98 0 _) = sc from r1.2.2]
    refine ⟨hi 1 (by decide) (by decide), q_catalogue (d := d + 52) (im_j R1).1.1 (im_j R1).2.2.2.2.2.2.1 (fun l' hl' ev' z0' _ M4 N4 => ?_) (fun l' hl' ev' z0' _ M4 L4 e0 e15' e17' e71' => ?_) (fun z => absurd ⟨l, by omega, ev⟩ z)⟩
    · obtain rfl : l' = l := w_ij (by omega) (by omega) ev' ev
      exact absurd z0' z0
    · obtain rfl : l' = l := w_ij (by omega) (by omega) ev' ev
      have C2 := ic_far (P := fun k j => k = 98 ∧ j = 0) (M1 := mx_setJ M1 98 0 ((w (prX (Y.2, l')).1).toInt64)) (lip_setJ ⟨rfl, rfl⟩) (fun k j z => by omega) C1
      have C4 := ic_far L4 (f_M (fun k j z => (mWf_B k j z).1)) C2
      have R4 := im_bad L4 e15' e17' e71' (im_j R1)
      refine kR_of R4.1.1 e0 (fun _ => ?_) (k M4 (iv_I ⟨C4, R4, V.2.2.1, rm_lip L4 (rm_lip (P := fun k j => k = 98 ∧ j = 0) (lip_setJ ⟨rfl, rfl⟩) r1)⟩))
      rw [(L4.2 98 0 (fun z => (mWf_B _ _ z).2.1 rfl)).2]; exact J_eq
  · have V1 := iv_th V
    refine ⟨iv_T V1, 1, rfl, ?_⟩
    rw [show mx_scr (mx_thM M) = sc from V1.2.2.2.2.2]
    exact ⟨hi 1 (by decide) (by decide), q_catalogue (d := d + 52) V1.2.1.1.1 V1.2.1.2.2.2.2.2.2.1 (fun l' hl' ev' _ _ _ _ => absurd ⟨l', by omega, ev'⟩ z) (fun l' hl' ev' _ _ _ _ _ _ _ _ => absurd ⟨l', by omega, ev'⟩ z) (fun _ => fin_t (by decide) k V1)⟩
