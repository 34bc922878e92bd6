/-! the law -/
theorem lt6 {L i : Nat} (hL : L ≤ 384) (hi : i ≤ 1000) : (Int32.ofNat L - 6 < w i) ↔ L < i + 6 := by
  rcases Nat.lt_or_ge L 6 with h | h
  · refine ⟨fun _ => by omega, fun _ => ?_⟩
    have key : ∀ L : Fin 6, (Int32.ofNat L.val - 6).toInt < 0 := by decide
    have k := key ⟨L, h⟩
    rw [Int32.lt_iff_toInt_lt, w_int (by omega)]
    have k2 : (Int32.ofNat L - 6).toInt < 0 := k
    omega
  · have e : Int32.ofNat L - 6 = w (L - 6) := w_sub (a := L) (b := 6) h
    rw [e, w_lt (by omega) (by omega)]
    omega
theorem inv_w {M : mx_M} {sc : Nat × (Nat → Int32)} {r : Nat} (H : INV M sc (r + 1)) : INV M sc r := by
  obtain ⟨t, u, X, c, n, f, A, I, S, Y, Z, V⟩ := H
  exact iv_I (iv_w V)
theorem inv_T {M : mx_M} {sc : Nat × (Nat → Int32)} {r : Nat} (H : INV M sc r) : mx_Tp M ∧ mx_scr M = sc := by
  obtain ⟨t, u, X, c, n, f, A, I, S, Y, Z, V⟩ := H
  exact ⟨iv_T V, V.2.2.2.2.2⟩
theorem law_loop {d : Nat} {sc : Nat × (Nat → Int32)} {Q : QQ} (hL : sc.1 ≤ 384) (hQ : ∀ M, Q (.inl (some (.int (mx_b true)))) M) : ∀ (r i : Nat) (M : mx_M), i ≤ 390 → sc.1 < i + 6 * r + 6 → INV M sc r → mx_W m_L_law (d + 60 + 1) 23 [.retAddr 1, .ref 1, .ref 58, .ref 98, .int (w i), .retAddr 0, .retAddr 0] [] M Q
  | 0, i, M, h1, h2, H => by
    have t := inv_T H
    refine x_L_law_23 t.1 _ ?_
    rw [t.2, lt6 hL (by omega)]
    exact ⟨fun _ => hQ M, fun z => absurd (by omega) z⟩
  | r + 1, i, M, h1, h2, H => by
    have t := inv_T H
    refine x_L_law_23 t.1 _ ?_
    rw [t.2, lt6 hL (by omega)]
    refine ⟨fun _ => hQ M, fun z => ?_⟩
    have hj : ∀ j, 1 ≤ j → j ≤ 5 → vp_in (w i + w j) sc.1 := fun j a b => by rw [w_add]; exact w_in (by omega) (by omega)
    have k : ∀ M5, INV M5 sc r → LPW d (w i) Q M5 := fun M5 H5 => by
      have h := law_loop (d := d) hL hQ r (i + 6) M5 (by omega) (by omega) H5
      rw [← w_add i 6] at h
      exact x_L_law_2312 (inv_T H5).1 _ h
    exact ⟨w_in (by omega) (by omega), fun _ => la_feed H hj k, fun _ => la_catalogue H hj k, fun _ => la_fault H hj k, fun _ => la_count H hj k, fun _ => la_card H hj k, fun _ => la_clerk H hj k, fun _ => la_key H hj k, fun _ => la_before H hj k, fun _ => la_rank H hj k, fun _ => la_at H hj k, fun _ => la_drawer H hj k, fun _ => la_put H hj k, fun _ => la_take H hj k, fun _ => la_move H hj k, fun _ => la_file H hj k, fun _ => la_undo H hj k, fun _ => la_differ H hj k, fun _ => la_votes H hj k, fun _ => la_ring H hj k, fun _ => la_head H hj k, fun _ => la_stay H hj k, fun _ => la_stays H hj k, fun _ => la_search H hj k, fun _ => la_could H hj k, fun _ => la_explained H hj k, fun _ => la_telling H hj k, fun _ => la_matters H hj k, fun _ => la_sees H hj k, fun _ => la_reader H hj k, fun _ => la_game H hj k, fun _ => la_years H hj k, fun _ => la_compromise H hj k, fun _ => la_agreed H hj k, fun _ => la_closest H hj k, fun _ => la_off H hj k, fun _ => la_worst H hj k, fun _ => la_trays H hj k, fun _ => la_image H hj k, fun _ => la_restore H hj k, fun _ _ _ _ _ _ _ _ _ _ _ _ _ _ _ _ _ _ _ _ _ _ _ _ _ _ _ _ _ _ _ _ _ _ _ _ _ _ _ => k M (inv_w H)⟩
theorem tR_all : ∀ q ∈ mx_RL, Rn_194 q.1 q.2.1 = q.2.2 := by decide +kernel
theorem inv_00 {M : mx_M} {L : Nat} {xs : Nat → Int32} {Z : ZQ} (T : mx_Tp M) (rt : mx_R M 1 10 = 45) (ru : mx_R M 2 2 = 11) (hr : 64 ≤ (mx_rm M).1 ∧ 6 * 64 ≤ (mx_rm M).2 ∧ mx_scr M = (L, xs))
    (c1 : mx_I M 45 12 = w 0) (c2 : mx_I M 45 13 = w 0) (c3 : mx_I M 31 1 = w 0) (c4 : mx_I M 35 1 = w 0) (c5 : mx_I M 1 12 = mx_b false) (c6 : mx_I M 39 4 = 0) (c7 : mx_I M 1 11 = w 0) (c8 : mx_I M 4 1 = w 0) (c9 : cntC M Z)
    (m1 : mx_I M 58 1 = w 0) (m2 : mx_I M 58 2 = w 0) (m3 : mx_I M 90 0 = w 0) (m4 : mx_I M 58 53 = w 0) (m5 : mx_I M 58 60 = mx_b false) (m6 : mx_I M 58 56 = w 0 ∨ mx_I M 58 56 = -1) (m7 : mx_I M 58 15 = w 0) (m8 : cntM M Z) : INV M (L, xs) 64 := by
  have no : ∀ {P : Prop} {i : Nat}, i < 0 → P := fun h => absurd h (Nat.not_lt_zero _)
  have cdc : CDC M 45 (fun _ => 0, 0) cd0 := ⟨⟨c1, c2⟩, fun x hx => no hx, fun o ho => no ho, fun o ho => no ho, fun o x ho => no ho⟩
  have cdm : CDM M (fun _ => 0, 0) cd0 := ⟨⟨m1, m2⟩, fun x hx => no hx, fun o ho => no ho, fun o ho => no ho, fun o ho => no ho⟩
  refine ⟨45, 11, (fun _ => 0, 0), cd0, 0, f00, A00, I00, S00, S00, Z, ⟨⟨T, ⟨⟨Or.inr rfl, rt⟩, ⟨c1, c2⟩, ⟨Nat.zero_le _, Nat.zero_le _⟩, fun o ho => no ho⟩, ⟨c3, ⟨Nat.zero_le _, Nat.zero_le _⟩, fun i hi => no hi⟩, fun o ho => no ho⟩, ⟨Or.inl rfl, ru, by decide⟩, cdc, fun o x ho => no ho, ⟨c4, ⟨Nat.zero_le _, Nat.zero_le _⟩, fun i hi => no hi⟩, ⟨c5, fun y => by cases y⟩, Or.inl c6, ⟨c7, fun i hi => no hi⟩, ⟨c8, Nat.zero_le _, fun i hi => no hi⟩, c9⟩, ⟨⟨T, m3, ⟨Nat.zero_le _, Nat.zero_le _⟩, fun i hi => no hi⟩, cdm, fun o x ho => no ho, ⟨m4, ⟨Nat.zero_le _, Nat.zero_le _⟩, fun i hi => no hi⟩, ⟨m5, fun y => by cases y⟩, ⟨?_, fun i hi => no hi⟩, ⟨m7, Nat.zero_le _, fun i hi => no hi⟩, m8⟩, ⟨gdC_0 _, fun i j hi => no hi, fun i hi => no hi, fun y => (by cases y), Nat.zero_le _⟩, hr⟩
  rcases m6 with m6 | m6
  · exact Or.inl m6
  · exact Or.inr ⟨rfl, m6⟩
theorem inv_01 {I : Nat → Nat → Int32} {J : Nat → Nat → Int64} {R : Nat → Nat → Nat} {a b L : Nat} {xs : Nat → Int32} (tr : ∀ q ∈ mx_RL, R q.1 q.2.1 = q.2.2) (rt : R 1 10 = 45 ∧ R 2 2 = 11) (hr : 64 ≤ a ∧ 6 * 64 ≤ b)
    (c : I 45 12 = w 0 ∧ I 45 13 = w 0 ∧ I 31 1 = w 0 ∧ I 35 1 = w 0 ∧ I 1 12 = mx_b false ∧ I 39 4 = 0 ∧ I 1 11 = w 0 ∧ I 4 1 = w 0)
    (m : I 58 1 = w 0 ∧ I 58 2 = w 0 ∧ I 90 0 = w 0 ∧ I 58 53 = w 0 ∧ I 58 60 = mx_b false ∧ (I 58 56 = w 0 ∨ I 58 56 = -1) ∧ I 58 15 = w 0) (z : I 58 17 = I 1 14 ∧ I 71 0 = I 1 15 ∧ I 71 1 = I 1 16) : INV (nmT 98 I J R a b (L, xs)) (L, xs) 64 := by
  obtain ⟨c1, c2, c3, c4, c5, c6, c7, c8⟩ := c
  obtain ⟨m1, m2, m3, m4, m5, m6, m7⟩ := m
  exact inv_00 (Z := (I 1 14, I 1 15, I 1 16)) ⟨rfl, tr⟩ rt.1 rt.2 ⟨hr.1, hr.2, rfl⟩ c1 c2 c3 c4 c5 c6 c7 c8 ⟨rfl, rfl, rfl⟩ m1 m2 m3 m4 m5 m6 m7 z
theorem i0_C : In_129 45 12 = w 0 ∧ In_129 45 13 = w 0 ∧ In_129 31 1 = w 0 ∧ In_129 35 1 = w 0 ∧ In_129 1 12 = mx_b false ∧ In_129 39 4 = 0 ∧ In_129 1 11 = w 0 ∧ In_129 4 1 = w 0 := by decide +kernel
theorem i0_M : In_129 58 1 = w 0 ∧ In_129 58 2 = w 0 ∧ In_129 90 0 = w 0 ∧ In_129 58 53 = w 0 ∧ In_129 58 60 = mx_b false ∧ (In_129 58 56 = w 0 ∨ In_129 58 56 = -1) ∧ In_129 58 15 = w 0 := by decide +kernel
theorem i0_Z : In_129 58 17 = In_129 1 14 ∧ In_129 71 0 = In_129 1 15 ∧ In_129 71 1 = In_129 1 16 := by decide +kernel
theorem r0_C : Rn_194 1 10 = 45 ∧ Rn_194 2 2 = 11 := by decide +kernel
theorem inv_0 (L : Nat) (xs : Nat → Int32) : INV (NmE L xs) (L, xs) 64 := inv_01 tR_all r0_C ⟨by decide, by decide⟩ i0_C i0_M i0_Z
theorem the_law : mx_Law := fun L xs hL => in_law L xs (law_loop (d := 939) (sc := (L, xs)) hL (fun _ => rfl) 64 0 (NmE L xs) (by decide) (by show L < 0 + 6 * 64 + 6; omega) (inv_0 L xs))
