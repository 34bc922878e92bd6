/-! the class reads tests, nots, expressions -/
theorem c_test2 {d u a : Nat} {X : TX} {F : Nat → RS} (G : gd X F) (S : spC X u (fun M Q => mx_W m_X4_takeSum (d + 2) 0 [.ref 2, .int (w a), .retAddr 0, .retAddr 0] [] M Q) F) {M0 : mx_M} {M : mx_M} {q s c : Nat} {Q : QQ} {L : List SP} {v : Int32} (T : mx_Tp M) (hu0 : mx_R M 2 2 = u) (L0 : lip (cE s) M0 M) (A : tkC M X q) (h64 : mx_I M 6 4 = w (s + L.length)) (hs : s + L.length ≤ q) (C : stL M L s) (hc : 3 ≤ c) (ql : q < X.2) (hv : v = -(w (c + 2))) (hQ : pst X M0 s (if (F (nx X q)).1 = 0 then (0, (F (nx X q)).2.1, L ++ (F (nx X q)).2.2 ++ [(2, c)]) else F (nx X q)) Q) :
    mx_W m_X8_step (d + 2) 0 [.ref 3, .retAddr 0] [] M (fun o M5 => mx_sh M5 = mx_sh M ∧ mx_R M5 = mx_R M ∧ (o = .inl none ∧ (mx_W m_X4_takeSum (d + 2) 0 [.ref 2, .int (w a), .retAddr 0, .retAddr 0] [] M5 (fun o M6 => mx_sh M6 = mx_sh M5 ∧ mx_R M6 = mx_R M5 ∧ (∃ x7 : Bool, o = .inl (some (.int (mx_b x7))) ∧ ((x7 = true → mx_W m_X7_addStep (d + 2) 0 [.ref 6, .int v] [] M6 (fun o M8 => mx_sh M8 = mx_sh M6 ∧ mx_R M8 = mx_R M6 ∧ (o = .inl none ∧ Q (.inl (some (.int (mx_b true)))) M8))) ∧ (x7 = false → Q (.inl (some (.int (mx_b false)))) M6))))))) := by
  have n := nx_lt ql
  have b7 := tkC_700 A
  refine p_step T A (fun M1 L1 A1 => ⟨L1.1.1, L1.1.2.1, rfl, S M1 (nx X q) (s + L.length) _ (lip_T L1 T) (by rw [L1.1.2.1]; exact hu0) A1 (by rw [(L1.2 6 4 (by decide)).1]; exact h64) (by omega) ⟨fun z M2 L2 A2 k64 C2 => ⟨L2.1.1, L2.1.2.1, true, rfl, fun _ => ?_, fun y => by cases y⟩, fun z M2 L2 k3 k4 => ⟨L2.1.1, L2.1.2.1, false, rfl, (fun y => by cases y), fun _ => ?_⟩⟩⟩)
  · rw [if_pos z] at hQ
    have g := G _ n.2 z
    refine p_addStep (s := s + L.length + (F (nx X q)).2.2.length) (lip_T L2 (lip_T L1 T)) k64 (by omega) (fun M3 L3 _ k3 v3 n3 => ⟨L3.1.1, L3.1.2.1, rfl, ?_⟩)
    have CC : stL M2 L s := stL_E (s := s + L.length) (Nat.le_refl _) (lip_trans (cX_E L1) L2) C
    have C3 : stL M3 (L ++ (F (nx X q)).2.2 ++ [(2, c)]) s := by
      refine stL_app _ _ _ (stL_app _ _ _ (stL_E (s := s + L.length + (F (nx X q)).2.2.length) (by omega) L3 CC) (stL_E (Nat.le_refl _) L3 C2)) ⟨?_, trivial⟩
      rw [List.length_append, ← Nat.add_assoc, v3, hv]; rfl
    have ll : (L ++ (F (nx X q)).2.2 ++ [(2, c)]).length = L.length + (F (nx X q)).2.2.length + 1 := by simp only [List.length_append, List.length_singleton]
    refine hQ.1 rfl M3 (lip_trans L0 (lip_trans (cX_E L1) (lip_trans (cE_le (by omega) L2) (cE_le (by omega) L3)))) (k3 X _ A2) ?_ C3
    show mx_I M3 6 4 = w (s + (L ++ (F (nx X q)).2.2 ++ [(2, c)]).length)
    rw [ll, n3]; congr 1; omega
  · rw [if_neg z] at hQ
    exact hQ.2 z M2 (cE_tf (by omega) (lip_trans L0 (cX_E L1)) L2) k3 k4
theorem c_test {d u a : Nat} {X : TX} {F : Nat → RS} (hu : mx_Cat u) (G : gd X F) (S : spC X u (fun M Q => mx_W m_X4_takeSum (d + 2) 0 [.ref 2, .int (w a), .retAddr 0, .retAddr 0] [] M Q) F) : spC X u (fun M Q => mx_W m_X4_takeTest (d + 3) 0 [.ref 2, .int (w a), .retAddr 0] [] M Q) (testF X F) := by
  intro M q s Q T hu0 A h64 hs hQ
  have b7 := tkC_700 A
  unfold testF at hQ
  refine x_X4_takeTest_0 (d := d + 2) T u hu hu0 _ (S M q s _ T hu0 A h64 hs ⟨fun z M1 L1 A1 k64 C1 => ⟨L1.1.1, L1.1.2.1, true, rfl, fun _ => ?_, fun y => by cases y⟩, fun z M1 L1 k3 k4 => ⟨L1.1.1, L1.1.2.1, false, rfl, (fun y => by cases y), fun _ => ?_⟩⟩)
  · rw [if_pos z] at hQ
    have g := G q b7.1 z
    have T1 := lip_T L1 T
    have hu1 : mx_R M1 2 2 = u := by rw [L1.1.2.1]; exact hu0
    refine p_isSign (c := 60) T1 A1 (by decide) ⟨rfl, rfl, _, rfl, fun y => ?_, fun y => p_isSign (c := 61) T1 A1 (by decide) ⟨rfl, rfl, _, rfl, fun x => ?_, fun x => ?_⟩⟩
    · have e : opT X (F q).2.1 = 6 := if_pos y
      rw [e, if_neg (by decide)] at hQ
      refine mx_mono (c_test2 (v := -8) G S T1 hu1 L1 A1 k64 (by omega) C1 (c := 6) (by decide) (sg_lt y) rfl hQ) ?_
      intro o M5 ho
      refine ⟨ho.1, ho.2.1, ho.2.2.1, mx_mono ho.2.2.2 ?_⟩
      intro o M6 ⟨k1, k2, x7, k3, k4, k5⟩
      exact ⟨k1, k2, x7, k3, fun x => ⟨fun v => absurd (y.symm.trans v) (by decide), fun _ => k4 x⟩, k5⟩
    · have ny : ¬ sg X (F q).2.1 60 = true := by unfold sg; rw [y]; decide
      have e : opT X (F q).2.1 = 7 := by unfold opT; rw [if_neg ny, if_pos (show sg X (F q).2.1 61 = true from x)]
      rw [e, if_neg (by decide)] at hQ
      refine mx_mono (c_test2 (v := -9) G S T1 hu1 L1 A1 k64 (by omega) C1 (c := 7) (by decide) (sg_lt x) rfl hQ) ?_
      intro o M5 ho
      refine ⟨ho.1, ho.2.1, ho.2.2.1, mx_mono ho.2.2.2 ?_⟩
      intro o M6 ⟨k1, k2, x7, k3, k4, k5⟩
      exact ⟨k1, k2, x7, k3, fun x => ⟨fun _ => k4 x, fun v => absurd (y.symm.trans v) (by decide)⟩, k5⟩
    · have ny : ¬ sg X (F q).2.1 60 = true := by unfold sg; rw [y]; decide
      have nx : ¬ sg X (F q).2.1 61 = true := by unfold sg; rw [x]; decide
      have e : opT X (F q).2.1 = 0 := by unfold opT; rw [if_neg ny, if_neg nx]
      rw [if_pos e] at hQ
      exact hQ.1 z M1 L1 A1 k64 C1
  · rw [if_neg z] at hQ
    exact hQ.2 z M1 L1 k3 k4
theorem c_rep {d u s : Nat} {X : TX} {L : List SP} {q m : Nat} (hu : mx_Cat u) {M0 : mx_M} {Q : QQ} (hm : m < 1000) (hs : s + L.length + m ≤ 700) (hq : ∀ M1, lip (cE s) M0 M1 → tkC M1 X q → mx_I M1 6 4 = w (s + (L ++ List.replicate m (2, 3)).length) → stL M1 (L ++ List.replicate m (2, 3)) s → Q (.inl (some (.int (mx_b true)))) M1) :
    ∀ (f i : Nat) (M : mx_M), i + f = m → mx_Tp M → mx_R M 2 2 = u → lip (cE s) M0 M → tkC M X q → mx_I M 6 4 = w (s + L.length + i) → stL M (L ++ List.replicate i (2, 3)) s → mx_W m_X4_takeNot (d + 1) 74 [.ref 2, .retAddr 0, .int (w m), .int (w i)] [] M Q
  | 0, i, M, hi, T, hu0, L0, A, h64, C => by
    refine x_X4_takeNot_74 T u hu hu0 _ _ ?_
    rw [w_le (by omega) (by omega)]
    refine ⟨fun _ => hq M L0 A ?_ ?_, fun z => absurd z (by omega)⟩
    · rw [h64, List.length_append, List.length_replicate]; congr 1; omega
    · rw [show m = i by omega]; exact C
  | f + 1, i, M, hi, T, hu0, L0, A, h64, C => by
    refine x_X4_takeNot_74 T u hu hu0 _ _ ?_
    rw [w_le (by omega) (by omega), w_add1]
    refine ⟨fun z => absurd z (by omega), fun _ => p_addStep T h64 (by omega) (fun M1 L1 _ K1 v1 n1 => ⟨L1.1.1, L1.1.2.1, rfl, ?_⟩)⟩
    refine c_rep hu hm hs hq f (i + 1) M1 (by omega) (lip_T L1 T) (by rw [L1.1.2.1]; exact hu0) (lip_trans L0 (cE_le (by omega) L1)) (K1 X q A) n1 ?_
    rw [List.replicate_succ', ← List.append_assoc]
    refine stL_app _ _ _ (stL_E (s := s + L.length + i) (by rw [List.length_append, List.length_replicate]; omega) L1 C) ⟨?_, trivial⟩
    rw [List.length_append, List.length_replicate, ← Nat.add_assoc, v1]; rfl
theorem c_not_t {d u a : Nat} {X : TX} {F : Nat → RS} (hu : mx_Cat u) (G : gd X F) (S : spC X u (fun M Q => mx_W m_X4_takeTest (d + 5) 0 [.ref 2, .int (w a), .retAddr 0] [] M Q) F) {M0 M : mx_M} {q s m : Nat} {Q : QQ} (T : mx_Tp M) (hu0 : mx_R M 2 2 = u) (L0 : lip (cE s) M0 M) (A : tkC M X q) (h64 : mx_I M 6 4 = w s) (hs : s + m ≤ q) (hm : m ≤ 6) (hQ : pst X M0 s (if (F q).1 = 0 then (0, (F q).2.1, (F q).2.2 ++ List.replicate m (2, 3)) else F q) Q) :
    mx_W m_X4_takeTest (d + 5) 0 [.ref 2, .int (w a), .retAddr 0] [] M (fun o M1 => mx_sh M1 = mx_sh M ∧ mx_R M1 = mx_R M ∧ (∃ x2 : Bool, o = .inl (some (.int (mx_b x2))) ∧ ((x2 = true → mx_W m_X4_takeNot (d + 6) 74 [.ref 2, .retAddr 0, .int (w m), .int 0] [] M1 Q) ∧ (x2 = false → Q (.inl (some (.int (mx_b false)))) M1)))) := by
  have b7 := tkC_700 A
  refine S M q s _ T hu0 A h64 (by omega) ⟨fun z M1 L1 A1 k64 C1 => ⟨L1.1.1, L1.1.2.1, true, rfl, fun _ => ?_, fun y => by cases y⟩, fun z M1 L1 k3 k4 => ⟨L1.1.1, L1.1.2.1, false, rfl, (fun y => by cases y), fun _ => ?_⟩⟩
  · rw [if_pos z] at hQ
    have g := G q b7.1 z
    exact c_rep (X := X) (L := (F q).2.2) hu (by omega) (by omega) (fun M2 L2 A2 e2 C2 => hQ.1 rfl M2 L2 A2 e2 C2) m 0 M1 (by omega) (lip_T L1 T) (by rw [L1.1.2.1]; exact hu0) (lip_trans L0 L1) A1 k64 (by rw [List.replicate_zero, List.append_nil]; exact C1)
  · rw [if_neg z] at hQ
    exact hQ.2 z M1 (cE_tf (Nat.le_refl _) L0 L1) k3 k4
theorem c_not_l {d u a : Nat} {X : TX} {F : Nat → RS} (hu : mx_Cat u) (G : gd X F) (S : spC X u (fun M Q => mx_W m_X4_takeTest (d + 5) 0 [.ref 2, .int (w a), .retAddr 0] [] M Q) F) (q0 : Nat) {M0 : mx_M} {s : Nat} {Q : QQ} (hQ : pst X M0 s (notF X F q0) Q) :
    ∀ (f m q : Nat) (M : mx_M), m + f = 6 → mx_Tp M → mx_R M 2 2 = u → lip (cE s) M0 M → tkC M X q → mx_I M 6 4 = w s → s + m ≤ q → (ntF X 6 q0).1 = m + (ntF X f q).1 → (ntF X 6 q0).2 = (ntF X f q).2 → mx_W m_X4_takeNot (d + 6) 4 [.ref 2, .int (w a), .int (w m), .int (w m)] [] M Q
  | 0, m, q, M, hm, T, hu0, L0, A, h64, hs, e1, e2 => by
    have e1 : (ntF X 6 q0).1 = 6 := by rw [e1]; show m + 0 = 6; omega
    have e2 : (ntF X 6 q0).2 = q := e2
    have em : m = 6 := by omega
    unfold notF at hQ
    rw [e1, e2] at hQ
    refine x_X4_takeNot_4 (d := d + 5) T u hu hu0 _ _ _ ?_
    rw [show (6 : Int32) = w 6 from rfl, w_le (by omega) (by omega), w_inj (by omega) (by omega)]
    refine ⟨fun _ => ⟨fun z => absurd em z, fun _ => p_isWord (k := 14) T A (by decide) ⟨rfl, rfl, _, rfl, fun y => ?_, fun y => ?_⟩⟩, fun z => absurd z (by omega)⟩
    · rw [if_neg (fun z => of_decide_eq_false y z.2)] at hQ
      rw [em]
      exact c_not_t hu G S T hu0 L0 A h64 (by omega) (by decide) hQ
    · rw [if_pos ⟨rfl, of_decide_eq_true y⟩] at hQ
      exact p_refuseP (k := 2) (s := s) T hu hu0 A (fun M1 L1 k3 k4 => ⟨L1.1.1, L1.1.2.1, _, rfl, hQ.2 (show ¬ (2 : Nat) = 0 by decide) M1 (cE_tf (Nat.le_refl _) L0 L1) k3 k4⟩)
  | f + 1, m, q, M, hm, T, hu0, L0, A, h64, hs, e1, e2 => by
    refine x_X4_takeNot_4 (d := d + 5) T u hu hu0 _ _ _ ?_
    rw [show (6 : Int32) = w 6 from rfl, w_le (by omega) (by omega), w_inj (by omega) (by omega), w_add1]
    refine ⟨fun z => absurd z (by omega), fun _ => p_isWord (k := 14) T A (by decide) ⟨rfl, rfl, _, rfl, fun y => ⟨fun _ => ?_, fun z => absurd z (by omega)⟩, fun y => ?_⟩⟩
    · have y := of_decide_eq_false y
      have ez : ntF X (f + 1) q = (0, q) := if_neg y
      rw [ez] at e1 e2
      unfold notF at hQ
      rw [e1, e2] at hQ
      rw [if_neg (fun z => y z.2)] at hQ
      exact c_not_t hu G S T hu0 L0 A h64 (by omega) (by omega) hQ
    · have y := of_decide_eq_true y
      have ez : ntF X (f + 1) q = ((ntF X f (nx X q)).1 + 1, (ntF X f (nx X q)).2) := if_pos y
      rw [ez] at e1 e2
      have n := nx_lt (X := X) (q := q) (kw_lt (by omega))
      have e1 : (ntF X 6 q0).1 = m + ((ntF X f (nx X q)).1 + 1) := e1
      exact p_step T A (fun M1 L1 A1 => ⟨L1.1.1, L1.1.2.1, rfl, c_not_l hu G S q0 hQ f (m + 1) (nx X q) M1 (by omega) (lip_T L1 T) (by rw [L1.1.2.1]; exact hu0) (lip_trans L0 (cX_E L1)) A1 (by rw [(L1.2 6 4 (by decide)).1]; exact h64) (by omega) (by omega) e2⟩)
theorem c_not {d u a : Nat} {X : TX} {F : Nat → RS} (hu : mx_Cat u) (G : gd X F) (S : spC X u (fun M Q => mx_W m_X4_takeTest (d + 5) 0 [.ref 2, .int (w a), .retAddr 0] [] M Q) F) : spC X u (fun M Q => mx_W m_X4_takeNot (d + 6) 0 [.ref 2, .int (w a), .retAddr 0, .retAddr 0] [] M Q) (notF X F) := by
  intro M q s Q T hu0 A h64 hs hQ
  exact x_X4_takeNot_0 (d := d + 5) T u hu hu0 _ (c_not_l hu G S q hQ 6 0 q M rfl T hu0 (lip_refl _ _) A h64 (by omega) (by omega) rfl)
theorem c_expr {u : Nat} {X : TX} (hu : mx_Cat u) : ∀ (k a d : Nat), a + k = 6 → spC X u (fun M Q => mx_W m_X4_takeExpression (d + 7 * k + 6) 0 [.ref 2, .int (w a), .retAddr 0] [] M Q) (exprF X k)
  | 0, a, d, ha => by
    intro M q s Q T hu0 A h64 hs hQ
    have hkd := tkM_kd (X := X) (q := q)
    have hQ : pst X M s (if knd X q = 2 ∨ knd X q = 1 ∨ sg X q 40 = true then 2 else 1, q, []) Q := hQ
    have bad : ∀ kk, (if knd X q = 2 ∨ knd X q = 1 ∨ sg X q 40 = true then 2 else 1) = kk → 1 ≤ kk → ∀ (M5 : mx_M), mx_sh M5 = mx_sh M → M5 = M → mx_W m_X4_refuse (d + 4) 0 [.ref 2, .int (w kk)] [] M (fun o M1 => mx_sh M1 = mx_sh M5 ∧ mx_R M1 = mx_R M5 ∧ (∃ x2 : Bool, o = .inl (some (.int (mx_b x2))) ∧ (mx_sh M1 = mx_sh M ∧ mx_R M1 = mx_R M ∧ ∃ x3 : Bool, .inl (some (.int (mx_b x2))) = (.inl (some (.int (mx_b x3))) : mx_O) ∧ Q (.inl (some (.int (mx_b x3)))) M1))) := by
      intro kk e h1 M5 _ e5
      rw [e] at hQ
      exact p_refuseP (k := kk) (s := s) T hu hu0 A (fun M1 L1 k3 k4 => ⟨by rw [e5]; exact L1.1.1, by rw [e5]; exact L1.1.2.1, _, rfl, L1.1.1, L1.1.2.1, _, rfl, hQ.2 (show ¬ kk = 0 by omega) M1 L1 k3 k4⟩)
    refine x_X4_takeExpression_0 (d := d + 5) T u hu hu0 _ ⟨fun z => ?_, fun _ => ?_⟩
    · rw [show (5 : Int32) = w 5 from rfl, w_le (by omega) (by omega)] at z; omega
    · refine x_X4_refuseTooDeep_0 (d := d + 4) T u hu hu0 ?_
      rw [A.1.2.2.2, show (2 : Int32) = w 2 from rfl, show (1 : Int32) = w 1 from rfl, w_inj (by omega) (by omega), w_inj (by omega) (by omega)]
      refine ⟨fun z => bad 2 (if_pos (Or.inl z)) (by decide) M rfl rfl, fun z => ⟨fun y => bad 2 (if_pos (Or.inr (Or.inl y))) (by decide) M rfl rfl, fun y => p_isSign (c := 40) T A (by decide) ⟨rfl, rfl, _, rfl, fun x => bad 1 (if_neg ?_) (by decide) M rfl rfl, fun x => bad 2 (if_pos (Or.inr (Or.inr x))) (by decide) M rfl rfl⟩⟩⟩
      intro v
      rcases v with v | v | v
      · exact z v
      · exact y v
      · exact absurd (x.symm.trans v) (by decide)
  | k + 1, a, d, ha => by
    have S0 := c_expr (X := X) hu k (a + 1) d (by omega)
    have g0 := gd_part (gd_expr X k)
    have g1 := gd_ch g0 (gdo_P X)
    have g2 := gd_ch g1 (gdo_S X)
    have g3 := gd_not (gd_test g2)
    have g4 := gd_ch g3 (gdo_A X)
    have S1 : spC X u (fun M Q => mx_W m_X4_takePart (d + 7 * k + 7) 0 [.ref 2, .int (w a), .retAddr 0] [] M Q) _ := c_part (d := d + 7 * k) hu (gd_expr X k) S0
    have S2 : spC X u (fun M Q => mx_W m_X4_takeProduct (d + 7 * k + 8) 0 [.ref 2, .int (w a), .retAddr 0, .retAddr 0] [] M Q) _ := c_ch (d := d + 7 * k + 5) (Wl := fun v M Q => mx_W m_X4_takeProduct (d + 7 * k + 8) 12 [.ref 2, .int (w a), .int v, .retAddr 0] [] M Q) g0 (gdo_P X) S1 (r_takeProduct (d := d + 7 * k + 5) hu) (fun M Q T hu0 h => x_X4_takeProduct_0 (d := d + 7 * k + 7) T u hu hu0 _ h)
    have S3 : spC X u (fun M Q => mx_W m_X4_takeSum (d + 7 * k + 9) 0 [.ref 2, .int (w a), .retAddr 0, .retAddr 0] [] M Q) _ := c_ch (d := d + 7 * k + 6) (Wl := fun v M Q => mx_W m_X4_takeSum (d + 7 * k + 9) 12 [.ref 2, .int (w a), .int v, .retAddr 0] [] M Q) g1 (gdo_S X) S2 (r_takeSum (d := d + 7 * k + 6) hu) (fun M Q T hu0 h => x_X4_takeSum_0 (d := d + 7 * k + 8) T u hu hu0 _ h)
    have S4 : spC X u (fun M Q => mx_W m_X4_takeTest (d + 7 * k + 10) 0 [.ref 2, .int (w a), .retAddr 0] [] M Q) _ := c_test (d := d + 7 * k + 7) hu g2 S3
    have S5 : spC X u (fun M Q => mx_W m_X4_takeNot (d + 7 * k + 11) 0 [.ref 2, .int (w a), .retAddr 0, .retAddr 0] [] M Q) _ := c_not (d := d + 7 * k + 5) hu (gd_test g2) S4
    have S6 : spC X u (fun M Q => mx_W m_X4_takeAnd (d + 7 * k + 12) 0 [.ref 2, .int (w a), .retAddr 0] [] M Q) _ := c_ch (d := d + 7 * k + 9) (Wl := fun v M Q => mx_W m_X4_takeAnd (d + 7 * k + 12) 12 [.ref 2, .int (w a), .int v] [] M Q) g3 (gdo_A X) S5 (r_takeAnd (d := d + 7 * k + 6) hu) (fun M Q T hu0 h => x_X4_takeAnd_0 (d := d + 7 * k + 11) T u hu hu0 _ h)
    exact c_ch (d := d + 7 * k + 10) (Wl := fun v M Q => mx_W m_X4_takeExpression (d + 7 * k + 13) 22 [.ref 2, .int (w a), .int v] [] M Q) g4 (gdo_O X) S6 (r_takeExpression (d := d + 7 * k + 7) hu) (fun M Q T hu0 h => x_X4_takeExpression_0 (d := d + 7 * k + 12) T u hu hu0 _ ⟨fun _ => h, fun z => absurd ((w_le (a := a) (b := 5) (by omega) (by omega)).mpr (by omega)) z⟩)
