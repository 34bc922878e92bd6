/-! the reference reads parts and expressions -/
theorem m_part_t {X : TX} {M0 : mx_M} {a0 D dp k : Nat} {Q : QQ} (T0 : mx_Tp M0) (hd1 : 1 ≤ dp) (hdk : dp + k = 6) (S0 : dp < 6 → SIM X M0 a0 D Q false 1 (dp + 1) (exprF X k)) {q : Nat} {S : List Nat} {te : Nat → Bool} {L : List SP} {M : mx_M} {v : Int32} (E : EX X M0 a0 M q q S dp te L)
   (hq1 : (partF X (exprF X k) q).1 = 0 → ∀ (M1 : mx_M) (P : List Nat) (te1 : Nat → Bool) (L1 : List SP), EX X M0 a0 M1 (partF X (exprF X k) q).2.1 (partF X (exprF X k) q).2.1 (P ++ S) dp te1 L1 → L1 ++ mpP P = L ++ (partF X (exprF X k) q).2.2 → ppL P 7 → (∀ j, j < dp → te1 j = te j) → (5 ≤ 7 → te1 dp = te dp) → stp X 7 te1 dp (partF X (exprF X k) q).2.1 → RB D Q M1)
   (hq2 : ¬ (partF X (exprF X k) q).1 = 0 → ∀ M1, FLT X M0 a0 M1 (partF X (exprF X k) q).1 (partF X (exprF X k) q).2.1 → RF D Q M1) :
    mx_W m_X11_isGood (D + 3) 0 [.ref 58] [] M (fun o M10 => mx_sh M10 = mx_sh M ∧ mx_R M10 = mx_R M ∧ (∃ x11 : Bool, o = .inl (some (.int (mx_b x11))) ∧ ((x11 = false → mx_W m_X11_operand (D + 4) 4 [.ref 58, .retAddr 0, .int v, .int 0, .retAddr 0] [] M10 (Qop M0 D Q)) ∧ (x11 = true → (mx_W m_X11_isSign (D + 3) 0 [.ref 58, .int 40] [] M10 (fun o M12 => mx_sh M12 = mx_sh M10 ∧ mx_R M12 = mx_R M10 ∧ (∃ x13 : Bool, o = .inl (some (.int (mx_b x13))) ∧ ((x13 = false → mx_W m_X11_operand (D + 4) 4 [.ref 58, .retAddr 0, .int v, .int 0, .retAddr 0] [] M12 (Qop M0 D Q)) ∧ (x13 = true → (mx_W m_X11_waitsFor (D + 3) 0 [.ref 58, .int 14] [] M12 (fun o M14 => mx_sh M14 = mx_sh M12 ∧ mx_R M14 = mx_R M12 ∧ (o = .inl none ∧ (mx_W m_X11_goes (D + 3) 0 [.ref 58, .retAddr 0] [] M14 (fun o M15 => mx_sh M15 = mx_sh M14 ∧ mx_R M15 = mx_R M14 ∧ (o = .inl none ∧ (mx_W m_X11_deeper (D + 3) 0 [.ref 58] [] M15 (fun o M16 => mx_sh M16 = mx_sh M15 ∧ mx_R M16 = mx_R M15 ∧ (o = .inl none ∧ mx_W m_X11_operand (D + 4) 4 [.ref 58, .retAddr 0, .int 1, .int 1, .retAddr 0] [] M16 (Qop M0 D Q))))))))))))))))))) := by
  have b7 := ex_700 E
  refine q_isGood E.1.1 E.1.2.2.2 ⟨rfl, rfl, _, rfl, (fun y => by cases y), fun _ => q_isSign (c := 40) E.1.1 E.1.2.2.1 (by decide) ⟨rfl, rfl, _, rfl, fun y => ?_, fun y => ?_⟩⟩
  · refine x_X11_operand_4 (d := D + 3) E.1.1 _ _ ⟨fun _ => ex_part (E := exprF X k) E y ⟨fun z M1 E1 => ⟨(ex_sh E E1).1, (ex_sh E E1).2, rfl, E1.1.2.1.1.1, E1.1.2.1.1.2.1, rfl, ?_⟩, fun z M1 F1 => ⟨F1.1.2.1.1.1.trans E.1.2.1.1.1.symm, F1.1.2.1.1.2.1.trans E.1.2.1.1.2.1.symm, rfl, flt_Qop F1 (hq2 z M1 F1)⟩⟩, fun z => absurd rfl z⟩
    exact hq1 z M1 [] te _ E1 (by unfold mpP; rw [List.map_nil, List.append_nil]) (fun x hx => by cases hx) (fun _ _ => rfl) (fun _ => rfl) ⟨fun h => absurd h (by decide), fun h => absurd h (by decide), fun h => absurd h (by decide), fun h => absurd h (by decide), fun h => absurd h (by decide)⟩
  · have ys : sg X q 40 = true := y
    have n := nx_lt (sg_lt ys)
    unfold partF at hq1 hq2
    rw [if_pos ys] at hq1 hq2
    refine ex_waits (c := 14) E (by omega) (by decide) (fun M1 E1 => ⟨(ex_sh E E1).1, (ex_sh E E1).2, rfl, ex_goes E1 (fun M2 E2 => ⟨(ex_sh E1 E2).1, (ex_sh E1 E2).2, rfl, ?_⟩)⟩)
    have E2 := ex_b (b1 := nx X q) (by omega) E2
    refine ex_deeper E2 (by omega) (fun h6 M3 E3 => ⟨(ex_sh E2 E3).1, (ex_sh E2 E3).2, rfl, ?_⟩) (fun h6 M3 F3 => ⟨F3.1.2.1.1.1.trans E2.1.2.1.1.1.symm, F3.1.2.1.1.2.1.trans E2.1.2.1.1.2.1.symm, rfl, ?_⟩)
    · refine x_X11_operand_4 (d := D + 3) E3.1.1 _ _ ⟨fun z => absurd z (by decide), fun _ => q_isGood E3.1.1 E3.1.2.2.2 ⟨rfl, rfl, _, rfl, (fun y => by cases y), fun _ => ?_⟩⟩
      refine S0 h6 (nx X q) (14 :: S) _ L M3 1 0 E3 (fun x S1 ex => Or.inl ?_) (fun _ => if_pos rfl) (fun h => by cases h) (fun _ => ⟨rfl, rfl⟩) (fun z M4 P te1 L1 E4 eL hP k1 k2 hs => ?_) (fun z M4 F4 => ?_)
      · have ex : 14 = x := (List.cons.inj ex).1
        omega
      · rw [if_pos z] at hq1 hq2
        have b9 := ex_700 E4
        have kk : ∀ j, j < dp + 1 → te1 j = te j := fun j hj => by rw [k1 j hj, if_neg (by omega)]
        cases s41 : sg X (exprF X k (nx X q)).2.1 41 with
        | true =>
          have m := nx_lt (sg_lt s41)
          rw [if_pos s41] at hq1
          have k15 := kw_sg s41
          refine rb_186 E4 (by omega) (by omega) (sg_ex s41 (by decide)) (sg_ex s41 (by decide)) ?_
          refine x_X11_expression_186 (d := D + 4) E4.1.1 _ (q_isSign (c := 43) E4.1.1 E4.1.2.2.1 (by decide) ⟨rfl, rfl, _, rfl, fun y => absurd ((sg_ex s41 (by decide)).symm.trans y) (by decide), fun _ => q_isSign (c := 45) E4.1.1 E4.1.2.2.1 (by decide) ⟨rfl, rfl, _, rfl, fun _ => q_isSign (c := 42) E4.1.1 E4.1.2.2.1 (by decide) ⟨rfl, rfl, _, rfl, fun y => absurd ((sg_ex s41 (by decide)).symm.trans y) (by decide), fun _ => q_isSign (c := 47) E4.1.1 E4.1.2.2.1 (by decide) ⟨rfl, rfl, _, rfl, fun _ => q_isSign (c := 41) E4.1.1 E4.1.2.2.1 (by decide) ⟨rfl, rfl, _, rfl, fun y => absurd (s41.symm.trans y) (by decide), fun _ => x_X11_isOpened_0 (d := D + 3) E4.1.1 ?_⟩, fun y => absurd ((sg_ex s41 (by decide)).symm.trans y) (by decide)⟩⟩, fun y => absurd ((sg_ex s41 (by decide)).symm.trans y) (by decide)⟩⟩)
          rw [E4.2.1.1]
          have E0 := E4
          obtain ⟨_, _, _, tp, _, _, hl, _⟩ := E0
          refine q_opened_l (d := D + 3) E4.1.1 _ E4.2.1.2 (by omega) ⟨rfl, rfl, _, rfl, fun z => ?_, fun _ => ex_closes E4 (by omega) (ppL_le (by decide) hP) (fun M5 E5 => ⟨(ex_sh E4 E5).1, (ex_sh E4 E5).2, rfl, x_X11_expression_322 (d := D + 4) E5.1.1 _ ?_⟩)⟩
          · rw [any_14] at z; exact absurd z (by decide)
          · refine hq1 rfl M5 [] te1 (L1 ++ mpP P) (ex_b (b1 := nx X (exprF X k (nx X q)).2.1) (by omega) E5) (by rw [eL]; exact List.append_nil _) (fun x hx => by cases hx) (fun j hj => kk j (by omega)) (fun _ => kk dp (by omega)) ⟨fun h => absurd h (by decide), fun h => absurd h (by decide), fun h => absurd h (by decide), fun h => absurd h (by decide), fun h => absurd h (by decide)⟩
        | false =>
          rw [if_neg (by rw [s41]; decide)] at hq2
          refine rb_end E4 (by omega) (by omega) hs (fun h => absurd (s41.symm.trans h) (by decide)) ?_
          have h31 := E4.2.2.1.1
          refine x_X11_expression_325 (d := D + 4) E4.1.1 (q_isGood E4.1.1 E4.1.2.2.2 ⟨rfl, rfl, _, rfl, (fun y => by cases y), fun _ => ⟨fun z => ?_, fun _ => ex_wrong (k := 1) E4 (by omega) (by decide) (by decide) (fun M5 F5 => ⟨F5.1.2.1.1.1.trans E4.1.2.1.1.1.symm, F5.1.2.1.1.2.1.trans E4.1.2.1.1.2.1.symm, rfl, hq2 (show ¬ (1 : Nat) = 0 by decide) M5 F5⟩)⟩⟩)
          rw [h31, show (1 : Int32) = w 1 from rfl, w_le (by omega) (by omega)] at z; omega
      · rw [if_neg z] at hq2
        exact hq2 z M4 F4
    · have hk : k = 0 := by omega
      subst hk
      have ne : ¬ (exprF X 0 (nx X q)).1 = 0 := by
        have := F3.1.2.2.2.1; omega
      rw [if_neg ne] at hq2
      exact flt_A F3 (flt_Qop F3 (hq2 ne M3 F3))
theorem m_part {X : TX} {M0 : mx_M} {a0 D dp k : Nat} {Q : QQ} (T0 : mx_Tp M0) (hd1 : 1 ≤ dp) (hdk : dp + k = 6) (S0 : dp < 6 → SIM X M0 a0 D Q false 1 (dp + 1) (exprF X k)) : SIM X M0 a0 D Q true 7 dp (partF X (exprF X k)) := by
  intro q S te L M v m E wS ht hl1 hl2 hq1 hq2
  have hv := hl1 rfl
  have k15 := kw_15 X q
  refine x_X11_operand_18 (d := D + 3) E.1.1 _ _ (q_isGood E.1.1 E.1.2.2.2 ⟨rfl, rfl, _, rfl, (fun y => by cases y), fun _ => ⟨fun _ => m_part_t T0 hd1 hdk S0 E hq1 hq2, fun z => q_known E.1.1 E.1.2.2.1 ⟨rfl, rfl, _, rfl, fun _ => m_part_t T0 hd1 hdk S0 E hq1 hq2, fun y => ?_⟩⟩⟩)
  rcases hv.2 with h | h
  · exact absurd h z
  · unfold fz at y
    split at y
    · rw [show (14 : Int32) = w 14 from rfl, w_inj (by omega) (by omega)] at y; exact absurd y h
    · exact absurd y (by decide)
theorem m_expr {X : TX} {M0 : mx_M} {a0 D : Nat} {Q : QQ} (T0 : mx_Tp M0) : ∀ (k dp : Nat), 1 ≤ dp → dp + k = 6 → SIM X M0 a0 D Q false 1 dp (exprF X (k + 1))
  | k, dp, h1, hk => by
    have S0 : dp < 6 → SIM X M0 a0 D Q false 1 (dp + 1) (exprF X k) := fun h => by
      cases k with
      | zero => omega
      | succ k => exact m_expr T0 k (dp + 1) (by omega) (by omega)
    have g0 := gd_part (gd_expr X k)
    have g1 := gd_ch g0 (gdo_P X)
    have g2 := gd_ch g1 (gdo_S X)
    have g3 := gd_not (gd_test g2)
    have g4 := gd_ch g3 (gdo_A X)
    have sP : ∀ q, ¬ opP X q = 0 → stg (opP X q) = 6 := fun q h => by
      unfold opP at h ⊢
      by_cases a : sg X q 42 = true
      · rw [if_pos a]; rfl
      · by_cases b : sg X q 47 = true
        · rw [if_neg a, if_pos b]; rfl
        · rw [if_neg a, if_neg b] at h; exact absurd rfl h
    have sS : ∀ q, ¬ opS X q = 0 → stg (opS X q) = 5 := fun q h => by
      unfold opS at h ⊢
      by_cases a : sg X q 43 = true
      · rw [if_pos a]; rfl
      · by_cases b : sg X q 45 = true
        · rw [if_neg a, if_pos b]; rfl
        · rw [if_neg a, if_neg b] at h; exact absurd rfl h
    have sA : ∀ q, ¬ opA X q = 0 → stg (opA X q) = 2 := fun q h => by
      unfold opA at h ⊢
      by_cases a : kw X q = 12
      · rw [if_pos a]; rfl
      · rw [if_neg a] at h; exact absurd rfl h
    have sO : ∀ q, ¬ opO X q = 0 → stg (opO X q) = 1 := fun q h => by
      unfold opO at h ⊢
      by_cases a : kw X q = 13
      · rw [if_pos a]; rfl
      · rw [if_neg a] at h; exact absurd rfl h
    have S1 := m_part (D := D) (Q := Q) (a0 := a0) T0 h1 hk S0
    have S2 : SIM X M0 a0 D Q true 6 dp _ := m_ch (v0 := false) false g0 (gdo_P X) S1 sP (by decide) (fun _ => rfl) (fun h => by cases h) (fun _ => by decide) (fun h => by cases h) (fun h => absurd h (by decide)) (hop_P T0) (fun te q h z => ⟨fun _ => z, fun h => absurd h (by decide), fun h => absurd h (by decide), fun h => absurd h (by decide), fun h => absurd h (by decide)⟩)
    have S3 : SIM X M0 a0 D Q true 5 dp _ := m_ch (v0 := false) false g1 (gdo_S X) S2 sS (by decide) (fun _ => rfl) (fun h => by cases h) (fun _ => by decide) (fun h => by cases h) (fun h => absurd h (by decide)) (hop_S T0) (fun te q h z => ⟨fun _ => h.1 (by decide), fun _ => z, fun h => absurd h (by decide), fun h => absurd h (by decide), fun h => absurd h (by decide)⟩)
    have S5 := m_not (m_test T0 h1 g2 S3)
    have S6 : SIM X M0 a0 D Q false 2 dp _ := m_ch (v0 := true) true g3 (gdo_A X) S5 sA (by decide) (fun h => by cases h) (fun _ => rfl) (fun h => by cases h) (fun _ => by decide) (fun _ => by decide) (hop_A T0) (fun te q h z => ⟨fun _ => h.1 (by decide), fun _ => h.2.1 (by decide), fun _ => h.2.2.1 (by decide), fun _ => z, fun h => absurd h (by decide)⟩)
    exact m_ch (v0 := true) true g4 (gdo_O X) S6 sO (by decide) (fun h => by cases h) (fun _ => rfl) (fun h => by cases h) (fun _ => by decide) (fun _ => by decide) (hop_O T0) (fun te q h z => ⟨fun _ => h.1 (by decide), fun _ => h.2.1 (by decide), fun _ => h.2.2.1 (by decide), fun _ => h.2.2.2.1 (by decide), fun _ => z⟩)
theorem q_expression {D : Nat} {X : TX} {M : mx_M} {q a0 : Nat} {Q : QQ} (T : mx_Tp M) (K : tkM M X q) (g : g16 M) (h29 : mx_I M 58 29 = w a0) (hb : a0 + 2 ≤ 2 * q)
    (hq1 : (exprF X 6 q).1 = 0 → ∀ (M1 : mx_M) (tp : Nat), lip (mE a0) M M1 → tkM M1 X (exprF X 6 q).2.1 → g16 M1 → mx_I M1 58 29 = w (tp + 1) → cdP M1 (exprF X 6 q).2.2 a0 tp → mx_I M1 79 tp = 0 → tp + 2 ≤ 2 * (exprF X 6 q).2.1 → Q (.inl none) M1)
    (hq2 : ¬ (exprF X 6 q).1 = 0 → ∀ (M1 : mx_M) (p : Nat), lip (mE a0) M M1 → mx_I M1 58 16 = w (exprF X 6 q).1 → mx_I M1 58 17 = w (exprF X 6 q).2.1 → tkM M1 X p → Q (.inl none) M1) : mx_W m_X11_expression (D + 5) 0 [.ref 58, .retAddr 0, .retAddr 0] [] M Q := by
  have h7 := K.2.2.2.2.1.2.1
  have hqn := K.2.2.2.2.2
  refine x_X11_expression_0 (d := D + 4) T (q_isGood T g ⟨rfl, rfl, _, rfl, fun _ M3 f3 M4 f4 => ?_, fun y => by cases y⟩)
  have L3 : lip (fun k j => k = 58 ∧ (j = 30 ∨ j = 31)) M M3 := by rw [f3]; exact lip_setI ⟨rfl, Or.inl rfl⟩
  have L4 : lip (fun k j => k = 58 ∧ (j = 30 ∨ j = 31)) M3 M4 := by rw [f4]; exact lip_setI ⟨rfl, Or.inr rfl⟩
  have L34 := lip_trans L3 L4
  have f : ∀ k j, ¬ (k = 58 ∧ (j = 30 ∨ j = 31)) → mx_I M4 k j = mx_I M k j := fun k j h => (L34.2 k j h).1
  have h84 : ∀ j, j ≤ 0 → mx_I M4 84 j = mx_I M4 84 j := fun _ _ => rfl
  have FM : lip (mE a0) M M4 := lip_mono L34 (fun k j h => Or.inl ⟨h.1, by omega⟩)
  have T4 := lip_T L34 T
  have K4 : tkM M4 X q := tkM_E L34 (fun k j h => by omega) K
  have g4 : g16 M4 := g16_f (f 58 16 (by omega)) (f 58 17 (by omega)) g
  have k30 : mx_I M4 58 30 = w 0 := by rw [f4, I_ne (by omega), f3]; exact I_eq
  have k31 : mx_I M4 58 31 = w 0 := by rw [f4]; exact I_eq
  have k29 : mx_I M4 58 29 = w a0 := by rw [f 58 29 (by omega)]; exact h29
  have go : ∀ M8, EX X M a0 M8 q q [] 1 (fun _ => false) [] → mx_sh M8 = mx_sh M4 ∧ mx_R M8 = mx_R M4 → mx_W m_X11_operand (D + 4) 0 [.ref 58, .int 1, .retAddr 0, .retAddr 0, .retAddr 0] [] M8 (fun o M6 => mx_sh M6 = mx_sh M8 ∧ mx_R M6 = mx_R M8 ∧ (o = .inl none ∧ RB D Q M6)) := by
    intro M8 E8 _
    refine mx_mono (ex_ent (v := true) E8 (m_expr (D := D) (Q := Q) T 5 1 (by decide) (by decide) q [] (fun _ => false) [] M8 1 0 E8 (fun x S1 e => by cases e) (fun _ => rfl) (fun h => by cases h) (fun _ => ⟨rfl, rfl⟩) (fun z M9 P te1 L1 E9 eL hP k1 k2 hs => ?_) (fun z M9 F9 => ?_))) (fun o M6 k => ⟨k.1.trans E8.1.2.1.1.1.symm, k.2.1.trans E8.1.2.1.1.2.1.symm, k.2.2.1, k.2.2.2⟩)
    · have b9 : (exprF X 6 q).2.1 ≤ X.2 ∧ X.2 ≤ 700 := ex_700 E9
      have b8 : (exprF X (5 + 1) q).2.1 ≤ X.2 := b9.1
      rw [List.append_nil] at E9
      refine rb_end E9 (by omega) (by decide) hs (fun _ => any_no hP) ?_
      have h31 := E9.2.2.1.1
      refine x_X11_expression_325 (d := D + 4) E9.1.1 (q_isGood E9.1.1 E9.1.2.2.2 ⟨rfl, rfl, _, rfl, (fun y => by cases y), fun _ => ⟨fun _ => ?_, fun z => ?_⟩⟩)
      · have E9' : EX X M a0 M9 (exprF X 6 q).2.1 (exprF X 6 q).2.1 (P ++ []) 1 te1 L1 := by rw [List.append_nil]; exact E9
        refine x_X11_expression_345 (d := D + 4) E9.1.1 (ex_drops (k := 0) E9' (by omega) (by decide) (fun x S1 e => by cases e) (ppL_le (by decide) hP) (fun M10 E10 => ⟨(ex_sh E9 E10).1, (ex_sh E9 E10).2, rfl, ?_⟩))
        rw [eL, List.nil_append] at E10
        obtain ⟨⟨T, F, K, g⟩, ⟨h30, hw⟩, ⟨h31, hd, h84⟩, tp, h29, hcd, hl, ht⟩ := E10
        have ht : tp + 0 + 2 ≤ 2 * (exprF X 6 q).2.1 := ht
        have ac := cdP_le _ _ _ hcd
        refine ex_puts (X := X) T F h29 ac (by omega) (fun M11 T11 F11 e11 K11 v11 n11 => ⟨F11.1.1.trans F.1.1.symm, F11.1.2.1.trans F.1.2.1.symm, rfl, hq1 z M11 tp F11 (K11 _ K) ?_ n11 (cdP_at _ _ _ (fun j _ hj => ?_) hcd) v11 (by omega)⟩)
        · exact g16_f (e11 58 16 (by omega) (by omega)) (e11 58 17 (by omega) (by omega)) g
        · exact e11 79 j (by omega) (by omega)
      · rw [h31] at z; exact absurd (by decide) z
    · obtain ⟨H, S, tp, p, K, h30, hw, h29, h0, hS, hb⟩ := F9
      obtain ⟨P, S2, e, wS, hP⟩ := splitS 0 S
      rw [e] at h30 hw hb hS
      refine x_X11_expression_345 (d := D + 4) H.1 (flt_drops (d := D + 3) (X := X) (k := 0) (q := p) (by decide) wS P M9 tp H K h30 hw h29 h0 (by omega) hS hP (fun M1 H1 K1 g30 g80 g29 => ⟨H1.2.1.1.1.trans H.2.1.1.1.symm, H1.2.1.1.2.1.trans H.2.1.1.2.1.symm, rfl, ?_⟩))
      have hll : (P ++ S2).length = P.length + S2.length := List.length_append
      exact flt_puts (X := X) S2 (tp + P.length) p H1 K1 g30 g80 g29 (by omega) (by omega) (by omega) (fun M2 H2 K2 _ _ _ => ⟨H2.2.1.1.1.trans H1.2.1.1.1.symm, H2.2.1.1.2.1.trans H1.2.1.1.2.1.symm, rfl, hq2 z M2 p H2.2.1 H2.2.2.1 H2.2.2.2.2.2 K2⟩)
  refine x_X11_deeper_0 (d := D + 3) T4 ?_
  rw [k31]
  refine ⟨fun z => absurd z (by decide), fun _ M7 f7 => ?_⟩
  have e7 : mx_I M7 58 31 = w 1 := by rw [f7]; exact I_eq
  rw [e7]
  refine ⟨w_in (by decide) (by decide), fun M8 f8 => ?_⟩
  have L7 : lip (fun k j => (k = 58 ∧ j = 31) ∨ k = 84) M4 M7 := by rw [f7]; exact lip_setI (Or.inl ⟨rfl, rfl⟩)
  have L8 : lip (fun k j => (k = 58 ∧ j = 31) ∨ k = 84) M7 M8 := by rw [f8]; exact lip_setI (Or.inr rfl)
  have L78 := lip_trans L7 L8
  have f8' : ∀ k j, ¬ ((k = 58 ∧ j = 31) ∨ k = 84) → mx_I M8 k j = mx_I M4 k j := fun k j h => (L78.2 k j h).1
  have E8 : EX X M a0 M8 q q [] 1 (fun _ => false) [] := by
    refine ⟨⟨lip_T L78 T4, lip_trans FM (lip_mono L78 (fun k j h => ?_)), tkM_E L78 (fun k j h => by omega) K4, ?_⟩, ⟨?_, trivial⟩, ⟨?_, by decide, fun j hj0 hj => ?_⟩, a0, ?_, rfl, Nat.zero_le _, by show a0 + 0 + 2 ≤ 2 * q; omega⟩
    · rcases h with h | h
      · exact Or.inl ⟨h.1, by omega⟩
      · exact Or.inr (Or.inr (Or.inr h))
    · exact g16_f (f8' 58 16 (by omega)) (f8' 58 17 (by omega)) g4
    · rw [f8' 58 30 (by omega)]; exact k30
    · rw [f8, I_ne (by omega)]; exact e7
    · have ej : j = 1 := by omega
      rw [ej, f8]; exact I_eq
    · rw [f8' 58 29 (by omega)]; exact k29
  exact ⟨L78.1.1, L78.1.2.1, rfl, go M8 E8 ⟨L78.1.1, L78.1.2.1⟩⟩
