/-! the reference's operators -/
theorem sg_ex {X : TX} {q a c : Nat} (h : sg X q a = true) (hac : ¬ a = c) : sg X q c = false := by
  have h := of_decide_eq_true h
  exact decide_eq_false (fun z => hac (h.2.symm.trans z.2))
theorem kw_sg {X : TX} {q a : Nat} (h : sg X q a = true) : kw X q = 15 := by
  have h := of_decide_eq_true h
  rcases Nat.lt_or_ge (kw X q) 15 with g | g
  · have := kw_k g; omega
  · have := kw_15 X q; omega
abbrev RE (D : Nat) (Q : QQ) (pc : Nat) (M : mx_M) : Prop := mx_W m_X11_expression (D + 5) pc [.ref 58, .int 1, .retAddr 0] [] M Q
theorem rb_186 {X : TX} {M0 M : mx_M} {a0 D b q dp : Nat} {S : List Nat} {te : Nat → Bool} {L : List SP} {Q : QQ} (E : EX X M0 a0 M b q S dp te L) (h12 : ¬ kw X q = 12) (h13 : ¬ kw X q = 13) (h60 : sg X q 60 = false) (h61 : sg X q 61 = false) (h : RE D Q 186 M) : RB D Q M := by
  have k15 := kw_15 X q
  refine x_X11_expression_29 (d := D + 4) E.1.1 _ ⟨fun z => absurd z (by decide), fun _ => q_isGood E.1.1 E.1.2.2.2 ⟨rfl, rfl, _, rfl, (fun y => by cases y), fun _ => q_known E.1.1 E.1.2.2.1 ⟨rfl, rfl, _, rfl, fun z => ?_, fun _ => ⟨fun _ => q_isSign (c := 60) E.1.1 E.1.2.2.1 (by decide) ⟨rfl, rfl, _, rfl, fun z => absurd (h60.symm.trans z) (by decide), fun _ => q_isSign (c := 61) E.1.1 E.1.2.2.1 (by decide) ⟨rfl, rfl, _, rfl, fun _ => h, fun z => absurd (h61.symm.trans z) (by decide)⟩⟩, fun z => ?_⟩⟩⟩⟩
  · unfold fz at z
    split at z
    · rw [show (12 : Int32) = w 12 from rfl, w_inj (by omega) (by omega)] at z; exact absurd z h12
    · exact absurd z (by decide)
  · unfold fz at z
    split at z
    · rw [show (13 : Int32) = w 13 from rfl, w_inj (by omega) (by omega)] at z; exact absurd z h13
    · exact absurd z (by decide)
theorem rb_127 {X : TX} {M0 M : mx_M} {a0 D b q dp : Nat} {S : List Nat} {te : Nat → Bool} {L : List SP} {Q : QQ} (E : EX X M0 a0 M b q S dp te L) (h6 : sg X q 60 = true ∨ sg X q 61 = true) (h : RE D Q 127 M) : RB D Q M := by
  have k15 : kw X q = 15 := by rcases h6 with h | h <;> exact kw_sg h
  refine x_X11_expression_29 (d := D + 4) E.1.1 _ ⟨fun z => absurd z (by decide), fun _ => q_isGood E.1.1 E.1.2.2.2 ⟨rfl, rfl, _, rfl, (fun y => by cases y), fun _ => q_known E.1.1 E.1.2.2.1 ⟨rfl, rfl, _, rfl, fun z => ?_, fun _ => ⟨fun _ => q_isSign (c := 60) E.1.1 E.1.2.2.1 (by decide) ⟨rfl, rfl, _, rfl, fun _ => h, fun y => q_isSign (c := 61) E.1.1 E.1.2.2.1 (by decide) ⟨rfl, rfl, _, rfl, fun z => ?_, fun _ => h⟩⟩, fun z => ?_⟩⟩⟩⟩
  · rw [fz_ge (by omega)] at z; exact absurd z (by decide)
  · rcases h6 with g | g
    · exact absurd (g.symm.trans y) (by decide)
    · exact absurd (g.symm.trans z) (by decide)
  · rw [fz_ge (by omega)] at z; exact absurd z (by decide)
theorem rb_57 {X : TX} {M0 M : mx_M} {a0 D b q dp : Nat} {S : List Nat} {te : Nat → Bool} {L : List SP} {Q : QQ} (E : EX X M0 a0 M b q S dp te L) (h6 : kw X q = 12 ∨ kw X q = 13) (h : mx_W m_X11_expression (D + 5) 57 [.ref 58, .int 1, .int (w (kw X q))] [] M Q) : RB D Q M := by
  refine x_X11_expression_29 (d := D + 4) E.1.1 _ ⟨fun z => absurd z (by decide), fun _ => q_isGood E.1.1 E.1.2.2.2 ⟨rfl, rfl, _, rfl, (fun y => by cases y), fun _ => q_known E.1.1 E.1.2.2.1 ⟨rfl, rfl, _, rfl, ?_⟩⟩⟩
  rw [fz_lt (by omega), show (12 : Int32) = w 12 from rfl, show (13 : Int32) = w 13 from rfl, w_inj (by omega) (by omega), w_inj (by omega) (by omega)]
  exact ⟨fun _ => h, fun z => ⟨fun y => absurd h6 (fun x => by rcases x with x | x <;> omega), fun _ => h⟩⟩
theorem ex_set84 {X : TX} {M0 M M1 : mx_M} {a0 b q dp : Nat} {S : List Nat} {te : Nat → Bool} {L : List SP} {v : Bool} (E : EX X M0 a0 M b q S dp te L) (e : M1 = mx_setI M 84 dp (mx_b v)) : EX X M0 a0 M1 b q S dp (fun j => if j = dp then v else te j) L := by
  obtain ⟨⟨T, F, K, g⟩, ⟨h30, hw⟩, ⟨h31, hd, h84⟩, tp, h29, hcd, hl, ht⟩ := E
  have L1 : lip (fun k _ => k = 84) M M1 := by rw [e]; exact lip_setI rfl
  have f : ∀ k j, ¬ k = 84 → mx_I M1 k j = mx_I M k j := fun k j h => (L1.2 k j h).1
  refine ⟨⟨lip_T L1 T, lip_trans F (lip_mono L1 (fun k j h => Or.inr (Or.inr (Or.inr h)))), tkM_E L1 (fun k j h => by omega) K, g16_f (f 58 16 (by omega)) (f 58 17 (by omega)) g⟩, ⟨by rw [f 58 30 (by omega)]; exact h30, wtS_at S (fun j _ => f 80 j (by omega)) hw⟩, ⟨by rw [f 58 31 (by omega)]; exact h31, hd, fun j hj0 hj => ?_⟩, tp, by rw [f 58 29 (by omega)]; exact h29, cdP_at L _ _ (fun j _ _ => f 79 j (by omega)) hcd, hl, ht⟩
  show mx_I M1 84 j = mx_b (if j = dp then v else te j)
  by_cases q : j = dp
  · rw [e, q, I_eq, if_pos rfl]
  · rw [e, I_ne (by omega), if_neg q]; exact h84 j hj0 hj
theorem ex_te {X : TX} {M0 M : mx_M} {a0 b q dp : Nat} {S : List Nat} {te te1 : Nat → Bool} {L : List SP} (h : ∀ j, j ≤ dp → te1 j = te j) (E : EX X M0 a0 M b q S dp te L) : EX X M0 a0 M b q S dp te1 L := by
  obtain ⟨h1, h2, ⟨h31, hd, h84⟩, h4⟩ := E
  exact ⟨h1, h2, ⟨h31, hd, fun j hj0 hj => by rw [h j hj]; exact h84 j hj0 hj⟩, h4⟩
/-- it waits, goes on, and reads an operand -/
theorem tl_PS {X : TX} {M0 M : mx_M} {a0 D q dp c : Nat} {S : List Nat} {te : Nat → Bool} {L : List SP} {Q : QQ} {v : Bool} (T0 : mx_Tp M0) (E : EX X M0 a0 M q q S dp te L) (hq7 : q < X.2) (hc : c < 20) (h : ∀ M2, EX X M0 a0 M2 (nx X q) (nx X q) (c :: S) dp te L → RN M0 D Q (mx_b v) 0 M2) :
    mx_W m_X11_waitsFor (D + 4) 0 [.ref 58, .int (w c)] [] M (fun o M4 => mx_sh M4 = mx_sh M ∧ mx_R M4 = mx_R M ∧ (o = .inl none ∧ (mx_W m_X11_goes (D + 4) 0 [.ref 58, .retAddr 0] [] M4 (fun o M5 => mx_sh M5 = mx_sh M4 ∧ mx_R M5 = mx_R M4 ∧ (o = .inl none ∧ (mx_W m_X11_operand (D + 4) 0 [.ref 58, .int (mx_b v), .retAddr 0, .retAddr 0, .retAddr 0] [] M5 (fun o M6 => mx_sh M6 = mx_sh M5 ∧ mx_R M6 = mx_R M5 ∧ (o = .inl none ∧ RE D Q 322 M6)))))))) := by
  have b7 := ex_700 E
  have n := nx_lt hq7
  refine ex_waits E (by omega) hc (fun M1 E1 => ⟨(ex_sh E E1).1, (ex_sh E E1).2, rfl, ex_goes E1 (fun M2 E2 => ⟨(ex_sh E1 E2).1, (ex_sh E1 E2).2, rfl, ?_⟩)⟩)
  have E3 := ex_b (b1 := nx X q) (by omega) E2
  exact ex_ent2 T0 E3 (h M2 E3)
theorem tl_TA {X : TX} {M0 M : mx_M} {a0 D q dp c : Nat} {S : List Nat} {te : Nat → Bool} {L : List SP} {Q : QQ} {v t : Bool} {bt : Int32} (hbt : vp_nar .boolean bt = mx_b t) (T0 : mx_Tp M0) (E : EX X M0 a0 M q q S dp te L) (hq7 : q < X.2) (hc : c < 20) (h : ∀ M2, EX X M0 a0 M2 (nx X q) (nx X q) (c :: S) dp (fun j => if j = dp then t else te j) L → RN M0 D Q (mx_b v) 0 M2) :
    mx_W m_X11_waitsFor (D + 4) 0 [.ref 58, .int (w c)] [] M (fun o M2 => mx_sh M2 = mx_sh M ∧ mx_R M2 = mx_R M ∧ (o = .inl none ∧ (vp_in (mx_I M2 58 31) 9 ∧ (∀ M3, M3 = mx_setI M2 84 ((mx_I M2 58 31).toNatClampNeg) (vp_nar .boolean bt) → (mx_W m_X11_goes (D + 4) 0 [.ref 58, .retAddr 0] [] M3 (fun o M4 => mx_sh M4 = mx_sh M3 ∧ mx_R M4 = mx_R M3 ∧ (o = .inl none ∧ (mx_W m_X11_operand (D + 4) 0 [.ref 58, .int (mx_b v), .retAddr 0, .retAddr 0, .retAddr 0] [] M4 (fun o M5 => mx_sh M5 = mx_sh M4 ∧ mx_R M5 = mx_R M4 ∧ (o = .inl none ∧ RE D Q 322 M5)))))))))) := by
  have b7 := ex_700 E
  have n := nx_lt hq7
  refine ex_waits E (by omega) hc (fun M1 E1 => ⟨(ex_sh E E1).1, (ex_sh E E1).2, rfl, ?_⟩)
  have h31 := E1.2.2.1.1
  have hd := E1.2.2.1.2.1
  rw [h31, w_nat (by omega), hbt]
  refine ⟨w_in (by omega) (by decide), fun M3 f3 => ?_⟩
  have E3 := ex_set84 E1 f3
  refine ex_goes E3 (fun M4 E4 => ⟨(ex_sh E3 E4).1, (ex_sh E3 E4).2, rfl, ?_⟩)
  have E5 := ex_b (b1 := nx X q) (by omega) E4
  exact ex_ent2 T0 E5 (h M4 E5)
theorem te_r (te : Nat → Bool) (dp j : Nat) : (if true = true ∧ j = dp then false else te j) = if j = dp then false else te j := by
  by_cases y : j = dp
  · rw [if_pos ⟨rfl, y⟩, if_pos y]
  · rw [if_neg (fun z => y z.2), if_neg y]
theorem hop_P {X : TX} {M0 : mx_M} {a0 D dp : Nat} {Q : QQ} (T0 : mx_Tp M0) (q : Nat) (P S : List Nat) (te : Nat → Bool) (L1 : List SP) (M : mx_M) (E : EX X M0 a0 M q q (P ++ S) dp te L1) (ho : ¬ opP X q = 0) (hP : ppL P 6) (wS : wkS S 6) (h : ∀ M1, EX X M0 a0 M1 (nx X q) (nx X q) (opP X q :: S) dp (fun j => if false = true ∧ j = dp then false else te j) (L1 ++ mpP P) → RN M0 D Q (mx_b false) 0 M1) : RB D Q M := by
  have b7 := ex_700 E
  have hq7 := (gdo_P X q ho).1
  have hs : sg X q 42 = true ∨ sg X q 47 = true := by
    unfold opP at ho
    by_cases a : sg X q 42 = true
    · exact Or.inl a
    · by_cases b : sg X q 47 = true
      · exact Or.inr b
      · rw [if_neg a, if_neg b] at ho; exact absurd rfl ho
  have k15 : kw X q = 15 := by rcases hs with h | h <;> exact kw_sg h
  have ne : ∀ c, ¬ 42 = c → ¬ 47 = c → sg X q c = false := fun c h1 h2 => by
    rcases hs with h | h
    · exact sg_ex h h1
    · exact sg_ex h h2
  have tail : RE D Q 259 M := by
    refine x_X11_expression_259 (d := D + 4) E.1.1 _ (ex_drops (k := 6) E (by omega) (by decide) wS hP (fun M1 E1 => ⟨(ex_sh E E1).1, (ex_sh E E1).2, rfl, q_isSign (c := 42) E1.1.1 E1.1.2.2.1 (by decide) ⟨rfl, rfl, _, rfl, fun y => ?_, fun y => ?_⟩⟩))
    · have e : opP X q = 11 := by
        unfold opP
        rcases hs with g | g
        · exact absurd (g.symm.trans y) (by decide)
        · rw [if_neg (by unfold sg; rw [y]; decide), if_pos g]
      exact tl_PS (c := 11) (v := false) T0 E1 hq7 (by decide) (fun M2 E2 => h M2 (by rw [e]; exact ex_te (fun j _ => if_neg (fun z => by cases z.1)) E2))
    · have e : opP X q = 10 := if_pos y
      exact tl_PS (c := 10) (v := false) T0 E1 hq7 (by decide) (fun M2 E2 => h M2 (by rw [e]; exact ex_te (fun j _ => if_neg (fun z => by cases z.1)) E2))
  refine rb_186 E (by omega) (by omega) (ne 60 (by decide) (by decide)) (ne 61 (by decide) (by decide)) ?_
  refine x_X11_expression_186 (d := D + 4) E.1.1 _ (q_isSign (c := 43) E.1.1 E.1.2.2.1 (by decide) ⟨rfl, rfl, _, rfl, fun y => absurd ((ne 43 (by decide) (by decide)).symm.trans y) (by decide), fun _ => q_isSign (c := 45) E.1.1 E.1.2.2.1 (by decide) ⟨rfl, rfl, _, rfl, fun _ => q_isSign (c := 42) E.1.1 E.1.2.2.1 (by decide) ⟨rfl, rfl, _, rfl, fun _ => tail, fun y => q_isSign (c := 47) E.1.1 E.1.2.2.1 (by decide) ⟨rfl, rfl, _, rfl, fun z => ?_, fun _ => tail⟩⟩, fun y => absurd ((ne 45 (by decide) (by decide)).symm.trans y) (by decide)⟩⟩)
  rcases hs with g | g
  · exact absurd (g.symm.trans y) (by decide)
  · exact absurd (g.symm.trans z) (by decide)
theorem hop_S {X : TX} {M0 : mx_M} {a0 D dp : Nat} {Q : QQ} (T0 : mx_Tp M0) (q : Nat) (P S : List Nat) (te : Nat → Bool) (L1 : List SP) (M : mx_M) (E : EX X M0 a0 M q q (P ++ S) dp te L1) (ho : ¬ opS X q = 0) (hP : ppL P 5) (wS : wkS S 5) (h : ∀ M1, EX X M0 a0 M1 (nx X q) (nx X q) (opS X q :: S) dp (fun j => if false = true ∧ j = dp then false else te j) (L1 ++ mpP P) → RN M0 D Q (mx_b false) 0 M1) : RB D Q M := by
  have b7 := ex_700 E
  have hq7 := (gdo_S X q ho).1
  have hs : sg X q 43 = true ∨ sg X q 45 = true := by
    unfold opS at ho
    by_cases a : sg X q 43 = true
    · exact Or.inl a
    · by_cases b : sg X q 45 = true
      · exact Or.inr b
      · rw [if_neg a, if_neg b] at ho; exact absurd rfl ho
  have k15 : kw X q = 15 := by rcases hs with h | h <;> exact kw_sg h
  have ne : ∀ c, ¬ 43 = c → ¬ 45 = c → sg X q c = false := fun c h1 h2 => by
    rcases hs with h | h
    · exact sg_ex h h1
    · exact sg_ex h h2
  have tail : RE D Q 204 M := by
    refine x_X11_expression_204 (d := D + 4) E.1.1 _ (ex_drops (k := 5) E (by omega) (by decide) wS hP (fun M1 E1 => ⟨(ex_sh E E1).1, (ex_sh E E1).2, rfl, q_isSign (c := 43) E1.1.1 E1.1.2.2.1 (by decide) ⟨rfl, rfl, _, rfl, fun y => ?_, fun y => ?_⟩⟩))
    · have e : opS X q = 9 := by
        unfold opS
        rcases hs with g | g
        · exact absurd (g.symm.trans y) (by decide)
        · rw [if_neg (by unfold sg; rw [y]; decide), if_pos g]
      exact tl_PS (c := 9) (v := false) T0 E1 hq7 (by decide) (fun M2 E2 => h M2 (by rw [e]; exact ex_te (fun j _ => if_neg (fun z => by cases z.1)) E2))
    · have e : opS X q = 8 := if_pos y
      exact tl_PS (c := 8) (v := false) T0 E1 hq7 (by decide) (fun M2 E2 => h M2 (by rw [e]; exact ex_te (fun j _ => if_neg (fun z => by cases z.1)) E2))
  refine rb_186 E (by omega) (by omega) (ne 60 (by decide) (by decide)) (ne 61 (by decide) (by decide)) ?_
  refine x_X11_expression_186 (d := D + 4) E.1.1 _ (q_isSign (c := 43) E.1.1 E.1.2.2.1 (by decide) ⟨rfl, rfl, _, rfl, fun _ => tail, fun y => q_isSign (c := 45) E.1.1 E.1.2.2.1 (by decide) ⟨rfl, rfl, _, rfl, fun z => ?_, fun _ => tail⟩⟩)
  rcases hs with g | g
  · exact absurd (g.symm.trans y) (by decide)
  · exact absurd (g.symm.trans z) (by decide)
theorem hop_A {X : TX} {M0 : mx_M} {a0 D dp : Nat} {Q : QQ} (T0 : mx_Tp M0) (q : Nat) (P S : List Nat) (te : Nat → Bool) (L1 : List SP) (M : mx_M) (E : EX X M0 a0 M q q (P ++ S) dp te L1) (ho : ¬ opA X q = 0) (hP : ppL P 2) (wS : wkS S 2) (h : ∀ M1, EX X M0 a0 M1 (nx X q) (nx X q) (opA X q :: S) dp (fun j => if true = true ∧ j = dp then false else te j) (L1 ++ mpP P) → RN M0 D Q (mx_b true) 0 M1) : RB D Q M := by
  have b7 := ex_700 E
  have hq7 := (gdo_A X q ho).1
  have hk : kw X q = 12 := by
    unfold opA at ho
    by_cases a : kw X q = 12
    · exact a
    · rw [if_neg a] at ho; exact absurd rfl ho
  have e : opA X q = 4 := if_pos hk
  refine rb_57 E (Or.inl hk) ?_
  rw [hk]
  refine x_X11_expression_57 (d := D + 4) E.1.1 _ _ ⟨fun z => absurd rfl z, fun _ => ex_drops (k := 2) E (by omega) (by decide) wS hP (fun M1 E1 => ⟨(ex_sh E E1).1, (ex_sh E E1).2, rfl, fun z => absurd rfl z, fun _ => tl_TA (t := false) (v := true) rfl T0 E1 hq7 (by decide) (fun M2 E2 => h M2 (by rw [e]; exact ex_te (fun j _ => te_r te dp j) E2))⟩)⟩
theorem hop_O {X : TX} {M0 : mx_M} {a0 D dp : Nat} {Q : QQ} (T0 : mx_Tp M0) (q : Nat) (P S : List Nat) (te : Nat → Bool) (L1 : List SP) (M : mx_M) (E : EX X M0 a0 M q q (P ++ S) dp te L1) (ho : ¬ opO X q = 0) (hP : ppL P 1) (wS : wkS S 1) (h : ∀ M1, EX X M0 a0 M1 (nx X q) (nx X q) (opO X q :: S) dp (fun j => if true = true ∧ j = dp then false else te j) (L1 ++ mpP P) → RN M0 D Q (mx_b true) 0 M1) : RB D Q M := by
  have b7 := ex_700 E
  have hq7 := (gdo_O X q ho).1
  have hk : kw X q = 13 := by
    unfold opO at ho
    by_cases a : kw X q = 13
    · exact a
    · rw [if_neg a] at ho; exact absurd rfl ho
  have e : opO X q = 5 := if_pos hk
  refine rb_57 E (Or.inr hk) ?_
  rw [hk]
  refine x_X11_expression_57 (d := D + 4) E.1.1 _ _ ⟨fun _ => ex_drops (k := 1) E (by omega) (by decide) wS hP (fun M1 E1 => ⟨(ex_sh E E1).1, (ex_sh E E1).2, rfl, fun _ => tl_TA (t := false) (v := true) rfl T0 E1 hq7 (by decide) (fun M2 E2 => h M2 (by rw [e]; exact ex_te (fun j _ => te_r te dp j) E2)), fun z => absurd z (by decide)⟩), fun z => absurd z (by decide)⟩
