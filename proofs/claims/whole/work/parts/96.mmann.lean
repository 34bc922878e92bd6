/-! the reference reads a manner, a clerk, a line -/
theorem b_mann60 {d k p : Nat} {v1 v2 : Int32} {M0 M : mx_M} {X : TX} {Q : QQ} (B : BM M0 M X k p) (h : 1 ≤ k ∧ k ≤ 5) (hq : Q (.inl none) M) : mx_W m_X11_readsManner (d + 1) 60 [.ref 58, .int v1, .int v2] [] M Q :=
  x_X11_readsManner_60 B.1.1 _ _ (b_bad B h ⟨rfl, rfl, false, rfl, (fun y => by cases y), fun _ => hq⟩)
theorem q_mann55 {d : Nat} {v1 v2 : Int32} {M0 M : mx_M} {X : TX} {q : Nat} {Q : QQ} (W : WB M0 M X q) (hq : ∀ M1, BM M0 M1 X 5 q → Q (.inl none) M1) : mx_W m_X11_readsManner (d + 1) 55 [.ref 58, .int v1, .int v2] [] M Q :=
  x_X11_readsManner_55 W.1.1 _ _ (b_wrong (k := 5) W (fun M1 B1 s1 t1 _ => ⟨s1, t1, rfl, b_mann60 B1 (by omega) (hq M1 B1)⟩))
theorem b1_iff (b : Bool) : mx_b b = 1 ↔ b = true := by cases b <;> decide
theorem q_readsManner {d k : Nat} {M0 M : mx_M} {X : TX} {c : CD} {q tp : Nat} {Q : QQ} (G : gdC X c) (hK : ¬ dK c = 0) (hk : 9 ≤ k ∧ k ≤ 11) (hlt : q < X.2) (W : WM M0 M X c q tp) (hq : lnM M0 X (mannF X c k q) (fun M1 => Q (.inl none) M1)) : mx_W m_X11_readsManner (d + 6) 0 [.ref 58, .int (w k), .retAddr 0] [] M Q := by
  have g := G.1
  have eo : w (dK c) - 1 = w (dK c - 1) := w_sub (a := dK c) (b := 1) (by omega)
  obtain ⟨r1, r2, r3⟩ := W.2.2.2.2 (dK c - 1) (by omega)
  have b7 := tkM_700 W.1.2.1
  have n := nx_lt hlt
  unfold mannF at hq
  refine x_X11_readsManner_0 (d := d + 5) W.1.1.1 _ ?_
  rw [W.2.2.2.1, eo, w_nat (n := dK c - 1) (by omega), r2.1, show (9 : Int32) = w 9 from rfl, w_inj (by omega) (by omega), b1_iff]
  have c23 : ¬ (k = 9 ∧ dT c (dK c - 1) = true) → mx_W m_X11_readsManner (d + 5 + 1) 23 [.ref 58, .int (w k), .int (w (dK c - 1))] [] M Q := by
    intro hn9
    refine x_X11_readsManner_23 (d := d + 5) W.1.1.1 _ _ ?_
    rw [w_nat (n := dK c - 1) (by omega), r2.2, show (10 : Int32) = w 10 from rfl, w_inj (by omega) (by omega), b1_iff]
    have c39 : ¬ (k = 10 ∧ dJ c (dK c - 1) = true) → mx_W m_X11_readsManner (d + 5 + 1) 39 [.ref 58, .int (w k), .int (w (dK c - 1))] [] M Q := by
      intro hn10
      refine x_X11_readsManner_39 (d := d + 5) W.1.1.1 _ _ ?_
      rw [w_nat (n := dK c - 1) (by omega), show (11 : Int32) = w 11 from rfl, w_inj (by omega) (by omega)]
      have c60 : ¬ (k = 11 ∧ dI c (dK c - 1) = true) → mx_W m_X11_readsManner (d + 5 + 1) 60 [.ref 58, .int (w k), .int (w (dK c - 1))] [] M Q := by
        intro hn11
        refine x_X11_readsManner_60 (d := d + 5) W.1.1.1 _ _ (q_isGood W.1.1.1 W.1.2.2 ⟨rfl, rfl, true, rfl, fun _ => wm_goes G W (fun M3 W3 L3 => ⟨L3.1.1, L3.1.2.1, rfl, ?_⟩), fun y => by cases y⟩)
        rw [w_nat (n := dK c - 1) (by omega), show (9 : Int32) = w 9 from rfl, show (10 : Int32) = w 10 from rfl, w_inj (by omega) (by omega), w_inj (by omega) (by omega), W3.2.1.1]
        refine ⟨fun z9 => ⟨fun z10 => ⟨w_in (by omega) (by decide), fun M4 f4 => ?_⟩, fun z10 => ⟨w_in (by omega) (by decide), fun M4 f4 => ?_⟩⟩, fun z9 => ⟨w_in (by omega) (by decide), fun M4 f4 => ?_⟩⟩
        · have nI : dI c (dK c - 1) = false := by
            cases h : dI c (dK c - 1)
            · rfl
            · exact absurd ⟨by omega, h⟩ hn11
          rw [if_neg z9, if_neg z10, nI, if_neg Bool.false_ne_true] at hq
          have L4 : lip (fun k i => k = 78 ∧ i = dK c - 1) M3 M4 := by rw [f4]; exact lip_setI ⟨rfl, rfl⟩
          have W4 : WB M0 M4 X (nx X q) := wb_lip L4 (fun k i z => by omega) W3.1
          have ht := W.2.1.2
          refine q_expression (D := d) (a0 := tp) W4.1.1 W4.2.1 W4.2.2 (by rw [(L4.2 58 29 (by omega)).1]; exact W3.2.1.1) (by omega) (fun h0 M5 t5 L5 A5 g5 e29 cp e79 tb => ⟨L5.1.1, L5.1.2.1, rfl, x_X11_readsManner_118 (lip_T L5 W4.1.1) ?_⟩) (fun h0 M5 p5 L5 e16 e17 A5 => ⟨L5.1.1, L5.1.2.1, rfl, x_X11_readsManner_118 (lip_T L5 W4.1.1) ?_⟩)
          · rw [if_pos h0] at hq
            have tl := cdP_le _ _ _ cp
            have LL : lip (fun k i => (k = 58 ∧ ((20 ≤ i ∧ i ≤ 26) ∨ i = 29 ∨ i = 30 ∨ i = 31 ∨ i = 16 ∨ i = 17)) ∨ (k = 79 ∧ tp ≤ i) ∨ k = 80 ∨ k = 84 ∨ (k = 78 ∧ i = dK c - 1)) M3 M5 := lip_trans (lip_mono L4 (fun k i z => by show _ ∨ _; omega)) (lip_mono L5 (fun k i z => by show _ ∨ _; omega))
            refine hq.1 rfl M5 (t5 + 1) ⟨⟨⟨lip_T L5 W4.1.1, lip_trans W4.1.2 (lip_mono L5 (fun k i z => by show _ ∨ _; omega))⟩, A5, g5⟩, ⟨e29, by show t5 + 1 ≤ 2 * (exprF X 6 (nx X q)).2.1; omega⟩, csN_lip (c := c) G LL (fun k i z => by omega) W3.2.2.1, ⟨by rw [(LL.2 58 28 (by omega)).1]; exact W3.2.2.2.1, fun o ho => ?_⟩⟩
            have ho : o < dK c := ho
            obtain ⟨s1, s2, s3⟩ := W3.2.2.2.2 o ho
            refine ⟨rlN_lip (c := c) LL (by omega) (fun i hi => ⟨by omega, by omega, by omega⟩) s1, ⟨by rw [(LL.2 76 o (by omega)).1]; exact s2.1, by rw [(LL.2 77 o (by omega)).1]; exact s2.2⟩, ?_⟩
            by_cases e : o = dK c - 1
            · have q1 : dI (setI c (exprF X 6 (nx X q)).2.2) o = true := by rw [e]; exact st1_eq
              have q2 : dL (setI c (exprF X 6 (nx X q)).2.2) o = (exprF X 6 (nx X q)).2.2 := by rw [e]; exact st1_eq
              unfold tieN
              rw [q1, q2]
              refine ⟨(fun y => by cases y), fun _ => ⟨tp, t5, ?_, cp, e79, Nat.le_refl _⟩⟩
              rw [e, (L5.2 78 _ (by omega)).1, f4]; exact I_eq
            · have q1 : dI (setI c (exprF X 6 (nx X q)).2.2) o = dI c o := st1_ne e
              have q2 : dL (setI c (exprF X 6 (nx X q)).2.2) o = dL c o := st1_ne e
              unfold tieN
              rw [q1, q2]
              exact tieN_lip (c := c) LL (by omega) (by omega) (fun j hj => by omega) s3
          · rw [if_neg h0] at hq
            exact hq.2 h0 M5 ⟨⟨lip_T L5 W4.1.1, lip_trans W4.1.2 (lip_mono L5 (fun k i z => by show _ ∨ _; omega))⟩, ⟨p5, A5⟩, e16, e17⟩
        · have nJ : dJ c (dK c - 1) = false := by
            cases h : dJ c (dK c - 1)
            · rfl
            · exact absurd ⟨z10, h⟩ hn10
          rw [if_neg z9, if_pos z10, nJ, if_neg Bool.false_ne_true] at hq
          have L4 : lip (fun k i => k = 77 ∧ i = dK c - 1) M3 M4 := by rw [f4]; exact lip_setI ⟨rfl, rfl⟩
          have W4 : WB M0 M4 X (nx X q) := wb_lip L4 (fun k i z => by omega) W3.1
          refine x_X11_readsManner_118 W4.1.1 (hq.1 rfl M4 tp ⟨W4, ⟨by rw [(L4.2 58 29 (by omega)).1]; exact W3.2.1.1, W3.2.1.2⟩, csN_lip (c := c) G L4 (fun k i z => by omega) W3.2.2.1, ⟨by rw [(L4.2 58 28 (by omega)).1]; exact W3.2.2.2.1, fun o ho => ?_⟩⟩)
          have ho : o < dK c := ho
          obtain ⟨s1, s2, s3⟩ := W3.2.2.2.2 o ho
          refine ⟨rlN_lip (c := c) L4 (by omega) (fun i hi => ⟨by omega, by omega, by omega⟩) s1, ⟨by rw [(L4.2 76 o (by omega)).1]; exact s2.1, ?_⟩, tieN_lip (c := c) L4 (Nat.le_refl _) (by omega) (fun j hj => by omega) s3⟩
          show mx_I M4 77 o = mx_b (st1 (dJ c) (dK c - 1) true o)
          by_cases e : o = dK c - 1
          · rw [e, st1_eq, f4]; exact I_eq
          · rw [st1_ne e, (L4.2 77 o (by omega)).1]; exact s2.2
        · have nT : dT c (dK c - 1) = false := by
            cases h : dT c (dK c - 1)
            · rfl
            · exact absurd ⟨z9, h⟩ hn9
          rw [if_pos z9, nT, if_neg Bool.false_ne_true] at hq
          have L4 : lip (fun k i => k = 76 ∧ i = dK c - 1) M3 M4 := by rw [f4]; exact lip_setI ⟨rfl, rfl⟩
          have W4 : WB M0 M4 X (nx X q) := wb_lip L4 (fun k i z => by omega) W3.1
          refine x_X11_readsManner_118 W4.1.1 (hq.1 rfl M4 tp ⟨W4, ⟨by rw [(L4.2 58 29 (by omega)).1]; exact W3.2.1.1, W3.2.1.2⟩, csN_lip (c := c) G L4 (fun k i z => by omega) W3.2.2.1, ⟨by rw [(L4.2 58 28 (by omega)).1]; exact W3.2.2.2.1, fun o ho => ?_⟩⟩)
          have ho : o < dK c := ho
          obtain ⟨s1, s2, s3⟩ := W3.2.2.2.2 o ho
          refine ⟨rlN_lip (c := c) L4 (by omega) (fun i hi => ⟨by omega, by omega, by omega⟩) s1, ⟨?_, by rw [(L4.2 77 o (by omega)).1]; exact s2.2⟩, tieN_lip (c := c) L4 (Nat.le_refl _) (by omega) (fun j hj => by omega) s3⟩
          show mx_I M4 76 o = mx_b (st1 (dT c) (dK c - 1) true o)
          by_cases e : o = dK c - 1
          · rw [e, st1_eq, f4]; exact I_eq
          · rw [st1_ne e, (L4.2 76 o (by omega)).1]; exact s2.1
      refine ⟨fun z => c60 (fun y => z y.1), fun z => ⟨w_in (by omega) (by decide), fun y => c60 (fun x => ?_), fun y => ?_⟩⟩
      · obtain ⟨a, t, a1, a2, a3, a4⟩ := r3.2 x.2
        rw [a1] at y
        have tl := cdP_le _ _ _ a2
        have := W.2.1.2
        exact absurd y (w_ne1 (by omega))
      · have yI : dI c (dK c - 1) = true := by
          cases h : dI c (dK c - 1)
          · exact absurd (r3.1 h) y
          · rfl
        rw [if_neg (by omega), if_neg (by omega), if_pos yI] at hq
        exact q_mann55 W.1 (fun M1 B1 => hq.2 (show ¬ (5 : Nat) = 0 by decide) M1 B1)
    refine ⟨fun z => c39 (fun y => z y.1), fun z => ⟨w_in (by omega) (by decide), fun y => ?_, fun y => c39 (fun x => y x.2)⟩⟩
    rw [if_neg (by omega), if_pos z, if_pos y] at hq
    exact q_mann55 W.1 (fun M1 B1 => hq.2 (show ¬ (5 : Nat) = 0 by decide) M1 B1)
  refine ⟨fun z => c23 (fun y => z y.1), fun z => ⟨w_in (by omega) (by decide), fun y => ?_, fun y => c23 (fun x => y x.2)⟩⟩
  rw [if_pos z, if_pos y] at hq
  exact q_mann55 W.1 (fun M1 B1 => hq.2 (show ¬ (5 : Nat) = 0 by decide) M1 B1)
/-- what follows a line -/
abbrev afL (d : Nat) (Q : QQ) (M : mx_M) : Prop := mx_W m_X11_isSign d 0 [.ref 58, .int 59] [] M (fun o M4 => mx_sh M4 = mx_sh M ∧ mx_R M4 = mx_R M ∧ (∃ x5 : Bool, o = .inl (some (.int (mx_b x5))) ∧ (mx_W m_X11_need d 0 [.ref 58, .int (mx_b x5)] [] M4 (fun o M6 => mx_sh M6 = mx_sh M4 ∧ mx_R M6 = mx_R M4 ∧ (o = .inl none ∧ Q (.inl none) M6)))))
theorem af_ok {d : Nat} {M0 M : mx_M} {X : TX} {c : CD} {q tp : Nat} {Q : QQ} (G : gdC X c) (W : WM M0 M X c q tp) (hq : lnM M0 X (semF X (0, q, c)) (fun M1 => Q (.inl none) M1)) : afL (d + 2) Q M := by
  have hq : lnM M0 X (if sg X q 59 = true then (0, nx X q, c) else (1, q, c)) (fun M1 => Q (.inl none) M1) := hq
  refine q_isSign (c := 59) W.1.1.1 W.1.2.1 (by decide) ⟨rfl, rfl, _, rfl, q_need G W (fun y M1 W1 L1 => ⟨L1.1.1, L1.1.2.1, rfl, ?_⟩) (fun y M1 B1 s1 t1 => ⟨s1, t1, rfl, ?_⟩)⟩
  · rw [if_pos (show sg X q 59 = true from y)] at hq
    exact hq.1 rfl M1 tp W1
  · rw [if_neg (by unfold sg; rw [y]; decide)] at hq
    exact hq.2 (show ¬ (1 : Nat) = 0 by decide) M1 B1
theorem af_bad {d k p : Nat} {M0 M : mx_M} {X : TX} {Q : QQ} (B : BM M0 M X k p) (h : 1 ≤ k ∧ k ≤ 5) (hq : Q (.inl none) M) : afL (d + 1) Q M := by
  obtain ⟨q, A⟩ := B.2.1
  exact q_isSign (c := 59) B.1.1 A (by decide) ⟨rfl, rfl, _, rfl, b_need B h ⟨rfl, rfl, rfl, hq⟩⟩
theorem ln_af {d : Nat} {M0 M : mx_M} {X : TX} {r : LR} {Q : QQ} (L : lip mB M0 M) (h5 : r.1 ≤ 5) (G : r.1 = 0 → gdC X r.2.2) (hq : lnM M0 X (semF X r) (fun M1 => Q (.inl none) M1)) : lnM M0 X r (fun M1 => mx_sh M1 = mx_sh M ∧ mx_R M1 = mx_R M ∧ ((.inl none : mx_O) = .inl none ∧ afL (d + 2) Q M1)) := by
  refine ⟨fun h0 M1 tp W1 => ⟨W1.1.1.2.1.1.trans L.1.1.symm, W1.1.1.2.1.2.1.trans L.1.2.1.symm, rfl, af_ok (G h0) W1 ?_⟩, fun h0 M1 B1 => ⟨B1.1.2.1.1.trans L.1.1.symm, B1.1.2.1.2.1.trans L.1.2.1.symm, rfl, af_bad B1 (by omega) ?_⟩⟩
  · have e : semF X (0, r.2.1, r.2.2) = semF X r := by rw [← h0]
    rw [e]; exact hq
  · have e : semF X r = r := if_neg h0
    rw [e] at hq
    exact hq.2 h0 M1 B1
theorem fz15_4 {a : Nat} (ha : a ≤ 15) (b : Nat) (hb : b < 15) : (fz 15 a = w b ↔ a = b) ∧ (fz 15 a < w b ↔ (a < b ∨ a = 15)) ∧ (w b < fz 15 a ↔ (b < a ∧ a < 15)) := by
  rcases Nat.lt_or_ge a 15 with h | h
  · rw [fz_lt h, w_inj (by omega) (by omega), w_lt (by omega) (by omega), w_lt (by omega) (by omega)]
    omega
  · have e : a = 15 := by omega
    rw [fz_ge h]
    have key : ∀ b : Fin 15, (¬ (-1 : Int32) = w b.val) ∧ ((-1 : Int32) < w b.val) ∧ ¬ (w b.val < (-1 : Int32)) := by decide
    have k := key ⟨b, hb⟩
    refine ⟨⟨fun z => absurd z k.1, fun z => by omega⟩, ⟨fun _ => Or.inr e, fun _ => k.2.1⟩, ⟨fun z => absurd z k.2.2, fun z => by omega⟩⟩
theorem w_clerk {M0 M : mx_M} {X : TX} {c : CD} {q tp : Nat} {M5 : mx_M} (G : gdC X c) (hK : ¬ dK c = 4) (W : WM M0 M X c q tp) (e5 : ∃ M1 M2 M3 M4, M1 = mx_setI M 74 (dK c) 0 ∧ M2 = mx_setI M1 76 (dK c) 0 ∧ M3 = mx_setI M2 77 (dK c) 0 ∧ M4 = mx_setI M3 78 (dK c) (-1) ∧ M5 = mx_setI M4 58 28 (w (dK c + 1))) : WM M0 M5 X (addCk c) q tp := by
  have g := G.1
  obtain ⟨M1, M2, M3, M4, f1, f2, f3, f4, f5⟩ := e5
  have P1 : lip (fun k i => (k = 58 ∧ i = 28) ∨ (i = dK c ∧ (k = 74 ∨ k = 76 ∨ k = 77 ∨ k = 78))) M M1 := by rw [f1]; exact lip_setI (by omega)
  have P2 : lip (fun k i => (k = 58 ∧ i = 28) ∨ (i = dK c ∧ (k = 74 ∨ k = 76 ∨ k = 77 ∨ k = 78))) M1 M2 := by rw [f2]; exact lip_setI (by omega)
  have P3 : lip (fun k i => (k = 58 ∧ i = 28) ∨ (i = dK c ∧ (k = 74 ∨ k = 76 ∨ k = 77 ∨ k = 78))) M2 M3 := by rw [f3]; exact lip_setI (by omega)
  have P4 : lip (fun k i => (k = 58 ∧ i = 28) ∨ (i = dK c ∧ (k = 74 ∨ k = 76 ∨ k = 77 ∨ k = 78))) M3 M4 := by rw [f4]; exact lip_setI (by omega)
  have P5 : lip (fun k i => (k = 58 ∧ i = 28) ∨ (i = dK c ∧ (k = 74 ∨ k = 76 ∨ k = 77 ∨ k = 78))) M4 M5 := by rw [f5]; exact lip_setI (by omega)
  have LL := lip_trans (lip_trans (lip_trans P1 P2) (lip_trans P3 P4)) P5
  refine ⟨wb_lip LL (fun k i z => by omega) W.1, ⟨by rw [(LL.2 58 29 (by omega)).1]; exact W.2.1.1, W.2.1.2⟩, csN_lip (c := c) G LL (fun k i z => by omega) W.2.2.1, ⟨by rw [f5]; exact I_eq, fun o ho => ?_⟩⟩
  have ho : o < dK c + 1 := ho
  by_cases e : o = dK c
  · have q1 : dR (addCk c) o = 0 := by rw [e]; exact st1_eq
    have q2 : dT (addCk c) o = false := by rw [e]; exact st1_eq
    have q3 : dJ (addCk c) o = false := by rw [e]; exact st1_eq
    have q4 : dI (addCk c) o = false := by rw [e]; exact st1_eq
    unfold rlN tieN
    rw [q1, q2, q3, q4, e]
    refine ⟨⟨?_, fun i hi => absurd hi (Nat.not_lt_zero _)⟩, ⟨?_, ?_⟩, fun _ => ?_, fun y => by cases y⟩
    · rw [f5, I_ne (by omega), f4, I_ne (by omega), f3, I_ne (by omega), f2, I_ne (by omega), f1]; exact I_eq
    · rw [f5, I_ne (by omega), f4, I_ne (by omega), f3, I_ne (by omega), f2]; exact I_eq
    · rw [f5, I_ne (by omega), f4, I_ne (by omega), f3]; exact I_eq
    · rw [f5, I_ne (by omega), f4]; exact I_eq
  · obtain ⟨s1, s2, s3⟩ := W.2.2.2.2 o (by omega)
    have q1 : dR (addCk c) o = dR c o := st1_ne e
    have q2 : dT (addCk c) o = dT c o := st1_ne e
    have q3 : dJ (addCk c) o = dJ c o := st1_ne e
    have q4 : dI (addCk c) o = dI c o := st1_ne e
    refine ⟨?_, ⟨by rw [q2, (LL.2 76 o (by omega)).1]; exact s2.1, by rw [q3, (LL.2 77 o (by omega)).1]; exact s2.2⟩, ?_⟩
    · have z := rlN_lip (c := c) LL (by omega) (fun i hi => ⟨by omega, by omega, by omega⟩) s1
      unfold rlN at z ⊢
      rw [q1]; exact z
    · have z := tieN_lip (c := c) LL (Nat.le_refl _) (by omega) (fun j hj => by omega) s3
      unfold tieN at z ⊢
      rw [q4]; exact z
theorem q_line {d : Nat} {M0 M : mx_M} {X : TX} {c : CD} {q tp : Nat} {Q : QQ} (G : gdC X c) (W : WM M0 M X c q tp) (hq : lnM M0 X (semF X (lineF X c q)) (fun M1 => Q (.inl none) M1)) : mx_W m_X11_line (d + 7) 0 [.ref 58, .retAddr 0] [] M Q := by
  have g := G.1
  have b7 := tkM_700 W.1.2.1
  have hk := kw_15 X q
  have hl := ln_af (d := d + 4) W.1.1.2 (le5_line X c q) (fun h0 => gdC_line b7.1 G h0) hq
  have G1 := fun h0 => gdC_line b7.1 G h0
  have z4 := fz15_4 hk 4 (by decide)
  have z5 := fz15_4 hk 5 (by decide)
  have z6 := fz15_4 hk 6 (by decide)
  have z8 := fz15_4 hk 8 (by decide)
  have z11 := fz15_4 hk 11 (by decide)
  refine x_X11_line_0 (d := d + 6) W.1.1.1 (q_known (d := d + 4) W.1.1.1 W.1.2.1 ⟨rfl, rfl, _, rfl, ?_⟩)
  rw [show (4 : Int32) = w 4 from rfl, show (5 : Int32) = w 5 from rfl, show (6 : Int32) = w 6 from rfl, show (8 : Int32) = w 8 from rfl, show (11 : Int32) = w 11 from rfl, z4.1, z5.1, z6.2.1, z8.2.2, z11.2.2, W.2.2.2.1, show (0 : Int32) = w 0 from rfl, w_le (by omega) (by omega)]
  have bad : lineF X c q = (1, q, c) → mx_W m_X11_wrong (d + 6) 0 [.ref 58, .int 1] [] M (fun o M3 => mx_sh M3 = mx_sh M ∧ mx_R M3 = mx_R M ∧ (o = .inl none ∧ afL (d + 6) Q M3)) := by
    intro e
    rw [e] at hl
    exact b_wrong (k := 1) W.1 (fun M1 B1 s1 t1 _ => hl.2 (show ¬ (1 : Nat) = 0 by decide) M1 B1)
  refine ⟨fun n4 => ⟨fun n5 => ⟨fun y => bad ?_, fun y => ⟨fun x => bad ?_, fun x => ⟨fun v => bad ?_, fun v => ⟨fun t => ?_, fun t => ?_⟩⟩⟩⟩, fun n5 => ?_⟩, fun n4 => ?_⟩
  · unfold lineF
    rw [if_neg n4, if_neg n5, if_neg (show ¬ (6 ≤ kw X q ∧ kw X q ≤ 8) by omega), if_neg (show ¬ (9 ≤ kw X q ∧ kw X q ≤ 11) by omega)]
    split <;> rfl
  · unfold lineF
    rw [if_neg n4, if_neg n5, if_neg (show ¬ (6 ≤ kw X q ∧ kw X q ≤ 8) by omega), if_neg (show ¬ (9 ≤ kw X q ∧ kw X q ≤ 11) by omega)]
    split <;> rfl
  · unfold lineF
    rw [if_neg n4, if_neg n5, if_pos (by omega)]
  · have e : lineF X c q = mannF X c (kw X q) q := by
      unfold lineF
      rw [if_neg n4, if_neg n5, if_neg (by omega), if_neg (show ¬ (6 ≤ kw X q ∧ kw X q ≤ 8) by omega), if_pos (show 9 ≤ kw X q ∧ kw X q ≤ 11 by omega)]
    rw [e] at hl
    rw [fz_lt (by omega)]
    exact q_readsManner G (by omega) (by omega) (kw_lt (by omega)) W hl
  · have e : lineF X c q = ruleF X c (kw X q - 6) q := by
      unfold lineF
      rw [if_neg n4, if_neg n5, if_neg (by omega), if_pos (show 6 ≤ kw X q ∧ kw X q ≤ 8 by omega)]
    rw [e] at hl
    rw [fz_lt (by omega), w_sub (by omega)]
    exact q_readsRule (d := d + 4) G (by omega) (by omega) W hl
  · have e : lineF X c q = (if dK c = 4 then (2, q, c) else (0, nx X q, addCk c)) := by
      unfold lineF
      rw [if_neg n4, if_pos n5]
    rw [w_inj (by omega) (by omega)]
    refine ⟨fun y => q_isGood W.1.1.1 W.1.2.2 ⟨rfl, rfl, true, rfl, fun _ => wm_goes G W (fun M1 W1 L1 => ⟨L1.1.1, L1.1.2.1, rfl, ?_⟩), fun y => by cases y⟩, fun y => b_wrong (k := 2) W.1 (fun M1 B1 s1 t1 _ => ⟨s1, t1, rfl, b_bad B1 (by omega) ⟨rfl, rfl, false, rfl, (fun y => by cases y), fun _ => ?_⟩⟩)⟩
    · rw [e, if_neg y] at hl hq
      rw [W1.2.2.2.1, w_nat (n := dK c) (by omega)]
      refine ⟨w_in (by omega) (by decide), fun N1 f1 => ?_⟩
      have k1 : mx_I N1 58 28 = w (dK c) := by rw [f1, I_ne (by omega)]; exact W1.2.2.2.1
      rw [k1, w_nat (n := dK c) (by omega)]
      refine ⟨w_in (by omega) (by decide), fun N2 f2 => ?_⟩
      have k2 : mx_I N2 58 28 = w (dK c) := by rw [f2, I_ne (by omega)]; exact k1
      rw [k2, w_nat (n := dK c) (by omega)]
      refine ⟨w_in (by omega) (by decide), fun N3 f3 => ?_⟩
      have k3 : mx_I N3 58 28 = w (dK c) := by rw [f3, I_ne (by omega)]; exact k2
      rw [k3, w_nat (n := dK c) (by omega)]
      refine ⟨w_in (by omega) (by decide), fun N4 f4 N5 f5 => ?_⟩
      have k4 : mx_I N4 58 28 = w (dK c) := by rw [f4, I_ne (by omega)]; exact k3
      rw [k4, w_add1] at f5
      have W5 := w_clerk G y W1 ⟨N1, N2, N3, N4, f1, f2, f3, f4, f5⟩
      exact (hl.1 rfl N5 tp W5).2.2.2
    · rw [e, if_pos y] at hq
      exact hq.2 (show ¬ (2 : Nat) = 0 by decide) M1 B1
  · have e : lineF X c q = cardF X c q := by
      unfold lineF
      rw [if_pos n4]
    rw [e] at hl
    exact q_readsCard (d := d + 3) G W hl
