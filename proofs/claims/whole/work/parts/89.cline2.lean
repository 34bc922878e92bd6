/-! the class reads clerks and rules -/
theorem p_takeClerk {d : Nat} {M0 M : mx_M} {X : TX} {u q s : Nat} {c : CD} {Q : QQ} (hu : mx_Cat u) (G : gdC X c) (W : WC M0 M X u c q s) (hq : lnC M0 X u (if dK c = 4 then (2, q, c) else (0, nx X q, addCk c)) (fun b M1 => Q (.inl (some (.int (mx_b b)))) M1)) : mx_W m_X4_takeClerk (d + 3) 0 [.ref 2] [] M Q := by
  have c11 := cat_no hu
  have g := G.1
  have W0 := W
  obtain ⟨⟨T, hu0, L0⟩, A, ⟨h64, hs, h23⟩, CS, ⟨k1, k2, k3, k4⟩⟩ := W
  refine x_X4_takeClerk_0 (d := d + 2) T u hu hu0 ?_
  rw [k1, show (4 : Int32) = w 4 from rfl, w_inj (by omega) (by omega)]
  refine ⟨fun z => ?_, fun z => ?_⟩
  · rw [if_neg z] at hq
    refine x_X1_addClerk_0 T u hu ?_
    rw [k1, show (4 : Int32) = w 4 from rfl, w_le (by omega) (by omega), w_nat (n := dK c) (by omega)]
    refine ⟨fun v => absurd v (by omega), fun _ => ⟨w_in (by omega) (by decide), fun M1 f1 => ?_⟩⟩
    have e1 : mx_I M1 u 13 = w (dK c) := by rw [f1, I_ne (by omega)]; exact k1
    rw [e1, w_nat (n := dK c) (by omega)]
    refine ⟨w_in (by omega) (by decide), fun M2 f2 => ?_⟩
    have e2 : mx_I M2 u 13 = w (dK c) := by rw [f2, I_ne (by omega)]; exact e1
    rw [e2, w_nat (n := dK c) (by omega)]
    refine ⟨w_in (by omega) (by decide), fun M3 f3 => ?_⟩
    have e3 : mx_I M3 u 13 = w (dK c) := by rw [f3, I_ne (by omega)]; exact e2
    rw [e3, w_nat (n := dK c) (by omega)]
    refine ⟨w_in (by omega) (by decide), fun M4 f4 M5 f5 => ?_⟩
    have e4 : mx_I M4 u 13 = w (dK c) := by rw [f4, I_ne (by omega)]; exact e3
    rw [e4, w_add1] at f5
    have fI : ∀ k i, ¬ (k = u ∧ i = 13) → ¬ (i = dK c ∧ (k = u + 5 ∨ k = u + 9 ∨ k = u + 10 ∨ k = u + 11)) → mx_I M5 k i = mx_I M k i := fun k i a b => by rw [f5, I_ne (by omega), f4, I_ne (by omega), f3, I_ne (by omega), f2, I_ne (by omega), f1, I_ne (by omega)]
    have P1 : lip (fun k i => (k = u ∧ i = 13) ∨ (i = dK c ∧ (k = u + 5 ∨ k = u + 9 ∨ k = u + 10 ∨ k = u + 11))) M M1 := by rw [f1]; exact lip_setI (Or.inr ⟨rfl, Or.inl rfl⟩)
    have P2 : lip (fun k i => (k = u ∧ i = 13) ∨ (i = dK c ∧ (k = u + 5 ∨ k = u + 9 ∨ k = u + 10 ∨ k = u + 11))) M1 M2 := by rw [f2]; exact lip_setI (Or.inr ⟨rfl, by omega⟩)
    have P3 : lip (fun k i => (k = u ∧ i = 13) ∨ (i = dK c ∧ (k = u + 5 ∨ k = u + 9 ∨ k = u + 10 ∨ k = u + 11))) M2 M3 := by rw [f3]; exact lip_setI (Or.inr ⟨rfl, by omega⟩)
    have P4 : lip (fun k i => (k = u ∧ i = 13) ∨ (i = dK c ∧ (k = u + 5 ∨ k = u + 9 ∨ k = u + 10 ∨ k = u + 11))) M3 M4 := by rw [f4]; exact lip_setI (Or.inr ⟨rfl, by omega⟩)
    have P5 : lip (fun k i => (k = u ∧ i = 13) ∨ (i = dK c ∧ (k = u + 5 ∨ k = u + 9 ∨ k = u + 10 ∨ k = u + 11))) M4 M5 := by rw [f5]; exact lip_setI (Or.inl ⟨rfl, rfl⟩)
    have LL := lip_trans (lip_trans (lip_trans P1 P2) (lip_trans P3 P4)) P5
    have W5 : WC M0 M5 X u (addCk c) q s := by
      refine ⟨⟨lip_T LL T, by rw [LL.1.2.1]; exact hu0, lip_trans L0 (lip_mono LL (fun k i z => by show _ ∨ _; omega))⟩, tkC_E LL (fun k i z => by omega) A, ⟨by rw [(LL.2 6 4 (by omega)).1]; exact h64, hs, z23_lip LL (by omega) (by omega) h23⟩, csC_lip LL (fun k i z => by omega) CS, ⟨?_, fun o ho => ?_, fun o ho => ?_, fun o ho hi => ?_⟩⟩
      · rw [f5]; exact I_eq
      · have ho : o < dK c + 1 := ho
        show rlC M5 u o (st1 (dR c) (dK c) 0 o) (dRk c o) (fgX X c o) (tgX X c o)
        by_cases e : o = dK c
        · rw [e, st1_eq]
          refine ⟨by omega, ?_, fun i hi => absurd hi (Nat.not_lt_zero _)⟩
          rw [f5, I_ne (by omega), f4, I_ne (by omega), f3, I_ne (by omega), f2, I_ne (by omega), f1]; exact I_eq
        · rw [st1_ne e]
          obtain ⟨r1, r2, r3⟩ := k2 o (by omega)
          refine ⟨r1, ?_, fun i hi => ⟨?_, ?_, fun y => ?_⟩⟩
          · rw [(LL.2 (u + 5) o (by omega)).1]; exact r2
          · rw [(LL.2 (u + 6) _ (by omega)).1]; exact (r3 i hi).1
          · rw [(LL.2 (u + 7) _ (by omega)).2]; exact (r3 i hi).2.1
          · rw [(LL.2 (u + 8) _ (by omega)).2]; exact (r3 i hi).2.2 y
      · have ho : o < dK c + 1 := ho
        show mx_I M5 (u + 5) o = w (st1 (dR c) (dK c) 0 o) ∧ mx_I M5 (u + 9) o = mx_b (st1 (dT c) (dK c) false o) ∧ mx_I M5 (u + 10) o = mx_b (st1 (dJ c) (dK c) false o) ∧ mx_I M5 (u + 11) o = mx_b (st1 (dI c) (dK c) false o)
        by_cases e : o = dK c
        · rw [e, st1_eq, st1_eq, st1_eq, st1_eq]
          refine ⟨?_, ?_, ?_, ?_⟩
          · rw [f5, I_ne (by omega), f4, I_ne (by omega), f3, I_ne (by omega), f2, I_ne (by omega), f1]; exact I_eq
          · rw [f5, I_ne (by omega), f4, I_ne (by omega), f3, I_ne (by omega), f2]; exact I_eq
          · rw [f5, I_ne (by omega), f4, I_ne (by omega), f3]; exact I_eq
          · rw [f5, I_ne (by omega), f4]; exact I_eq
        · rw [st1_ne e, st1_ne e, st1_ne e, st1_ne e]
          rw [(LL.2 (u + 5) o (by omega)).1, (LL.2 (u + 9) o (by omega)).1, (LL.2 (u + 10) o (by omega)).1, (LL.2 (u + 11) o (by omega)).1]
          exact k3 o (by omega)
      · have ho : o < dK c + 1 := ho
        have hi : st1 (dI c) (dK c) false o = true := hi
        by_cases e : o = dK c
        · rw [e, st1_eq] at hi; cases hi
        · rw [st1_ne e] at hi
          exact tieC_lip LL (fun k i z => by omega) k4 o (by omega) hi
    refine ⟨LL.1.1, LL.1.2.1, rfl, wc_step hu W5 (fun M6 W6 L6 => ⟨L6.1.1, L6.1.2.1, rfl, hq.1 rfl M6 s W6⟩)⟩
  · rw [if_pos z] at hq
    exact b_ref (k := 2) hu W0.1 W0.2.1 (fun M1 a b e f g i j => ⟨i, j, _, rfl, hq.2 (show ¬ (2 : Nat) = 0 by decide) M1 a b e f g⟩)
theorem p_ruleKind {d : Nat} {M0 M : mx_M} {X : TX} {u q s : Nat} {c : CD} {Q : QQ} (hu : mx_Cat u) (W : WC M0 M X u c q s) (hk : 6 ≤ kw X q ∧ kw X q ≤ 8) (hq : Q (.inl (some (.int (w (kw X q - 6))))) M) : mx_W m_X4_ruleKindHere (d + 6) 0 [.ref 2] [] M Q := by
  refine x_X4_ruleKindHere_0 (d := d + 5) W.1.1 u hu W.1.2.1 (p_isWord (k := 6) W.1.1 W.2.1 (by decide) ⟨rfl, rfl, _, rfl, fun y => p_isWord (k := 7) W.1.1 W.2.1 (by decide) ⟨rfl, rfl, _, rfl, fun z => ?_, fun z => ?_⟩, fun y => ?_⟩)
  · have y := of_decide_eq_false y
    have z := of_decide_eq_false z
    rw [show kw X q - 6 = 2 by omega] at hq; exact hq
  · have z := of_decide_eq_true z
    rw [z] at hq; exact hq
  · have y := of_decide_eq_true y
    rw [y] at hq; exact hq
theorem p_addRule {d k f t : Nat} {v2 v4 : Int64} {M0 M : mx_M} {X : TX} {u q s : Nat} {c : CD} {Q : QQ} (hu : mx_Cat u) (G : gdC X c) (hK : ¬ dK c = 0) (h8 : ¬ 8 ≤ dR c (dK c - 1)) (W : WC M0 M X u c q s) (e2 : v2 = u64 (nm (lt8 X f) 8)) (e4 : ¬ k = 0 → v4 = u64 (nm (lt8 X t) 8)) (hq : ∀ M1, WC M0 M1 X u (addRl c k f t) q s → mx_sh M1 = mx_sh M → mx_R M1 = mx_R M → Q (.inl none) M1) : mx_W m_X1_addRule d 0 [.ref u, .int (w k), .long v2, .retAddr 0, .long v4, .retAddr 0, .retAddr 0, .retAddr 0] [] M Q := by
  have c11 := cat_no hu
  have g := G.1
  obtain ⟨⟨T, hu0, L0⟩, A, ⟨h64, hs, h23⟩, CS, ⟨k1, k2, k3, k4⟩⟩ := W
  have eo : w (dK c) - 1 = w (dK c - 1) := w_sub (a := dK c) (b := 1) (by omega)
  have r5 := (k3 (dK c - 1) (by omega)).1
  refine x_X1_addRule_0 T u hu _ _ _ ?_
  rw [k1, eo, w_nat (n := dK c - 1) (by omega), r5, show (8 : Int32) = w 8 from rfl, w_le (by omega) (by omega), w_mul, w_add, w_nat (n := (dK c - 1) * 8 + dR c (dK c - 1)) (by omega)]
  refine ⟨fun z => absurd z (w_pos (by omega)), fun _ => ⟨w_in (by omega) (by decide), fun z => absurd z h8, fun _ => ⟨w_in (by omega) (by decide), w_in (by omega) (by decide), fun M1 f1 => ⟨w_in (by omega) (by decide), fun M2 f2 => ⟨w_in (by omega) (by decide), fun M3 f3 => ⟨w_in (by omega) (by decide), w_in (by omega) (by decide), fun M4 f4 => ?_⟩⟩⟩⟩⟩⟩
  have e5 : mx_I M3 (u + 5) (dK c - 1) = w (dR c (dK c - 1)) := by rw [f3]; show mx_I M2 _ _ = _; rw [f2]; show mx_I M1 _ _ = _; rw [f1, I_ne (by omega)]; exact r5
  rw [e5, w_add1] at f4
  have P1 : lip (fun k i => (k = u + 5 ∧ i = dK c - 1) ∨ ((k = u + 6 ∨ k = u + 7 ∨ k = u + 8) ∧ i = (dK c - 1) * 8 + dR c (dK c - 1))) M M1 := by rw [f1]; exact lip_setI (Or.inr ⟨Or.inl rfl, rfl⟩)
  have P2 : lip (fun k i => (k = u + 5 ∧ i = dK c - 1) ∨ ((k = u + 6 ∨ k = u + 7 ∨ k = u + 8) ∧ i = (dK c - 1) * 8 + dR c (dK c - 1))) M1 M2 := by rw [f2]; exact lip_setJ (Or.inr ⟨Or.inr (Or.inl rfl), rfl⟩)
  have P3 : lip (fun k i => (k = u + 5 ∧ i = dK c - 1) ∨ ((k = u + 6 ∨ k = u + 7 ∨ k = u + 8) ∧ i = (dK c - 1) * 8 + dR c (dK c - 1))) M2 M3 := by rw [f3]; exact lip_setJ (Or.inr ⟨Or.inr (Or.inr rfl), rfl⟩)
  have P4 : lip (fun k i => (k = u + 5 ∧ i = dK c - 1) ∨ ((k = u + 6 ∨ k = u + 7 ∨ k = u + 8) ∧ i = (dK c - 1) * 8 + dR c (dK c - 1))) M3 M4 := by rw [f4]; exact lip_setI (Or.inl ⟨rfl, rfl⟩)
  have LL := lip_trans (lip_trans P1 P2) (lip_trans P3 P4)
  have n6 : mx_I M4 (u + 6) ((dK c - 1) * 8 + dR c (dK c - 1)) = w k := by rw [f4, I_ne (by omega), f3]; show mx_I M2 _ _ = _; rw [f2]; show mx_I M1 _ _ = _; rw [f1]; exact I_eq
  have n7 : mx_J M4 (u + 7) ((dK c - 1) * 8 + dR c (dK c - 1)) = v2 := by rw [f4]; show mx_J M3 _ _ = _; rw [f3, J_ne (by omega), f2]; exact J_eq
  have n8 : mx_J M4 (u + 8) ((dK c - 1) * 8 + dR c (dK c - 1)) = v4 := by rw [f4]; show mx_J M3 _ _ = _; rw [f3]; exact J_eq
  have n5 : mx_I M4 (u + 5) (dK c - 1) = w (dR c (dK c - 1) + 1) := by rw [f4]; exact I_eq
  refine hq M4 ⟨⟨lip_T LL T, by rw [LL.1.2.1]; exact hu0, lip_trans L0 (lip_mono LL (fun k i z => by show _ ∨ _; omega))⟩, tkC_E LL (fun k i z => by omega) A, ⟨by rw [(LL.2 6 4 (by omega)).1]; exact h64, hs, z23_lip LL (by omega) (by omega) h23⟩, csC_lip LL (fun k i z => by omega) CS, ⟨by rw [(LL.2 u 13 (by omega)).1]; exact k1, fun o ho => ?_, fun o ho => ?_, tieC_lip LL (fun k i z => by omega) k4⟩⟩ LL.1.1 LL.1.2.1
  · have ho : o < dK c := ho
    obtain ⟨r1, r2, r3⟩ := k2 o ho
    by_cases e : o = dK c - 1
    · have q1 : dR (addRl c k f t) o = dR c (dK c - 1) + 1 := by rw [e]; exact st1_eq
      have q2 : dRk (addRl c k f t) o = st1 (dRk c (dK c - 1)) (dR c (dK c - 1)) k := by rw [e]; exact st1_eq
      have q3 : dRf (addRl c k f t) o = st1 (dRf c (dK c - 1)) (dR c (dK c - 1)) f := by rw [e]; exact st1_eq
      have q4 : dRt (addRl c k f t) o = st1 (dRt c (dK c - 1)) (dR c (dK c - 1)) t := by rw [e]; exact st1_eq
      refine ⟨r1, by rw [q1, e]; exact n5, fun i hi => ?_⟩
      rw [q1] at hi
      unfold fgX tgX
      rw [q2, q3, q4]
      by_cases ei : i = dR c (dK c - 1)
      · rw [e, ei, show 8 * (dK c - 1) + dR c (dK c - 1) = (dK c - 1) * 8 + dR c (dK c - 1) by omega, st1_eq, st1_eq, st1_eq]
        exact ⟨n6, by rw [n7, e2], fun y => by rw [n8, e4 y]⟩
      · rw [st1_ne ei, st1_ne ei, st1_ne ei]
        have rr := r3 i (by rw [e]; omega)
        rw [e] at rr ⊢
        exact ⟨by rw [(LL.2 (u + 6) _ (by omega)).1]; exact rr.1, by rw [(LL.2 (u + 7) _ (by omega)).2]; exact rr.2.1, fun y => by rw [(LL.2 (u + 8) _ (by omega)).2]; exact rr.2.2 y⟩
    · have q1 : dR (addRl c k f t) o = dR c o := st1_ne e
      have q2 : dRk (addRl c k f t) o = dRk c o := st1_ne e
      have q3 : dRf (addRl c k f t) o = dRf c o := st1_ne e
      have q4 : dRt (addRl c k f t) o = dRt c o := st1_ne e
      have rl := (G.2.2.1 o ho).1
      refine ⟨r1, by rw [q1, (LL.2 (u + 5) o (by omega)).1]; exact r2, fun i hi => ?_⟩
      rw [q1] at hi
      unfold fgX tgX
      rw [q2, q3, q4]
      have rr := r3 i hi
      exact ⟨by rw [(LL.2 (u + 6) _ (by omega)).1]; exact rr.1, by rw [(LL.2 (u + 7) _ (by omega)).2]; exact rr.2.1, fun y => by rw [(LL.2 (u + 8) _ (by omega)).2]; exact rr.2.2 y⟩
  · have ho : o < dK c := ho
    have r := k3 o ho
    have q1 : dR (addRl c k f t) o = st1 (dR c) (dK c - 1) (dR c (dK c - 1) + 1) o := rfl
    refine ⟨?_, by rw [(LL.2 (u + 9) o (by omega)).1]; exact r.2.1, by rw [(LL.2 (u + 10) o (by omega)).1]; exact r.2.2.1, by rw [(LL.2 (u + 11) o (by omega)).1]; exact r.2.2.2⟩
    rw [q1]
    by_cases e : o = dK c - 1
    · rw [e, st1_eq]; exact n5
    · rw [st1_ne e, (LL.2 (u + 5) o (by omega)).1]; exact r.1
