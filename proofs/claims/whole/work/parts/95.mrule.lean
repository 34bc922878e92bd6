/-! the reference reads a rule -/
theorem q_has_l {d o kd l : Nat} {g : Nat → Nat} {M : mx_M} {X : TX} {c : CD} {Q : QQ} (T : mx_Tp M) (ho : o < 4) (Rn : rlN M X c o) (Rw : rlW (dR c o) (dRk c o) (flX X c o) (fgX X c o) (tlX X c o) (tgX X c o)) (W : wrd l g) (hk : kd ≤ 2) (hq : Q (.inl (some (.int (mx_b (decide (fnd (mtF (dRk c o) (fgX X c o) kd (nm g 8)) 0 (dR c o) < dR c o)))))) M) :
    ∀ (f i : Nat), i + f = dR c o → (∀ j, j < i → mtF (dRk c o) (fgX X c o) kd (nm g 8) j = false) → mx_W m_X11_hasRule d 3 [.ref 58, .int (w o), .int (w kd), .long (u64 (nm g l)), .retAddr 0, .int (w i)] [] M Q
  | 0, i, hi, hn => by
    have r8 := Rw.1
    refine x_X11_hasRule_3 T _ _ _ _ ⟨w_in (by omega) (by decide), ?_⟩
    rw [w_nat (n := o) (by omega), Rn.1, w_le (by omega) (by omega)]
    refine ⟨fun _ => ?_, fun z => absurd (by omega) z⟩
    have e : fnd (mtF (dRk c o) (fgX X c o) kd (nm g 8)) 0 (dR c o) = dR c o := fnd_none (fun j hj => hn j (by omega))
    rw [e, decide_eq_false (Nat.lt_irrefl _)] at hq
    exact hq
  | f + 1, i, hi, hn => by
    have r8 := Rw.1
    have ri := Rw.2.1 i (by omega)
    have mi := Rn.2 i (by omega)
    refine x_X11_hasRule_3 T _ _ _ _ ⟨w_in (by omega) (by decide), ?_⟩
    rw [w_nat (n := o) (by omega), Rn.1, w_le (by omega) (by omega), w_8, w_nat (n := 8 * o + i) (by omega), mi.1, mi.2.1, w_inj (by omega) (by omega), w_add1, u_inj (Nat.lt_of_lt_of_le (nm_40 ri.2.1.2.1 ri.2.1.1.2) (by decide)) (Nat.lt_of_lt_of_le (nm_40 W.2.1 W.1.2) (by decide)), q_match (kd := kd) Rw (by omega) W]
    refine ⟨fun z => absurd z (by omega), fun _ => ⟨w_in (by omega) (by decide), fun z => ?_, fun z => ⟨w_in (by omega) (by decide), fun y => ?_, fun y => ?_⟩⟩⟩
    · refine q_has_l T ho Rn Rw W hk hq f (i + 1) (by omega) (fun j hj => ?_)
      by_cases e : j = i
      · rw [e]; unfold mtF; rw [decide_eq_false z]; rfl
      · exact hn j (by omega)
    · refine q_has_l T ho Rn Rw W hk hq f (i + 1) (by omega) (fun j hj => ?_)
      by_cases e : j = i
      · rw [e]; unfold mtF; rw [decide_eq_false y, Bool.and_false]
      · exact hn j (by omega)
    · have m : mtF (dRk c o) (fgX X c o) kd (nm g 8) i = true := by unfold mtF; rw [decide_eq_true z, decide_eq_true y]; rfl
      have lt : fnd (mtF (dRk c o) (fgX X c o) kd (nm g 8)) 0 (dR c o) < dR c o := by
        rcases Nat.lt_or_ge i (fnd (mtF (dRk c o) (fgX X c o) kd (nm g 8)) 0 (dR c o)) with x | x
        · have := fnd_not (mtF (dRk c o) (fgX X c o) kd (nm g 8)) 0 (dR c o) i (Nat.zero_le _) (by omega)
          rw [m] at this; cases this
        · omega
      rw [decide_eq_true lt] at hq
      exact hq
/-- the cells of a new rule -/
abbrev mR (a : Nat) : Nat → Nat → Prop := fun k i => (k = 75 ∨ k = 82 ∨ k = 83) ∧ i = a
theorem ks_R {M M1 : mx_M} {X : TX} {c : CD} {tp : Nat} (G : gdC X c) (hK : ¬ dK c = 0) (L : lip (mR (8 * (dK c - 1) + dR c (dK c - 1))) M M1) (A : ksN M X c tp) : ksN M1 X c tp := by
  refine ⟨by rw [(L.2 58 28 (by omega)).1]; exact A.1, fun o ho => ?_⟩
  obtain ⟨r1, r2, r3⟩ := A.2 o ho
  have r8 := (G.2.2.1 o ho).1
  refine ⟨rlN_lip L (by omega) (fun i hi => ?_) r1, ⟨by rw [(L.2 76 o (by omega)).1]; exact r2.1, by rw [(L.2 77 o (by omega)).1]; exact r2.2⟩, tieN_lip L (Nat.le_refl _) (by omega) (fun j hj => by omega) r3⟩
  have hne : ¬ 8 * o + i = 8 * (dK c - 1) + dR c (dK c - 1) := fun z => by
    by_cases e : o = dK c - 1
    · rw [e] at hi z; omega
    · omega
  exact ⟨fun z => hne z.2, fun z => hne z.2, fun z => hne z.2⟩
theorem wm_R {M0 M M1 : mx_M} {X : TX} {c : CD} {q tp : Nat} (G : gdC X c) (hK : ¬ dK c = 0) (L : lip (mR (8 * (dK c - 1) + dR c (dK c - 1))) M M1) (W : WM M0 M X c q tp) : WM M0 M1 X c q tp :=
  ⟨wb_lip L (fun k j z => by omega) W.1, ⟨by rw [(L.2 58 29 (by omega)).1]; exact W.2.1.1, W.2.1.2⟩, csN_lip G L (fun k j z => by omega) W.2.2.1, ks_R G hK L W.2.2.2⟩
theorem q_rule_e {d k f t : Nat} {M0 M : mx_M} {X : TX} {c : CD} {q tp : Nat} {Q : QQ} (G : gdC X c) (hK : ¬ dK c = 0) (W : WM M0 M X c q tp) (e5 : mx_I M 75 (8 * (dK c - 1) + dR c (dK c - 1)) = w k) (e2 : mx_J M 82 (8 * (dK c - 1) + dR c (dK c - 1)) = u64 (nm (lt8 X f) (sz X f))) (e3 : ¬ k = 0 → mx_J M 83 (8 * (dK c - 1) + dR c (dK c - 1)) = u64 (nm (lt8 X t) (sz X t))) (hq : ∀ M1, WM M0 M1 X (addRl c k f t) q tp → Q (.inl none) M1) : mx_W m_X11_readsRule (d + 1) 146 [.ref 58, .retAddr 0, .int (w (dK c - 1)), .retAddr 0, .retAddr 0] [] M Q := by
  have g := G.1
  obtain ⟨r1, r2, r3⟩ := W.2.2.2.2 (dK c - 1) (by omega)
  refine x_X11_readsRule_146 W.1.1.1 _ ⟨w_in (by omega) (by decide), w_in (by omega) (by decide), fun M1 f1 => hq M1 ?_⟩
  rw [w_nat (n := dK c - 1) (by omega), r1.1, w_add1] at f1
  have L : lip (fun k i => k = 74 ∧ i = dK c - 1) M M1 := by rw [f1]; exact lip_setI ⟨rfl, rfl⟩
  refine ⟨wb_lip L (fun k j z => by omega) W.1, ⟨by rw [(L.2 58 29 (by omega)).1]; exact W.2.1.1, W.2.1.2⟩, csN_lip (c := c) G L (fun k j z => by omega) W.2.2.1, ⟨by rw [(L.2 58 28 (by omega)).1]; exact W.2.2.2.1, fun o ho => ?_⟩⟩
  have ho : o < dK c := ho
  obtain ⟨s1, s2, s3⟩ := W.2.2.2.2 o ho
  refine ⟨?_, ⟨by rw [(L.2 76 o (by omega)).1]; exact s2.1, by rw [(L.2 77 o (by omega)).1]; exact s2.2⟩, tieN_lip (c := c) L (Nat.le_refl _) (by omega) (fun j hj => by omega) s3⟩
  by_cases e : o = dK c - 1
  · have q1 : dR (addRl c k f t) o = dR c (dK c - 1) + 1 := by rw [e]; exact st1_eq
    have q2 : dRk (addRl c k f t) o = st1 (dRk c (dK c - 1)) (dR c (dK c - 1)) k := by rw [e]; exact st1_eq
    have q3 : dRf (addRl c k f t) o = st1 (dRf c (dK c - 1)) (dR c (dK c - 1)) f := by rw [e]; exact st1_eq
    have q4 : dRt (addRl c k f t) o = st1 (dRt c (dK c - 1)) (dR c (dK c - 1)) t := by rw [e]; exact st1_eq
    unfold rlN fgX flX tgX tlX
    rw [q1, q2, q3, q4]
    refine ⟨by rw [e, f1]; exact I_eq, fun i hi => ?_⟩
    rw [(L.2 75 _ (by omega)).1, (L.2 82 _ (by omega)).2, (L.2 83 _ (by omega)).2, e]
    by_cases ei : i = dR c (dK c - 1)
    · rw [ei, st1_eq, st1_eq, st1_eq]; exact ⟨e5, e2, e3⟩
    · rw [st1_ne ei, st1_ne ei, st1_ne ei]; exact r1.2 i (by omega)
  · have q1 : dR (addRl c k f t) o = dR c o := st1_ne e
    have q2 : dRk (addRl c k f t) o = dRk c o := st1_ne e
    have q3 : dRf (addRl c k f t) o = dRf c o := st1_ne e
    have q4 : dRt (addRl c k f t) o = dRt c o := st1_ne e
    unfold rlN fgX flX tgX tlX
    rw [q1, q2, q3, q4]
    exact rlN_lip (c := c) L (by omega) (fun i hi => ⟨by omega, by omega, by omega⟩) s1
theorem b_rule74 {d k p : Nat} {v1 v2 v3 : Int32} {M0 M : mx_M} {X : TX} {Q : QQ} (B : BM M0 M X k p) (h : 1 ≤ k ∧ k ≤ 5) (hq : Q (.inl none) M) : mx_W m_X11_readsRule (d + 1) 74 [.ref 58, .int v1, .int v2, .int v3, .retAddr 0] [] M Q :=
  x_X11_readsRule_74 B.1.1 _ _ _ (b_bad B h ⟨rfl, rfl, false, rfl, (fun y => by cases y), fun _ => hq⟩)
theorem q_rule_74 {d k : Nat} {M0 M : mx_M} {X : TX} {c : CD} {q tp : Nat} {Q : QQ} (G : gdC X c) (hK : ¬ dK c = 0) (h8 : ¬ 8 ≤ dR c (dK c - 1)) (hk : k ≤ 2) (k1 : knd X q = 1) (ks : sz X q ≤ mst k) (W : WM M0 M X c q tp) (hq : lnM M0 X (if k = 0 then (0, nx X q, addRl c 0 q q) else if knd X (nx X q) = 1 then (if sz X (nx X q) ≤ mst k then (0, nx X (nx X q), addRl c k q (nx X q)) else (2, nx X q, c)) else (1, nx X q, c)) (fun M1 => Q (.inl none) M1)) : mx_W m_X11_readsRule (d + 2) 74 [.ref 58, .int (w k), .int (w (dK c - 1)), .int (w (mst k)), .retAddr 0] [] M Q := by
  have g := G.1
  have mk8 : mst k ≤ 8 := by unfold mst; split <;> omega
  have e74 : mx_I M 74 (dK c - 1) = w (dR c (dK c - 1)) := (W.2.2.2.2 (dK c - 1) (by omega)).1.1
  refine x_X11_readsRule_74 (d := d + 1) W.1.1.1 _ _ _ (q_isGood W.1.1.1 W.1.2.2 ⟨rfl, rfl, true, rfl, fun _ => ?_, fun y => by cases y⟩)
  rw [w_nat (n := dK c - 1) (by omega), e74, w_8, w_nat (n := 8 * (dK c - 1) + dR c (dK c - 1)) (by omega)]
  refine ⟨w_in (by omega) (by decide), w_in (by omega) (by decide), fun M3 f3 => ⟨w_in (by omega) (by decide), fun M4 f4 => ?_⟩⟩
  have e26 : mx_J M3 58 26 = u64 (nm (lt8 X q) (sz X q)) := by
    rw [f3]; show mx_J M 58 26 = _; rw [W.1.2.1.2.1 k1, show m8 (sz X q) = sz X q from if_pos (by omega)]
  rw [e26] at f4
  have L3 : lip (mR (8 * (dK c - 1) + dR c (dK c - 1))) M M3 := by rw [f3]; exact lip_setI ⟨Or.inl rfl, rfl⟩
  have L4 : lip (mR (8 * (dK c - 1) + dR c (dK c - 1))) M3 M4 := by rw [f4]; exact lip_setJ ⟨Or.inr (Or.inl rfl), rfl⟩
  have W4 := wm_R G hK (lip_trans L3 L4) W
  have i5 : mx_I M4 75 (8 * (dK c - 1) + dR c (dK c - 1)) = w k := by rw [f4]; show mx_I M3 _ _ = _; rw [f3]; exact I_eq
  have i2 : mx_J M4 82 (8 * (dK c - 1) + dR c (dK c - 1)) = u64 (nm (lt8 X q) (sz X q)) := by rw [f4]; exact J_eq
  refine wm_goes G W4 (fun M5 W5 L5 => ⟨L5.1.1, L5.1.2.1, rfl, fun y => ?_, fun y => ?_⟩)
  · rw [show (0 : Int32) = w 0 from rfl, w_le (by omega) (by omega)] at y
    have k0 : k = 0 := by omega
    rw [if_pos k0] at hq
    exact q_rule_e (k := 0) (f := q) (t := q) G hK W5 (by rw [(L5.2 75 _ (by omega)).1, i5, k0]) (by rw [(L5.2 82 _ (by omega)).2]; exact i2) (fun z => absurd rfl z) (fun M6 W6 => hq.1 rfl M6 tp W6)
  · rw [show (0 : Int32) = w 0 from rfl, w_le (by omega) (by omega)] at y
    have k0 : ¬ k = 0 := by omega
    rw [if_neg k0] at hq
    refine q_wordHere (m := mst k) W5.1 (by omega) (fun j1 j8 => ⟨rfl, rfl, true, rfl, fun _ => ?_, fun y => by cases y⟩) (fun kk ek nk M6 B6 s6 t6 => ⟨s6, t6, false, rfl, (fun y => by cases y), fun _ => ?_⟩)
    · rw [if_pos j1, if_pos j8] at hq
      refine ⟨w_in (by omega) (by decide), fun M8 f8 => ?_⟩
      rw [W5.1.2.1.2.1 j1, show m8 (sz X (nx X q)) = sz X (nx X q) from if_pos (by omega)] at f8
      have L8 : lip (mR (8 * (dK c - 1) + dR c (dK c - 1))) M5 M8 := by rw [f8]; exact lip_setJ ⟨Or.inr (Or.inr rfl), rfl⟩
      have W8 := wm_R G hK L8 W5
      refine wm_goes G W8 (fun M9 W9 L9 => ⟨L9.1.1, L9.1.2.1, rfl, ?_⟩)
      refine q_rule_e (k := k) (f := q) (t := nx X q) G hK W9 ?_ ?_ (fun _ => ?_) (fun M10 W10 => hq.1 rfl M10 tp W10)
      · rw [(L9.2 75 _ (by omega)).1, f8]; show mx_I M5 _ _ = _; rw [(L5.2 75 _ (by omega)).1]; exact i5
      · rw [(L9.2 82 _ (by omega)).2, f8, J_ne (by omega), (L5.2 82 _ (by omega)).2]; exact i2
      · rw [(L9.2 83 _ (by omega)).2, f8]; exact J_eq
    · by_cases j1 : knd X (nx X q) = 1
      · rw [if_pos j1, if_neg (fun z => nk ⟨j1, z⟩)] at hq
        rw [if_pos j1] at ek
        rw [ek] at B6
        exact hq.2 (show ¬ (2 : Nat) = 0 by decide) M6 B6
      · rw [if_neg j1] at hq ek
        rw [ek] at B6
        exact hq.2 (show ¬ (1 : Nat) = 0 by decide) M6 B6
theorem q_rule_t {d k : Nat} {M0 M : mx_M} {X : TX} {c : CD} {q tp : Nat} {Q : QQ} (G : gdC X c) (hK : ¬ dK c = 0) (h8 : ¬ 8 ≤ dR c (dK c - 1)) (hk : k ≤ 2) (W : WM M0 M X c q tp) (hq : lnM M0 X (if knd X q = 1 then (if sz X q ≤ mst k then (if hasF X c k q = true then (4, q, c) else if k = 0 then (0, nx X q, addRl c 0 q q) else if knd X (nx X q) = 1 then (if sz X (nx X q) ≤ mst k then (0, nx X (nx X q), addRl c k q (nx X q)) else (2, nx X q, c)) else (1, nx X q, c)) else (2, q, c)) else (1, q, c)) (fun M1 => Q (.inl none) M1)) :
    (mx_W m_X11_wordHere (d + 1) 0 [.ref 58, .int (w (mst k))] [] M (fun o M4 => mx_sh M4 = mx_sh M ∧ mx_R M4 = mx_R M ∧ (∃ x5 : Bool, o = .inl (some (.int (mx_b x5))) ∧ ((x5 = true → (mx_W m_X11_hasRule (d + 1) 0 [.ref 58, .int (w (dK c - 1)), .int (w k), .long (mx_J M4 58 26), .retAddr 0, .retAddr 0] [] M4 (fun o M6 => mx_sh M6 = mx_sh M4 ∧ mx_R M6 = mx_R M4 ∧ (∃ x7 : Bool, o = .inl (some (.int (mx_b x7))) ∧ ((x7 = false → mx_W m_X11_readsRule (d + 1 + 1) 74 [.ref 58, .int (w k), .int (w (dK c - 1)), .int (w (mst k)), .retAddr 0] [] M6 Q) ∧ (x7 = true → (mx_W m_X11_wrong (d + 1) 0 [.ref 58, .int 4] [] M6 (fun o M8 => mx_sh M8 = mx_sh M6 ∧ mx_R M8 = mx_R M6 ∧ (o = .inl none ∧ mx_W m_X11_readsRule (d + 1 + 1) 74 [.ref 58, .int (w k), .int (w (dK c - 1)), .int (w (mst k)), .retAddr 0] [] M8 Q))))))))) ∧ (x5 = false → Q (.inl none) M4))))) := by
  have g := G.1
  have mk8 : mst k ≤ 8 := by unfold mst; split <;> omega
  refine q_wordHere (m := mst k) W.1 (by omega) (fun k1 k8 => ⟨rfl, rfl, true, rfl, fun _ => ?_, fun y => by cases y⟩) (fun kk ek nk M1 B1 s1 t1 => ⟨s1, t1, false, rfl, (fun y => by cases y), fun _ => ?_⟩)
  · rw [if_pos k1, if_pos k8] at hq
    rw [W.1.2.1.2.1 k1, show m8 (sz X q) = sz X q from if_pos (by omega)]
    have Rw := G.2.2.1 (dK c - 1) (by omega)
    refine x_X11_hasRule_0 W.1.1.1 _ _ _ (q_has_l (kd := k) W.1.1.1 (by omega) (W.2.2.2.2 (dK c - 1) (by omega)).1 Rw (lt8_wrd k1 (by omega)) hk ⟨rfl, rfl, _, rfl, fun y => ?_, fun y => ?_⟩ (dR c (dK c - 1)) 0 (by omega) (fun j hj => absurd hj (Nat.not_lt_zero _)))
    · have y : hasF X c k q = false := y
      rw [y, if_neg Bool.false_ne_true] at hq
      exact q_rule_74 G hK h8 hk k1 k8 W hq
    · have y : hasF X c k q = true := y
      rw [if_pos y] at hq
      exact b_wrong (k := 4) W.1 (fun M1 B1 s1 t1 _ => ⟨s1, t1, rfl, b_rule74 B1 (by omega) (hq.2 (show ¬ (4 : Nat) = 0 by decide) M1 B1)⟩)
  · by_cases j1 : knd X q = 1
    · rw [if_pos j1, if_neg (fun z => nk ⟨j1, z⟩)] at hq
      rw [if_pos j1] at ek
      rw [ek] at B1
      exact hq.2 (show ¬ (2 : Nat) = 0 by decide) M1 B1
    · rw [if_neg j1] at hq ek
      rw [ek] at B1
      exact hq.2 (show ¬ (1 : Nat) = 0 by decide) M1 B1
theorem q_readsRule {d k : Nat} {M0 M : mx_M} {X : TX} {c : CD} {q tp : Nat} {Q : QQ} (G : gdC X c) (hK : ¬ dK c = 0) (hk : k ≤ 2) (W : WM M0 M X c q tp) (hq : lnM M0 X (ruleF X c k q) (fun M1 => Q (.inl none) M1)) : mx_W m_X11_readsRule (d + 2) 0 [.ref 58, .int (w k), .retAddr 0, .retAddr 0, .retAddr 0] [] M Q := by
  have g := G.1
  have eo : w (dK c) - 1 = w (dK c - 1) := w_sub (a := dK c) (b := 1) (by omega)
  have e74 : mx_I M 74 (dK c - 1) = w (dR c (dK c - 1)) := (W.2.2.2.2 (dK c - 1) (by omega)).1.1
  have r8 := (G.2.2.1 (dK c - 1) (by omega)).1
  unfold ruleF at hq
  refine x_X11_readsRule_0 (d := d + 1) W.1.1.1 _ ?_
  rw [W.2.2.2.1, eo, w_nat (n := dK c - 1) (by omega), e74, show (8 : Int32) = w 8 from rfl, w_inj (by omega) (by omega)]
  refine ⟨w_in (by omega) (by decide), fun z => ?_, fun z => ?_⟩
  · rw [if_neg (by omega)] at hq
    refine x_X11_readsRule_23 (d := d + 1) W.1.1.1 _ _ (q_isGood W.1.1.1 W.1.2.2 ⟨rfl, rfl, true, rfl, fun _ => wm_goes G W (fun M3 W3 L3 => ⟨L3.1.1, L3.1.2.1, rfl, fun y => ?_, fun y => ?_⟩), fun y => by cases y⟩)
    · rw [show (2 : Int32) = w 2 from rfl, w_inj (by omega) (by omega)] at y
      have t := q_rule_t (d := d) G hK (by omega) hk W3 hq
      have em : mst k = 8 := if_neg y
      rw [em] at t
      exact t
    · rw [show (2 : Int32) = w 2 from rfl, w_inj (by omega) (by omega)] at y
      have t := q_rule_t (d := d) G hK (by omega) hk W3 hq
      have em : mst k = 1 := if_pos y
      rw [em] at t
      exact t
  · rw [if_pos (by omega)] at hq
    exact b_wrong (k := 2) W.1 (fun M1 B1 s1 t1 _ => ⟨s1, t1, rfl, x_X11_readsRule_23 (d := d + 1) B1.1.1 _ _ (b_bad B1 (by omega) ⟨rfl, rfl, false, rfl, (fun y => by cases y), fun _ => hq.2 (show ¬ (2 : Nat) = 0 by decide) M1 B1⟩)⟩)
