/-! the class reads a manner and a line -/
theorem bool4 {u v : Nat} (hu : mx_Cat u) (hv : v = u + 9 ∨ v = u + 10 ∨ v = u + 11) : mx_shp0 v = some (.inr (.boolean, 4)) := by
  rcases hu with h | h <;> rcases hv with g | g | g <;> subst h <;> subst g <;> rfl
abbrev cV (v o : Nat) : Nat → Nat → Prop := fun k j => (k = 3 ∧ 2 ≤ j ∧ j ≤ 6) ∨ (k = v ∧ j = o)
theorem p_takeOnce {d v : Nat} {b : Bool} {M0 M : mx_M} {X : TX} {u q s : Nat} {c : CD} {Q : QQ} (hu : mx_Cat u) (G : gdC X c) (hK : ¬ dK c = 0) (hv : v = u + 9 ∨ v = u + 10 ∨ v = u + 11) (W : WC M0 M X u c q s) (eb : mx_I M v (dK c - 1) = mx_b b)
    (h1 : b = true → ∀ M1, mx_Tp M1 → mx_R M1 2 2 = u → lip (cB u) M0 M1 → mx_I M1 2 3 = w 5 → mx_I M1 2 4 = w q → mx_sh M1 = mx_sh M → mx_R M1 = mx_R M → Q (.inl (some (.int (mx_b false)))) M1)
    (h2 : b = false → ∀ M1, lip (cV v (dK c - 1)) M M1 → mx_I M1 v (dK c - 1) = mx_b true → tkC M1 X (nx X q) → Q (.inl (some (.int (mx_b true)))) M1) : mx_W m_X4_takeOnce (d + 3) 0 [.ref 2, .ref v, .retAddr 0] [] M Q := by
  have g := G.1
  have c11 := cat_no hu
  have k1 := W.2.2.2.2.1
  have eo : w (dK c) - 1 = w (dK c - 1) := w_sub (a := dK c) (b := 1) (by omega)
  refine x_X4_takeOnce_0 (d := d + 2) W.1.1 u hu W.1.2.1 v (bool4 hu hv) ?_
  rw [k1, eo, w_nat (n := dK c - 1) (by omega), eb]
  refine ⟨fun z => absurd z (w_pos (by omega)), fun _ => ⟨w_in (by omega) (by decide), fun z => ⟨w_in (by omega) (by decide), fun M1 f1 => ?_⟩, fun z => ?_⟩⟩
  · have hb : b = false := by
      cases b
      · rfl
      · exact absurd z (by decide)
    have L1 : lip (fun k j => k = v ∧ j = dK c - 1) M M1 := by rw [f1]; exact lip_setI ⟨rfl, rfl⟩
    have A1 := tkC_E L1 (fun k j z => by omega) W.2.1
    refine p_step (lip_T L1 W.1.1) A1 (fun M2 L2 A2 => ⟨L2.1.1, L2.1.2.1, rfl, h2 hb M2 (lip_trans (lip_mono L1 (fun _ _ z => Or.inr z)) (lip_mono L2 (fun _ _ z => Or.inl z))) ?_ A2⟩)
    rw [(L2.2 v _ (by omega)).1, f1]; exact I_eq
  · have hb : b = true := by
      cases b
      · exact absurd rfl z
      · rfl
    exact b_ref (k := 5) hu W.1 W.2.1 (fun M1 a b e f g i j => ⟨i, j, _, rfl, h1 hb M1 a b e f g i j⟩)
theorem wc_flag {v : Nat} {T2 J2 : Nat → Bool} {M0 M M1 : mx_M} {X : TX} {u q s : Nat} {c : CD} (hu : mx_Cat u) (hv : v = u + 9 ∨ v = u + 10 ∨ v = u + 11) (W : WC M0 M X u c q s) (L : lip (cV v (dK c - 1)) M M1) (A1 : tkC M1 X (nx X q)) (hc : clC M1 u (dK c) (dR c) T2 J2 (dI c)) : WC M0 M1 X u (c.1, c.2.1, (T2, J2, dI c, dL c)) (nx X q) s := by
  have c11 := cat_no hu
  have b7 := tkC_700 W.2.1
  obtain ⟨⟨T, hu0, L0⟩, A, ⟨h64, hs, h23⟩, CS, ⟨k1, k2, k3, k4⟩⟩ := W
  have n := nx_le X b7.1
  refine ⟨⟨lip_T L T, by rw [L.1.2.1]; exact hu0, lip_trans L0 (lip_mono L (fun k i z => by show _ ∨ _; omega))⟩, A1, ⟨by rw [(L.2 6 4 (by omega)).1]; exact h64, by omega, z23_lip L (by omega) (by omega) h23⟩, csC_lip L (fun k i z => by omega) CS, ⟨by rw [(L.2 u 13 (by omega)).1]; exact k1, fun o ho => ?_, hc, tieC_lip L (fun k i z => by omega) k4⟩⟩
  obtain ⟨r1, r2, r3⟩ := k2 o ho
  refine ⟨r1, ?_, fun i hi => ⟨?_, ?_, fun y => ?_⟩⟩
  · rw [(L.2 (u + 5) o (by omega)).1]; exact r2
  · rw [(L.2 (u + 6) _ (by omega)).1]; exact (r3 i hi).1
  · rw [(L.2 (u + 7) _ (by omega)).2]; exact (r3 i hi).2.1
  · rw [(L.2 (u + 8) _ (by omega)).2]; exact (r3 i hi).2.2 y
theorem p_takeT {d : Nat} {M0 M : mx_M} {X : TX} {u q s : Nat} {c : CD} {Q : QQ} (hu : mx_Cat u) (G : gdC X c) (hK : ¬ dK c = 0) (W : WC M0 M X u c q s) (hq : lnC M0 X u (if dT c (dK c - 1) = true then (5, q, c) else (0, nx X q, setT c)) (fun b M1 => Q (.inl (some (.int (mx_b b)))) M1)) : mx_W m_X4_takeOnce (d + 3) 0 [.ref 2, .ref (u + 9), .retAddr 0] [] M Q := by
  have c11 := cat_no hu
  have k3 := W.2.2.2.2.2.2.1
  refine p_takeOnce (v := u + 9) (b := dT c (dK c - 1)) hu G hK (Or.inl rfl) W (k3 (dK c - 1) (by omega)).2.1 (fun y M1 a b e f g _ _ => ?_) (fun y M1 L1 e1 A1 => ?_)
  · rw [if_pos y] at hq
    exact hq.2 (show ¬ (5 : Nat) = 0 by decide) M1 a b e f g
  · rw [y, if_neg Bool.false_ne_true] at hq
    refine hq.1 rfl M1 s (wc_flag hu (Or.inl rfl) W L1 A1 (fun o ho => ?_))
    have r := k3 o ho
    refine ⟨by rw [(L1.2 (u + 5) o (by omega)).1]; exact r.1, ?_, by rw [(L1.2 (u + 10) o (by omega)).1]; exact r.2.2.1, by rw [(L1.2 (u + 11) o (by omega)).1]; exact r.2.2.2⟩
    by_cases e : o = dK c - 1
    · rw [e, st1_eq]; exact e1
    · rw [st1_ne e, (L1.2 (u + 9) o (by omega)).1]; exact r.2.1
theorem p_takeJ {d : Nat} {M0 M : mx_M} {X : TX} {u q s : Nat} {c : CD} {Q : QQ} (hu : mx_Cat u) (G : gdC X c) (hK : ¬ dK c = 0) (W : WC M0 M X u c q s) (hq : lnC M0 X u (if dJ c (dK c - 1) = true then (5, q, c) else (0, nx X q, setJ c)) (fun b M1 => Q (.inl (some (.int (mx_b b)))) M1)) : mx_W m_X4_takeOnce (d + 3) 0 [.ref 2, .ref (u + 10), .retAddr 0] [] M Q := by
  have c11 := cat_no hu
  have k3 := W.2.2.2.2.2.2.1
  refine p_takeOnce (v := u + 10) (b := dJ c (dK c - 1)) hu G hK (Or.inr (Or.inl rfl)) W (k3 (dK c - 1) (by omega)).2.2.1 (fun y M1 a b e f g _ _ => ?_) (fun y M1 L1 e1 A1 => ?_)
  · rw [if_pos y] at hq
    exact hq.2 (show ¬ (5 : Nat) = 0 by decide) M1 a b e f g
  · rw [y, if_neg Bool.false_ne_true] at hq
    refine hq.1 rfl M1 s (wc_flag hu (Or.inr (Or.inl rfl)) W L1 A1 (fun o ho => ?_))
    have r := k3 o ho
    refine ⟨by rw [(L1.2 (u + 5) o (by omega)).1]; exact r.1, by rw [(L1.2 (u + 9) o (by omega)).1]; exact r.2.1, ?_, by rw [(L1.2 (u + 11) o (by omega)).1]; exact r.2.2.2⟩
    by_cases e : o = dK c - 1
    · rw [e, st1_eq]; exact e1
    · rw [st1_ne e, (L1.2 (u + 10) o (by omega)).1]; exact r.2.2.1
theorem p_takeTie {d : Nat} {M0 M : mx_M} {X : TX} {u q s : Nat} {c : CD} {Q : QQ} (hu : mx_Cat u) (G : gdC X c) (hK : ¬ dK c = 0) (W : WC M0 M X u c q s) (hq : lnC M0 X u (if dI c (dK c - 1) = true then (5, q, c) else if (exprF X 6 (nx X q)).1 = 0 then (0, (exprF X 6 (nx X q)).2.1, setI c (exprF X 6 (nx X q)).2.2) else ((exprF X 6 (nx X q)).1, (exprF X 6 (nx X q)).2.1, c)) (fun b M1 => Q (.inl (some (.int (mx_b b)))) M1)) : mx_W m_X4_takeTie (d + 49) 0 [.ref 2, .retAddr 0, .retAddr 0] [] M Q := by
  have c11 := cat_no hu
  have g := G.1
  have k3 := W.2.2.2.2.2.2.1
  have b7 := tkC_700 W.2.1
  have n := nx_le X b7.1
  have eo : w (dK c) - 1 = w (dK c - 1) := w_sub (a := dK c) (b := 1) (by omega)
  refine x_X4_takeTie_0 (d := d + 48) W.1.1 u hu W.1.2.1 (p_takeOnce (d := d + 45) (v := u + 11) (b := dI c (dK c - 1)) hu G hK (Or.inr (Or.inr rfl)) W (k3 (dK c - 1) (by omega)).2.2.2 (fun y M1 a b e f g i j => ⟨i, j, false, rfl, (fun z => by cases z), fun _ => ?_⟩) (fun y M1 L1 e1 A1 => ⟨L1.1.1, L1.1.2.1, true, rfl, fun _ => ?_, fun z => by cases z⟩))
  · rw [if_pos y] at hq
    exact hq.2 (show ¬ (5 : Nat) = 0 by decide) M1 a b e f g
  · rw [y, if_neg Bool.false_ne_true] at hq
    obtain ⟨⟨T, hu0, L0⟩, A, ⟨h64, hs, h23⟩, CS, ⟨k1, k2, k3, k4⟩⟩ := W
    have e13 : mx_I M1 u 13 = w (dK c) := by rw [(L1.2 u 13 (by omega)).1]; exact k1
    have e64 : mx_I M1 6 4 = w s := by rw [(L1.2 6 4 (by omega)).1]; exact h64
    rw [e13, eo, w_nat (n := dK c - 1) (by omega), e64]
    refine ⟨w_in (by omega) (by decide), fun M3 f3 => ?_⟩
    have L3 : lip (fun k j => k = 8 ∧ j = dK c - 1) M1 M3 := by rw [f3]; exact lip_setI ⟨rfl, rfl⟩
    have T3 := lip_T L3 (lip_T L1 T)
    have A3 := tkC_E L3 (fun k j z => by omega) A1
    have u3 : mx_R M3 2 2 = u := by rw [L3.1.2.1, L1.1.2.1]; exact hu0
    have LL3 : lip (fun k j => (k = 3 ∧ 2 ≤ j ∧ j ≤ 6) ∨ (j = dK c - 1 ∧ (k = u + 11 ∨ k = 8))) M M3 := lip_trans (lip_mono L1 (fun k j z => by omega)) (lip_mono L3 (fun k j z => by omega))
    refine c_expr hu 6 0 d (by omega) M3 (nx X q) s _ T3 u3 A3 (by rw [f3, I_ne (by omega)]; exact e64) (by omega) ⟨fun h0 M4 L4 A4 h4 st => ⟨L4.1.1, L4.1.2.1, true, rfl, w_in (by omega) (by decide), fun M6 f6 => ?_⟩, fun h0 M4 L4 k43 k44 => ⟨L4.1.1, L4.1.2.1, false, rfl, w_in (by omega) (by decide), fun M6 f6 => ?_⟩⟩
    · rw [if_pos h0] at hq
      rw [h4] at f6
      have gl := gd_expr X 6 (nx X q) n.2 h0
      have L6 : lip (fun k j => k = 9 ∧ j = dK c - 1) M4 M6 := by rw [f6]; exact lip_setI ⟨rfl, rfl⟩
      have LL : lip (fun k j => (k = 3 ∧ 2 ≤ j ∧ j ≤ 6) ∨ (k = 6 ∧ j = 4) ∨ (k = 7 ∧ s ≤ j) ∨ (j = dK c - 1 ∧ (k = u + 11 ∨ k = 8 ∨ k = 9))) M M6 := lip_trans (lip_mono LL3 (fun k j z => by omega)) (lip_trans (lip_mono L4 (fun k j z => by omega)) (lip_mono L6 (fun k j z => by omega)))
      have h23' : z23 M6 := z23_lip LL (by omega) (by omega) h23
      refine hq.1 rfl M6 (s + (exprF X 6 (nx X q)).2.2.length) ⟨⟨lip_T LL T, by rw [LL.1.2.1]; exact hu0, lip_trans L0 (lip_mono LL (fun k i z => by show _ ∨ _; omega))⟩, tkC_E L6 (fun k j z => by omega) A4, ⟨by rw [f6, I_ne (by omega)]; exact h4, by show _ ≤ (exprF X 6 (nx X q)).2.1; omega, h23'⟩, csC_lip LL (fun k i z => by omega) CS, ⟨by rw [(LL.2 u 13 (by omega)).1]; exact k1, fun o ho => ?_, fun o ho => ?_, fun o ho hi => ?_⟩⟩
      · obtain ⟨r1, r2, r3⟩ := k2 o ho
        refine ⟨r1, ?_, fun i hi => ⟨?_, ?_, fun y => ?_⟩⟩
        · rw [(LL.2 (u + 5) o (by omega)).1]; exact r2
        · rw [(LL.2 (u + 6) _ (by omega)).1]; exact (r3 i hi).1
        · rw [(LL.2 (u + 7) _ (by omega)).2]; exact (r3 i hi).2.1
        · rw [(LL.2 (u + 8) _ (by omega)).2]; exact (r3 i hi).2.2 y
      · have ho : o < dK c := ho
        have r := k3 o ho
        refine ⟨by rw [(LL.2 (u + 5) o (by omega)).1]; exact r.1, by rw [(LL.2 (u + 9) o (by omega)).1]; exact r.2.1, by rw [(LL.2 (u + 10) o (by omega)).1]; exact r.2.2.1, ?_⟩
        show mx_I M6 (u + 11) o = mx_b (st1 (dI c) (dK c - 1) true o)
        by_cases e : o = dK c - 1
        · rw [e, st1_eq, f6, I_ne (by omega), (L4.2 (u + 11) _ (by omega)).1, f3, I_ne (by omega)]; exact e1
        · rw [st1_ne e, (LL.2 (u + 11) o (by omega)).1]; exact r.2.2.2
      · have ho : o < dK c := ho
        have hi : st1 (dI c) (dK c - 1) true o = true := hi
        show ∃ a, mx_I M6 8 o = w a ∧ mx_I M6 9 o = w (a + (st1 (dL c) (dK c - 1) _ o).length) ∧ a + (st1 (dL c) (dK c - 1) _ o).length ≤ _ ∧ stL M6 (st1 (dL c) (dK c - 1) _ o) a
        by_cases e : o = dK c - 1
        · rw [e, st1_eq]
          refine ⟨s, ?_, ?_, Nat.le_refl _, stL_at _ _ (fun j _ _ => (L6.2 7 j (by omega)).1) st⟩
          · rw [f6, I_ne (by omega), (L4.2 8 _ (by omega)).1, f3]; exact I_eq
          · rw [f6]; exact I_eq
        · rw [st1_ne e] at hi ⊢
          obtain ⟨a, r1, r2, r3, r4⟩ := k4 o ho hi
          refine ⟨a, ?_, ?_, by omega, stL_at _ _ (fun j _ _ => (LL.2 7 j (by omega)).1) r4⟩
          · rw [(LL.2 8 o (by omega)).1]; exact r1
          · rw [(LL.2 9 o (by omega)).1]; exact r2
    · rw [if_neg h0] at hq
      have L6 : lip (fun k j => k = 9 ∧ j = dK c - 1) M4 M6 := by rw [f6]; exact lip_setI ⟨rfl, rfl⟩
      have LL : lip (fun k j => (k = 3 ∧ 2 ≤ j ∧ j ≤ 6) ∨ (k = 6 ∧ j = 4) ∨ (k = 7 ∧ s ≤ j) ∨ (k = 2 ∧ (j = 3 ∨ j = 4)) ∨ (j = dK c - 1 ∧ (k = u + 11 ∨ k = 8 ∨ k = 9))) M M6 := lip_trans (lip_mono LL3 (fun k j z => by omega)) (lip_trans (lip_mono L4 (fun k j z => by omega)) (lip_mono L6 (fun k j z => by omega)))
      exact hq.2 h0 M6 (lip_T LL T) (by rw [LL.1.2.1]; exact hu0) (lip_trans L0 (lip_mono LL (fun k i z => by show _ ∨ _; omega))) (by rw [f6, I_ne (by omega)]; exact k43) (by rw [f6, I_ne (by omega)]; exact k44)
theorem ln_up {M0 M : mx_M} {X : TX} {u : Nat} {r : LR} {Q : QQ} (L : lip (cB u) M0 M) (hq : lnC M0 X u r (fun b M1 => Q (.inl (some (.int (mx_b b)))) M1)) : lnC M0 X u r (fun b M1 => (fun (o : mx_O) M7 => mx_sh M7 = mx_sh M ∧ mx_R M7 = mx_R M ∧ (∃ x8 : Bool, o = .inl (some (.int (mx_b x8))) ∧ Q (.inl (some (.int (mx_b x8)))) M7)) (.inl (some (.int (mx_b b)))) M1) :=
  ⟨fun h M1 s1 W1 => ⟨W1.1.2.2.1.1.trans L.1.1.symm, W1.1.2.2.1.2.1.trans L.1.2.1.symm, true, rfl, hq.1 h M1 s1 W1⟩, fun h M1 a b e f g => ⟨e.1.1.trans L.1.1.symm, e.1.2.1.trans L.1.2.1.symm, false, rfl, hq.2 h M1 a b e f g⟩⟩
theorem p_takeLine {d : Nat} {M0 M : mx_M} {X : TX} {u q s : Nat} {c : CD} {Q : QQ} (hu : mx_Cat u) (G : gdC X c) (W : WC M0 M X u c q s) (hq : lnC M0 X u (lineF X c q) (fun b M1 => Q (.inl (some (.int (mx_b b)))) M1)) : mx_W m_X4_takeLine (d + 50) 0 [.ref 2] [] M Q := by
  have T := W.1.1
  have A := W.2.1
  have k1 := W.2.2.2.2.1
  have g := G.1
  have hq := ln_up W.1.2.2 hq
  unfold lineF at hq
  refine x_X4_takeLine_0 (d := d + 49) T u hu W.1.2.1 (p_isWord (d := d + 44) (k := 4) T A (by decide) ⟨rfl, rfl, _, rfl, fun y4 => p_isWord (d := d + 44) (k := 5) T A (by decide) ⟨rfl, rfl, _, rfl, fun y5 => ⟨fun z => ?_, fun z => ?_⟩, fun y5 => ?_⟩, fun y4 => ?_⟩)
  · have y4 := of_decide_eq_false y4
    have y5 := of_decide_eq_false y5
    rw [k1, w_eq0 (by omega)] at z
    rw [if_neg y4, if_neg y5, if_neg z] at hq
    refine p_isWord (d := d + 44) (k := 6) T A (by decide) ⟨rfl, rfl, _, rfl, fun y6 => ?_, fun y6 => p_isWord (d := d + 44) (k := 7) T A (by decide) ⟨rfl, rfl, _, rfl, fun y7 => ?_, fun y7 => p_isWord (d := d + 44) (k := 8) T A (by decide) ⟨rfl, rfl, _, rfl, fun y8 => ?_, fun y8 => ?_⟩⟩⟩
    · have y6 := of_decide_eq_true y6
      rw [if_pos (by omega)] at hq
      exact p_takeRule (d := d + 42) hu G z (by omega) W hq
    · have y7 := of_decide_eq_true y7
      rw [if_pos (by omega)] at hq
      exact p_takeRule (d := d + 42) hu G z (by omega) W hq
    · have y6 := of_decide_eq_false y6
      have y7 := of_decide_eq_false y7
      have y8 := of_decide_eq_false y8
      rw [if_neg (show ¬ (6 ≤ kw X q ∧ kw X q ≤ 8) by omega)] at hq
      unfold mannF at hq
      refine p_isWord (d := d + 44) (k := 9) T A (by decide) ⟨rfl, rfl, _, rfl, fun y9 => p_isWord (d := d + 44) (k := 10) T A (by decide) ⟨rfl, rfl, _, rfl, fun y10 => p_isWord (d := d + 44) (k := 11) T A (by decide) ⟨rfl, rfl, _, rfl, fun y11 => ?_, fun y11 => ?_⟩, fun y10 => ?_⟩, fun y9 => ?_⟩
      · have y9 := of_decide_eq_false y9
        have y10 := of_decide_eq_false y10
        have y11 := of_decide_eq_false y11
        rw [if_neg (show ¬ (9 ≤ kw X q ∧ kw X q ≤ 11) by omega)] at hq
        exact b_ref (k := 1) hu W.1 W.2.1 (fun M1 a b e f g i j => hq.2 (show ¬ (1 : Nat) = 0 by decide) M1 a b e f g)
      · have y11 := of_decide_eq_true y11
        rw [if_pos (show 9 ≤ kw X q ∧ kw X q ≤ 11 by omega), if_neg (show ¬ kw X q = 9 by omega), if_neg (show ¬ kw X q = 10 by omega)] at hq
        exact p_takeTie hu G z W hq
      · have y10 := of_decide_eq_true y10
        rw [if_pos (show 9 ≤ kw X q ∧ kw X q ≤ 11 by omega), if_neg (show ¬ kw X q = 9 by omega), if_pos y10] at hq
        exact p_takeJ (d := d + 46) hu G z W hq
      · have y9 := of_decide_eq_true y9
        rw [if_pos (show 9 ≤ kw X q ∧ kw X q ≤ 11 by omega), if_pos y9] at hq
        exact p_takeT (d := d + 46) hu G z W hq
    · have y8 := of_decide_eq_true y8
      rw [if_pos (by omega)] at hq
      exact p_takeRule (d := d + 42) hu G z (by omega) W hq
  · have y4 := of_decide_eq_false y4
    have y5 := of_decide_eq_false y5
    rw [k1, w_eq0 (by omega)] at z
    rw [if_neg y4, if_neg y5, if_pos z] at hq
    exact b_ref (k := 1) hu W.1 W.2.1 (fun M1 a b e f g i j => hq.2 (show ¬ (1 : Nat) = 0 by decide) M1 a b e f g)
  · have y4 := of_decide_eq_false y4
    have y5 := of_decide_eq_true y5
    rw [if_neg y4, if_pos y5] at hq
    exact p_takeClerk (d := d + 46) hu G W hq
  · have y4 := of_decide_eq_true y4
    rw [if_pos y4] at hq
    exact p_takeCard (d := d + 45) hu G W (kw_lt (by omega)) hq
