/-! the class reads a rule -/
theorem p_rule_t {d k : Nat} {M0 M : mx_M} {X : TX} {u q s : Nat} {c : CD} {Q : QQ} (hu : mx_Cat u) (G : gdC X c) (hK : ¬ dK c = 0) (h8 : ¬ 8 ≤ dR c (dK c - 1)) (hk : k ≤ 2) (W : WC M0 M X u c q s) (hq : lnC M0 X u (if knd X (nx X q) = 1 then (if sz X (nx X q) ≤ mst k then (if hasF X c k (nx X q) = true then (4, nx X q, c) else if k = 0 then (0, nx X (nx X q), addRl c 0 (nx X q) (nx X q)) else if knd X (nx X (nx X q)) = 1 then (if sz X (nx X (nx X q)) ≤ mst k then (0, nx X (nx X (nx X q)), addRl c k (nx X q) (nx X (nx X q))) else (2, nx X (nx X q), c)) else (1, nx X (nx X q), c)) else (2, nx X q, c)) else (1, nx X q, c)) (fun b M1 => Q (.inl (some (.int (mx_b b)))) M1)) :
    (mx_W m_X8_step (d + 5) 0 [.ref 3, .retAddr 0] [] M (fun o M5 => mx_sh M5 = mx_sh M ∧ mx_R M5 = mx_R M ∧ (o = .inl none ∧ (mx_W m_X4_isWordUpTo (d + 5) 0 [.ref 2, .int (w (mst k))] [] M5 (fun o M6 => mx_sh M6 = mx_sh M5 ∧ mx_R M6 = mx_R M5 ∧ (∃ x7 : Bool, o = .inl (some (.int (mx_b x7))) ∧ ((x7 = true → (mx_W m_X1_ruleOf (d + 5) 0 [.ref u, .int (w (dK c - 1)), .int (w k), .long (mx_J M6 3 6), .retAddr 0, .retAddr 0, .retAddr 0] [] M6 (fun o M8 => mx_sh M8 = mx_sh M6 ∧ mx_R M8 = mx_R M6 ∧ (∃ x9 : Int32, o = .inl (some (.int x9)) ∧ ((x9 = (-1 : Int32) → (mx_W m_X8_step (d + 5) 0 [.ref 3, .retAddr 0] [] M8 (fun o M10 => mx_sh M10 = mx_sh M8 ∧ mx_R M10 = mx_R M8 ∧ (o = .inl none ∧ ((¬ (w k) = 0 → (mx_W m_X4_isWordUpTo (d + 5) 0 [.ref 2, .int (w (mst k))] [] M10 (fun o M11 => mx_sh M11 = mx_sh M10 ∧ mx_R M11 = mx_R M10 ∧ (∃ x12 : Bool, o = .inl (some (.int (mx_b x12))) ∧ ((x12 = true → (mx_W m_X1_addRule (d + 5) 0 [.ref u, .int (w k), .long (mx_J M6 3 6), .retAddr 0, .long (mx_J M11 3 6), .retAddr 0, .retAddr 0, .retAddr 0] [] M11 (fun o M13 => mx_sh M13 = mx_sh M11 ∧ mx_R M13 = mx_R M11 ∧ (o = .inl none ∧ (mx_W m_X8_step (d + 5) 0 [.ref 3, .retAddr 0] [] M13 (fun o M14 => mx_sh M14 = mx_sh M13 ∧ mx_R M14 = mx_R M13 ∧ (o = .inl none ∧ Q (.inl (some (.int (mx_b true)))) M14))))))) ∧ (x12 = false → Q (.inl (some (.int (mx_b false)))) M11)))))) ∧ ((w k) = 0 → (mx_W m_X1_addRule (d + 5) 0 [.ref u, .int (w k), .long (mx_J M6 3 6), .retAddr 0, .long (mx_J M6 3 6), .retAddr 0, .retAddr 0, .retAddr 0] [] M10 (fun o M15 => mx_sh M15 = mx_sh M10 ∧ mx_R M15 = mx_R M10 ∧ (o = .inl none ∧ Q (.inl (some (.int (mx_b true)))) M15))))))))) ∧ (¬ x9 = (-1 : Int32) → (mx_W m_X4_refuse (d + 5) 0 [.ref 2, .int 4] [] M8 (fun o M16 => mx_sh M16 = mx_sh M8 ∧ mx_R M16 = mx_R M8 ∧ (∃ x17 : Bool, o = .inl (some (.int (mx_b x17))) ∧ Q (.inl (some (.int (mx_b x17)))) M16))))))))) ∧ (x7 = false → Q (.inl (some (.int (mx_b false)))) M6)))))))) := by
  have g := G.1
  have m8 : mst k ≤ 8 := by unfold mst; split <;> omega
  refine wc_step hu W (fun M1 W1 L1 => ⟨L1.1.1, L1.1.2.1, rfl, p_isWordUpTo (m := mst k) hu W1.1 W1.2.1 (by omega) (fun k1 k8 => ⟨rfl, rfl, true, rfl, fun _ => ?_, fun y => by cases y⟩) (fun kk ek nk M2 a b e f g i j => ⟨i, j, false, rfl, (fun y => by cases y), fun _ => ?_⟩)⟩)
  · rw [if_pos k1, if_pos k8] at hq
    have R := W1.2.2.2.2.2.1 (dK c - 1) (by omega)
    have Rw := G.2.2.1 (dK c - 1) (by omega)
    rw [W1.2.1.2.1 k1]
    refine p_ruleOf W1.1.1 hu R Rw (by omega) (lt8_lt X _) ⟨rfl, rfl, _, rfl, fun z => ?_, fun z => ?_⟩
    · have nh : ¬ hasF X c k (nx X q) = true := fun y => by
        have y := of_decide_eq_true y
        rw [fz_none (by have := Rw.1; omega)] at z
        omega
      rw [if_neg nh] at hq
      refine wc_step hu W1 (fun M2 W2 L2 => ⟨L2.1.1, L2.1.2.1, rfl, fun y => ?_, fun y => ?_⟩)
      · rw [w_eq0 (by omega)] at y
        rw [if_neg y] at hq
        refine p_isWordUpTo (m := mst k) hu W2.1 W2.2.1 (by omega) (fun j1 j8 => ⟨rfl, rfl, true, rfl, fun _ => ?_, fun y => by cases y⟩) (fun kk ek nk M3 a b e f g i j => ⟨i, j, false, rfl, (fun y => by cases y), fun _ => ?_⟩)
        · rw [if_pos j1, if_pos j8] at hq
          exact p_addRule (f := nx X q) (t := nx X (nx X q)) hu G hK h8 W2 rfl (fun _ => W2.2.1.2.1 j1) (fun M3 W3 s3 t3 => ⟨s3, t3, rfl, wc_step hu W3 (fun M4 W4 L4 => ⟨L4.1.1, L4.1.2.1, rfl, hq.1 rfl M4 s W4⟩)⟩)
        · by_cases j1 : knd X (nx X (nx X q)) = 1
          · rw [if_pos j1, if_neg (fun z => nk ⟨j1, z⟩)] at hq
            rw [if_pos j1] at ek
            rw [ek] at f
            exact hq.2 (show ¬ (2 : Nat) = 0 by decide) M3 a b e f g
          · rw [if_neg j1] at hq ek
            rw [ek] at f
            exact hq.2 (show ¬ (1 : Nat) = 0 by decide) M3 a b e f g
      · rw [w_eq0 (by omega)] at y
        rw [if_pos y] at hq
        rw [y]
        exact p_addRule (k := 0) (f := nx X q) (t := nx X q) hu G hK h8 W2 rfl (fun z => absurd rfl z) (fun M3 W3 s3 t3 => ⟨s3, t3, rfl, hq.1 rfl M3 s W3⟩)
    · have yh : hasF X c k (nx X q) = true := decide_eq_true (by
        rw [fz_none (by have := Rw.1; omega)] at z
        exact Nat.lt_of_not_le z)
      rw [if_pos yh] at hq
      exact b_ref (k := 4) hu W1.1 W1.2.1 (fun M2 a b e f g i j => ⟨i, j, _, rfl, hq.2 (show ¬ (4 : Nat) = 0 by decide) M2 a b e f g⟩)
  · by_cases j1 : knd X (nx X q) = 1
    · rw [if_pos j1, if_neg (fun z => nk ⟨j1, z⟩)] at hq
      rw [if_pos j1] at ek
      rw [ek] at f
      exact hq.2 (show ¬ (2 : Nat) = 0 by decide) M2 a b e f g
    · rw [if_neg j1] at hq ek
      rw [ek] at f
      exact hq.2 (show ¬ (1 : Nat) = 0 by decide) M2 a b e f g
theorem p_takeRule {d : Nat} {M0 M : mx_M} {X : TX} {u q s : Nat} {c : CD} {Q : QQ} (hu : mx_Cat u) (G : gdC X c) (hK : ¬ dK c = 0) (hk : 6 ≤ kw X q ∧ kw X q ≤ 8) (W : WC M0 M X u c q s) (hq : lnC M0 X u (ruleF X c (kw X q - 6) q) (fun b M1 => Q (.inl (some (.int (mx_b b)))) M1)) : mx_W m_X4_takeRule (d + 7) 0 [.ref 2, .retAddr 0, .retAddr 0, .retAddr 0, .retAddr 0, .retAddr 0] [] M Q := by
  have g := G.1
  have k1 := W.2.2.2.2.1
  have eo : w (dK c) - 1 = w (dK c - 1) := w_sub (a := dK c) (b := 1) (by omega)
  have r5 := (W.2.2.2.2.2.2.1 (dK c - 1) (by omega)).1
  have r8 := (G.2.2.1 (dK c - 1) (by omega)).1
  unfold ruleF at hq
  refine x_X4_takeRule_0 (d := d + 6) W.1.1 u hu W.1.2.1 ?_
  rw [k1, eo, w_nat (n := dK c - 1) (by omega), r5, show (8 : Int32) = w 8 from rfl, w_lt (by omega) (by omega)]
  refine ⟨fun z => absurd z (w_pos (by omega)), fun _ => ⟨w_in (by omega) (by decide), fun z => p_ruleKind hu W hk ⟨rfl, rfl, _, rfl, fun y => ?_, fun y => ?_⟩, fun z => ?_⟩⟩
  · rw [if_neg (by omega)] at hq
    rw [show (2 : Int32) = w 2 from rfl, w_inj (by omega) (by omega)] at y
    have t := p_rule_t (d := d + 1) (k := kw X q - 6) hu G hK (by omega) (by omega) W hq
    have em : mst (kw X q - 6) = 8 := if_neg y
    rw [em] at t
    exact t
  · rw [if_neg (by omega)] at hq
    rw [show (2 : Int32) = w 2 from rfl, w_inj (by omega) (by omega)] at y
    have t := p_rule_t (d := d + 1) (k := kw X q - 6) hu G hK (by omega) (by omega) W hq
    have em : mst (kw X q - 6) = 1 := if_pos y
    rw [em] at t
    exact t
  · rw [if_pos (by omega)] at hq
    exact b_ref (k := 2) hu W.1 W.2.1 (fun M1 a b e f g i j => ⟨i, j, _, rfl, hq.2 (show ¬ (2 : Nat) = 0 by decide) M1 a b e f g⟩)
