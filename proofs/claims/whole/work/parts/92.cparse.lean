/-! the class reckons the ties and reads a text -/
def le5 (F : Nat → RS) : Prop := ∀ q, (F q).1 ≤ 5
theorem le5_lop {X : TX} {op : Nat → Nat} {F : Nat → RS} (G : le5 F) : ∀ (f q : Nat) (L : List SP), (lopF X op F f q L).1 ≤ 5
  | 0, q, L => Nat.zero_le _
  | f + 1, q, L => by
    unfold lopF
    split
    · exact Nat.zero_le _
    · split
      · exact le5_lop G f _ _
      · exact G _
theorem le5_ch {X : TX} {op : Nat → Nat} {F : Nat → RS} (G : le5 F) : le5 (chF X op F) := fun q => by
  unfold chF
  split
  · exact le5_lop G _ _ _
  · exact G _
theorem le5_part {X : TX} {F : Nat → RS} (G : le5 F) : le5 (partF X F) := fun q => by
  unfold partF
  split
  · split
    · split
      · exact Nat.zero_le _
      · exact (show (1 : Nat) ≤ 5 by decide)
    · exact G _
  · split
    · split
      · exact Nat.zero_le _
      · exact (show (2 : Nat) ≤ 5 by decide)
    · split
      · split
        · exact Nat.zero_le _
        · exact (show (3 : Nat) ≤ 5 by decide)
      · exact (show (1 : Nat) ≤ 5 by decide)
theorem le5_test {X : TX} {F : Nat → RS} (G : le5 F) : le5 (testF X F) := fun q => by
  unfold testF
  split
  · split
    · exact G _
    · split
      · exact Nat.zero_le _
      · exact G _
  · exact G _
theorem le5_not {X : TX} {F : Nat → RS} (G : le5 F) : le5 (notF X F) := fun q => by
  unfold notF
  split
  · exact (show (2 : Nat) ≤ 5 by decide)
  · split
    · exact Nat.zero_le _
    · exact G _
theorem le5_expr (X : TX) : ∀ (k : Nat), le5 (exprF X k)
  | 0 => fun q => by
    show (if knd X q = 2 ∨ knd X q = 1 ∨ sg X q 40 = true then 2 else 1) ≤ 5
    split <;> decide
  | k + 1 => fun q => le5_ch (le5_ch (le5_not (le5_test (le5_ch (le5_ch (le5_part (le5_expr X k))))))) q
theorem le5_hd (X : TX) : ∀ (f j q : Nat), (hdF X f j q).1 ≤ 5
  | 0, j, q => by
    unfold hdF
    split
    · exact (show (2 : Nat) ≤ 5 by decide)
    · exact Nat.zero_le _
  | f + 1, j, q => by
    unfold hdF
    split
    · split
      · split
        · exact le5_hd X f _ _
        · exact (show (2 : Nat) ≤ 5 by decide)
      · exact (show (1 : Nat) ≤ 5 by decide)
    · exact Nat.zero_le _
theorem le5_line (X : TX) (c : CD) (q : Nat) : (lineF X c q).1 ≤ 5 := by
  have h0 : (0 : Nat) ≤ 5 := by decide
  have h1 : (1 : Nat) ≤ 5 := by decide
  have h2 : (2 : Nat) ≤ 5 := by decide
  have h4 : (4 : Nat) ≤ 5 := by decide
  have h5 : (5 : Nat) ≤ 5 := by decide
  unfold lineF
  split
  · unfold cardF
    split
    · exact h2
    · split
      · split
        · split
          · split
            · exact h0
            · exact le5_hd X _ _ _
          · exact h2
        · exact h2
      · exact h1
  · split
    · split
      · exact h2
      · exact h0
    · split
      · exact h1
      · split
        · unfold ruleF
          split
          · exact h2
          · split
            · split
              · split
                · exact h4
                · split
                  · exact h0
                  · split
                    · split
                      · exact h0
                      · exact h2
                    · exact h1
              · exact h2
            · exact h1
        · split
          · unfold mannF
            split
            · split
              · exact h5
              · exact h0
            · split
              · split
                · exact h5
                · exact h0
              · split
                · exact h5
                · split
                  · exact h0
                  · exact le5_expr X 6 _
          · exact h1
def tval (X : TX) (c : CD) (o x : Nat) : Int32 := tvF (dL c o) (dY c x) (dW c x) (su (hlX X c x) (dW c x)) x
abbrev cF (u : Nat) : Nat → Nat → Prop := fun k j => k = 10 ∨ (k = 6 ∧ j = 5) ∨ k = u + 12
def dnT (M : mx_M) (X : TX) (u : Nat) (c : CD) (o x : Nat) : Prop := ∀ o' x', o' < dK c → x' < dN c → dI c o' = true → (o' < o ∨ (o' = o ∧ x' < x)) → mx_I M (u + 12) (10 * o' + x') = tval X c o' x'
theorem p_cf_i {d u q s o : Nat} {X : TX} {c : CD} {M00 M0 : mx_M} {Q : QQ} (hu : mx_Cat u) (G : gdC X c) (W : WC M00 M0 X u c q s) (ho : o < dK c) (hq : ∀ M1, lip (cF u) M0 M1 → dnT M1 X u c (o + 1) 0 → mx_W m_X7_countFor (d + 2) 2 [.ref 6, .ref u, .int (w (o + 1)), .retAddr 0] [] M1 Q) :
    ∀ (f x : Nat) (M : mx_M), x + f = dN c → lip (cF u) M0 M → dnT M X u c o x → mx_W m_X7_countFor (d + 2) 12 [.ref 6, .ref u, .int (w o), .int (w x)] [] M Q
  | 0, x, M, hx, L, D => by
    have c11 := cat_no hu
    have g := G.1
    have e12 : mx_I M u 12 = w (dN c) := by rw [(L.2 u 12 (by omega)).1]; exact W.2.2.2.1.1
    refine x_X7_countFor_12 (d := d + 1) (lip_T L W.1.1) u hu _ _ ?_
    rw [e12, w_le (by omega) (by omega), w_add1]
    exact ⟨fun _ => hq M L (fun o' x' a b e h => D o' x' a b e (by omega)), fun z => absurd z (by omega)⟩
  | f + 1, x, M, hx, L, D => by
    have c11 := cat_no hu
    have g := G.1
    have T := lip_T L W.1.1
    have e12 : mx_I M u 12 = w (dN c) := by rw [(L.2 u 12 (by omega)).1]; exact W.2.2.2.1.1
    have e11 : mx_I M (u + 11) o = mx_b (dI c o) := by rw [(L.2 (u + 11) o (by omega)).1]; exact (W.2.2.2.2.2.2.1 o ho).2.2.2
    refine x_X7_countFor_12 (d := d + 1) T u hu _ _ ?_
    rw [e12, w_le (by omega) (by omega), w_add1 x, w_nat (n := o) (by omega), e11]
    refine ⟨fun z => absurd z (by omega), fun _ => ⟨w_in (by omega) (by decide), fun z => ?_, fun z => ?_⟩⟩
    · have hb : dI c o = false := by
        cases h : dI c o
        · rfl
        · rw [h] at z; exact absurd z (by decide)
      refine p_cf_i hu G W ho hq f (x + 1) M (by omega) L (fun o' x' a b e h => ?_)
      by_cases e2 : o' = o ∧ x' = x
      · rw [e2.1, hb] at e; cases e
      · exact D o' x' a b e (by omega)
    · have hb : dI c o = true := by
        cases h : dI c o
        · rw [h] at z; exact absurd rfl z
        · rfl
      obtain ⟨a, t1, t2, t3, t4⟩ := W.2.2.2.2.2.2.2 o ho hb
      have b7 := tkC_700 W.2.1
      have hs := W.2.2.1.2.1
      obtain ⟨y1, y2, y3, _, _⟩ := W.2.2.2.1.2 x (by omega)
      refine p_countOne (L := dL c o) (a := a) T hu (by omega) (by omega) (by omega) (by rw [(L.2 8 o (by omega)).1]; exact t1) (by rw [(L.2 9 o (by omega)).1]; exact t2) (stL_at _ _ (fun j _ _ => (L.2 7 j (by omega)).1) t4) ⟨by rw [(L.2 (u + 1) x (by omega)).1]; exact y1, by rw [(L.2 (u + 2) x (by omega)).1]; exact y2, by rw [(L.2 (u + 3) x (by omega)).1]; exact y3⟩ (G.2.2.2 o ho hb) (fun M1 L1 => ⟨L1.1.1, L1.1.2.1, _, rfl, ?_⟩)
      rw [show (10 : Int32) = w 10 from rfl, w_mul, w_add, w_nat (n := o * 10 + x) (by omega)]
      refine ⟨w_in (by omega) (by decide), fun M3 f3 => ?_⟩
      have L3 : lip (cF u) M1 M3 := by rw [f3]; exact lip_setI (Or.inr (Or.inr rfl))
      refine p_cf_i hu G W ho hq f (x + 1) M3 (by omega) (lip_trans L (lip_trans (lip_mono L1 (fun k j z => by show _ ∨ _; omega)) L3)) (fun o' x' a b e h => ?_)
      by_cases e2 : o' = o ∧ x' = x
      · rw [e2.1, e2.2, show 10 * o + x = o * 10 + x by omega, f3, I_eq]; rfl
      · rw [f3, I_ne (by omega), (L1.2 (u + 12) _ (by omega)).1]; exact D o' x' a b e (by omega)
theorem p_cf_l {d u q s : Nat} {X : TX} {c : CD} {M00 M0 : mx_M} {Q : QQ} (hu : mx_Cat u) (G : gdC X c) (W : WC M00 M0 X u c q s) (hq : ∀ M1, lip (cF u) M0 M1 → dnT M1 X u c (dK c) 0 → Q (.inl none) M1) :
    ∀ (f o : Nat) (M : mx_M), o + f = dK c → lip (cF u) M0 M → dnT M X u c o 0 → mx_W m_X7_countFor (d + 2) 2 [.ref 6, .ref u, .int (w o), .retAddr 0] [] M Q
  | 0, o, M, ho, L, D => by
    have c11 := cat_no hu
    have g := G.1
    have e13 : mx_I M u 13 = w (dK c) := by rw [(L.2 u 13 (by omega)).1]; exact W.2.2.2.2.1
    refine x_X7_countFor_2 (d := d + 1) (lip_T L W.1.1) u hu _ ?_
    rw [e13, w_le (by omega) (by omega)]
    exact ⟨fun _ => hq M L (by rw [show dK c = o by omega]; exact D), fun z => absurd z (by omega)⟩
  | f + 1, o, M, ho, L, D => by
    have c11 := cat_no hu
    have g := G.1
    have e13 : mx_I M u 13 = w (dK c) := by rw [(L.2 u 13 (by omega)).1]; exact W.2.2.2.2.1
    refine x_X7_countFor_2 (d := d + 1) (lip_T L W.1.1) u hu _ ?_
    rw [e13, w_le (by omega) (by omega)]
    exact ⟨fun z => absurd z (by omega), fun _ => p_cf_i (d := d) hu G W (by omega) (fun M1 L1 D1 => p_cf_l hu G W hq f (o + 1) M1 (by omega) L1 D1) (dN c) 0 M (by omega) L D⟩
theorem p_parse_end {d k u : Nat} {v : Int32} {M : mx_M} {Q : QQ} (hu : mx_Cat u) (T : mx_Tp M) (hu0 : mx_R M 2 2 = u) (hk : 1 ≤ k ∧ k ≤ 5) (e : mx_I M 2 3 = w k) (hq : Q (.inl (some (.int (w k)))) M) : mx_W m_X4_parse (d + 1) 35 [.ref 2, .retAddr 0, .int v] [] M Q := by
  refine x_X4_parse_35 T u hu hu0 _ ?_
  rw [e, w_eq0 (by omega)]
  exact ⟨fun _ => ⟨fun _ => hq, fun z => absurd z (by omega)⟩, fun _ => ⟨fun _ => ⟨fun _ => hq, fun z => absurd z (by omega)⟩, fun z => absurd z (by omega)⟩⟩
theorem p_semi {d : Nat} {M0 M : mx_M} {X : TX} {u q s : Nat} {c : CD} {Q : QQ} (hu : mx_Cat u) (W : WC M0 M X u c q s) (h1 : sg X q 59 = true → ∀ M1, WC M0 M1 X u c (nx X q) s → lip cX M M1 → Q (.inl none) M1) (h2 : ¬ sg X q 59 = true → ∀ M1, mx_Tp M1 → mx_R M1 2 2 = u → lip (cB u) M0 M1 → mx_I M1 2 3 = w 1 → mx_I M1 2 4 = w q → mx_sh M1 = mx_sh M → mx_R M1 = mx_R M → Q (.inl none) M1) : mx_W m_X4_endLine (d + 3) 0 [.ref 2] [] M Q := by
  refine x_X4_endLine_0 (d := d + 2) W.1.1 u hu W.1.2.1 (p_isSign (c := 59) W.1.1 W.2.1 (by decide) ⟨rfl, rfl, _, rfl, fun y => ?_, fun y => wc_step hu W (fun M1 W1 L1 => ⟨L1.1.1, L1.1.2.1, rfl, h1 y M1 W1 L1⟩)⟩)
  have ny : ¬ sg X q 59 = true := by unfold sg; rw [y]; decide
  exact b_ref (k := 1) hu W.1 W.2.1 (fun M1 a b e f g i j => ⟨i, j, _, rfl, h2 ny M1 a b e f g i j⟩)
theorem p_parse_l {d u : Nat} {X : TX} {M0 : mx_M} {Q : QQ} (hu : mx_Cat u) (r : LR)
    (hq1 : r.1 = 0 → ∀ M1 s1, WC M0 M1 X u r.2.2 r.2.1 s1 → gdC X r.2.2 → ∀ M2, lip (cF u) M1 M2 → dnT M2 X u r.2.2 (dK r.2.2) 0 → Q (.inl (some (.int (mx_I M2 2 3)))) M2)
    (hq2 : ¬ r.1 = 0 → r.1 ≤ 5 → ∀ M1, mx_Tp M1 → mx_R M1 2 2 = u → lip (cB u) M0 M1 → mx_I M1 2 3 = w r.1 → mx_I M1 2 4 = w r.2.1 → Q (.inl (some (.int (w r.1)))) M1) :
    ∀ (f i q s : Nat) (c : CD) (M : mx_M), i + f = 700 → prsF X f c q = r → gdC X c → WC M0 M X u c q s → mx_W m_X4_parse (d + 51) 35 [.ref 2, .retAddr 0, .int (w i)] [] M Q
  | 0, i, q, s, c, M, hi, er, G, W => by
    have er : (0, q, c) = r := er
    rw [← er] at hq1
    refine x_X4_parse_35 (d := d + 50) W.1.1 u hu W.1.2.1 _ ?_
    rw [W.2.2.1.2.2.1, show (700 : Int32) = w 700 from rfl, w_le (by omega) (by omega)]
    exact ⟨fun _ => ⟨fun z => absurd rfl z, fun _ => x_X7_countFor_0 (d := d + 49) W.1.1 u hu (p_cf_l (d := d + 48) hu G W (fun M2 L2 D2 => ⟨L2.1.1, L2.1.2.1, rfl, hq1 rfl M s W G M2 L2 D2⟩) (dK c) 0 M (by omega) (lip_refl _ _) (fun o' x' a b e h => by omega))⟩, fun z => absurd z (by omega)⟩
  | f + 1, i, q, s, c, M, hi, er, G, W => by
    have hkd := tkM_kd (X := X) (q := q)
    have b7 := tkC_700 W.2.1
    have l5 := le5_line X c q
    refine x_X4_parse_35 (d := d + 50) W.1.1 u hu W.1.2.1 _ ?_
    rw [W.2.2.1.2.2.1, W.2.1.1.2.2.2, show (700 : Int32) = w 700 from rfl, w_le (by omega) (by omega), w_eq0 (by omega), w_add1]
    unfold prsF at er
    refine ⟨fun z => absurd z (by omega), fun _ => ⟨fun z => absurd rfl z, fun _ => ⟨fun k0 => ⟨fun z => absurd rfl z, fun _ => ?_⟩, fun k0 => ?_⟩⟩⟩
    · rw [if_pos k0] at er
      rw [← er] at hq1
      exact x_X7_countFor_0 (d := d + 49) W.1.1 u hu (p_cf_l (d := d + 48) hu G W (fun M2 L2 D2 => ⟨L2.1.1, L2.1.2.1, rfl, hq1 rfl M s W G M2 L2 D2⟩) (dK c) 0 M (by omega) (lip_refl _ _) (fun o' x' a b e h => by omega))
    · rw [if_neg k0] at er
      refine p_takeLine hu G W ⟨fun h0 M1 s1 W1 => ⟨W1.1.2.2.1.1.trans W.1.2.2.1.1.symm, W1.1.2.2.1.2.1.trans W.1.2.2.1.2.1.symm, true, rfl, (fun y => by cases y), fun _ => ?_⟩, fun h0 M1 a b e f g => ⟨e.1.1.trans W.1.2.2.1.1.symm, e.1.2.1.trans W.1.2.2.1.2.1.symm, false, rfl, fun _ => ?_, (fun y => by cases y)⟩⟩
      · have G1 := gdC_line b7.1 G h0
        unfold semF at er
        rw [if_pos h0] at er
        refine p_semi (d := d + 47) hu W1 (fun y M2 W2 L2 => ⟨L2.1.1, L2.1.2.1, rfl, ?_⟩) (fun y M2 a b e f g i j => ⟨i, j, rfl, ?_⟩)
        · rw [if_pos y, if_pos rfl] at er
          exact p_parse_l hu r hq1 hq2 f (i + 1) _ s1 _ M2 (by omega) er G1 W2
        · rw [if_neg y, if_neg (show ¬ (1 : Nat) = 0 by decide)] at er
          rw [← er] at hq2
          exact p_parse_end (k := 1) hu a b (by decide) f (hq2 (show ¬ (1 : Nat) = 0 by decide) (show (1 : Nat) ≤ 5 by decide) M2 a b e f g)
      · unfold semF at er
        rw [if_neg h0, if_neg h0] at er
        rw [← er] at hq2
        exact p_parse_end (k := (lineF X c q).1) hu a b (by omega) f (hq2 h0 l5 M1 a b e f g)
abbrev cBP (u : Nat) : Nat → Nat → Prop := fun k j => (k = 3 ∧ 1 ≤ j ∧ j ≤ 6) ∨ (k = 6 ∧ (j = 4 ∨ j = 5)) ∨ k = 7 ∨ (k = 2 ∧ (j = 3 ∨ j = 4)) ∨ k = 8 ∨ k = 9 ∨ k = 10 ∨ (u ≤ k ∧ k ≤ u + 12)
theorem p_parse {d u : Nat} {X : TX} {M : mx_M} {Q : QQ} (hu : mx_Cat u) (T : mx_Tp M) (hu0 : mx_R M 2 2 = u) (A : tapC M X)
    (hq1 : (prsF X 700 cd0 (skp X 0)).1 = 0 → ∀ M0 M1 s1, WC M0 M1 X u (prsF X 700 cd0 (skp X 0)).2.2 (prsF X 700 cd0 (skp X 0)).2.1 s1 → gdC X (prsF X 700 cd0 (skp X 0)).2.2 → ∀ M2, lip (cF u) M1 M2 → lip (cBP u) M M2 → dnT M2 X u (prsF X 700 cd0 (skp X 0)).2.2 (dK (prsF X 700 cd0 (skp X 0)).2.2) 0 → Q (.inl (some (.int 0))) M2)
    (hq2 : ¬ (prsF X 700 cd0 (skp X 0)).1 = 0 → (prsF X 700 cd0 (skp X 0)).1 ≤ 5 → ∀ M1, lip (cBP u) M M1 → mx_I M1 2 4 = w (prsF X 700 cd0 (skp X 0)).2.1 → Q (.inl (some (.int (w (prsF X 700 cd0 (skp X 0)).1)))) M1) : mx_W m_X4_parse (d + 51) 0 [.ref 2, .int (w X.2), .retAddr 0] [] M Q := by
  have c11 := cat_no hu
  refine x_X4_parse_0 (d := d + 50) T u hu hu0 _ (x_X1_clear_0 T u hu (fun N1 g1 N2 g2 => ?_))
  have K1 : lip (cBP u) M N1 := by rw [g1]; exact lip_setI (by show _ ∨ _; omega)
  have K2 : lip (cBP u) N1 N2 := by rw [g2]; exact lip_setI (by show _ ∨ _; omega)
  refine ⟨(lip_trans K1 K2).1.1, (lip_trans K1 K2).1.2.1, rfl, fun M2 f2 M3 f3 M4 f4 => ?_⟩
  have K3 : lip (cBP u) N2 M2 := by rw [f2]; exact lip_setI (by show _ ∨ _; omega)
  have K4 : lip (cBP u) M2 M3 := by rw [f3]; exact lip_setI (by show _ ∨ _; omega)
  have K5 : lip (cBP u) M3 M4 := by rw [f4]; exact lip_setI (by show _ ∨ _; omega)
  have K := lip_trans (lip_trans K1 K2) (lip_trans K3 (lip_trans K4 K5))
  have T4 := lip_T K T
  have A4 := tapC_lip K (fun k j z => by rcases hu with h | h <;> omega) A
  refine p_tokopen (d := d + 47) T4 A4 (fun M5 L5 A5 => ⟨L5.1.1, L5.1.2.1, rfl, ?_⟩)
  have KK : lip (cBP u) M M5 := lip_trans K (lip_mono L5 (fun k j z => by show _ ∨ _; omega))
  have T5 := lip_T L5 T4
  have u5 : mx_R M5 2 2 = u := by rw [KK.1.2.1]; exact hu0
  have e12 : mx_I M5 u 12 = w 0 := by rw [(L5.2 u 12 (by omega)).1, f4, I_ne (by omega), f3, I_ne (by omega), f2, I_ne (by omega), g2, I_ne (by omega), g1]; exact I_eq
  have e13 : mx_I M5 u 13 = w 0 := by rw [(L5.2 u 13 (by omega)).1, f4, I_ne (by omega), f3, I_ne (by omega), f2, I_ne (by omega), g2]; exact I_eq
  have e64 : mx_I M5 6 4 = w 0 := by rw [(L5.2 6 4 (by omega)).1, f4, I_ne (by omega), f3, I_ne (by omega), f2]; exact I_eq
  have e23 : z23 M5 := by
    refine ⟨?_, ?_⟩
    · rw [(L5.2 2 3 (by omega)).1, f4, I_ne (by omega), f3]; exact I_eq
    · rw [(L5.2 2 4 (by omega)).1, f4]; exact I_eq
  have W5 : WC M5 M5 X u cd0 (skp X 0) 0 := ⟨⟨T5, u5, lip_refl _ _⟩, A5, ⟨e64, Nat.zero_le _, e23⟩, ⟨e12, fun x hx => absurd hx (Nat.not_lt_zero _)⟩, ⟨e13, fun o ho => absurd ho (Nat.not_lt_zero _), fun o ho => absurd ho (Nat.not_lt_zero _), fun o ho => absurd ho (Nat.not_lt_zero _)⟩⟩
  have bb : ∀ {M1}, lip (cB u) M5 M1 → lip (cBP u) M M1 := fun L => lip_trans KK (lip_mono L (fun k j z => by show _ ∨ _; omega))
  refine p_parse_l (M0 := M5) hu (prsF X 700 cd0 (skp X 0)) (fun h0 M1 s1 W1 G1 M2 L2 D2 => ?_) (fun h0 h5 M1 a b e f g => hq2 h0 h5 M1 (bb e) g) 700 0 (skp X 0) 0 cd0 M5 rfl rfl (gdC_0 X) W5
  have e0 : mx_I M2 2 3 = 0 := by rw [(L2.2 2 3 (by omega)).1]; exact W1.2.2.1.2.2.1
  rw [e0]
  exact hq1 h0 M5 M1 s1 W1 G1 M2 L2 (lip_trans (bb W1.1.2.2) (lip_mono L2 (fun k j z => by show _ ∨ _; omega))) D2
