/-! the reference's levels, joined -/
theorem flt_RB {D : Nat} {X : TX} {M0 M : mx_M} {a0 k p : Nat} {Q : QQ} (H : FLT X M0 a0 M k p) (h : RF D Q M) : RB D Q M :=
  x_X11_expression_29 (d := D + 4) H.1.1 _ ⟨fun z => absurd z (by decide), fun _ => q_isBad H.1.1 H.1.2.2.1 H.1.2.2.2.1 H.1.2.2.2.2.1 ⟨rfl, rfl, _, rfl, fun _ => x_X11_expression_325 (d := D + 4) H.1.1 (q_isBad H.1.1 H.1.2.2.1 H.1.2.2.2.1 H.1.2.2.2.2.1 ⟨rfl, rfl, _, rfl, fun _ => h, fun y => by cases y⟩), fun y => by cases y⟩⟩
theorem flt_Qop {D : Nat} {X : TX} {M0 M : mx_M} {a0 k p : Nat} {Q : QQ} (H : FLT X M0 a0 M k p) (h : RF D Q M) : Qop M0 D Q (.inl none) M := ⟨H.1.2.1.1.1, H.1.2.1.1.2.1, rfl, flt_RB H h⟩
theorem wkS_le {S : List Nat} {a b : Nat} (h : a ≤ b) (wS : wkS S a) : wkS S b := fun x S1 e => by
  rcases wS x S1 e with h | h
  · exact Or.inl h
  · exact Or.inr (by omega)
theorem ppL_le {P : List Nat} {a b : Nat} (h : a ≤ b) (hP : ppL P b) : ppL P a := fun x hx => ⟨(hP x hx).1, (hP x hx).2.1, by have := (hP x hx).2.2; omega⟩
theorem m_test {X : TX} {M0 : mx_M} {a0 D dp : Nat} {Q : QQ} {F : Nat → RS} (T0 : mx_Tp M0) (hd1 : 1 ≤ dp) (G : gd X F) (S0 : SIM X M0 a0 D Q true 5 dp F) : SIM X M0 a0 D Q true 4 dp (testF X F) := by
  intro q S te L M v m E wS ht hl1 hl2 hq1 hq2
  have b7 := ex_700 E
  unfold testF at hq1 hq2
  refine S0 q S te L M v m E (wkS_le (by decide) wS) (fun h => absurd h (by decide)) hl1 hl2 (fun z M1 P1 te1 L1 E1 eL hP k1 k2 hs => ?_) (fun z M1 F1 => ?_)
  · rw [if_pos z] at hq1 hq2
    have g := G q b7.1 z
    have t1 : te1 dp = false := by rw [k2 (by decide)]; exact ht (by decide)
    by_cases o : opT X (F q).2.1 = 0
    · rw [if_pos o] at hq1
      exact hq1 z M1 P1 te1 L1 E1 eL (ppL_le (by decide) hP) k1 (fun h => absurd h (by decide)) ⟨fun _ => hs.1 (by decide), fun _ => hs.2.1 (by decide), fun _ => Or.inl o, fun h => absurd h (by decide), fun h => absurd h (by decide)⟩
    · have oo := gdo_T X _ o
      have n := nx_lt oo.1
      rw [if_neg o] at hq1 hq2
      have sT : stg (opT X (F q).2.1) = 4 := by
        unfold opT at o ⊢
        by_cases a : sg X (F q).2.1 60 = true
        · rw [if_pos a]; rfl
        · by_cases b : sg X (F q).2.1 61 = true
          · rw [if_neg a, if_pos b]; rfl
          · rw [if_neg a, if_neg b] at o; exact absurd rfl o
      have hsg : sg X (F q).2.1 60 = true ∨ sg X (F q).2.1 61 = true := by
        unfold opT at o
        by_cases a : sg X (F q).2.1 60 = true
        · exact Or.inl a
        · by_cases b : sg X (F q).2.1 61 = true
          · exact Or.inr b
          · rw [if_neg a, if_neg b] at o; exact absurd rfl o
      have tail : ∀ M2, EX X M0 a0 M2 (nx X (F q).2.1) (nx X (F q).2.1) (opT X (F q).2.1 :: S) dp (fun j => if j = dp then true else te1 j) (L1 ++ mpP P1) → RN M0 D Q (mx_b false) 0 M2 := by
        intro M2 E2
        refine S0 _ _ _ _ M2 _ 0 E2 (fun x S1 ex => ?_) (fun h => absurd h (by decide)) (fun _ => ⟨by decide, Or.inl rfl⟩) (fun h => by cases h) (fun z1 M3 P3 te3 L3 E3 eL3 hP3 j1 j2 hs3 => ?_) (fun z1 M3 F3 => ?_)
        · have ex : opT X (F q).2.1 = x := (List.cons.inj ex).1
          rw [← ex, sT]; exact Or.inr (by decide)
        · rw [if_pos z1] at hq1
          refine hq1 rfl M3 (P3 ++ [opT X (F q).2.1]) te3 L3 (by rw [List.append_assoc P3]; exact E3) ?_ (fun x hx => ?_) (fun j hj => ?_) (fun h => absurd h (by decide)) ⟨fun _ => hs3.1 (by decide), fun _ => hs3.2.1 (by decide), fun _ => Or.inr ?_, fun h => absurd h (by decide), fun h => absurd h (by decide)⟩
          · rw [mpP_app, ← List.append_assoc, eL3, eL, ← List.append_assoc, ← List.append_assoc]; rfl
          · rcases List.mem_append.mp hx with hx | hx
            · have := hP3 x hx; exact ⟨this.1, this.2.1, by omega⟩
            · have ex : x = opT X (F q).2.1 := List.mem_singleton.mp hx
              rw [ex, sT]; exact ⟨oo.2.1, by omega, Nat.le_refl _⟩
          · rw [j1 j hj, if_neg (by omega)]; exact k1 j hj
          · rw [j2 (by decide)]; exact if_pos rfl
        · rw [if_neg z1] at hq2
          exact hq2 z1 M3 F3
      refine rb_127 E1 hsg ?_
      have h31 := E1.2.2.1.1
      have hd := E1.2.2.1.2.1
      have h84 := E1.2.2.1.2.2 dp hd1 (Nat.le_refl _)
      refine x_X11_expression_127 (d := D + 4) E1.1.1 _ ?_
      rw [h31, w_nat (by omega), h84, t1]
      refine ⟨w_in (by omega) (by decide), fun y => absurd rfl y, fun _ => ex_drops (k := 4) E1 (by omega) (by decide) wS (ppL_le (by decide) hP) (fun M2 E2 => ⟨(ex_sh E1 E2).1, (ex_sh E1 E2).2, rfl, q_isSign (c := 60) E2.1.1 E2.1.2.2.1 (by decide) ⟨rfl, rfl, _, rfl, fun y => ?_, fun y => ?_⟩⟩)⟩
      · have e : opT X (F q).2.1 = 7 := by
          unfold opT
          rcases hsg with g | g
          · exact absurd (g.symm.trans y) (by decide)
          · rw [if_neg (by unfold sg; rw [y]; decide), if_pos g]
        rw [e] at tail
        exact tl_TA (t := true) (v := false) rfl T0 E2 oo.1 (by decide) (fun M3 E3 => tail M3 E3)
      · have e : opT X (F q).2.1 = 6 := if_pos y
        rw [e] at tail
        exact tl_TA (t := true) (v := false) rfl T0 E2 oo.1 (by decide) (fun M3 E3 => tail M3 E3)
  · rw [if_neg z] at hq2
    exact hq2 z M1 F1
theorem wkS_rep {S : List Nat} (wS : wkS S 3) : ∀ (m : Nat), wkS (List.replicate m 3 ++ S) 4
  | 0 => wkS_le (by decide) wS
  | m + 1 => fun x S1 e => by
    have e : 3 :: (List.replicate m 3 ++ S) = x :: S1 := e
    have e : 3 = x := (List.cons.inj e).1
    rw [← e]; exact Or.inr (by decide)
theorem m_not_l {X : TX} {M0 : mx_M} {a0 D dp : Nat} {Q : QQ} {F : Nat → RS} (S0 : SIM X M0 a0 D Q true 4 dp F) (q0 : Nat) {S : List Nat} (wS : wkS S 3) (te : Nat → Bool) (L : List SP) (ht : te dp = false)
   (hq1 : (notF X F q0).1 = 0 → ∀ (M1 : mx_M) (P : List Nat) (te1 : Nat → Bool) (L1 : List SP), EX X M0 a0 M1 (notF X F q0).2.1 (notF X F q0).2.1 (P ++ S) dp te1 L1 → L1 ++ mpP P = L ++ (notF X F q0).2.2 → ppL P 3 → (∀ j, j < dp → te1 j = te j) → (5 ≤ 3 → te1 dp = te dp) → stp X 3 te1 dp (notF X F q0).2.1 → RB D Q M1)
   (hq2 : ¬ (notF X F q0).1 = 0 → ∀ M1, FLT X M0 a0 M1 (notF X F q0).1 (notF X F q0).2.1 → RF D Q M1) :
    ∀ (f m q : Nat) (M : mx_M), m + f = 6 → EX X M0 a0 M q q (List.replicate m 3 ++ S) dp te L → (ntF X 6 q0).1 = m + (ntF X f q).1 → (ntF X 6 q0).2 = (ntF X f q).2 → RN M0 D Q 1 m M := by
  have leaf : ∀ (m q : Nat) (M : mx_M), m ≤ 6 → EX X M0 a0 M q q (List.replicate m 3 ++ S) dp te L → ¬ kw X q = 14 → (ntF X 6 q0).1 = m → (ntF X 6 q0).2 = q → RN M0 D Q 1 m M := by
    intro m q M hm E hk e1 e2
    unfold notF at hq1 hq2
    rw [e1, e2, if_neg (fun z => hk z.2)] at hq1 hq2
    refine S0 q _ te L M 1 m E (wkS_rep wS m) (fun _ => ht) (fun _ => ⟨hm, Or.inr hk⟩) (fun h => by cases h) (fun z M1 P1 te1 L1 E1 eL hP k1 k2 hs => ?_) (fun z M1 F1 => ?_)
    · rw [if_pos z] at hq1
      refine hq1 rfl M1 (P1 ++ List.replicate m 3) te1 L1 (by rw [List.append_assoc]; exact E1) ?_ (fun x hx => ?_) k1 (fun h => absurd h (by decide)) ⟨fun _ => hs.1 (by decide), fun _ => hs.2.1 (by decide), fun _ => hs.2.2.1 (by decide), fun h => absurd h (by decide), fun h => absurd h (by decide)⟩
      · rw [mpP_app, ← List.append_assoc, eL, List.append_assoc]
        unfold mpP; rw [List.map_replicate]
      · rcases List.mem_append.mp hx with hx | hx
        · have := hP x hx; exact ⟨this.1, this.2.1, by omega⟩
        · have ex := List.eq_of_mem_replicate hx
          rw [ex]; decide
    · rw [if_neg z] at hq2
      exact hq2 z M1 F1
  intro f
  induction f with
  | zero =>
    intro m q M hm E e1 e2
    have e1 : (ntF X 6 q0).1 = 6 := by rw [e1]; show m + 0 = 6; omega
    have e2 : (ntF X 6 q0).2 = q := e2
    have em : m = 6 := by omega
    by_cases hk : kw X q = 14
    · unfold notF at hq2
      rw [e1, e2, if_pos ⟨rfl, hk⟩] at hq2
      have b7 := ex_700 E
      refine x_X11_operand_18 (d := D + 3) E.1.1 _ _ (q_isGood E.1.1 E.1.2.2.2 ⟨rfl, rfl, _, rfl, (fun y => by cases y), fun _ => ⟨fun z => absurd z (by decide), fun _ => q_known E.1.1 E.1.2.2.1 ⟨rfl, rfl, _, rfl, ?_⟩⟩⟩)
      rw [hk, em]
      refine ⟨fun z => absurd rfl z, fun _ => ⟨fun z => absurd rfl z, fun _ => ex_wrong (k := 2) E (by omega) (by decide) (by decide) (fun M1 F1 => ⟨F1.1.2.1.1.1.trans E.1.2.1.1.1.symm, F1.1.2.1.1.2.1.trans E.1.2.1.1.2.1.symm, rfl, ?_⟩)⟩⟩
      exact q_isBad F1.1.1 F1.1.2.2.1 F1.1.2.2.2.1 F1.1.2.2.2.2.1 ⟨rfl, rfl, _, rfl, (fun y => by cases y), fun _ => flt_N F1 (flt_Qop F1 (hq2 (show ¬ (2 : Nat) = 0 by decide) M1 F1))⟩
    · exact leaf m q M (by omega) E hk (by omega) e2
  | succ f ih =>
    intro m q M hm E e1 e2
    by_cases hk : kw X q = 14
    · have ez : ntF X (f + 1) q = ((ntF X f (nx X q)).1 + 1, (ntF X f (nx X q)).2) := if_pos hk
      rw [ez] at e1 e2
      have n := nx_lt (X := X) (q := q) (kw_lt (by omega))
      have b7 := ex_700 E
      have e1 : (ntF X 6 q0).1 = m + ((ntF X f (nx X q)).1 + 1) := e1
      refine x_X11_operand_18 (d := D + 3) E.1.1 _ _ (q_isGood E.1.1 E.1.2.2.2 ⟨rfl, rfl, _, rfl, (fun y => by cases y), fun _ => ⟨fun z => absurd z (by decide), fun _ => q_known E.1.1 E.1.2.2.1 ⟨rfl, rfl, _, rfl, ?_⟩⟩⟩)
      rw [hk, w_add1]
      refine ⟨fun z => absurd rfl z, fun _ => ⟨fun _ => q_isGood E.1.1 E.1.2.2.2 ⟨rfl, rfl, _, rfl, fun _ => ex_waits (c := 3) E (by omega) (by decide) (fun M1 E1 => ⟨(ex_sh E E1).1, (ex_sh E E1).2, rfl, ex_goes E1 (fun M2 E2 => ⟨(ex_sh E1 E2).1, (ex_sh E1 E2).2, rfl, ih (m + 1) (nx X q) M2 (by omega) (ex_b (by omega) E2) (by omega) e2⟩)⟩), fun y => by cases y⟩, fun z => ?_⟩⟩
      rw [show (6 : Int32) = w 6 from rfl, w_inj (by omega) (by omega)] at z; omega
    · have ez : ntF X (f + 1) q = (0, q) := if_neg hk
      rw [ez] at e1 e2
      exact leaf m q M (by omega) E hk e1 e2
theorem m_not {X : TX} {M0 : mx_M} {a0 D dp : Nat} {Q : QQ} {F : Nat → RS} (S0 : SIM X M0 a0 D Q true 4 dp F) : SIM X M0 a0 D Q false 3 dp (notF X F) := by
  intro q S te L M v m E wS ht hl1 hl2 hq1 hq2
  obtain ⟨rfl, rfl⟩ := hl2 rfl
  exact m_not_l S0 q wS te L (ht (by decide)) hq1 hq2 6 0 q M rfl E (by omega) rfl
theorem any_14 (P S : List Nat) : (P ++ 14 :: S).any (fun x => decide (14 ≤ x)) = true := by
  rw [List.any_append, List.any_cons]
  simp
theorem any_no {P : List Nat} {k : Nat} (hP : ppL P k) : P.any (fun x => decide (14 ≤ x)) = false := by
  rw [List.any_eq_false]
  intro x hx
  have := hP x hx
  simp; omega
/-- the token ends an expression: the loop goes to its end -/
theorem rb_end {X : TX} {M0 M : mx_M} {a0 D b q dp : Nat} {S : List Nat} {te : Nat → Bool} {L : List SP} {Q : QQ} (E : EX X M0 a0 M b q S dp te L) (hb : b ≤ 702) (hd1 : 1 ≤ dp) (hs : stp X 1 te dp q) (h41 : sg X q 41 = true → S.any (fun x => decide (14 ≤ x)) = false) (h : mx_W m_X11_expression (D + 5) 325 [.ref 58, .retAddr 0, .retAddr 0] [] M Q) : RB D Q M := by
  have h12 : ¬ kw X q = 12 := fun z => by have e := hs.2.2.2.1 (by decide); unfold opA at e; rw [if_pos z] at e; exact absurd e (by decide)
  have h13 : ¬ kw X q = 13 := fun z => by have e := hs.2.2.2.2 (by decide); unfold opO at e; rw [if_pos z] at e; exact absurd e (by decide)
  have hP := hs.1 (by decide)
  have hS := hs.2.1 (by decide)
  have n42 : sg X q 42 = false := by
    cases e : sg X q 42
    · rfl
    · unfold opP at hP; rw [if_pos e] at hP; exact absurd hP (by decide)
  have n47 : sg X q 47 = false := by
    cases e : sg X q 47
    · rfl
    · unfold opP at hP; rw [if_neg (by rw [n42]; decide), if_pos e] at hP; exact absurd hP (by decide)
  have n43 : sg X q 43 = false := by
    cases e : sg X q 43
    · rfl
    · unfold opS at hS; rw [if_pos e] at hS; exact absurd hS (by decide)
  have n45 : sg X q 45 = false := by
    cases e : sg X q 45
    · rfl
    · unfold opS at hS; rw [if_neg (by rw [n43]; decide), if_pos e] at hS; exact absurd hS (by decide)
  have w320 : RE D Q 186 M := by
    refine x_X11_expression_186 (d := D + 4) E.1.1 _ (q_isSign (c := 43) E.1.1 E.1.2.2.1 (by decide) ⟨rfl, rfl, _, rfl, fun y => absurd (n43.symm.trans y) (by decide), fun _ => q_isSign (c := 45) E.1.1 E.1.2.2.1 (by decide) ⟨rfl, rfl, _, rfl, fun _ => q_isSign (c := 42) E.1.1 E.1.2.2.1 (by decide) ⟨rfl, rfl, _, rfl, fun y => absurd (n42.symm.trans y) (by decide), fun _ => q_isSign (c := 47) E.1.1 E.1.2.2.1 (by decide) ⟨rfl, rfl, _, rfl, fun _ => q_isSign (c := 41) E.1.1 E.1.2.2.1 (by decide) ⟨rfl, rfl, _, rfl, fun _ => x_X11_expression_320 (d := D + 4) E.1.1 (x_X11_expression_322 (d := D + 4) E.1.1 _ (x_X11_expression_29 (d := D + 4) E.1.1 _ ⟨fun _ => h, fun z => absurd rfl z⟩)), fun y => x_X11_isOpened_0 (d := D + 3) E.1.1 ?_⟩, fun y => absurd (n47.symm.trans y) (by decide)⟩⟩, fun y => absurd (n45.symm.trans y) (by decide)⟩⟩)
    rw [E.2.1.1]
    have E0 := E
    obtain ⟨_, _, _, tp, _, _, hl, _⟩ := E0
    refine q_opened_l (d := D + 3) E.1.1 S E.2.1.2 (by omega) ⟨rfl, rfl, _, rfl, fun _ => x_X11_expression_320 (d := D + 4) E.1.1 (x_X11_expression_322 (d := D + 4) E.1.1 _ (x_X11_expression_29 (d := D + 4) E.1.1 _ ⟨fun _ => h, fun z => absurd rfl z⟩)), fun z => ?_⟩
    rw [h41 y] at z; exact absurd z (by decide)
  by_cases t : sg X q 60 = true ∨ sg X q 61 = true
  · refine rb_127 E t ?_
    have h31 := E.2.2.1.1
    have hd := E.2.2.1.2.1
    have h84 := E.2.2.1.2.2 dp hd1 (Nat.le_refl _)
    have tt : te dp = true := by
      rcases hs.2.2.1 (by decide) with e | e
      · unfold opT at e
        rcases t with t | t
        · rw [if_pos t] at e; exact absurd e (by decide)
        · by_cases a : sg X q 60 = true
          · rw [if_pos a] at e; exact absurd e (by decide)
          · rw [if_neg a, if_pos t] at e; exact absurd e (by decide)
      · exact e
    refine x_X11_expression_127 (d := D + 4) E.1.1 _ ?_
    rw [h31, w_nat (by omega), h84, tt]
    exact ⟨w_in (by omega) (by decide), fun _ => w320, fun y => absurd y (by decide)⟩
  · have t6 : sg X q 60 = false := by
      cases e : sg X q 60
      · rfl
      · exact absurd (Or.inl e) t
    have t7 : sg X q 61 = false := by
      cases e : sg X q 61
      · rfl
      · exact absurd (Or.inr e) t
    exact rb_186 E h12 h13 t6 t7 w320
