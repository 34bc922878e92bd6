/-! the reference reads a part -/
theorem flt_two {d k p : Nat} {v1 v2 : mx_M → Int32} {X : TX} {M0 M : mx_M} {a0 : Nat} {Q : QQ} (S : List Nat) (tp q : Nat) (H : mx_Tp M ∧ lip (mE a0) M0 M ∧ mx_I M 58 16 = w k ∧ 1 ≤ k ∧ k < 10 ∧ mx_I M 58 17 = w p) (K : tkM M X q) (h30 : mx_I M 58 30 = w S.length) (hw : wtS M S) (h29 : mx_I M 58 29 = w tp) (h0 : a0 ≤ tp) (hS : S.length ≤ 800) (hb : tp + S.length ≤ 1500) (hq : ∀ M1, FLT X M0 a0 M1 k p → Q (.inl none) M1) :
    mx_W m_X11_puts d 0 [.ref 58, .int (v1 M)] [] M (fun o M32 => mx_sh M32 = mx_sh M ∧ mx_R M32 = mx_R M ∧ (o = .inl none ∧ (mx_W m_X11_puts d 0 [.ref 58, .int (v2 M32)] [] M32 (fun o M33 => mx_sh M33 = mx_sh M32 ∧ mx_R M33 = mx_R M32 ∧ (o = .inl none ∧ (mx_W m_X11_isGood d 0 [.ref 58] [] M33 (fun o M34 => mx_sh M34 = mx_sh M33 ∧ mx_R M34 = mx_R M33 ∧ (∃ x35 : Bool, o = .inl (some (.int (mx_b x35))) ∧ ((x35 = false → Q (.inl none) M34) ∧ (x35 = true → (mx_W m_X11_goes d 0 [.ref 58, .retAddr 0] [] M34 (fun o M36 => mx_sh M36 = mx_sh M34 ∧ mx_R M36 = mx_R M34 ∧ (o = .inl none ∧ Q (.inl none) M36))))))))))))) := by
  refine flt_puts (X := X) S tp q H K h30 hw h29 h0 hS (by omega) (fun M1 H1 K1 g30 gw g29 => ⟨H1.2.1.1.1.trans H.2.1.1.1.symm, H1.2.1.1.2.1.trans H.2.1.1.2.1.symm, rfl, ?_⟩)
  refine flt_puts (X := X) S (tp + 1) q H1 K1 g30 gw g29 (by omega) hS (by omega) (fun M2 H2 K2 k30 kw k29 => ⟨H2.2.1.1.1.trans H1.2.1.1.1.symm, H2.2.1.1.2.1.trans H1.2.1.1.2.1.symm, rfl, ?_⟩)
  exact q_isBad H2.1 H2.2.2.1 H2.2.2.2.1 H2.2.2.2.2.1 ⟨rfl, rfl, _, rfl, fun _ => hq M2 ⟨H2, S, tp + 1 + 1, q, K2, k30, kw, k29, by omega, hS, by omega⟩, fun y => by cases y⟩
theorem ex_two {d : Nat} {X : TX} {M0 M : mx_M} {a0 q dp : Nat} {S : List Nat} {te : Nat → Bool} {L : List SP} {s : SP} {v2 : mx_M → Int32} {Q : QQ} (E : EX X M0 a0 M q q S dp te L) (hq7 : q < X.2) (h7 : X.2 ≤ 700) (hs : ¬ s.1 = 2) (hv2 : ∀ M1, tkM M1 X q → v2 M1 = w s.2) (hq : ∀ M1, EX X M0 a0 M1 (nx X q) (nx X q) S dp te (L ++ [s]) → Q (.inl none) M1) :
    mx_W m_X11_puts (d + 1) 0 [.ref 58, .int (w (s.1 + 1))] [] M (fun o M32 => mx_sh M32 = mx_sh M ∧ mx_R M32 = mx_R M ∧ (o = .inl none ∧ (mx_W m_X11_puts (d + 1) 0 [.ref 58, .int (v2 M32)] [] M32 (fun o M33 => mx_sh M33 = mx_sh M32 ∧ mx_R M33 = mx_R M32 ∧ (o = .inl none ∧ (mx_W m_X11_isGood (d + 1) 0 [.ref 58] [] M33 (fun o M34 => mx_sh M34 = mx_sh M33 ∧ mx_R M34 = mx_R M33 ∧ (∃ x35 : Bool, o = .inl (some (.int (mx_b x35))) ∧ ((x35 = false → Q (.inl none) M34) ∧ (x35 = true → (mx_W m_X11_goes (d + 1) 0 [.ref 58, .retAddr 0] [] M34 (fun o M36 => mx_sh M36 = mx_sh M34 ∧ mx_R M36 = mx_R M34 ∧ (o = .inl none ∧ Q (.inl none) M36))))))))))))) := by
  obtain ⟨⟨T, F, K, g⟩, ⟨h30, hw⟩, ⟨h31, hd, h84⟩, tp, h29, hcd, hl, ht⟩ := E
  have ac := cdP_le L _ _ hcd
  have n := nx_lt hq7
  refine ex_puts (X := X) T F h29 ac (by omega) (fun M1 T1 F1 e1 K1 v1 n1 => ⟨F1.1.1.trans F.1.1.symm, F1.1.2.1.trans F.1.2.1.symm, rfl, ?_⟩)
  rw [hv2 M1 (K1 q K)]
  refine ex_puts (X := X) T1 F1 n1 (by omega) (by omega) (fun M2 T2 F2 e2 K2 v2 n2 => ⟨F2.1.1.trans F1.1.1.symm, F2.1.2.1.trans F1.1.2.1.symm, rfl, ?_⟩)
  have g2 : g16 M2 := g16_f (by rw [e2 58 16 (by omega) (by omega), e1 58 16 (by omega) (by omega)]) (by rw [e2 58 17 (by omega) (by omega), e1 58 17 (by omega) (by omega)]) g
  have E2 : EX X M0 a0 M2 (q + 1) q S dp te (L ++ [s]) := by
    refine ⟨⟨T2, F2, K2 q (K1 q K), g2⟩, ⟨?_, ?_⟩, ⟨?_, hd, fun j hj0 hj => ?_⟩, tp + 1 + 1, n2, cdP_app L _ _ tp _ (cdP_at L _ _ (fun j _ hj => ?_) hcd) ?_, by omega, by omega⟩
    · rw [e2 58 30 (by omega) (by omega), e1 58 30 (by omega) (by omega)]; exact h30
    · exact wtS_at S (fun j _ => by rw [e2 80 j (by omega) (by omega), e1 80 j (by omega) (by omega)]) hw
    · rw [e2 58 31 (by omega) (by omega), e1 58 31 (by omega) (by omega)]; exact h31
    · rw [e2 84 j (by omega) (by omega), e1 84 j (by omega) (by omega)]; exact h84 j hj0 hj
    · rw [e2 79 j (by omega) (by omega), e1 79 j (by omega) (by omega)]
    · show (if s.1 = 2 then _ else _)
      rw [if_neg hs]
      exact ⟨by rw [e2 79 tp (by omega) (by omega)]; exact v1, v2, rfl⟩
  refine q_isGood T2 g2 ⟨rfl, rfl, _, rfl, (fun y => by cases y), fun _ => ex_goes E2 (fun M3 E3 => ?_)⟩
  exact ⟨(ex_sh E2 E3).1, (ex_sh E2 E3).2, rfl, hq M3 (ex_b (by omega) E3)⟩
/-- what is asked behind the reference's reading -/
def pstM (X : TX) (M0 : mx_M) (a0 : Nat) (S : List Nat) (dp : Nat) (te : Nat → Bool) (L : List SP) (r : RS) (R : mx_M → Prop) : Prop := (r.1 = 0 → ∀ M1, EX X M0 a0 M1 r.2.1 r.2.1 S dp te (L ++ r.2.2) → R M1) ∧ (¬ r.1 = 0 → ∀ M1, FLT X M0 a0 M1 r.1 r.2.1 → R M1)
theorem ex_part {d : Nat} {X : TX} {E : Nat → RS} {M0 M : mx_M} {a0 q dp : Nat} {S : List Nat} {te : Nat → Bool} {L : List SP} {Q : QQ} (H : EX X M0 a0 M q q S dp te L) (h40 : sg X q 40 = false) (hq : pstM X M0 a0 S dp te L (partF X E q) (fun M1 => Q (.inl none) M1)) : mx_W m_X11_part (d + 3) 0 [.ref 58, .retAddr 0] [] M Q := by
  have H0 := H
  obtain ⟨⟨T, F, K, g⟩, ⟨h30, hw⟩, ⟨h31, hd, h84⟩, tp, h29, hcd, hl, ht⟩ := H
  have ac := cdP_le L _ _ hcd
  have h7 := K.2.2.2.2.1.2.1
  have hkd := tkM_kd (X := X) (q := q)
  have hqn := K.2.2.2.2.2
  have hsz := sz_le X hqn
  have k15 := kw_15 X q
  unfold partF at hq
  rw [if_neg (by rw [h40]; decide)] at hq
  have fl : ∀ (k : Nat), 1 ≤ k → k < 10 → ∀ M1, lip (fun k j => k = 58 ∧ (j = 16 ∨ j = 17)) M M1 → mx_I M1 58 16 = w k → mx_I M1 58 17 = w q → (mx_Tp M1 ∧ lip (mE a0) M0 M1 ∧ mx_I M1 58 16 = w k ∧ 1 ≤ k ∧ k < 10 ∧ mx_I M1 58 17 = w q) ∧ tkM M1 X q ∧ mx_I M1 58 30 = w S.length ∧ wtS M1 S ∧ mx_I M1 58 29 = w tp := by
    intro k h1 h2 M1 L1 k1 k2
    refine ⟨⟨lip_T L1 T, lip_trans F (lip_mono L1 (fun k j h => Or.inl ⟨h.1, by omega⟩)), k1, h1, h2, k2⟩, tkM_E L1 (fun k j h => by omega) K, ?_, ?_, ?_⟩
    · rw [(L1.2 58 30 (by omega)).1]; exact h30
    · exact wtS_at S (fun j _ => (L1.2 80 j (by omega)).1) hw
    · rw [(L1.2 58 29 (by omega)).1]; exact h29
  refine x_X11_part_0 (d := d + 2) T (q_isGood T g ⟨rfl, rfl, _, rfl, fun _ => ?_, fun y => by cases y⟩)
  rw [K.1.2.1, K.1.2.2.2, show (2 : Int32) = w 2 from rfl, show (1 : Int32) = w 1 from rfl, show (4 : Int32) = w 4 from rfl, w_inj (by omega) (by omega), w_inj (by omega) (by omega), w_le (by omega) (by omega)]
  refine ⟨fun z => ⟨fun x => ?_, fun x => ?_⟩, fun z => ⟨fun x => ?_, fun x => ?_⟩⟩
  · rw [if_neg z, if_neg x] at hq
    refine q_wrong2 (k := 1) T g K (fun M1 L1 k1 k2 => ⟨L1.1.1, L1.1.2.1, rfl, ?_⟩)
    obtain ⟨H1, K1, g30, gw, g29⟩ := fl 1 (by decide) (by decide) M1 L1 k1 k2
    exact q_isBad H1.1 H1.2.2.1 H1.2.2.2.1 H1.2.2.2.2.1 ⟨rfl, rfl, _, rfl, fun _ => hq.2 (show ¬ (1 : Nat) = 0 by decide) M1 ⟨H1, S, tp, q, K1, g30, gw, g29, ac, by omega, by omega⟩, fun y => by cases y⟩
  · rw [if_neg z, if_pos x] at hq
    have hl := knd_lt (X := X) (q := q) (by omega)
    refine q_known T K ⟨rfl, rfl, _, rfl, ?_⟩
    by_cases k4 : kw X q < 4
    · rw [if_pos k4] at hq
      rw [fz_lt (by omega)]
      refine ⟨fun y => absurd y (w_pos (by omega)), fun _ => ⟨fun _ => ex_two (s := (1, kw X q)) H0 hl h7 (by show ¬ (1 : Nat) = 2; decide) (fun _ _ => rfl) (fun M1 E1 => hq.1 rfl M1 E1), fun y => absurd ((w_le (b := 3) (by omega) (by omega)).mpr (by omega)) y⟩⟩
    · rw [if_neg k4] at hq
      have bad : ∀ v : Int32, mx_W m_X11_wrong (d + 2) 0 [.ref 58, .int 3] [] M (fun o M9 => mx_sh M9 = mx_sh M ∧ mx_R M9 = mx_R M ∧ (o = .inl none ∧ (mx_W m_X11_puts (d + 2) 0 [.ref 58, .int (w 2)] [] M9 (fun o M10 => mx_sh M10 = mx_sh M9 ∧ mx_R M10 = mx_R M9 ∧ (o = .inl none ∧ (mx_W m_X11_puts (d + 2) 0 [.ref 58, .int v] [] M10 (fun o M11 => mx_sh M11 = mx_sh M10 ∧ mx_R M11 = mx_R M10 ∧ (o = .inl none ∧ (mx_W m_X11_isGood (d + 2) 0 [.ref 58] [] M11 (fun o M12 => mx_sh M12 = mx_sh M11 ∧ mx_R M12 = mx_R M11 ∧ (∃ x13 : Bool, o = .inl (some (.int (mx_b x13))) ∧ ((x13 = false → Q (.inl none) M12) ∧ (x13 = true → (mx_W m_X11_goes (d + 2) 0 [.ref 58, .retAddr 0] [] M12 (fun o M14 => mx_sh M14 = mx_sh M12 ∧ mx_R M14 = mx_R M12 ∧ (o = .inl none ∧ Q (.inl none) M14)))))))))))))))) := fun v => by
        refine q_wrong2 (k := 3) T g K (fun M1 L1 k1 k2 => ⟨L1.1.1, L1.1.2.1, rfl, ?_⟩)
        obtain ⟨H1, K1, g30, gw, g29⟩ := fl 3 (by decide) (by decide) M1 L1 k1 k2
        exact flt_two (v1 := fun _ => w 2) (v2 := fun _ => v) S tp q H1 K1 g30 gw g29 ac (by omega) (by omega) (fun M2 H2 => hq.2 (show ¬ (3 : Nat) = 0 by decide) M2 H2)
      rcases Nat.lt_or_ge (kw X q) 15 with h | h
      · rw [fz_lt h]
        exact ⟨fun y => absurd y (w_pos (by omega)), fun _ => ⟨fun y => absurd ((w_le (b := 3) (by omega) (by omega)).mp y) (by omega), fun _ => bad _⟩⟩
      · rw [fz_ge h]
        exact ⟨fun _ => bad _, fun y => absurd (by decide) y⟩
  · rw [if_pos z, if_pos x] at hq
    have hl := knd_lt (X := X) (q := q) (by omega)
    have m : m4 (sz X q) = sz X q := if_pos x
    exact ex_two (s := (0, dgv X q (sz X q))) (v2 := fun M => mx_I M 58 24) H0 hl h7 (by show ¬ (0 : Nat) = 2; decide) (fun M1 K1 => by have := K1.2.2.1 z; rw [m] at this; exact this) (fun M1 E1 => hq.1 rfl M1 E1)
  · rw [if_pos z, if_neg x] at hq
    refine q_wrong2 (k := 2) T g K (fun M1 L1 k1 k2 => ⟨L1.1.1, L1.1.2.1, rfl, ?_⟩)
    obtain ⟨H1, K1, g30, gw, g29⟩ := fl 2 (by decide) (by decide) M1 L1 k1 k2
    exact flt_two (v1 := fun _ => w 1) (v2 := fun M => mx_I M 58 24) S tp q H1 K1 g30 gw g29 ac (by omega) (by omega) (fun M2 H2 => hq.2 (show ¬ (2 : Nat) = 0 by decide) M2 H2)
theorem ex_deeper {d : Nat} {X : TX} {M0 M : mx_M} {a0 b q dp : Nat} {S : List Nat} {te : Nat → Bool} {L : List SP} {Q : QQ} (H : EX X M0 a0 M b q S dp te L) (hb : b ≤ 702) (h1 : dp < 6 → ∀ M1, EX X M0 a0 M1 b q S (dp + 1) (fun j => if j = dp + 1 then false else te j) L → Q (.inl none) M1) (h2 : dp = 6 → ∀ M1, FLT X M0 a0 M1 (exprF X 0 q).1 q → Q (.inl none) M1) : mx_W m_X11_deeper (d + 1) 0 [.ref 58] [] M Q := by
  have H0 := H
  obtain ⟨⟨T, F, K, g⟩, ⟨h30, hw⟩, ⟨h31, hd, h84⟩, tp, h29, hcd, hl, ht⟩ := H
  have hkd := tkM_kd (X := X) (q := q)
  have h2' : dp = 6 → ∀ M1, FLT X M0 a0 M1 (if knd X q = 2 ∨ knd X q = 1 ∨ sg X q 40 = true then 2 else 1) q → Q (.inl none) M1 := h2
  refine x_X11_deeper_0 T ?_
  rw [h31, show (6 : Int32) = w 6 from rfl, w_le (by omega) (by omega), K.1.2.1, show (2 : Int32) = w 2 from rfl, show (1 : Int32) = w 1 from rfl, w_inj (by omega) (by omega), w_inj (by omega) (by omega)]
  refine ⟨fun z => ?_, fun z M7 f7 => ?_⟩
  · have e6 : dp = 6 := by omega
    have bad : ∀ kk, (if knd X q = 2 ∨ knd X q = 1 ∨ sg X q 40 = true then 2 else 1) = kk → 1 ≤ kk → kk < 10 → mx_W m_X11_wrong d 0 [.ref 58, .int (w kk)] [] M (fun o M1 => mx_sh M1 = mx_sh M ∧ mx_R M1 = mx_R M ∧ (o = .inl none ∧ Q (.inl none) M1)) := fun kk e k1 k2 =>
      ex_wrong H0 hb k1 k2 (fun M1 F1 => ⟨F1.1.2.1.1.1.trans F.1.1.symm, F1.1.2.1.1.2.1.trans F.1.2.1.symm, rfl, h2' e6 M1 (by rw [e]; exact F1)⟩)
    refine ⟨fun y => bad 2 (if_pos (Or.inl y)) (by decide) (by decide), fun y => ⟨fun x => bad 2 (if_pos (Or.inr (Or.inl x))) (by decide) (by decide), fun x => q_isSign (c := 40) T K (by decide) ⟨rfl, rfl, _, rfl, fun v => bad 1 (if_neg ?_) (by decide) (by decide), fun v => bad 2 (if_pos (Or.inr (Or.inr v))) (by decide) (by decide)⟩⟩⟩
    intro u
    rcases u with u | u | u
    · exact y u
    · exact x u
    · exact absurd (v.symm.trans u) (by decide)
  · rw [w_add] at f7
    have e7 : mx_I M7 58 31 = w (dp + 1) := by rw [f7]; exact I_eq
    rw [e7, w_nat (by omega)]
    refine ⟨w_in (by omega) (by decide), fun M8 f8 => h1 (by omega) M8 ?_⟩
    have L7 : lip (fun k j => (k = 58 ∧ j = 31) ∨ k = 84) M M7 := by rw [f7]; exact lip_setI (Or.inl ⟨rfl, rfl⟩)
    have L8 : lip (fun k j => (k = 58 ∧ j = 31) ∨ k = 84) M7 M8 := by rw [f8]; exact lip_setI (Or.inr rfl)
    have L78 := lip_trans L7 L8
    have f : ∀ k j, ¬ ((k = 58 ∧ j = 31) ∨ k = 84) → mx_I M8 k j = mx_I M k j := fun k j h => (L78.2 k j h).1
    refine ⟨⟨lip_T L78 T, lip_trans F (lip_mono L78 (fun k j h => ?_)), tkM_E L78 (fun k j h => by omega) K, ?_⟩, ⟨?_, ?_⟩, ⟨?_, by omega, fun j hj0 hj => ?_⟩, tp, ?_, ?_, hl, ht⟩
    · rcases h with h | h
      · exact Or.inl ⟨h.1, by omega⟩
      · exact Or.inr (Or.inr (Or.inr h))
    · exact g16_f (f 58 16 (by omega)) (f 58 17 (by omega)) g
    · rw [f 58 30 (by omega)]; exact h30
    · exact wtS_at S (fun j _ => f 80 j (by omega)) hw
    · rw [f8, I_ne (by omega)]; exact e7
    · by_cases e : j = dp + 1
      · rw [f8, e, I_eq]
        show vp_nar .boolean 0 = mx_b (if dp + 1 = dp + 1 then false else te (dp + 1))
        rw [if_pos rfl]; rfl
      · show mx_I M8 84 j = mx_b (if j = dp + 1 then false else te j)
        rw [f8, I_ne (by omega), f7, I_ne (by omega), if_neg e]; exact h84 j hj0 (by omega)
    · rw [f 58 29 (by omega)]; exact h29
    · exact cdP_at L _ _ (fun j _ _ => f 79 j (by omega)) hcd
theorem q_opened_l {d : Nat} {M : mx_M} {Q : QQ} (T : mx_Tp M) : ∀ (S : List Nat), wtS M S → S.length < 900 → Q (.inl (some (.int (mx_b (S.any (fun x => decide (14 ≤ x))))))) M → mx_W m_X11_isOpened (d + 1) 7 [.ref 58, .int (w S.length - 1)] [] M Q
  | [], _, _, hq => by
    refine x_X11_isOpened_7 T _ ⟨fun z => ⟨fun _ => hq, fun y => absurd z y⟩, fun z => absurd (by decide) z⟩
  | x :: S, hw, hl, hq => by
    rw [List.length_cons] at hl
    have es : w (x :: S).length - 1 = w S.length := w_sub (a := S.length + 1) (b := 1) (by omega)
    rw [es]
    refine x_X11_isOpened_7 T _ ⟨fun z => absurd z (w_pos (by omega)), fun z => ⟨w_in (by omega) (by decide), ?_⟩⟩
    rw [w_nat (by omega), hw.1]
    refine q_isOpen T hw.2.1 ⟨rfl, rfl, _, rfl, fun y => ⟨fun v => absurd v z, fun _ => ?_⟩, fun y => ?_⟩
    · rw [List.any_cons, y, Bool.true_or] at hq; exact hq
    · rw [List.any_cons, y, Bool.false_or] at hq
      rw [w_m1]
      exact q_opened_l T S hw.2.2 (by omega) hq
theorem ex_closes {d : Nat} {X : TX} {M0 M : mx_M} {a0 b q dp : Nat} {P S : List Nat} {te : Nat → Bool} {L : List SP} {Q : QQ} (E : EX X M0 a0 M b q (P ++ 14 :: S) (dp + 1) te L) (hb : b ≤ 702) (hP : ppL P 0) (hq : ∀ M1, EX X M0 a0 M1 b (nx X q) S dp te (L ++ mpP P) → Q (.inl none) M1) : mx_W m_X11_closes (d + 2) 0 [.ref 58] [] M Q := by
  refine x_X11_closes_0 (d := d + 1) E.1.1 (ex_drops (k := 0) E hb (by decide) (fun x S1 e => Or.inl (by have e : 14 = x := (List.cons.inj e).1; omega)) hP (fun M1 E1 => ⟨(ex_sh E E1).1, (ex_sh E E1).2, rfl, fun M2 f2 M3 f3 => ?_⟩))
  obtain ⟨⟨T, F, K, g⟩, ⟨h30, hw⟩, ⟨h31, hd, h84⟩, tp, h29, hcd, hl, ht⟩ := E1
  have h30 : mx_I M1 58 30 = w (S.length + 1) := h30
  have hl : S.length + 1 ≤ b := hl
  have ht : tp + (S.length + 1) + 2 ≤ 2 * b := ht
  have e30 : w (S.length + 1) - 1 = w S.length := w_sub (a := S.length + 1) (b := 1) (by omega)
  have e31 : w (dp + 1) - 1 = w dp := w_sub (a := dp + 1) (b := 1) (by omega)
  rw [h30, e30] at f2
  have g31 : mx_I M2 58 31 = w (dp + 1) := by rw [f2, I_ne (by omega)]; exact h31
  rw [g31, e31] at f3
  have L2 : lip (fun k j => k = 58 ∧ (j = 30 ∨ j = 31)) M1 M2 := by rw [f2]; exact lip_setI ⟨rfl, Or.inl rfl⟩
  have L3 : lip (fun k j => k = 58 ∧ (j = 30 ∨ j = 31)) M2 M3 := by rw [f3]; exact lip_setI ⟨rfl, Or.inr rfl⟩
  have L23 := lip_trans L2 L3
  have f : ∀ k j, ¬ (k = 58 ∧ (j = 30 ∨ j = 31)) → mx_I M3 k j = mx_I M1 k j := fun k j h => (L23.2 k j h).1
  have E3 : EX X M0 a0 M3 b q S dp te (L ++ mpP P) := by
    refine ⟨⟨lip_T L23 T, lip_trans F (lip_mono L23 (fun k j h => Or.inl ⟨h.1, by omega⟩)), tkM_E L23 (fun k j h => by omega) K, ?_⟩, ⟨?_, ?_⟩, ⟨?_, by omega, fun j hj0 hj => ?_⟩, tp, ?_, ?_, by omega, by omega⟩
    · exact g16_f (f 58 16 (by omega)) (f 58 17 (by omega)) g
    · rw [f3, I_ne (by omega), f2]; exact I_eq
    · exact wtS_at S (fun j _ => f 80 j (by omega)) hw.2.2
    · rw [f3]; exact I_eq
    · rw [f 84 j (by omega)]; exact h84 j hj0 (by omega)
    · rw [f 58 29 (by omega)]; exact h29
    · exact cdP_at _ _ _ (fun j _ _ => f 79 j (by omega)) hcd
  exact ex_goes E3 (fun M4 E4 => ⟨(ex_sh E3 E4).1, (ex_sh E3 E4).2, rfl, hq M4 E4⟩)
/-! levels -/
abbrev RB (D : Nat) (Q : QQ) (M : mx_M) : Prop := mx_W m_X11_expression (D + 5) 29 [.ref 58, .int 1, .retAddr 0] [] M Q
abbrev RF (D : Nat) (Q : QQ) (M : mx_M) : Prop := mx_W m_X11_expression (D + 5) 345 [.ref 58, .retAddr 0, .retAddr 0] [] M Q
abbrev Qop (M0 : mx_M) (D : Nat) (Q : QQ) : QQ := fun o M1 => mx_sh M1 = mx_sh M0 ∧ mx_R M1 = mx_R M0 ∧ o = .inl none ∧ RB D Q M1
abbrev RN (M0 : mx_M) (D : Nat) (Q : QQ) (v : Int32) (m : Nat) (M : mx_M) : Prop := mx_W m_X11_operand (D + 4) 18 [.ref 58, .retAddr 0, .int v, .retAddr 0, .int (w m)] [] M (Qop M0 D Q)
def stp (X : TX) (lvl : Nat) (te : Nat → Bool) (dp q : Nat) : Prop := (lvl ≤ 6 → opP X q = 0) ∧ (lvl ≤ 5 → opS X q = 0) ∧ (lvl ≤ 4 → opT X q = 0 ∨ te dp = true) ∧ (lvl ≤ 2 → opA X q = 0) ∧ (lvl ≤ 1 → opO X q = 0)
def SIM (X : TX) (M0 : mx_M) (a0 D : Nat) (Q : QQ) (low : Bool) (lvl dp : Nat) (F : Nat → RS) : Prop := ∀ (q : Nat) (S : List Nat) (te : Nat → Bool) (L : List SP) (M : mx_M) (v : Int32) (m : Nat), EX X M0 a0 M q q S dp te L → wkS S lvl → (lvl ≤ 4 → te dp = false) → (low = true → m ≤ 6 ∧ (v = 0 ∨ ¬ kw X q = 14)) → (low = false → v = 1 ∧ m = 0) →
   ((F q).1 = 0 → ∀ (M1 : mx_M) (P : List Nat) (te1 : Nat → Bool) (L1 : List SP), EX X M0 a0 M1 (F q).2.1 (F q).2.1 (P ++ S) dp te1 L1 → L1 ++ mpP P = L ++ (F q).2.2 → ppL P lvl → (∀ j, j < dp → te1 j = te j) → (5 ≤ lvl → te1 dp = te dp) → stp X lvl te1 dp (F q).2.1 → RB D Q M1) →
   (¬ (F q).1 = 0 → ∀ M1, FLT X M0 a0 M1 (F q).1 (F q).2.1 → RF D Q M1) → RN M0 D Q v m M
theorem mpP_app (P P2 : List Nat) : mpP (P ++ P2) = mpP P ++ mpP P2 := List.map_append ..
theorem ex_ent {X : TX} {M0 M : mx_M} {a0 D b q dp : Nat} {S : List Nat} {te : Nat → Bool} {L : List SP} {Q : QQ} {v : Bool} (E : EX X M0 a0 M b q S dp te L) (h : RN M0 D Q (mx_b v) 0 M) : mx_W m_X11_operand (D + 4) 0 [.ref 58, .int (mx_b v), .retAddr 0, .retAddr 0, .retAddr 0] [] M (Qop M0 D Q) :=
  x_X11_operand_0 (d := D + 3) E.1.1 _ (x_X11_operand_4 (d := D + 3) E.1.1 _ _ ⟨fun z => absurd z (by decide), fun _ => q_isGood E.1.1 E.1.2.2.2 ⟨rfl, rfl, _, rfl, (fun y => by cases y), fun _ => h⟩⟩)
theorem ex_ent2 {X : TX} {M0 M : mx_M} {a0 D b q dp : Nat} {S : List Nat} {te : Nat → Bool} {L : List SP} {Q : QQ} {v : Bool} (T0 : mx_Tp M0) (E : EX X M0 a0 M b q S dp te L) (h : RN M0 D Q (mx_b v) 0 M) : mx_W m_X11_operand (D + 4) 0 [.ref 58, .int (mx_b v), .retAddr 0, .retAddr 0, .retAddr 0] [] M (fun o M5 => mx_sh M5 = mx_sh M ∧ mx_R M5 = mx_R M ∧ (o = .inl none ∧ mx_W m_X11_expression (D + 5) 322 [.ref 58, .int 1, .retAddr 0] [] M5 Q)) :=
  mx_mono (ex_ent E h) (fun o M5 k => ⟨k.1.trans E.1.2.1.1.1.symm, k.2.1.trans E.1.2.1.1.2.1.symm, k.2.2.1, x_X11_expression_322 (d := D + 4) (tp_of k.1 k.2.1 T0) _ k.2.2.2⟩)
theorem ex_700 {X : TX} {M0 M : mx_M} {a0 b q dp : Nat} {S : List Nat} {te : Nat → Bool} {L : List SP} (E : EX X M0 a0 M b q S dp te L) : q ≤ X.2 ∧ X.2 ≤ 700 := ⟨E.1.2.2.1.2.2.2.2.2, E.1.2.2.1.2.2.2.2.1.2.1⟩
/-- a chain -/
theorem m_lop {X : TX} {M0 : mx_M} {a0 D lvl sub dp : Nat} {Q : QQ} {low v0 : Bool} {op : Nat → Nat} {F : Nat → RS} (rst : Bool) (G : gd X F) (O : gdo X op) (S0 : SIM X M0 a0 D Q low sub dp F) (hst : ∀ q, ¬ op q = 0 → stg (op q) = lvl) (hls : lvl < sub) (hlow : low = true → v0 = false) (hlow2 : low = false → v0 = true) (hrs : rst = false → 5 ≤ sub) (hrs2 : rst = true → lvl < 5)
    (hop : ∀ (q : Nat) (P S : List Nat) (te : Nat → Bool) (L1 : List SP) (M : mx_M), EX X M0 a0 M q q (P ++ S) dp te L1 → ¬ op q = 0 → ppL P lvl → wkS S lvl → (∀ M1, EX X M0 a0 M1 (nx X q) (nx X q) (op q :: S) dp (fun j => if rst = true ∧ j = dp then false else te j) (L1 ++ mpP P) → RN M0 D Q (mx_b v0) 0 M1) → RB D Q M)
    (hsp : ∀ te q, stp X sub te dp q → op q = 0 → stp X lvl te dp q) {S : List Nat} (wS : wkS S lvl) (te0 : Nat → Bool) (L : List SP) (r : RS)
    (hq1 : r.1 = 0 → ∀ (M1 : mx_M) (P : List Nat) (te1 : Nat → Bool) (L1 : List SP), EX X M0 a0 M1 r.2.1 r.2.1 (P ++ S) dp te1 L1 → L1 ++ mpP P = L ++ r.2.2 → ppL P lvl → (∀ j, j < dp → te1 j = te0 j) → (5 ≤ lvl → te1 dp = te0 dp) → stp X lvl te1 dp r.2.1 → RB D Q M1)
    (hq2 : ¬ r.1 = 0 → ∀ M1, FLT X M0 a0 M1 r.1 r.2.1 → RF D Q M1) :
    ∀ (f q : Nat) (La : List SP) (P : List Nat) (te : Nat → Bool) (L1 : List SP) (M : mx_M), 700 ≤ q + f → lopF X op F f q La = r → EX X M0 a0 M q q (P ++ S) dp te L1 → L1 ++ mpP P = L ++ La → ppL P lvl → (∀ j, j < dp → te j = te0 j) → (5 ≤ lvl → te dp = te0 dp) → stp X sub te dp q → RB D Q M
  | 0, q, La, P, te, L1, M, hf, e, E, eL, hP, h1, h2, hs => by
    have e : (0, q, La) = r := e
    have z : op q = 0 := by
      rcases Nat.eq_zero_or_pos (op q) with z | z
      · exact z
      · have := (O q (by omega)).1
        have := ex_700 E
        omega
    rw [← e] at hq1
    exact hq1 rfl M P te L1 E eL hP h1 h2 (hsp te q hs z)
  | f + 1, q, La, P, te, L1, M, hf, e, E, eL, hP, h1, h2, hs => by
    unfold lopF at e
    by_cases z : op q = 0
    · rw [if_pos z] at e
      rw [← e] at hq1
      exact hq1 rfl M P te L1 E eL hP h1 h2 (hsp te q hs z)
    · rw [if_neg z] at e
      have o := O q z
      have n := nx_lt o.1
      refine hop q P S te L1 M E z hP wS (fun M1 E1 => ?_)
      refine S0 (nx X q) (op q :: S) _ (L1 ++ mpP P) M1 (mx_b v0) 0 E1 (fun x S1 ex => ?_) (fun h4 => ?_) (fun hl => ⟨by decide, Or.inl (by rw [hlow hl]; rfl)⟩) (fun hl => ⟨by rw [hlow2 hl]; rfl, rfl⟩) (fun z1 M2 P2 te2 L2 E2 eL2 hP2 k1 k2 hs2 => ?_) (fun z1 M2 F2 => ?_)
      · have ex : op q = x := (List.cons.inj ex).1
        rw [← ex, hst q z]; exact Or.inr hls
      · cases rst with
        | true => exact if_pos ⟨rfl, rfl⟩
        | false => have := hrs rfl; omega
      · rw [if_pos z1] at e
        have g := G _ n.2 z1
        refine m_lop rst G O S0 hst hls hlow hlow2 hrs hrs2 hop hsp wS te0 L r hq1 hq2 f _ _ (P2 ++ [op q]) te2 L2 M2 (by omega) e (by rw [List.append_assoc]; exact E2) ?_ (fun x hx => ?_) (fun j hj => ?_) (fun h5 => ?_) hs2
        · rw [mpP_app, ← List.append_assoc, eL2, eL, ← List.append_assoc, ← List.append_assoc]; rfl
        · rcases List.mem_append.mp hx with hx | hx
          · have := hP2 x hx; exact ⟨this.1, this.2.1, by omega⟩
          · have ex : x = op q := List.mem_singleton.mp hx
            rw [ex, hst q z]; exact ⟨o.2.1, by omega, Nat.le_refl _⟩
        · rw [k1 j hj, if_neg (fun y => by omega)]; exact h1 j hj
        · cases rst with
          | true => have := hrs2 rfl; omega
          | false => rw [k2 (hrs rfl), if_neg (fun y => by cases y.1)]; exact h2 h5
      · rw [if_neg z1] at e
        rw [← e] at hq2
        exact hq2 z1 M2 F2
theorem m_ch {X : TX} {M0 : mx_M} {a0 D lvl sub dp : Nat} {Q : QQ} {low v0 : Bool} {op : Nat → Nat} {F : Nat → RS} (rst : Bool) (G : gd X F) (O : gdo X op) (S0 : SIM X M0 a0 D Q low sub dp F) (hst : ∀ q, ¬ op q = 0 → stg (op q) = lvl) (hls : lvl < sub) (hlow : low = true → v0 = false) (hlow2 : low = false → v0 = true) (hrs : rst = false → 5 ≤ sub) (hrs2 : rst = true → lvl < 5) (hsl : sub ≤ 4 → lvl ≤ 4)
    (hop : ∀ (q : Nat) (P S : List Nat) (te : Nat → Bool) (L1 : List SP) (M : mx_M), EX X M0 a0 M q q (P ++ S) dp te L1 → ¬ op q = 0 → ppL P lvl → wkS S lvl → (∀ M1, EX X M0 a0 M1 (nx X q) (nx X q) (op q :: S) dp (fun j => if rst = true ∧ j = dp then false else te j) (L1 ++ mpP P) → RN M0 D Q (mx_b v0) 0 M1) → RB D Q M)
    (hsp : ∀ te q, stp X sub te dp q → op q = 0 → stp X lvl te dp q) : SIM X M0 a0 D Q low lvl dp (chF X op F) := by
  intro q S te L M v m E wS ht hl1 hl2 hq1 hq2
  have b7 := ex_700 E
  unfold chF at hq1 hq2
  refine S0 q S te L M v m E (fun x S1 ex => ?_) (fun h => ht (by omega)) hl1 hl2 (fun z M1 P1 te1 L1 E1 eL hP k1 k2 hs => ?_) (fun z M1 F1 => ?_)
  · rcases wS x S1 ex with h | h
    · exact Or.inl h
    · exact Or.inr (by omega)
  · rw [if_pos z] at hq1 hq2
    have g := G q b7.1 z
    exact m_lop rst G O S0 hst hls hlow hlow2 hrs hrs2 hop hsp wS te L _ hq1 hq2 700 _ _ P1 te1 L1 M1 (by omega) rfl E1 eL (fun x hx => ⟨(hP x hx).1, (hP x hx).2.1, by have := (hP x hx).2.2; omega⟩) k1 (fun h => k2 (by omega)) hs
  · rw [if_neg z] at hq2
    exact hq2 z M1 F1
