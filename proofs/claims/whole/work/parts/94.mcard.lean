/-! the reference reads a card -/
def WN (M0 M : mx_M) (X : TX) (c : CD) (q tp y h j : Nat) : Prop := WB M0 M X q ∧ (mx_I M 58 29 = w tp ∧ tp ≤ 2 * q) ∧ (csN M X c ∧ mx_I M 72 (dN c) = w y ∧ mx_I M 73 (dN c) = w j ∧ ∀ k, k < j → mx_J M 81 (4 * dN c + k) = u64 (nm (lt8 X (nxI X h k)) (sz X (nxI X h k)))) ∧ ksN M X c tp
theorem q_head_c {d : Nat} {M0 : mx_M} {X : TX} {c : CD} {tp y h : Nat} {Q : QQ} (G : gdC X c) (hN : dN c < 10) (r : Nat × Nat × Nat)
    (hq1 : r.1 = 0 → ∀ M1, WN M0 M1 X c r.2.1 tp y h r.2.2 → ∀ M2, M2 = mx_setI M1 58 27 (w (dN c + 1)) → Q (.inl none) M2)
    (hq2 : ¬ r.1 = 0 → ∀ M1, BM M0 M1 X r.1 r.2.1 → Q (.inl none) M1) :
    ∀ (f j q : Nat) (v : Int32) (M : mx_M), j + f = 4 → q = nxI X h j → hdF X f j q = r → (¬ v = 0 ↔ (j = 0 ∨ knd X q = 1)) → WN M0 M X c q tp y h j → mx_W m_X11_readsCard (d + 3) 54 [.ref 58, .int (w (dN c)), .int v] [] M Q
  | 0, j, q, v, M, hj, eq, er, hv, W => by
    have hkd := tkM_kd (X := X) (q := q)
    have e27 : mx_I M 58 27 + 1 = w (dN c + 1) := by rw [W.2.2.1.1.1, w_add1]
    unfold hdF at er
    refine x_X11_readsCard_54 (d := d + 2) W.1.1.1 _ _ ⟨fun z => ?_, fun z => ?_⟩
    · have nk : ¬ knd X q = 1 := fun y => hv.mpr (Or.inr y) z
      rw [if_neg nk] at er
      rw [← er] at hq1
      exact q_isGood W.1.1.1 W.1.2.2 ⟨rfl, rfl, true, rfl, (fun y => by cases y), fun _ M3 f3 => hq1 rfl M W M3 (by rw [f3, e27])⟩
    · have yk : knd X q = 1 := by
        rcases hv.mp z with y | y
        · omega
        · exact y
      rw [if_pos yk] at er
      rw [← er] at hq2
      refine q_isGood W.1.1.1 W.1.2.2 ⟨rfl, rfl, true, rfl, (fun y => by cases y), fun _ => ⟨w_in (by omega) (by decide), ?_⟩⟩
      rw [w_nat (n := dN c) (by omega), W.2.2.1.2.2.1, show (4 : Int32) = w 4 from rfl, w_inj (by omega) (by omega)]
      exact ⟨fun y => absurd (by omega) y, fun _ => b_wrong (k := 2) W.1 (fun M1 B1 s1 t1 _ => ⟨s1, t1, rfl, b_word B1 (by omega) ⟨rfl, rfl, false, rfl, (fun y => by cases y), fun _ => hq2 (show ¬ (2 : Nat) = 0 by decide) M1 B1⟩⟩)⟩
  | f + 1, j, q, v, M, hj, eq, er, hv, W => by
    have hkd := tkM_kd (X := X) (q := q)
    have b7 := tkM_700 W.1.2.1
    have e27 : mx_I M 58 27 + 1 = w (dN c + 1) := by rw [W.2.2.1.1.1, w_add1]
    unfold hdF at er
    refine x_X11_readsCard_54 (d := d + 2) W.1.1.1 _ _ ⟨fun z => ?_, fun z => ?_⟩
    · have nk : ¬ (j = 0 ∨ knd X q = 1) := fun y => hv.mpr y z
      rw [if_neg nk] at er
      rw [← er] at hq1
      exact q_isGood W.1.1.1 W.1.2.2 ⟨rfl, rfl, true, rfl, (fun y => by cases y), fun _ M3 f3 => hq1 rfl M W M3 (by rw [f3, e27])⟩
    · rw [if_pos (hv.mp z)] at er
      refine q_isGood W.1.1.1 W.1.2.2 ⟨rfl, rfl, true, rfl, (fun y => by cases y), fun _ => ⟨w_in (by omega) (by decide), ?_⟩⟩
      rw [w_nat (n := dN c) (by omega), W.2.2.1.2.2.1, show (4 : Int32) = w 4 from rfl, w_inj (by omega) (by omega)]
      refine ⟨fun _ => q_wordHere (m := 8) W.1 (by decide) (fun k1 k8 => ⟨rfl, rfl, true, rfl, fun _ => ?_, fun y => by cases y⟩) (fun kk ek nk M1 B1 s1 t1 => ⟨s1, t1, false, rfl, (fun y => by cases y), fun _ => ?_⟩), fun y => absurd y (by omega)⟩
      · rw [if_pos k1, if_pos k8] at er
        rw [W.2.2.1.2.2.1, W.1.2.1.2.1 k1, w_mul, w_add, w_nat (n := 4 * dN c + j) (by omega)]
        refine ⟨w_in (by omega) (by decide), w_in (by omega) (by decide), fun M11 f11 => ⟨w_in (by omega) (by decide), w_in (by omega) (by decide), fun M12 f12 => ?_⟩⟩
        have e73 : mx_I M11 73 (dN c) = w j := by rw [f11]; exact W.2.2.1.2.2.1
        rw [e73, w_add1] at f12
        have m8e : m8 (sz X q) = sz X q := if_pos k8
        rw [m8e] at f11
        have L1 : lip (fun k i => (k = 81 ∧ i = 4 * dN c + j) ∨ (k = 73 ∧ i = dN c)) M M11 := by rw [f11]; exact lip_setJ (Or.inl ⟨rfl, rfl⟩)
        have L2 : lip (fun k i => (k = 81 ∧ i = 4 * dN c + j) ∨ (k = 73 ∧ i = dN c)) M11 M12 := by rw [f12]; exact lip_setI (Or.inr ⟨rfl, rfl⟩)
        have LL := lip_trans L1 L2
        have j12 : mx_J M12 81 (4 * dN c + j) = u64 (nm (lt8 X q) (sz X q)) := by rw [f12]; show mx_J M11 _ _ = _; rw [f11]; exact J_eq
        have i12 : mx_I M12 73 (dN c) = w (j + 1) := by rw [f12]; exact I_eq
        refine wb_goes (wb_lip LL (fun k i z => by omega) W.1) (fun M13 W13 L13 => ⟨L13.1.1, L13.1.2.1, rfl, ?_⟩)
        have n := nx_le X b7.1
        have ht := W.2.1.2
        have W3 : WN M0 M13 X c (nx X q) tp y h (j + 1) := by
          refine ⟨W13, ⟨by rw [(L13.2 58 29 (by omega)).1, (LL.2 58 29 (by omega)).1]; exact W.2.1.1, by omega⟩, ⟨csN_lip G L13 (fun k i z => by omega) (csN_lip G LL (fun k i z => by omega) W.2.2.1.1), ?_, ?_, fun k hk => ?_⟩, ksN_lip L13 (fun k i z => by omega) (ksN_lip LL (fun k i z => by omega) W.2.2.2)⟩
          · rw [(L13.2 72 _ (by omega)).1, (LL.2 72 _ (by omega)).1]; exact W.2.2.1.2.1
          · rw [(L13.2 73 _ (by omega)).1]; exact i12
          · rw [(L13.2 81 _ (by omega)).2]
            by_cases ek : k = j
            · rw [ek, ← eq]; exact j12
            · rw [(LL.2 81 _ (by omega)).2]; exact W.2.2.1.2.2.2 k (by omega)
        have hkn := tkM_kd (X := X) (q := nx X q)
        rw [W13.2.1.1.2.1, show (1 : Int32) = w 1 from rfl, w_inj (by omega) (by omega)]
        refine ⟨fun z => q_head_c G hN r hq1 hq2 f (j + 1) (nx X q) 0 M13 (by omega) (by rw [eq]; rfl) er ⟨fun x => absurd rfl x, fun x => ?_⟩ W3, fun z => q_head_c G hN r hq1 hq2 f (j + 1) (nx X q) (w 1) M13 (by omega) (by rw [eq]; rfl) er ⟨fun _ => Or.inr z, fun _ => by decide⟩ W3⟩
        rcases x with x | x
        · omega
        · exact absurd x z
      · by_cases k1 : knd X q = 1
        · rw [if_pos k1, if_neg (fun z => nk ⟨k1, z⟩)] at er
          rw [if_pos k1] at ek
          rw [← er] at hq2
          rw [ek] at B1
          exact hq2 (show ¬ (2 : Nat) = 0 by decide) M1 B1
        · rw [if_neg k1] at er ek
          rw [← er] at hq2
          rw [ek] at B1
          exact hq2 (show ¬ (1 : Nat) = 0 by decide) M1 B1
/-- a faulty world in a card -/
theorem b_card {d k p : Nat} {v1 v2 : Int32} {M0 M : mx_M} {X : TX} {Q : QQ} (B : BM M0 M X k p) (h : 1 ≤ k ∧ k ≤ 5) (hq : Q (.inl none) M) : mx_W m_X11_readsCard (d + 1) 54 [.ref 58, .int v1, .int v2] [] M Q :=
  x_X11_readsCard_54 B.1.1 _ _ ⟨fun _ => b_bad B h ⟨rfl, rfl, false, rfl, fun _ => hq, fun y => by cases y⟩, fun _ => b_bad B h ⟨rfl, rfl, false, rfl, fun _ => b_bad B h ⟨rfl, rfl, false, rfl, fun _ => hq, fun y => by cases y⟩, fun y => by cases y⟩⟩
theorem q_readsCard {d : Nat} {M0 M : mx_M} {X : TX} {c : CD} {q tp : Nat} {Q : QQ} (G : gdC X c) (W : WM M0 M X c q tp) (hq : lnM M0 X (cardF X c q) (fun M1 => Q (.inl none) M1)) : mx_W m_X11_readsCard (d + 3) 0 [.ref 58, .retAddr 0, .retAddr 0] [] M Q := by
  have g := G.1
  unfold cardF at hq
  refine x_X11_readsCard_0 (d := d + 2) W.1.1.1 ?_
  rw [W.2.2.1.1, show (10 : Int32) = w 10 from rfl, w_inj (by omega) (by omega)]
  refine ⟨fun z => q_isGood W.1.1.1 W.1.2.2 ⟨rfl, rfl, true, rfl, fun _ => wm_goes G W (fun M3 W3 L3 => ⟨L3.1.1, L3.1.2.1, rfl, ?_⟩), fun y => by cases y⟩, fun z => b_wrong (k := 2) W.1 (fun M1 B1 s1 t1 _ => ⟨s1, t1, rfl, b_bad B1 (by omega) ⟨rfl, rfl, false, rfl, (fun y => by cases y), fun _ => ?_⟩⟩)⟩
  · rw [if_neg z] at hq
    rw [W3.2.2.1.1, w_nat (n := dN c) (by omega)]
    have b7 := tkM_700 W3.1.2.1
    refine q_number W3.1 (fun k2 k4 k9 M4 W4 L4 => ⟨L4.1.1, L4.1.2.1, _, rfl, w_in (by omega) (by decide), fun M6 f6 => ⟨w_in (by omega) (by decide), fun M7 f7 => ?_⟩⟩) (fun kk ek nk M4 v B4 s4 t4 l4 => ⟨s4, t4, v, rfl, w_in (by omega) (by decide), fun M6 f6 => ⟨w_in (by omega) (by decide), fun M7 f7 => ?_⟩⟩)
    · rw [if_pos k2, if_pos k4, if_pos k9] at hq
      have L6 : lip (fun k i => (k = 72 ∨ k = 73) ∧ i = dN c) M4 M6 := by rw [f6]; exact lip_setI ⟨Or.inl rfl, rfl⟩
      have L7 : lip (fun k i => (k = 72 ∨ k = 73) ∧ i = dN c) M6 M7 := by rw [f7]; exact lip_setI ⟨Or.inr rfl, rfl⟩
      have LL := lip_trans L6 L7
      have n := nx_le X b7.1
      have ht := W3.2.1.2
      have W7 : WN M0 M7 X c (nx X (nx X q)) tp (dgv X (nx X q) (sz X (nx X q))) (nx X (nx X q)) 0 := by
        refine ⟨wb_lip LL (fun k i z => by omega) W4, ⟨by rw [(LL.2 58 29 (by omega)).1, (L4.2 58 29 (by omega)).1]; exact W3.2.1.1, by omega⟩, ⟨csN_lip G LL (fun k i z => by omega) (csN_lip G L4 (fun k i z => by omega) W3.2.2.1), ?_, ?_, fun k hk => by omega⟩, ksN_lip LL (fun k i z => by omega) (ksN_lip L4 (fun k i z => by omega) W3.2.2.2)⟩
        · rw [f7, I_ne (by omega), f6]; exact I_eq
        · rw [f7]; exact I_eq
      refine q_head_c (d := d) (y := dgv X (nx X q) (sz X (nx X q))) (h := nx X (nx X q)) G (by omega) (hdF X 4 0 (nx X (nx X q))) (fun z0 M8 W8 M9 f9 => ?_) (fun z0 M8 B8 => ?_) 4 0 (nx X (nx X q)) 1 M7 rfl rfl rfl ⟨fun _ => Or.inl rfl, fun _ => by decide⟩ W7
      · rw [if_pos z0] at hq
        have L9 : lip (fun k i => k = 58 ∧ i = 27) M8 M9 := by rw [f9]; exact lip_setI ⟨rfl, rfl⟩
        refine hq.1 rfl M9 tp ⟨wb_lip L9 (fun k i z => by omega) W8.1, ⟨by rw [(L9.2 58 29 (by omega)).1]; exact W8.2.1.1, W8.2.1.2⟩, ⟨by rw [f9]; exact I_eq, fun x hx => ?_⟩, ksN_lip L9 (fun k i z => by omega) W8.2.2.2⟩
        have hx : x < dN c + 1 := hx
        show mx_I M9 72 x = w (st1 (dY c) (dN c) _ x) ∧ mx_I M9 73 x = w (st1 (dW c) (dN c) _ x) ∧ ∀ k, k < st1 (dW c) (dN c) _ x → mx_J M9 81 (4 * x + k) = u64 (nm (lt8 X (nxI X (st1 (dH c) (dN c) _ x) k)) (sz X (nxI X (st1 (dH c) (dN c) _ x) k)))
        have f : ∀ k i, ¬ k = 58 → mx_I M9 k i = mx_I M8 k i ∧ mx_J M9 k i = mx_J M8 k i := fun k i a => L9.2 k i (by omega)
        by_cases ex : x = dN c
        · rw [ex, st1_eq, st1_eq, st1_eq, (f 72 _ (by decide)).1, (f 73 _ (by decide)).1]
          exact ⟨W8.2.2.1.2.1, W8.2.2.1.2.2.1, fun k hk => by rw [(f 81 _ (by decide)).2]; exact W8.2.2.1.2.2.2 k hk⟩
        · rw [st1_ne ex, st1_ne ex, st1_ne ex, (f 72 _ (by decide)).1, (f 73 _ (by decide)).1]
          have r := W8.2.2.1.1.2 x (by omega)
          exact ⟨r.1, r.2.1, fun k hk => by rw [(f 81 _ (by decide)).2]; exact r.2.2 k hk⟩
      · rw [if_neg z0] at hq
        exact hq.2 z0 M8 B8
    · have L6 : lip (fun k i => (k = 72 ∨ k = 73) ∧ i = dN c) M4 M6 := by rw [f6]; exact lip_setI ⟨Or.inl rfl, rfl⟩
      have L7 : lip (fun k i => (k = 72 ∨ k = 73) ∧ i = dN c) M6 M7 := by rw [f7]; exact lip_setI ⟨Or.inr rfl, rfl⟩
      have B7 := bm_lip (lip_trans L6 L7) (fun k i z => by omega) B4
      have hkk : 1 ≤ kk ∧ kk ≤ 5 := by rw [ek]; split <;> omega
      refine b_card B7 hkk ?_
      by_cases k2 : knd X (nx X q) = 2
      · rw [if_pos k2] at hq ek
        rw [ek] at B7
        by_cases k4 : sz X (nx X q) ≤ 4
        · rw [if_pos k4, if_neg (fun z => nk ⟨k2, k4, z⟩)] at hq
          exact hq.2 (show ¬ (2 : Nat) = 0 by decide) M7 B7
        · rw [if_neg k4] at hq
          exact hq.2 (show ¬ (2 : Nat) = 0 by decide) M7 B7
      · rw [if_neg k2] at hq ek
        rw [ek] at B7
        exact hq.2 (show ¬ (1 : Nat) = 0 by decide) M7 B7
  · rw [if_pos z] at hq
    exact hq.2 (show ¬ (2 : Nat) = 0 by decide) M1 B1
