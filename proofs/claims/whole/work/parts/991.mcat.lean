/-! the reference takes a catalogue -/
def CDM (M : mx_M) (X : TX) (c : CD) : Prop := (mx_I M 58 1 = w (dN c) ∧ mx_I M 58 2 = w (dK c)) ∧ cdM M (dN c) (dY c) (dW c) (hlX X c) (hgX X c) ∧ (∀ o, o < dK c → rlM M o (dR c o) (dRk c o) (flX X c o) (fgX X c o) (tlX X c o) (tgX X c o)) ∧ clM M (dK c) (dR c) (dT c) (dJ c) (dI c) ∧ ∀ o, o < dK c → dI c o = true → ∃ a, mx_I M 65 o = w a ∧ a < 2800 ∧ cdL M (dL c o) a
theorem cdP_L {M M2 : mx_M} {t : Nat} (ht : t < 2700) (h0 : mx_I M 79 t = 0) (e : ∀ j, j ≤ t → mx_I M2 66 j = mx_I M 79 j) : ∀ (L : List SP) (a : Nat), cdP M L a t → cdL M2 L a
  | [], a, h => by
    have h : a = t := h
    rw [cdL]
    exact ⟨by omega, by rw [e a (by omega), h]; exact h0⟩
  | s :: L, a, h => by
    rw [cdP] at h
    rw [cdL]
    by_cases q : s.1 = 2
    · rw [if_pos q] at h ⊢
      have l := cdP_le _ _ _ h.2
      exact ⟨by omega, by rw [e a (by omega)]; exact h.1, cdP_L ht h0 e L _ h.2⟩
    · rw [if_neg q] at h ⊢
      have l := cdP_le _ _ _ h.2.2
      exact ⟨by omega, by rw [e a (by omega)]; exact h.1, by rw [e (a + 1) (by omega)]; exact h.2.1, cdP_L ht h0 e L _ h.2.2⟩
theorem CDM_lip {P : Nat → Nat → Prop} {M M1 : mx_M} {X : TX} {c : CD} (L : lip P M M1) (hP : ∀ k j, P k j → ¬ (59 ≤ k ∧ k ≤ 69) ∧ ¬ (k = 58 ∧ (j = 1 ∨ j = 2))) (A : CDM M X c) : CDM M1 X c := by
  have f : ∀ k j, 59 ≤ k → k ≤ 69 → mx_I M1 k j = mx_I M k j ∧ mx_J M1 k j = mx_J M k j := fun k j a b => L.2 k j (fun z => (hP k j z).1 ⟨a, b⟩)
  obtain ⟨⟨h1, h2⟩, h3, h4, h5, h6⟩ := A
  refine ⟨⟨?_, ?_⟩, fun x hx => ?_, fun o ho => ?_, fun o ho => ?_, fun o ho hi => ?_⟩
  · rw [(L.2 58 1 (fun z => (hP _ _ z).2 ⟨rfl, Or.inl rfl⟩)).1]; exact h1
  · rw [(L.2 58 2 (fun z => (hP _ _ z).2 ⟨rfl, Or.inr rfl⟩)).1]; exact h2
  · obtain ⟨r1, r2, r3, r4⟩ := h3 x hx
    refine ⟨?_, ?_, r3, fun k hk => ⟨?_, (r4 k hk).2⟩⟩
    · rw [(f 59 x (by omega) (by omega)).1]; exact r1
    · rw [(f 60 x (by omega) (by omega)).1]; exact r2
    · rw [(f 67 _ (by omega) (by omega)).2]; exact (r4 k hk).1
  · obtain ⟨r1, r2, r3⟩ := h4 o ho
    refine ⟨r1, ?_, fun i hi => ⟨?_, ?_, fun y => ?_⟩⟩
    · rw [(f 61 o (by omega) (by omega)).1]; exact r2
    · rw [(f 62 _ (by omega) (by omega)).1]; exact (r3 i hi).1
    · rw [(f 68 _ (by omega) (by omega)).2]; exact (r3 i hi).2.1
    · rw [(f 69 _ (by omega) (by omega)).2]; exact (r3 i hi).2.2 y
  · rw [(f 61 o (by omega) (by omega)).1, (f 63 o (by omega) (by omega)).1, (f 64 o (by omega) (by omega)).1, (f 65 o (by omega) (by omega)).1]; exact h5 o ho
  · obtain ⟨a, r1, r2, r3⟩ := h6 o ho hi
    exact ⟨a, by rw [(f 65 o (by omega) (by omega)).1]; exact r1, r2, cdL_eq (funext fun j => (f 66 j (by omega) (by omega)).1) _ _ r3⟩
theorem cdm_wm {M0 M M1 M2 : mx_M} {X : TX} {c : CD} {q tp : Nat} (G : gdC X c) (W : WM M0 M X c q tp) (L : lip (fun k j => k = 58 ∧ (j = 1 ∨ j = 2)) M M1) (e1 : mx_I M1 58 1 = w (dN c)) (e2 : mx_I M1 58 2 = w (dK c)) (C : cpA M1 M2) : CDM M2 X c := by
  have g := G.1
  have b7 := tkM_700 W.1.2.1
  have ht := W.2.1.2
  obtain ⟨K, c59, c60, c61, c62, c63, c64, c65, c66, c67, c68, c69⟩ := C
  have fI : ∀ k j, 70 ≤ k → mx_I M1 k j = mx_I M k j := fun k j h => (L.2 k j (by omega)).1
  have fJ : ∀ k j, 70 ≤ k → mx_J M1 k j = mx_J M k j := fun k j h => (L.2 k j (by omega)).2
  refine ⟨⟨?_, ?_⟩, fun x hx => ?_, fun o ho => ?_, fun o ho => ?_, fun o ho hi => ?_⟩
  · rw [(K.2 58 (by omega)).1]; exact e1
  · rw [(K.2 58 (by omega)).1]; exact e2
  · obtain ⟨r1, r2, r3⟩ := W.2.2.1.2 x hx
    have gx := G.2.1 x hx
    refine ⟨?_, ?_, gx.2.1, fun k hk => ⟨?_, gx.2.2 k hk⟩⟩
    · rw [c59 x (by omega), fI 72 x (by omega)]; exact r1
    · rw [c60 x (by omega), fI 73 x (by omega)]; exact r2
    · rw [c67 _ (by omega), fJ 81 _ (by omega)]; exact r3 k hk
  · obtain ⟨r1, _, _⟩ := W.2.2.2.2 o ho
    have r8 := (G.2.2.1 o ho).1
    refine ⟨by omega, ?_, fun i hi => ⟨?_, ?_, fun y => ?_⟩⟩
    · rw [c61 o (by omega), fI 74 o (by omega)]; exact r1.1
    · rw [c62 _ (by omega), fI 75 _ (by omega)]; exact (r1.2 i hi).1
    · rw [c68 _ (by omega), fJ 82 _ (by omega)]; exact (r1.2 i hi).2.1
    · rw [c69 _ (by omega), fJ 83 _ (by omega)]; exact (r1.2 i hi).2.2 y
  · obtain ⟨r1, r2, r3⟩ := W.2.2.2.2 o ho
    rw [c61 o (by omega), c63 o (by omega), c64 o (by omega), c65 o (by omega), fI 74 o (by omega), fI 76 o (by omega), fI 77 o (by omega), fI 78 o (by omega)]
    refine ⟨r1.1, r2.1, r2.2, fun z => ?_, r3.1⟩
    cases h : dI c o
    · rfl
    · obtain ⟨a, t, a1, a2, a3, a4⟩ := r3.2 h
      have l := cdP_le _ _ _ a2
      rw [a1] at z
      exact absurd z (w_ne1 (by omega))
  · obtain ⟨a, t, a1, a2, a3, a4⟩ := (W.2.2.2.2 o ho).2.2.2 hi
    have l := cdP_le _ _ _ a2
    refine ⟨a, by rw [c65 o (by omega), fI 78 o (by omega)]; exact a1, by omega, cdP_L (M := M) (t := t) (by omega) a3 (fun j hj => ?_) _ _ a2⟩
    rw [c66 j (by omega), fI 79 j (by omega)]
theorem cdm_bef {M : mx_M} {X : TX} {c : CD} {o z : Nat} (G : gdC X c) (A : CDM M X c) (ho : o < dK c) (Ky : ∀ x, x < dN c → slM M (10 * o + x) (klX X c o x) (ksX X c o x)) : befM M o (dN c) (bsX X c o) := by
  have g := G.1
  refine befM_ord g.1 ?_ Ky
  unfold tvX
  cases h : dI c o
  · rw [if_neg Bool.false_ne_true]
    exact q_tie0 (by omega) g.1 ((A.2.2.2.1 o ho).2.2.2.mpr h) (fun x hx => (A.2.1 x hx).1)
  · rw [if_pos rfl]
    obtain ⟨a, r1, r2, r3⟩ := A.2.2.2.2 o ho h
    exact q_tie (by omega) g.1 A.2.1 r1 r2 r3 (G.2.2.2 o ho h)
theorem slM_Z {z z2 x l N : Nat} {k : Nat → Nat} {M M1 : mx_M} (L : lip (mZ z) M M1) (hne : ¬ z2 = z) (hx : x < 10) (A : slM M (10 * z2 + x) l k) : slM M1 (10 * z2 + x) l k := by
  obtain ⟨a1, a2, a3, a4⟩ := A
  refine ⟨a1, a2, ?_, fun i hi => ⟨?_, (a4 i hi).2⟩⟩
  · rw [(L.2 85 _ (by omega)).1]; exact a3
  · rw [(L.2 86 _ (by omega)).1]; exact (a4 i hi).1
abbrev mKy : Nat → Nat → Prop := fun k _ => k = 85 ∨ k = 86 ∨ k = 87
theorem q_cat_k {d : Nat} {X : TX} {c : CD} {M0 : mx_M} {Q : QQ} (G : gdC X c)
    (hq : ∀ M1, mx_Tp M1 → lip mKy M0 M1 → CDM M1 X c → kyM M1 (dN c) (dK c) (klX X c) (ksX X c) → ∀ M2, (∃ N1 N2 N3, N1 = mx_setI M1 90 0 0 ∧ N2 = mx_setI N1 58 53 0 ∧ N3 = mx_setI N2 58 56 (-1) ∧ M2 = mx_setI N3 58 60 0) → Q (.inl (some (.int 0))) M2) :
    ∀ (f o : Nat) (M : mx_M), o + f = dK c → mx_Tp M → lip mKy M0 M → CDM M X c → (∀ o' x, o' < o → x < dN c → slM M (10 * o' + x) (klX X c o' x) (ksX X c o' x)) → mx_W m_X11_catalogue (d + 4) 269 [.ref 58, .retAddr 0, .int (w o)] [] M Q
  | 0, o, M, ho, T, L, A, H => by
    have g := G.1
    refine x_X11_catalogue_269 (d := d + 3) T _ ?_
    rw [A.1.2, w_le (by omega) (by omega)]
    exact ⟨fun _ N1 e1 N2 e2 N3 e3 M2 e4 => hq M T L A (fun o' x h1 h2 => H o' x (by omega) h2) M2 ⟨N1, N2, N3, e1, e2, e3, e4⟩, fun z => absurd (by omega) z⟩
  | f + 1, o, M, ho, T, L, A, H => by
    have g := G.1
    refine x_X11_catalogue_269 (d := d + 3) T _ ?_
    rw [A.1.2, w_le (by omega) (by omega), w_add1]
    have AR : arM M o o (dN c) (dR c o) (dRk c o) (flX X c o) (fgX X c o) (tlX X c o) (tgX X c o) (dT c o) (dJ c o) (dY c) (dW c) (hlX X c) (hgX X c) := ⟨⟨T, A.1.1⟩, A.2.2.1 o (by omega), A.2.1, (A.2.2.2.1 o (by omega)).2.1, (A.2.2.2.1 o (by omega)).2.2.1⟩
    refine ⟨fun z => absurd z (by omega), fun _ => q_laysKeys (d := d) (dr := fun _ => false) g.1 (by omega) (G.2.2.1 o (by omega)) (fun i hi => ⟨fun z => absurd z (w_ne1 (by omega)), fun z => by cases z⟩) AR (fun M1 A1 L1 S1 => ⟨L1.1.1, L1.1.2.1, rfl, ?_⟩)⟩
    have L1' : lip mKy M M1 := lip_mono L1 (fun k j z => by show _ ∨ _; omega)
    refine q_cat_k G hq f (o + 1) M1 (by omega) (lip_T L1 T) (lip_trans L L1') (CDM_lip L1' (fun k j z => by omega) A) (fun o' x h1 h2 => ?_)
    by_cases e : o' = o
    · rw [e]; exact S1 x h2
    · exact slM_Z (N := 0) L1 e (by omega) (H o' x (by omega) h2)
theorem q_cat_l {d : Nat} {X : TX} {M0 : mx_M} {Q : QQ} (r : LR)
    (hq1 : r.1 = 0 → ∀ M1 tp1, WM M0 M1 X r.2.2 r.2.1 tp1 → gdC X r.2.2 → ∀ M2 M3, M2 = mx_setI M1 58 1 (w (dN r.2.2)) → M3 = mx_setI M2 58 2 (w (dK r.2.2)) → cpL (d + 7) Q M3)
    (hq2 : ¬ r.1 = 0 → r.1 ≤ 5 → ∀ M1, BM M0 M1 X r.1 r.2.1 → ∀ M2, M2 = mx_setI M1 71 0 (mx_I M1 71 0 + 1) → Q (.inl (some (.int (w r.1)))) M2) :
    ∀ (f q tp : Nat) (c : CD) (M : mx_M), 700 ≤ q + f → prsF X f c q = r → gdC X c → WM M0 M X c q tp → mx_W m_X11_catalogue (d + 8) 76 [.ref 58, .retAddr 0, .retAddr 0] [] M Q
  | f, q, tp, c, M, hf, er, G, W => by
    have b7 := tkM_700 W.1.2.1
    have hkd := tkM_kd (X := X) (q := q)
    have fin : (0, q, c) = r → ∀ M5 M6, M5 = mx_setI M 58 1 (mx_I M 58 27) → M6 = mx_setI M5 58 2 (mx_I M5 58 28) → cpL (d + 7) Q M6 := by
      intro er M5 M6 e5 e6
      have e27 : mx_I M 58 27 = w (dN c) := W.2.2.1.1
      have e28 : mx_I M5 58 28 = w (dK c) := by rw [e5, I_ne (by omega)]; exact W.2.2.2.1
      rw [e27] at e5
      rw [e28] at e6
      rw [← er] at hq1
      exact hq1 rfl M tp W G M5 M6 e5 e6
    refine x_X11_catalogue_76 (d := d + 7) W.1.1.1 (q_isGood W.1.1.1 W.1.2.2 ⟨rfl, rfl, true, rfl, (fun y => by cases y), fun _ => ?_⟩)
    rw [W.1.2.1.1.2.1, w_eq0 (by omega)]
    refine ⟨fun z => q_isGood W.1.1.1 W.1.2.2 ⟨rfl, rfl, true, rfl, fun _ M5 e5 M6 e6 => fin ?_ M5 M6 e5 e6, fun y => by cases y⟩, fun z => ?_⟩
    · cases f with
      | zero => exact er
      | succ f => unfold prsF at er; rw [if_pos z] at er; exact er
    · have ql := knd_lt (X := X) (q := q) z
      cases f with
      | zero => omega
      | succ f =>
        unfold prsF at er
        rw [if_neg z] at er
        have l5 := le5_line X c q
        refine q_line G W ⟨fun h0 M1 tp1 W1 => ⟨W1.1.1.2.1.1.trans W.1.1.2.1.1.symm, W1.1.1.2.1.2.1.trans W.1.1.2.1.2.1.symm, rfl, ?_⟩, fun h0 M1 B1 => ⟨B1.1.2.1.1.trans W.1.1.2.1.1.symm, B1.1.2.1.2.1.trans W.1.1.2.1.2.1.symm, rfl, ?_⟩⟩
        · rw [if_pos h0] at er
          by_cases s0 : (lineF X c q).1 = 0
          · have es : semF X (lineF X c q) = (if sg X (lineF X c q).2.1 59 = true then (0, nx X (lineF X c q).2.1, (lineF X c q).2.2) else (1, (lineF X c q).2.1, (lineF X c q).2.2)) := if_pos s0
            by_cases sy : sg X (lineF X c q).2.1 59 = true
            · rw [if_pos sy] at es
              rw [es] at er W1
              have ll := line_le b7.1 s0
              have nl := nx_le X ll.2
              exact q_cat_l r hq1 hq2 f (nx X (lineF X c q).2.1) tp1 (lineF X c q).2.2 M1 (by omega) er (gdC_line b7.1 G s0) W1
            · rw [if_neg sy] at es
              rw [es] at h0
              exact absurd h0 (show ¬ (1 : Nat) = 0 by decide)
          · have es : semF X (lineF X c q) = lineF X c q := if_neg s0
            rw [es] at h0
            exact absurd h0 s0
        · rw [if_neg h0] at er
          rw [er] at B1 h0
          have h5 : r.1 ≤ 5 := by
            rw [← er]
            by_cases s0 : (lineF X c q).1 = 0
            · have es : semF X (lineF X c q) = (if sg X (lineF X c q).2.1 59 = true then (0, nx X (lineF X c q).2.1, (lineF X c q).2.2) else (1, (lineF X c q).2.1, (lineF X c q).2.2)) := if_pos s0
              rw [es]
              split
              · exact (show (0 : Nat) ≤ 5 by decide)
              · exact (show (1 : Nat) ≤ 5 by decide)
            · have es : semF X (lineF X c q) = lineF X c q := if_neg s0
              rw [es]; exact l5
          refine x_X11_catalogue_76 (d := d + 7) B1.1.1 (b_bad B1 (by omega) ⟨rfl, rfl, false, rfl, fun _ => b_bad B1 (by omega) ⟨rfl, rfl, false, rfl, (fun y => by cases y), fun _ M2 e2 => ?_⟩, fun y => by cases y⟩)
          have e16 : mx_I M2 58 16 = w r.1 := by rw [e2, I_ne (by omega)]; exact B1.2.2.1
          rw [e16]
          exact hq2 h0 h5 M1 B1 M2 e2
/-- the reference's tape -/
def tpM (M : mx_M) (TL : Nat) (by_ : Nat → Nat) : Prop := mx_I M 58 15 = w TL ∧ TL ≤ 700 ∧ ∀ i, i < TL → mx_I M 70 i = w (by_ i) ∧ by_ i < 256
/-- what a catalogue of the reference writes -/
abbrev mWf : Nat → Nat → Prop := fun k j => mB k j ∨ (k = 58 ∧ (j = 0 ∨ j = 15 ∨ j = 19)) ∨ (k = 71 ∧ j = 0)
abbrev mWs : Nat → Nat → Prop := fun k j => mB k j ∨ (k = 58 ∧ (j = 0 ∨ j = 15 ∨ j = 19)) ∨ (k = 58 ∧ (j = 1 ∨ j = 2)) ∨ (59 ≤ k ∧ k ≤ 69) ∨ mKy k j ∨ (k = 90 ∧ j = 0) ∨ (k = 58 ∧ (j = 53 ∨ j = 56 ∨ j = 60))
def nwM (M M1 : mx_M) (X : TX) (c : CD) : Prop := mx_Tp M1 ∧ lip mWs M M1 ∧ CDM M1 X c ∧ kyM M1 (dN c) (dK c) (klX X c) (ksX X c) ∧ (mx_I M1 58 0 = 0 ∧ mx_I M1 58 15 = 0 ∧ mx_I M1 58 17 = -1) ∧ mx_I M1 90 0 = 0 ∧ mx_I M1 58 53 = 0 ∧ mx_I M1 58 56 = -1 ∧ mx_I M1 58 60 = 0
theorem q_catalogue {d TL : Nat} {by_ : Nat → Nat} {v : Int32} {M : mx_M} {Q : QQ} (T : mx_Tp M) (A : tpM M TL by_)
    (h1 : ∀ l, l ≤ TL → v = w l → (prX (by_, l)).1 = 0 → gdC (by_, l) (prX (by_, l)).2.2 → ∀ M1, nwM M M1 (by_, l) (prX (by_, l)).2.2 → Q (.inl (some (.int 0))) M1)
    (h2 : ∀ l, l ≤ TL → v = w l → ¬ (prX (by_, l)).1 = 0 → (prX (by_, l)).1 ≤ 5 → ∀ M1, lip mWf M M1 → mx_I M1 58 0 = 0 → mx_I M1 58 15 = 0 → mx_I M1 58 17 = w (prX (by_, l)).2.1 → mx_I M1 71 0 = mx_I M 71 0 + 1 → Q (.inl (some (.int (w (prX (by_, l)).1)))) M1)
    (h3 : ¬ isIn v (TL + 1) → Q (.inl (some (.int 0))) (mx_setI (mx_setI M 58 0 0) 58 0 1)) : mx_W m_X11_catalogue (d + 8) 0 [.ref 58, .int v, .retAddr 0] [] M Q := by
  have h7 := A.2.1
  refine x_X11_catalogue_0 (d := d + 7) T _ (fun M1 f1 => ?_)
  have L1 : lip (fun k j => k = 58 ∧ j = 0) M M1 := by rw [f1]; exact lip_setI ⟨rfl, rfl⟩
  have T1 := lip_T L1 T
  have e0 : mx_I M1 58 0 = 0 := by rw [f1]; exact I_eq
  have e15 : mx_I M1 58 15 = w TL := by rw [f1, I_ne (by omega)]; exact A.1
  rw [e15]
  refine ⟨fun z => p_rightF T1 e0 (by decide) ⟨rfl, rfl, false, rfl, (fun y => by cases y), fun _ => ?_⟩, fun z => ⟨fun y => p_rightF T1 e0 (by decide) ⟨rfl, rfl, false, rfl, (fun y => by cases y), fun _ => ?_⟩, fun y => p_rightT T1 e0 ⟨rfl, rfl, true, rfl, fun _ => ?_, fun y => by cases y⟩⟩⟩
  · rw [f1]; exact h3 (isIn_neg (by omega) z)
  · rw [f1]
    refine h3 (fun x => ?_)
    obtain ⟨l, hl, ev⟩ := x
    rw [ev, w_lt (by omega) (by omega)] at y
    omega
  · obtain ⟨l, hl, ev⟩ := isIn_of (n := TL + 1) (by omega) z (by
      rw [Int32.lt_iff_toInt_lt, w_int (by omega)]
      rw [Int32.lt_iff_toInt_lt, w_int (by omega)] at y
      omega)
    rw [ev]
    intro N1 k1 N2 k2 N3 k3 N4 k4 N5 k5 N6 k6 N7 k7 N8 k8
    have P1 : lip (fun k j => k = 58 ∧ (j = 15 ∨ j = 17 ∨ j = 16 ∨ j = 19 ∨ j = 20 ∨ j = 27 ∨ j = 28 ∨ j = 29)) M1 N1 := by rw [k1]; exact lip_setI (by omega)
    have P2 : lip (fun k j => k = 58 ∧ (j = 15 ∨ j = 17 ∨ j = 16 ∨ j = 19 ∨ j = 20 ∨ j = 27 ∨ j = 28 ∨ j = 29)) N1 N2 := by rw [k2]; exact lip_setI (by omega)
    have P3 : lip (fun k j => k = 58 ∧ (j = 15 ∨ j = 17 ∨ j = 16 ∨ j = 19 ∨ j = 20 ∨ j = 27 ∨ j = 28 ∨ j = 29)) N2 N3 := by rw [k3]; exact lip_setI (by omega)
    have P4 : lip (fun k j => k = 58 ∧ (j = 15 ∨ j = 17 ∨ j = 16 ∨ j = 19 ∨ j = 20 ∨ j = 27 ∨ j = 28 ∨ j = 29)) N3 N4 := by rw [k4]; exact lip_setI (by omega)
    have P5 : lip (fun k j => k = 58 ∧ (j = 15 ∨ j = 17 ∨ j = 16 ∨ j = 19 ∨ j = 20 ∨ j = 27 ∨ j = 28 ∨ j = 29)) N4 N5 := by rw [k5]; exact lip_setI (by omega)
    have P6 : lip (fun k j => k = 58 ∧ (j = 15 ∨ j = 17 ∨ j = 16 ∨ j = 19 ∨ j = 20 ∨ j = 27 ∨ j = 28 ∨ j = 29)) N5 N6 := by rw [k6]; exact lip_setI (by omega)
    have P7 : lip (fun k j => k = 58 ∧ (j = 15 ∨ j = 17 ∨ j = 16 ∨ j = 19 ∨ j = 20 ∨ j = 27 ∨ j = 28 ∨ j = 29)) N6 N7 := by rw [k7]; exact lip_setI (by omega)
    have P8 : lip (fun k j => k = 58 ∧ (j = 15 ∨ j = 17 ∨ j = 16 ∨ j = 19 ∨ j = 20 ∨ j = 27 ∨ j = 28 ∨ j = 29)) N7 N8 := by rw [k8]; exact lip_setI (by omega)
    have P := lip_trans (lip_trans (lip_trans P1 P2) (lip_trans P3 P4)) (lip_trans (lip_trans P5 P6) (lip_trans P7 P8))
    have PP : lip (fun k j => mB k j ∨ (k = 58 ∧ (j = 0 ∨ j = 15 ∨ j = 19))) M N8 := lip_trans (lip_mono L1 (fun k j z => Or.inr ⟨z.1, Or.inl z.2⟩)) (lip_mono P (fun k j z => by
      rcases z with ⟨z1, z | z | z | z | z | z | z | z⟩
      · exact Or.inr ⟨z1, Or.inr (Or.inl z)⟩
      · exact Or.inl (Or.inl ⟨z1, by omega⟩)
      · exact Or.inl (Or.inl ⟨z1, by omega⟩)
      · exact Or.inr ⟨z1, Or.inr (Or.inr z)⟩
      · exact Or.inl (Or.inl ⟨z1, by omega⟩)
      · exact Or.inl (Or.inl ⟨z1, by omega⟩)
      · exact Or.inl (Or.inl ⟨z1, by omega⟩)
      · exact Or.inl (Or.inl ⟨z1, by omega⟩)))
    have T8 := lip_T P T1
    have z0 : mx_I N8 58 0 = 0 := by rw [(P.2 58 0 (by omega)).1]; exact e0
    have i15 : mx_I N8 58 15 = 0 := by rw [k8, I_ne (by omega), k7, I_ne (by omega), k6, I_ne (by omega), k5, I_ne (by omega), k4, I_ne (by omega), k3, I_ne (by omega), k2, I_ne (by omega), k1]; exact I_eq
    have i17 : mx_I N8 58 17 = -1 := by rw [k8, I_ne (by omega), k7, I_ne (by omega), k6, I_ne (by omega), k5, I_ne (by omega), k4, I_ne (by omega), k3, I_ne (by omega), k2]; exact I_eq
    have i16 : mx_I N8 58 16 = 0 := by rw [k8, I_ne (by omega), k7, I_ne (by omega), k6, I_ne (by omega), k5, I_ne (by omega), k4, I_ne (by omega), k3]; exact I_eq
    have i19 : mx_I N8 58 19 = w l := by rw [k8, I_ne (by omega), k7, I_ne (by omega), k6, I_ne (by omega), k5, I_ne (by omega), k4]; exact I_eq
    have i20 : mx_I N8 58 20 = 0 := by rw [k8, I_ne (by omega), k7, I_ne (by omega), k6, I_ne (by omega), k5]; exact I_eq
    have i27 : mx_I N8 58 27 = w 0 := by rw [k8, I_ne (by omega), k7, I_ne (by omega), k6]; exact I_eq
    have i28 : mx_I N8 58 28 = w 0 := by rw [k8, I_ne (by omega), k7]; exact I_eq
    have i29 : mx_I N8 58 29 = w 0 := by rw [k8]; exact I_eq
    have tap : tapM N8 (by_, l) := ⟨i19, by show l ≤ 700; omega, fun i hi => by
      have hi : i < l := hi
      rw [(P.2 70 i (by omega)).1, (L1.2 70 i (by omega)).1]; exact A.2.2 i (by omega)⟩
    refine q_goes0 (d := d + 6) T8 tap i20 (fun M2 L2 K2 => ⟨L2.1.1, L2.1.2.1, rfl, ?_⟩)
    have T2 := lip_T L2 T8
    have PM : lip (fun k j => mB k j ∨ (k = 58 ∧ (j = 0 ∨ j = 15 ∨ j = 19))) M M2 := lip_trans PP (lip_mono (mX_B L2) (fun k j z => Or.inl z))
    have W2 : WM M2 M2 (by_, l) cd0 (skp (by_, l) 0) 0 := ⟨⟨⟨T2, lip_refl _ _⟩, K2, ⟨by rw [(L2.2 58 16 (by omega)).1]; exact i16, by rw [(L2.2 58 17 (by omega)).1]; exact i17⟩⟩, ⟨by rw [(L2.2 58 29 (by omega)).1]; exact i29, Nat.zero_le _⟩, ⟨by rw [(L2.2 58 27 (by omega)).1]; exact i27, fun x hx => absurd hx (Nat.not_lt_zero _)⟩, ⟨by rw [(L2.2 58 28 (by omega)).1]; exact i28, fun o ho => absurd ho (Nat.not_lt_zero _)⟩⟩
    have y0 : mx_I M2 58 0 = 0 := by rw [(L2.2 58 0 (by omega)).1]; exact z0
    have y15 : mx_I M2 58 15 = 0 := by rw [(L2.2 58 15 (by omega)).1]; exact i15
    have n0 : ¬ mB 58 0 := by decide
    have n15 : ¬ mB 58 15 := by decide
    have n71 : ¬ mB 71 0 := by decide
    refine q_cat_l (d := d) (X := (by_, l)) (M0 := M2) (prX (by_, l)) (fun h0 M3 tp W3 G3 M4 M5 e4 e5 => ?_) (fun h0 h5 M3 B3 M4 e4 => ?_) 700 (skp (by_, l) 0) 0 cd0 M2 (by omega) rfl (gdC_0 _) W2
    · have L4 : lip (fun k j => k = 58 ∧ (j = 1 ∨ j = 2)) M3 M4 := by rw [e4]; exact lip_setI ⟨rfl, Or.inl rfl⟩
      have L5 : lip (fun k j => k = 58 ∧ (j = 1 ∨ j = 2)) M4 M5 := by rw [e5]; exact lip_setI ⟨rfl, Or.inr rfl⟩
      have L45 := lip_trans L4 L5
      have T5 := lip_T L45 W3.1.1.1
      refine q_cpA T5 (fun M6 C6 => ?_)
      have T6 := lik_T C6.1 T5
      have D6 := cdm_wm G3 W3 L45 (by rw [e5, I_ne (by omega), e4]; exact I_eq) (by rw [e5]; exact I_eq) C6
      refine q_cat_k (d := d + 4) (X := (by_, l)) (c := (prX (by_, l)).2.2) G3 (fun M7 T7 L7 D7 Y7 M8 ⟨E1, E2, E3, g1, g2, g3, g4⟩ => ?_) (dK (prX (by_, l)).2.2) 0 M6 (by omega) T6 (lip_refl _ _) D6 (fun o' x h1 => absurd h1 (Nat.not_lt_zero _))
      have R1 : lip (fun k j => (k = 90 ∧ j = 0) ∨ (k = 58 ∧ (j = 53 ∨ j = 56 ∨ j = 60))) M7 E1 := by rw [g1]; exact lip_setI (by omega)
      have R2 : lip (fun k j => (k = 90 ∧ j = 0) ∨ (k = 58 ∧ (j = 53 ∨ j = 56 ∨ j = 60))) E1 E2 := by rw [g2]; exact lip_setI (by omega)
      have R3 : lip (fun k j => (k = 90 ∧ j = 0) ∨ (k = 58 ∧ (j = 53 ∨ j = 56 ∨ j = 60))) E2 E3 := by rw [g3]; exact lip_setI (by omega)
      have R4 : lip (fun k j => (k = 90 ∧ j = 0) ∨ (k = 58 ∧ (j = 53 ∨ j = 56 ∨ j = 60))) E3 M8 := by rw [g4]; exact lip_setI (by omega)
      have R := lip_trans (lip_trans R1 R2) (lip_trans R3 R4)
      have F : ∀ j, ¬ (j = 1 ∨ j = 2) → mx_I M7 58 j = mx_I M3 58 j := fun j hj => by
        rw [(L7.2 58 j (by omega)).1, (C6.1.2 58 (by omega)).1, (L45.2 58 j (by omega)).1]
      have F2 : ∀ j, (j = 0 ∨ j = 15) → mx_I M8 58 j = mx_I M2 58 j := fun j hj => by
        rw [(R.2 58 j (by omega)).1, F j (by omega), (W3.1.1.2.2 58 j (fun z => by rcases z with z | z <;> omega)).1]
      refine h1 l (by omega) ev h0 G3 M8 ⟨lip_T R T7, ?_, CDM_lip R (fun k j z => by omega) D7, fun o x ho hx => slM_of R (fun a j z => by omega) (Y7 o x ho hx), ⟨by rw [F2 0 (Or.inl rfl)]; exact y0, by rw [F2 15 (Or.inr rfl)]; exact y15, by rw [(R.2 58 17 (by omega)).1, F 17 (by omega)]; exact W3.1.2.2.2⟩, ?_, ?_, ?_, ?_⟩
      · refine lip_trans (lip_mono PM (fun k j z => ?_)) (lip_trans (lip_mono W3.1.1.2 (fun k j z => Or.inl z)) (lip_trans (lip_mono L45 (fun k j z => Or.inr (Or.inr (Or.inl z)))) (lip_trans (lip_of C6.1 (fun k j z => Or.inr (Or.inr (Or.inr (Or.inl z))))) (lip_trans (lip_mono L7 (fun k j z => Or.inr (Or.inr (Or.inr (Or.inr (Or.inl z)))))) (lip_mono R (fun k j z => Or.inr (Or.inr (Or.inr (Or.inr (Or.inr z))))))))))
        rcases z with z | z
        · exact Or.inl z
        · exact Or.inr (Or.inl z)
      · rw [g4, I_ne (by omega), g3, I_ne (by omega), g2, I_ne (by omega), g1]; exact I_eq
      · rw [g4, I_ne (by omega), g3, I_ne (by omega), g2]; exact I_eq
      · rw [g4, I_ne (by omega), g3]; exact I_eq
      · rw [g4]; exact I_eq
    · have L4 : lip (fun k j => k = 71 ∧ j = 0) M3 M4 := by rw [e4]; exact lip_setI ⟨rfl, rfl⟩
      have e71 : mx_I M3 71 0 = mx_I M 71 0 := by rw [(B3.1.2.2 71 0 n71).1, (PM.2 71 0 (fun z => by rcases z with z | z; exact n71 z; omega)).1]
      rw [e71] at e4
      refine h2 l (by omega) ev h0 h5 M4 ?_ ?_ ?_ ?_ ?_
      · refine lip_trans (lip_mono PM (fun k j z => ?_)) (lip_trans (lip_mono B3.1.2 (fun k j z => Or.inl z)) (lip_mono L4 (fun k j z => Or.inr (Or.inr z))))
        rcases z with z | z
        · exact Or.inl z
        · exact Or.inr (Or.inl z)
      · rw [(L4.2 58 0 (by omega)).1, (B3.1.2.2 58 0 n0).1]; exact y0
      · rw [(L4.2 58 15 (by omega)).1, (B3.1.2.2 58 15 n15).1]; exact y15
      · rw [(L4.2 58 17 (by omega)).1]; exact B3.2.2.2
      · rw [e4]; exact I_eq
