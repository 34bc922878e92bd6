/-! the class takes a catalogue -/
/-- alike but for some cells, and for references -/
def lis (P : Nat → Nat → Prop) (M M1 : mx_M) : Prop := (mx_sh M1 = mx_sh M ∧ mx_rm M1 = mx_rm M ∧ mx_scr M1 = mx_scr M) ∧ ∀ k j, ¬ P k j → mx_I M1 k j = mx_I M k j ∧ mx_J M1 k j = mx_J M k j
theorem lis_of {P : Nat → Nat → Prop} {M M1 : mx_M} (L : lip P M M1) : lis P M M1 := ⟨⟨L.1.1, L.1.2.2.1, L.1.2.2.2⟩, L.2⟩
theorem lis_trans {P : Nat → Nat → Prop} {M M1 M2 : mx_M} (h : lis P M M1) (g : lis P M1 M2) : lis P M M2 := ⟨⟨g.1.1.trans h.1.1, g.1.2.1.trans h.1.2.1, g.1.2.2.trans h.1.2.2⟩, fun k j hk => ⟨(g.2 k j hk).1.trans (h.2 k j hk).1, (g.2 k j hk).2.trans (h.2 k j hk).2⟩⟩
theorem lis_mono {P P' : Nat → Nat → Prop} {M M1 : mx_M} (h : lis P M M1) (hp : ∀ k j, P k j → P' k j) : lis P' M M1 := ⟨h.1, fun k j hk => h.2 k j (fun z => hk (hp k j z))⟩
theorem lis_setR {P : Nat → Nat → Prop} {M : mx_M} {k j v : Nat} : lis P M (mx_setR M k j v) := ⟨⟨rfl, rfl, rfl⟩, fun _ _ _ => ⟨rfl, rfl⟩⟩
theorem cdc_wc {M00 M1 M2 : mx_M} {X : TX} {u q s : Nat} {c : CD} (hu : mx_Cat u) (W : WC M00 M1 X u c q s) (L : lip (cF u) M1 M2) (D : dnT M2 X u c (dK c) 0) : CDC M2 u X c := by
  have c11 := cat_no hu
  have f : ∀ k j, u ≤ k → k ≤ u + 11 → mx_I M2 k j = mx_I M1 k j ∧ mx_J M2 k j = mx_J M1 k j := fun k j a b => L.2 k j (by omega)
  obtain ⟨_, _, _, ⟨h1, h3⟩, ⟨h2, h4, h5, _⟩⟩ := W
  refine ⟨⟨?_, ?_⟩, fun x hx => ?_, fun o ho => ?_, fun o ho => ?_, fun o x ho hx hi => D o x ho hx hi (Or.inl ho)⟩
  · rw [(f u 12 (by omega) (by omega)).1]; exact h1
  · rw [(f u 13 (by omega) (by omega)).1]; exact h2
  · obtain ⟨r1, r2, r3, r4, r5⟩ := h3 x hx
    refine ⟨?_, ?_, ?_, r4, fun k hk => ⟨?_, (r5 k hk).2⟩⟩
    · rw [(f (u + 1) x (by omega) (by omega)).1]; exact r1
    · rw [(f (u + 2) x (by omega) (by omega)).1]; exact r2
    · rw [(f (u + 3) x (by omega) (by omega)).1]; exact r3
    · rw [(f (u + 4) _ (by omega) (by omega)).2]; exact (r5 k hk).1
  · obtain ⟨r1, r2, r3⟩ := h4 o ho
    refine ⟨r1, ?_, fun i hi => ⟨?_, ?_, fun y => ?_⟩⟩
    · rw [(f (u + 5) o (by omega) (by omega)).1]; exact r2
    · rw [(f (u + 6) _ (by omega) (by omega)).1]; exact (r3 i hi).1
    · rw [(f (u + 7) _ (by omega) (by omega)).2]; exact (r3 i hi).2.1
    · rw [(f (u + 8) _ (by omega) (by omega)).2]; exact (r3 i hi).2.2 y
  · rw [(f (u + 5) o (by omega) (by omega)).1, (f (u + 9) o (by omega) (by omega)).1, (f (u + 10) o (by omega) (by omega)).1, (f (u + 11) o (by omega) (by omega)).1]; exact h5 o ho
/-- the tape -/
def tpC (M : mx_M) (TL : Nat) (by_ : Nat → Nat) : Prop := mx_I M 4 1 = w TL ∧ TL ≤ 700 ∧ ∀ i, i < TL → mx_I M 5 i &&& 255 = w (by_ i) ∧ by_ i < 256
def prX (X : TX) : LR := prsF X 700 cd0 (skp X 0)
/-- what a catalogue of the class writes -/
abbrev cW2 : Nat → Nat → Prop := fun k j => (k = 24 ∧ 6 ≤ j ∧ j ≤ 9) ∨ (25 ≤ k ∧ k ≤ 30) ∨ (k = 39 ∧ j = 4) ∨ (k = 31 ∧ j = 1) ∨ (k = 35 ∧ j = 1) ∨ (k = 1 ∧ (j = 11 ∨ j = 12))
abbrev cWs (u : Nat) : Nat → Nat → Prop := fun k j => cBP u k j ∨ ((k = 4 ∧ j = 1) ∨ (k = 1 ∧ j = 14)) ∨ cW2 k j
abbrev cWf (u : Nat) : Nat → Nat → Prop := fun k j => cBP u k j ∨ ((k = 4 ∧ j = 1) ∨ (k = 1 ∧ j = 14)) ∨ (k = 1 ∧ j = 15)
def nwC (M M1 : mx_M) (t u : Nat) (X : TX) (c : CD) : Prop := (mx_Tp M1 ∧ mx_R M1 1 10 = u ∧ mx_R M1 2 2 = t) ∧ lis (cWs u) M M1 ∧ CDC M1 u X c ∧ (∀ o, o < dK c → otC M1 o (dN c) (klX X c o) (ksX X c o) (bsX X c o)) ∧ (mx_I M1 4 1 = 0 ∧ mx_I M1 1 14 = -1 ∧ mx_I M1 1 11 = 0 ∧ mx_I M1 1 12 = 0) ∧ mx_I M1 39 4 = 0 ∧ mx_I M1 31 1 = 0 ∧ mx_I M1 35 1 = 0
theorem p_catalogue {d t u TL : Nat} {by_ : Nat → Nat} {v : Int32} {M : mx_M} {Q : QQ} (T : mx_Tp M) (ht : mx_Cat t) (ht0 : mx_R M 1 10 = t) (hu : mx_Cat u) (hu0 : mx_R M 2 2 = u) (hr : rmE M) (A : tpC M TL by_)
    (h1 : ∀ l, l ≤ TL → v = w l → (prX (by_, l)).1 = 0 → gdC (by_, l) (prX (by_, l)).2.2 → ∀ M1, nwC M M1 t u (by_, l) (prX (by_, l)).2.2 → Q (.inl (some (.int 0))) M1)
    (h2 : ∀ l, l ≤ TL → v = w l → ¬ (prX (by_, l)).1 = 0 → (prX (by_, l)).1 ≤ 5 → ∀ M1, lip (cWf u) M M1 → mx_I M1 4 1 = 0 → mx_I M1 1 14 = w (prX (by_, l)).2.1 → mx_I M1 1 15 = mx_I M 1 15 + 1 → Q (.inl (some (.int (w (prX (by_, l)).1)))) M1)
    (h3 : ¬ isIn v (TL + 1) → Q (.inr IAE) (mx_thM M)) : mx_W m_X10_catalogue (d + 52) 0 [.ref 1, .int v, .retAddr 0] [] M Q := by
  have c11 := cat_no hu
  have hc : u = 11 ∨ u = 45 := hu
  refine x_X10_catalogue_0 (d := d + 51) T t ht ht0 u hu hu0 _ ?_
  rw [A.1]
  have h7 := A.2.1
  refine ⟨fun z => ⟨hr.1, hr.2, h3 (isIn_neg (by omega) z)⟩, fun z => ⟨fun y => ?_, fun y => ⟨hr.1, hr.2, h3 (fun x => ?_)⟩⟩⟩
  · obtain ⟨l, hl, ev⟩ := isIn_of (n := TL + 1) (by omega) z (by
      rw [Int32.lt_iff_toInt_lt, w_int (by omega)]
      rw [Int32.le_iff_toInt_le, w_int (by omega)] at y
      omega)
    have tap : tapC M (by_, l) := ⟨TL, A.1, by show l ≤ TL; omega, h7, fun i hi => A.2.2 i (by have hi : i < l := hi; omega)⟩
    rw [ev]
    refine p_parse (X := (by_, l)) (d := d) hu T hu0 tap (fun h0 M0 M1 s1 W1 G1 M2 L2 LB D2 => ⟨LB.1.1, LB.1.2.1, 0, rfl, fun M3 f3 M4 f4 => ⟨fun x => absurd rfl x, fun _ => ?_⟩⟩) (fun h0 h5 M1 LB e24 => ⟨LB.1.1, LB.1.2.1, _, rfl, fun M3 f3 M4 f4 => ⟨fun _ M5 f5 => ?_, fun x => ?_⟩⟩)
    · have C2 := cdc_wc hu W1 L2 D2
      have e24 : mx_I M3 2 4 = -1 := by rw [f3, I_ne (by omega), (L2.2 2 4 (by omega)).1]; exact W1.2.2.1.2.2.2
      rw [e24] at f4
      have L3 : lip (fun k j => (k = 4 ∧ j = 1) ∨ (k = 1 ∧ j = 14)) M2 M3 := by rw [f3]; exact lip_setI (Or.inl ⟨rfl, rfl⟩)
      have L4 : lip (fun k j => (k = 4 ∧ j = 1) ∨ (k = 1 ∧ j = 14)) M3 M4 := by rw [f4]; exact lip_setI (Or.inr ⟨rfl, rfl⟩)
      have L34 := lip_trans L3 L4
      have T4 := lip_T L34 (lip_T LB T)
      have r4 : mx_R M4 = mx_R M := L34.1.2.1.trans LB.1.2.1
      refine x_X4_handOver_0 T4 u hu (by rw [r4]; exact hu0) t ht (fun M6 f6 => ⟨by rw [f6], by rw [f6], rfl, fun M7 f7 => ?_⟩)
      have T6 : mx_Tp M6 := by rw [f6]; exact tp_setR T4 (by decide)
      have T7 : mx_Tp M7 := by rw [f7]; exact tp_setR T6 (by decide)
      have u7 : mx_R M7 1 10 = u := by rw [f7]; show mx_up (mx_R M6) 1 10 u 1 10 = u; exact if_pos ⟨rfl, rfl⟩
      have t7 : mx_R M7 2 2 = t := by rw [f7]; show mx_up (mx_R M6) 1 10 u 2 2 = t; rw [show mx_up (mx_R M6) 1 10 u 2 2 = mx_R M6 2 2 from if_neg (by omega), f6]; show mx_up (mx_R M4) 2 2 t 2 2 = t; exact if_pos ⟨rfl, rfl⟩
      have i7 : ∀ k j, mx_I M7 k j = mx_I M4 k j ∧ mx_J M7 k j = mx_J M4 k j := fun k j => by rw [f7, f6]; exact ⟨rfl, rfl⟩
      have C4 : CDC M4 u (by_, l) (prX (by_, l)).2.2 := CDC_lip L34 (fun k j z => by omega) C2
      have C7 : CDC M7 u (by_, l) (prX (by_, l)).2.2 := by rw [f7, f6]; exact C4
      have S7 : lis (cWs u) M M7 := lis_trans (lis_mono (lis_of LB) (fun k j z => Or.inl z)) (lis_trans (lis_mono (lis_of L34) (fun k j z => Or.inr (Or.inl z))) (by rw [f7, f6]; exact lis_trans lis_setR lis_setR))
      refine x_X10_beginAnew_0 (d := d + 50) T7 u hu u7 (p_begin_l (d := d + 45) (X := (by_, l)) (c := (prX (by_, l)).2.2) hu G1 u7 (fun M8 T8 L8 C8 O8 M9 ⟨N1, N2, N3, N4, e1, e2, e3, e4, e5⟩ => ?_) (dK (prX (by_, l)).2.2) 0 M7 (by omega) T7 (lip_refl _ _) C7 (fun o ho => absurd ho (Nat.not_lt_zero _)))
      have P1 : lip (fun k j => (k = 39 ∧ j = 4) ∨ (k = 31 ∧ j = 1) ∨ (k = 35 ∧ j = 1) ∨ (k = 1 ∧ (j = 11 ∨ j = 12))) M8 N1 := by rw [e1]; exact lip_setI (by omega)
      have P2 : lip (fun k j => (k = 39 ∧ j = 4) ∨ (k = 31 ∧ j = 1) ∨ (k = 35 ∧ j = 1) ∨ (k = 1 ∧ (j = 11 ∨ j = 12))) N1 N2 := by rw [e2]; exact lip_setI (by omega)
      have P3 : lip (fun k j => (k = 39 ∧ j = 4) ∨ (k = 31 ∧ j = 1) ∨ (k = 35 ∧ j = 1) ∨ (k = 1 ∧ (j = 11 ∨ j = 12))) N2 N3 := by rw [e3]; exact lip_setI (by omega)
      have P4 : lip (fun k j => (k = 39 ∧ j = 4) ∨ (k = 31 ∧ j = 1) ∨ (k = 35 ∧ j = 1) ∨ (k = 1 ∧ (j = 11 ∨ j = 12))) N3 N4 := by rw [e4]; exact lip_setI (by omega)
      have P5 : lip (fun k j => (k = 39 ∧ j = 4) ∨ (k = 31 ∧ j = 1) ∨ (k = 35 ∧ j = 1) ∨ (k = 1 ∧ (j = 11 ∨ j = 12))) N4 M9 := by rw [e5]; exact lip_setI (by omega)
      have L9 := lip_trans (lip_trans P1 P2) (lip_trans P3 (lip_trans P4 P5))
      have LL : lip cW2 M7 M9 := lip_trans (lip_mono L8 (fun k j z => Or.elim z Or.inl (fun y => Or.inr (Or.inl y)))) (lip_mono L9 (fun k j z => Or.inr (Or.inr z)))
      have T9 := lip_T L9 T8
      refine ⟨LL.1.1, LL.1.2.1, rfl, h1 l (by omega) ev h0 G1 M9 ⟨⟨T9, by rw [LL.1.2.1]; exact u7, by rw [LL.1.2.1]; exact t7⟩, lis_trans S7 (lis_mono (lis_of LL) (fun k j z => Or.inr (Or.inr z))), CDC_lip L9 (fun k j z => by omega) C8, fun o ho => otC_lip L9 G1.1.1 (fun k j z => ⟨fun y => by omega, fun y => by omega⟩) (O8 o ho), ⟨?_, ?_, ?_, ?_⟩, ?_, ?_, ?_⟩⟩
      · rw [(LL.2 4 1 (by omega)).1, (i7 4 1).1, f4, I_ne (by omega), f3]; exact I_eq
      · rw [(LL.2 1 14 (by omega)).1, (i7 1 14).1, f4]; exact I_eq
      · rw [e5, I_ne (by omega), e4]; exact I_eq
      · rw [e5]; exact I_eq
      · rw [e5, I_ne (by omega), e4, I_ne (by omega), e3, I_ne (by omega), e2, I_ne (by omega), e1]; exact I_eq
      · rw [e5, I_ne (by omega), e4, I_ne (by omega), e3, I_ne (by omega), e2]; exact I_eq
      · rw [e5, I_ne (by omega), e4, I_ne (by omega), e3]; exact I_eq
    · have e3 : mx_I M3 2 4 = w (prX (by_, l)).2.1 := by rw [f3, I_ne (by omega)]; exact e24
      rw [e3] at f4
      have e15 : mx_I M4 1 15 = mx_I M 1 15 := by rw [f4, I_ne (by omega), f3, I_ne (by omega), (LB.2 1 15 (by omega)).1]
      rw [e15] at f5
      have P3 : lip (cWf u) M1 M3 := by rw [f3]; exact lip_setI (Or.inr (Or.inl (Or.inl ⟨rfl, rfl⟩)))
      have P4 : lip (cWf u) M3 M4 := by rw [f4]; exact lip_setI (Or.inr (Or.inl (Or.inr ⟨rfl, rfl⟩)))
      have P5 : lip (cWf u) M4 M5 := by rw [f5]; exact lip_setI (Or.inr (Or.inr ⟨rfl, rfl⟩))
      refine h2 l (by omega) ev h0 h5 M5 (lip_trans (lip_mono LB (fun k j z => Or.inl z)) (lip_trans P3 (lip_trans P4 P5))) ?_ ?_ ?_
      · rw [f5, I_ne (by omega), f4, I_ne (by omega), f3]; exact I_eq
      · rw [f5, I_ne (by omega), f4]; exact I_eq
      · rw [f5]; exact I_eq
    · exact absurd ((w_eq0 (Nat.lt_of_le_of_lt h5 (by decide))).mp x) h0
  · obtain ⟨l, hl, ev⟩ := x
    rw [ev, w_le (by omega) (by omega)] at y
    omega
