/-! the class reads a line -/
def tieC (M : mx_M) (c : CD) (s : Nat) : Prop := ∀ o, o < dK c → dI c o = true → ∃ a, mx_I M 8 o = w a ∧ mx_I M 9 o = w (a + (dL c o).length) ∧ a + (dL c o).length ≤ s ∧ stL M (dL c o) a
/-- the clerks so far -/
def ksC (M : mx_M) (X : TX) (u : Nat) (c : CD) (s : Nat) : Prop := mx_I M u 13 = w (dK c) ∧ (∀ o, o < dK c → rlC M u o (dR c o) (dRk c o) (fgX X c o) (tgX X c o)) ∧ clC M u (dK c) (dR c) (dT c) (dJ c) (dI c) ∧ tieC M c s
/-- the cards so far -/
def csC (M : mx_M) (X : TX) (u : Nat) (c : CD) : Prop := mx_I M u 12 = w (dN c) ∧ cdC M u (dN c) (dY c) (dW c) (hlX X c) (hgX X c)
abbrev cB (u : Nat) : Nat → Nat → Prop := fun k j => (k = 3 ∧ 2 ≤ j ∧ j ≤ 6) ∨ (k = 6 ∧ j = 4) ∨ k = 7 ∨ (k = 2 ∧ (j = 3 ∨ j = 4)) ∨ k = 8 ∨ k = 9 ∨ (u ≤ k ∧ k ≤ u + 12)
theorem cEf_B {u s : Nat} {M M1 : mx_M} (L : lip (cEf s) M M1) : lip (cB u) M M1 := lip_mono L (fun k j h => by
  rcases h with h | h | h | h
  · exact Or.inl h
  · exact Or.inr (Or.inl h)
  · exact Or.inr (Or.inr (Or.inl h.1))
  · exact Or.inr (Or.inr (Or.inr (Or.inl h))))
theorem cE_B {u s : Nat} {M M1 : mx_M} (L : lip (cE s) M M1) : lip (cB u) M M1 := cEf_B (cE_tf (Nat.le_refl _) L (lip_refl _ _))
theorem cX_B {u : Nat} {M M1 : mx_M} (L : lip cX M M1) : lip (cB u) M M1 := cE_B (s := 0) (cX_E L)
theorem tieC_lip {P : Nat → Nat → Prop} {M M1 : mx_M} {c : CD} {s : Nat} (L : lip P M M1) (hP : ∀ k j, P k j → ¬ k = 8 ∧ ¬ k = 9 ∧ (k = 7 → s ≤ j)) (A : tieC M c s) : tieC M1 c s := fun o ho hi => by
  obtain ⟨a, h1, h2, h3, h4⟩ := A o ho hi
  refine ⟨a, ?_, ?_, h3, stL_at _ _ (fun j g1 g2 => (L.2 7 j (fun z => ?_)).1) h4⟩
  · rw [(L.2 8 o (fun z => (hP 8 o z).1 rfl)).1]; exact h1
  · rw [(L.2 9 o (fun z => (hP 9 o z).2.1 rfl)).1]; exact h2
  · have := (hP 7 j z).2.2 rfl; omega
theorem ksC_lip {P : Nat → Nat → Prop} {M M1 : mx_M} {X : TX} {u : Nat} {c : CD} {s : Nat} (L : lip P M M1) (hP : ∀ k j, P k j → ¬ k = 8 ∧ ¬ k = 9 ∧ (k = 7 → s ≤ j) ∧ ¬ (k = u ∧ j = 13) ∧ ¬ (u + 5 ≤ k ∧ k ≤ u + 11)) (A : ksC M X u c s) : ksC M1 X u c s := by
  obtain ⟨h1, h2, h3, h4⟩ := A
  have f : ∀ k j, u + 5 ≤ k → k ≤ u + 11 → mx_I M1 k j = mx_I M k j ∧ mx_J M1 k j = mx_J M k j := fun k j a b => L.2 k j (fun z => (hP k j z).2.2.2.2 ⟨a, b⟩)
  refine ⟨?_, fun o ho => ?_, fun o ho => ?_, tieC_lip L (fun k j z => ⟨(hP k j z).1, (hP k j z).2.1, (hP k j z).2.2.1⟩) h4⟩
  · rw [(L.2 u 13 (fun z => (hP u 13 z).2.2.2.1 ⟨rfl, rfl⟩)).1]; exact h1
  · obtain ⟨r1, r2, r3⟩ := h2 o ho
    refine ⟨r1, ?_, fun i hi => ⟨?_, ?_, fun y => ?_⟩⟩
    · rw [(f (u + 5) o (by omega) (by omega)).1]; exact r2
    · rw [(f (u + 6) _ (by omega) (by omega)).1]; exact (r3 i hi).1
    · rw [(f (u + 7) _ (by omega) (by omega)).2]; exact (r3 i hi).2.1
    · rw [(f (u + 8) _ (by omega) (by omega)).2]; exact (r3 i hi).2.2 y
  · have r := h3 o ho
    rw [(f (u + 5) o (by omega) (by omega)).1, (f (u + 9) o (by omega) (by omega)).1, (f (u + 10) o (by omega) (by omega)).1, (f (u + 11) o (by omega) (by omega)).1]; exact r
theorem csC_lip {P : Nat → Nat → Prop} {M M1 : mx_M} {X : TX} {u : Nat} {c : CD} (L : lip P M M1) (hP : ∀ k j, P k j → ¬ (k = u ∧ j = 12) ∧ ¬ (u + 1 ≤ k ∧ k ≤ u + 4)) (A : csC M X u c) : csC M1 X u c := by
  have f : ∀ k j, u + 1 ≤ k → k ≤ u + 4 → mx_I M1 k j = mx_I M k j ∧ mx_J M1 k j = mx_J M k j := fun k j a b => L.2 k j (fun z => (hP k j z).2 ⟨a, b⟩)
  refine ⟨?_, fun x hx => ?_⟩
  · rw [(L.2 u 12 (fun z => (hP u 12 z).1 ⟨rfl, rfl⟩)).1]; exact A.1
  · obtain ⟨r1, r2, r3, r4, r5⟩ := A.2 x hx
    refine ⟨?_, ?_, ?_, r4, fun k hk => ⟨?_, (r5 k hk).2⟩⟩
    · rw [(f (u + 1) x (by omega) (by omega)).1]; exact r1
    · rw [(f (u + 2) x (by omega) (by omega)).1]; exact r2
    · rw [(f (u + 3) x (by omega) (by omega)).1]; exact r3
    · rw [(f (u + 4) _ (by omega) (by omega)).2]; exact (r5 k hk).1
theorem cat_no {u : Nat} (hu : mx_Cat u) : 11 ≤ u := by rcases hu with h | h <;> omega
/-- no fault so far -/
def z23 (M : mx_M) : Prop := mx_I M 2 3 = 0 ∧ mx_I M 2 4 = -1
theorem z23_lip {P : Nat → Nat → Prop} {M M1 : mx_M} (L : lip P M M1) (h3 : ¬ P 2 3) (h4 : ¬ P 2 4) (A : z23 M) : z23 M1 := ⟨by rw [(L.2 2 3 h3).1]; exact A.1, by rw [(L.2 2 4 h4).1]; exact A.2⟩
/-- the class in a text -/
def WC (M0 M : mx_M) (X : TX) (u : Nat) (c : CD) (q s : Nat) : Prop := (mx_Tp M ∧ mx_R M 2 2 = u ∧ lip (cB u) M0 M) ∧ tkC M X q ∧ (mx_I M 6 4 = w s ∧ s ≤ q ∧ z23 M) ∧ csC M X u c ∧ ksC M X u c s
/-- behind a line -/
def lnC (M0 : mx_M) (X : TX) (u : Nat) (r : LR) (R : Bool → mx_M → Prop) : Prop := (r.1 = 0 → ∀ M1 s1, WC M0 M1 X u r.2.2 r.2.1 s1 → R true M1) ∧ (¬ r.1 = 0 → ∀ M1, mx_Tp M1 → mx_R M1 2 2 = u → lip (cB u) M0 M1 → mx_I M1 2 3 = w r.1 → mx_I M1 2 4 = w r.2.1 → R false M1)
theorem wc_ref {d k : Nat} {M0 M : mx_M} {X : TX} {u q s : Nat} {c : CD} {Q : QQ} (hu : mx_Cat u) (W : WC M0 M X u c q s) (hq : ∀ M1, mx_Tp M1 → mx_R M1 2 2 = u → lip (cB u) M0 M1 → mx_I M1 2 3 = w k → mx_I M1 2 4 = w q → mx_sh M1 = mx_sh M → mx_R M1 = mx_R M → Q (.inl (some (.int (mx_b false)))) M1) : mx_W m_X4_refuse d 0 [.ref 2, .int (w k)] [] M Q :=
  p_refuseP (s := 0) W.1.1 hu W.1.2.1 W.2.1 (fun M1 L1 k3 k4 => hq M1 (lip_T L1 W.1.1) (by rw [L1.1.2.1]; exact W.1.2.1) (lip_trans W.1.2.2 (cEf_B L1)) k3 k4 L1.1.1 L1.1.2.1)
theorem wc_step {d : Nat} {M0 M : mx_M} {X : TX} {u q s : Nat} {c : CD} {Q : QQ} (hu : mx_Cat u) (W : WC M0 M X u c q s) (hq : ∀ M1, WC M0 M1 X u c (nx X q) s → lip cX M M1 → Q (.inl none) M1) : mx_W m_X8_step (d + 2) 0 [.ref 3, .retAddr 0] [] M Q := by
  have c11 := cat_no hu
  have b7 := tkC_700 W.2.1
  refine p_step W.1.1 W.2.1 (fun M1 L1 A1 => hq M1 ⟨⟨lip_T L1 W.1.1, by rw [L1.1.2.1]; exact W.1.2.1, lip_trans W.1.2.2 (cX_B L1)⟩, A1, ⟨by rw [(L1.2 6 4 (by decide)).1]; exact W.2.2.1.1, ?_, z23_lip L1 (by omega) (by omega) W.2.2.1.2.2⟩, csC_lip L1 (fun k j h => by omega) W.2.2.2.1, ksC_lip L1 (fun k j h => by omega) W.2.2.2.2⟩ L1)
  have := nx_le X b7.1
  have := W.2.2.1.2.1
  omega
theorem b_ref {d k : Nat} {M0 M : mx_M} {X : TX} {u q : Nat} {Q : QQ} (hu : mx_Cat u) (W : mx_Tp M ∧ mx_R M 2 2 = u ∧ lip (cB u) M0 M) (A : tkC M X q) (hq : ∀ M1, mx_Tp M1 → mx_R M1 2 2 = u → lip (cB u) M0 M1 → mx_I M1 2 3 = w k → mx_I M1 2 4 = w q → mx_sh M1 = mx_sh M → mx_R M1 = mx_R M → Q (.inl (some (.int (mx_b false)))) M1) : mx_W m_X4_refuse d 0 [.ref 2, .int (w k)] [] M Q :=
  p_refuseP (s := 0) W.1 hu W.2.1 A (fun M1 L1 k3 k4 => hq M1 (lip_T L1 W.1) (by rw [L1.1.2.1]; exact W.2.1) (lip_trans W.2.2 (cEf_B L1)) k3 k4 L1.1.1 L1.1.2.1)
theorem p_isWordUpTo {d m : Nat} {M0 M : mx_M} {X : TX} {u q : Nat} {Q : QQ} (hu : mx_Cat u) (W : mx_Tp M ∧ mx_R M 2 2 = u ∧ lip (cB u) M0 M) (A : tkC M X q) (hm : m < 100) (h1 : knd X q = 1 → sz X q ≤ m → Q (.inl (some (.int (mx_b true)))) M) (h2 : ∀ k, (k = if knd X q = 1 then 2 else 1) → ¬ (knd X q = 1 ∧ sz X q ≤ m) → ∀ M1, mx_Tp M1 → mx_R M1 2 2 = u → lip (cB u) M0 M1 → mx_I M1 2 3 = w k → mx_I M1 2 4 = w q → mx_sh M1 = mx_sh M → mx_R M1 = mx_R M → Q (.inl (some (.int (mx_b false)))) M1) : mx_W m_X4_isWordUpTo (d + 1) 0 [.ref 2, .int (w m)] [] M Q := by
  have b7 := tkC_700 A
  have hkd := tkM_kd (X := X) (q := q)
  have hsz := sz_le X b7.1
  refine x_X4_isWordUpTo_0 W.1 u hu W.2.1 _ ?_
  rw [A.1.2.2.2, A.1.2.2.1, show (1 : Int32) = w 1 from rfl, w_inj (by omega) (by omega), w_le (by omega) (by omega)]
  refine ⟨fun z => ⟨fun y => h1 z y, fun y => b_ref (k := 2) hu W A (fun M1 a b e f g i j => ⟨i, j, _, rfl, fun _ => h2 2 (by rw [if_pos z]) (fun x => y x.2) M1 a b e f g i j, fun y => by cases y⟩)⟩, fun z => b_ref (k := 1) hu W A (fun M1 a b e f g i j => ⟨i, j, _, rfl, h2 1 (by rw [if_neg z]) (fun x => z x.1) M1 a b e f g i j⟩)⟩
/-- the card that is being read: N is its number -/
def hdC (M : mx_M) (X : TX) (u N y h j : Nat) : Prop := mx_I M u 12 = w (N + 1) ∧ mx_I M (u + 1) N = w y ∧ mx_I M (u + 2) N = w j ∧ mx_I M (u + 3) N = w (su (fun k => sz X (nxI X h k)) j) ∧ ∀ k, k < j → mx_J M (u + 4) (4 * N + k) = u64 (nm (lt8 X (nxI X h k)) 8)
/-- the class in a heading -/
def WH (M0 M : mx_M) (X : TX) (u : Nat) (c : CD) (q s y h j : Nat) : Prop := (mx_Tp M ∧ mx_R M 2 2 = u ∧ lip (cB u) M0 M) ∧ tkC M X q ∧ (mx_I M 6 4 = w s ∧ s ≤ q ∧ z23 M) ∧ (hdC M X u (dN c) y h j ∧ cdC M u (dN c) (dY c) (dW c) (hlX X c) (hgX X c)) ∧ ksC M X u c s
theorem p_addWord {d : Nat} {M0 M : mx_M} {X : TX} {u q s y h j : Nat} {c : CD} {Q : QQ} (hu : mx_Cat u) (hN : dN c < 10) (hj : j < 4) (h1 : knd X q = 1) (h8 : sz X q ≤ 8) (eq : q = nxI X h j) (W : WH M0 M X u c q s y h j) (hq : ∀ M1, WH M0 M1 X u c q s y h (j + 1) → mx_sh M1 = mx_sh M → mx_R M1 = mx_R M → Q (.inl none) M1) : mx_W m_X1_addWord d 0 [.ref u, .long (mx_J M 3 6), .retAddr 0, .int (mx_I M 3 3), .retAddr 0] [] M Q := by
  obtain ⟨⟨T, hu0, L0⟩, A, ⟨h64, hs, h23⟩, ⟨⟨g1, g2, g3, g4, g5⟩, C⟩, KS⟩ := W
  have c11 := cat_no hu
  have b7 := tkC_700 A
  have e1 : w (dN c + 1) - 1 = w (dN c) := w_sub (a := dN c + 1) (b := 1) (by omega)
  refine x_X1_addWord_0 T u hu _ _ ?_
  rw [g1, e1, A.2.1 h1, A.1.2.2.1, w_nat (n := dN c) (by omega), g3, show (4 : Int32) = w 4 from rfl, w_le (by omega) (by omega), w_mul, w_add, w_nat (n := dN c * 4 + j) (by omega)]
  refine ⟨fun z => absurd z (w_pos (by omega)), fun _ => ⟨w_in (by omega) (by decide), fun z => absurd z (by omega), fun _ => ⟨w_in (by omega) (by decide), w_in (by omega) (by decide), fun M1 f1 => ⟨w_in (by omega) (by decide), w_in (by omega) (by decide), fun M2 f2 => ⟨w_in (by omega) (by decide), w_in (by omega) (by decide), fun M3 f3 => ?_⟩⟩⟩⟩⟩
  have k2 : mx_I M1 (u + 2) (dN c) = w j := by rw [f1]; exact g3
  rw [k2, w_add1] at f2
  have k3 : mx_I M2 (u + 3) (dN c) = w (su (fun k => sz X (nxI X h k)) j) := by rw [f2, I_ne (by omega), f1]; exact g4
  rw [k3, w_add] at f3
  have L1 : lip (fun k i => k = u + 4 ∧ i = dN c * 4 + j) M M1 := by rw [f1]; exact lip_setJ ⟨rfl, rfl⟩
  have L2 : lip (fun k i => k = u + 2 ∧ i = dN c) M1 M2 := by rw [f2]; exact lip_setI ⟨rfl, rfl⟩
  have L3 : lip (fun k i => k = u + 3 ∧ i = dN c) M2 M3 := by rw [f3]; exact lip_setI ⟨rfl, rfl⟩
  have LL : lip (fun k i => (k = u + 4 ∧ i = dN c * 4 + j) ∨ (k = u + 2 ∧ i = dN c) ∨ (k = u + 3 ∧ i = dN c)) M M3 := lip_trans (lip_mono L1 (fun _ _ z => Or.inl z)) (lip_trans (lip_mono L2 (fun _ _ z => Or.inr (Or.inl z))) (lip_mono L3 (fun _ _ z => Or.inr (Or.inr z))))
  have fI : ∀ k i, ¬ (k = u + 2 ∧ i = dN c) → ¬ (k = u + 3 ∧ i = dN c) → mx_I M3 k i = mx_I M k i := fun k i a b => by rw [f3, I_ne b, f2, I_ne a, f1]
  have fJ : ∀ k i, ¬ (k = u + 4 ∧ i = dN c * 4 + j) → mx_J M3 k i = mx_J M k i := fun k i a => by rw [f3]; show mx_J M2 k i = _; rw [f2]; show mx_J M1 k i = _; rw [f1]; exact J_ne a
  refine hq M3 ⟨⟨lip_T LL T, by rw [LL.1.2.1]; exact hu0, lip_trans L0 (lip_mono LL (fun k i z => by show _ ∨ _; omega))⟩, tkC_E LL (fun k i z => by omega) A, ⟨by rw [fI 6 4 (by omega) (by omega)]; exact h64, hs, z23_lip LL (by omega) (by omega) h23⟩, ⟨⟨?_, ?_, ?_, ?_, fun k hk => ?_⟩, fun x hx => ?_⟩, ksC_lip LL (fun k i z => by omega) KS⟩ LL.1.1 LL.1.2.1
  · rw [fI u 12 (by omega) (by omega)]; exact g1
  · rw [fI (u + 1) _ (by omega) (by omega)]; exact g2
  · rw [f3, I_ne (by omega), f2]; exact I_eq
  · rw [f3, I_eq, eq]; rfl
  · by_cases e : k = j
    · rw [e, show 4 * dN c + j = dN c * 4 + j by omega, ← eq, f3]; show mx_J M2 _ _ = _; rw [f2]; show mx_J M1 _ _ = _; rw [f1]; exact J_eq
    · rw [fJ (u + 4) _ (by omega)]; exact g5 k (by omega)
  · obtain ⟨r1, r2, r3, r4, r5⟩ := C x hx
    refine ⟨?_, ?_, ?_, r4, fun k hk => ⟨?_, (r5 k hk).2⟩⟩
    · rw [fI (u + 1) x (by omega) (by omega)]; exact r1
    · rw [fI (u + 2) x (by omega) (by omega)]; exact r2
    · rw [fI (u + 3) x (by omega) (by omega)]; exact r3
    · rw [fJ (u + 4) _ (by omega)]; exact (r5 k hk).1
theorem wh_step {d : Nat} {M0 M : mx_M} {X : TX} {u q s y h j : Nat} {c : CD} {Q : QQ} (hu : mx_Cat u) (W : WH M0 M X u c q s y h j) (hq : ∀ M1, WH M0 M1 X u c (nx X q) s y h j → mx_sh M1 = mx_sh M → mx_R M1 = mx_R M → Q (.inl none) M1) : mx_W m_X8_step (d + 2) 0 [.ref 3, .retAddr 0] [] M Q := by
  obtain ⟨⟨T, hu0, L0⟩, A, ⟨h64, hs, h23⟩, ⟨⟨g1, g2, g3, g4, g5⟩, C⟩, KS⟩ := W
  have c11 := cat_no hu
  have b7 := tkC_700 A
  have n := nx_le X b7.1
  refine p_step T A (fun M1 L1 A1 => hq M1 ⟨⟨lip_T L1 T, by rw [L1.1.2.1]; exact hu0, lip_trans L0 (cX_B L1)⟩, A1, ⟨by rw [(L1.2 6 4 (by decide)).1]; exact h64, by omega, z23_lip L1 (by omega) (by omega) h23⟩, ⟨⟨?_, ?_, ?_, ?_, fun k hk => ?_⟩, fun x hx => ?_⟩, ksC_lip L1 (fun k j h => by omega) KS⟩ L1.1.1 L1.1.2.1)
  · rw [(L1.2 u 12 (by omega)).1]; exact g1
  · rw [(L1.2 (u + 1) _ (by omega)).1]; exact g2
  · rw [(L1.2 (u + 2) _ (by omega)).1]; exact g3
  · rw [(L1.2 (u + 3) _ (by omega)).1]; exact g4
  · rw [(L1.2 (u + 4) _ (by omega)).2]; exact g5 k hk
  · obtain ⟨r1, r2, r3, r4, r5⟩ := C x hx
    refine ⟨?_, ?_, ?_, r4, fun k hk => ⟨?_, (r5 k hk).2⟩⟩
    · rw [(L1.2 (u + 1) x (by omega)).1]; exact r1
    · rw [(L1.2 (u + 2) x (by omega)).1]; exact r2
    · rw [(L1.2 (u + 3) x (by omega)).1]; exact r3
    · rw [(L1.2 (u + 4) _ (by omega)).2]; exact (r5 k hk).1
theorem p_head_c {d : Nat} {M0 : mx_M} {X : TX} {u s y h : Nat} {c : CD} {Q : QQ} (hu : mx_Cat u) (hN : dN c < 10) (r : Nat × Nat × Nat)
    (hq1 : r.1 = 0 → ∀ M1, WH M0 M1 X u c r.2.1 s y h r.2.2 → Q (.inl (some (.int (mx_b true)))) M1)
    (hq2 : ¬ r.1 = 0 → ∀ M1, mx_Tp M1 → mx_R M1 2 2 = u → lip (cB u) M0 M1 → mx_I M1 2 3 = w r.1 → mx_I M1 2 4 = w r.2.1 → Q (.inl (some (.int (mx_b false)))) M1) :
    ∀ (f j q : Nat) (M : mx_M), j + f = 4 → q = nxI X h j → hdF X f j q = r → WH M0 M X u c q s y h j → mx_W m_X4_takeHeading (d + 3) 2 [.ref 2, .int (w j)] [] M Q
  | 0, j, q, M, hj, eq, er, W => by
    have hkd := tkM_kd (X := X) (q := q)
    refine x_X4_takeHeading_2 (d := d + 2) W.1.1 u hu W.1.2.1 _ ?_
    rw [W.2.1.1.2.2.2, show (4 : Int32) = w 4 from rfl, show (1 : Int32) = w 1 from rfl, w_le (by omega) (by omega), w_inj (by omega) (by omega)]
    unfold hdF at er
    refine ⟨fun _ => ⟨fun z => ?_, fun z => ?_⟩, fun z => absurd z (by omega)⟩
    · rw [if_neg z] at er
      rw [← er] at hq1
      exact hq1 rfl M W
    · rw [if_pos z] at er
      rw [← er] at hq2
      exact b_ref (k := 2) hu W.1 W.2.1 (fun M1 a b e f g i j => ⟨i, j, _, rfl, fun _ => hq2 (show ¬ (2 : Nat) = 0 by decide) M1 a b e f g, fun y => by cases y⟩)
  | f + 1, j, q, M, hj, eq, er, W => by
    have hkd := tkM_kd (X := X) (q := q)
    have body : (j = 0 ∨ knd X q = 1) → ∀ M3, M3 = M → mx_W m_X4_isWordUpTo (d + 2) 0 [.ref 2, .int 8] [] M3 (fun o M3 => mx_sh M3 = mx_sh M ∧ mx_R M3 = mx_R M ∧ (∃ x4 : Bool, o = .inl (some (.int (mx_b x4))) ∧ ((x4 = true → (mx_W m_X1_addWord (d + 2) 0 [.ref u, .long (mx_J M3 3 6), .retAddr 0, .int (mx_I M3 3 3), .retAddr 0] [] M3 (fun o M5 => mx_sh M5 = mx_sh M3 ∧ mx_R M5 = mx_R M3 ∧ (o = .inl none ∧ (mx_W m_X8_step (d + 2) 0 [.ref 3, .retAddr 0] [] M5 (fun o M6 => mx_sh M6 = mx_sh M5 ∧ mx_R M6 = mx_R M5 ∧ (o = .inl none ∧ mx_W m_X4_takeHeading (d + 3) 2 [.ref 2, .int (w j + 1)] [] M6 Q))))))) ∧ (x4 = false → Q (.inl (some (.int (mx_b false)))) M3)))) := by
      intro hor M3 e3
      rw [e3]
      unfold hdF at er
      rw [if_pos hor] at er
      refine p_isWordUpTo (m := 8) hu W.1 W.2.1 (by decide) (fun k1 k8 => ⟨rfl, rfl, true, rfl, fun _ => ?_, fun y => by cases y⟩) (fun kk ek nk M1 a b e f g i j => ⟨i, j, false, rfl, (fun y => by cases y), fun _ => ?_⟩)
      · rw [if_pos k1, if_pos k8] at er
        refine p_addWord hu hN (by omega) k1 k8 eq W (fun M1 W1 s1 t1 => ⟨s1, t1, rfl, wh_step hu W1 (fun M2 W2 s2 t2 => ⟨s2, t2, rfl, ?_⟩)⟩)
        rw [w_add1]
        exact p_head_c hu hN r hq1 hq2 f (j + 1) (nx X q) M2 (by omega) (by rw [eq]; rfl) er W2
      · by_cases k1 : knd X q = 1
        · rw [if_pos k1, if_neg (fun z => nk ⟨k1, z⟩)] at er
          rw [if_pos k1] at ek
          rw [← er] at hq2
          rw [ek] at f
          exact hq2 (show ¬ (2 : Nat) = 0 by decide) M1 a b e f g
        · rw [if_neg k1] at er ek
          rw [← er] at hq2
          rw [ek] at f
          exact hq2 (show ¬ (1 : Nat) = 0 by decide) M1 a b e f g
    refine x_X4_takeHeading_2 (d := d + 2) W.1.1 u hu W.1.2.1 _ ?_
    rw [W.2.1.1.2.2.2, show (4 : Int32) = w 4 from rfl, show (1 : Int32) = w 1 from rfl, w_le (by omega) (by omega), w_inj (by omega) (by omega), w_eq0 (by omega)]
    refine ⟨fun z => absurd z (by omega), fun _ => ⟨fun z => body (Or.inl z) M rfl, fun z => ⟨fun y => ⟨fun _ => ?_, fun x => absurd x y⟩, fun y => body (Or.inr y) M rfl⟩⟩⟩
    unfold hdF at er
    rw [if_neg (fun x => by rcases x with x | x; exact z x; exact y x)] at er
    rw [← er] at hq1
    exact hq1 rfl M W
theorem p_takeCard {d : Nat} {M0 M : mx_M} {X : TX} {u q s : Nat} {c : CD} {Q : QQ} (hu : mx_Cat u) (G : gdC X c) (W : WC M0 M X u c q s) (hlt : q < X.2) (hq : lnC M0 X u (cardF X c q) (fun b M1 => Q (.inl (some (.int (mx_b b)))) M1)) : mx_W m_X4_takeCard (d + 4) 0 [.ref 2] [] M Q := by
  have c11 := cat_no hu
  have g := G.1
  unfold cardF at hq
  refine x_X4_takeCard_0 (d := d + 3) W.1.1 u hu W.1.2.1 ?_
  rw [W.2.2.2.1.1, show (10 : Int32) = w 10 from rfl, w_inj (by omega) (by omega)]
  refine ⟨fun z => wc_step hu W (fun M1 W1 L1 => ⟨L1.1.1, L1.1.2.1, rfl, ?_⟩), fun z => ?_⟩
  · rw [if_neg z] at hq
    have b7 := tkC_700 W1.2.1
    have hkd := tkM_kd (X := X) (q := nx X q)
    have hsz := sz_le X b7.1
    rw [W1.2.1.1.2.2.2, W1.2.1.1.2.2.1, show (2 : Int32) = w 2 from rfl, show (4 : Int32) = w 4 from rfl, w_inj (by omega) (by omega), w_lt (by omega) (by omega)]
    refine ⟨fun k2 => ⟨fun y => ?_, fun y => ?_⟩, fun k2 => ?_⟩
    · rw [if_pos k2, if_neg (by omega)] at hq
      exact b_ref (k := 2) hu W1.1 W1.2.1 (fun M2 a b e f g i j => ⟨i, j, _, rfl, hq.2 (show ¬ (2 : Nat) = 0 by decide) M2 a b e f g⟩)
    · rw [if_pos k2, if_pos (by omega)] at hq
      have d9 := dgv_9 k2 (by omega)
      rw [W1.2.1.2.2.1 k2 (by omega), show (999 : Int32) = w 999 from rfl, w_le (by omega) (by omega)]
      refine ⟨fun x => ?_, fun x => ?_⟩
      · rw [if_pos x] at hq
        obtain ⟨⟨T, hu0, L0⟩, A, ⟨h64, hs, h23⟩, CS, KS⟩ := W1
        refine x_X1_addCard_0 T u hu _ ?_
        rw [CS.1, show (10 : Int32) = w 10 from rfl, w_le (by omega) (by omega), w_nat (n := dN c) (by omega)]
        refine ⟨fun v => absurd v (by omega), fun _ => ⟨w_in (by omega) (by decide), fun M2 f2 => ?_⟩⟩
        have e2 : mx_I M2 u 12 = w (dN c) := by rw [f2, I_ne (by omega)]; exact CS.1
        rw [e2, w_nat (n := dN c) (by omega)]
        refine ⟨w_in (by omega) (by decide), fun M3 f3 => ?_⟩
        have e3 : mx_I M3 u 12 = w (dN c) := by rw [f3, I_ne (by omega)]; exact e2
        rw [e3, w_nat (n := dN c) (by omega)]
        refine ⟨w_in (by omega) (by decide), fun M4 f4 M5 f5 => ?_⟩
        have e4 : mx_I M4 u 12 = w (dN c) := by rw [f4, I_ne (by omega)]; exact e3
        rw [e4, w_add1] at f5
        have P2 : lip (fun k i => (k = u ∧ i = 12) ∨ (u + 1 ≤ k ∧ k ≤ u + 3 ∧ i = dN c)) M1 M2 := by rw [f2]; exact lip_setI (Or.inr ⟨by omega, by omega, rfl⟩)
        have P3 : lip (fun k i => (k = u ∧ i = 12) ∨ (u + 1 ≤ k ∧ k ≤ u + 3 ∧ i = dN c)) M2 M3 := by rw [f3]; exact lip_setI (Or.inr ⟨by omega, by omega, rfl⟩)
        have P4 : lip (fun k i => (k = u ∧ i = 12) ∨ (u + 1 ≤ k ∧ k ≤ u + 3 ∧ i = dN c)) M3 M4 := by rw [f4]; exact lip_setI (Or.inr ⟨by omega, by omega, rfl⟩)
        have P5 : lip (fun k i => (k = u ∧ i = 12) ∨ (u + 1 ≤ k ∧ k ≤ u + 3 ∧ i = dN c)) M4 M5 := by rw [f5]; exact lip_setI (Or.inl ⟨rfl, rfl⟩)
        have LL := lip_trans (lip_trans P2 P3) (lip_trans P4 P5)
        have W5 : WH M0 M5 X u c (nx X q) s (dgv X (nx X q) (sz X (nx X q))) (nx X (nx X q)) 0 := by
          refine ⟨⟨lip_T LL T, by rw [LL.1.2.1]; exact hu0, lip_trans L0 (lip_mono LL (fun k i z => by show _ ∨ _; omega))⟩, tkC_E LL (fun k i z => by omega) A, ⟨by rw [(LL.2 6 4 (by omega)).1]; exact h64, hs, z23_lip LL (by omega) (by omega) h23⟩, ⟨⟨?_, ?_, ?_, ?_, fun k hk => by omega⟩, fun x hx => ?_⟩, ksC_lip LL (fun k i z => by omega) KS⟩
          · rw [f5]; exact I_eq
          · rw [f5, I_ne (by omega), f4, I_ne (by omega), f3, I_ne (by omega), f2]; exact I_eq
          · rw [f5, I_ne (by omega), f4, I_ne (by omega), f3]; exact I_eq
          · rw [f5, I_ne (by omega), f4]; exact I_eq
          · obtain ⟨r1, r2, r3, r4, r5⟩ := CS.2 x hx
            refine ⟨?_, ?_, ?_, r4, fun k hk => ⟨?_, (r5 k hk).2⟩⟩
            · rw [(LL.2 (u + 1) x (by omega)).1]; exact r1
            · rw [(LL.2 (u + 2) x (by omega)).1]; exact r2
            · rw [(LL.2 (u + 3) x (by omega)).1]; exact r3
            · rw [(LL.2 (u + 4) _ (by omega)).2]; exact (r5 k hk).1
        refine ⟨LL.1.1, LL.1.2.1, rfl, wh_step hu W5 (fun M6 W6 s6 t6 => ⟨s6, t6, rfl, ?_⟩)⟩
        refine x_X4_takeHeading_0 (d := d + 2) W6.1.1 u hu W6.1.2.1 (p_head_c hu (by omega) (hdF X 4 0 (nx X (nx X q))) (fun z0 M7 W7 => ⟨?_, ?_, true, rfl, ?_⟩) (fun z0 M7 a b e f g => ⟨?_, ?_, false, rfl, ?_⟩) 4 0 _ M6 rfl rfl rfl W6)
        · exact W7.1.2.2.1.1.trans W6.1.2.2.1.1.symm
        · exact W7.1.2.2.1.2.1.trans W6.1.2.2.1.2.1.symm
        · rw [if_pos z0] at hq
          have hk := hd_ok (X := X) (h0 := nx X (nx X q)) 4 0 (nx X (nx X q)) rfl (fun _ => by decide) rfl (fun k hk => by omega) z0
          refine hq.1 rfl M7 s ⟨W7.1, W7.2.1, W7.2.2.1, ⟨W7.2.2.2.1.1.1, fun x hx => ?_⟩, W7.2.2.2.2⟩
          · have hx : x < dN c + 1 := hx
            show mx_I M7 (u + 1) x = w (st1 (dY c) (dN c) _ x) ∧ mx_I M7 (u + 2) x = w (st1 (dW c) (dN c) _ x) ∧ mx_I M7 (u + 3) x = w (su (fun k => sz X (nxI X (st1 (dH c) (dN c) _ x) k)) (st1 (dW c) (dN c) _ x)) ∧ (1 ≤ st1 (dW c) (dN c) _ x ∧ st1 (dW c) (dN c) _ x ≤ 4) ∧ ∀ k, k < st1 (dW c) (dN c) _ x → mx_J M7 (u + 4) (4 * x + k) = u64 (nm (lt8 X (nxI X (st1 (dH c) (dN c) _ x) k)) 8) ∧ wrd (sz X (nxI X (st1 (dH c) (dN c) _ x) k)) (lt8 X (nxI X (st1 (dH c) (dN c) _ x) k))
            by_cases ex : x = dN c
            · rw [ex, st1_eq, st1_eq, st1_eq]
              have hh := W7.2.2.2.1.1
              exact ⟨hh.2.1, hh.2.2.1, hh.2.2.2.1, hk.1, fun k hk2 => ⟨hh.2.2.2.2 k hk2, hk.2 k hk2⟩⟩
            · rw [st1_ne ex, st1_ne ex, st1_ne ex]
              exact W7.2.2.2.1.2 x (by omega)
        · exact e.1.1.trans W6.1.2.2.1.1.symm
        · exact e.1.2.1.trans W6.1.2.2.1.2.1.symm
        · rw [if_neg z0] at hq
          exact hq.2 z0 M7 a b e f g
      · rw [if_neg x] at hq
        exact b_ref (k := 2) hu W1.1 W1.2.1 (fun M2 a b e f g i j => ⟨i, j, _, rfl, hq.2 (show ¬ (2 : Nat) = 0 by decide) M2 a b e f g⟩)
    · rw [if_neg k2] at hq
      exact b_ref (k := 1) hu W1.1 W1.2.1 (fun M2 a b e f g i j => ⟨i, j, _, rfl, hq.2 (show ¬ (1 : Nat) = 0 by decide) M2 a b e f g⟩)
  · rw [if_pos z] at hq
    exact b_ref (k := 2) hu W.1 W.2.1 (fun M1 a b e f g i j => ⟨i, j, _, rfl, hq.2 (show ¬ (2 : Nat) = 0 by decide) M1 a b e f g⟩)
