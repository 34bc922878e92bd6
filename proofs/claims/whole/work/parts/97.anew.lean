/-! what a catalogue means: keys, ties, orders; the class begins anew -/
def keyX (X : TX) (c : CD) (o x : Nat) : KS := keyR (dR c o) (dRk c o) (flX X c o) (fgX X c o) (tlX X c o) (tgX X c o) (fun _ => false) (dT c o) (dJ c o) (dW c) (hlX X c) (hgX X c) x
def klX (X : TX) (c : CD) (o x : Nat) : Nat := (keyX X c o x).1
def ksX (X : TX) (c : CD) (o x : Nat) : Nat → Nat := (keyX X c o x).2
def tvX (X : TX) (c : CD) (o : Nat) : Nat → Int32 := if dI c o = true then tval X c o else fun x => w (dY c x)
def bsX (X : TX) (c : CD) (o : Nat) : Nat → Nat → Bool := ordB (fun x => kcF (klX X c o x) (ksX X c o x)) (tvX X c o)
/-- the class's catalogue -/
def CDC (M : mx_M) (t : Nat) (X : TX) (c : CD) : Prop := (mx_I M t 12 = w (dN c) ∧ mx_I M t 13 = w (dK c)) ∧ cdC M t (dN c) (dY c) (dW c) (hlX X c) (hgX X c) ∧ (∀ o, o < dK c → rlC M t o (dR c o) (dRk c o) (fgX X c o) (tgX X c o)) ∧ clC M t (dK c) (dR c) (dT c) (dJ c) (dI c) ∧ ∀ o x, o < dK c → x < dN c → dI c o = true → mx_I M (t + 12) (10 * o + x) = tval X c o x
theorem CDC_lip {P : Nat → Nat → Prop} {M M1 : mx_M} {t : Nat} {X : TX} {c : CD} (L : lip P M M1) (hP : ∀ k j, P k j → ¬ (t ≤ k ∧ k ≤ t + 12)) (A : CDC M t X c) : CDC M1 t X c := by
  have f : ∀ k j, t ≤ k → k ≤ t + 12 → mx_I M1 k j = mx_I M k j ∧ mx_J M1 k j = mx_J M k j := fun k j a b => L.2 k j (fun z => hP k j z ⟨a, b⟩)
  obtain ⟨⟨h1, h2⟩, h3, h4, h5, h6⟩ := A
  refine ⟨⟨?_, ?_⟩, fun x hx => ?_, fun o ho => ?_, fun o ho => ?_, fun o x ho hx hi => ?_⟩
  · rw [(f t 12 (by omega) (by omega)).1]; exact h1
  · rw [(f t 13 (by omega) (by omega)).1]; exact h2
  · obtain ⟨r1, r2, r3, r4, r5⟩ := h3 x hx
    refine ⟨?_, ?_, ?_, r4, fun k hk => ⟨?_, (r5 k hk).2⟩⟩
    · rw [(f (t + 1) x (by omega) (by omega)).1]; exact r1
    · rw [(f (t + 2) x (by omega) (by omega)).1]; exact r2
    · rw [(f (t + 3) x (by omega) (by omega)).1]; exact r3
    · rw [(f (t + 4) _ (by omega) (by omega)).2]; exact (r5 k hk).1
  · obtain ⟨r1, r2, r3⟩ := h4 o ho
    refine ⟨r1, ?_, fun i hi => ⟨?_, ?_, fun y => ?_⟩⟩
    · rw [(f (t + 5) o (by omega) (by omega)).1]; exact r2
    · rw [(f (t + 6) _ (by omega) (by omega)).1]; exact (r3 i hi).1
    · rw [(f (t + 7) _ (by omega) (by omega)).2]; exact (r3 i hi).2.1
    · rw [(f (t + 8) _ (by omega) (by omega)).2]; exact (r3 i hi).2.2 y
  · rw [(f (t + 5) o (by omega) (by omega)).1, (f (t + 9) o (by omega) (by omega)).1, (f (t + 10) o (by omega) (by omega)).1, (f (t + 11) o (by omega) (by omega)).1]; exact h5 o ho
  · rw [(f (t + 12) _ (by omega) (by omega)).1]; exact h6 o x ho hx hi
/-- a clerk's order stands in the class's tables -/
def otC (M : mx_M) (z N : Nat) (kl : Nat → Nat) (ks : Nat → Nat → Nat) (B : Nat → Nat → Bool) : Prop := (∀ x, x < N → slC M (10 * z + x) (kl x) (ks x)) ∧ ordC M z N B
theorem otC_lip {P : Nat → Nat → Prop} {M M1 : mx_M} {z N : Nat} {kl : Nat → Nat} {ks : Nat → Nat → Nat} {B : Nat → Nat → Bool} (L : lip P M M1) (hN : N ≤ 10) (hP : ∀ k j, P k j → ((k = 26 ∨ k = 27 ∨ k = 28) → ¬ (10 * z ≤ j ∧ j < 10 * z + 10)) ∧ (k = 25 → ¬ (350 * z ≤ j ∧ j < 350 * z + 350))) (A : otC M z N kl ks B) : otC M1 z N kl ks B := by
  refine ⟨fun x hx => ?_, A.2.1, ⟨A.2.2.1.1, A.2.2.1.2.1, fun x hx => ?_⟩, fun x hx => ?_⟩
  · obtain ⟨a1, a2, a3, a4⟩ := A.1 x hx
    refine ⟨a1, a2, ?_, fun i hi => ⟨?_, (a4 i hi).2⟩⟩
    · rw [(L.2 26 _ (fun y => (hP _ _ y).1 (Or.inl rfl) (by omega))).1]; exact a3
    · rw [(L.2 25 _ (fun y => (hP _ _ y).2 rfl (by omega))).1]; exact (a4 i hi).1
  · have r := A.2.2.1.2.2 x hx
    refine ⟨?_, r.2⟩
    rw [(L.2 27 _ (fun y => (hP _ _ y).1 (Or.inr (Or.inl rfl)) (by omega))).1]; exact r.1
  · have r := (A.2.2.1.2.2 x hx).2
    rw [(L.2 28 _ (fun y => (hP _ _ y).1 (Or.inr (Or.inr rfl)) (by omega))).1]; exact A.2.2.2 x hx
/-- what learn and arrange write -/
abbrev cOr : Nat → Nat → Prop := fun k j => (k = 24 ∧ 6 ≤ j ∧ j ≤ 9) ∨ (25 ≤ k ∧ k ≤ 30)
theorem bzo (b : Bool) : mx_zo (mx_b b) := by cases b <;> decide
theorem p_learn {d t o : Nat} {X : TX} {c : CD} {M : mx_M} {Q : QQ} (T : mx_Tp M) (ht : mx_Cat t) (G : gdC X c) (A : CDC M t X c) (ho : o < dK c) (hq : ∀ M1, lip (fun k j => k = 24 ∧ 6 ≤ j ∧ j ≤ 9) M M1 → mx_I M1 24 6 = -1 → mx_I M1 24 7 = mx_b (dT c o) → mx_I M1 24 8 = mx_b (dJ c o) → mx_I M1 24 9 = mx_b (dI c o) → Q (.inl none) M1) : mx_W m_X3_learn d 0 [.ref 24, .ref t, .int (w o)] [] M Q := by
  have g := G.1
  obtain ⟨_, k9, k10, k11⟩ := A.2.2.2.1 o ho
  have hh : ¬ t + 9 = 24 ∧ ¬ t + 10 = 24 ∧ ¬ t + 11 = 24 := by rcases ht with h | h <;> omega
  refine x_X3_learn_0 T t ht _ (fun M1 f1 => ⟨w_in (by omega) (by decide), ?_⟩)
  have e1 : mx_I M1 (t + 9) o = mx_b (dT c o) := by rw [f1, I_ne (by omega)]; exact k9
  rw [w_nat (n := o) (by omega), e1]
  refine ⟨bzo _, fun M2 f2 => ⟨w_in (by omega) (by decide), ?_⟩⟩
  have e2 : mx_I M2 (t + 10) o = mx_b (dJ c o) := by rw [f2, I_ne (by omega), f1, I_ne (by omega)]; exact k10
  rw [e2]
  refine ⟨bzo _, fun M3 f3 => ⟨w_in (by omega) (by decide), ?_⟩⟩
  have e3 : mx_I M3 (t + 11) o = mx_b (dI c o) := by rw [f3, I_ne (by omega), f2, I_ne (by omega), f1, I_ne (by omega)]; exact k11
  rw [e3]
  refine ⟨bzo _, fun M4 f4 => hq M4 ?_ ?_ ?_ ?_ ?_⟩
  · have L1 : lip (fun k j => k = 24 ∧ 6 ≤ j ∧ j ≤ 9) M M1 := by rw [f1]; exact lip_setI ⟨rfl, by omega, by omega⟩
    have L2 : lip (fun k j => k = 24 ∧ 6 ≤ j ∧ j ≤ 9) M1 M2 := by rw [f2]; exact lip_setI ⟨rfl, by omega, by omega⟩
    have L3 : lip (fun k j => k = 24 ∧ 6 ≤ j ∧ j ≤ 9) M2 M3 := by rw [f3]; exact lip_setI ⟨rfl, by omega, by omega⟩
    have L4 : lip (fun k j => k = 24 ∧ 6 ≤ j ∧ j ≤ 9) M3 M4 := by rw [f4]; exact lip_setI ⟨rfl, by omega, by omega⟩
    exact lip_trans (lip_trans L1 L2) (lip_trans L3 L4)
  · rw [f4, I_ne (by omega), f3, I_ne (by omega), f2, I_ne (by omega), f1]; exact I_eq
  · rw [f4, I_ne (by omega), f3, I_ne (by omega), f2]; exact I_eq
  · rw [f4, I_ne (by omega), f3]; exact I_eq
  · rw [f4]; exact I_eq
/-- the tables are ready for arranging -/
theorem arC_of {t o : Nat} {X : TX} {c : CD} {dr : Nat → Bool} {tn jn : Bool} {tv : Nat → Int32} {M : mx_M} (T : mx_Tp M) (A : CDC M t X c) (ho : o < dK c) (hd : ∀ i, i < 8 → (w i = mx_I M 24 6 ↔ dr i = true)) (h7 : mx_I M 24 7 = mx_b tn) (h8 : mx_I M 24 8 = mx_b jn) (h9 : (mx_I M 24 9 = 0 ∧ ∀ x, x < dN c → tv x = w (dY c x)) ∨ (¬ mx_I M 24 9 = 0 ∧ dI c o = true ∧ ∀ x, x < dN c → tv x = tval X c o x)) : arC M t o (dN c) (dR c o) (dRk c o) (fgX X c o) (tgX X c o) dr tn jn (dY c) (dW c) (hlX X c) (hgX X c) tv := by
  refine ⟨⟨T, A.1.1, ?_⟩, A.2.2.1 o ho, A.2.1, hd, h7, h8⟩
  rcases h9 with h | h
  · exact Or.inl ⟨h.1, fun x hx => by rw [h.2 x hx]; exact (A.2.1 x hx).1⟩
  · exact Or.inr ⟨h.1, fun x hx => by rw [h.2.2 x hx]; exact A.2.2.2.2 o x ho hx h.2.1⟩
theorem p_begin_l {d t : Nat} {X : TX} {c : CD} {M0 : mx_M} {Q : QQ} (ht : mx_Cat t) (G : gdC X c) (ht0 : mx_R M0 1 10 = t)
    (hq : ∀ M1, mx_Tp M1 → lip cOr M0 M1 → CDC M1 t X c → (∀ o, o < dK c → otC M1 o (dN c) (klX X c o) (ksX X c o) (bsX X c o)) → ∀ M2, (∃ N1 N2 N3 N4, N1 = mx_setI M1 39 4 0 ∧ N2 = mx_setI N1 31 1 0 ∧ N3 = mx_setI N2 35 1 0 ∧ N4 = mx_setI N3 1 11 0 ∧ M2 = mx_setI N4 1 12 0) → Q (.inl none) M2) :
    ∀ (f o : Nat) (M : mx_M), o + f = dK c → mx_Tp M → lip cOr M0 M → CDC M t X c → (∀ o', o' < o → otC M o' (dN c) (klX X c o') (ksX X c o') (bsX X c o')) → mx_W m_X10_beginAnew (d + 6) 2 [.ref 1, .int (w o)] [] M Q
  | 0, o, M, ho, T, L, A, H => by
    have g := G.1
    refine x_X10_beginAnew_2 (d := d + 5) T t ht (by rw [L.1.2.1]; exact ht0) _ ?_
    rw [A.1.2, w_le (by omega) (by omega)]
    exact ⟨fun _ N1 e1 N2 e2 N3 e3 N4 e4 M2 e5 => hq M T L A (fun o' h => H o' (by omega)) M2 ⟨N1, N2, N3, N4, e1, e2, e3, e4, e5⟩, fun z => absurd (by omega) z⟩
  | f + 1, o, M, ho, T, L, A, H => by
    have g := G.1
    have c11 := cat_no ht
    have hP : ∀ k j, (k = 24 ∧ 6 ≤ j ∧ j ≤ 9) ∨ (25 ≤ k ∧ k ≤ 30) → ¬ (t ≤ k ∧ k ≤ t + 12) := fun k j z => by rcases ht with h | h <;> omega
    refine x_X10_beginAnew_2 (d := d + 5) T t ht (by rw [L.1.2.1]; exact ht0) _ ?_
    rw [A.1.2, w_le (by omega) (by omega), w_add1]
    refine ⟨fun z => absurd z (by omega), fun _ => p_learn T ht G A (by omega) (fun M1 L1 k6 k7 k8 k9 => ⟨L1.1.1, L1.1.2.1, rfl, ?_⟩)⟩
    have T1 := lip_T L1 T
    have A1 : CDC M1 t X c := CDC_lip L1 (fun k j z => hP k j (Or.inl z)) A
    have AR : arC M1 t o (dN c) (dR c o) (dRk c o) (fgX X c o) (tgX X c o) (fun _ => false) (dT c o) (dJ c o) (dY c) (dW c) (hlX X c) (hgX X c) (tvX X c o) := by
      refine arC_of T1 A1 (by omega) (fun i hi => ?_) k7 k8 ?_
      · rw [k6]; exact ⟨fun z => absurd z (w_ne1 (by omega)), fun z => by cases z⟩
      · rw [k9]
        unfold tvX
        cases h : dI c o
        · exact Or.inl ⟨rfl, fun x _ => rfl⟩
        · exact Or.inr ⟨by decide, rfl, fun x _ => rfl⟩
    refine p_arrange ht g.1 (by omega) (G.2.2.1 o (by omega)) AR (fun M2 A2 L2 S2 O2 => ⟨L2.1.1, L2.1.2.1, rfl, ?_⟩)
    have L2' : lip cOr M1 M2 := lip_mono L2 (fun k j z => by show _ ∨ _; omega)
    refine p_begin_l ht G ht0 hq f (o + 1) M2 (by omega) (lip_T L2 T1) (lip_trans L (lip_trans (lip_mono L1 (fun k j z => Or.inl z)) L2')) (CDC_lip L2' hP A1) (fun o' h => ?_)
    by_cases e : o' = o
    · rw [e]; exact ⟨S2, O2⟩
    · exact otC_lip L2 g.1 (fun k j z => ⟨fun y => by omega, fun y => by omega⟩) (otC_lip L1 g.1 (fun k j z => ⟨fun y => by omega, fun y => by omega⟩) (H o' (by omega)))
