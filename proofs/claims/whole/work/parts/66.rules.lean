/-! rules of a clerk: spelled, folded, passed over -/
/-- n rules, the i-th of kind k i, from the word of fl i letters fg i to that of tl i letters tg i -/
def rlW (n : Nat) (k fl : Nat → Nat) (fg : Nat → Nat → Nat) (tl : Nat → Nat) (tg : Nat → Nat → Nat) : Prop := n ≤ 8 ∧ (∀ i, i < n → k i ≤ 2 ∧ wrd (fl i) (fg i) ∧ (¬ k i = 0 → wrd (tl i) (tg i)) ∧ (k i = 2 → fl i = 1 ∧ tl i = 1)) ∧ ∀ i j, i < n → j < n → k i = k j → nm (fg i) 8 = nm (fg j) 8 → i = j
def rlC (M : mx_M) (t o n : Nat) (k : Nat → Nat) (fg tg : Nat → Nat → Nat) : Prop := o < 4 ∧ mx_I M (t + 5) o = w n ∧ ∀ i, i < n → mx_I M (t + 6) (8 * o + i) = w (k i) ∧ mx_J M (t + 7) (8 * o + i) = u64 (nm (fg i) 8) ∧ (¬ k i = 0 → mx_J M (t + 8) (8 * o + i) = u64 (nm (tg i) 8))
def rlM (M : mx_M) (o n : Nat) (k fl : Nat → Nat) (fg : Nat → Nat → Nat) (tl : Nat → Nat) (tg : Nat → Nat → Nat) : Prop := o < 4 ∧ mx_I M 61 o = w n ∧ ∀ i, i < n → mx_I M 62 (8 * o + i) = w (k i) ∧ mx_J M 68 (8 * o + i) = u64 (nm (fg i) (fl i)) ∧ (¬ k i = 0 → mx_J M 69 (8 * o + i) = u64 (nm (tg i) (tl i)))
theorem w_8 (x k : Nat) : 8 * w x + w k = w (8 * x + k) := by rw [show (8 : Int32) = w 8 from rfl, w_mul, w_add]
theorem w_x8 (x k : Nat) : w x * 8 + w k = w (8 * x + k) := by rw [show (8 : Int32) = w 8 from rfl, w_mul, w_add, Nat.mul_comm]
/-- the rule i is of kind kd and of the word c -/
def mtF (k : Nat → Nat) (fg : Nat → Nat → Nat) (kd c i : Nat) : Bool := decide (k i = kd) && decide (nm (fg i) 8 = c)
theorem p_ruleOf_l {d t o n kd : Nat} {k fl : Nat → Nat} {fg : Nat → Nat → Nat} {tl : Nat → Nat} {tg : Nat → Nat → Nat} {g : Nat → Nat} {M : mx_M} {Q : QQ} (T : mx_Tp M) (ht : mx_Cat t) (R : rlC M t o n k fg tg) (Rw : rlW n k fl fg tl tg) (hk : kd < 1000) (hg : ∀ i, g i < 32) :
    ∀ (c i : Nat), i + c = n → Q (.inl (some (.int (fz n (fnd (mtF k fg kd (nm g 8)) i c))))) M → mx_W m_X1_ruleOf d 3 [.ref t, .int (w o), .int (w kd), .long (u64 (nm g 8)), .retAddr 0, .int (w i), .retAddr 0] [] M Q
  | 0, i, hi, hq => by
    have h1 := R.1
    have h2 := Rw.1
    rw [fz_ge (by unfold fnd; omega)] at hq
    refine x_X1_ruleOf_3 T t ht _ _ _ _ ?_
    rw [w_nat (n := o) (by omega), R.2.1]
    refine ⟨w_in (by omega) (by omega), fun _ => hq, fun h => absurd ?_ h⟩
    rw [w_le (by omega) (by omega)]; omega
  | c + 1, i, hi, hq => by
    have h1 := R.1
    have h2 := Rw.1
    have r := R.2.2 i (by omega)
    have rw9 := Rw.2.1 i (by omega)
    have a1 := nm_40 rw9.2.1.2.1 (m := 8) (by decide)
    have a2 := nm_40 hg (m := 8) (by decide)
    have no : ¬ mtF k fg kd (nm g 8) i = true → mx_W m_X1_ruleOf d 3 [.ref t, .int (w o), .int (w kd), .long (u64 (nm g 8)), .retAddr 0, .int (w i + 1), .retAddr 0] [] M Q := by
      intro z
      rw [fnd_next z] at hq
      rw [w_add1]
      exact p_ruleOf_l T ht R Rw hk hg c (i + 1) (by omega) hq
    refine x_X1_ruleOf_3 T t ht _ _ _ _ ?_
    rw [w_nat (n := o) (by omega), R.2.1, w_x8, w_nat (n := 8 * o + i) (by omega), r.1, r.2.1, u_inj (by omega) (by omega), w_inj (by omega) (by omega)]
    refine ⟨w_in (by omega) (by omega), fun h => ?_, fun _ => ⟨w_in (by omega) (by omega), fun z => no ?_, fun z => ⟨w_in (by omega) (by omega), fun y => no ?_, fun y => ?_⟩⟩⟩
    · rw [w_le (by omega) (by omega)] at h; omega
    · unfold mtF; rw [decide_eq_false z, Bool.false_and]; decide
    · unfold mtF; rw [decide_eq_false y, Bool.and_false]; decide
    · rw [fnd_stop (by unfold mtF; rw [decide_eq_true z, decide_eq_true y]; rfl), fz_lt (by omega)] at hq
      exact hq
theorem p_ruleOf {d t o n kd : Nat} {k fl : Nat → Nat} {fg : Nat → Nat → Nat} {tl : Nat → Nat} {tg : Nat → Nat → Nat} {g : Nat → Nat} {M : mx_M} {Q : QQ} (T : mx_Tp M) (ht : mx_Cat t) (R : rlC M t o n k fg tg) (Rw : rlW n k fl fg tl tg) (hk : kd < 1000) (hg : ∀ i, g i < 32) (hq : Q (.inl (some (.int (fz n (fnd (mtF k fg kd (nm g 8)) 0 n))))) M) : mx_W m_X1_ruleOf d 0 [.ref t, .int (w o), .int (w kd), .long (u64 (nm g 8)), .retAddr 0, .retAddr 0, .retAddr 0] [] M Q :=
  x_X1_ruleOf_0 T t ht _ _ _ (p_ruleOf_l T ht R Rw hk hg n 0 (Nat.zero_add n) hq)
/-- the rule that is kept of a word -/
def rkF (n : Nat) (k : Nat → Nat) (fg : Nat → Nat → Nat) (dr : Nat → Bool) (kd c : Nat) : Nat := fnd (fun i => mtF k fg kd c i && !dr i) 0 n
theorem fnd_is {p : Nat → Bool} {n i : Nat} (hi : i < n) (h : p i = true) (h2 : ∀ j, j < n → p j = true → j = i) : fnd p 0 n = i := by
  have l := fnd_le p 0 n
  have l2 : fnd p 0 n < n := by
    rcases Nat.lt_or_ge (fnd p 0 n) n with g | g
    · exact g
    · have := fnd_not p 0 n i (Nat.zero_le _) (by omega)
      rw [h] at this; cases this
  exact h2 _ l2 (fnd_so p 0 n (by omega))
theorem fnd_none {p : Nat → Bool} {n : Nat} (h : ∀ j, j < n → p j = false) : fnd p 0 n = n := by
  have l := fnd_le p 0 n
  rcases Nat.lt_or_ge (fnd p 0 n) n with g | g
  · have := fnd_so p 0 n (by omega)
    rw [h _ g] at this; cases this
  · omega
theorem p_ruleKept {d t o n kd : Nat} {k fl : Nat → Nat} {fg : Nat → Nat → Nat} {tl : Nat → Nat} {tg : Nat → Nat → Nat} {g : Nat → Nat} {dr : Nat → Bool} {M : mx_M} {Q : QQ} (T : mx_Tp M) (ht : mx_Cat t) (R : rlC M t o n k fg tg) (Rw : rlW n k fl fg tl tg) (hk : kd < 1000) (hg : ∀ i, g i < 32) (hd : ∀ i, i < 8 → (w i = mx_I M 24 6 ↔ dr i = true))
    (hq : Q (.inl (some (.int (fz n (rkF n k fg dr kd (nm g 8)))))) M) : mx_W m_X3_ruleKept (d + 1) 0 [.ref 24, .ref t, .int (w o), .int (w kd), .long (u64 (nm g 8)), .retAddr 0, .retAddr 0] [] M Q := by
  have h2 := Rw.1
  have un : ∀ i j, i < n → j < n → mtF k fg kd (nm g 8) i = true → mtF k fg kd (nm g 8) j = true → i = j := by
    intro i j hi hj a b
    unfold mtF at a b
    rw [Bool.and_eq_true, decide_eq_true_iff, decide_eq_true_iff] at a b
    exact Rw.2.2 i j hi hj (by omega) (by omega)
  refine x_X3_ruleKept_0 T t ht _ _ _ (p_ruleOf T ht R Rw hk hg ⟨rfl, rfl, _, rfl, ?_⟩)
  by_cases g9 : fnd (mtF k fg kd (nm g 8)) 0 n < n
  · have hm := fnd_so (mtF k fg kd (nm g 8)) 0 n (by omega)
    generalize fnd (mtF k fg kd (nm g 8)) 0 n = i at g9 hm
    rw [fz_lt g9]
    refine ⟨fun z => ?_, fun z => ?_⟩
    · have e : rkF n k fg dr kd (nm g 8) = i := fnd_is g9 (by
        have : dr i = false := by
          cases h : dr i
          · rfl
          · exact absurd ((hd i (by omega)).mpr h) z
        rw [hm, this]; rfl) (fun j hj h => by
        rw [Bool.and_eq_true] at h
        exact un j i hj g9 h.1 hm)
      rw [e, fz_lt g9] at hq
      exact hq
    · have z2 := (hd i (by omega)).mp z
      have e : rkF n k fg dr kd (nm g 8) = n := fnd_none (fun j hj => by
        cases h : mtF k fg kd (nm g 8) j
        · rfl
        · rw [un j i hj g9 h hm, z2]; rfl)
      rw [e, fz_ge (Nat.le_refl _)] at hq
      exact hq
  · have hno : ∀ j, j < n → mtF k fg kd (nm g 8) j = false := fun j hj => fnd_not _ 0 n j (Nat.zero_le _) (by omega)
    have e : rkF n k fg dr kd (nm g 8) = n := fnd_none (fun j hj => by rw [hno j hj]; rfl)
    rw [e, fz_ge (Nat.le_refl _)] at hq
    rw [fz_ge (by omega)]
    exact ⟨fun _ => hq, fun _ => hq⟩
/-- what the letters become -/
def fmF (k : Nat → Nat) (fg tg : Nat → Nat → Nat) (dr : Nat → Bool) : Nat → Nat → (Nat → Nat) → Nat → Nat
  | _, 0, p => p
  | i, c + 1, p => fmF k fg tg dr (i + 1) c (if k i = 2 ∧ dr i = false then setF p (fg i 0) (tg i 0) else p)
/-- letters stay letters, and what is none stays none -/
def phG (p : Nat → Nat) : Prop := p 0 = 0 ∧ ∀ a, a < 32 → p a < 32 ∧ (1 ≤ a → 1 ≤ p a)
theorem phG_set {p : Nat → Nat} {a b : Nat} (h : phG p) (ha : 1 ≤ a) (hb : 1 ≤ b) (hb2 : b < 32) : phG (setF p a b) := by
  refine ⟨by rw [setF_ne (by omega)]; exact h.1, fun x hx => ?_⟩
  by_cases e : x = a
  · rw [e, setF_eq]; exact ⟨hb2, fun _ => hb⟩
  · rw [setF_ne e]; exact h.2 x hx
abbrev c30 : Nat → Nat → Prop := fun k _ => k = 30
theorem p_folds_b {d t o n : Nat} {k fl : Nat → Nat} {fg : Nat → Nat → Nat} {tl : Nat → Nat} {tg : Nat → Nat → Nat} {dr : Nat → Bool} {M0 : mx_M} {Q : QQ} (ht : mx_Cat t) (Rw : rlW n k fl fg tl tg) (R : rlC M0 t o n k fg tg) (hd : ∀ i, i < 8 → (w i = mx_I M0 24 6 ↔ dr i = true)) (p9 : Nat → Nat)
    (hq : ∀ M1, lip c30 M0 M1 → phG p9 → (∀ a, a < 32 → mx_I M1 30 a = w (p9 a)) → Q (.inl none) M1) :
    ∀ (c i : Nat) (p : Nat → Nat) (M : mx_M), i + c = n → mx_Tp M → lip c30 M0 M → phG p → (∀ a, a < 32 → mx_I M 30 a = w (p a)) → fmF k fg tg dr i c p = p9 → mx_W m_X3_learnFolds (d + 1) 26 [.ref 24, .ref t, .int (w o), .int (w i), .retAddr 0] [] M Q
  | 0, i, p, M, hi, T, L, G, c1, e => by
    have h1 := R.1
    have h2 := Rw.1
    have h11 : t = 11 ∨ t = 45 := ht
    have e : p = p9 := e
    subst e
    refine x_X3_learnFolds_26 T t ht _ _ ?_
    rw [w_nat (n := o) (by omega), (L.2 (t + 5) o (fun z => by have z : t + 5 = 30 := z; omega)).1, R.2.1]
    refine ⟨w_in (by omega) (by omega), fun _ => hq M L G c1, fun h => absurd ?_ h⟩
    rw [w_le (by omega) (by omega)]; omega
  | c + 1, i, p, M, hi, T, L, G, c1, e => by
    have h1 := R.1
    have h2 := Rw.1
    have h11 : t = 11 ∨ t = 45 := ht
    have r := R.2.2 i (by omega)
    have rw9 := Rw.2.1 i (by omega)
    rw [fmF] at e
    refine x_X3_learnFolds_26 T t ht _ _ ?_
    rw [w_nat (n := o) (by omega), (L.2 (t + 5) o (fun z => by have z : t + 5 = 30 := z; omega)).1, R.2.1, w_x8, w_nat (n := 8 * o + i) (by omega), (L.2 (t + 6) (8 * o + i) (fun z => by have z : t + 6 = 30 := z; omega)).1, (L.2 (t + 7) (8 * o + i) (fun z => by have z : t + 7 = 30 := z; omega)).2, (L.2 24 6 (fun z => by have z : 24 = 30 := z; omega)).1, r.1, r.2.1, show (2 : Int32) = w 2 from rfl, w_inj (by omega) (by omega), hd i (by omega)]
    refine ⟨w_in (by omega) (by omega), fun h => ?_, fun _ => ⟨w_in (by omega) (by omega), fun z => ?_, fun z => ⟨fun y => ?_, fun y => ⟨w_in (by omega) (by omega), p_letterAt (i := 0) T rw9.2.1.2.1 (by decide) ⟨rfl, rfl, _, rfl, w_in (by omega) (by omega), ?_⟩⟩⟩⟩⟩
    · rw [w_le (by omega) (by omega)] at h; omega
    · rw [if_neg (fun q => z q.1)] at e
      rw [w_add1]
      exact p_folds_b ht Rw R hd p9 hq c (i + 1) p M (by omega) T L G c1 e
    · rw [if_neg (fun q => by rw [q.2] at y; cases y)] at e
      rw [w_add1]
      exact p_folds_b ht Rw R hd p9 hq c (i + 1) p M (by omega) T L G c1 e
    · have wt := rw9.2.2.1 (by omega)
      have one := rw9.2.2.2 z
      have f1 := (rw9.2.1.2.2 0).1 (by omega)
      have f2 := rw9.2.1.2.1 0
      have g1 := (wt.2.2 0).1 (by omega)
      have g2 := wt.2.1 0
      have y2 : dr i = false := Bool.eq_false_iff.mpr y
      rw [if_pos ⟨z, y2⟩] at e
      rw [(L.2 (t + 8) (8 * o + i) (fun z => by have z : t + 8 = 30 := z; omega)).2, r.2.2 (by omega)]
      refine p_letterAt (i := 0) T wt.2.1 (by decide) ⟨rfl, rfl, _, rfl, w_in (by omega) (by omega), fun M5 e5 => ?_⟩
      rw [w_nat (by omega)] at e5
      have L5 : lip c30 M M5 := by rw [e5]; exact lip_setI rfl
      rw [w_add1]
      refine p_folds_b ht Rw R hd p9 hq c (i + 1) _ M5 (by omega) (lip_T L5 T) (lip_trans L L5) (phG_set G f1 g1 g2) (fun a ha => ?_) e
      rw [e5]
      by_cases q : a = fg i 0
      · rw [q, I_eq, setF_eq]
      · rw [I_ne (by omega), setF_ne q]; exact c1 a ha
theorem p_folds_a {d t o n : Nat} {k fl : Nat → Nat} {fg : Nat → Nat → Nat} {tl : Nat → Nat} {tg : Nat → Nat → Nat} {dr : Nat → Bool} {M0 : mx_M} {Q : QQ} (ht : mx_Cat t) (Rw : rlW n k fl fg tl tg) (R : rlC M0 t o n k fg tg) (hd : ∀ i, i < 8 → (w i = mx_I M0 24 6 ↔ dr i = true))
    (hq : ∀ M1, lip c30 M0 M1 → phG (fmF k fg tg dr 0 n (fun a => a)) → (∀ a, a < 32 → mx_I M1 30 a = w (fmF k fg tg dr 0 n (fun a => a) a)) → Q (.inl none) M1) :
    ∀ (c i : Nat) (M : mx_M), i + c = 32 → mx_Tp M → lip c30 M0 M → (∀ a, a < i → mx_I M 30 a = w a) → mx_W m_X3_learnFolds (d + 1) 2 [.ref 24, .ref t, .int (w o), .int (w i), .retAddr 0] [] M Q
  | 0, i, M, hi, T, L, c1 => by
    refine x_X3_learnFolds_2 T t ht _ _ ⟨fun _ => ?_, fun h => absurd ?_ h⟩
    · exact p_folds_b ht Rw R hd _ hq n 0 (fun a => a) M (Nat.zero_add n) T L ⟨rfl, fun a ha => ⟨ha, fun h => h⟩⟩ (fun a ha => c1 a (by omega)) rfl
    · rw [show (32 : Int32) = w 32 from rfl, w_le (by omega) (by omega)]; omega
  | c + 1, i, M, hi, T, L, c1 => by
    refine x_X3_learnFolds_2 T t ht _ _ ⟨fun h => ?_, fun _ => ⟨w_in (by omega) (by omega), fun M1 e1 => ?_⟩⟩
    · rw [show (32 : Int32) = w 32 from rfl, w_le (by omega) (by omega)] at h; omega
    · rw [w_nat (by omega)] at e1
      have L1 : lip c30 M M1 := by rw [e1]; exact lip_setI rfl
      rw [w_add1]
      refine p_folds_a ht Rw R hd hq c (i + 1) M1 (by omega) (lip_T L1 T) (lip_trans L L1) (fun a ha => ?_)
      rw [e1]
      by_cases q : a = i
      · rw [q]; exact I_eq
      · rw [I_ne (by omega)]; exact c1 a (by omega)
theorem p_learnFolds {d t o n : Nat} {k fl : Nat → Nat} {fg : Nat → Nat → Nat} {tl : Nat → Nat} {tg : Nat → Nat → Nat} {dr : Nat → Bool} {M : mx_M} {Q : QQ} (T : mx_Tp M) (ht : mx_Cat t) (Rw : rlW n k fl fg tl tg) (R : rlC M t o n k fg tg) (hd : ∀ i, i < 8 → (w i = mx_I M 24 6 ↔ dr i = true))
    (hq : ∀ M1, lip c30 M M1 → phG (fmF k fg tg dr 0 n (fun a => a)) → (∀ a, a < 32 → mx_I M1 30 a = w (fmF k fg tg dr 0 n (fun a => a) a)) → Q (.inl none) M1) : mx_W m_X3_learnFolds (d + 1) 0 [.ref 24, .ref t, .int (w o), .retAddr 0, .retAddr 0] [] M Q :=
  x_X3_learnFolds_0 T t ht _ (p_folds_a ht Rw R hd hq 32 0 M rfl T (lip_refl _ _) (fun a ha => by omega))
theorem p_folded_l {d : Nat} {p g : Nat → Nat} {M : mx_M} {Q : QQ} (T : mx_Tp M) (hg : ∀ i, g i < 32) (G : phG p) (c1 : ∀ a, a < 32 → mx_I M 30 a = w (p a)) (hq : Q (.inl (some (.long (u64 (nm (fun i => p (g i)) 8))))) M) :
    ∀ (c i : Nat), i + c = 8 → mx_W m_X3_folded (d + 1) 5 [.ref 24, .long (u64 (nm g 8)), .retAddr 0, .long (u64 (nm (fun i => p (g i)) i * 32 ^ (8 - i))), .retAddr 0, .int (w i)] [] M Q
  | 0, i, hi => by
    have e : i = 8 := by omega
    subst e
    refine x_X3_folded_5 T _ _ _ ⟨fun _ => ?_, fun h => absurd ?_ h⟩
    · rw [Nat.sub_self, Nat.pow_zero, Nat.mul_one]; exact hq
    · decide
  | c + 1, i, hi => by
    have ga := hg i
    refine x_X3_folded_5 T _ _ _ ⟨fun h => ?_, fun _ => p_letterAt T hg (by omega) ⟨rfl, rfl, _, rfl, w_in (by omega) (by omega), ?_⟩⟩
    · rw [show (8 : Int32) = w 8 from rfl, w_le (by omega) (by omega)] at h; omega
    · rw [w_nat (by omega), c1 _ ga]
      refine p_withLetter (g := fun i => p (g i)) T (fun j => (G.2 _ (hg j)).1) (by omega) ⟨rfl, rfl, _, rfl, ?_⟩
      rw [w_add1]
      exact p_folded_l T hg G c1 hq c (i + 1) (by omega)
theorem p_folded {d : Nat} {p g : Nat → Nat} {M : mx_M} {Q : QQ} (T : mx_Tp M) (hg : ∀ i, g i < 32) (G : phG p) (c1 : ∀ a, a < 32 → mx_I M 30 a = w (p a)) (hq : Q (.inl (some (.long (u64 (nm (fun i => p (g i)) 8))))) M) : mx_W m_X3_folded (d + 1) 0 [.ref 24, .long (u64 (nm g 8)), .retAddr 0, .retAddr 0, .retAddr 0, .retAddr 0] [] M Q := by
  have H := p_folded_l (d := d) T hg G c1 hq 8 0 rfl
  rw [show nm (fun i => p (g i)) 0 * 32 ^ (8 - 0) = 0 from Nat.zero_mul _] at H
  exact x_X3_folded_0 T _ H
theorem wrd_fold {l : Nat} {p g : Nat → Nat} (W : wrd l g) (G : phG p) : wrd l (fun i => p (g i)) :=
  ⟨W.1, fun i => (G.2 _ (W.2.1 i)).1, fun i => ⟨fun h => (G.2 _ (W.2.1 i)).2 ((W.2.2 i).1 h), fun h => by show p (g i) = 0; rw [(W.2.2 i).2 h]; exact G.1⟩⟩
/-- a word as a clerk spells it: its length and its letters -/
def spL (n : Nat) (k : Nat → Nat) (fg : Nat → Nat → Nat) (tl : Nat → Nat) (dr : Nat → Bool) (l : Nat) (g : Nat → Nat) : Nat := if rkF n k fg dr 1 (nm g 8) < n then tl (rkF n k fg dr 1 (nm g 8)) else l
def spG (n : Nat) (k : Nat → Nat) (fg tg : Nat → Nat → Nat) (dr : Nat → Bool) (g : Nat → Nat) : Nat → Nat := if rkF n k fg dr 1 (nm g 8) < n then tg (rkF n k fg dr 1 (nm g 8)) else g
theorem rkF_so {n kd c : Nat} {k : Nat → Nat} {fg : Nat → Nat → Nat} {dr : Nat → Bool} (h : rkF n k fg dr kd c < n) : k (rkF n k fg dr kd c) = kd ∧ nm (fg (rkF n k fg dr kd c)) 8 = c ∧ dr (rkF n k fg dr kd c) = false := by
  have a := fnd_so (fun i => mtF k fg kd c i && !dr i) 0 n (by unfold rkF at h; omega)
  have a : (mtF k fg kd c (rkF n k fg dr kd c) && !dr (rkF n k fg dr kd c)) = true := a
  rw [Bool.and_eq_true] at a
  unfold mtF at a
  rw [Bool.and_eq_true, decide_eq_true_iff, decide_eq_true_iff] at a
  exact ⟨a.1.1, a.1.2, Bool.eq_false_iff.mpr (fun h => by rw [h] at a; exact absurd a.2 (by decide))⟩
theorem wrd_sp {n l : Nat} {k fl : Nat → Nat} {fg : Nat → Nat → Nat} {tl : Nat → Nat} {tg : Nat → Nat → Nat} {dr : Nat → Bool} {g : Nat → Nat} (Rw : rlW n k fl fg tl tg) (W : wrd l g) : wrd (spL n k fg tl dr l g) (spG n k fg tg dr g) := by
  unfold spL spG
  by_cases h : rkF n k fg dr 1 (nm g 8) < n
  · rw [if_pos h, if_pos h]
    exact (Rw.2.1 _ h).2.2.1 (by rw [(rkF_so h).1]; decide)
  · rw [if_neg h, if_neg h]; exact W
/-! the reference's -/
theorem q_match {n kd i l : Nat} {k fl : Nat → Nat} {fg : Nat → Nat → Nat} {tl : Nat → Nat} {tg : Nat → Nat → Nat} {g : Nat → Nat} (Rw : rlW n k fl fg tl tg) (hi : i < n) (W : wrd l g) : nm (fg i) (fl i) = nm g l ↔ nm (fg i) 8 = nm g 8 := by
  have s := wrd_same (Rw.2.1 i hi).2.1 W
  rw [s.1, s.2]
theorem q_spelled_l {d o n l : Nat} {bw : Int32} {k fl : Nat → Nat} {fg : Nat → Nat → Nat} {tl : Nat → Nat} {tg : Nat → Nat → Nat} {dr : Nat → Bool} {g : Nat → Nat} {M : mx_M} {Q : QQ} (T : mx_Tp M) (R : rlM M o n k fl fg tl tg) (Rw : rlW n k fl fg tl tg) (W : wrd l g) (hd : ∀ i, i < 8 → (w i = bw ↔ dr i = true))
    (hq : Q (.inl (some (.long (u64 (nm (spG n k fg tg dr g) (spL n k fg tl dr l g)))))) M) :
    ∀ (c i : Nat), i + c = n → fnd (fun i => mtF k fg 1 (nm g 8) i && !dr i) i c = rkF n k fg dr 1 (nm g 8) → mx_W m_X11_spelledBy d 3 [.ref 58, .int (w o), .int bw, .long (u64 (nm g l)), .retAddr 0, .int (w i)] [] M Q
  | 0, i, hi, e => by
    have h1 := R.1
    have h2 := Rw.1
    unfold spL spG at hq
    have e : i = rkF n k fg dr 1 (nm g 8) := e
    rw [if_neg (by omega), if_neg (by omega)] at hq
    refine x_X11_spelledBy_3 T _ _ _ _ ?_
    rw [w_nat (n := o) (by omega), R.2.1]
    refine ⟨w_in (by omega) (by omega), fun _ => hq, fun h => absurd ?_ h⟩
    rw [w_le (by omega) (by omega)]; omega
  | c + 1, i, hi, e => by
    have h1 := R.1
    have h2 := Rw.1
    have r := R.2.2 i (by omega)
    have rw9 := Rw.2.1 i (by omega)
    have a1 := nm_40 rw9.2.1.2.1 (m := fl i) (by have := rw9.2.1.1; omega)
    have a2 := nm_40 W.2.1 (m := l) (by have := W.1; omega)
    have no : ¬ (mtF k fg 1 (nm g 8) i && !dr i) = true → mx_W m_X11_spelledBy d 3 [.ref 58, .int (w o), .int bw, .long (u64 (nm g l)), .retAddr 0, .int (w i + 1)] [] M Q := by
      intro z
      rw [fnd_next z] at e
      rw [w_add1]
      exact q_spelled_l T R Rw W hd hq c (i + 1) (by omega) e
    refine x_X11_spelledBy_3 T _ _ _ _ ?_
    rw [w_nat (n := o) (by omega), R.2.1, w_8, w_nat (n := 8 * o + i) (by omega), r.1, r.2.1, u_inj (by omega) (by omega), q_match (kd := 1) Rw (by omega) W, show (1 : Int32) = w 1 from rfl, w_inj (by omega) (by omega), hd i (by omega)]
    refine ⟨w_in (by omega) (by omega), fun h => ?_, fun _ => ⟨fun z => no ?_, fun z => ⟨w_in (by omega) (by omega), fun y => no ?_, fun y => ⟨w_in (by omega) (by omega), fun x => no ?_, fun x => ⟨w_in (by omega) (by omega), ?_⟩⟩⟩⟩⟩
    · rw [w_le (by omega) (by omega)] at h; omega
    · rw [z, Bool.not_true, Bool.and_false]; decide
    · unfold mtF; rw [decide_eq_false y, Bool.false_and, Bool.false_and]; decide
    · unfold mtF; rw [decide_eq_false x, Bool.and_false, Bool.false_and]; decide
    · have z2 : dr i = false := Bool.eq_false_iff.mpr z
      rw [fnd_stop (by unfold mtF; rw [decide_eq_true y, decide_eq_true x, z2]; rfl)] at e
      unfold spL spG at hq
      rw [if_pos (by omega), if_pos (by omega), ← e] at hq
      rw [r.2.2 (by omega)]
      exact hq
theorem q_spelled {d o n l : Nat} {bw : Int32} {k fl : Nat → Nat} {fg : Nat → Nat → Nat} {tl : Nat → Nat} {tg : Nat → Nat → Nat} {dr : Nat → Bool} {g : Nat → Nat} {M : mx_M} {Q : QQ} (T : mx_Tp M) (R : rlM M o n k fl fg tl tg) (Rw : rlW n k fl fg tl tg) (W : wrd l g) (hd : ∀ i, i < 8 → (w i = bw ↔ dr i = true))
    (hq : Q (.inl (some (.long (u64 (nm (spG n k fg tg dr g) (spL n k fg tl dr l g)))))) M) : mx_W m_X11_spelledBy d 0 [.ref 58, .int (w o), .int bw, .long (u64 (nm g l)), .retAddr 0, .retAddr 0] [] M Q :=
  x_X11_spelledBy_0 T _ _ _ (q_spelled_l T R Rw W hd hq n 0 (Nat.zero_add n) rfl)
theorem q_skipped_l {d o n l : Nat} {bw : Int32} {k fl : Nat → Nat} {fg : Nat → Nat → Nat} {tl : Nat → Nat} {tg : Nat → Nat → Nat} {dr : Nat → Bool} {g : Nat → Nat} {M : mx_M} {Q : QQ} (T : mx_Tp M) (R : rlM M o n k fl fg tl tg) (Rw : rlW n k fl fg tl tg) (W : wrd l g) (hd : ∀ i, i < 8 → (w i = bw ↔ dr i = true)) :
    ∀ (c i : Nat), i + c = n → Q (.inl (some (.int (mx_b (decide (fnd (fun i => mtF k fg 0 (nm g 8) i && !dr i) i c < n))))) ) M → mx_W m_X11_isSkipped d 3 [.ref 58, .int (w o), .int bw, .long (u64 (nm g l)), .retAddr 0, .int (w i)] [] M Q
  | 0, i, hi, hq => by
    have h1 := R.1
    have h2 := Rw.1
    rw [decide_eq_false (by unfold fnd; omega)] at hq
    refine x_X11_isSkipped_3 T _ _ _ _ ?_
    rw [w_nat (n := o) (by omega), R.2.1]
    refine ⟨w_in (by omega) (by omega), fun _ => hq, fun h => absurd ?_ h⟩
    rw [w_le (by omega) (by omega)]; omega
  | c + 1, i, hi, hq => by
    have h1 := R.1
    have h2 := Rw.1
    have r := R.2.2 i (by omega)
    have rw9 := Rw.2.1 i (by omega)
    have a1 := nm_40 rw9.2.1.2.1 (m := fl i) (by have := rw9.2.1.1; omega)
    have a2 := nm_40 W.2.1 (m := l) (by have := W.1; omega)
    have no : ¬ (mtF k fg 0 (nm g 8) i && !dr i) = true → mx_W m_X11_isSkipped d 3 [.ref 58, .int (w o), .int bw, .long (u64 (nm g l)), .retAddr 0, .int (w i + 1)] [] M Q := by
      intro z
      rw [fnd_next z] at hq
      rw [w_add1]
      exact q_skipped_l T R Rw W hd c (i + 1) (by omega) hq
    refine x_X11_isSkipped_3 T _ _ _ _ ?_
    rw [w_nat (n := o) (by omega), R.2.1, w_8, w_nat (n := 8 * o + i) (by omega), r.1, r.2.1, u_inj (by omega) (by omega), q_match (kd := 0) Rw (by omega) W, w_eq0 (by omega), hd i (by omega)]
    refine ⟨w_in (by omega) (by omega), fun h => ?_, fun _ => ⟨fun z => no ?_, fun z => ⟨w_in (by omega) (by omega), fun y => no ?_, fun y => ⟨w_in (by omega) (by omega), fun x => no ?_, fun x => ?_⟩⟩⟩⟩
    · rw [w_le (by omega) (by omega)] at h; omega
    · rw [z, Bool.not_true, Bool.and_false]; decide
    · unfold mtF; rw [decide_eq_false y, Bool.false_and, Bool.false_and]; decide
    · unfold mtF; rw [decide_eq_false x, Bool.and_false, Bool.false_and]; decide
    · have z2 : dr i = false := Bool.eq_false_iff.mpr z
      rw [fnd_stop (by unfold mtF; rw [decide_eq_true y, decide_eq_true x, z2]; rfl), decide_eq_true (by omega)] at hq
      exact hq
/-- is passed over -/
def skF (n : Nat) (k : Nat → Nat) (fg : Nat → Nat → Nat) (dr : Nat → Bool) (g : Nat → Nat) : Bool := decide (rkF n k fg dr 0 (nm g 8) < n)
theorem q_skipped {d o n l : Nat} {bw : Int32} {k fl : Nat → Nat} {fg : Nat → Nat → Nat} {tl : Nat → Nat} {tg : Nat → Nat → Nat} {dr : Nat → Bool} {g : Nat → Nat} {M : mx_M} {Q : QQ} (T : mx_Tp M) (R : rlM M o n k fl fg tl tg) (Rw : rlW n k fl fg tl tg) (W : wrd l g) (hd : ∀ i, i < 8 → (w i = bw ↔ dr i = true))
    (hq : Q (.inl (some (.int (mx_b (skF n k fg dr g))))) M) : mx_W m_X11_isSkipped d 0 [.ref 58, .int (w o), .int bw, .long (u64 (nm g l)), .retAddr 0, .retAddr 0] [] M Q :=
  x_X11_isSkipped_0 T _ _ _ (q_skipped_l T R Rw W hd n 0 (Nat.zero_add n) hq)
theorem nm_1 (g : Nat → Nat) : nm g 1 = g 0 := by rw [nm, nm]; omega
theorem q_fold_i {d o n l j : Nat} {bw : Int32} {k fl : Nat → Nat} {fg : Nat → Nat → Nat} {tl : Nat → Nat} {tg : Nat → Nat → Nat} {dr : Nat → Bool} {g : Nat → Nat} {vv : Int64} {v8 : Int32} {M : mx_M} {Q : QQ} (T : mx_Tp M) (R : rlM M o n k fl fg tl tg) (Rw : rlW n k fl fg tl tg) (hg : ∀ i, g i < 32) (hd : ∀ i, i < 8 → (w i = bw ↔ dr i = true)) (a9 : Nat)
    (X : mx_W m_X11_foldedBy (d + 1) 15 [.ref 58, .int (w o), .int bw, .long (u64 (nm g l)), .retAddr 0, .long ((vv <<< ((5 : Int32).toInt64 &&& 63)) ||| u64 a9), .retAddr 0, .retAddr 0, .int (v8 + (-1)), .retAddr 0, .retAddr 0, .retAddr 0, .retAddr 0, .retAddr 0] [] M Q) :
    ∀ (c i : Nat) (p : Nat → Nat), i + c = n → fmF k fg tg dr i c p (g j) = a9 → mx_W m_X11_foldedBy (d + 1) 39 [.ref 58, .int (w o), .int bw, .long (u64 (nm g l)), .retAddr 0, .long vv, .retAddr 0, .retAddr 0, .int v8, .long (u64 (g j)), .retAddr 0, .long (u64 (p (g j))), .retAddr 0, .int (w i)] [] M Q
  | 0, i, p, hi, e => by
    have h1 := R.1
    have h2 := Rw.1
    have e : p (g j) = a9 := e
    rw [← e] at X
    refine x_X11_foldedBy_39 T _ _ _ _ _ _ _ _ ?_
    rw [w_nat (n := o) (by omega), R.2.1]
    refine ⟨w_in (by omega) (by omega), fun _ => X, fun h => absurd ?_ h⟩
    rw [w_le (by omega) (by omega)]; omega
  | c + 1, i, p, hi, e => by
    have h1 := R.1
    have h2 := Rw.1
    have r := R.2.2 i (by omega)
    have rw9 := Rw.2.1 i (by omega)
    have a1 := nm_40 rw9.2.1.2.1 (m := fl i) (by have := rw9.2.1.1; omega)
    have a2 := hg j
    rw [fmF] at e
    have no : ¬ (k i = 2 ∧ dr i = false) → mx_W m_X11_foldedBy (d + 1) 39 [.ref 58, .int (w o), .int bw, .long (u64 (nm g l)), .retAddr 0, .long vv, .retAddr 0, .retAddr 0, .int v8, .long (u64 (g j)), .retAddr 0, .long (u64 (p (g j))), .retAddr 0, .int (w i + 1)] [] M Q := by
      intro z
      rw [if_neg z] at e
      rw [w_add1]
      exact q_fold_i T R Rw hg hd a9 X c (i + 1) p (by omega) e
    refine x_X11_foldedBy_39 T _ _ _ _ _ _ _ _ ?_
    rw [w_nat (n := o) (by omega), R.2.1, w_8, w_nat (n := 8 * o + i) (by omega), r.1, r.2.1, u_inj (by omega) (by omega), show (2 : Int32) = w 2 from rfl, w_inj (by omega) (by omega), hd i (by omega)]
    refine ⟨w_in (by omega) (by omega), fun h => ?_, fun _ => ⟨fun z => no ?_, fun z => ⟨w_in (by omega) (by omega), fun y => no (fun q => y q.1), fun y => ?_⟩⟩⟩
    · rw [w_le (by omega) (by omega)] at h; omega
    · rw [z]; intro q; exact absurd q.2 (by decide)
    · have z2 : dr i = false := Bool.eq_false_iff.mpr z
      have one := rw9.2.2.2 y
      rw [if_pos ⟨y, z2⟩] at e
      rw [one.1, nm_1]
      have rec9 := q_fold_i (d := d) (vv := vv) (v8 := v8) T R Rw hg hd a9 X c (i + 1) (setF p (fg i 0) (tg i 0)) (by omega) e
      refine ⟨w_in (by omega) (by omega), fun x => ?_, fun x => ⟨w_in (by omega) (by omega), ?_⟩⟩
      · rw [setF_ne (fun q => x q.symm)] at rec9
        rw [w_add1]; exact rec9
      · rw [← x, setF_eq] at rec9
        rw [r.2.2 (by omega), one.2, nm_1, w_add1, ← x]
        exact rec9
theorem u_5i {i : Nat} (hi : i < 8) : (5 * w i).toInt64 &&& 63 = u64 (5 * i) := by
  have : ∀ i, i < 8 → (5 * Int32.ofNat i).toInt64 &&& 63 = Int64.ofNat (5 * i) := by decide
  exact this i hi
theorem q_fold_o {d o n l : Nat} {bw : Int32} {k fl : Nat → Nat} {fg : Nat → Nat → Nat} {tl : Nat → Nat} {tg : Nat → Nat → Nat} {dr : Nat → Bool} {g p : Nat → Nat} {M : mx_M} {Q : QQ} (T : mx_Tp M) (R : rlM M o n k fl fg tl tg) (Rw : rlW n k fl fg tl tg) (W : wrd l g) (hd : ∀ i, i < 8 → (w i = bw ↔ dr i = true)) (hp : fmF k fg tg dr 0 n (fun a => a) = p) (G : phG p)
    (hq : Q (.inl (some (.long (u64 (nm (fun i => p (g i)) l))))) M) :
    ∀ (c j : Nat), j + c = l → mx_W m_X11_foldedBy (d + 1) 15 [.ref 58, .int (w o), .int bw, .long (u64 (nm g l)), .retAddr 0, .long (u64 (nm (fun i => p (g i)) j)), .retAddr 0, .retAddr 0, .int (w c - 1), .retAddr 0, .retAddr 0, .retAddr 0, .retAddr 0, .retAddr 0] [] M Q
  | 0, j, hj => by
    refine x_X11_foldedBy_15 T _ _ _ _ _ ⟨fun _ => ?_, fun h => absurd ?_ h⟩
    · rw [show j = l by omega] ; exact hq
    · decide
  | c + 1, j, hj => by
    have hl := W.1
    have a2 := nm_40 W.2.1 (m := l) (by omega)
    have gj := W.2.1 j
    have pj := (G.2 _ gj).1
    have hf : ∀ i, (fun i => p (g i)) i < 32 := fun i => (G.2 _ (W.2.1 i)).1
    have a3 := nm_40 hf (m := j) (by omega)
    have e1 : w (c + 1) - 1 = w c := w_sub (a := c + 1) (b := 1) (by omega)
    have ea : nm g l / 2 ^ (5 * c) % 32 = g j := by
      have a := nm_at W.2.1 (i := j) (k := c)
      rw [show j + 1 + c = l by omega, show 32 ^ c = 2 ^ (5 * c) by rw [show (32 : Nat) = 2 ^ 5 from rfl, ← Nat.pow_mul]] at a
      exact a
    have hle : nm g l / 2 ^ (5 * c) ≤ nm g l := Nat.div_le_self _ _
    refine x_X11_foldedBy_15 T _ _ _ _ _ ⟨fun h => ?_, fun _ => ?_⟩
    · rw [e1] at h; exact absurd h (w_pos (by omega))
    · rw [e1, u_5i (by omega), u_sar (by omega) (by omega), u_and31 (by omega), ea]
      refine q_fold_i (j := j) T R Rw W.2.1 hd (p (g j)) ?_ n 0 (fun a => a) (Nat.zero_add n) (by rw [hp])
      rw [u_shl5 (by omega) pj, w_m1]
      exact q_fold_o T R Rw W hd hp G hq c (j + 1) (by omega)
theorem q_folded {d o n l : Nat} {bw : Int32} {k fl : Nat → Nat} {fg : Nat → Nat → Nat} {tl : Nat → Nat} {tg : Nat → Nat → Nat} {dr : Nat → Bool} {g p : Nat → Nat} {M : mx_M} {Q : QQ} (T : mx_Tp M) (R : rlM M o n k fl fg tl tg) (Rw : rlW n k fl fg tl tg) (W : wrd l g) (hd : ∀ i, i < 8 → (w i = bw ↔ dr i = true)) (hp : fmF k fg tg dr 0 n (fun a => a) = p) (G : phG p)
    (hq : Q (.inl (some (.long (u64 (nm (fun i => p (g i)) l))))) M) : mx_W m_X11_foldedBy (d + 1) 0 [.ref 58, .int (w o), .int bw, .long (u64 (nm g l)), .retAddr 0, .retAddr 0, .retAddr 0, .retAddr 0, .retAddr 0, .retAddr 0, .retAddr 0, .retAddr 0, .retAddr 0, .retAddr 0] [] M Q :=
  x_X11_foldedBy_0 T _ _ _ (q_longOf T W ⟨rfl, rfl, _, rfl, q_fold_o T R Rw W hd hp G hq l 0 (Nat.zero_add l)⟩)
