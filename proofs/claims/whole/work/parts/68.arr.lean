/-! the class arranges an order -/
abbrev c29 : Nat → Nat → Prop := fun k _ => k = 29
theorem rlC_lip {P : Nat → Nat → Prop} {M M1 : mx_M} {t o n : Nat} {k : Nat → Nat} {fg tg : Nat → Nat → Nat} (ht : mx_Cat t) (L : lip P M M1) (hP : ∀ a j, P a j → 24 ≤ a ∧ a ≤ 30) (R : rlC M t o n k fg tg) : rlC M1 t o n k fg tg := by
  have h11 : t = 11 ∨ t = 45 := ht
  have f : ∀ a j, ¬ (24 ≤ a ∧ a ≤ 30) → mx_I M1 a j = mx_I M a j ∧ mx_J M1 a j = mx_J M a j := fun a j h => L.2 a j (fun z => h (hP _ _ z))
  refine ⟨R.1, by rw [(f (t + 5) o (by omega)).1]; exact R.2.1, fun i hi => ?_⟩
  rw [(f (t + 6) _ (by omega)).1, (f (t + 7) _ (by omega)).2, (f (t + 8) _ (by omega)).2]
  exact R.2.2 i hi
theorem cdC_lip {P : Nat → Nat → Prop} {M M1 : mx_M} {t N : Nat} {yr wn : Nat → Nat} {hl : Nat → Nat → Nat} {hg : Nat → Nat → Nat → Nat} (ht : mx_Cat t) (L : lip P M M1) (hP : ∀ a j, P a j → 24 ≤ a ∧ a ≤ 30) (C : cdC M t N yr wn hl hg) : cdC M1 t N yr wn hl hg := by
  have h11 : t = 11 ∨ t = 45 := ht
  have f : ∀ a j, ¬ (24 ≤ a ∧ a ≤ 30) → mx_I M1 a j = mx_I M a j ∧ mx_J M1 a j = mx_J M a j := fun a j h => L.2 a j (fun z => h (hP _ _ z))
  intro x hx
  have c := C x hx
  rw [(f (t + 1) _ (by omega)).1, (f (t + 2) _ (by omega)).1, (f (t + 3) _ (by omega)).1]
  exact ⟨c.1, c.2.1, c.2.2.1, c.2.2.2.1, fun i hi => by rw [(f (t + 4) _ (by omega)).2]; exact c.2.2.2.2 i hi⟩
theorem p_head_l2 {d t o n N x : Nat} {k fl : Nat → Nat} {fg : Nat → Nat → Nat} {tl : Nat → Nat} {tg : Nat → Nat → Nat} {dr : Nat → Bool} {yr wn : Nat → Nat} {hl : Nat → Nat → Nat} {hg : Nat → Nat → Nat → Nat} {p : Nat → Nat} {M0 : mx_M} {Q : QQ} (ht : mx_Cat t) (hN : N ≤ 10) (hx : x < N) (R : rlC M0 t o n k fg tg) (Rw : rlW n k fl fg tl tg) (hd : ∀ i, i < 8 → (w i = mx_I M0 24 6 ↔ dr i = true)) (C : cdC M0 t N yr wn hl hg) (G : phG p) (c30' : ∀ a, a < 32 → mx_I M0 30 a = w (p a))
    (hq : ∀ M1, lip c29 M0 M1 → sdC M1 (wn x) (fun i j => p (spG n k fg tg dr (hg x i) j)) → Q (.inl none) M1) :
    ∀ (c i : Nat) (M : mx_M), i + c = wn x → mx_Tp M → lip c29 M0 M → sdC M i (fun i j => p (spG n k fg tg dr (hg x i) j)) → mx_W m_X3_readHeading (d + 1 + 1) 3 [.ref 24, .ref t, .int (w o), .int (w x), .int (w i), .retAddr 0, .retAddr 0, .retAddr 0] [] M Q
  | 0, i, M, hi, T, L, S => by
    have cx := (cdC_lip ht L (fun a j h => by have h : a = 29 := h; omega) C) x hx
    refine x_X3_readHeading_3 T t ht _ _ _ ?_
    rw [w_nat (n := x) (by omega), cx.2.1]
    refine ⟨w_in (by omega) (by omega), fun _ => ?_, fun h => absurd ?_ h⟩
    · rw [show i = wn x by omega] at S; exact hq M L S
    · rw [w_le (by omega) (by omega)]; omega
  | c + 1, i, M, hi, T, L, S => by
    have hP : ∀ a j, c29 a j → 24 ≤ a ∧ a ≤ 30 := fun a j h => by have h : a = 29 := h; omega
    have cx := (cdC_lip ht L hP C) x hx
    have cw := cx.2.2.2.2 i (by omega)
    have RM := rlC_lip ht L hP R
    have h1 := R.1
    have h2 := Rw.1
    have hd2 : ∀ i, i < 8 → (w i = mx_I M 24 6 ↔ dr i = true) := fun i hi => by rw [(L.2 24 6 (fun z => by have z : 24 = 29 := z; omega)).1]; exact hd i hi
    have c3 : ∀ a, a < 32 → mx_I M 30 a = w (p a) := fun a ha => by rw [(L.2 30 a (fun z => by have z : 30 = 29 := z; omega)).1]; exact c30' a ha
    have nxt : ∀ g, g = spG n k fg tg dr (hg x i) → ∀ M5, M5 = mx_setJ M 29 i (u64 (nm (fun j => p (g j)) 8)) → mx_W m_X3_readHeading (d + 1 + 1) 3 [.ref 24, .ref t, .int (w o), .int (w x), .int (w i + 1), .retAddr 0, .retAddr 0, .retAddr 0] [] M5 Q := by
      intro g eg M5 e5
      have L5 : lip c29 M M5 := by rw [e5]; exact lip_setJ rfl
      rw [w_add1]
      refine p_head_l2 ht hN hx R Rw hd C G c30' hq c (i + 1) M5 (by omega) (lip_T L5 T) (lip_trans L L5) (fun q hq => ?_)
      rw [e5]
      by_cases y : q = i
      · rw [y, J_eq, eg]
      · rw [J_ne (by omega)]; exact S q (by omega)
    refine x_X3_readHeading_3 T t ht _ _ _ ?_
    rw [w_nat (n := x) (by omega), cx.2.1, w_x4, w_nat (n := 4 * x + i) (by omega), cw.1, w_nat (n := i) (by omega)]
    refine ⟨w_in (by omega) (by omega), fun h => ?_, fun _ => ⟨w_in (by omega) (by omega), p_ruleKept (kd := 1) T ht RM Rw (by decide) cw.2.2.1 hd2 ⟨rfl, rfl, _, rfl, fun y => ?_, fun y => ?_⟩⟩⟩
    · rw [w_le (by omega) (by omega)] at h; omega
    · rw [fz_none (by omega)] at y
      have hr : rkF n k fg dr 1 (nm (hg x i) 8) < n := by omega
      have so := rkF_so hr
      have hw := (Rw.2.1 _ hr).2.2.1 (by rw [so.1]; decide)
      rw [fz_lt hr, w_x8, w_nat (by omega), (RM.2.2 _ hr).2.2 (by rw [so.1]; decide)]
      refine ⟨w_in (by omega) (by omega), p_folded T hw.2.1 G c3 ⟨rfl, rfl, _, rfl, w_in (by omega) (by omega), nxt _ ?_⟩⟩
      unfold spG; rw [if_pos hr]
    · rw [fz_none (by omega)] at y
      refine p_folded T cw.2.2.1 G c3 ⟨rfl, rfl, _, rfl, w_in (by omega) (by omega), nxt _ ?_⟩
      unfold spG; rw [if_neg (by omega)]
/-- a key, as an order has it -/
def keyR (n : Nat) (k fl : Nat → Nat) (fg : Nat → Nat → Nat) (tl : Nat → Nat) (tg : Nat → Nat → Nat) (dr : Nat → Bool) (tn jn : Bool) (wn : Nat → Nat) (hl : Nat → Nat → Nat) (hg : Nat → Nat → Nat → Nat) (x : Nat) : KS :=
  keyF tn jn (wn x) (fun i => spL n k fg tl dr (hl x i) (hg x i)) (fun i j => fmF k fg tg dr 0 n (fun a => a) (spG n k fg tg dr (hg x i) j)) (ffF n k fg dr (wn x) (fun i j => fmF k fg tg dr 0 n (fun a => a) (spG n k fg tg dr (hg x i) j)))
/-- what arrange reads -/
def arC (M : mx_M) (t o N n : Nat) (k : Nat → Nat) (fg tg : Nat → Nat → Nat) (dr : Nat → Bool) (tn jn : Bool) (yr wn : Nat → Nat) (hl : Nat → Nat → Nat) (hg : Nat → Nat → Nat → Nat) (tv : Nat → Int32) : Prop := (mx_Tp M ∧ mx_I M t 12 = w N ∧ tiC M t o N tv) ∧ rlC M t o n k fg tg ∧ cdC M t N yr wn hl hg ∧ (∀ i, i < 8 → (w i = mx_I M 24 6 ↔ dr i = true)) ∧ mx_I M 24 7 = mx_b tn ∧ mx_I M 24 8 = mx_b jn
theorem arC_lip {P : Nat → Nat → Prop} {M M1 : mx_M} {t o N n : Nat} {k : Nat → Nat} {fg tg : Nat → Nat → Nat} {dr : Nat → Bool} {tn jn : Bool} {yr wn : Nat → Nat} {hl : Nat → Nat → Nat} {hg : Nat → Nat → Nat → Nat} {tv : Nat → Int32} (ht : mx_Cat t) (L : lip P M M1) (hP : ∀ a j, P a j → 25 ≤ a ∧ a ≤ 30) (A : arC M t o N n k fg tg dr tn jn yr wn hl hg tv) : arC M1 t o N n k fg tg dr tn jn yr wn hl hg tv := by
  have h11 : t = 11 ∨ t = 45 := ht
  have f : ∀ a j, ¬ (25 ≤ a ∧ a ≤ 30) → mx_I M1 a j = mx_I M a j := fun a j h => (L.2 a j (fun z => h (hP _ _ z))).1
  have hP2 : ∀ a j, P a j → 24 ≤ a ∧ a ≤ 30 := fun a j h => by have := hP a j h; omega
  refine ⟨⟨lip_T L A.1.1, by rw [f t 12 (by omega)]; exact A.1.2.1, ?_⟩, rlC_lip ht L hP2 A.2.1, cdC_lip ht L hP2 A.2.2.1, fun i hi => by rw [f 24 6 (by omega)]; exact A.2.2.2.1 i hi, by rw [f 24 7 (by omega)]; exact A.2.2.2.2.1, by rw [f 24 8 (by omega)]; exact A.2.2.2.2.2⟩
  rcases A.1.2.2 with ⟨a, b⟩ | ⟨a, b⟩
  · exact Or.inl ⟨by rw [f 24 9 (by omega)]; exact a, fun x hx => by rw [f (t + 1) x (by omega)]; exact b x hx⟩
  · exact Or.inr ⟨by rw [f 24 9 (by omega)]; exact a, fun x hx => by rw [f (t + 12) _ (by omega)]; exact b x hx⟩
/-- what arrange writes for the order z -/
abbrev cZ (z : Nat) : Nat → Nat → Prop := fun k j => k = 29 ∨ k = 30 ∨ (k = 26 ∧ 10 * z ≤ j ∧ j < 10 * z + 10) ∨ (k = 25 ∧ 350 * z ≤ j ∧ j < 350 * z + 350) ∨ ((k = 27 ∨ k = 28) ∧ 10 * z ≤ j ∧ j < 10 * z + 10)
theorem cZ_25 {z a j : Nat} (h : cZ z a j) : 25 ≤ a ∧ a ≤ 30 := by rcases h with h | h | h | h | h <;> omega
theorem p_arr_l {d t o z N n : Nat} {k fl : Nat → Nat} {fg : Nat → Nat → Nat} {tl : Nat → Nat} {tg : Nat → Nat → Nat} {dr : Nat → Bool} {tn jn : Bool} {yr wn : Nat → Nat} {hl : Nat → Nat → Nat} {hg : Nat → Nat → Nat → Nat} {tv : Nat → Int32} {M0 : mx_M} {Q : QQ} (ht : mx_Cat t) (hN : N ≤ 10) (hz : z < 5) (Rw : rlW n k fl fg tl tg) (G : phG (fmF k fg tg dr 0 n (fun a => a)))
    (hq : ∀ M1, arC M1 t o N n k fg tg dr tn jn yr wn hl hg tv → lip (cZ z) M0 M1 → (∀ x, x < N → slC M1 (10 * z + x) (keyR n k fl fg tl tg dr tn jn wn hl hg x).1 (keyR n k fl fg tl tg dr tn jn wn hl hg x).2) → ordC M1 z N (ordB (fun x => kcF (keyR n k fl fg tl tg dr tn jn wn hl hg x).1 (keyR n k fl fg tl tg dr tn jn wn hl hg x).2) tv) → Q (.inl none) M1) :
    ∀ (c x : Nat) (M : mx_M), x + c = N → arC M t o N n k fg tg dr tn jn yr wn hl hg tv → (∀ a, a < 32 → mx_I M 30 a = w (fmF k fg tg dr 0 n (fun a => a) a)) → lip (cZ z) M0 M → (∀ y, y < x → slC M (10 * z + y) (keyR n k fl fg tl tg dr tn jn wn hl hg y).1 (keyR n k fl fg tl tg dr tn jn wn hl hg y).2) → mx_W m_X3_arrange (d + 1 + 1 + 1 + 1 + 1) 9 [.ref 24, .ref t, .int (w o), .int (w z), .int (w x)] [] M Q
  | 0, x, M, hx, A, c3, L, S => by
    have e10 : w z * 10 = w (10 * z) := by rw [show (10 : Int32) = w 10 from rfl, w_mul, Nat.mul_comm]
    refine x_X3_arrange_9 A.1.1 t ht _ _ _ ⟨fun _ => ?_, fun h => absurd ?_ h⟩
    · rw [e10]
      refine p_rankAll ht hN hz A.2.1.1 ⟨A.1.1, A.1.2.1, A.1.2.2, fun y hy => S y (by omega)⟩ (fun M1 R1 L1 O1 => ⟨L1.1.1, L1.1.2.1, rfl, ?_⟩)
      have L1' : lip (cZ z) M M1 := lip_mono L1 (fun a j h => Or.inr (Or.inr (Or.inr (Or.inr h))))
      exact hq M1 (arC_lip ht L1' (fun a j h => cZ_25 h) A) (lip_trans L L1') R1.2.2.2 O1
    · rw [A.1.2.1, w_le (by omega) (by omega)]; omega
  | c + 1, x, M, hx, A, c3, L, S => by
    have cx := A.2.2.1 x (by omega)
    refine x_X3_arrange_9 A.1.1 t ht _ _ _ ⟨fun h => ?_, fun _ => x_X3_readHeading_0 A.1.1 t ht _ _ (p_head_l2 (p := fmF k fg tg dr 0 n (fun a => a)) ht hN (by omega) A.2.1 Rw A.2.2.2.1 A.2.2.1 G c3 (fun M1 L1 S1 => ⟨L1.1.1, L1.1.2.1, rfl, ?_⟩) (wn x) 0 M (Nat.zero_add _) A.1.1 (lip_refl _ _) (fun i hi => by omega))⟩
    · rw [A.1.2.1, w_le (by omega) (by omega)] at h; omega
    · have L1' : lip (cZ z) M M1 := lip_mono L1 (fun a j h => Or.inl h)
      have A1 := arC_lip ht L1' (fun a j h => cZ_25 h) A
      have cx1 := A1.2.2.1 x (by omega)
      refine x_X3_writeKey_0 A1.1.1 t ht _ _ _ ?_
      rw [w_x10, w_nat (n := x) (by omega), cx1.2.1]
      refine ⟨w_in (by omega) (by omega), p_key_f (sl := fun i => spL n k fg tl dr (hl x i) (hg x i)) A1.1.1 ht A1.2.1 Rw A1.2.2.2.1 cx.2.2.2.1.2 cx.2.2.2.1.1 (by omega) (fun i hi => wrd_fold (wrd_sp Rw (cx.2.2.2.2 i hi).2) G) A1.2.2.2.2.1 A1.2.2.2.2.2 S1 (fun M2 L2 A2 => ⟨L2.1.1, L2.1.2.1, rfl, ?_⟩) (wn x - 1) 0 (Nat.zero_add _) rfl⟩
      have L2' : lip (cZ z) M1 M2 := lip_mono L2 (fun a j h => by
        rcases h with h | h
        · exact Or.inr (Or.inr (Or.inl ⟨h.1, by omega, by omega⟩))
        · exact Or.inr (Or.inr (Or.inr (Or.inl ⟨h.1, by omega, by omega⟩))))
      rw [w_add1]
      refine p_arr_l ht hN hz Rw G hq c (x + 1) M2 (by omega) (arC_lip ht L2' (fun a j h => cZ_25 h) A1) (fun a ha => ?_) (lip_trans L (lip_trans L1' L2')) (fun y hy => ?_)
      · rw [(L2.2 30 a (fun h => by rcases h with h | h <;> omega)).1, (L1.2 30 a (fun h => by have h : 30 = 29 := h; omega)).1]; exact c3 a ha
      · by_cases e : y = x
        · rw [e]; exact A2
        · have s := S y (by omega)
          have f : ∀ a j, ¬ cW (10 * z + x) a j → ¬ a = 29 → mx_I M2 a j = mx_I M a j := fun a j h h2 => by
            rw [(L2.2 a j h).1, (L1.2 a j h2).1]
          refine ⟨s.1, s.2.1, ?_, fun i hi => ?_⟩
          · rw [f 26 _ (fun h => by rcases h with h | h <;> omega) (by decide)]; exact s.2.2.1
          · have := s.2.1
            rw [f 25 _ (fun h => by rcases h with h | h <;> omega) (by decide)]; exact s.2.2.2 i hi
theorem p_arrange {d t o z N n : Nat} {k fl : Nat → Nat} {fg : Nat → Nat → Nat} {tl : Nat → Nat} {tg : Nat → Nat → Nat} {dr : Nat → Bool} {tn jn : Bool} {yr wn : Nat → Nat} {hl : Nat → Nat → Nat} {hg : Nat → Nat → Nat → Nat} {tv : Nat → Int32} {M : mx_M} {Q : QQ} (ht : mx_Cat t) (hN : N ≤ 10) (hz : z < 5) (Rw : rlW n k fl fg tl tg) (A : arC M t o N n k fg tg dr tn jn yr wn hl hg tv)
    (hq : ∀ M1, arC M1 t o N n k fg tg dr tn jn yr wn hl hg tv → lip (cZ z) M M1 → (∀ x, x < N → slC M1 (10 * z + x) (keyR n k fl fg tl tg dr tn jn wn hl hg x).1 (keyR n k fl fg tl tg dr tn jn wn hl hg x).2) → ordC M1 z N (ordB (fun x => kcF (keyR n k fl fg tl tg dr tn jn wn hl hg x).1 (keyR n k fl fg tl tg dr tn jn wn hl hg x).2) tv) → Q (.inl none) M1) : mx_W m_X3_arrange (d + 1 + 1 + 1 + 1 + 1) 0 [.ref 24, .ref t, .int (w o), .int (w z), .retAddr 0] [] M Q :=
  x_X3_arrange_0 A.1.1 t ht _ _ (p_learnFolds A.1.1 ht Rw A.2.1 A.2.2.2.1 (fun M1 L1 G c3 => ⟨L1.1.1, L1.1.2.1, rfl, p_arr_l ht hN hz Rw G (fun M2 A2 L2 S2 O2 => hq M2 A2 (lip_trans (lip_mono L1 (fun a j h => Or.inr (Or.inl h))) L2) S2 O2) N 0 M1 (Nat.zero_add N) (arC_lip ht L1 (fun a j h => by have h : a = 30 := h; omega) A) c3 (lip_refl _ _) (fun y hy => by omega)⟩))
