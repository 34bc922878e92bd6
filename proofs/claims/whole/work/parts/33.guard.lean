/-! what is asked of an argument: below a number -/
/-- v is one of 0, .., n - 1 -/
def isIn (v : Int32) (n : Nat) : Prop := ∃ c, c < n ∧ v = w c
theorem isIn_of {v : Int32} {n : Nat} (hn : n < 2147483648) (h1 : ¬ v < 0) (h2 : v < w n) : isIn v n := by
  rw [Int32.lt_iff_toInt_lt, show (0 : Int32).toInt = 0 from rfl] at h1
  rw [Int32.lt_iff_toInt_lt, w_int hn] at h2
  refine ⟨v.toInt.toNat, by omega, ?_⟩
  rw [← Int32.toInt_inj, w_int (by omega)]
  omega
theorem isIn_neg {v : Int32} {n : Nat} (hn : n < 2147483648) (h : v < 0) : ¬ isIn v n := by
  rintro ⟨c, hc, rfl⟩
  exact w_pos (by omega) h
theorem isIn_big {v : Int32} {n : Nat} (hn : n < 2147483648) (h : ¬ v < w n) : ¬ isIn v n := by
  rintro ⟨c, hc, rfl⟩
  rw [w_lt (by omega) hn] at h
  omega
/-- room for one more exception -/
abbrev rmE (M : mx_M) : Prop := 1 ≤ (mx_rm M).1 ∧ 6 ≤ (mx_rm M).2
theorem p_needCard {d t N : Nat} {v : Int32} {M : mx_M} {Q : mx_O → mx_M → Prop} (T : mx_Tp M) (ht : mx_Cat t) (ht0 : mx_R M 1 10 = t) (hN : mx_I M t 12 = w N) (h10 : N ≤ 10) (hr : rmE M)
    (h1 : isIn v N → Q (.inl none) M) (h2 : ¬ isIn v N → Q (.inr "java/util/NoSuchElementException") (mx_thM M)) : mx_W m_X10_needCard d 0 [.ref 1, .int v] [] M Q := by
  refine x_X10_needCard_0 T t ht ht0 _ ?_
  rw [hN]
  exact ⟨fun h => ⟨hr.1, hr.2, h2 (isIn_neg (by omega) h)⟩, fun h => ⟨fun g => h1 (isIn_of (by omega) h g), fun g => ⟨hr.1, hr.2, h2 (isIn_big (by omega) g)⟩⟩⟩
theorem p_needClerk {d t N : Nat} {v : Int32} {M : mx_M} {Q : mx_O → mx_M → Prop} (T : mx_Tp M) (ht : mx_Cat t) (ht0 : mx_R M 1 10 = t) (hN : mx_I M t 13 = w N) (h10 : N ≤ 10) (hr : rmE M)
    (h1 : isIn v N → Q (.inl none) M) (h2 : ¬ isIn v N → Q (.inr "java/util/NoSuchElementException") (mx_thM M)) : mx_W m_X10_needClerk d 0 [.ref 1, .int v] [] M Q := by
  refine x_X10_needClerk_0 T t ht ht0 _ ?_
  rw [hN]
  exact ⟨fun h => ⟨hr.1, hr.2, h2 (isIn_neg (by omega) h)⟩, fun h => ⟨fun g => h1 (isIn_of (by omega) h g), fun g => ⟨hr.1, hr.2, h2 (isIn_big (by omega) g)⟩⟩⟩
theorem isIn_two {v : Int32} : isIn v 2 ↔ v = 0 ∨ v = 1 := by
  constructor
  · rintro ⟨c, hc, rfl⟩
    rcases (show c = 0 ∨ c = 1 by omega) with rfl | rfl
    · exact Or.inl rfl
    · exact Or.inr rfl
  · rintro (h | h)
    · exact ⟨0, by omega, h⟩
    · exact ⟨1, by omega, h⟩
theorem p_needZeroOrOne {d t : Nat} {v : Int32} {M : mx_M} {Q : mx_O → mx_M → Prop} (T : mx_Tp M) (ht : mx_Cat t) (ht0 : mx_R M 1 10 = t) (hr : rmE M)
    (h1 : isIn v 2 → Q (.inl none) M) (h2 : ¬ isIn v 2 → Q (.inr "java/util/NoSuchElementException") (mx_thM M)) : mx_W m_X10_needZeroOrOne d 0 [.int v] [] M Q :=
  x_X10_needZeroOrOne_0 T t ht ht0 _ ⟨fun h => h1 (isIn_two.mpr (Or.inl h)), fun h => ⟨fun g => h1 (isIn_two.mpr (Or.inr g)), fun g => ⟨hr.1, hr.2, h2 (fun z => (isIn_two.mp z).elim h g)⟩⟩⟩
/-! the reference: thrown is 0 as a call begins -/
theorem p_rightT {d : Nat} {e : Int32} {M : mx_M} {Q : mx_O → mx_M → Prop} (T : mx_Tp M) (h0 : mx_I M 58 0 = 0) (h1 : Q (.inl (some (.int (mx_b true)))) M) : mx_W m_X11_right d 0 [.ref 58, .int (mx_b true), .int e] [] M Q := by
  refine x_X11_right_0 T true _ ?_
  exact ⟨fun h => absurd h0 h, fun _ => ⟨fun _ => ⟨fun h => absurd h0 h, fun _ => h1⟩, fun h => by cases h⟩⟩
theorem p_rightF {d : Nat} {e : Int32} {M : mx_M} {Q : mx_O → mx_M → Prop} (T : mx_Tp M) (h0 : mx_I M 58 0 = 0) (he : ¬ e = 0) (h1 : Q (.inl (some (.int (mx_b false)))) (mx_setI M 58 0 e)) : mx_W m_X11_right d 0 [.ref 58, .int (mx_b false), .int e] [] M Q := by
  refine x_X11_right_0 T false _ ?_
  refine ⟨fun h => absurd h0 h, fun _ => ⟨fun h => (by cases h), fun _ M1 e1 => ?_⟩⟩
  subst e1
  rw [I_eq]
  exact ⟨fun _ => h1, fun h => absurd h he⟩
theorem p_isCard {d N : Nat} {v : Int32} {M : mx_M} {Q : mx_O → mx_M → Prop} (T : mx_Tp M) (h0 : mx_I M 58 0 = 0) (hN : mx_I M 58 1 = w N) (h10 : N ≤ 10)
    (h1 : isIn v N → Q (.inl (some (.int (mx_b true)))) M) (h2 : ¬ isIn v N → Q (.inl (some (.int (mx_b false)))) (mx_setI M 58 0 1)) : mx_W m_X11_isCard (d + 1) 0 [.ref 58, .int v] [] M Q := by
  refine x_X11_isCard_0 T _ ?_
  rw [hN]
  refine ⟨fun h => p_rightF T h0 (by decide) ⟨rfl, rfl, _, rfl, h2 (isIn_neg (by omega) h)⟩, fun h => ⟨fun g => p_rightF T h0 (by decide) ⟨rfl, rfl, _, rfl, h2 (isIn_big (by omega) (Int32.not_lt.mpr g))⟩, fun g => p_rightT T h0 ⟨rfl, rfl, _, rfl, h1 (isIn_of (by omega) h (Int32.not_le.mp g))⟩⟩⟩
theorem p_isClerk {d N : Nat} {v : Int32} {M : mx_M} {Q : mx_O → mx_M → Prop} (T : mx_Tp M) (h0 : mx_I M 58 0 = 0) (hN : mx_I M 58 2 = w N) (h10 : N ≤ 10)
    (h1 : isIn v N → Q (.inl (some (.int (mx_b true)))) M) (h2 : ¬ isIn v N → Q (.inl (some (.int (mx_b false)))) (mx_setI M 58 0 1)) : mx_W m_X11_isClerk (d + 1) 0 [.ref 58, .int v] [] M Q := by
  refine x_X11_isClerk_0 T _ ?_
  rw [hN]
  refine ⟨fun h => p_rightF T h0 (by decide) ⟨rfl, rfl, _, rfl, h2 (isIn_neg (by omega) h)⟩, fun h => ⟨fun g => p_rightF T h0 (by decide) ⟨rfl, rfl, _, rfl, h2 (isIn_big (by omega) (Int32.not_lt.mpr g))⟩, fun g => p_rightT T h0 ⟨rfl, rfl, _, rfl, h1 (isIn_of (by omega) h (Int32.not_le.mp g))⟩⟩⟩
theorem p_isWhat {d n : Nat} {v : Int32} {M : mx_M} {Q : mx_O → mx_M → Prop} (T : mx_Tp M) (h0 : mx_I M 58 0 = 0) (h10 : n ≤ 10)
    (h1 : isIn v (n + 1) → Q (.inl (some (.int (mx_b true)))) M) (h2 : ¬ isIn v (n + 1) → Q (.inl (some (.int (mx_b false)))) (mx_setI M 58 0 1)) : mx_W m_X11_isWhat (d + 1) 0 [.ref 58, .int v, .int (w n)] [] M Q := by
  have key : ¬ w n < v ↔ v < w (n + 1) := by
    rw [Int32.lt_iff_toInt_lt, Int32.lt_iff_toInt_lt, w_int (by omega), w_int (by omega)]
    omega
  refine x_X11_isWhat_0 T _ _ (x_X11_within_0 T _ _ _ ⟨fun h => ⟨rfl, rfl, false, rfl, p_rightF T h0 (by decide) ⟨rfl, rfl, _, rfl, h2 (isIn_neg (by omega) h)⟩⟩, fun h => ⟨fun g => ⟨rfl, rfl, false, rfl, p_rightF T h0 (by decide) ⟨rfl, rfl, _, rfl, h2 (isIn_big (by omega) (fun z => key.mpr z g))⟩⟩, fun g => ⟨rfl, rfl, true, rfl, p_rightT T h0 ⟨rfl, rfl, _, rfl, h1 (isIn_of (by omega) h (key.mp g))⟩⟩⟩⟩)
