/-! the class counts ties -/
/-- a step as the class has it -/
def clS2 (s : SP) : Int32 := if s.1 = 0 then w s.2 else if s.1 = 1 then -(w (s.2 + 1)) else -(w (s.2 + 2))
def stL (M : mx_M) : List SP → Nat → Prop
  | [], _ => True
  | s :: L, a => mx_I M 7 a = clS2 s ∧ stL M L (a + 1)
theorem stL_eq {M M1 : mx_M} (e : mx_I M1 7 = mx_I M 7) : ∀ (L : List SP) (a : Nat), stL M L a → stL M1 L a
  | [], _, _ => trivial
  | s :: L, a, h => ⟨by rw [e]; exact h.1, stL_eq e L (a + 1) h.2⟩
/-- the stack of height z.1 -/
def skC (M : mx_M) (z : SK) : Prop := mx_I M 6 5 = w z.1 ∧ ∀ i, i < z.1 → mx_I M 10 i = z.2 i
abbrev cP : Nat → Nat → Prop := fun k j => k = 10 ∨ (k = 6 ∧ j = 5)
theorem p_push {d : Nat} {v : Int32} {z : SK} {M : mx_M} {Q : QQ} (T : mx_Tp M) (A : skC M z) (hz : z.1 < 64) (hq : ∀ M1, lip cP M M1 → skC M1 (z.1 + 1, setG z.2 z.1 v) → Q (.inl none) M1) : mx_W m_X7_push d 0 [.ref 6, .int v] [] M Q := by
  refine x_X7_push_0 T _ ?_
  rw [A.1, show (64 : Int32) = w 64 from rfl, w_le (by omega) (by omega), w_nat (by omega)]
  refine ⟨fun h => by omega, fun _ => ⟨w_in (by omega) (by omega), fun M1 e1 M2 e2 => ?_⟩⟩
  have c : mx_I M1 6 5 = w z.1 := by rw [e1, I_ne (by omega)]; exact A.1
  rw [c, w_add1] at e2
  have L1 : lip cP M M1 := by rw [e1]; exact lip_setI (Or.inl rfl)
  have L2 : lip cP M1 M2 := by rw [e2]; exact lip_setI (Or.inr ⟨rfl, rfl⟩)
  refine hq M2 (lip_trans L1 L2) ⟨by rw [e2]; exact I_eq, fun i hi => ?_⟩
  have hi : i < z.1 + 1 := hi
  show mx_I M2 10 i = setG z.2 z.1 v i
  rw [e2, I_ne (by omega), e1]
  by_cases q : i = z.1
  · rw [q, I_eq, setG_eq]
  · rw [I_ne (by omega), setG_ne q]; exact A.2 i (by omega)
theorem p_pop {d : Nat} {z : SK} {M : mx_M} {Q : QQ} (T : mx_Tp M) (A : skC M z) (h1 : 1 ≤ z.1) (h2 : z.1 ≤ 64) (hq : ∀ M1, lip cP M M1 → skC M1 (z.1 - 1, z.2) → Q (.inl (some (.int (z.2 (z.1 - 1))))) M1) : mx_W m_X7_pop d 0 [.ref 6] [] M Q := by
  have e1 : w z.1 - 1 = w (z.1 - 1) := w_sub (a := z.1) (b := 1) h1
  refine x_X7_pop_0 T ?_
  rw [A.1, e1, w_eq0 (by omega)]
  refine ⟨fun _ => fun M1 e => ?_, fun y => by omega⟩
  have c : mx_I M1 6 5 = w (z.1 - 1) := by rw [e]; exact I_eq
  have L1 : lip cP M M1 := by rw [e]; exact lip_setI (Or.inr ⟨rfl, rfl⟩)
  have c2 : mx_I M1 10 (z.1 - 1) = z.2 (z.1 - 1) := by rw [e, I_ne (by omega)]; exact A.2 _ (by omega)
  rw [c, w_nat (by omega), c2]
  refine ⟨w_in (by omega) (by omega), hq M1 L1 ⟨c, fun i hi => ?_⟩⟩
  have hi : i < z.1 - 1 := hi
  rw [e, I_ne (by omega)]; exact A.2 i (by omega)
/-- the values of a card, as the class has them -/
def vlC (M : mx_M) (t x y k l : Nat) : Prop := mx_I M (t + 1) x = w y ∧ mx_I M (t + 2) x = w k ∧ mx_I M (t + 3) x = w l
theorem p_valueOf {d t x y k l j : Nat} {M : mx_M} {Q : QQ} (T : mx_Tp M) (ht : mx_Cat t) (hx : x < 10) (V : vlC M t x y k l) (hj : j < 4) (hq : Q (.inl (some (.int (vlF y k l x j)))) M) : mx_W m_X7_valueOf d 0 [.ref t, .int (w x), .int (-(w (j + 1)))] [] M Q := by
  have hin : vp_in (w x) 10 := w_in hx (by decide)
  refine x_X7_valueOf_0 T t ht _ _ ?_
  rw [w_nat (by omega), V.1, V.2.1, V.2.2]
  rcases (show j = 0 ∨ j = 1 ∨ j = 2 ∨ j = 3 by omega) with rfl | rfl | rfl | rfl
  · exact ⟨fun z => absurd z (by decide), fun z => absurd z (by decide), fun _ => ⟨hin, hq⟩, fun _ _ z => absurd (by decide) z⟩
  · exact ⟨fun z => absurd z (by decide), fun _ => ⟨hin, hq⟩, fun z => absurd z (by decide), fun _ z => absurd (by decide) z⟩
  · exact ⟨fun _ => ⟨hin, hq⟩, fun z => absurd z (by decide), fun z => absurd z (by decide), fun z => absurd (by decide) z⟩
  · exact ⟨fun z => absurd z (by decide), fun z => absurd z (by decide), fun z => absurd z (by decide), fun _ _ _ => hq⟩
theorem vlC_P {t x y k l : Nat} {M M1 : mx_M} (ht : mx_Cat t) (L : lip cP M M1) (V : vlC M t x y k l) : vlC M1 t x y k l := by
  have h11 : t = 11 ∨ t = 45 := ht
  have f : ∀ a j, ¬ cP a j → mx_I M1 a j = mx_I M a j := fun a j h => (L.2 a j h).1
  unfold vlC
  rw [f (t + 1) _ (fun h => by rcases h with h | h <;> omega), f (t + 2) _ (fun h => by rcases h with h | h <;> omega), f (t + 3) _ (fun h => by rcases h with h | h <;> omega)]
  exact V
theorem neg_lt (a : Nat) (ha : a < 1000) : (-(w (a + 1)) < 0) ∧ (4 ≤ a → -(w (a + 1)) < -4) ∧ (a < 4 → ¬ -(w (a + 1)) < -4) ∧ (¬ a = 4 → ¬ -(w (a + 1)) = -5) := by
  have e : (-(w (a + 1))).toInt = -((a : Int) + 1) := by
    rw [Int32.toInt_neg, w_int (by omega), Int.bmod_def]
    split <;> omega
  refine ⟨?_, fun h => ?_, fun h => ?_, fun h => ?_⟩
  · rw [Int32.lt_iff_toInt_lt, e, show (0 : Int32).toInt = 0 from rfl]; omega
  · rw [Int32.lt_iff_toInt_lt, e, show (-4 : Int32).toInt = -4 from by decide]; omega
  · rw [Int32.lt_iff_toInt_lt, e, show (-4 : Int32).toInt = -4 from by decide]; omega
  · rw [← Int32.toInt_inj, e, show (-5 : Int32).toInt = -5 from by decide]; omega
theorem p_count_l {d t o x y k l e : Nat} {M0 : mx_M} {Q : QQ} (ht : mx_Cat t) (ho : o < 4) (hx : x < 10) (he : e ≤ 700) (e9 : mx_I M0 9 o = w e) (v9 : Int32) (hq : ∀ M1, lip cP M0 M1 → Q (.inl (some (.int v9))) M1) :
    ∀ (L : List SP) (a : Nat) (z : SK) (M : mx_M), mx_Tp M → lip cP M0 M → a + L.length = e → stL M L a → vlC M t x y k l → wfL L z.1 1 → skC M z → (evL (vlF y k l x) L z).2 0 = v9 → mx_W m_X7_countOne (d + 1) 13 [.ref 6, .ref t, .int (w o), .int (w x), .int (w a), .retAddr 0, .retAddr 0, .retAddr 0] [] M Q
  | [], a, z, M, T, L9, ha, C, V, hw, A, ev => by
    have hw : z.1 = 1 := hw
    have ha : a = e := ha
    have ev : z.2 0 = v9 := ev
    refine x_X7_countOne_13 T t ht _ _ _ ?_
    rw [w_nat (n := o) (by omega), (L9.2 9 o (fun h => by rcases h with h | h <;> omega)).1, e9]
    refine ⟨w_in (by omega) (by omega), fun _ => p_pop T A (by omega) (by omega) (fun M1 L1 A1 => ⟨L1.1.1, L1.1.2.1, _, rfl, ?_⟩), fun h => absurd ?_ h⟩
    · rw [hw]
      show Q (.inl (some (.int (z.2 0)))) M1
      rw [ev]; exact hq M1 (lip_trans L9 L1)
    · rw [w_le (by omega) (by omega)]; omega
  | s :: L, a, z, M, T, L9, ha, C, V, hw, A, ev => by
    have ha : a + (L.length + 1) = e := ha
    rw [evL] at ev
    have go : ∀ M1, lip cP M M1 → skC M1 (stE (vlF y k l x) s z) → wfL L (stE (vlF y k l x) s z).1 1 → mx_W m_X7_countOne (d + 1) 13 [.ref 6, .ref t, .int (w o), .int (w x), .int (w (a + 1)), .retAddr 0, .retAddr 0, .retAddr 0] [] M1 Q := by
      intro M1 L1 A1 hw1
      exact p_count_l ht ho hx he e9 v9 hq L (a + 1) _ M1 (lip_T L1 T) (lip_trans L9 L1) (by omega) (stL_eq (funext fun j => (L1.2 7 j (fun h => by rcases h with h | h <;> omega)).1) L (a + 1) C.2) (vlC_P ht L1 V) hw1 A1 ev
    have c7 := C.1
    unfold clS2 at c7
    refine x_X7_countOne_13 T t ht _ _ _ ?_
    rw [w_nat (n := o) (by omega), (L9.2 9 o (fun h => by rcases h with h | h <;> omega)).1, e9, show (700 : Int32) = w 700 from rfl, w_nat (n := a) (by omega), w_add1]
    refine ⟨w_in (by omega) (by omega), fun h => ?_, fun _ => ⟨fun h => ?_, fun _ => ⟨w_in (by omega) (by omega), ?_⟩⟩⟩
    · rw [w_le (by omega) (by omega)] at h; omega
    · rw [w_le (by omega) (by omega)] at h; omega
    · rcases hw with ⟨h0, h1, h2, h3⟩ | ⟨h0, h1, h2, h3⟩ | ⟨h0, h1, h2, h3, h4⟩ | ⟨h0, h1, h2, h3, h4, h5⟩
      · have es : stE (vlF y k l x) s z = (z.1 + 1, setG z.2 z.1 (w s.2)) := if_pos h0
        rw [if_pos h0] at c7
        rw [es] at go
        rw [c7]
        exact ⟨fun q => absurd q (w_pos (by omega)), fun _ => p_push T A h2 (fun M1 L1 A1 => ⟨L1.1.1, L1.1.2.1, rfl, go M1 L1 A1 h3⟩)⟩
      · have es : stE (vlF y k l x) s z = (z.1 + 1, setG z.2 z.1 (vlF y k l x s.2)) := by unfold stE; rw [if_neg (by omega), if_pos h0]
        rw [if_neg (by omega), if_pos h0] at c7
        rw [es] at go
        rw [c7]
        have ng := neg_lt s.2 (by omega)
        exact ⟨fun _ => ⟨fun q => absurd q (ng.2.2.1 h1), fun _ => p_valueOf T ht hx V h1 ⟨rfl, rfl, _, rfl, p_push T A h2 (fun M1 L1 A1 => ⟨L1.1.1, L1.1.2.1, rfl, go M1 L1 A1 h3⟩)⟩⟩, fun q => absurd ng.1 q⟩
      · have es : stE (vlF y k l x) s z = (z.1, setG z.2 (z.1 - 1) (if z.2 (z.1 - 1) = 0 then 1 else 0)) := by unfold stE; rw [if_neg (by omega), if_neg (by omega), if_pos h1]
        rw [if_neg (by omega), if_neg (by omega), h1] at c7
        rw [es] at go
        rw [c7]
        refine ⟨fun _ => ⟨fun _ => ⟨fun q => absurd (by decide) q, fun _ => p_pop T A h2 h3 (fun M1 L1 A1 => ⟨L1.1.1, L1.1.2.1, _, rfl, fun q => ?_, fun q => ?_⟩)⟩, fun q => absurd (by decide) q⟩, fun q => absurd (by decide) q⟩
        · rw [if_neg q] at go
          refine p_push (lip_T L1 T) A1 (by show z.1 - 1 < 64; omega) (fun M2 L2 A2 => ⟨L2.1.1, L2.1.2.1, rfl, go M2 (lip_trans L1 L2) ?_ h4⟩)
          have A2 : skC M2 (z.1 - 1 + 1, setG z.2 (z.1 - 1) 0) := A2
          rw [show z.1 - 1 + 1 = z.1 by omega] at A2
          exact A2
        · rw [if_pos q] at go
          refine p_push (lip_T L1 T) A1 (by show z.1 - 1 < 64; omega) (fun M2 L2 A2 => ⟨L2.1.1, L2.1.2.1, rfl, go M2 (lip_trans L1 L2) ?_ h4⟩)
          have A2 : skC M2 (z.1 - 1 + 1, setG z.2 (z.1 - 1) 1) := A2
          rw [show z.1 - 1 + 1 = z.1 by omega] at A2
          exact A2
      · have es : stE (vlF y k l x) s z = (z.1 - 1, setG z.2 (z.1 - 2) (wkF s.2 (z.2 (z.1 - 2)) (z.2 (z.1 - 1)))) := by unfold stE; rw [if_neg (by omega), if_neg (by omega), if_neg (by omega)]
        rw [if_neg (by omega), if_neg (by omega)] at c7
        rw [es] at go
        rw [c7]
        have ng := neg_lt (s.2 + 1) (by omega)
        refine ⟨fun _ => ⟨fun _ => ⟨fun _ => p_pop T A (by omega) h4 (fun M1 L1 A1 => ⟨L1.1.1, L1.1.2.1, _, rfl, p_pop (lip_T L1 T) A1 (by show 1 ≤ z.1 - 1; omega) (by show z.1 - 1 ≤ 64; omega) (fun M2 L2 A2 => ⟨L2.1.1, L2.1.2.1, _, rfl, p_joined (lip_T L2 (lip_T L1 T)) h1 h2 ⟨rfl, rfl, _, rfl, p_push (lip_T L2 (lip_T L1 T)) A2 (by show z.1 - 1 - 1 < 64; omega) (fun M3 L3 A3 => ⟨L3.1.1, L3.1.2.1, rfl, go M3 (lip_trans L1 (lip_trans L2 L3)) ?_ h5⟩)⟩⟩)⟩), fun q => absurd q (ng.2.2.2 (by omega))⟩, fun q => absurd (ng.2.1 (by omega)) q⟩, fun q => absurd ng.1 q⟩
        have A3 : skC M3 (z.1 - 1 - 1 + 1, setG z.2 (z.1 - 1 - 1) (wkF s.2 (z.2 (z.1 - 1 - 1)) (z.2 (z.1 - 1)))) := A3
        rw [show z.1 - 1 - 1 + 1 = z.1 - 1 by omega, show z.1 - 1 - 1 = z.1 - 2 by omega] at A3
        exact A3
theorem p_countOne {d t o x y k l a : Nat} {L : List SP} {M : mx_M} {Q : QQ} (T : mx_Tp M) (ht : mx_Cat t) (ho : o < 4) (hx : x < 10) (he : a + L.length ≤ 700) (e8 : mx_I M 8 o = w a) (e9 : mx_I M 9 o = w (a + L.length)) (C : stL M L a) (V : vlC M t x y k l) (hw : wfL L 0 1)
    (hq : ∀ M1, lip cP M M1 → Q (.inl (some (.int (tvF L y k l x)))) M1) : mx_W m_X7_countOne (d + 1) 0 [.ref 6, .ref t, .int (w o), .int (w x), .retAddr 0, .retAddr 0, .retAddr 0, .retAddr 0] [] M Q := by
  refine x_X7_countOne_0 T t ht _ _ (fun M1 e1 => ⟨w_in ho (by decide), ?_⟩)
  have L1 : lip cP M M1 := by rw [e1]; exact lip_setI (Or.inr ⟨rfl, rfl⟩)
  have f8 : mx_I M1 8 o = w a := by rw [e1, I_ne (by omega)]; exact e8
  rw [w_nat (by omega), f8]
  exact p_count_l ht ho hx he (by rw [e1, I_ne (by omega)]; exact e9) _ (fun M2 L2 => hq M2 (lip_trans L1 L2)) L a (0, fun _ => 0) M1 (lip_T L1 T) (lip_refl _ _) rfl (stL_eq (funext fun j => by rw [e1, I_ne (by omega)]) L a C) (vlC_P ht L1 V) hw ⟨by rw [e1]; exact I_eq, fun i hi => by have hi : i < 0 := hi; omega⟩ rfl
