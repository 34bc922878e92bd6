/-! a row of the class: what stands wrong with a card, bits, search by halves -/
theorem p_wrongWith_l {d a n N o p : Nat} {f : Nat → Nat} {B : Nat → Nat → Bool} {M : mx_M} {Q : mx_O → mx_M → Prop} (T : mx_Tp M) (ha : mx_Row a) (R : rowC M a n N f) (A : ahC M o N B) (c : Nat) (hc : c < N) (hp : p < n) :
    ∀ (k i s : Nat), i + k = n → Q (.inl (some (.int (w (s + cnt (fun i => !decide (i = p) && (decide (i < p) != B (f i) c)) i k))))) M → mx_W m_X5_wrongWith (d + 1 + 1) 13 [.ref a, .ref 24, .int (w o), .int (w c), .int (w s), .int (w p), .int (w i)] [] M Q
  | 0, i, s, hi, hq => by
    have h10 := R.2.1
    refine x_X5_wrongWith_13 T a ha _ _ _ _ _ ⟨fun _ => hq, fun h => absurd ?_ h⟩
    rw [R.1, w_le (by omega) (by omega)]
    omega
  | k + 1, i, s, hi, hq => by
    have h10 := R.2.1
    have ho := R.2.2 i (by omega)
    have yes : (!decide (i = p) && (decide (i < p) != B (f i) c)) = true → mx_W m_X5_wrongWith (d + 1 + 1) 13 [.ref a, .ref 24, .int (w o), .int (w c), .int (w s + 1), .int (w p), .int (w i + 1)] [] M Q := by
      intro g
      rw [cnt_yes g] at hq
      rw [w_add1, w_add1]
      refine p_wrongWith_l T ha R A c hc hp k (i + 1) (s + 1) (by omega) ?_
      rw [show ∀ z, s + 1 + z = s + (z + 1) by intro z; omega]
      exact hq
    have no : ¬ (!decide (i = p) && (decide (i < p) != B (f i) c)) = true → mx_W m_X5_wrongWith (d + 1 + 1) 13 [.ref a, .ref 24, .int (w o), .int (w c), .int (w s), .int (w p), .int (w i + 1)] [] M Q := by
      intro g
      rw [cnt_no g] at hq
      rw [w_add1]
      exact p_wrongWith_l T ha R A c hc hp k (i + 1) s (by omega) hq
    refine x_X5_wrongWith_13 T a ha _ _ _ _ _ ⟨fun h => ?_, fun h => ⟨fun e => ?_, fun e => ⟨fun e2 => ⟨w_in (by omega) (by omega), ?_⟩, fun e2 => ⟨w_in (by omega) (by omega), ?_⟩⟩⟩⟩
    · rw [R.1, w_le (by omega) (by omega)] at h
      omega
    · rw [w_inj (by omega) (by omega)] at e
      exact no (by simp [e])
    · rw [w_inj (by omega) (by omega)] at e
      rw [w_le (by omega) (by omega)] at e2
      rw [w_nat (by omega), ho.1]
      refine p_isAhead T A ho.2 hc ⟨rfl, rfl, _, rfl, fun g => ?_, fun g => ?_⟩
      · refine no ?_
        have : B (f i) c = false := mx_b0.mp g.symm
        simp [this]; omega
      · refine yes ?_
        have : B (f i) c = true := mx_bn.mp (fun z => g z.symm)
        simp [this, e]; omega
    · rw [w_inj (by omega) (by omega)] at e
      rw [w_le (by omega) (by omega)] at e2
      rw [w_nat (by omega), ho.1]
      refine p_isAhead T A ho.2 hc ⟨rfl, rfl, _, rfl, fun g => ?_, fun g => ?_⟩
      · refine no ?_
        have : B (f i) c = true := by
          cases hB : B (f i) c
          · rw [hB] at g; exact absurd g (by decide)
          · rfl
        simp [this]; omega
      · refine yes ?_
        have : B (f i) c = false := by
          cases hB : B (f i) c
          · rfl
          · rw [hB] at g; exact absurd rfl g
        simp [this, e]; omega
theorem p_wrongWith {d a n N o : Nat} {f : Nat → Nat} {B : Nat → Nat → Bool} {M : mx_M} {Q : mx_O → mx_M → Prop} (T : mx_Tp M) (ha : mx_Row a) (R : rowC M a n N f) (A : ahC M o N B) (c : Nat) (hc : c < N) (p : Nat) (hp : p < n) (e : plc n f c = w p) (hq : Q (.inl (some (.int (w (cnt (fun i => !decide (i = p) && (decide (i < p) != B (f i) c)) 0 n))))) M) : mx_W m_X5_wrongWith (d + 1 + 1) 0 [.ref a, .ref 24, .int (w o), .int (w c), .retAddr 0, .retAddr 0, .retAddr 0] [] M Q := by
  refine x_X5_wrongWith_0 T a ha _ _ (p_placeOf T ha R c (by have := R.2.1; omega) ⟨rfl, rfl, _, rfl, ?_⟩)
  rw [e]
  exact p_wrongWith_l T ha R A c hc hp n 0 0 (Nat.zero_add n) (by rw [Nat.zero_add]; exact hq)
/-- the bits of the numbers f i, f (i + 1), .. (k of them) -/
def btsF (f : Nat → Nat) : Nat → Nat → Int32 → Int32
  | _, 0, s => s
  | i, k + 1, s => btsF f (i + 1) k (s ||| (1 <<< (w (f i) &&& 31)))
theorem p_bits_l {d a n N : Nat} {f : Nat → Nat} {M : mx_M} {Q : mx_O → mx_M → Prop} (T : mx_Tp M) (ha : mx_Row a) (R : rowC M a n N f) :
    ∀ (k i : Nat) (s : Int32), i + k = n → Q (.inl (some (.int (btsF f i k s)))) M → mx_W m_X5_bits d 4 [.ref a, .int s, .int (w i)] [] M Q
  | 0, i, s, hi, hq => by
    have h10 := R.2.1
    refine x_X5_bits_4 T a ha _ _ ⟨fun _ => hq, fun h => absurd ?_ h⟩
    rw [R.1, w_le (by omega) (by omega)]
    omega
  | k + 1, i, s, hi, hq => by
    have h10 := R.2.1
    have ho := R.2.2 i (by omega)
    refine x_X5_bits_4 T a ha _ _ ⟨fun h => ?_, fun h => ⟨w_in (by omega) (by omega), ?_⟩⟩
    · rw [R.1, w_le (by omega) (by omega)] at h
      omega
    · rw [w_nat (by omega), ho.1, w_add1]
      exact p_bits_l T ha R k (i + 1) _ (by omega) hq
theorem p_bits {d a n N : Nat} {f : Nat → Nat} {M : mx_M} {Q : mx_O → mx_M → Prop} (T : mx_Tp M) (ha : mx_Row a) (R : rowC M a n N f) (hq : Q (.inl (some (.int (btsF f 0 n 0)))) M) : mx_W m_X5_bits d 0 [.ref a, .retAddr 0, .retAddr 0] [] M Q :=
  x_X5_bits_0 T a ha (p_bits_l T ha R n 0 0 (Nat.zero_add n) hq)
/-- a search by halves from l up to h (not itself): how many looks, and whether it is found -/
def lkF (f : Nat → Nat) (B : Nat → Nat → Bool) (c : Nat) : Nat → Nat → Nat → Nat → Nat × Bool
  | 0, _, _, s => (s, false)
  | k + 1, l, h, s => if h ≤ l then (s, false) else if f ((l + h - 1) / 2) = c then (s + 1, true) else if B c (f ((l + h - 1) / 2)) then lkF f B c k l ((l + h - 1) / 2) (s + 1) else lkF f B c k ((l + h - 1) / 2 + 1) h (s + 1)
theorem lkF_none {f : Nat → Nat} {B : Nat → Nat → Bool} {c k l h s : Nat} (g : h ≤ l) : lkF f B c k l h s = (s, false) := by
  cases k with
  | zero => rfl
  | succ k => rw [lkF, if_pos g]
theorem lkF_le (f : Nat → Nat) (B : Nat → Nat → Bool) (c : Nat) : ∀ k l h s, (lkF f B c k l h s).1 ≤ s + k
  | 0, l, h, s => Nat.le_refl _
  | k + 1, l, h, s => by
    unfold lkF
    split
    · show s ≤ _; omega
    · split
      · show s + 1 ≤ _; omega
      · split
        · have := lkF_le f B c k l ((l + h - 1) / 2) (s + 1); omega
        · have := lkF_le f B c k ((l + h - 1) / 2 + 1) h (s + 1); omega
/-- twice the looks, and one if it is found -/
def lk2 (z : Nat × Bool) : Nat := 2 * z.1 + (if z.2 then 1 else 0)
theorem p_lookFor_l {d a n N o : Nat} {f : Nat → Nat} {B : Nat → Nat → Bool} {M : mx_M} {Q : mx_O → mx_M → Prop} (T : mx_Tp M) (ha : mx_Row a) (R : rowC M a n N f) (A : ahC M o N B) (c : Nat) (hc : c < N) :
    ∀ (k l h s : Nat), s + k = 10 → h ≤ n → h ≤ l + k → l ≤ n → Q (.inl (some (.int (w (lk2 (lkF f B c k l h s)))))) M → mx_W m_X5_lookFor (d + 1 + 1) 14 [.ref a, .ref 24, .int (w o), .int (w c), .int (w l), .int (w h - 1), .int (w s), .retAddr 0] [] M Q
  | 0, l, h, s, hs, hh, hl, hn, hq => by
    have h10 := R.2.1
    refine x_X5_lookFor_14 T a ha _ _ _ _ _ ⟨fun _ => ?_, fun g => absurd ?_ g⟩
    · rw [show (2 : Int32) = w 2 from rfl, w_mul]
      exact hq
    · rw [show (10 : Int32) = w 10 from rfl, w_le (by omega) (by omega)]
      omega
  | k + 1, l, h, s, hs, hh, hl, hn, hq => by
    have h10 := R.2.1
    refine x_X5_lookFor_14 T a ha _ _ _ _ _ ⟨fun g => ?_, fun _ => ⟨fun g => ?_, fun g => ?_⟩⟩
    · rw [show (10 : Int32) = w 10 from rfl, w_le (by omega) (by omega)] at g
      omega
    · rw [w_pred_lt (by omega) (by omega)] at g
      rw [lkF_none g] at hq
      rw [show (2 : Int32) = w 2 from rfl, w_mul]
      exact hq
    · rw [w_pred_lt (by omega) (by omega)] at g
      rw [lkF, if_neg g] at hq
      rw [w_mid (by omega) (by omega)]
      have hm1 : l ≤ (l + h - 1) / 2 := by omega
      have hm2 : (l + h - 1) / 2 < h := by omega
      generalize (l + h - 1) / 2 = m at hq hm1 hm2 ⊢
      have ho := R.2.2 m (by omega)
      rw [w_nat (by omega), ho.1]
      refine ⟨w_in (by omega) (by omega), fun e => ⟨w_in (by omega) (by omega), ?_⟩, fun e => ?_⟩
      · rw [w_inj (by omega) (by omega)] at e
        rw [if_neg e] at hq
        refine p_isAhead T A hc ho.2 ⟨rfl, rfl, _, rfl, fun z => ?_, fun z => ?_⟩
        · rw [if_neg (by simp [z])] at hq
          rw [w_add1, w_add1]
          exact p_lookFor_l T ha R A c hc k (m + 1) h (s + 1) (by omega) hh (by omega) (by omega) hq
        · rw [if_pos z] at hq
          rw [w_add1]
          exact p_lookFor_l T ha R A c hc k l m (s + 1) (by omega) (by omega) (by omega) hn hq
      · rw [w_inj (by omega) (by omega)] at e
        rw [if_pos e] at hq
        rw [show (2 : Int32) = w 2 from rfl, w_add1, w_mul, w_add1]
        exact hq
theorem p_lookFor {d a n N o : Nat} {f : Nat → Nat} {B : Nat → Nat → Bool} {M : mx_M} {Q : mx_O → mx_M → Prop} (T : mx_Tp M) (ha : mx_Row a) (R : rowC M a n N f) (A : ahC M o N B) (c : Nat) (hc : c < N) (hq : Q (.inl (some (.int (w (lk2 (lkF f B c 10 0 n 0)))))) M) : mx_W m_X5_lookFor (d + 1 + 1) 0 [.ref a, .ref 24, .int (w o), .int (w c), .retAddr 0, .retAddr 0, .retAddr 0, .retAddr 0] [] M Q := by
  refine x_X5_lookFor_0 T a ha _ _ ?_
  rw [R.1]
  exact p_lookFor_l T ha R A c hc 10 0 n 0 rfl (Nat.le_refl _) (by have := R.2.1; omega) (Nat.zero_le _) hq
theorem lk2_d (z : Nat × Bool) : lk2 z / 2 = z.1 := by
  unfold lk2
  split <;> omega
theorem p_looksFor {d a n N o : Nat} {f : Nat → Nat} {B : Nat → Nat → Bool} {M : mx_M} {Q : mx_O → mx_M → Prop} (T : mx_Tp M) (ha : mx_Row a) (R : rowC M a n N f) (A : ahC M o N B) (c : Nat) (hc : c < N) (hq : Q (.inl (some (.int (w (lkF f B c 10 0 n 0).1)))) M) : mx_W m_X5_looksFor (d + 1 + 1 + 1) 0 [.ref a, .ref 24, .int (w o), .int (w c)] [] M Q := by
  refine x_X5_looksFor_0 T a ha _ _ (p_lookFor T ha R A c hc ⟨rfl, rfl, _, rfl, ?_⟩)
  have hb := lkF_le f B c 10 0 n 0
  have : lk2 (lkF f B c 10 0 n 0) < 2147483648 := by
    unfold lk2
    split <;> omega
  rw [show (2 : Int32) = w 2 from rfl, w_div this (by decide), lk2_d]
  exact hq
theorem p_finds {d a n N o : Nat} {f : Nat → Nat} {B : Nat → Nat → Bool} {M : mx_M} {Q : mx_O → mx_M → Prop} (T : mx_Tp M) (ha : mx_Row a) (R : rowC M a n N f) (A : ahC M o N B) (c : Nat) (hc : c < N) (hq : Q (.inl (some (.int (mx_b (lkF f B c 10 0 n 0).2)))) M) : mx_W m_X5_finds (d + 1 + 1 + 1) 0 [.ref a, .ref 24, .int (w o), .int (w c)] [] M Q := by
  have hb := lkF_le f B c 10 0 n 0
  have h9 : lk2 (lkF f B c 10 0 n 0) < 2147483648 := by
    unfold lk2
    split <;> omega
  have e : w (lk2 (lkF f B c 10 0 n 0)) - w (lk2 (lkF f B c 10 0 n 0)) / 2 * 2 = w (if (lkF f B c 10 0 n 0).2 then 1 else 0) := by
    rw [show (2 : Int32) = w 2 from rfl, w_div h9 (by decide), lk2_d, w_mul, w_sub (by unfold lk2; omega)]
    congr 1
    unfold lk2
    omega
  refine x_X5_finds_0 T a ha _ _ (p_lookFor T ha R A c hc ⟨rfl, rfl, _, rfl, ?_⟩)
  rw [e]
  generalize (lkF f B c 10 0 n 0).2 = b at hq
  cases b
  · exact ⟨fun _ => hq, fun g => absurd g (by decide)⟩
  · exact ⟨fun g => absurd rfl g, fun _ => hq⟩
