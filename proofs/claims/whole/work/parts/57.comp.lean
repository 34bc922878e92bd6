/-! the compromise: sets of cards, the fewest hurt -/
/-- the set s without c -/
def rmv (s c : Nat) : Nat := s ^^^ (if s.testBit c then 2 ^ c else 0)
theorem bits_ok : ∀ (s : Fin 1024) (c : Fin 10), (((w s.val >>> (w c.val &&& 31)) &&& 1) = w (bn (s.val.testBit c.val))) ∧ (w s.val &&& ((1 <<< (w c.val &&& 31)) ^^^ (-1))) = w (rmv s.val c.val) ∧ rmv s.val c.val ≤ s.val ∧ (s.val.testBit c.val = true → rmv s.val c.val < s.val) := by decide +kernel
theorem rmv_bit (s c o : Nat) : (rmv s c).testBit o = (s.testBit o && !decide (o = c)) := by
  unfold rmv
  rw [Nat.testBit_xor]
  by_cases h : s.testBit c = true
  · rw [if_pos h, Nat.testBit_two_pow]
    by_cases e : o = c
    · rw [e, h]; simp
    · rw [decide_eq_false e, decide_eq_false (show ¬ c = o from fun z => e z.symm)]; simp
  · rw [if_neg h, Nat.zero_testBit]
    by_cases e : o = c
    · rw [e, Bool.eq_false_iff.mpr h]; simp
    · rw [decide_eq_false e]; simp
theorem bit_1 {s c : Nat} (hs : s < 1024) (hc : c < 10) : (((w s >>> (w c &&& 31)) &&& 1) = 1 ↔ s.testBit c = true) ∧ (((w s >>> (w c &&& 31)) &&& 1) = 0 ↔ s.testBit c = false) := by
  rw [(bits_ok ⟨s, hs⟩ ⟨c, hc⟩).1]
  cases s.testBit c
  · constructor <;> decide
  · constructor <;> decide
theorem rmv_w {s c : Nat} (hs : s < 1024) (hc : c < 10) : (w s &&& ((1 <<< (w c &&& 31)) ^^^ (-1))) = w (rmv s c) ∧ rmv s c ≤ s ∧ (s.testBit c = true → rmv s c < s) := (bits_ok ⟨s, hs⟩ ⟨c, hc⟩).2
/-- a sum over those of i, i + 1, .. (k of them) that are so -/
def hsF (p : Nat → Bool) (h : Nat → Nat) : Nat → Nat → Nat → Nat
  | _, 0, a => a
  | i, k + 1, a => hsF p h (i + 1) k (if p i then a + h i else a)
theorem hsF_add (p : Nat → Bool) (h : Nat → Nat) : ∀ (k i a b : Nat), hsF p h i k (a + b) = hsF p h i k a + b
  | 0, i, a, b => rfl
  | k + 1, i, a, b => by
    rw [hsF, hsF]
    by_cases e : p i = true
    · rw [if_pos e, if_pos e, show a + b + h i = (a + h i) + b by omega]; exact hsF_add p h k (i + 1) (a + h i) b
    · rw [if_neg e, if_neg e]; exact hsF_add p h k (i + 1) a b
theorem hsF_congr {p q : Nat → Bool} {h : Nat → Nat} : ∀ (k i a : Nat), (∀ j, p j = q j) → hsF p h i k a = hsF q h i k a
  | 0, i, a, _ => rfl
  | k + 1, i, a, e => by rw [hsF, hsF, e i]; exact hsF_congr k (i + 1) _ e
theorem hsF_le {p : Nat → Bool} {h : Nat → Nat} (hh : ∀ o, h o ≤ 4) : ∀ (k i a : Nat), hsF p h i k a ≤ a + 4 * k
  | 0, i, a => Nat.le_refl _
  | k + 1, i, a => by
    rw [hsF]
    have := hh i
    split
    · have := hsF_le (p := p) hh k (i + 1) (a + h i); omega
    · have := hsF_le (p := p) hh k (i + 1) a; omega
/-- how many are hurt, if c stands ahead of o -/
def htF (K : Nat) (Bs : BB) (c o : Nat) : Nat := cnt (fun q => Bs q o c) 0 K
theorem htF_le {K : Nat} (Bs : BB) (c o : Nat) (h : K ≤ 4) : htF K Bs c o ≤ 4 := by
  have := cnt_le (fun q => Bs q o c) 0 K
  unfold htF; omega
/-- how many the couples of s hurt, if c is its first, and g those of smaller sets -/
def hwF (N K : Nat) (Bs : BB) (g : Nat → Nat) (s c : Nat) : Nat := hsF (fun o => (rmv s c).testBit o) (htF K Bs c) 0 N (g (rmv s c))
abbrev PS := Option (Nat × Nat)
def bfF (N K : Nat) (Bs : BB) (g : Nat → Nat) (s : Nat) : Nat → Nat → PS → PS
  | _, 0, z => z
  | i, k + 1, z => bfF N K Bs g s (i + 1) k (if s.testBit i then clS (hwF N K Bs g s i) i z else z)
/-- the fewest for each set, one after the other -/
def fwF (N K : Nat) (Bs : BB) : Nat → Nat → (Nat → Nat) → Nat → Nat
  | _, 0, g => g
  | s, k + 1, g => fwF N K Bs (s + 1) k (setF g s ((bfF N K Bs g s 0 N none).getD (0, 0)).1)
/-- what is kept of the best so far: its sum, below a bound -/
def psG (N K : Nat) (Bs : BB) (g : Nat → Nat) (s : Nat) (z : PS) : Prop := ∀ m b, z = some (m, b) → b < N ∧ s.testBit b = true ∧ m = hwF N K Bs g s b
theorem psG_S {N K : Nat} {Bs : BB} {g : Nat → Nat} {s i : Nat} {z : PS} (hi : i < N) (ht : s.testBit i = true) (G : psG N K Bs g s z) : psG N K Bs g s (clS (hwF N K Bs g s i) i z) := by
  intro m b e
  cases z with
  | none => cases e; exact ⟨hi, ht, rfl⟩
  | some q =>
    obtain ⟨m2, b2⟩ := q
    rw [clS] at e
    split at e
    · cases e; exact ⟨hi, ht, rfl⟩
    · exact G m b e
theorem bfF_some {N K : Nat} {Bs : BB} {g : Nat → Nat} {s : Nat} : ∀ (k i : Nat) (z : PS), (z ≠ none ∨ ∃ c, i ≤ c ∧ c < i + k ∧ s.testBit c = true) → bfF N K Bs g s i k z ≠ none
  | 0, i, z, h => by
    rcases h with h | ⟨c, h1, h2, _⟩
    · exact h
    · omega
  | k + 1, i, z, h => by
    rw [bfF]
    refine bfF_some k (i + 1) _ ?_
    by_cases e : s.testBit i = true
    · rw [if_pos e]
      refine Or.inl ?_
      cases z with
      | none => intro y; cases y
      | some q => obtain ⟨m2, b2⟩ := q; rw [clS]; split <;> (intro y; cases y)
    · rw [if_neg e]
      rcases h with h | ⟨c, h1, h2, h3⟩
      · exact Or.inl h
      · refine Or.inr ⟨c, ?_, by omega, h3⟩
        by_cases q : c = i
        · rw [q] at h3; exact absurd h3 e
        · omega
theorem bit_ex {N s : Nat} (hs : s < 2 ^ N) (h0 : ¬ s = 0) : ∃ c, c < N ∧ s.testBit c = true := by
  obtain ⟨c, hc⟩ := Nat.exists_testBit_of_ne_zero h0
  refine ⟨c, ?_, hc⟩
  by_cases e : c < N
  · exact e
  · have : s < 2 ^ c := Nat.lt_of_lt_of_le hs (Nat.pow_le_pow_right (by decide) (by omega))
    rw [Nat.testBit_lt_two_pow this] at hc
    cases hc
theorem pow_N {N : Nat} (h : N ≤ 10) : 2 ^ N ≤ 1024 := Nat.pow_le_pow_right (by decide) h
theorem shl_N {N : Nat} (h : N ≤ 10) : (1 : Int32) <<< (w N &&& 31) = w (2 ^ N) := by
  rcases (show N = 0 ∨ N = 1 ∨ N = 2 ∨ N = 3 ∨ N = 4 ∨ N = 5 ∨ N = 6 ∨ N = 7 ∨ N = 8 ∨ N = 9 ∨ N = 10 by omega) with rfl | rfl | rfl | rfl | rfl | rfl | rfl | rfl | rfl | rfl | rfl <;> decide
/-! the class's -/
abbrev cK : Nat → Nat → Prop := fun k _ => k = 39 ∨ k = 40 ∨ k = 41 ∨ k = 42
/-- its table of hurts -/
def htC (M : mx_M) (N K : Nat) (Bs : BB) : Prop := ∀ c o, c < N → o < N → mx_I M 40 (10 * c + o) = w (htF K Bs c o)
theorem p_hurtW_l {d N K s c : Nat} {Bs : BB} {M : mx_M} {Q : QQ} (T : mx_Tp M) (h10 : N ≤ 10) (H : htC M N K Bs) (hs : s < 1024) (hc : c < N) :
    ∀ (k i a : Nat), i + k = N → Q (.inl (some (.int (w (hsF (fun o => s.testBit o) (htF K Bs c) i k a))))) M → mx_W m_X2_hurtWithFirst d 21 [.ref 39, .retAddr 0, .int (w c), .int (w N), .int (w s), .int (w a), .int (w i)] [] M Q
  | 0, i, a, hi, hq => by
    refine x_X2_hurtWithFirst_21 T _ _ _ _ _ ⟨fun _ => hq, fun h => absurd ?_ h⟩
    rw [w_le (by omega) (by omega)]; omega
  | k + 1, i, a, hi, hq => by
    rw [hsF] at hq
    refine x_X2_hurtWithFirst_21 T _ _ _ _ _ ⟨fun h => ?_, fun _ => ?_⟩
    · rw [w_le (by omega) (by omega)] at h; omega
    · rw [(bit_1 hs (show i < 10 by omega)).1, w_x10, w_nat (n := 10 * c + i) (by omega), H c i hc (by omega), w_add, w_add1]
      refine ⟨fun g => ?_, fun g => ⟨w_in (by omega) (by omega), ?_⟩⟩
      · rw [if_neg g] at hq
        exact p_hurtW_l T h10 H hs hc k (i + 1) a (by omega) hq
      · rw [if_pos g] at hq
        exact p_hurtW_l T h10 H hs hc k (i + 1) _ (by omega) hq
theorem p_hurtW {d N K s c : Nat} {g : Nat → Nat} {Bs : BB} {M : mx_M} {Q : QQ} (T : mx_Tp M) (h10 : N ≤ 10) (H : htC M N K Bs) (hs : s < 1024) (hc : c < N) (hg : mx_I M 41 (rmv s c) = w (g (rmv s c))) (hq : Q (.inl (some (.int (w (hwF N K Bs g s c))))) M) : mx_W m_X2_hurtWithFirst d 0 [.ref 39, .int (w s), .int (w c), .int (w N), .retAddr 0, .retAddr 0, .retAddr 0] [] M Q := by
  have r := rmv_w hs (show c < 10 by omega)
  refine x_X2_hurtWithFirst_0 T _ _ _ ?_
  rw [r.1, w_nat (by omega), hg]
  exact ⟨w_in (by omega) (by omega), p_hurtW_l T h10 H (by omega) hc N 0 _ (Nat.zero_add N) hq⟩
def psB : PS → Int32
  | none => 0
  | some (_, b) => w b
def psM : PS → Int32
  | none => 2147483647
  | some (m, _) => w m
/-- g is small -/
def gSm (g : Nat → Nat) (s : Nat) : Prop := ∀ q, q < s → g q ≤ 40 * q
theorem hwF_le {N K : Nat} {Bs : BB} {g : Nat → Nat} {s c : Nat} (h10 : N ≤ 10) (hK : K ≤ 4) (hs : s < 1024) (hc : c < 10) (ht : s.testBit c = true) (G : gSm g s) : hwF N K Bs g s c ≤ 40 * s := by
  have r := (rmv_w hs hc).2.2 ht
  have a := hsF_le (p := fun o => (rmv s c).testBit o) (h := htF K Bs c) (fun o => htF_le Bs c o hK) N 0 (g (rmv s c))
  have b := G _ r
  unfold hwF
  omega
theorem p_best_l {d N K s : Nat} {g : Nat → Nat} {Bs : BB} {M : mx_M} {Q : QQ} (T : mx_Tp M) (h10 : N ≤ 10) (hK : K ≤ 4) (H : htC M N K Bs) (hs : s < 1024) (G : gSm g s) (hg : ∀ q, q < s → mx_I M 41 q = w (g q)) :
    ∀ (k i : Nat) (z : PS), i + k = N → psG N K Bs g s z → Q (.inl (some (.int (psB (bfF N K Bs g s i k z))))) M → mx_W m_X2_bestFirst (d + 1) 9 [.ref 39, .int (w s), .int (w N), .int (psB z), .int (psM z), .int (w i), .retAddr 0] [] M Q
  | 0, i, z, hi, hz, hq => by
    refine x_X2_bestFirst_9 T _ _ _ _ _ ⟨fun _ => hq, fun h => absurd ?_ h⟩
    rw [w_le (by omega) (by omega)]; omega
  | k + 1, i, z, hi, hz, hq => by
    rw [bfF] at hq
    have r := rmv_w hs (show i < 10 by omega)
    refine x_X2_bestFirst_9 T _ _ _ _ _ ⟨fun h => ?_, fun _ => ?_⟩
    · rw [w_le (by omega) (by omega)] at h; omega
    · rw [(bit_1 hs (show i < 10 by omega)).1]
      refine ⟨fun y => ?_, fun y => p_hurtW T h10 H hs (by omega) (hg _ (r.2.2 y)) ⟨rfl, rfl, _, rfl, ?_⟩⟩
      · rw [if_neg y] at hq
        rw [w_add1]
        exact p_best_l T h10 hK H hs G hg k (i + 1) z (by omega) hz hq
      · rw [if_pos y] at hq
        rw [w_add1]
        have hle := hwF_le (N := N) (Bs := Bs) h10 hK hs (show i < 10 by omega) y G
        have R := p_best_l (d := d) T h10 hK H hs G hg k (i + 1) _ (by omega) (psG_S (show i < N by omega) y hz) hq
        cases z with
        | none =>
          refine ⟨fun q => ?_, fun _ => R⟩
          exfalso
          have q : w 2147483647 ≤ w (hwF N K Bs g s i) := q
          rw [w_le (by omega) (by omega)] at q
          omega
        | some q9 =>
          obtain ⟨m2, b2⟩ := q9
          have hz2 := hz m2 b2 rfl
          have hle2 := hwF_le (N := N) (Bs := Bs) h10 hK hs (show b2 < 10 by omega) hz2.2.1 G
          rw [← hz2.2.2] at hle2
          rw [clS] at R
          show (w m2 ≤ w (hwF N K Bs g s i) → _) ∧ (¬ w m2 ≤ w (hwF N K Bs g s i) → _)
          rw [w_le (by omega) (by omega)]
          refine ⟨fun q => ?_, fun q => ?_⟩
          · rw [if_neg (by omega)] at R; exact R
          · rw [if_pos (by omega)] at R; exact R
theorem p_best {d N K s : Nat} {g : Nat → Nat} {Bs : BB} {M : mx_M} {Q : QQ} (T : mx_Tp M) (h10 : N ≤ 10) (hK : K ≤ 4) (H : htC M N K Bs) (hs : s < 1024) (G : gSm g s) (hg : ∀ q, q < s → mx_I M 41 q = w (g q)) (hq : Q (.inl (some (.int (psB (bfF N K Bs g s 0 N none))))) M) : mx_W m_X2_bestFirst (d + 1) 0 [.ref 39, .int (w s), .int (w N), .retAddr 0, .retAddr 0, .retAddr 0, .retAddr 0] [] M Q :=
  x_X2_bestFirst_0 T _ _ (p_best_l T h10 hK H hs G hg N 0 none (Nat.zero_add N) (fun m b e => by cases e) hq)
theorem bfF_G {N K : Nat} {Bs : BB} {g : Nat → Nat} {s : Nat} : ∀ (k i : Nat) (z : PS), i + k = N → psG N K Bs g s z → psG N K Bs g s (bfF N K Bs g s i k z)
  | 0, i, z, _, G => G
  | k + 1, i, z, hi, G => by
    rw [bfF]
    refine bfF_G k (i + 1) _ (by omega) ?_
    by_cases e : s.testBit i = true
    · rw [if_pos e]; exact psG_S (by omega) e G
    · rw [if_neg e]; exact G
/-- the best first card of a set, and how many are hurt -/
theorem bf_is {N K s : Nat} {Bs : BB} (g : Nat → Nat) (hs : s < 2 ^ N) (h0 : ¬ s = 0) : ∃ m b, bfF N K Bs g s 0 N none = some (m, b) ∧ b < N ∧ s.testBit b = true ∧ m = hwF N K Bs g s b := by
  obtain ⟨c, hc, hb⟩ := bit_ex hs h0
  have h1 := bfF_some (N := N) (K := K) (Bs := Bs) (g := g) (s := s) N 0 none (Or.inr ⟨c, Nat.zero_le _, by omega, hb⟩)
  have h2 := bfF_G (K := K) (Bs := Bs) (g := g) (s := s) N 0 none (Nat.zero_add N) (fun m b e => by cases e)
  cases h : bfF N K Bs g s 0 N none with
  | none => exact absurd h h1
  | some z =>
    obtain ⟨m, b⟩ := z
    rw [h] at h2
    obtain ⟨a1, a2, a3⟩ := h2 m b rfl
    exact ⟨m, b, rfl, a1, a2, a3⟩
