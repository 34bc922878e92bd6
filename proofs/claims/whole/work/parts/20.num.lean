/-! small numbers as the machine has them -/
/-- a natural number as an int -/
abbrev w (n : Nat) : Int32 := Int32.ofNat n
theorem w_int {n : Nat} (h : n < 2147483648) : (w n).toInt = n := by
  rw [Int32.toInt_ofNat']
  rw [Int.bmod_def]
  have hz : (Int32.size : Int) = 4294967296 := rfl
  rw [hz]
  split <;> omega
theorem w_nat {n : Nat} (h : n < 2147483648) : (w n).toNatClampNeg = n := by
  show (w n).toInt.toNat = n
  rw [w_int h]
  rfl
theorem w_add (a b : Nat) : w a + w b = w (a + b) := (Int32.ofNat_add a b).symm
theorem w_mul (a b : Nat) : w a * w b = w (a * b) := (Int32.ofNat_mul a b).symm
theorem w_add1 (a : Nat) : w a + 1 = w (a + 1) := w_add a 1
theorem w_sub {a b : Nat} (h : b ≤ a) : w a - w b = w (a - b) := by
  have : w a = w (a - b) + w b := by rw [w_add]; congr 1; omega
  rw [this, Int32.add_sub_cancel]
theorem w_lt {a b : Nat} (ha : a < 2147483648) (hb : b < 2147483648) : w a < w b ↔ a < b := by
  rw [Int32.lt_iff_toInt_lt, w_int ha, w_int hb]
  omega
theorem w_le {a b : Nat} (ha : a < 2147483648) (hb : b < 2147483648) : w a ≤ w b ↔ a ≤ b := by
  rw [Int32.le_iff_toInt_le, w_int ha, w_int hb]
  omega
theorem w_inj {a b : Nat} (ha : a < 2147483648) (hb : b < 2147483648) : w a = w b ↔ a = b := by
  rw [← Int32.toInt_inj, w_int ha, w_int hb]
  omega
theorem w_pos {a : Nat} (ha : a < 2147483648) : ¬ w a < 0 := by
  show ¬ w a < w 0
  rw [w_lt ha (by decide)]
  omega
theorem w_in {a n : Nat} (h : a < n) (hn : n < 2147483648) : vp_in (w a) n := by
  unfold vp_in
  rw [w_nat (by omega)]
  intro h9
  rcases h9 with h9 | h9
  · exact w_pos (by omega) h9
  · omega
theorem w_ne1 {a : Nat} (ha : a < 2147483648) : ¬ w a = -1 := by
  rw [← Int32.toInt_inj, w_int ha]
  have : (-1 : Int32).toInt = -1 := by decide
  omega
/-- the first of i, i + 1, .. (k of them) that is so, else i + k -/
def fnd (p : Nat → Bool) : Nat → Nat → Nat
  | i, 0 => i
  | i, k + 1 => if p i then i else fnd p (i + 1) k
theorem fnd_le (p : Nat → Bool) : ∀ (i k : Nat), i ≤ fnd p i k ∧ fnd p i k ≤ i + k
  | i, 0 => ⟨Nat.le_refl _, Nat.le_refl _⟩
  | i, k + 1 => by
    unfold fnd
    split
    · omega
    · have := fnd_le p (i + 1) k; omega
theorem fnd_so (p : Nat → Bool) : ∀ (i k : Nat), fnd p i k < i + k → p (fnd p i k) = true
  | i, 0, h => by unfold fnd at h; omega
  | i, k + 1, h => by
    unfold fnd at h ⊢
    by_cases hp : p i = true
    · rw [if_pos hp]; exact hp
    · rw [if_neg hp] at h ⊢
      exact fnd_so p (i + 1) k (by omega)
theorem fnd_not (p : Nat → Bool) : ∀ (i k j : Nat), i ≤ j → j < fnd p i k → p j = false
  | i, 0, j, h1, h2 => by unfold fnd at h2; omega
  | i, k + 1, j, h1, h2 => by
    unfold fnd at h2
    by_cases hp : p i = true
    · rw [if_pos hp] at h2; omega
    · rw [if_neg hp] at h2
      rcases Nat.lt_or_eq_of_le h1 with h | h
      · exact fnd_not p (i + 1) k j h h2
      · subst h; simpa using hp
theorem fnd_congr {p q : Nat → Bool} : ∀ (i k : Nat), (∀ j, i ≤ j → j < i + k → p j = q j) → fnd p i k = fnd q i k
  | i, 0, _ => rfl
  | i, k + 1, h => by
    unfold fnd
    rw [h i (Nat.le_refl _) (by omega), fnd_congr (i + 1) k (fun j h1 h2 => h j (by omega) (by omega))]
/-- how many of i, i + 1, .. (k of them) are so -/
def cnt (p : Nat → Bool) : Nat → Nat → Nat
  | _, 0 => 0
  | i, k + 1 => (if p i then 1 else 0) + cnt p (i + 1) k
theorem cnt_le (p : Nat → Bool) : ∀ (i k : Nat), cnt p i k ≤ k
  | i, 0 => Nat.le_refl _
  | i, k + 1 => by
    unfold cnt
    have := cnt_le p (i + 1) k
    split <;> omega
theorem cnt_congr {p q : Nat → Bool} : ∀ (i k : Nat), (∀ j, i ≤ j → j < i + k → p j = q j) → cnt p i k = cnt q i k
  | i, 0, _ => rfl
  | i, k + 1, h => by
    unfold cnt
    rw [h i (Nat.le_refl _) (by omega), cnt_congr (i + 1) k (fun j h1 h2 => h j (by omega) (by omega))]
theorem fnd_stop {p : Nat → Bool} {i k : Nat} (h : p i = true) : fnd p i (k + 1) = i := by
  unfold fnd
  rw [if_pos h]
theorem fnd_next {p : Nat → Bool} {i k : Nat} (h : ¬ p i = true) : fnd p i (k + 1) = fnd p (i + 1) k := by
  rw [fnd, if_neg h]
/-- a place that was found, or -1 -/
def fz (n r : Nat) : Int32 := if r < n then w r else -1
theorem fz_lt {n r : Nat} (h : r < n) : fz n r = w r := if_pos h
theorem fz_ge {n r : Nat} (h : n ≤ r) : fz n r = -1 := if_neg (by omega)
theorem fz_none {n r : Nat} (h : n < 2147483648) : fz n r = -1 ↔ n ≤ r := by
  unfold fz
  split
  · constructor
    · intro g; exact absurd g (w_ne1 (by omega))
    · intro g; omega
  · constructor
    · intro; omega
    · intro; rfl
theorem cnt_yes {p : Nat → Bool} {i k : Nat} (h : p i = true) : cnt p i (k + 1) = cnt p (i + 1) k + 1 := by
  rw [cnt, if_pos h]; omega
theorem cnt_no {p : Nat → Bool} {i k : Nat} (h : ¬ p i = true) : cnt p i (k + 1) = cnt p (i + 1) k := by
  rw [cnt, if_neg h]; omega
theorem w_div {a b : Nat} (ha : a < 2147483648) (hb : b < 2147483648) : w a / w b = w (a / b) := by
  have h9 : a / b < 2147483648 := Nat.lt_of_le_of_lt (Nat.div_le_self a b) ha
  rw [← Int32.toInt_inj, Int32.toInt_div, w_int ha, w_int hb, w_int h9]
  have e : ((a : Int).tdiv (b : Int)) = ((a / b : Nat) : Int) := rfl
  rw [e]
  generalize a / b = q at h9
  rw [Int.bmod_def]
  split <;> omega
theorem w_pred {h : Nat} (hh : h < 2147483648) : (w h - 1).toInt = (h : Int) - 1 := by
  rw [Int32.toInt_sub, w_int hh, show (1 : Int32).toInt = 1 from rfl, Int.bmod_def]
  split <;> omega
theorem w_pred_lt {h l : Nat} (hh : h < 2147483648) (hl : l < 2147483648) : w h - 1 < w l ↔ h ≤ l := by
  rw [Int32.lt_iff_toInt_lt, w_pred hh, w_int hl]
  omega
theorem w_mid {h l : Nat} (hh : h < 1000000000) (hl : l < h) : (w l + (w h - 1)) / 2 = w ((l + h - 1) / 2) := by
  have e : w h - 1 = w (h - 1) := w_sub (a := h) (b := 1) (by omega)
  rw [e, w_add, show (2 : Int32) = w 2 from rfl, w_div (by omega) (by omega)]
  congr 2
  omega
