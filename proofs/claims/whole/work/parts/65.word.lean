/-! words as numbers: the class has them from the top, the reference from the bottom -/
/-- letters as one number -/
def nm (g : Nat → Nat) : Nat → Nat
  | 0 => 0
  | m + 1 => nm g m * 32 + g m
theorem nm_lt {g : Nat → Nat} (h : ∀ i, g i < 32) : ∀ (m : Nat), nm g m < 32 ^ m
  | 0 => by rw [nm]; decide
  | m + 1 => by
    have := nm_lt h m
    have := h m
    rw [nm, Nat.pow_succ]; omega
theorem nm_div {g : Nat → Nat} (h : ∀ i, g i < 32) (a : Nat) : ∀ (k : Nat), nm g (a + k) / 32 ^ k = nm g a
  | 0 => by rw [Nat.pow_zero, Nat.div_one]; rfl
  | k + 1 => by
    have ih := nm_div h a k
    have hg := h (a + k)
    rw [← Nat.add_assoc, nm, Nat.pow_succ, Nat.mul_comm (32 ^ k) 32, ← Nat.div_div_eq_div_mul, show (nm g (a + k) * 32 + g (a + k)) / 32 = nm g (a + k) by omega, ih]
theorem nm_at {g : Nat → Nat} (h : ∀ i, g i < 32) {i k : Nat} : nm g (i + 1 + k) / 32 ^ k % 32 = g i := by
  have := h i
  rw [nm_div h (i + 1) k, nm]; omega
theorem nm_pos {g : Nat → Nat} (h0 : 1 ≤ g 0) : ∀ (m : Nat), 1 ≤ nm g (m + 1)
  | 0 => by rw [nm, nm]; omega
  | m + 1 => by have := nm_pos h0 m; rw [nm]; omega
theorem nm_eq {g q : Nat → Nat} : ∀ (m : Nat), (∀ i, i < m → g i = q i) → nm g m = nm q m
  | 0, _ => rfl
  | m + 1, e => by rw [nm, nm, nm_eq m (fun i hi => e i (by omega)), e m (by omega)]
theorem nm_inj {g q : Nat → Nat} (h : ∀ i, g i < 32) (h2 : ∀ i, q i < 32) : ∀ (m : Nat), nm g m = nm q m → ∀ i, i < m → g i = q i
  | 0, _, i, hi => by omega
  | m + 1, e, i, hi => by
    have a := h m
    have b := h2 m
    rw [nm, nm] at e
    have e1 : nm g m = nm q m := by omega
    by_cases c : i = m
    · rw [c]; omega
    · exact nm_inj h h2 m e1 i (by omega)
/-- a word of l letters, g 0, g 1, .., 0 behind -/
def wrd (l : Nat) (g : Nat → Nat) : Prop := (1 ≤ l ∧ l ≤ 8) ∧ (∀ i, g i < 32) ∧ ∀ i, (i < l → 1 ≤ g i) ∧ (l ≤ i → g i = 0)
theorem nm_tail {l : Nat} {g : Nat → Nat} (W : wrd l g) : ∀ (k : Nat), nm g (l + k) = nm g l * 32 ^ k
  | 0 => by rw [Nat.pow_zero, Nat.mul_one]; rfl
  | k + 1 => by rw [← Nat.add_assoc, nm, nm_tail W k, (W.2.2 (l + k)).2 (by omega), Nat.pow_succ, Nat.mul_assoc]; rfl
/-- the same word, by its number from the top and from the bottom -/
theorem wrd_same {l l2 : Nat} {g q : Nat → Nat} (W : wrd l g) (V : wrd l2 q) : (nm g 8 = nm q 8 ↔ (l = l2 ∧ ∀ i, g i = q i)) ∧ (nm g l = nm q l2 ↔ (l = l2 ∧ ∀ i, g i = q i)) := by
  have len : (∀ i, i < 8 → g i = q i) → l = l2 := by
    intro h
    rcases Nat.lt_trichotomy l l2 with a | a | a
    · have b := (V.2.2 l).1 a
      have c := (W.2.2 l).2 (Nat.le_refl _)
      have := h l (by have := V.1; omega)
      omega
    · exact a
    · have b := (W.2.2 l2).1 a
      have c := (V.2.2 l2).2 (Nat.le_refl _)
      have := h l2 (by have := W.1; omega)
      omega
  have all : l = l2 → (∀ i, i < l → g i = q i) → ∀ i, g i = q i := by
    intro e h i
    by_cases c : i < l
    · exact h i c
    · rw [(W.2.2 i).2 (by omega), (V.2.2 i).2 (by omega)]
  refine ⟨⟨fun h => ?_, fun h => nm_eq 8 (fun i _ => h.2 i)⟩, ⟨fun h => ?_, fun h => by rw [← h.1]; exact nm_eq l (fun i _ => h.2 i)⟩⟩
  · have a := nm_inj W.2.1 V.2.1 8 h
    have e := len a
    exact ⟨e, all e (fun i hi => a i (by have := W.1; omega))⟩
  · have e : l = l2 := by
      have b1 := nm_lt W.2.1 l
      have b2 := nm_lt V.2.1 l2
      have c1 : 32 ^ (l - 1) ≤ nm g l := by
        have := nm_div W.2.1 1 (l - 1)
        rw [show 1 + (l - 1) = l by have := W.1; omega] at this
        have d : 1 ≤ nm g 1 := nm_pos ((W.2.2 0).1 (by have := W.1; omega)) 0
        rw [← this] at d
        have := Nat.div_mul_le_self (nm g l) (32 ^ (l - 1))
        have := Nat.mul_le_mul_right (32 ^ (l - 1)) d
        omega
      have c2 : 32 ^ (l2 - 1) ≤ nm q l2 := by
        have := nm_div V.2.1 1 (l2 - 1)
        rw [show 1 + (l2 - 1) = l2 by have := V.1; omega] at this
        have d : 1 ≤ nm q 1 := nm_pos ((V.2.2 0).1 (by have := V.1; omega)) 0
        rw [← this] at d
        have := Nat.div_mul_le_self (nm q l2) (32 ^ (l2 - 1))
        have := Nat.mul_le_mul_right (32 ^ (l2 - 1)) d
        omega
      rcases Nat.lt_trichotomy l l2 with a | a | a
      · have : 32 ^ l ≤ 32 ^ (l2 - 1) := Nat.pow_le_pow_right (by decide) (by omega)
        omega
      · exact a
      · have : 32 ^ l2 ≤ 32 ^ (l - 1) := Nat.pow_le_pow_right (by decide) (by omega)
        omega
    subst e
    exact ⟨rfl, all rfl (nm_inj W.2.1 V.2.1 l h)⟩
theorem p40 (m : Nat) (h : m ≤ 8) : 32 ^ m ≤ 2 ^ 40 := by
  rw [show (32 : Nat) = 2 ^ 5 from rfl, ← Nat.pow_mul]
  exact Nat.pow_le_pow_right (by decide) (by omega)
theorem u_inj {a b : Nat} (ha : a < 2 ^ 60) (hb : b < 2 ^ 60) : u64 a = u64 b ↔ a = b := by
  constructor
  · intro h
    have h := congrArg (fun v => v.toBitVec.toNat) h
    rw [Int64.toBitVec_ofNat', Int64.toBitVec_ofNat', BitVec.toNat_ofNat, BitVec.toNat_ofNat, Nat.mod_eq_of_lt (by omega), Nat.mod_eq_of_lt (by omega)] at h
    exact h
  · intro h; rw [h]
theorem u_shr31 {P k : Nat} (hP : P < 2 ^ 60) (hk : k < 64) : ((u64 P).toUInt64 >>> UInt64.ofNat k).toInt64.toInt32 &&& 31 = w (P / 2 ^ k % 32) := by
  have h0 : (u64 P).toUInt64.toNat = P := by
    show (UInt64.ofNat P).toNat = P
    rw [UInt64.toNat_ofNat']
    exact Nat.mod_eq_of_lt (by omega)
  have h1 : ((u64 P).toUInt64 >>> UInt64.ofNat k).toNat = P / 2 ^ k := by
    rw [UInt64.toNat_shiftRight, h0, UInt64.toNat_ofNat', Nat.mod_eq_of_lt (show k < 2 ^ 64 by omega), Nat.mod_eq_of_lt hk, Nat.shiftRight_eq_div_pow]
  generalize (u64 P).toUInt64 >>> UInt64.ofNat k = z at h1
  rw [← Int32.toBitVec_inj]
  apply BitVec.eq_of_toNat_eq
  rw [Int32.toBitVec_and, BitVec.toNat_and]
  have h2 : z.toInt64.toInt32.toBitVec.toNat = z.toNat % 2 ^ 32 := by
    rw [Int64.toBitVec_toInt32, BitVec.signExtend_eq_setWidth_of_le _ (by decide), BitVec.toNat_setWidth]
    rfl
  have h3 : (31 : Int32).toBitVec.toNat = 2 ^ 5 - 1 := rfl
  have h4 : (w (P / 2 ^ k % 32)).toBitVec.toNat = P / 2 ^ k % 32 := by
    show (BitVec.ofNat 32 (P / 2 ^ k % 32)).toNat = _
    rw [BitVec.toNat_ofNat]
    exact Nat.mod_eq_of_lt (by omega)
  rw [h2, h3, h4, Nat.and_two_pow_sub_one_eq_mod, h1]
  omega
theorem u_sh35 {i : Nat} (hi : i < 8) : (35 - (5 * w i)).toInt64.toUInt64 &&& Int64.toUInt64 63 = UInt64.ofNat (35 - 5 * i) := by
  have : ∀ i, i < 8 → (35 - (5 * Int32.ofNat i)).toInt64.toUInt64 &&& Int64.toUInt64 63 = UInt64.ofNat (35 - 5 * i) := by decide
  exact this i hi
/-- arithmetic shifts of small numbers -/
theorem u_sar {P k : Nat} (hP : P < 2 ^ 60) (hk : k < 64) : u64 P >>> u64 k = u64 (P / 2 ^ k) := by
  rw [← Int64.toBitVec_inj, Int64.toBitVec_shiftRight]
  apply BitVec.eq_of_toNat_eq
  have e2 : ((u64 k).toBitVec.smod 64).toNat = k := by
    have : ∀ k, k < 64 → ((Int64.ofNat k).toBitVec.smod 64).toNat = k := by decide
    exact this k hk
  have h0 : (u64 P).toBitVec = BitVec.ofNat 64 P := rfl
  have hm : (BitVec.ofNat 64 P).msb = false := by
    rw [BitVec.msb_eq_false_iff_two_mul_lt, BitVec.toNat_ofNat, Nat.mod_eq_of_lt (by omega)]; omega
  rw [BitVec.sshiftRight_eq', e2, h0, BitVec.sshiftRight_eq_of_msb_false hm, BitVec.toNat_ushiftRight, BitVec.toNat_ofNat, Nat.mod_eq_of_lt (show P < 2 ^ 64 by omega), Nat.shiftRight_eq_div_pow]
  show _ = (BitVec.ofNat 64 (P / 2 ^ k)).toNat
  have : P / 2 ^ k ≤ P := Nat.div_le_self _ _
  rw [BitVec.toNat_ofNat, Nat.mod_eq_of_lt (by omega)]
theorem u_and31 {P : Nat} (hP : P < 2 ^ 60) : u64 P &&& 31 = u64 (P % 32) := by
  rw [← Int64.toBitVec_inj, Int64.toBitVec_and]
  apply BitVec.eq_of_toNat_eq
  have h0 : (u64 P).toBitVec = BitVec.ofNat 64 P := rfl
  have h3 : (31 : Int64).toBitVec.toNat = 2 ^ 5 - 1 := rfl
  rw [BitVec.toNat_and, h0, h3, BitVec.toNat_ofNat, Nat.mod_eq_of_lt (show P < 2 ^ 64 by omega), Nat.and_two_pow_sub_one_eq_mod]
  show P % 2 ^ 5 = (BitVec.ofNat 64 (P % 32)).toNat
  rw [BitVec.toNat_ofNat, Nat.mod_eq_of_lt (show P % 32 < 2 ^ 64 by omega)]
theorem u_shl5 {a b : Nat} (ha : a < 2 ^ 50) (hb : b < 32) : (u64 a <<< ((5 : Int32).toInt64 &&& 63)) ||| u64 b = u64 (a * 32 + b) := by
  have e : (5 : Int32).toInt64 &&& 63 = 5 := by decide
  have e2 : (Int64.toBitVec 5).smod 64 = 5#64 := by decide
  rw [e, ← Int64.toBitVec_inj, Int64.toBitVec_or, Int64.toBitVec_shiftLeft]
  apply BitVec.eq_of_toNat_eq
  simp only [Int64.toBitVec_ofNat', BitVec.toNat_or, BitVec.toNat_ofNat]
  rw [e2, BitVec.shiftLeft_eq', BitVec.toNat_shiftLeft, BitVec.toNat_ofNat, BitVec.toNat_ofNat]
  have e3 : 5 % 2 ^ 64 = 5 := by decide
  rw [e3, Nat.mod_eq_of_lt (show a < 2 ^ 64 by omega), Nat.mod_eq_of_lt (show b < 2 ^ 64 by omega), Nat.shiftLeft_eq, Nat.mod_eq_of_lt (show a * 2 ^ 5 < 2 ^ 64 by omega), ← Nat.shiftLeft_eq, ← Nat.shiftLeft_add_eq_or_of_lt (show b < 2 ^ 5 by omega), Nat.shiftLeft_eq]
  omega
theorem u_i64 {b : Nat} (hb : b < 32) : (w b).toInt64 = u64 b := by
  have : ∀ b, b < 32 → (Int32.ofNat b).toInt64 = Int64.ofNat b := by decide
  exact this b hb
theorem u_i32 {b : Nat} (hb : b < 32) : (u64 b).toInt32 = w b := by
  have : ∀ b, b < 32 → (Int64.ofNat b).toInt32 = Int32.ofNat b := by decide
  exact this b hb
/-- a letter is laid into a word, from the top -/
theorem u_with {a b i : Nat} (hi : i < 8) (ha : a < 32 ^ i) (hb : b < 32) : u64 (a * 32 ^ (8 - i)) ||| (u64 b <<< ((35 - (5 * w i)).toInt64 &&& 63)) = u64 ((a * 32 + b) * 32 ^ (7 - i)) := by
  have e : (35 - (5 * w i)).toInt64 &&& 63 = u64 (35 - 5 * i) := by
    have : ∀ i, i < 8 → (35 - (5 * Int32.ofNat i)).toInt64 &&& 63 = Int64.ofNat (35 - 5 * i) := by decide
    exact this i hi
  have e2 : ((u64 (35 - 5 * i)).toBitVec.smod 64).toNat = 35 - 5 * i := by
    have : ∀ k, k < 64 → ((Int64.ofNat k).toBitVec.smod 64).toNat = k := by decide
    exact this _ (by omega)
  have hp : 32 ^ (7 - i) = 2 ^ (35 - 5 * i) := by
    rw [show (32 : Nat) = 2 ^ 5 from rfl, ← Nat.pow_mul]; congr 1; omega
  have hp8 : 32 ^ (8 - i) = 2 ^ (40 - 5 * i) := by
    rw [show (32 : Nat) = 2 ^ 5 from rfl, ← Nat.pow_mul]; congr 1; omega
  have hq : 2 ^ (40 - 5 * i) = 32 * 2 ^ (35 - 5 * i) := by
    rw [show 40 - 5 * i = (35 - 5 * i) + 5 by omega, Nat.pow_add, Nat.mul_comm]
  have hi2 : 32 ^ i = 2 ^ (5 * i) := by rw [show (32 : Nat) = 2 ^ 5 from rfl, ← Nat.pow_mul]
  have hbig : a * 2 ^ (40 - 5 * i) < 2 ^ 40 := by
    rw [hi2] at ha
    have : (a + 1) * 2 ^ (40 - 5 * i) ≤ 2 ^ (5 * i) * 2 ^ (40 - 5 * i) := Nat.mul_le_mul_right _ ha
    rw [← Nat.pow_add, show 5 * i + (40 - 5 * i) = 40 by omega, Nat.succ_mul] at this
    have := Nat.pow_pos (n := 40 - 5 * i) (show 0 < 2 by decide)
    omega
  have hb2 : b * 2 ^ (35 - 5 * i) < 2 ^ (40 - 5 * i) := by
    rw [hq]; exact Nat.mul_lt_mul_of_pos_right hb (Nat.pow_pos (by decide))
  have hle : 2 ^ (40 - 5 * i) ≤ 2 ^ 40 := Nat.pow_le_pow_right (by decide) (by omega)
  rw [hp, hp8, e, ← Int64.toBitVec_inj, Int64.toBitVec_or, Int64.toBitVec_shiftLeft]
  apply BitVec.eq_of_toNat_eq
  rw [BitVec.toNat_or, BitVec.shiftLeft_eq', e2, BitVec.toNat_shiftLeft]
  show (BitVec.ofNat 64 _).toNat ||| ((BitVec.ofNat 64 b).toNat <<< _) % _ = (BitVec.ofNat 64 _).toNat
  rw [BitVec.toNat_ofNat, BitVec.toNat_ofNat, BitVec.toNat_ofNat, Nat.mod_eq_of_lt (show b < 2 ^ 64 by omega), Nat.shiftLeft_eq, Nat.mod_eq_of_lt (show b * 2 ^ (35 - 5 * i) < 2 ^ 64 by omega), Nat.mod_eq_of_lt (show a * 2 ^ (40 - 5 * i) < 2 ^ 64 by omega)]
  rw [← Nat.shiftLeft_eq a, ← Nat.shiftLeft_add_eq_or_of_lt hb2, Nat.shiftLeft_eq]
  have e5 : (a * 32 + b) * 2 ^ (35 - 5 * i) = a * 2 ^ (40 - 5 * i) + b * 2 ^ (35 - 5 * i) := by
    rw [Nat.add_mul, hq, ← Nat.mul_assoc]
  rw [e5, Nat.mod_eq_of_lt (by omega)]
theorem nm_40 {g : Nat → Nat} (h : ∀ i, g i < 32) {m : Nat} (hm : m ≤ 8) : nm g m < 2 ^ 40 := Nat.lt_of_lt_of_le (nm_lt h m) (p40 m hm)
theorem p_letterAt {d i : Nat} {g : Nat → Nat} {M : mx_M} {Q : QQ} (T : mx_Tp M) (h : ∀ i, g i < 32) (hi : i < 8) (hq : Q (.inl (some (.int (w (g i))))) M) : mx_W m_X9_letterAt d 0 [.long (u64 (nm g 8)), .retAddr 0, .int (w i)] [] M Q := by
  refine x_X9_letterAt_0 T _ _ ?_
  have h8 := nm_40 h (m := 8) (by decide)
  have e : nm g 8 / 2 ^ (35 - 5 * i) % 32 = g i := by
    have a := nm_at h (i := i) (k := 7 - i)
    rw [show i + 1 + (7 - i) = 8 by omega, show 32 ^ (7 - i) = 2 ^ (35 - 5 * i) by rw [show (32 : Nat) = 2 ^ 5 from rfl, ← Nat.pow_mul]; congr 1; omega] at a
    exact a
  rw [u_sh35 hi, u_shr31 (by omega) (by omega), e]
  exact hq
theorem p_withLetter {d i : Nat} {g : Nat → Nat} {M : mx_M} {Q : QQ} (T : mx_Tp M) (h : ∀ i, g i < 32) (hi : i < 8) (hq : Q (.inl (some (.long (u64 (nm g (i + 1) * 32 ^ (8 - (i + 1))))))) M) : mx_W m_X9_withLetter d 0 [.long (u64 (nm g i * 32 ^ (8 - i))), .retAddr 0, .int (w i), .int (w (g i))] [] M Q := by
  refine x_X9_withLetter_0 T _ _ _ ?_
  rw [u_i64 (h i), u_with hi (nm_lt h i) (h i), show 7 - i = 8 - (i + 1) by omega]
  exact hq
theorem u_5 : (5 : Int32).toInt64 &&& 63 = u64 5 := by decide
theorem q_long_w {d l : Nat} {g : Nat → Nat} {M : mx_M} {Q : QQ} (T : mx_Tp M) (W : wrd l g) (hq : Q (.inl (some (.int (w l)))) M) :
    ∀ (m s : Nat), s + m = l → mx_W m_X11_longOf d 4 [.retAddr 0, .retAddr 0, .int (w s), .long (u64 (nm g m)), .retAddr 0] [] M Q
  | 0, s, hs => by
    refine x_X11_longOf_4 T _ _ ⟨fun _ => ?_, fun h => absurd rfl h⟩
    rw [show s = l by omega]; exact hq
  | m + 1, s, hs => by
    have h8 := nm_40 W.2.1 (m := m + 1) (by have := W.1; omega)
    have hp := nm_pos ((W.2.2 0).1 (by omega)) m
    refine x_X11_longOf_4 T _ _ ⟨fun h => ?_, fun _ => ?_⟩
    · rw [show (0 : Int64) = u64 0 from rfl, u_inj (by omega) (by decide)] at h; omega
    · have e : nm g (m + 1) / 2 ^ 5 = nm g m := nm_div W.2.1 m 1
      rw [u_5, u_sar (by omega) (by decide), e, w_add1]
      exact q_long_w T W hq m (s + 1) (by omega)
theorem q_longOf {d l : Nat} {g : Nat → Nat} {M : mx_M} {Q : QQ} (T : mx_Tp M) (W : wrd l g) (hq : Q (.inl (some (.int (w l)))) M) : mx_W m_X11_longOf d 0 [.long (u64 (nm g l)), .retAddr 0, .retAddr 0, .retAddr 0, .retAddr 0] [] M Q :=
  x_X11_longOf_0 T _ (q_long_w T W hq l 0 (Nat.zero_add l))
/-- the cards as they are told: years, words, and how many letters -/
def cdC (M : mx_M) (t N : Nat) (yr wn : Nat → Nat) (hl : Nat → Nat → Nat) (hg : Nat → Nat → Nat → Nat) : Prop := ∀ x, x < N → mx_I M (t + 1) x = w (yr x) ∧ mx_I M (t + 2) x = w (wn x) ∧ mx_I M (t + 3) x = w (su (hl x) (wn x)) ∧ (1 ≤ wn x ∧ wn x ≤ 4) ∧ ∀ k, k < wn x → mx_J M (t + 4) (4 * x + k) = u64 (nm (hg x k) 8) ∧ wrd (hl x k) (hg x k)
def cdM (M : mx_M) (N : Nat) (yr wn : Nat → Nat) (hl : Nat → Nat → Nat) (hg : Nat → Nat → Nat → Nat) : Prop := ∀ x, x < N → mx_I M 59 x = w (yr x) ∧ mx_I M 60 x = w (wn x) ∧ (1 ≤ wn x ∧ wn x ≤ 4) ∧ ∀ k, k < wn x → mx_J M 67 (4 * x + k) = u64 (nm (hg x k) (hl x k)) ∧ wrd (hl x k) (hg x k)
theorem w_4 (x k : Nat) : 4 * w x + w k = w (4 * x + k) := by rw [show (4 : Int32) = w 4 from rfl, w_mul, w_add]
theorem w_x4 (x k : Nat) : w x * 4 + w k = w (4 * x + k) := by rw [show (4 : Int32) = w 4 from rfl, w_mul, w_add, Nat.mul_comm]
theorem q_letters_l {d N x : Nat} {yr wn : Nat → Nat} {hl : Nat → Nat → Nat} {hg : Nat → Nat → Nat → Nat} {M : mx_M} {Q : QQ} (T : mx_Tp M) (hN : N ≤ 10) (C : cdM M N yr wn hl hg) (hx : x < N) (hq : Q (.inl (some (.int (w (su (hl x) (wn x)))))) M) :
    ∀ (k i : Nat), i + k = wn x → mx_W m_X11_lettersOf (d + 1) 4 [.ref 58, .int (w x), .int (w (su (hl x) i)), .int (w i)] [] M Q
  | 0, i, hi => by
    have c := C x hx
    refine x_X11_lettersOf_4 T _ _ _ ?_
    rw [w_nat (n := x) (by omega), c.2.1]
    refine ⟨w_in (by omega) (by omega), fun _ => ?_, fun h => absurd ?_ h⟩
    · rw [show i = wn x by omega]; exact hq
    · rw [w_le (by omega) (by omega)]; omega
  | k + 1, i, hi => by
    have c := C x hx
    have cw := c.2.2.2 i (by omega)
    refine x_X11_lettersOf_4 T _ _ _ ?_
    rw [w_nat (n := x) (by omega), c.2.1, w_4, w_nat (n := 4 * x + i) (by omega), cw.1]
    refine ⟨w_in (by omega) (by omega), fun h => ?_, fun _ => ⟨w_in (by omega) (by omega), q_longOf T cw.2 ⟨rfl, rfl, _, rfl, ?_⟩⟩⟩
    · rw [w_le (by omega) (by omega)] at h; omega
    · rw [w_add, w_add1]
      exact q_letters_l T hN C hx hq k (i + 1) (by omega)
theorem q_letters {d N x : Nat} {yr wn : Nat → Nat} {hl : Nat → Nat → Nat} {hg : Nat → Nat → Nat → Nat} {M : mx_M} {Q : QQ} (T : mx_Tp M) (hN : N ≤ 10) (C : cdM M N yr wn hl hg) (hx : x < N) (hq : Q (.inl (some (.int (w (su (hl x) (wn x)))))) M) : mx_W m_X11_lettersOf (d + 1) 0 [.ref 58, .int (w x), .retAddr 0, .retAddr 0] [] M Q :=
  x_X11_lettersOf_0 T _ (q_letters_l T hN C hx hq (wn x) 0 (Nat.zero_add _))
theorem cdM_0 {M : mx_M} {v : Int32} {N : Nat} {yr wn : Nat → Nat} {hl : Nat → Nat → Nat} {hg : Nat → Nat → Nat → Nat} (C : cdM M N yr wn hl hg) : cdM (mx_setI M 58 0 v) N yr wn hl hg := fun x hx => by
  have c := C x hx
  exact ⟨by rw [I_ne (by omega)]; exact c.1, by rw [I_ne (by omega)]; exact c.2.1, c.2.2.1, c.2.2.2⟩
/-! card -/
def caA (n N K : Nat) (f : Nat → Nat) (Bs : BB) (y k l c : Nat) : Nat → Int32
  | 0 => w y
  | 1 => w k
  | 2 => w l
  | 3 => plc n f c
  | _ => btF (fbF N Bs c) 0 K 0
theorem p_card {d t n N K : Nat} {v1 v2 : Int32} {yr wn : Nat → Nat} {hl : Nat → Nat → Nat} {hg : Nat → Nat → Nat → Nat} {f : Nat → Nat} {Bs : BB} {M : mx_M} {Q : QQ} (W : wC M t n N K f Bs) (C : cdC M t N yr wn hl hg) (hr : rmE M)
    (h1 : ∀ c i, c < N → i < 5 → v1 = w c → v2 = w i → Q (.inl (some (.int (caA n N K f Bs (yr c) (wn c) (su (hl c) (wn c)) c i)))) M)
    (h2 : ¬ (isIn v1 N ∧ isIn v2 5) → Q (.inr NSE) (mx_thM M)) : mx_W m_X10_card (d + 1 + 1) 0 [.ref 1, .int v1, .int v2] [] M Q := by
  have hb := W.2.1.2.2.1
  refine x_X10_card_0 W.1 t W.2.1.1.1 W.2.1.1.2 _ _ (c_cardG W hr (fun g => ⟨rfl, rfl, Or.inl ⟨rfl, ?_⟩⟩) (fun g => ⟨rfl, rfl, Or.inr ⟨_, rfl, h2 (fun z => g z.1)⟩⟩))
  obtain ⟨c, hc, rfl⟩ := g
  have cc := C c hc
  have H := fun i hi e => h1 c i hc hi rfl e
  have hin : vp_in (w c) 10 := w_in (by omega) (by omega)
  rw [w_nat (by omega), cc.1, cc.2.1, cc.2.2.1]
  refine ⟨fun z => ⟨hin, H 0 (by decide) z⟩, fun z => ⟨hin, H 1 (by decide) z⟩, fun z => ⟨hin, H 2 (by decide) z⟩, fun z => p_placeOf W.1 (Or.inl rfl) W.2.2.1 c (by omega) ⟨rfl, rfl, _, rfl, H 3 (by decide) z⟩, fun z => p_firstBy W hc ⟨rfl, rfl, _, rfl, H 4 (by decide) z⟩, fun z0 z1 z2 z3 z4 => ⟨hr.1, hr.2, h2 ?_⟩⟩
  rintro ⟨_, c, hc, e⟩
  rcases (show c = 0 ∨ c = 1 ∨ c = 2 ∨ c = 3 ∨ c = 4 by omega) with rfl | rfl | rfl | rfl | rfl
  · exact z0 e
  · exact z1 e
  · exact z2 e
  · exact z3 e
  · exact z4 e
theorem q_cardC {d n N K : Nat} {v1 v2 : Int32} {yr wn : Nat → Nat} {hl : Nat → Nat → Nat} {hg : Nat → Nat → Nat → Nat} {f : Nat → Nat} {Bs : BB} {M : mx_M} {Q : QQ} (W : wM M n N K f Bs) (C : cdM M N yr wn hl hg)
    (h1 : ∀ c i, c < N → i < 5 → v1 = w c → v2 = w i → ∀ M1, wM M1 n N K f Bs → lip mQ (mx_setI M 58 0 0) M1 → Q (.inl (some (.int (caA n N K f Bs (yr c) (wn c) (su (hl c) (wn c)) c i)))) M1)
    (h2 : ¬ (isIn v1 N ∧ isIn v2 5) → Q (.inl (some (.int 0))) (mx_setI (mx_setI M 58 0 0) 58 0 1)) : mx_W m_X11_card (d + 4 + 1 + 1 + 1) 0 [.ref 58, .int v1, .int v2] [] M Q :=
  x_X11_card_0 W.1 _ _ (fun M1 e1 => by
    subst e1
    have W1 := wM_0 (v := 0) W
    have C1 := cdM_0 (v := 0) C
    have hb := W1.2.1.2.1
    refine q_isCard W1 I_eq (fun g => ⟨rfl, rfl, _, rfl, fun z => (by cases z), fun _ => p_isWhat (n := 4) W1.1 I_eq (by decide) (fun g2 => ⟨rfl, rfl, _, rfl, fun _ => ?_, fun z => (by cases z)⟩) (fun g2 => ⟨rfl, rfl, _, rfl, fun z => (by cases z), fun _ => h2 (fun z => g2 z.2)⟩)⟩) (fun g => ⟨rfl, rfl, _, rfl, fun _ => h2 (fun z => g z.1), fun z => (by cases z)⟩)
    obtain ⟨c, hc, rfl⟩ := g
    obtain ⟨i, hi, rfl⟩ := g2
    have cc := C1 c hc
    have H := h1 c i hc hi rfl rfl _ W1 (lip_refl _ _)
    rw [w_nat (by omega), cc.1, cc.2.1]
    refine ⟨fun y => ⟨w_in (by omega) (by omega), ?_⟩, fun y => ⟨w_in (by omega) (by omega), ?_⟩, fun y => q_letters W1.1 hb.1 C1 hc ⟨rfl, rfl, _, rfl, ?_⟩, fun y => q_place W1 hc ⟨rfl, rfl, _, rfl, ?_⟩, fun y0 y1 y2 y3 => q_firstBy W1 hc (fun M2 W2 L2 => ⟨L2.1.1, L2.1.2.1, _, rfl, ?_⟩)⟩
    · rw [w_eq0 (by omega)] at y; subst y; exact H
    · rw [show (1 : Int32) = w 1 from rfl, w_inj (by omega) (by omega)] at y; subst y; exact H
    · rw [show (2 : Int32) = w 2 from rfl, w_inj (by omega) (by omega)] at y; subst y; exact H
    · rw [show (3 : Int32) = w 3 from rfl, w_inj (by omega) (by omega)] at y; subst y; exact H
    · rw [w_eq0 (by omega)] at y0
      rw [show (1 : Int32) = w 1 from rfl, w_inj (by omega) (by omega)] at y1
      rw [show (2 : Int32) = w 2 from rfl, w_inj (by omega) (by omega)] at y2
      rw [show (3 : Int32) = w 3 from rfl, w_inj (by omega) (by omega)] at y3
      have e : i = 4 := by omega
      subst e
      exact h1 c 4 hc hi rfl rfl M2 W2 L2)
