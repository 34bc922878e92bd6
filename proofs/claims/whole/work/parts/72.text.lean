/-! the text: its tokens -/
abbrev TX := (Nat → Nat) × Nat
def isB (c : Nat) : Bool := decide (c = 32 ∨ c = 10)
def isL (c : Nat) : Bool := decide (97 ≤ c ∧ c ≤ 122)
def isD (c : Nat) : Bool := decide (48 ≤ c ∧ c ≤ 57)
def isK (c : Nat) : Bool := decide (c = 59 ∨ c = 40 ∨ c = 41 ∨ c = 43 ∨ c = 45 ∨ c = 42 ∨ c = 47 ∨ c = 60 ∨ c = 61)
def skp (X : TX) (q : Nat) : Nat := fnd (fun i => !isB (X.1 i)) q (X.2 - q)
def wend (X : TX) (q : Nat) : Nat := fnd (fun i => !isL (X.1 i)) q (X.2 - q)
def dend (X : TX) (q : Nat) : Nat := fnd (fun i => !isD (X.1 i)) q (X.2 - q)
def knd (X : TX) (q : Nat) : Nat := if X.2 ≤ q then 0 else if isL (X.1 q) then 1 else if isD (X.1 q) then 2 else if isK (X.1 q) then 3 else 4
def sz (X : TX) (q : Nat) : Nat := if X.2 ≤ q then 0 else if isL (X.1 q) then wend X q - q else if isD (X.1 q) then dend X q - q else 1
def lt8 (X : TX) (q i : Nat) : Nat := if i < wend X q - q ∧ i < 8 then X.1 (q + i) - 96 else 0
def dgv (X : TX) (q : Nat) : Nat → Nat
  | 0 => 0
  | k + 1 => 10 * dgv X q k + (X.1 (q + k) - 48)
def nx (X : TX) (q : Nat) : Nat := skp X (q + sz X q)
theorem skp_le (X : TX) {q : Nat} (h : q ≤ X.2) : q ≤ skp X q ∧ skp X q ≤ X.2 := by
  have := fnd_le (fun i => !isB (X.1 i)) q (X.2 - q)
  unfold skp; omega
theorem wend_le (X : TX) {q : Nat} (h : q ≤ X.2) : q ≤ wend X q ∧ wend X q ≤ X.2 := by
  have := fnd_le (fun i => !isL (X.1 i)) q (X.2 - q)
  unfold wend; omega
theorem dend_le (X : TX) {q : Nat} (h : q ≤ X.2) : q ≤ dend X q ∧ dend X q ≤ X.2 := by
  have := fnd_le (fun i => !isD (X.1 i)) q (X.2 - q)
  unfold dend; omega
theorem fnd_go {p : Nat → Bool} {q n : Nat} (h : q < n) (hp : p q = false) : fnd p q (n - q) = fnd p (q + 1) (n - (q + 1)) := by
  rw [show n - q = (n - (q + 1)) + 1 by omega]
  exact fnd_next (by rw [hp]; decide)
theorem wend_1 {X : TX} {q : Nat} (h : q < X.2) (hl : isL (X.1 q) = true) : q < wend X q := by
  unfold wend; rw [fnd_go h (by rw [hl]; rfl)]
  have := fnd_le (fun i => !isL (X.1 i)) (q + 1) (X.2 - (q + 1)); omega
theorem dend_1 {X : TX} {q : Nat} (h : q < X.2) (hl : isD (X.1 q) = true) : q < dend X q := by
  unfold dend; rw [fnd_go h (by rw [hl]; rfl)]
  have := fnd_le (fun i => !isD (X.1 i)) (q + 1) (X.2 - (q + 1)); omega
theorem sz_le (X : TX) {q : Nat} (h : q ≤ X.2) : q + sz X q ≤ X.2 := by
  unfold sz
  have := wend_le X h
  have := dend_le X h
  split
  · omega
  · split
    · omega
    · split <;> omega
theorem sz_1 {X : TX} {q : Nat} (h : q < X.2) : 1 ≤ sz X q := by
  unfold sz
  rw [if_neg (by omega)]
  split
  · have := wend_1 h (by assumption); omega
  · split
    · have := dend_1 h (by assumption); omega
    · omega
theorem nx_le (X : TX) {q : Nat} (h : q ≤ X.2) : q ≤ nx X q ∧ nx X q ≤ X.2 := by
  have a := sz_le X h
  have b := skp_le X a
  unfold nx; omega
theorem nx_lt {X : TX} {q : Nat} (h : q < X.2) : q < nx X q ∧ nx X q ≤ X.2 := by
  have a := sz_le X (Nat.le_of_lt h)
  have b := skp_le X a
  have c := sz_1 h
  unfold nx; omega
theorem knd_lt {X : TX} {q : Nat} (h : ¬ knd X q = 0) : q < X.2 := by
  unfold knd at h
  split at h
  · exact absurd rfl h
  · omega
theorem knd_cases {X : TX} {q : Nat} (h : q < X.2) : (isL (X.1 q) = true ∧ knd X q = 1 ∧ sz X q = wend X q - q) ∨ (isL (X.1 q) = false ∧ isD (X.1 q) = true ∧ knd X q = 2 ∧ sz X q = dend X q - q) ∨ (isL (X.1 q) = false ∧ isD (X.1 q) = false ∧ isK (X.1 q) = true ∧ knd X q = 3 ∧ sz X q = 1) ∨ (isL (X.1 q) = false ∧ isD (X.1 q) = false ∧ isK (X.1 q) = false ∧ knd X q = 4 ∧ sz X q = 1) := by
  have h : ¬ X.2 ≤ q := by omega
  unfold knd sz
  cases e1 : isL (X.1 q) <;> cases e2 : isD (X.1 q) <;> cases e3 : isK (X.1 q) <;> simp [h]
theorem wend_is {X : TX} {q i : Nat} (h : q ≤ i) (h2 : i < wend X q) : isL (X.1 i) = true := by
  have := fnd_not (fun i => !isL (X.1 i)) q (X.2 - q) i h h2
  cases e : isL (X.1 i)
  · rw [e] at this; exact absurd this (by decide)
  · rfl
theorem dend_is {X : TX} {q i : Nat} (h : q ≤ i) (h2 : i < dend X q) : isD (X.1 i) = true := by
  have := fnd_not (fun i => !isD (X.1 i)) q (X.2 - q) i h h2
  cases e : isD (X.1 i)
  · rw [e] at this; exact absurd this (by decide)
  · rfl
theorem isL_iff {c : Nat} : isL c = true ↔ 97 ≤ c ∧ c ≤ 122 := by unfold isL; exact decide_eq_true_iff
theorem isD_iff {c : Nat} : isD c = true ↔ 48 ≤ c ∧ c ≤ 57 := by unfold isD; exact decide_eq_true_iff
theorem lt8_lt (X : TX) (q i : Nat) : lt8 X q i < 32 := by
  unfold lt8
  split
  · have := isL_iff.mp (wend_is (X := X) (q := q) (i := q + i) (by omega) (by omega)); omega
  · omega
theorem lt8_wrd {X : TX} {q : Nat} (h : knd X q = 1) (h8 : sz X q ≤ 8) : wrd (sz X q) (lt8 X q) := by
  have hq := knd_lt (X := X) (q := q) (by omega)
  have hk := knd_cases hq
  have hl : isL (X.1 q) = true ∧ sz X q = wend X q - q := by rcases hk with k | k | k | k <;> first | exact ⟨k.1, k.2.2⟩ | omega
  have h1 := wend_1 hq hl.1
  refine ⟨⟨by omega, h8⟩, lt8_lt X q, fun i => ⟨fun hi => ?_, fun hi => ?_⟩⟩
  · have := isL_iff.mp (wend_is (X := X) (q := q) (i := q + i) (by omega) (by omega))
    unfold lt8
    rw [if_pos (by omega)]; omega
  · unfold lt8
    rw [if_neg (by omega)]
theorem dgv_lt {X : TX} {q : Nat} : ∀ (k : Nat), q + k ≤ dend X q → dgv X q k < 10 ^ k
  | 0, _ => Nat.one_pos
  | k + 1, h => by
    have := dgv_lt (X := X) (q := q) k (by omega)
    have := isD_iff.mp (dend_is (X := X) (q := q) (i := q + k) (by omega) (by omega))
    rw [dgv, Nat.pow_succ]; omega
/-! the class's tokens -/
def tapC (M : mx_M) (X : TX) : Prop := ∃ L, mx_I M 4 1 = w L ∧ X.2 ≤ L ∧ L ≤ 700 ∧ ∀ i, i < X.2 → mx_I M 5 i &&& 255 = w (X.1 i) ∧ X.1 i < 256
def tkC (M : mx_M) (X : TX) (q : Nat) : Prop := (mx_I M 3 1 = w X.2 ∧ mx_I M 3 2 = w q ∧ mx_I M 3 3 = w (sz X q) ∧ mx_I M 3 4 = w (knd X q)) ∧ (knd X q = 1 → mx_J M 3 6 = u64 (nm (lt8 X q) 8)) ∧ (knd X q = 2 → sz X q ≤ 4 → mx_I M 3 5 = w (dgv X q (sz X q))) ∧ (knd X q = 3 → mx_I M 3 5 = w (X.1 q)) ∧ tapC M X ∧ q ≤ X.2
abbrev cX : Nat → Nat → Prop := fun k j => k = 3 ∧ 2 ≤ j ∧ j ≤ 6
theorem tapC_lip {P : Nat → Nat → Prop} {X : TX} {M M1 : mx_M} (L : lip P M M1) (hP : ∀ k j, P k j → ¬ k = 5 ∧ ¬ (k = 4 ∧ j = 1)) (A : tapC M X) : tapC M1 X := by
  obtain ⟨l, h1, h2, h3, h4⟩ := A
  refine ⟨l, ?_, h2, h3, fun i hi => ?_⟩
  · rw [(L.2 4 1 (fun z => (hP 4 1 z).2 ⟨rfl, rfl⟩)).1]; exact h1
  · rw [(L.2 5 i (fun z => (hP 5 i z).1 rfl)).1]; exact h4 i hi
theorem p_signAt {d i : Nat} {X : TX} {M : mx_M} {Q : QQ} (T : mx_Tp M) (A : tapC M X) (hi : i < X.2) (hq : Q (.inl (some (.int (w (X.1 i))))) M) : mx_W m_X6_signAt d 0 [.ref 4, .int (w i)] [] M Q := by
  obtain ⟨l, h1, h2, h3, h4⟩ := A
  refine x_X6_signAt_0 T _ ?_
  rw [h1, w_nat (by omega), (h4 i hi).1]
  exact ⟨fun z => absurd z (w_pos (by omega)), fun _ => ⟨fun _ => ⟨w_in (by omega) (by decide), hq⟩, fun z => absurd ((w_lt (by omega) (by omega)).mpr (by omega)) z⟩⟩
theorem p_isLetter {d c : Nat} {M : mx_M} {Q : QQ} (T : mx_Tp M) (hc : c < 256) (hq : Q (.inl (some (.int (mx_b (isL c))))) M) : mx_W m_X8_isLetter d 0 [.int (w c)] [] M Q := by
  refine x_X8_isLetter_0 T _ ?_
  rw [show (97 : Int32) = w 97 from rfl, show (122 : Int32) = w 122 from rfl, w_lt (by omega) (by omega), w_lt (by omega) (by omega)]
  unfold isL at hq
  refine ⟨fun z => ?_, fun z => ⟨fun y => ?_, fun y => ?_⟩⟩
  · rw [decide_eq_false (by omega)] at hq; exact hq
  · rw [decide_eq_false (by omega)] at hq; exact hq
  · rw [decide_eq_true (by omega)] at hq; exact hq
theorem p_isDigit {d c : Nat} {M : mx_M} {Q : QQ} (T : mx_Tp M) (hc : c < 256) (hq : Q (.inl (some (.int (mx_b (isD c))))) M) : mx_W m_X8_isDigit d 0 [.int (w c)] [] M Q := by
  refine x_X8_isDigit_0 T _ ?_
  rw [show (48 : Int32) = w 48 from rfl, show (57 : Int32) = w 57 from rfl, w_lt (by omega) (by omega), w_lt (by omega) (by omega)]
  unfold isD at hq
  refine ⟨fun z => ?_, fun z => ⟨fun y => ?_, fun y => ?_⟩⟩
  · rw [decide_eq_false (by omega)] at hq; exact hq
  · rw [decide_eq_false (by omega)] at hq; exact hq
  · rw [decide_eq_true (by omega)] at hq; exact hq
theorem p_isBlank {d c : Nat} {M : mx_M} {Q : QQ} (T : mx_Tp M) (hc : c < 256) (hq : Q (.inl (some (.int (mx_b (isB c))))) M) : mx_W m_X8_isBlank d 0 [.int (w c)] [] M Q := by
  refine x_X8_isBlank_0 T _ ?_
  rw [show (32 : Int32) = w 32 from rfl, show (10 : Int32) = w 10 from rfl, w_inj (by omega) (by omega), w_inj (by omega) (by omega)]
  unfold isB at hq
  refine ⟨fun z => ?_, fun z => ⟨fun y => ?_, fun y => ?_⟩⟩
  · rw [decide_eq_true (by omega)] at hq; exact hq
  · rw [decide_eq_false (by omega)] at hq; exact hq
  · rw [decide_eq_true (by omega)] at hq; exact hq
theorem p_isMark {d c : Nat} {M : mx_M} {Q : QQ} (T : mx_Tp M) (hc : c < 256) (hq : Q (.inl (some (.int (mx_b (isK c))))) M) : mx_W m_X8_isMark d 0 [.int (w c)] [] M Q := by
  refine x_X8_isMark_0 T _ ?_
  rw [show (59 : Int32) = w 59 from rfl, show (40 : Int32) = w 40 from rfl, show (41 : Int32) = w 41 from rfl, show (43 : Int32) = w 43 from rfl, show (45 : Int32) = w 45 from rfl, show (42 : Int32) = w 42 from rfl, show (47 : Int32) = w 47 from rfl, show (60 : Int32) = w 60 from rfl, show (61 : Int32) = w 61 from rfl]
  iterate 9 rw [w_inj (a := c) (by omega) (by omega)]
  unfold isK at hq
  have y : (c = 59 ∨ c = 40 ∨ c = 41 ∨ c = 43 ∨ c = 45 ∨ c = 42 ∨ c = 47 ∨ c = 60 ∨ c = 61) → Q (.inl (some (.int (mx_b true)))) M := fun z => by rw [decide_eq_true z] at hq; exact hq
  have n : ¬ (c = 59 ∨ c = 40 ∨ c = 41 ∨ c = 43 ∨ c = 45 ∨ c = 42 ∨ c = 47 ∨ c = 60 ∨ c = 61) → Q (.inl (some (.int (mx_b false)))) M := fun z => by rw [decide_eq_false z] at hq; exact hq
  exact ⟨fun z => y (by omega), fun _ => ⟨fun z => y (by omega), fun _ => ⟨fun z => y (by omega), fun _ => ⟨fun z => y (by omega), fun _ => ⟨fun z => y (by omega), fun _ => ⟨fun z => y (by omega), fun _ => ⟨fun z => y (by omega), fun _ => ⟨fun z => y (by omega), fun _ => ⟨fun z => n (by omega), fun z => y (by omega)⟩⟩⟩⟩⟩⟩⟩⟩⟩
theorem p_isSign {d c : Nat} {X : TX} {q : Nat} {M : mx_M} {Q : QQ} (T : mx_Tp M) (A : tkC M X q) (hc : c < 256) (hq : Q (.inl (some (.int (mx_b (decide (knd X q = 3 ∧ X.1 q = c)))))) M) : mx_W m_X8_isSign d 0 [.ref 3, .int (w c)] [] M Q := by
  obtain ⟨⟨a1, a2, a3, a4⟩, a5, a6, a7, a8, a9⟩ := A
  have hk : knd X q < 5 := by unfold knd; repeat' split
                              all_goals omega
  refine x_X8_isSign_0 T _ ?_
  rw [a4, show (3 : Int32) = w 3 from rfl, w_inj (by omega) (by omega)]
  refine ⟨fun z => ?_, fun z => ?_⟩
  · rw [decide_eq_false (fun y => z y.1)] at hq; exact hq
  · rw [a7 z]
    obtain ⟨l, h1, h2, h3, h4⟩ := a8
    have h5 := (h4 q (knd_lt (by omega))).2
    rw [w_inj (by omega) (by omega)]
    refine ⟨fun y => ?_, fun y => ?_⟩
    · rw [decide_eq_false (fun x => y x.2)] at hq; exact hq
    · rw [decide_eq_true ⟨z, y⟩] at hq; exact hq
