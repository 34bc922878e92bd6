/-! the class scans -/
abbrev cXw : Nat → Nat → Prop := fun k j => k = 3 ∧ (j = 3 ∨ j = 6)
abbrev cXn : Nat → Nat → Prop := fun k j => k = 3 ∧ (j = 3 ∨ j = 5)
theorem tapC_w {X : TX} {M M1 : mx_M} (L : lip cXw M M1) (A : tapC M X) : tapC M1 X := tapC_lip L (fun k j h => by have : k = 3 := h.1; omega) A
theorem tapC_n {X : TX} {M M1 : mx_M} (L : lip cXn M M1) (A : tapC M X) : tapC M1 X := tapC_lip L (fun k j h => by have : k = 3 := h.1; omega) A
theorem wend_in {X : TX} {q i : Nat} (h1 : q ≤ i) (h2 : i < wend X q) (h : q ≤ X.2) : i < X.2 := by have := wend_le X h; omega
theorem wend_stop {X : TX} {q : Nat} (h : wend X q < X.2) (hq : q ≤ X.2) : isL (X.1 (wend X q)) = false := by
  have := fnd_so (fun i => !isL (X.1 i)) q (X.2 - q) (by show wend X q < _; omega)
  have e : (!isL (X.1 (wend X q))) = true := this
  cases f : isL (X.1 (wend X q))
  · rfl
  · rw [f] at e; exact absurd e (by decide)
theorem dend_stop {X : TX} {q : Nat} (h : dend X q < X.2) (hq : q ≤ X.2) : isD (X.1 (dend X q)) = false := by
  have := fnd_so (fun i => !isD (X.1 i)) q (X.2 - q) (by show dend X q < _; omega)
  have e : (!isD (X.1 (dend X q))) = true := this
  cases f : isD (X.1 (dend X q))
  · rfl
  · rw [f] at e; exact absurd e (by decide)
theorem nm_8 (X : TX) (q : Nat) : ∀ (k : Nat), wend X q - q ≤ 8 - k → k ≤ 8 → nm (lt8 X q) (8 - k) * 32 ^ k = nm (lt8 X q) 8
  | 0, _, _ => by rw [Nat.pow_zero, Nat.mul_one]
  | k + 1, h, h8 => by
    have i := nm_8 X q k (by omega) (by omega)
    rw [show 8 - k = (8 - (k + 1)) + 1 by omega, nm] at i
    have z : lt8 X q (8 - (k + 1)) = 0 := by unfold lt8; rw [if_neg (by omega)]
    rw [z, Nat.add_zero] at i
    rw [← i, Nat.pow_succ, Nat.mul_comm (32 ^ k) 32, ← Nat.mul_assoc]
/-- the number of letters kept -/
def m8 (a : Nat) : Nat := if a ≤ 8 then a else 8
theorem p_scanWord_l {d : Nat} {X : TX} {q : Nat} {M0 : mx_M} {Q : QQ} (hq : q ≤ X.2) (e1 : mx_I M0 3 1 = w X.2) (A0 : tapC M0 X) (hQ : ∀ M1, lip cXw M0 M1 → mx_I M1 3 3 = w (wend X q - q) → mx_J M1 3 6 = u64 (nm (lt8 X q) 8) → Q (.inl none) M1) :
    ∀ (c i : Nat) (M : mx_M), q + i + c = wend X q → mx_Tp M → lip cXw M0 M → mx_I M 3 3 = w i → mx_J M 3 6 = u64 (nm (lt8 X q) (m8 i) * 32 ^ (8 - m8 i)) → mx_W m_X8_scanWord (d + 1) 15 [.ref 3, .int (w (q + i))] [] M Q
  | 0, i, M, hc, T, L, h3, h6 => by
    have hw := wend_le X hq
    have A := tapC_w L A0
    have h1 : mx_I M 3 1 = w X.2 := by rw [(L.2 3 1 (by decide)).1]; exact e1
    have ⟨l, l1, l2, l3, l4⟩ := A
    have fin : Q (.inl none) M := by
      refine hQ M L (by rw [h3]; congr 1; omega) ?_
      rw [h6]; congr 1
      unfold m8
      split
      · have := nm_8 X q (8 - i) (by omega) (by omega)
        rw [show 8 - (8 - i) = i by omega] at this; exact this
      · rw [Nat.sub_self, Nat.pow_zero, Nat.mul_one]
    refine x_X8_scanWord_15 T _ ⟨fun _ => fin, fun z => ?_⟩
    rw [h1, w_le (by omega) (by omega)] at z
    have hi : q + i < X.2 := by omega
    refine p_signAt T A hi ⟨rfl, rfl, _, rfl, p_isLetter T (l4 _ hi).2 ⟨rfl, rfl, _, rfl, fun _ => fin, fun y => ?_⟩⟩
    have s := wend_stop (X := X) (q := q) (by omega) hq
    rw [show wend X q = q + i by omega] at s
    rw [s] at y; exact absurd y (by decide)
  | c + 1, i, M, hc, T, L, h3, h6 => by
    have hw := wend_le X hq
    have A := tapC_w L A0
    have h1 : mx_I M 3 1 = w X.2 := by rw [(L.2 3 1 (by decide)).1]; exact e1
    have ⟨l, l1, l2, l3, l4⟩ := A
    have hi : q + i < X.2 := by omega
    have il : isL (X.1 (q + i)) = true := wend_is (q := q) (by omega) (by omega)
    refine x_X8_scanWord_15 T _ ⟨fun z => ?_, fun _ => ?_⟩
    · rw [h1, w_le (by omega) (by omega)] at z; omega
    refine p_signAt T A hi ⟨rfl, rfl, _, rfl, p_isLetter T (l4 _ hi).2 ⟨rfl, rfl, _, rfl, fun y => ?_, fun _ => ?_⟩⟩
    · rw [il] at y; exact absurd y (by decide)
    rw [h3, show (8 : Int32) = w 8 from rfl, w_le (by omega) (by omega)]
    refine ⟨fun z M5 e5 => ?_, fun z => ?_⟩
    · rw [w_add1] at e5 ⊢
      have L5 : lip cXw M M5 := by rw [e5]; exact lip_setI ⟨rfl, Or.inl rfl⟩
      refine p_scanWord_l hq e1 A0 hQ c (i + 1) M5 (by omega) (lip_T L5 T) (lip_trans L L5) (by rw [e5]; exact I_eq) ?_
      rw [e5]
      show mx_J M 3 6 = _
      rw [h6]
      unfold m8
      rcases Nat.lt_or_ge 8 i with g | g
      · rw [if_neg (by omega), if_neg (by omega)]
      · rw [if_pos (by omega), if_neg (by omega), show i = 8 by omega]
    · have e8 : m8 i = i := if_pos (by omega)
      rw [h6, e8]
      have lv := isL_iff.mp il
      have gv : lt8 X q i = X.1 (q + i) - 96 := by unfold lt8; rw [if_pos (by omega)]
      refine p_signAt T A hi ⟨rfl, rfl, _, rfl, ?_⟩
      have ev : w (X.1 (q + i)) - 97 + 1 = w (lt8 X q i) := by
        rw [show (97 : Int32) = w 97 from rfl, w_sub (by omega), w_add1, gv]; congr 1; omega
      rw [ev]
      refine p_withLetter T (lt8_lt X q) (by omega) ⟨rfl, rfl, _, rfl, fun M5 e5 M6 e6 => ?_⟩
      have L5 : lip cXw M M5 := by rw [e5]; exact lip_setJ ⟨rfl, Or.inr rfl⟩
      have L6 : lip cXw M5 M6 := by rw [e6]; exact lip_setI ⟨rfl, Or.inl rfl⟩
      have e53 : mx_I M5 3 3 = w i := by rw [e5]; exact h3
      rw [e53, w_add1] at e6
      rw [w_add1]
      refine p_scanWord_l hq e1 A0 hQ c (i + 1) M6 (by omega) (lip_T L6 (lip_T L5 T)) (lip_trans L (lip_trans L5 L6)) (by rw [e6]; exact I_eq) ?_
      have e9 : m8 (i + 1) = i + 1 := if_pos (by omega)
      rw [e9, e6]
      show mx_J M5 3 6 = _
      rw [e5]; exact J_eq
theorem p_scanWord {d : Nat} {X : TX} {q : Nat} {M : mx_M} {Q : QQ} (T : mx_Tp M) (hq : q ≤ X.2) (e1 : mx_I M 3 1 = w X.2) (e2 : mx_I M 3 2 = w q) (e3 : mx_I M 3 3 = 0) (A : tapC M X) (hQ : ∀ M1, lip cX M M1 → mx_I M1 3 2 = w q → mx_I M1 3 3 = w (wend X q - q) → mx_I M1 3 4 = 1 → mx_J M1 3 6 = u64 (nm (lt8 X q) 8) → Q (.inl none) M1) : mx_W m_X8_scanWord (d + 1) 0 [.ref 3, .retAddr 0] [] M Q := by
  refine x_X8_scanWord_0 T (fun M1 f1 M2 f2 => ?_)
  have L1 : lip cX M M1 := by rw [f1]; exact lip_setI ⟨rfl, by decide, by decide⟩
  have L2 : lip cX M1 M2 := by rw [f2]; exact lip_setJ ⟨rfl, by decide, by decide⟩
  have L12 := lip_trans L1 L2
  have g1 : mx_I M2 3 1 = w X.2 := by rw [(L12.2 3 1 (by decide)).1]; exact e1
  have g2 : mx_I M2 3 2 = w q := by rw [f2]; show mx_I M1 3 2 = _; rw [f1, I_ne (by decide)]; exact e2
  have g3 : mx_I M2 3 3 = w 0 := by rw [f2]; show mx_I M1 3 3 = _; rw [f1, I_ne (by decide)]; exact e3
  have hw := wend_le X hq
  rw [g2]
  refine p_scanWord_l hq g1 (tapC_lip L12 (fun k j h => by have : k = 3 := h.1; omega) A) (fun M3 L3 g5 g6 => ?_) (wend X q - q) 0 M2 (by omega) (lip_T L12 T) (lip_refl _ _) g3 ?_
  · refine hQ M3 (lip_trans L12 (lip_mono L3 (fun k j h => by show _ ∧ _; omega))) ?_ g5 ?_ g6
    · rw [(L3.2 3 2 (by decide)).1]; exact g2
    · rw [(L3.2 3 4 (by decide)).1, f2]; show mx_I M1 3 4 = 1; rw [f1]; exact I_eq
  · rw [f2, J_eq]; show (0 : Int64) = u64 (0 * 32 ^ (8 - m8 0)); rw [Nat.zero_mul]; rfl
theorem p_scanNum_l {d : Nat} {X : TX} {q : Nat} {M0 : mx_M} {Q : QQ} (hq : q ≤ X.2) (e1 : mx_I M0 3 1 = w X.2) (A0 : tapC M0 X) (hQ : ∀ M1, lip cXn M0 M1 → mx_I M1 3 3 = w (dend X q - q) → mx_I M1 3 5 = w (dgv X q (dend X q - q)) → Q (.inl none) M1) :
    ∀ (c i : Nat) (M : mx_M), q + i + c = dend X q → mx_Tp M → lip cXn M0 M → mx_I M 3 3 = w i → mx_I M 3 5 = w (dgv X q i) → mx_W m_X8_scanNumber (d + 1) 15 [.ref 3, .int (w (q + i))] [] M Q
  | 0, i, M, hc, T, L, h3, h6 => by
    have hw := dend_le X hq
    have A := tapC_n L A0
    have h1 : mx_I M 3 1 = w X.2 := by rw [(L.2 3 1 (by decide)).1]; exact e1
    have ⟨l, l1, l2, l3, l4⟩ := A
    have fin : Q (.inl none) M := by
      have ei : dend X q - q = i := by omega
      refine hQ M L (by rw [ei]; exact h3) (by rw [ei]; exact h6)
    refine x_X8_scanNumber_15 T _ ⟨fun _ => fin, fun z => ?_⟩
    rw [h1, w_le (by omega) (by omega)] at z
    have hi : q + i < X.2 := by omega
    refine p_signAt T A hi ⟨rfl, rfl, _, rfl, p_isDigit T (l4 _ hi).2 ⟨rfl, rfl, _, rfl, fun _ => fin, fun y => ?_⟩⟩
    have s := dend_stop (X := X) (q := q) (by omega) hq
    rw [show dend X q = q + i by omega] at s
    rw [s] at y; exact absurd y (by decide)
  | c + 1, i, M, hc, T, L, h3, h6 => by
    have hw := dend_le X hq
    have A := tapC_n L A0
    have h1 : mx_I M 3 1 = w X.2 := by rw [(L.2 3 1 (by decide)).1]; exact e1
    have ⟨l, l1, l2, l3, l4⟩ := A
    have hi : q + i < X.2 := by omega
    have il : isD (X.1 (q + i)) = true := dend_is (q := q) (by omega) (by omega)
    refine x_X8_scanNumber_15 T _ ⟨fun z => ?_, fun _ => ?_⟩
    · rw [h1, w_le (by omega) (by omega)] at z; omega
    refine p_signAt T A hi ⟨rfl, rfl, _, rfl, p_isDigit T (l4 _ hi).2 ⟨rfl, rfl, _, rfl, fun y => ?_, fun _ => ?_⟩⟩
    · rw [il] at y; exact absurd y (by decide)
    have lv := isD_iff.mp il
    refine p_signAt T A hi ⟨rfl, rfl, _, rfl, fun M5 e5 M6 e6 => ?_⟩
    have ev : 10 * mx_I M 3 5 + w (X.1 (q + i)) - 48 = w (dgv X q (i + 1)) := by
      rw [h6, show (10 : Int32) = w 10 from rfl, show (48 : Int32) = w 48 from rfl, w_mul, w_add, w_sub (by omega), dgv]; congr 1; omega
    rw [ev] at e5
    have L5 : lip cXn M M5 := by rw [e5]; exact lip_setI ⟨rfl, Or.inr rfl⟩
    have L6 : lip cXn M5 M6 := by rw [e6]; exact lip_setI ⟨rfl, Or.inl rfl⟩
    have e53 : mx_I M5 3 3 = w i := by rw [e5, I_ne (by decide)]; exact h3
    rw [e53, w_add1] at e6
    rw [w_add1]
    refine p_scanNum_l hq e1 A0 hQ c (i + 1) M6 (by omega) (lip_T L6 (lip_T L5 T)) (lip_trans L (lip_trans L5 L6)) (by rw [e6]; exact I_eq) ?_
    rw [e6, I_ne (by decide), e5]; exact I_eq
theorem p_scanNumber {d : Nat} {X : TX} {q : Nat} {M : mx_M} {Q : QQ} (T : mx_Tp M) (hq : q ≤ X.2) (e1 : mx_I M 3 1 = w X.2) (e2 : mx_I M 3 2 = w q) (e3 : mx_I M 3 3 = 0) (A : tapC M X) (hQ : ∀ M1, lip cX M M1 → mx_I M1 3 2 = w q → mx_I M1 3 3 = w (dend X q - q) → mx_I M1 3 4 = 2 → mx_I M1 3 5 = w (dgv X q (dend X q - q)) → Q (.inl none) M1) : mx_W m_X8_scanNumber (d + 1) 0 [.ref 3, .retAddr 0] [] M Q := by
  refine x_X8_scanNumber_0 T (fun M1 f1 M2 f2 => ?_)
  have L1 : lip cX M M1 := by rw [f1]; exact lip_setI ⟨rfl, by decide, by decide⟩
  have L2 : lip cX M1 M2 := by rw [f2]; exact lip_setI ⟨rfl, by decide, by decide⟩
  have L12 := lip_trans L1 L2
  have g1 : mx_I M2 3 1 = w X.2 := by rw [(L12.2 3 1 (by decide)).1]; exact e1
  have g2 : mx_I M2 3 2 = w q := by rw [f2, I_ne (by decide), f1, I_ne (by decide)]; exact e2
  have g3 : mx_I M2 3 3 = w 0 := by rw [f2, I_ne (by decide), f1, I_ne (by decide)]; exact e3
  have hw := dend_le X hq
  rw [g2]
  refine p_scanNum_l hq g1 (tapC_lip L12 (fun k j h => by have : k = 3 := h.1; omega) A) (fun M3 L3 g5 g6 => ?_) (dend X q - q) 0 M2 (by omega) (lip_T L12 T) (lip_refl _ _) g3 ?_
  · refine hQ M3 (lip_trans L12 (lip_mono L3 (fun k j h => by show _ ∧ _; omega))) ?_ g5 ?_ g6
    · rw [(L3.2 3 2 (by decide)).1]; exact g2
    · rw [(L3.2 3 4 (by decide)).1, f2, I_ne (by decide), f1]; exact I_eq
  · rw [f2]; exact I_eq
/-- a step to the token at q behind blanks -/
theorem p_tok {d : Nat} {X : TX} {q : Nat} {M0 M : mx_M} {Q : QQ} (T : mx_Tp M) (hq : q < X.2) (L : lip cX M0 M) (e1 : mx_I M 3 1 = w X.2) (e2 : mx_I M 3 2 = w q) (e3 : mx_I M 3 3 = 0) (A : tapC M X) (hQ : ∀ M1, lip cX M0 M1 → tkC M1 X q → Q (.inl none) M1) :
    mx_W m_X8_isLetter (d + 1) 0 [.int (w (X.1 q))] [] M (fun o M56 => mx_sh M56 = mx_sh M ∧ mx_R M56 = mx_R M ∧ (∃ x57 : Bool, o = .inl (some (.int (mx_b x57))) ∧ ((x57 = false → (mx_W m_X8_isDigit (d + 1) 0 [.int (w (X.1 q))] [] M56 (fun o M58 => mx_sh M58 = mx_sh M56 ∧ mx_R M58 = mx_R M56 ∧ (∃ x59 : Bool, o = .inl (some (.int (mx_b x59))) ∧ ((x59 = false → (mx_W m_X8_isMark (d + 1) 0 [.int (w (X.1 q))] [] M58 (fun o M60 => mx_sh M60 = mx_sh M58 ∧ mx_R M60 = mx_R M58 ∧ (∃ x61 : Bool, o = .inl (some (.int (mx_b x61))) ∧ ((x61 = false → (∀ M62, M62 = mx_setI M60 3 4 4 → (∀ M63, M63 = mx_setI M62 3 5 (w (X.1 q)) → (∀ M64, M64 = mx_setI M63 3 3 1 → Q (.inl none) M64)))) ∧ (x61 = true → (∀ M65, M65 = mx_setI M60 3 4 3 → (∀ M66, M66 = mx_setI M65 3 5 (w (X.1 q)) → (∀ M67, M67 = mx_setI M66 3 3 1 → Q (.inl none) M67))))))))) ∧ (x59 = true → (mx_W m_X8_scanNumber (d + 1) 0 [.ref 3, .retAddr 0] [] M58 (fun o M68 => mx_sh M68 = mx_sh M58 ∧ mx_R M68 = mx_R M58 ∧ (o = .inl none ∧ Q (.inl none) M68))))))))) ∧ (x57 = true → (mx_W m_X8_scanWord (d + 1) 0 [.ref 3, .retAddr 0] [] M56 (fun o M69 => mx_sh M69 = mx_sh M56 ∧ mx_R M69 = mx_R M56 ∧ (o = .inl none ∧ Q (.inl none) M69))))))) := by
  have ⟨l, l1, l2, l3, l4⟩ := A
  have hk := knd_cases hq
  have c : X.1 q < 256 := (l4 q hq).2
  have mark : ∀ (kd : Nat) (M1 : mx_M), knd X q = kd → sz X q = 1 → (kd = 3 ∨ kd = 4) → M1 = mx_setI (mx_setI (mx_setI M 3 4 (w kd)) 3 5 (w (X.1 q))) 3 3 1 → Q (.inl none) M1 := by
    intro kd M1 hkd hsz h34 em
    have L1 : lip cX M M1 := by
      rw [em]
      exact lip_trans (lip_trans (lip_setI ⟨rfl, by decide, by decide⟩) (lip_setI ⟨rfl, by decide, by decide⟩)) (lip_setI ⟨rfl, by decide, by decide⟩)
    refine hQ M1 (lip_trans L L1) ⟨⟨?_, ?_, ?_, ?_⟩, fun y => by omega, fun y => by omega, fun y => ?_, tapC_lip L1 (fun k j h => by have : k = 3 := h.1; omega) A, by omega⟩
    · rw [(L1.2 3 1 (by decide)).1]; exact e1
    · rw [em, I_ne (by decide), I_ne (by decide), I_ne (by decide)]; exact e2
    · rw [em, I_eq, hsz]; rfl
    · rw [em, I_ne (by decide), I_ne (by decide), I_eq, hkd]
    · rw [em, I_ne (by decide), I_eq]
  refine p_isLetter T c ⟨rfl, rfl, _, rfl, fun y => p_isDigit T c ⟨rfl, rfl, _, rfl, fun z => p_isMark T c ⟨rfl, rfl, _, rfl, fun x M1 f1 M2 f2 M3 f3 => ?_, fun x M1 f1 M2 f2 M3 f3 => ?_⟩, fun z => ?_⟩, fun y => ?_⟩
  · have hh : knd X q = 4 ∧ sz X q = 1 := by
      rcases hk with k | k | k | k
      · rw [k.1] at y; cases y
      · rw [k.2.1] at z; cases z
      · rw [k.2.2.1] at x; cases x
      · exact k.2.2.2
    exact mark 4 M3 hh.1 hh.2 (Or.inr rfl) (by rw [f3, f2, f1]; rfl)
  · have hh : knd X q = 3 ∧ sz X q = 1 := by
      rcases hk with k | k | k | k
      · rw [k.1] at y; cases y
      · rw [k.2.1] at z; cases z
      · exact k.2.2.2
      · rw [k.2.2.1] at x; cases x
    exact mark 3 M3 hh.1 hh.2 (Or.inl rfl) (by rw [f3, f2, f1]; rfl)
  · have hh : knd X q = 2 ∧ sz X q = dend X q - q := by
      rcases hk with k | k | k | k
      · rw [k.1] at y; cases y
      · exact k.2.2
      · rw [k.2.1] at z; cases z
      · rw [k.2.1] at z; cases z
    refine p_scanNumber T (by omega) e1 e2 e3 A (fun M1 L1 g2 g3 g4 g5 => ⟨L1.1.1, L1.1.2.1, rfl, hQ M1 (lip_trans L L1) ⟨⟨?_, g2, ?_, ?_⟩, fun y => by omega, fun _ _ => ?_, fun y => by omega, tapC_lip L1 (fun k j h => by have : k = 3 := h.1; omega) A, by omega⟩⟩)
    · rw [(L1.2 3 1 (by decide)).1]; exact e1
    · rw [hh.2]; exact g3
    · rw [hh.1]; exact g4
    · rw [hh.2]; exact g5
  · have hh : knd X q = 1 ∧ sz X q = wend X q - q := by
      rcases hk with k | k | k | k
      · exact k.2
      · rw [k.1] at y; cases y
      · rw [k.1] at y; cases y
      · rw [k.1] at y; cases y
    refine p_scanWord T (by omega) e1 e2 e3 A (fun M1 L1 g2 g3 g4 g5 => ⟨L1.1.1, L1.1.2.1, rfl, hQ M1 (lip_trans L L1) ⟨⟨?_, g2, ?_, ?_⟩, fun _ => g5, fun y => by omega, fun y => by omega, tapC_lip L1 (fun k j h => by have : k = 3 := h.1; omega) A, by omega⟩⟩)
    · rw [(L1.2 3 1 (by decide)).1]; exact e1
    · rw [hh.2]; exact g3
    · rw [hh.1]; exact g4
