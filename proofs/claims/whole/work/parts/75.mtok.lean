/-! the reference's tokens -/
def tapM (M : mx_M) (X : TX) : Prop := mx_I M 58 19 = w X.2 ∧ X.2 ≤ 700 ∧ ∀ i, i < X.2 → mx_I M 70 i = w (X.1 i) ∧ X.1 i < 256
def m4 (a : Nat) : Nat := if a ≤ 4 then a else 4
def tkM (M : mx_M) (X : TX) (q : Nat) : Prop := (mx_I M 58 20 = w (q + sz X q) ∧ mx_I M 58 21 = w (knd X q) ∧ mx_I M 58 22 = w q ∧ mx_I M 58 23 = w (sz X q)) ∧ (knd X q = 1 → mx_J M 58 26 = u64 (nm (lt8 X q) (m8 (sz X q)))) ∧ (knd X q = 2 → mx_I M 58 24 = w (dgv X q (m4 (sz X q)))) ∧ (knd X q = 3 → mx_I M 58 25 = w (X.1 q)) ∧ tapM M X ∧ q ≤ X.2
abbrev mX : Nat → Nat → Prop := fun k j => k = 58 ∧ 20 ≤ j ∧ j ≤ 26
theorem tapM_lip {P : Nat → Nat → Prop} {X : TX} {M M1 : mx_M} (L : lip P M M1) (hP : ∀ k j, P k j → ¬ k = 70 ∧ ¬ (k = 58 ∧ j = 19)) (A : tapM M X) : tapM M1 X := by
  refine ⟨?_, A.2.1, fun i hi => ?_⟩
  · rw [(L.2 58 19 (fun z => (hP 58 19 z).2 ⟨rfl, rfl⟩)).1]; exact A.1
  · rw [(L.2 70 i (fun z => (hP 70 i z).1 rfl)).1]; exact A.2.2 i hi
theorem tapM_X {X : TX} {M M1 : mx_M} (L : lip mX M M1) (A : tapM M X) : tapM M1 X := tapM_lip L (fun k j h => by omega) A
theorem q_byteAt {d i : Nat} {X : TX} {M : mx_M} {Q : QQ} (T : mx_Tp M) (A : tapM M X) (hi : i < X.2) (hq : Q (.inl (some (.int (w (X.1 i))))) M) : mx_W m_X11_byteAt d 0 [.ref 58, .int (w i)] [] M Q := by
  have h7 := A.2.1
  refine x_X11_byteAt_0 T _ ?_
  rw [A.1, w_nat (by omega), w_le (by omega) (by omega), (A.2.2 i hi).1]
  exact ⟨fun z => absurd z (by omega), fun _ => ⟨w_in (by omega) (by decide), hq⟩⟩
theorem q_byteEnd {d i : Nat} {X : TX} {M : mx_M} {Q : QQ} (T : mx_Tp M) (A : tapM M X) (hi : i = X.2) (hq : Q (.inl (some (.int 0))) M) : mx_W m_X11_byteAt d 0 [.ref 58, .int (w i)] [] M Q := by
  have h7 := A.2.1
  refine x_X11_byteAt_0 T _ ?_
  rw [A.1, w_le (by omega) (by omega)]
  exact ⟨fun _ => hq, fun z => absurd z (by omega)⟩
theorem q_isLetter {d c : Nat} {M : mx_M} {Q : QQ} (T : mx_Tp M) (hc : c < 256) (hq : Q (.inl (some (.int (mx_b (isL c))))) M) : mx_W m_X11_isLetter d 0 [.int (w c)] [] M Q := by
  refine x_X11_isLetter_0 T _ ?_
  rw [show (97 : Int32) = w 97 from rfl, show (122 : Int32) = w 122 from rfl, w_lt (by omega) (by omega), w_lt (by omega) (by omega)]
  unfold isL at hq
  refine ⟨fun z => ?_, fun z => ⟨fun y => ?_, fun y => ?_⟩⟩
  · rw [decide_eq_false (by omega)] at hq; exact hq
  · rw [decide_eq_false (by omega)] at hq; exact hq
  · rw [decide_eq_true (by omega)] at hq; exact hq
theorem q_isDigit {d c : Nat} {M : mx_M} {Q : QQ} (T : mx_Tp M) (hc : c < 256) (hq : Q (.inl (some (.int (mx_b (isD c))))) M) : mx_W m_X11_isDigit d 0 [.int (w c)] [] M Q := by
  refine x_X11_isDigit_0 T _ ?_
  rw [show (48 : Int32) = w 48 from rfl, show (57 : Int32) = w 57 from rfl, w_lt (by omega) (by omega), w_lt (by omega) (by omega)]
  unfold isD at hq
  refine ⟨fun z => ?_, fun z => ⟨fun y => ?_, fun y => ?_⟩⟩
  · rw [decide_eq_false (by omega)] at hq; exact hq
  · rw [decide_eq_false (by omega)] at hq; exact hq
  · rw [decide_eq_true (by omega)] at hq; exact hq
theorem tkM_kd {X : TX} {q : Nat} : knd X q < 5 := by
  unfold knd; repeat' split
  all_goals omega
theorem q_isSign {d c : Nat} {X : TX} {q : Nat} {M : mx_M} {Q : QQ} (T : mx_Tp M) (A : tkM M X q) (hc : c < 256) (hq : Q (.inl (some (.int (mx_b (decide (knd X q = 3 ∧ X.1 q = c)))))) M) : mx_W m_X11_isSign d 0 [.ref 58, .int (w c)] [] M Q := by
  obtain ⟨⟨a1, a2, a3, a4⟩, a5, a6, a7, a8, a9⟩ := A
  have hk := tkM_kd (X := X) (q := q)
  refine x_X11_isSign_0 T _ ?_
  rw [a2, show (3 : Int32) = w 3 from rfl, w_inj (by omega) (by omega)]
  refine ⟨fun z => ?_, fun z => ?_⟩
  · rw [decide_eq_false (fun y => z y.1)] at hq; exact hq
  · rw [a7 z]
    have h5 := (a8.2.2 q (knd_lt (by omega))).2
    rw [w_inj (by omega) (by omega)]
    refine ⟨fun y => ?_, fun y => ?_⟩
    · rw [decide_eq_false (fun x => y x.2)] at hq; exact hq
    · rw [decide_eq_true ⟨z, y⟩] at hq; exact hq
/-- the end of a token -/
theorem q_goes_e {d : Nat} {X : TX} {q e : Nat} {M0 M : mx_M} {Q : QQ} (T : mx_Tp M) (L : lip mX M0 M) (A : tapM M X) (hq : q ≤ X.2) (he : e = q + sz X q) (h20 : mx_I M 58 20 = w e) (h21 : mx_I M 58 21 = w (knd X q)) (h22 : mx_I M 58 22 = w q) (h26 : knd X q = 1 → mx_J M 58 26 = u64 (nm (lt8 X q) (m8 (sz X q)))) (h24 : knd X q = 2 → mx_I M 58 24 = w (dgv X q (m4 (sz X q)))) (h25 : knd X q = 3 → mx_I M 58 25 = w (X.1 q)) (hQ : ∀ M1, lip mX M0 M1 → tkM M1 X q → Q (.inl none) M1) : mx_W m_X11_goes (d + 1) 331 [.ref 58, .retAddr 0] [] M Q := by
  refine x_X11_goes_331 T (fun M1 f1 => ?_)
  rw [h20, h22, he, w_sub (by omega), Nat.add_sub_cancel_left] at f1
  have L1 : lip mX M M1 := by rw [f1]; exact lip_setI ⟨rfl, by decide, by decide⟩
  refine hQ M1 (lip_trans L L1) ⟨⟨?_, ?_, ?_, ?_⟩, fun y => ?_, fun y => ?_, fun y => ?_, tapM_X L1 A, hq⟩
  · rw [f1, I_ne (by decide), h20, he]
  · rw [f1, I_ne (by decide), h21]
  · rw [f1, I_ne (by decide), h22]
  · rw [f1, I_eq]
  · rw [f1]; exact h26 y
  · rw [f1, I_ne (by decide)]; exact h24 y
  · rw [f1, I_ne (by decide)]; exact h25 y
theorem q_goes_w {d : Nat} {X : TX} {q : Nat} {M0 : mx_M} {Q : QQ} (hq : q ≤ X.2) (hk : knd X q = 1) (hs : sz X q = wend X q - q) (A0 : tapM M0 X) (hQ : ∀ M1, lip mX M0 M1 → tkM M1 X q → Q (.inl none) M1) :
    ∀ (c i : Nat) (M : mx_M), q + i + c = wend X q → mx_Tp M → lip mX M0 M → mx_I M 58 20 = w (q + i) → mx_I M 58 22 = w q → mx_J M 58 26 = u64 (nm (lt8 X q) (m8 i)) → mx_W m_X11_goes (d + 1) 108 [.ref 58, .retAddr 0] [] M Q
  | 0, i, M, hc, T, L, h20, h22, h26 => by
    have hw := wend_le X hq
    have A := tapM_X L A0
    have fin : ∀ M5, M5 = mx_setI M 58 21 1 → mx_W m_X11_goes (d + 1) 331 [.ref 58, .retAddr 0] [] M5 Q := fun M5 f5 => by
      have L5 : lip mX M M5 := by rw [f5]; exact lip_setI ⟨rfl, by decide, by decide⟩
      refine q_goes_e (q := q) (e := q + i) (lip_T L5 T) (lip_trans L L5) (tapM_X L5 A) hq (by omega) ?_ ?_ ?_ (fun _ => ?_) (fun y => by omega) (fun y => by omega) hQ
      · rw [f5, I_ne (by decide)]; exact h20
      · rw [f5, I_eq, hk]; rfl
      · rw [f5, I_ne (by decide)]; exact h22
      · rw [f5, show sz X q = i by omega]; exact h26
    refine x_X11_goes_108 T ?_
    rw [h20]
    rcases Nat.lt_or_ge (q + i) X.2 with hi | hi
    · refine q_byteAt T A hi ⟨rfl, rfl, _, rfl, q_isLetter T (A.2.2 _ hi).2 ⟨rfl, rfl, _, rfl, fun _ => fin, fun y => ?_⟩⟩
      have s := wend_stop (X := X) (q := q) (by omega) hq
      rw [show wend X q = q + i by omega] at s
      rw [s] at y; exact absurd y (by decide)
    · exact q_byteEnd T A (by omega) ⟨rfl, rfl, _, rfl, q_isLetter (c := 0) T (by omega) ⟨rfl, rfl, _, rfl, fun _ => fin, fun y => absurd y (by decide)⟩⟩
  | c + 1, i, M, hc, T, L, h20, h22, h26 => by
    have hw := wend_le X hq
    have A := tapM_X L A0
    have h7 := A.2.1
    have hi : q + i < X.2 := by omega
    have il : isL (X.1 (q + i)) = true := wend_is (q := q) (by omega) (by omega)
    have nxt : ∀ M3, mx_Tp M3 → lip mX M0 M3 → mx_I M3 58 20 = w (q + i) → mx_I M3 58 22 = w q → mx_J M3 58 26 = u64 (nm (lt8 X q) (m8 (i + 1))) → mx_W m_X11_goes (d + 1) 159 [.ref 58, .retAddr 0] [] M3 Q := fun M3 T3 L3 g20 g22 g26 => by
      refine x_X11_goes_159 T3 (fun M4 f4 => ?_)
      rw [g20, w_add1] at f4
      have L4 : lip mX M3 M4 := by rw [f4]; exact lip_setI ⟨rfl, by decide, by decide⟩
      refine q_goes_w hq hk hs A0 hQ c (i + 1) M4 (by omega) (lip_T L4 T3) (lip_trans L3 L4) (by rw [f4]; exact I_eq) (by rw [f4, I_ne (by decide)]; exact g22) (by rw [f4]; exact g26)
    refine x_X11_goes_108 T ?_
    rw [h20]
    refine q_byteAt T A hi ⟨rfl, rfl, _, rfl, q_isLetter T (A.2.2 _ hi).2 ⟨rfl, rfl, _, rfl, fun y => ?_, fun _ => ?_⟩⟩
    · rw [il] at y; exact absurd y (by decide)
    rw [h20, h22, w_sub (by omega), show (8 : Int32) = w 8 from rfl, w_le (by omega) (by omega)]
    refine ⟨fun z => nxt M T L h20 h22 ?_, fun z => q_byteAt T A hi ⟨rfl, rfl, _, rfl, fun M5 f5 => ?_⟩⟩
    · rw [h26]
      unfold m8
      rcases Nat.lt_or_ge 8 i with g | g
      · rw [if_neg (by omega), if_neg (by omega)]
      · rw [if_pos (by omega), if_neg (by omega), show i = 8 by omega]
    · have lv := isL_iff.mp il
      have e8 : m8 i = i := if_pos (by omega)
      have e9 : m8 (i + 1) = i + 1 := if_pos (by omega)
      have gv : lt8 X q i = X.1 (q + i) - 96 := by unfold lt8; rw [if_pos (by omega)]
      have n40 := nm_40 (lt8_lt X q) (m := i) (by omega)
      rw [h26, e8, show (96 : Int32) = w 96 from rfl, w_sub (by omega), u_i64 (by omega), u_shl5 (by omega) (by omega), ← gv] at f5
      have L5 : lip mX M M5 := by rw [f5]; exact lip_setJ ⟨rfl, by decide, by decide⟩
      refine nxt M5 (lip_T L5 T) (lip_trans L L5) (by rw [f5]; exact h20) (by rw [f5]; exact h22) ?_
      rw [f5, J_eq, e9]; rfl
theorem q_goes_d {d : Nat} {X : TX} {q : Nat} {M0 : mx_M} {Q : QQ} (hq : q ≤ X.2) (hk : knd X q = 2) (hs : sz X q = dend X q - q) (A0 : tapM M0 X) (hQ : ∀ M1, lip mX M0 M1 → tkM M1 X q → Q (.inl none) M1) :
    ∀ (c i : Nat) (M : mx_M), q + i + c = dend X q → mx_Tp M → lip mX M0 M → mx_I M 58 20 = w (q + i) → mx_I M 58 22 = w q → mx_I M 58 24 = w (dgv X q (m4 i)) → mx_W m_X11_goes (d + 1) 187 [.ref 58, .retAddr 0] [] M Q
  | 0, i, M, hc, T, L, h20, h22, h26 => by
    have hw := dend_le X hq
    have A := tapM_X L A0
    have fin : ∀ M5, M5 = mx_setI M 58 21 2 → mx_W m_X11_goes (d + 1) 331 [.ref 58, .retAddr 0] [] M5 Q := fun M5 f5 => by
      have L5 : lip mX M M5 := by rw [f5]; exact lip_setI ⟨rfl, by decide, by decide⟩
      refine q_goes_e (q := q) (e := q + i) (lip_T L5 T) (lip_trans L L5) (tapM_X L5 A) hq (by omega) ?_ ?_ ?_ (fun y => by omega) (fun _ => ?_) (fun y => by omega) hQ
      · rw [f5, I_ne (by decide)]; exact h20
      · rw [f5, I_eq, hk]; rfl
      · rw [f5, I_ne (by decide)]; exact h22
      · rw [f5, I_ne (by decide), show sz X q = i by omega]; exact h26
    refine x_X11_goes_187 T ?_
    rw [h20]
    rcases Nat.lt_or_ge (q + i) X.2 with hi | hi
    · refine q_byteAt T A hi ⟨rfl, rfl, _, rfl, q_isDigit T (A.2.2 _ hi).2 ⟨rfl, rfl, _, rfl, fun _ => fin, fun y => ?_⟩⟩
      have s := dend_stop (X := X) (q := q) (by omega) hq
      rw [show dend X q = q + i by omega] at s
      rw [s] at y; exact absurd y (by decide)
    · exact q_byteEnd T A (by omega) ⟨rfl, rfl, _, rfl, q_isDigit (c := 0) T (by omega) ⟨rfl, rfl, _, rfl, fun _ => fin, fun y => absurd y (by decide)⟩⟩
  | c + 1, i, M, hc, T, L, h20, h22, h26 => by
    have hw := dend_le X hq
    have A := tapM_X L A0
    have h7 := A.2.1
    have hi : q + i < X.2 := by omega
    have il : isD (X.1 (q + i)) = true := dend_is (q := q) (by omega) (by omega)
    have nxt : ∀ M3, mx_Tp M3 → lip mX M0 M3 → mx_I M3 58 20 = w (q + i) → mx_I M3 58 22 = w q → mx_I M3 58 24 = w (dgv X q (m4 (i + 1))) → mx_W m_X11_goes (d + 1) 237 [.ref 58, .retAddr 0] [] M3 Q := fun M3 T3 L3 g20 g22 g26 => by
      refine x_X11_goes_237 T3 (fun M4 f4 => ?_)
      rw [g20, w_add1] at f4
      have L4 : lip mX M3 M4 := by rw [f4]; exact lip_setI ⟨rfl, by decide, by decide⟩
      refine q_goes_d hq hk hs A0 hQ c (i + 1) M4 (by omega) (lip_T L4 T3) (lip_trans L3 L4) (by rw [f4]; exact I_eq) (by rw [f4, I_ne (by decide)]; exact g22) (by rw [f4, I_ne (by decide)]; exact g26)
    refine x_X11_goes_187 T ?_
    rw [h20]
    refine q_byteAt T A hi ⟨rfl, rfl, _, rfl, q_isDigit T (A.2.2 _ hi).2 ⟨rfl, rfl, _, rfl, fun y => ?_, fun _ => ?_⟩⟩
    · rw [il] at y; exact absurd y (by decide)
    rw [h20, h22, w_sub (by omega), show (4 : Int32) = w 4 from rfl, w_le (by omega) (by omega)]
    refine ⟨fun z => nxt M T L h20 h22 ?_, fun z => q_byteAt T A hi ⟨rfl, rfl, _, rfl, fun M5 f5 => ?_⟩⟩
    · rw [h26]
      unfold m4
      rcases Nat.lt_or_ge 4 i with g | g
      · rw [if_neg (by omega), if_neg (by omega)]
      · rw [if_pos (by omega), if_neg (by omega), show i = 4 by omega]
    · have lv := isD_iff.mp il
      have e8 : m4 i = i := if_pos (by omega)
      have e9 : m4 (i + 1) = i + 1 := if_pos (by omega)
      have ev : 10 * w (dgv X q i) + w (X.1 (q + i)) - 48 = w (dgv X q (i + 1)) := by
        rw [show (10 : Int32) = w 10 from rfl, show (48 : Int32) = w 48 from rfl, w_mul, w_add, w_sub (by omega), dgv]; congr 1; omega
      rw [h26, e8, ev] at f5
      have L5 : lip mX M M5 := by rw [f5]; exact lip_setI ⟨rfl, by decide, by decide⟩
      refine nxt M5 (lip_T L5 T) (lip_trans L L5) (by rw [f5, I_ne (by decide)]; exact h20) (by rw [f5, I_ne (by decide)]; exact h22) ?_
      rw [f5, I_eq, e9]
theorem q_goes_t {d : Nat} {X : TX} {q : Nat} {M0 M : mx_M} {Q : QQ} (T : mx_Tp M) (L : lip mX M0 M) (A0 : tapM M0 X) (hq : q ≤ X.2) (h20 : mx_I M 58 20 = w q) (hQ : ∀ M1, lip mX M0 M1 → tkM M1 X q → Q (.inl none) M1) : mx_W m_X11_goes (d + 1) 50 [.ref 58, .retAddr 0] [] M Q := by
  have A := tapM_X L A0
  have h7 := A.2.1
  refine x_X11_goes_50 T (fun M1 f1 M2 f2 M3 f3 => ?_)
  rw [h20] at f1
  have L1 : lip mX M M1 := by rw [f1]; exact lip_setI ⟨rfl, by decide, by decide⟩
  have L2 : lip mX M1 M2 := by rw [f2]; exact lip_setJ ⟨rfl, by decide, by decide⟩
  have L3 : lip mX M2 M3 := by rw [f3]; exact lip_setI ⟨rfl, by decide, by decide⟩
  have L03 := lip_trans L1 (lip_trans L2 L3)
  have T3 := lip_T L03 T
  have A3 := tapM_X L03 A
  have g20 : mx_I M3 58 20 = w q := by rw [f3, I_ne (by decide), f2]; show mx_I M1 58 20 = _; rw [f1, I_ne (by decide)]; exact h20
  have g22 : mx_I M3 58 22 = w q := by rw [f3, I_ne (by decide), f2]; show mx_I M1 58 22 = _; rw [f1]; exact I_eq
  have g24 : mx_I M3 58 24 = 0 := by rw [f3]; exact I_eq
  have g26 : mx_J M3 58 26 = 0 := by rw [f3]; show mx_J M2 58 26 = 0; rw [f2]; exact J_eq
  rw [g20]
  rcases Nat.lt_or_ge q X.2 with hi | hi
  · have c := (A.2.2 q hi).2
    refine q_byteAt T3 A3 hi ⟨rfl, rfl, _, rfl, fun M6 f6 => ?_⟩
    have L6 : lip mX M3 M6 := by rw [f6]; exact lip_setI ⟨rfl, by decide, by decide⟩
    have L06 := lip_trans L (lip_trans L03 L6)
    have T6 := lip_T L6 T3
    have A6 := tapM_X L6 A3
    have k20 : mx_I M6 58 20 = w q := by rw [f6, I_ne (by decide)]; exact g20
    have k22 : mx_I M6 58 22 = w q := by rw [f6, I_ne (by decide)]; exact g22
    have k24 : mx_I M6 58 24 = 0 := by rw [f6, I_ne (by decide)]; exact g24
    have k25 : mx_I M6 58 25 = w (X.1 q) := by rw [f6, I_eq]
    have k26 : mx_J M6 58 26 = 0 := by rw [f6]; exact g26
    have k19 := A6.1
    have hk := knd_cases hi
    rw [k20, k19, w_lt (by omega) (by omega)]
    refine ⟨fun _ => q_isLetter T6 c ⟨rfl, rfl, _, rfl, fun y => q_isDigit T6 c ⟨rfl, rfl, _, rfl, fun z M11 f11 => ?_, fun z => ?_⟩, fun y => ?_⟩, fun y => absurd hi y⟩
    · rw [k20, w_add1] at f11
      have L11 : lip mX M6 M11 := by rw [f11]; exact lip_setI ⟨rfl, by decide, by decide⟩
      have fin : ∀ (kd : Nat) (M12 : mx_M), knd X q = kd → sz X q = 1 → (kd = 3 ∨ kd = 4) → M12 = mx_setI M11 58 21 (w kd) → mx_W m_X11_goes (d + 1) 331 [.ref 58, .retAddr 0] [] M12 Q := by
        intro kd M12 hkd hsz h34 f12
        have L12 : lip mX M11 M12 := by rw [f12]; exact lip_setI ⟨rfl, by decide, by decide⟩
        refine q_goes_e (q := q) (e := q + 1) (lip_T L12 (lip_T L11 T6)) (lip_trans L06 (lip_trans L11 L12)) (tapM_X (lip_trans L11 L12) A6) hq (by omega) ?_ ?_ ?_ (fun y => by omega) (fun y => by omega) (fun _ => ?_) hQ
        · rw [f12, I_ne (by decide), f11, I_eq]
        · rw [f12, I_eq, hkd]
        · rw [f12, I_ne (by decide), f11, I_ne (by decide)]; exact k22
        · rw [f12, I_ne (by decide), f11, I_ne (by decide)]; exact k25
      have yes : (X.1 q = 59 ∨ X.1 q = 40 ∨ X.1 q = 41 ∨ X.1 q = 43 ∨ X.1 q = 45 ∨ X.1 q = 42 ∨ X.1 q = 47 ∨ X.1 q = 60 ∨ X.1 q = 61) → ∀ M12, M12 = mx_setI M11 58 21 3 → mx_W m_X11_goes (d + 1) 331 [.ref 58, .retAddr 0] [] M12 Q := by
        intro h M12 f12
        have hK : isK (X.1 q) = true := decide_eq_true h
        have hh : knd X q = 3 ∧ sz X q = 1 := by
          rcases hk with k | k | k | k
          · rw [k.1] at y; cases y
          · rw [k.2.1] at z; cases z
          · exact k.2.2.2
          · rw [k.2.2.1] at hK; cases hK
        exact fin 3 M12 hh.1 hh.2 (Or.inl rfl) f12
      have no : ¬ (X.1 q = 59 ∨ X.1 q = 40 ∨ X.1 q = 41 ∨ X.1 q = 43 ∨ X.1 q = 45 ∨ X.1 q = 42 ∨ X.1 q = 47 ∨ X.1 q = 60 ∨ X.1 q = 61) → ∀ M12, M12 = mx_setI M11 58 21 4 → mx_W m_X11_goes (d + 1) 331 [.ref 58, .retAddr 0] [] M12 Q := by
        intro h M12 f12
        have hK : isK (X.1 q) = false := decide_eq_false h
        have hh : knd X q = 4 ∧ sz X q = 1 := by
          rcases hk with k | k | k | k
          · rw [k.1] at y; cases y
          · rw [k.2.1] at z; cases z
          · rw [k.2.2.1] at hK; cases hK
          · exact k.2.2.2
        exact fin 4 M12 hh.1 hh.2 (Or.inr rfl) f12
      rw [show (59 : Int32) = w 59 from rfl, show (40 : Int32) = w 40 from rfl, show (41 : Int32) = w 41 from rfl, show (43 : Int32) = w 43 from rfl, show (45 : Int32) = w 45 from rfl, show (42 : Int32) = w 42 from rfl, show (47 : Int32) = w 47 from rfl, show (60 : Int32) = w 60 from rfl, show (61 : Int32) = w 61 from rfl]
      iterate 9 rw [w_inj (a := X.1 q) (by omega) (by omega)]
      exact ⟨fun z => yes (by omega), fun _ => ⟨fun z => yes (by omega), fun _ => ⟨fun z => yes (by omega), fun _ => ⟨fun z => yes (by omega), fun _ => ⟨fun z => yes (by omega), fun _ => ⟨fun z => yes (by omega), fun _ => ⟨fun z => yes (by omega), fun _ => ⟨fun z => yes (by omega), fun _ => ⟨fun z => no (by omega), fun z => yes (by omega)⟩⟩⟩⟩⟩⟩⟩⟩⟩
    · have hh : knd X q = 2 ∧ sz X q = dend X q - q := by
        rcases hk with k | k | k | k
        · rw [k.1] at y; cases y
        · exact k.2.2
        · rw [k.2.1] at z; cases z
        · rw [k.2.1] at z; cases z
      have hd := dend_le X hq
      exact q_goes_d hq hh.1 hh.2 A0 hQ (dend X q - q) 0 M6 (by omega) T6 L06 k20 k22 k24
    · have hh : knd X q = 1 ∧ sz X q = wend X q - q := by
        rcases hk with k | k | k | k
        · exact k.2
        · rw [k.1] at y; cases y
        · rw [k.1] at y; cases y
        · rw [k.1] at y; cases y
      have hd := wend_le X hq
      exact q_goes_w hq hh.1 hh.2 A0 hQ (wend X q - q) 0 M6 (by omega) T6 L06 k20 k22 k26
  · refine q_byteEnd T3 A3 (by omega) ⟨rfl, rfl, _, rfl, fun M6 f6 => ?_⟩
    have L6 : lip mX M3 M6 := by rw [f6]; exact lip_setI ⟨rfl, by decide, by decide⟩
    have k20 : mx_I M6 58 20 = w q := by rw [f6, I_ne (by decide)]; exact g20
    have k22 : mx_I M6 58 22 = w q := by rw [f6, I_ne (by decide)]; exact g22
    have k19 := (tapM_X L6 A3).1
    have e0 : knd X q = 0 := if_pos hi
    have s0 : sz X q = 0 := if_pos hi
    rw [k20, k19, w_lt (by omega) (by omega)]
    refine ⟨fun y => absurd y (by omega), fun _ M7 f7 => ?_⟩
    have L7 : lip mX M6 M7 := by rw [f7]; exact lip_setI ⟨rfl, by decide, by decide⟩
    refine q_goes_e (q := q) (e := q) (lip_T L7 (lip_T L6 T3)) (lip_trans L (lip_trans L03 (lip_trans L6 L7))) (tapM_X (lip_trans L6 L7) A3) hq (by omega) ?_ ?_ ?_ (fun y => by omega) (fun y => by omega) (fun y => by omega) hQ
    · rw [f7, I_ne (by decide)]; exact k20
    · rw [f7, I_eq, e0]; rfl
    · rw [f7, I_ne (by decide)]; exact k22
theorem q_goes_l {d : Nat} {X : TX} {M0 : mx_M} {Q : QQ} (A0 : tapM M0 X) (p : Nat) (hQ : ∀ M1, lip mX M0 M1 → tkM M1 X p → Q (.inl none) M1) :
    ∀ (c q : Nat) (M : mx_M), q ≤ X.2 → p = skp X q → q + c = p → mx_Tp M → lip mX M0 M → mx_I M 58 20 = w q → mx_W m_X11_goes (d + 1) 0 [.ref 58, .retAddr 0] [] M Q
  | 0, q, M, hq, hp, hc, T, L, h20 => by
    have A := tapM_X L A0
    have h7 := A.2.1
    have e : q = p := by omega
    have fin := q_goes_t (d := d) T L A0 hq h20 (e ▸ hQ)
    refine x_X11_goes_0 T ?_
    rw [A.1, h20, w_le (by omega) (by omega)]
    refine ⟨fun _ => fin, fun z => ?_⟩
    have hi : q < X.2 := by omega
    have c := (A.2.2 q hi).2
    have s := skp_stop (X := X) (q := q) (by omega) hq
    rw [show skp X q = q by omega] at s
    have s := of_decide_eq_false s
    refine q_byteAt T A hi ⟨rfl, rfl, _, rfl, ?_⟩
    rw [h20, show (32 : Int32) = w 32 from rfl, show (10 : Int32) = w 10 from rfl, w_inj (by omega) (by omega)]
    refine ⟨fun y => absurd y (by omega), fun _ => q_byteAt T A hi ⟨rfl, rfl, _, rfl, ?_⟩⟩
    rw [w_inj (by omega) (by omega)]
    exact ⟨fun _ => fin, fun y => absurd y (by omega)⟩
  | c + 1, q, M, hq, hp, hc, T, L, h20 => by
    have A := tapM_X L A0
    have h7 := A.2.1
    have hs := skp_le X hq
    have hi : q < X.2 := by omega
    have c6 := (A.2.2 q hi).2
    have ib : isB (X.1 q) = true := skp_is (q := q) (Nat.le_refl _) (by omega)
    have ibd := of_decide_eq_true ib
    have nxt : mx_W m_X11_goes (d + 1) 37 [.ref 58, .retAddr 0] [] M Q := by
      refine x_X11_goes_37 T (fun M1 f1 => ?_)
      rw [h20, w_add1] at f1
      have L1 : lip mX M M1 := by rw [f1]; exact lip_setI ⟨rfl, by decide, by decide⟩
      refine q_goes_l A0 p hQ c (q + 1) M1 (by omega) ?_ (by omega) (lip_T L1 T) (lip_trans L L1) (by rw [f1]; exact I_eq)
      rw [hp]
      exact fnd_go (p := fun i => !isB (X.1 i)) hi (by rw [ib]; rfl)
    refine x_X11_goes_0 T ?_
    rw [A.1, h20, w_le (by omega) (by omega)]
    refine ⟨fun z => absurd z (by omega), fun z => q_byteAt T A hi ⟨rfl, rfl, _, rfl, ?_⟩⟩
    rw [h20, show (32 : Int32) = w 32 from rfl, show (10 : Int32) = w 10 from rfl, w_inj (by omega) (by omega)]
    refine ⟨fun _ => nxt, fun _ => q_byteAt T A hi ⟨rfl, rfl, _, rfl, ?_⟩⟩
    rw [w_inj (by omega) (by omega)]
    exact ⟨fun y => absurd y (by omega), fun _ => nxt⟩
theorem q_goes {d : Nat} {X : TX} {q : Nat} {M : mx_M} {Q : QQ} (T : mx_Tp M) (A : tkM M X q) (hQ : ∀ M1, lip mX M M1 → tkM M1 X (nx X q) → Q (.inl none) M1) : mx_W m_X11_goes (d + 1) 0 [.ref 58, .retAddr 0] [] M Q := by
  obtain ⟨⟨a1, a2, a3, a4⟩, a5, a6, a7, a8, a9⟩ := A
  have s := sz_le X a9
  have k := skp_le X s
  exact q_goes_l a8 (nx X q) hQ (nx X q - (q + sz X q)) (q + sz X q) M s rfl (by unfold nx; omega) T (lip_refl _ _) a1
theorem q_goes0 {d : Nat} {X : TX} {M : mx_M} {Q : QQ} (T : mx_Tp M) (A : tapM M X) (h20 : mx_I M 58 20 = 0) (hQ : ∀ M1, lip mX M M1 → tkM M1 X (skp X 0) → Q (.inl none) M1) : mx_W m_X11_goes (d + 1) 0 [.ref 58, .retAddr 0] [] M Q :=
  q_goes_l A (skp X 0) hQ (skp X 0) 0 M (Nat.zero_le _) rfl (by omega) T (lip_refl _ _) h20
