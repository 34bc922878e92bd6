/-! the class steps -/
theorem skp_is {X : TX} {q i : Nat} (h : q ≤ i) (h2 : i < skp X q) : isB (X.1 i) = true := by
  have := fnd_not (fun i => !isB (X.1 i)) q (X.2 - q) i h h2
  cases e : isB (X.1 i)
  · rw [e] at this; exact absurd this (by decide)
  · rfl
theorem skp_stop {X : TX} {q : Nat} (h : skp X q < X.2) (hq : q ≤ X.2) : isB (X.1 (skp X q)) = false := by
  have := fnd_so (fun i => !isB (X.1 i)) q (X.2 - q) (by show skp X q < _; omega)
  have e : (!isB (X.1 (skp X q))) = true := this
  cases f : isB (X.1 (skp X q))
  · rfl
  · rw [f] at e; exact absurd e (by decide)
theorem tkC_end {X : TX} {q : Nat} {M0 M M1 M2 : mx_M} (hq : q = X.2) (L : lip cX M0 M) (e1 : mx_I M 3 1 = w X.2) (e2 : mx_I M 3 2 = w q) (A : tapC M X) (f1 : M1 = mx_setI M 3 3 0) (f2 : M2 = mx_setI M1 3 4 0) : lip cX M0 M2 ∧ tkC M2 X q := by
  have L1 : lip cX M M1 := by rw [f1]; exact lip_setI ⟨rfl, by decide, by decide⟩
  have L2 : lip cX M1 M2 := by rw [f2]; exact lip_setI ⟨rfl, by decide, by decide⟩
  have L12 := lip_trans L1 L2
  have hk : knd X q = 0 := if_pos (by omega)
  have hs : sz X q = 0 := if_pos (by omega)
  refine ⟨lip_trans L L12, ⟨?_, ?_, ?_, ?_⟩, fun y => by omega, fun y => by omega, fun y => by omega, tapC_lip L12 (fun k j h => by have : k = 3 := h.1; omega) A, by omega⟩
  · rw [(L12.2 3 1 (by decide)).1]; exact e1
  · rw [f2, I_ne (by decide), f1, I_ne (by decide)]; exact e2
  · rw [f2, I_ne (by decide), f1, I_eq, hs]; rfl
  · rw [f2, I_eq, hk]; rfl
theorem p_step_l {d : Nat} {X : TX} {M0 : mx_M} {Q : QQ} (e1 : mx_I M0 3 1 = w X.2) (A0 : tapC M0 X) (p : Nat) (hQ : ∀ M1, lip cX M0 M1 → tkC M1 X p → Q (.inl none) M1) :
    ∀ (c q : Nat) (M : mx_M), q ≤ X.2 → p = skp X q → q + c = p → mx_Tp M → lip cX M0 M → mx_I M 3 2 = w q → mx_W m_X8_step (d + 2) 13 [.ref 3, .retAddr 0] [] M Q
  | 0, q, M, hq, hp, hc, T, L, h2 => by
    have A := tapC_lip L (fun k j h => by have : k = 3 := h.1; omega) A0
    have h1 : mx_I M 3 1 = w X.2 := by rw [(L.2 3 1 (by decide)).1]; exact e1
    have ⟨l, l1, l2, l3, l4⟩ := A
    have hp : q = p := by omega
    refine x_X8_step_13 (d := d + 1) T ?_
    rw [h1, h2, w_le (by omega) (by omega)]
    refine ⟨fun z M1 f1 => ?_, fun z => ?_⟩
    · have g1 : mx_I M1 3 1 = w X.2 := by rw [f1, I_ne (by decide)]; exact h1
      have g2 : mx_I M1 3 2 = w q := by rw [f1, I_ne (by decide)]; exact h2
      rw [g1, g2, w_le (by omega) (by omega), w_lt (by omega) (by omega)]
      refine ⟨fun _ => ⟨fun y => absurd y (by omega), fun _ M2 f2 => ?_⟩, fun y => absurd z y⟩
      have r := tkC_end (q := q) (by omega) L h1 h2 A f1 f2
      rw [hp] at r
      exact hQ M2 r.1 r.2
    · have hi : q < X.2 := by omega
      refine p_signAt T A hi ⟨rfl, rfl, _, rfl, p_isBlank T (l4 _ hi).2 ⟨rfl, rfl, _, rfl, fun _ M1 f1 => ?_, fun y => ?_⟩⟩
      · have L1 : lip cX M M1 := by rw [f1]; exact lip_setI ⟨rfl, by decide, by decide⟩
        have g1 : mx_I M1 3 1 = w X.2 := by rw [f1, I_ne (by decide)]; exact h1
        have g2 : mx_I M1 3 2 = w q := by rw [f1, I_ne (by decide)]; exact h2
        have g3 : mx_I M1 3 3 = 0 := by rw [f1, I_eq]
        have A1 := tapC_lip L1 (fun k j h => by have : k = 3 := h.1; omega) A
        rw [g1, g2, w_le (by omega) (by omega)]
        refine ⟨fun y => absurd y z, fun _ => p_signAt (lip_T L1 T) A1 hi ⟨rfl, rfl, _, rfl, ?_⟩⟩
        rw [g1, g2, w_lt (by omega) (by omega)]
        refine ⟨fun _ => p_tok (lip_T L1 T) hi (lip_trans L L1) g1 g2 g3 A1 (fun M2 L2 K2 => hQ M2 L2 (hp ▸ K2)), fun y => absurd hi y⟩
      · have s := skp_stop (X := X) (q := q) (by omega) hq
        rw [show skp X q = q by omega] at s
        rw [s] at y; exact absurd y (by decide)
  | c + 1, q, M, hq, hp, hc, T, L, h2 => by
    have A := tapC_lip L (fun k j h => by have : k = 3 := h.1; omega) A0
    have h1 : mx_I M 3 1 = w X.2 := by rw [(L.2 3 1 (by decide)).1]; exact e1
    have ⟨l, l1, l2, l3, l4⟩ := A
    have hs := skp_le X hq
    have hi : q < X.2 := by omega
    have ib : isB (X.1 q) = true := skp_is (q := q) (Nat.le_refl _) (by omega)
    refine x_X8_step_13 (d := d + 1) T ?_
    rw [h1, h2, w_le (by omega) (by omega)]
    refine ⟨fun z => absurd z (by omega), fun z => p_signAt T A hi ⟨rfl, rfl, _, rfl, p_isBlank T (l4 _ hi).2 ⟨rfl, rfl, _, rfl, fun y => ?_, fun y M1 f1 => ?_⟩⟩⟩
    · rw [ib] at y; exact absurd y (by decide)
    · rw [h2, w_add1] at f1
      have L1 : lip cX M M1 := by rw [f1]; exact lip_setI ⟨rfl, by decide, by decide⟩
      refine p_step_l e1 A0 p hQ c (q + 1) M1 (by omega) ?_ (by omega) (lip_T L1 T) (lip_trans L L1) (by rw [f1]; exact I_eq)
      rw [hp]
      exact fnd_go (p := fun i => !isB (X.1 i)) hi (by rw [ib]; rfl)
theorem p_step {d : Nat} {X : TX} {q : Nat} {M : mx_M} {Q : QQ} (T : mx_Tp M) (A : tkC M X q) (hQ : ∀ M1, lip cX M M1 → tkC M1 X (nx X q) → Q (.inl none) M1) : mx_W m_X8_step (d + 2) 0 [.ref 3, .retAddr 0] [] M Q := by
  obtain ⟨⟨a1, a2, a3, a4⟩, a5, a6, a7, a8, a9⟩ := A
  refine x_X8_step_0 (d := d + 1) T (fun M1 f1 => ?_)
  rw [a2, a3, w_add] at f1
  have L1 : lip cX M M1 := by rw [f1]; exact lip_setI ⟨rfl, by decide, by decide⟩
  have s := sz_le X a9
  have k := skp_le X s
  exact p_step_l a1 a8 (nx X q) hQ (nx X q - (q + sz X q)) (q + sz X q) M1 s rfl (by unfold nx; omega) (lip_T L1 T) L1 (by rw [f1]; exact I_eq)
theorem p_tokopen {d : Nat} {X : TX} {M : mx_M} {Q : QQ} (T : mx_Tp M) (A : tapC M X) (hQ : ∀ M1, lip (fun k j => k = 3 ∧ 1 ≤ j ∧ j ≤ 6) M M1 → tkC M1 X (skp X 0) → Q (.inl none) M1) : mx_W m_X8_open (d + 3) 0 [.ref 3, .int (w X.2)] [] M Q := by
  refine x_X8_open_0 (d := d + 2) T _ (fun M1 f1 M2 f2 M3 f3 => x_X8_step_0 (d := d + 1) ?_ (fun M4 f4 => ?_))
  · rw [f3, f2, f1]; exact lip_T (P := fun k j => k = 3 ∧ 1 ≤ j ∧ j ≤ 6) (lip_trans (lip_trans (lip_setI ⟨rfl, by decide, by decide⟩) (lip_setI ⟨rfl, by decide, by decide⟩)) (lip_setI ⟨rfl, by decide, by decide⟩)) T
  have L1 : lip (fun k j => k = 3 ∧ 1 ≤ j ∧ j ≤ 6) M M1 := by rw [f1]; exact lip_setI ⟨rfl, by decide, by decide⟩
  have L2 : lip (fun k j => k = 3 ∧ 1 ≤ j ∧ j ≤ 6) M1 M2 := by rw [f2]; exact lip_setI ⟨rfl, by decide, by decide⟩
  have L3 : lip (fun k j => k = 3 ∧ 1 ≤ j ∧ j ≤ 6) M2 M3 := by rw [f3]; exact lip_setI ⟨rfl, by decide, by decide⟩
  have L4 : lip cX M3 M4 := by rw [f4]; exact lip_setI ⟨rfl, by decide, by decide⟩
  have L5 := lip_trans (lip_trans L1 L2) L3
  have g1 : mx_I M3 3 1 = w X.2 := by rw [f3, I_ne (by decide), f2, I_ne (by decide), f1]; exact I_eq
  have g4 : mx_I M4 3 2 = w 0 := by rw [f4, I_eq, f3, I_ne (by decide), I_eq, f2, I_eq]; rfl
  have k := skp_le X (Nat.zero_le X.2)
  refine p_step_l (d := d) (X := X) g1 (tapC_lip L5 (fun k j h => by have : k = 3 := h.1; omega) A) (skp X 0) (fun M6 L6 K6 => ⟨L6.1.1, L6.1.2.1, rfl, hQ M6 (lip_trans L5 (lip_mono L6 (fun k j h => ⟨h.1, by omega, h.2.2⟩))) K6⟩) (skp X 0) 0 M4 (Nat.zero_le _) rfl (by omega) (lip_T L4 (lip_T L5 T)) L4 g4
/-! words that are known -/
def WL : List (List Nat) := [[121, 101, 97, 114], [119, 111, 114, 100, 115], [108, 101, 116, 116, 101, 114, 115], [110, 117, 109, 98, 101, 114], [99, 97, 114, 100], [99, 108, 101, 114, 107], [115, 107, 105, 112], [115, 112, 101, 108, 108], [102, 111, 108, 100], [116, 117, 114, 110], [106, 111, 105, 110], [116, 105, 101], [97, 110, 100], [111, 114], [110, 111, 116]]
def WK : List Nat := [10, 11, 12, 13, 1, 2, 3, 4, 5, 6, 7, 8, 14, 15, 9]
def wlL (k : Nat) : Nat := (WL.getD k []).length
def wlC (k i : Nat) : Nat := (WL.getD k []).getD i 0
def isw (X : TX) (q k : Nat) : Bool := decide (knd X q = 1 ∧ sz X q = wlL k ∧ ∀ i, i < wlL k → X.1 (q + i) = wlC k i)
def kw (X : TX) (q : Nat) : Nat := fnd (isw X q) 0 15
theorem wl_k : ∀ k, k < 15 → WK.getD k 0 < 33 ∧ mx_tlen.getD (WK.getD k 0) 0 = wlL k ∧ 2 ≤ wlL k ∧ wlL k ≤ 7 := by decide
theorem wl_c : ∀ k, k < 15 → ∀ i, i < wlL k → ((((mx_tbyt.getD (WK.getD k 0) []).getD i 0) &&& 255).toUInt32 % 65536).toInt32 = w (wlC k i) ∧ 97 ≤ wlC k i ∧ wlC k i ≤ 122 := by decide
theorem wl_d : ∀ k, k < 15 → ∀ j, j < 15 → wlL k = wlL j → (∀ i, i < wlL k → wlC k i = wlC j i) → k = j := by decide
theorem kw_iff {X : TX} {q k : Nat} (hk : k < 15) : isw X q k = true ↔ kw X q = k := by
  constructor
  · intro h
    refine fnd_is hk h (fun j hj h2 => ?_)
    have h := of_decide_eq_true h
    have h2 := of_decide_eq_true h2
    refine wl_d j hj k hk (by omega) (fun i hi => ?_)
    rw [← h2.2.2 i hi, h.2.2 i (by omega)]
  · intro h
    have := fnd_so (isw X q) 0 15 (by show kw X q < _; omega)
    have e : isw X q (kw X q) = true := this
    rw [h] at e; exact e
theorem kw_15 (X : TX) (q : Nat) : kw X q ≤ 15 := by have := (fnd_le (isw X q) 0 15).2; unfold kw; omega
theorem kw_b {X : TX} {q k : Nat} (hk : k < 15) : isw X q k = decide (kw X q = k) := by
  by_cases h : kw X q = k
  · rw [decide_eq_true h]; exact (kw_iff hk).mpr h
  · rw [decide_eq_false h]; cases e : isw X q k
    · rfl
    · exact absurd ((kw_iff hk).mp e) h
theorem kw_k {X : TX} {q : Nat} (h : kw X q < 15) : knd X q = 1 := (of_decide_eq_true ((kw_iff h).mpr rfl)).1
theorem nar_char : ∀ c, c < 123 → narrow .char (.int (w c)) = .int (w c) := by
  intro c hc
  have := (by decide : ∀ c, c < 123 → (((w c).toUInt32 % 65536).toInt32) = w c) c hc
  first
  | (show Value.int (((w c).toUInt32 % 65536).toInt32) = Value.int (w c); rw [this])
  | (unfold narrow; dsimp only; rw [this])
theorem p_len {d k : Nat} {M : mx_M} {Q : QQ} (T : mx_Tp M) (hk : k < 15) (hq : Q (.inl (some (.int (w (wlL k))))) M) : mx_W m_J0_length_8abf5 (d + 1) 0 [.retAddr (2 * WK.getD k 0 + 2)] [] M Q := by
  have h := wl_k k hk
  refine x_J0_length_8abf5_0 T _ h.1 (x_J0_coder_7d493_0 T _ h.1 ⟨rfl, rfl, rfl, _, rfl, ?_⟩)
  rw [h.2.1]
  have e : Int32.ofNat (wlL k) >>> ((0 : Int32) &&& 31) = w (wlL k) := (by decide : ∀ k, k < 15 → Int32.ofNat (wlL k) >>> ((0 : Int32) &&& 31) = w (wlL k)) k hk
  rw [e]; exact hq
theorem p_checkIndex {d a b : Nat} {M : mx_M} {Q : QQ} (T : mx_Tp M) (h : a < b) (hb : b < 1000) (hq : Q (.inl none) M) : mx_W m_J0_checkIndex_df160 (d + 2) 0 [.int (w a), .int (w b)] [] M Q := by
  have c : mx_W m_J3_checkIndex_8e157 (d + 1) 0 [.int (w a), .int (w b), .retAddr 0] [] M (fun o M1 => mx_sh M1 = mx_sh M ∧ mx_R M1 = mx_R M ∧ ∃ x : Int32, o = .inl (some (.int x)) ∧ Q (.inl none) M1) :=
    x_J3_checkIndex_8e157_0 T _ _ ⟨fun z => absurd z (w_pos (by omega)), fun _ => ⟨fun _ => ⟨rfl, rfl, _, rfl, hq⟩, fun z => absurd ((w_lt (by omega) (by omega)).mpr h) z⟩⟩
  have fin : ∀ M1, Q (.inl none) M1 → ∀ x : Int32, mx_W m_J0_checkIndex_df160 (d + 2) 8 [.int (w a), .int (w b)] [.int x] M1 Q := fun M1 h1 x => by
    refine mx_pop (μ := m_J0_checkIndex_df160) (mx_da t_J0_checkIndex_df160 4 rfl) rfl rfl ?_
    exact mx_vret rfl (mx_da t_J0_checkIndex_df160 5 rfl) h1
  refine mx_iload_n 0 (mx_da t_J0_checkIndex_df160 0 rfl) rfl rfl rfl ?_
  refine mx_iload_n 1 (mx_da t_J0_checkIndex_df160 1 rfl) rfl rfl rfl ?_
  refine mx_gstF sl_1053 (mx_da t_J0_checkIndex_df160 2 rfl) rfl ?_ ?_
  · refine mx_callS yJ3_checkIndex_8e157 m_J3_checkIndex_8e157 [.int (w a), .int (w b), .ref 0] mm_J3_checkIndex_8e157 ml_RJ0_1059 st_J3_checkIndex_8e157 rfl (Nat.le_of_ble_eq_true rfl) (mx_da t_J0_checkIndex_df160 3 rfl) rfl (Nat.le_of_ble_eq_true rfl) rfl ?_
    refine mx_wkn [.int (w a), .int (w b), .retAddr 0] ⟨Or.inr rfl, Or.inr rfl, Or.inl rfl, trivial⟩ (mx_mono c ?_)
    intro o M1 ho
    obtain ⟨e1, e2, x, rfl, h⟩ := ho
    exact ⟨e1, fin M1 h x⟩
  · refine mx_callS yJ3_checkIndex_8e157 m_J3_checkIndex_8e157 [.int (w a), .int (w b), .retAddr 0] mm_J3_checkIndex_8e157 ml_RJ0_1059 st_J3_checkIndex_8e157 rfl (Nat.le_of_ble_eq_true rfl) (mx_da t_J0_checkIndex_df160 3 rfl) rfl (Nat.le_of_ble_eq_true rfl) rfl ?_
    refine mx_mono c ?_
    intro o M1 ho
    obtain ⟨e1, e2, x, rfl, h⟩ := ho
    exact ⟨e1, fin M1 h x⟩
theorem p_charAt {d k i : Nat} {M : mx_M} {Q : QQ} (T : mx_Tp M) (hk : k < 15) (hi : i < wlL k) (hq : Q (.inl (some (.int (w (wlC k i))))) M) : mx_W m_J0_charAt_5068e (d + 4) 0 [.retAddr (2 * WK.getD k 0 + 2), .int (w i)] [] M Q := by
  have h := wl_k k hk
  have hc := wl_c k hk i hi
  refine x_J0_charAt_5068e_0 (d := d + 3) T _ h.1 _ (x_J0_isLatin1_aae02_0 T _ h.1 ⟨rfl, rfl, _, rfl, fun z => absurd z (by decide), fun _ => ?_⟩)
  refine x_J1_charAt_3b067_0 (d := d + 2) T _ h.1 _ ?_
  rw [h.2.1, w_nat (n := i) (by omega), hc.1]
  exact p_checkIndex T hi (by omega) ⟨rfl, rfl, rfl, w_in hi (by omega), nar_char _ (by omega), rfl, rfl, _, rfl, nar_char _ (by omega), hq⟩
theorem p_isWord_l {d k : Nat} {X : TX} {q : Nat} {M : mx_M} {Q : QQ} (T : mx_Tp M) (A : tkC M X q) (hk : k < 15) (h1 : knd X q = 1) (h2 : sz X q = wlL k) (hq : Q (.inl (some (.int (mx_b (isw X q k))))) M) :
    ∀ (c i : Nat), i + c = wlL k → (∀ j, j < i → X.1 (q + j) = wlC k j) → mx_W m_X8_isWord (d + 5) 23 [.ref 3, .retAddr (2 * WK.getD k 0 + 2), .int (w i)] [] M Q
  | 0, i, hc, hj => by
    have hh := wl_k k hk
    refine x_X8_isWord_23 (d := d + 4) T _ hh.1 _ (p_len T hk ⟨rfl, rfl, _, rfl, ?_⟩)
    rw [w_le (by omega) (by omega)]
    refine ⟨fun _ => ?_, fun z => absurd z (by omega)⟩
    have e : isw X q k = true := decide_eq_true ⟨h1, h2, fun j hj2 => hj j (by omega)⟩
    rw [e] at hq; exact hq
  | c + 1, i, hc, hj => by
    have hh := wl_k k hk
    have hw := wl_c k hk i (by omega)
    have ⟨⟨a1, a2, a3, a4⟩, a5, a6, a7, a8, a9⟩ := A
    have ⟨l, l1, l2, l3, l4⟩ := a8
    have s := sz_le X a9
    refine x_X8_isWord_23 (d := d + 4) T _ hh.1 _ (p_len T hk ⟨rfl, rfl, _, rfl, ?_⟩)
    rw [w_le (by omega) (by omega), a2, w_add]
    refine ⟨fun z => absurd z (by omega), fun _ => p_signAt T a8 (by omega) ⟨rfl, rfl, _, rfl, p_charAt T hk (by omega) ⟨rfl, rfl, _, rfl, ?_⟩⟩⟩
    have l5 := (l4 (q + i) (by omega)).2
    rw [w_inj (by omega) (by omega), w_add1]
    refine ⟨fun z => p_isWord_l T A hk h1 h2 hq c (i + 1) (by omega) (fun j hj2 => ?_), fun z => ?_⟩
    · rcases Nat.lt_or_ge j i with g | g
      · exact hj j g
      · rw [show j = i by omega]; exact z
    · have e : isw X q k = false := decide_eq_false (fun y => z (y.2.2 i (by omega)))
      rw [e] at hq; exact hq
theorem p_isWord {d k : Nat} {X : TX} {q : Nat} {M : mx_M} {Q : QQ} (T : mx_Tp M) (A : tkC M X q) (hk : k < 15) (hq : Q (.inl (some (.int (mx_b (decide (kw X q = k)))))) M) : mx_W m_X8_isWord (d + 5) 0 [.ref 3, .retAddr (2 * WK.getD k 0 + 2), .retAddr 0] [] M Q := by
  rw [← kw_b hk] at hq
  have hh := wl_k k hk
  have ⟨⟨a1, a2, a3, a4⟩, a5, a6, a7, a8, a9⟩ := A
  have ⟨l, l1, l2, l3, l4⟩ := a8
  have s := sz_le X a9
  have hkd : knd X q < 5 := by unfold knd; repeat' split
                               all_goals omega
  refine x_X8_isWord_0 (d := d + 4) T _ hh.1 ?_
  rw [a4, a3, show (1 : Int32) = w 1 from rfl, w_inj (by omega) (by omega)]
  refine ⟨fun z => ?_, fun z => p_len T hk ⟨rfl, rfl, _, rfl, ?_⟩⟩
  · have e : isw X q k = false := decide_eq_false (fun y => z y.1)
    rw [e] at hq; exact hq
  · rw [w_inj (by omega) (by omega)]
    refine ⟨fun y => p_isWord_l T A hk z y hq (wlL k) 0 (by omega) (fun j hj => by omega), fun y => ?_⟩
    have e : isw X q k = false := decide_eq_false (fun x => y x.2.1)
    rw [e] at hq; exact hq
