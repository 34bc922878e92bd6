/-! keys are laid -/
abbrev KS := Nat × (Nat → Nat)
/-- letters j, j + 1, .. (c of them) are written behind -/
def apF (g : Nat → Nat) : Nat → Nat → KS → KS
  | _, 0, s => s
  | j, c + 1, s => apF g (j + 1) c (s.1 + 1, setF s.2 s.1 (g j))
theorem apF_1 (g : Nat → Nat) : ∀ (c j : Nat) (s : KS), (apF g j c s).1 = s.1 + c
  | 0, j, s => rfl
  | c + 1, j, s => by rw [apF, apF_1 g c]; show s.1 + 1 + c = _; omega
/-- the sign between words -/
def spF (jn : Bool) (s : KS) : KS := if 0 < s.1 ∧ jn = false then (s.1 + 1, setF s.2 s.1 0) else s
def kwF (jn : Bool) (l : Nat) (g : Nat → Nat) (s : KS) : KS := apF g 0 l (spF jn s)
theorem kwF_1 (jn : Bool) (l : Nat) (g : Nat → Nat) (s : KS) : (kwF jn l g s).1 = (spF jn s).1 + l := apF_1 g l 0 _
theorem spF_le (jn : Bool) (s : KS) : s.1 ≤ (spF jn s).1 ∧ (spF jn s).1 ≤ s.1 + 1 ∧ (s.1 = 0 → (spF jn s).1 = 0) := by
  unfold spF
  split
  · exact ⟨by show s.1 ≤ s.1 + 1; omega, Nat.le_refl _, fun h => by omega⟩
  · exact ⟨Nat.le_refl _, by omega, fun h => h⟩
/-- words i, i + 1, .. (c of them) are written -/
def wsF (jn : Bool) (sl : Nat → Nat) (sg : Nat → Nat → Nat) : Nat → Nat → KS → KS
  | _, 0, s => s
  | i, c + 1, s => wsF jn sl sg (i + 1) c (kwF jn (sl i) (sg i) s)
/-- what the class writes for a key at z -/
abbrev cW (z : Nat) : Nat → Nat → Prop := fun k j => (k = 26 ∧ j = z) ∨ (k = 25 ∧ 35 * z ≤ j ∧ j < 35 * z + 35)
theorem p_writeSign {d z b : Nat} {s : KS} {M : mx_M} {Q : QQ} (T : mx_Tp M) (A : slC M z s.1 s.2) (hn : s.1 < 35) (hb : b < 32) (hq : ∀ M1, lip (cW z) M M1 → slC M1 z (s.1 + 1) (setF s.2 s.1 b) → Q (.inl none) M1) : mx_W m_X3_writeSign d 0 [.ref 24, .int (w z), .int (w b)] [] M Q := by
  have h1 := A.1
  refine x_X3_writeSign_0 T _ _ ?_
  rw [w_nat (n := z) (by omega), A.2.2.1, w_35, w_nat (n := 35 * z + s.1) (by omega), show (35 : Int32) = w 35 from rfl, w_le (by omega) (by omega)]
  refine ⟨w_in (by omega) (by omega), fun h => by omega, fun _ => ⟨w_in (by omega) (by omega), w_in (by omega) (by omega), fun M1 e1 => ⟨w_in (by omega) (by omega), w_in (by omega) (by omega), fun M2 e2 => ?_⟩⟩⟩
  have c26 : mx_I M1 26 z = w s.1 := by rw [e1, I_ne (by omega)]; exact A.2.2.1
  rw [c26, w_add1] at e2
  have L1 : lip (cW z) M M1 := by rw [e1]; exact lip_setI (Or.inr ⟨rfl, by omega, by omega⟩)
  have L2 : lip (cW z) M1 M2 := by rw [e2]; exact lip_setI (Or.inl ⟨rfl, rfl⟩)
  refine hq M2 (lip_trans L1 L2) ⟨h1, by omega, by rw [e2]; exact I_eq, fun i hi => ?_⟩
  rw [e2, I_ne (by omega), e1]
  by_cases q : i = s.1
  · rw [q, I_eq, setF_eq]; exact ⟨rfl, hb⟩
  · rw [I_ne (by omega), setF_ne q]; exact A.2.2.2 i (by omega)
theorem p_word_l {d z l : Nat} {g : Nat → Nat} {M0 : mx_M} {Q : QQ} (W : wrd l g) (s9 : KS) (hq : ∀ M1, lip (cW z) M0 M1 → slC M1 z s9.1 s9.2 → Q (.inl none) M1) :
    ∀ (c j : Nat) (s : KS) (M : mx_M), j + c = l → mx_Tp M → lip (cW z) M0 M → slC M z s.1 s.2 → s.1 + c ≤ 35 → apF g j c s = s9 → mx_W m_X3_writeWord (d + 1) 25 [.ref 24, .int (w z), .long (u64 (nm g 8)), .retAddr 0, .int (w j)] [] M Q
  | 0, j, s, M, hj, T, L, A, hs, e => by
    have hl := W.1
    have e : s = s9 := e
    subst e
    refine x_X3_writeWord_25 T _ _ _ ⟨fun _ => hq M L A, fun h => p_letterAt T W.2.1 ?_ ⟨rfl, rfl, _, rfl, fun _ => hq M L A, fun y => absurd ?_ y⟩⟩
    · rw [show (8 : Int32) = w 8 from rfl, w_le (by omega) (by omega)] at h; omega
    · rw [(W.2.2 j).2 (by omega)]; rfl
  | c + 1, j, s, M, hj, T, L, A, hs, e => by
    have hl := W.1
    have g1 := (W.2.2 j).1 (by omega)
    have g2 := W.2.1 j
    rw [apF] at e
    refine x_X3_writeWord_25 T _ _ _ ⟨fun h => ?_, fun _ => p_letterAt T W.2.1 (by omega) ⟨rfl, rfl, _, rfl, fun y => ?_, fun _ => p_letterAt T W.2.1 (by omega) ⟨rfl, rfl, _, rfl, p_writeSign T A (by omega) g2 (fun M1 L1 A1 => ⟨L1.1.1, L1.1.2.1, rfl, ?_⟩)⟩⟩⟩
    · rw [show (8 : Int32) = w 8 from rfl, w_le (by omega) (by omega)] at h; omega
    · rw [w_eq0 (by omega)] at y; omega
    · rw [w_add1]
      exact p_word_l W s9 hq c (j + 1) _ M1 (by omega) (lip_T L1 T) (lip_trans L L1) A1 (by show s.1 + 1 + c ≤ 35; omega) e
theorem p_writeWord {d z l : Nat} {g : Nat → Nat} {jn : Bool} {s : KS} {M : mx_M} {Q : QQ} (T : mx_Tp M) (W : wrd l g) (A : slC M z s.1 s.2) (hj : mx_I M 24 8 = mx_b jn) (hs : (spF jn s).1 + l ≤ 35) (hq : ∀ M1, lip (cW z) M M1 → slC M1 z (kwF jn l g s).1 (kwF jn l g s).2 → Q (.inl none) M1) : mx_W m_X3_writeWord (d + 1) 0 [.ref 24, .int (w z), .long (u64 (nm g 8)), .retAddr 0, .retAddr 0] [] M Q := by
  have h1 := A.1
  have h2 := A.2.1
  have hl := W.1
  unfold kwF at hq
  have same : ¬ (0 < s.1 ∧ jn = false) → mx_W m_X3_writeWord (d + 1) 25 [.ref 24, .int (w z), .long (u64 (nm g 8)), .retAddr 0, .int (w 0)] [] M Q := by
    intro h
    unfold spF at hs hq
    rw [if_neg h] at hs hq
    exact p_word_l W _ hq l 0 s M (Nat.zero_add l) T (lip_refl _ _) A hs rfl
  refine x_X3_writeWord_0 T _ _ ?_
  rw [w_nat (n := z) (by omega), A.2.2.1, hj, w_le0 (by omega)]
  refine ⟨w_in (by omega) (by omega), fun h => same (by omega), fun h => ⟨fun y => same (fun q => by rw [q.2] at y; exact y rfl), fun y => ?_⟩⟩
  have y2 := mx_b0.mp y
  unfold spF at hs hq
  rw [if_pos ⟨by omega, y2⟩] at hs hq
  refine p_writeSign (b := 0) T A ?_ (by decide) (fun M1 L1 A1 => ⟨L1.1.1, L1.1.2.1, rfl, ?_⟩)
  · have hs : s.1 + 1 + l ≤ 35 := hs
    omega
  · exact p_word_l W _ (fun M2 L2 A2 => hq M2 (lip_trans L1 L2) A2) l 0 (s.1 + 1, setF s.2 s.1 0) M1 (Nat.zero_add l) (lip_T L1 T) (lip_refl _ _) A1 hs rfl
/-- r words are written: so much room is left -/
theorem kw_room {jn : Bool} {l r : Nat} {s : KS} (hs : s.1 ≤ 9 * r - 1) (hl : l ≤ 8) (hr : r ≤ 3) (g : Nat → Nat) : (spF jn s).1 + l ≤ 35 ∧ (kwF jn l g s).1 ≤ 9 * (r + 1) - 1 := by
  have a := spF_le jn s
  rw [kwF_1]
  by_cases h : s.1 = 0
  · have := a.2.2 h; omega
  · omega
/-- the heading as it is said: m words -/
def sdC (M : mx_M) (m : Nat) (sg : Nat → Nat → Nat) : Prop := ∀ i, i < m → mx_J M 29 i = u64 (nm (sg i) 8)
theorem sdC_W {z m : Nat} {sg : Nat → Nat → Nat} {M M1 : mx_M} (L : lip (cW z) M M1) (S : sdC M m sg) : sdC M1 m sg := fun i hi => by
  rw [(L.2 29 i (fun h => by rcases h with h | h <;> omega)).2]; exact S i hi
theorem p_ws_l {d t z m : Nat} {sl : Nat → Nat} {sg : Nat → Nat → Nat} {jn : Bool} {M0 : mx_M} {Q : QQ} (ht : mx_Cat t) (hm : m ≤ 4) (hW : ∀ i, i < m → wrd (sl i) (sg i)) (s9 : KS) (hq : ∀ M1, lip (cW z) M0 M1 → slC M1 z s9.1 s9.2 → Q (.inl none) M1) :
    ∀ (c i r e : Nat) (s : KS) (M : mx_M), i + c = e → e ≤ m → c + r ≤ 4 → mx_Tp M → lip (cW z) M0 M → mx_I M 24 8 = mx_b jn → sdC M m sg → slC M z s.1 s.2 → s.1 ≤ 9 * r - 1 → wsF jn sl sg i c s = s9 → mx_W m_X3_writeKey (d + 1 + 1) 86 [.ref 24, .retAddr 0, .retAddr 0, .retAddr 0, .int (w z), .int (w e - 1), .retAddr 0, .int (w i)] [] M Q
  | 0, i, r, e, s, M, hi, he, hr, T, L, hj, S, A, hs, e9 => by
    have e9 : s = s9 := e9
    subst e9
    refine x_X3_writeKey_86 T t ht _ _ _ ⟨fun _ => hq M L A, fun h => absurd ?_ h⟩
    rw [w_pred_lt (by omega) (by omega)]; omega
  | c + 1, i, r, e, s, M, hi, he, hr, T, L, hj, S, A, hs, e9 => by
    have hw := hW i (by omega)
    have room := kw_room (jn := jn) (l := sl i) hs hw.1.2 (by omega) (sg i)
    rw [wsF] at e9
    refine x_X3_writeKey_86 T t ht _ _ _ ⟨fun h => ?_, fun _ => ⟨w_in (by omega) (by omega), ?_⟩⟩
    · rw [w_pred_lt (by omega) (by omega)] at h; omega
    · rw [w_nat (by omega), S i (by omega)]
      refine p_writeWord T hw A hj room.1 (fun M1 L1 A1 => ⟨L1.1.1, L1.1.2.1, rfl, ?_⟩)
      rw [w_add1]
      exact p_ws_l ht hm hW s9 hq c (i + 1) (r + 1) e _ M1 (by omega) he (by omega) (lip_T L1 T) (lip_trans L L1) (by rw [(L1.2 24 8 (fun h => by rcases h with h | h <;> omega)).1]; exact hj) (sdC_W L1 S) A1 room.2 e9
/-- the whole key -/
def keyF (tn jn : Bool) (m : Nat) (sl : Nat → Nat) (sg : Nat → Nat → Nat) (ff : Nat) : KS := if tn then wsF jn sl sg ff (m - 1 - ff) (kwF jn (sl (m - 1)) (sg (m - 1)) (0, fun _ => 0)) else wsF jn sl sg ff (m - ff) (0, fun _ => 0)
/-- how many words at the front are passed over -/
def ffF (n : Nat) (k : Nat → Nat) (fg : Nat → Nat → Nat) (dr : Nat → Bool) (m : Nat) (sg : Nat → Nat → Nat) : Nat := fnd (fun i => !skF n k fg dr (sg i)) 0 (m - 1)
theorem p_key_w {d t z m ff : Nat} {sl : Nat → Nat} {sg : Nat → Nat → Nat} {tn jn : Bool} {M : mx_M} {Q : QQ} (T : mx_Tp M) (ht : mx_Cat t) (hm : m ≤ 4) (h1 : 1 ≤ m) (hf : ff ≤ m - 1) (hz : z < 50) (hW : ∀ i, i < m → wrd (sl i) (sg i)) (ht7 : mx_I M 24 7 = mx_b tn) (hj : mx_I M 24 8 = mx_b jn) (S : sdC M m sg)
    (hq : ∀ M1, lip (cW z) M M1 → slC M1 z (keyF tn jn m sl sg ff).1 (keyF tn jn m sl sg ff).2 → Q (.inl none) M1) :
    ∀ M1, M1 = mx_setI M 26 z 0 → ((mx_I M1 24 7) = 0 → mx_W m_X3_writeKey (d + 1 + 1) 86 [.ref 24, .retAddr 0, .retAddr 0, .retAddr 0, .int (w z), .int (w m - 1), .retAddr 0, .int (w ff)] [] M1 Q) ∧ (¬ (mx_I M1 24 7) = 0 → ((w m - 1 ≤ w ff → mx_W m_X3_writeKey (d + 1 + 1) 86 [.ref 24, .retAddr 0, .retAddr 0, .retAddr 0, .int (w z), .int (w m - 1), .retAddr 0, .int (w ff)] [] M1 Q) ∧ (¬ w m - 1 ≤ w ff → (vp_in (w m - 1) 4 ∧ (mx_W m_X3_writeWord (d + 1) 0 [.ref 24, .int (w z), .long (mx_J M1 29 (w m - 1).toNatClampNeg), .retAddr 0, .retAddr 0] [] M1 (fun o M2 => mx_sh M2 = mx_sh M1 ∧ mx_R M2 = mx_R M1 ∧ (o = .inl none ∧ mx_W m_X3_writeKey (d + 1 + 1) 86 [.ref 24, .retAddr 0, .retAddr 0, .retAddr 0, .int (w z), .int (w m - 1 + (-1)), .retAddr 0, .int (w ff)] [] M2 Q))))))) := by
  intro M1 e1
  have L1 : lip (cW z) M M1 := by rw [e1]; exact lip_setI (Or.inl ⟨rfl, rfl⟩)
  have T1 := lip_T L1 T
  have S1 := sdC_W L1 S
  have t1 : mx_I M1 24 7 = mx_b tn := by rw [e1, I_ne (by omega)]; exact ht7
  have j1 : mx_I M1 24 8 = mx_b jn := by rw [e1, I_ne (by omega)]; exact hj
  have A0 : slC M1 z (0 : Nat) (fun _ => 0) := ⟨hz, by omega, by rw [e1]; exact I_eq, fun i hi => by omega⟩
  have em : w m - 1 = w (m - 1) := w_sub (a := m) (b := 1) h1
  unfold keyF at hq
  have plain : ∀ s9, (∀ M1, lip (cW z) M M1 → slC M1 z s9.1 s9.2 → Q (.inl none) M1) → wsF jn sl sg ff (m - ff) (0, fun _ => 0) = s9 → mx_W m_X3_writeKey (d + 1 + 1) 86 [.ref 24, .retAddr 0, .retAddr 0, .retAddr 0, .int (w z), .int (w m - 1), .retAddr 0, .int (w ff)] [] M1 Q := fun s9 hq9 e9 =>
    p_ws_l ht hm hW s9 (fun M2 L2 A2 => hq9 M2 (lip_trans L1 L2) A2) (m - ff) ff 0 m (0, fun _ => 0) M1 (by omega) (Nat.le_refl _) (by omega) T1 (lip_refl _ _) j1 S1 A0 (by show 0 ≤ _; omega) e9
  rw [t1]
  refine ⟨fun z9 => ?_, fun z9 => ⟨fun y => ?_, fun y => ⟨?_, ?_⟩⟩⟩
  · have z2 := mx_b0.mp z9
    rw [z2, if_neg (by decide)] at hq
    exact plain _ hq rfl
  · have z2 := mx_bn.mp z9
    rw [em, w_le (by omega) (by omega)] at y
    rw [z2, if_pos rfl] at hq
    refine plain _ hq ?_
    rw [show m - 1 - ff = 0 by omega, show m - ff = 1 by omega, show m - 1 = ff by omega]
    rfl
  · rw [em]; exact w_in (by omega) (by omega)
  · have z2 := mx_bn.mp z9
    rw [em, w_le (by omega) (by omega)] at y
    rw [z2, if_pos rfl] at hq
    have hw := hW (m - 1) (by omega)
    have room := kw_room (jn := jn) (l := sl (m - 1)) (r := 0) (s := (0, fun _ => 0)) (by show 0 ≤ _; omega) hw.1.2 (by omega) (sg (m - 1))
    rw [em, w_nat (by omega), S1 (m - 1) (by omega)]
    refine p_writeWord (s := (0, fun _ => 0)) T1 hw A0 j1 room.1 (fun M2 L2 A2 => ⟨L2.1.1, L2.1.2.1, rfl, ?_⟩)
    rw [w_m1]
    exact p_ws_l ht hm hW _ (fun M3 L3 A3 => hq M3 (lip_trans L1 (lip_trans L2 L3)) A3) (m - 1 - ff) ff 1 (m - 1) _ M2 (by omega) (by omega) (by omega) (lip_T L2 T1) (lip_refl _ _) (by rw [(L2.2 24 8 (fun h => by rcases h with h | h <;> omega)).1]; exact j1) (sdC_W L2 S1) A2 room.2 rfl
theorem p_key_f {d t o z n m : Nat} {k fl : Nat → Nat} {fg : Nat → Nat → Nat} {tl : Nat → Nat} {tg : Nat → Nat → Nat} {dr : Nat → Bool} {sl : Nat → Nat} {sg : Nat → Nat → Nat} {tn jn : Bool} {M : mx_M} {Q : QQ} (T : mx_Tp M) (ht : mx_Cat t) (R : rlC M t o n k fg tg) (Rw : rlW n k fl fg tl tg) (hd : ∀ i, i < 8 → (w i = mx_I M 24 6 ↔ dr i = true)) (hm : m ≤ 4) (h1 : 1 ≤ m) (hz : z < 50) (hW : ∀ i, i < m → wrd (sl i) (sg i)) (ht7 : mx_I M 24 7 = mx_b tn) (hj : mx_I M 24 8 = mx_b jn) (S : sdC M m sg)
    (hq : ∀ M1, lip (cW z) M M1 → slC M1 z (keyF tn jn m sl sg (ffF n k fg dr m sg)).1 (keyF tn jn m sl sg (ffF n k fg dr m sg)).2 → Q (.inl none) M1) :
    ∀ (c i : Nat), i + c = m - 1 → fnd (fun i => !skF n k fg dr (sg i)) i c = ffF n k fg dr m sg → mx_W m_X3_writeKey (d + 1 + 1) 13 [.ref 24, .ref t, .int (w o), .retAddr 0, .int (w z), .int (w m - 1), .int (w i), .retAddr 0] [] M Q
  | 0, i, hi, e => by
    have e : i = ffF n k fg dr m sg := e
    have em : w m - 1 = w (m - 1) := w_sub (a := m) (b := 1) h1
    refine x_X3_writeKey_13 T t ht _ _ _ _ ⟨fun _ => ⟨w_in (by omega) (by omega), fun M1 e1 => ?_⟩, fun h => absurd ?_ h⟩
    · rw [w_nat (by omega)] at e1
      exact p_key_w (ff := i) T ht hm h1 (by omega) hz hW ht7 hj S (by rw [e]; exact hq) M1 e1
    · rw [em, w_le (by omega) (by omega)]; omega
  | c + 1, i, hi, e => by
    have em : w m - 1 = w (m - 1) := w_sub (a := m) (b := 1) h1
    have hw := hW i (by omega)
    refine x_X3_writeKey_13 T t ht _ _ _ _ ⟨fun h => ?_, fun _ => ⟨w_in (by omega) (by omega), ?_⟩⟩
    · rw [em, w_le (by omega) (by omega)] at h; omega
    · rw [w_nat (n := i) (by omega), S i (by omega)]
      refine p_ruleKept (kd := 0) T ht R Rw (by decide) hw.2.1 hd ⟨rfl, rfl, _, rfl, fun y => ⟨w_in (by omega) (by omega), fun M5 e5 => ?_⟩, fun y => ?_⟩
      · rw [fz_none (by have := Rw.1; omega)] at y
        have ys : (!skF n k fg dr (sg i)) = true := by unfold skF; rw [decide_eq_false (by omega)]; rfl
        rw [fnd_stop ys] at e
        rw [w_nat (by omega)] at e5
        exact p_key_w (ff := i) T ht hm h1 (by omega) hz hW ht7 hj S (by rw [e]; exact hq) M5 e5
      · rw [fz_none (by have := Rw.1; omega)] at y
        have ys : ¬ (!skF n k fg dr (sg i)) = true := by unfold skF; rw [decide_eq_true (by omega)]; decide
        rw [fnd_next ys] at e
        rw [w_add1]
        exact p_key_f T ht R Rw hd hm h1 hz hW ht7 hj S hq c (i + 1) (by omega) e
