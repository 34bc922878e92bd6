/-! the reference lays keys -/
abbrev mK (z : Nat) : Nat → Nat → Prop := fun k j => (k = 85 ∧ j = z) ∨ (k = 86 ∧ 36 * z ≤ j ∧ j < 36 * z + 36)
abbrev mV (z : Nat) : Nat → Nat → Prop := fun k j => k = 86 ∧ 36 * z ≤ j ∧ j < 36 * z + 36
def sgM (M : mx_M) (z n : Nat) (k : Nat → Nat) : Prop := ∀ i, i < n → mx_I M 86 (36 * z + i) = w (k i) ∧ k i < 32
theorem q_word_l {d z l : Nat} {g : Nat → Nat} {M0 : mx_M} {Q : QQ} (W : wrd l g) (hz : z < 50) (s9 : KS) (hq : ∀ M1, lip (mV z) M0 M1 → sgM M1 z s9.1 s9.2 → Q (.inl (some (.int (w s9.1)))) M1) :
    ∀ (c j : Nat) (s : KS) (M : mx_M), j + c = l → mx_Tp M → lip (mV z) M0 M → sgM M z s.1 s.2 → s.1 + c ≤ 35 → apF g j c s = s9 → mx_W m_X11_laysWord (d + 1) 42 [.ref 58, .int (w z), .long (u64 (nm g l)), .retAddr 0, .retAddr 0, .int (w s.1), .int (w c - 1)] [] M Q
  | 0, j, s, M, hj, T, L, A, hs, e => by
    have e : s = s9 := e
    subst e
    refine x_X11_laysWord_42 T _ _ _ _ ⟨fun _ => hq M L A, fun h => absurd ?_ h⟩
    decide
  | c + 1, j, s, M, hj, T, L, A, hs, e => by
    have hl := W.1
    have a2 := nm_40 W.2.1 (m := l) (by omega)
    have gj := W.2.1 j
    have e1 : w (c + 1) - 1 = w c := w_sub (a := c + 1) (b := 1) (by omega)
    have ea : nm g l / 2 ^ (5 * c) % 32 = g j := by
      have a := nm_at W.2.1 (i := j) (k := c)
      rw [show j + 1 + c = l by omega, show 32 ^ c = 2 ^ (5 * c) by rw [show (32 : Nat) = 2 ^ 5 from rfl, ← Nat.pow_mul]] at a
      exact a
    have hle : nm g l / 2 ^ (5 * c) ≤ nm g l := Nat.div_le_self _ _
    rw [apF] at e
    refine x_X11_laysWord_42 T _ _ _ _ ⟨fun h => ?_, fun _ => ?_⟩
    · rw [e1] at h; exact absurd h (w_pos (by omega))
    · rw [e1, u_5i (by omega), u_sar (by omega) (by omega), u_and31 (by omega), ea, u_i32 gj, w_36, w_nat (by omega)]
      refine ⟨w_in (by omega) (by omega), fun M1 e9 => ?_⟩
      have L1 : lip (mV z) M M1 := by rw [e9]; exact lip_setI ⟨rfl, by omega, by omega⟩
      rw [w_add1, w_m1]
      refine q_word_l W hz s9 hq c (j + 1) (s.1 + 1, setF s.2 s.1 (g j)) M1 (by omega) (lip_T L1 T) (lip_trans L L1) (fun i hi => ?_) (by show s.1 + 1 + c ≤ 35; omega) e
      have hi : i < s.1 + 1 := hi
      show mx_I M1 86 (36 * z + i) = w (setF s.2 s.1 (g j) i) ∧ setF s.2 s.1 (g j) i < 32
      rw [e9]
      by_cases q : i = s.1
      · rw [q, I_eq, setF_eq]; exact ⟨rfl, gj⟩
      · rw [I_ne (by omega), setF_ne q]; exact A i (by omega)
theorem q_laysWord {d z l : Nat} {g : Nat → Nat} {jn : Bool} {s : KS} {M : mx_M} {Q : QQ} (T : mx_Tp M) (W : wrd l g) (A : slM M z s.1 s.2) (hs : (spF jn s).1 + l ≤ 35) (hq : ∀ M1, lip (mV z) M M1 → sgM M1 z (kwF jn l g s).1 (kwF jn l g s).2 → Q (.inl (some (.int (w (kwF jn l g s).1)))) M1) : mx_W m_X11_laysWord (d + 1) 0 [.ref 58, .int (w z), .long (u64 (nm g l)), .retAddr 0, .int (mx_b jn), .retAddr 0, .retAddr 0] [] M Q := by
  have h1 := A.1
  have h2 := A.2.1
  have hl := W.1
  unfold kwF at hq
  have same : ¬ (0 < s.1 ∧ jn = false) → mx_W m_X11_laysWord (d + 1) 42 [.ref 58, .int (w z), .long (u64 (nm g l)), .retAddr 0, .retAddr 0, .int (w s.1), .int (w l - 1)] [] M Q := by
    intro h
    unfold spF at hs hq
    rw [if_neg h] at hs hq
    exact q_word_l W h1 _ hq l 0 s M (Nat.zero_add l) T (lip_refl _ _) A.2.2.2 hs rfl
  refine x_X11_laysWord_0 T _ _ jn ?_
  rw [w_nat (n := z) (by omega), A.2.2.1, w_le0 (by omega), w_36, w_nat (n := 36 * z + s.1) (by omega)]
  refine ⟨w_in (by omega) (by omega), fun h => q_longOf T W ⟨rfl, rfl, _, rfl, same (by omega)⟩, fun h => ⟨fun y => q_longOf T W ⟨rfl, rfl, _, rfl, same (fun q => by rw [q.2] at y; cases y)⟩, fun y => ⟨w_in (by omega) (by omega), fun M5 e5 => ?_⟩⟩⟩
  unfold spF at hs hq
  rw [if_pos ⟨by omega, y⟩] at hs hq
  have hs : s.1 + 1 + l ≤ 35 := hs
  have L5 : lip (mV z) M M5 := by rw [e5]; exact lip_setI ⟨rfl, by omega, by omega⟩
  rw [w_add1]
  refine q_longOf (lip_T L5 T) W ⟨rfl, rfl, _, rfl, q_word_l W h1 _ (fun M2 L2 A2 => hq M2 (lip_trans L5 L2) A2) l 0 (s.1 + 1, setF s.2 s.1 0) M5 (Nat.zero_add l) (lip_T L5 T) (lip_refl _ _) (fun i hi => ?_) hs rfl⟩
  have hi : i < s.1 + 1 := hi
  show mx_I M5 86 (36 * z + i) = w (setF s.2 s.1 0 i) ∧ setF s.2 s.1 0 i < 32
  rw [e5]
  by_cases q : i = s.1
  · rw [q, I_eq, setF_eq]; exact ⟨rfl, by decide⟩
  · rw [I_ne (by omega), setF_ne q]; exact A.2.2.2 i (by omega)
def sdM (M : mx_M) (m : Nat) (sl : Nat → Nat) (sg : Nat → Nat → Nat) : Prop := ∀ i, i < m → mx_J M 87 i = u64 (nm (sg i) (sl i))
theorem sdM_lip {P : Nat → Nat → Prop} {m : Nat} {sl : Nat → Nat} {sg : Nat → Nat → Nat} {M M1 : mx_M} (L : lip P M M1) (hP : ∀ j, ¬ P 87 j) (S : sdM M m sl sg) : sdM M1 m sl sg := fun i hi => by
  rw [(L.2 87 i (hP i)).2]; exact S i hi
theorem mV_K {z : Nat} {M M1 : mx_M} (L : lip (mV z) M M1) : lip (mK z) M M1 := lip_mono L (fun a j h => Or.inr h)
/-- the word is laid and its length kept -/
theorem slM_next {z n1 : Nat} {k1 : Nat → Nat} {M1 M2 : mx_M} (hz : z < 50) (h35 : n1 ≤ 35) (A : sgM M1 z n1 k1) (e2 : M2 = mx_setI M1 85 z (w n1)) : slM M2 z n1 k1 :=
  ⟨hz, h35, by rw [e2]; exact I_eq, fun i hi => by rw [e2, I_ne (by omega)]; exact A i hi⟩
theorem q_ws_l {d z m : Nat} {sl : Nat → Nat} {sg : Nat → Nat → Nat} {jn : Bool} {M0 : mx_M} {Q : QQ} (hz : z < 50) (hm : m ≤ 4) (hW : ∀ i, i < m → wrd (sl i) (sg i)) (s9 : KS) (hq : ∀ M1, lip (mK z) M0 M1 → slM M1 z s9.1 s9.2 → Q (.inl none) M1) :
    ∀ (c i r e : Nat) (s : KS) (M : mx_M), i + c = e → e ≤ m → c + r ≤ 4 → mx_Tp M → lip (mK z) M0 M → sdM M m sl sg → slM M z s.1 s.2 → s.1 ≤ 9 * r - 1 → wsF jn sl sg i c s = s9 → mx_W m_X11_laysKey (d + 1 + 1) 172 [.ref 58, .retAddr 0, .retAddr 0, .retAddr 0, .retAddr 0, .retAddr 0, .retAddr 0, .int (w z), .int (mx_b jn), .int (w e), .int (w i)] [] M Q
  | 0, i, r, e, s, M, hi, he, hr, T, L, S, A, hs, e9 => by
    have e9 : s = s9 := e9
    subst e9
    refine x_X11_laysKey_172 T _ _ _ _ ⟨fun _ => hq M L A, fun h => absurd ?_ h⟩
    rw [w_le (by omega) (by omega)]; omega
  | c + 1, i, r, e, s, M, hi, he, hr, T, L, S, A, hs, e9 => by
    have hw := hW i (by omega)
    have room := kw_room (jn := jn) (l := sl i) hs hw.1.2 (by omega) (sg i)
    rw [wsF] at e9
    refine x_X11_laysKey_172 T _ _ _ _ ⟨fun h => ?_, fun _ => ⟨w_in (by omega) (by omega), ?_⟩⟩
    · rw [w_le (by omega) (by omega)] at h; omega
    · rw [w_nat (n := i) (by omega), S i (by omega)]
      refine q_laysWord T hw A room.1 (fun M1 L1 A1 => ⟨L1.1.1, L1.1.2.1, _, rfl, w_in (by omega) (by omega), fun M3 e3 => ?_⟩)
      rw [w_nat (by omega)] at e3
      have L3 : lip (mK z) M1 M3 := by rw [e3]; exact lip_setI (Or.inl ⟨rfl, rfl⟩)
      have LL := lip_trans (mV_K L1) L3
      rw [w_add1]
      exact q_ws_l hz hm hW s9 hq c (i + 1) (r + 1) e _ M3 (by omega) he (by omega) (lip_T LL T) (lip_trans L LL) (sdM_lip LL (fun j h => by rcases h with h | h <;> omega) S) (slM_next hz (by omega) A1 e3) room.2 e9
theorem mx_b1 {b : Bool} : mx_b b = 1 ↔ b = true := by cases b <;> decide
theorem q_key_h {d z x m ff : Nat} {sl : Nat → Nat} {sg : Nat → Nat → Nat} {tn jn : Bool} {M : mx_M} {Q : QQ} (T : mx_Tp M) (hm : m ≤ 4) (h1 : 1 ≤ m) (hf : ff ≤ m - 1) (hz : z < 5) (hx : x < 10) (hW : ∀ i, i < m → wrd (sl i) (sg i)) (ht7 : mx_I M 63 z = mx_b tn) (S : sdM M m sl sg)
    (hq : ∀ M1, lip (mK (10 * z + x)) M M1 → slM M1 (10 * z + x) (keyF tn jn m sl sg ff).1 (keyF tn jn m sl sg ff).2 → Q (.inl none) M1) :
    ∀ M1, M1 = mx_setI M 85 (10 * z + x) 0 → (vp_in (w z) 5 ∧ ((¬ (mx_I M1 63 z) = (1 : Int32) → mx_W m_X11_laysKey (d + 1 + 1) 172 [.ref 58, .retAddr 0, .retAddr 0, .retAddr 0, .retAddr 0, .retAddr 0, .retAddr 0, .int (w (10 * z + x)), .int (mx_b jn), .int (w m), .int (w ff)] [] M1 Q) ∧ ((mx_I M1 63 z) = (1 : Int32) → (vp_in (w m - 1) 4 ∧ (mx_W m_X11_laysWord (d + 1) 0 [.ref 58, .int (w (10 * z + x)), .long (mx_J M1 87 (w m - 1).toNatClampNeg), .retAddr 0, .int (mx_b jn), .retAddr 0, .retAddr 0] [] M1 (fun o M2 => mx_sh M2 = mx_sh M1 ∧ mx_R M2 = mx_R M1 ∧ (∃ x3 : Int32, o = .inl (some (.int x3)) ∧ (vp_in (w (10 * z + x)) 50 ∧ (∀ M4, M4 = mx_setI M2 85 (10 * z + x) x3 → mx_W m_X11_laysKey (d + 1 + 1) 172 [.ref 58, .retAddr 0, .retAddr 0, .retAddr 0, .retAddr 0, .retAddr 0, .retAddr 0, .int (w (10 * z + x)), .int (mx_b jn), .int (w m - 1), .int (w ff)] [] M4 Q))))))))) := by
  intro M1 e1
  have L1 : lip (mK (10 * z + x)) M M1 := by rw [e1]; exact lip_setI (Or.inl ⟨rfl, rfl⟩)
  have T1 := lip_T L1 T
  have S1 := sdM_lip L1 (fun j h => by rcases h with h | h <;> omega) S
  have t1 : mx_I M1 63 z = mx_b tn := by rw [e1, I_ne (by omega)]; exact ht7
  have A0 : slM M1 (10 * z + x) (0 : Nat) (fun _ => 0) := ⟨by omega, by omega, by rw [e1]; exact I_eq, fun i hi => by omega⟩
  have em : w m - 1 = w (m - 1) := w_sub (a := m) (b := 1) h1
  unfold keyF at hq
  rw [t1, mx_b1, em, w_nat (n := m - 1) (by omega), S1 (m - 1) (by omega)]
  refine ⟨w_in (by omega) (by omega), fun y => ?_, fun y => ⟨w_in (by omega) (by omega), ?_⟩⟩
  · rw [if_neg y] at hq
    exact q_ws_l (by omega) hm hW _ (fun M2 L2 A2 => hq M2 (lip_trans L1 L2) A2) (m - ff) ff 0 m (0, fun _ => 0) M1 (by omega) (Nat.le_refl _) (by omega) T1 (lip_refl _ _) S1 A0 (by show 0 ≤ _; omega) rfl
  · rw [if_pos y] at hq
    have hw := hW (m - 1) (by omega)
    have room := kw_room (jn := jn) (l := sl (m - 1)) (r := 0) (s := (0, fun _ => 0)) (by show 0 ≤ _; omega) hw.1.2 (by omega) (sg (m - 1))
    refine q_laysWord (s := (0, fun _ => 0)) T1 hw A0 room.1 (fun M2 L2 A2 => ⟨L2.1.1, L2.1.2.1, _, rfl, w_in (by omega) (by omega), fun M4 e4 => ?_⟩)
    have L4 : lip (mK (10 * z + x)) M2 M4 := by rw [e4]; exact lip_setI (Or.inl ⟨rfl, rfl⟩)
    have LL := lip_trans (mV_K L2) L4
    exact q_ws_l (by omega) hm hW _ (fun M3 L3 A3 => hq M3 (lip_trans L1 (lip_trans LL L3)) A3) (m - 1 - ff) ff 1 (m - 1) _ M4 (by omega) (by omega) (by omega) (lip_T LL T1) (lip_refl _ _) (sdM_lip LL (fun j h => by rcases h with h | h <;> omega) S1) (slM_next (by omega) (by omega) A2 e4) room.2 rfl
theorem q_key_f {d o z x n m : Nat} {bw : Int32} {k fl : Nat → Nat} {fg : Nat → Nat → Nat} {tl : Nat → Nat} {tg : Nat → Nat → Nat} {dr : Nat → Bool} {sl : Nat → Nat} {sg : Nat → Nat → Nat} {tn jn : Bool} {M : mx_M} {Q : QQ} (T : mx_Tp M) (R : rlM M o n k fl fg tl tg) (Rw : rlW n k fl fg tl tg) (hd : ∀ i, i < 8 → (w i = bw ↔ dr i = true)) (hm : m ≤ 4) (h1 : 1 ≤ m) (hz : z < 5) (hx : x < 10) (hW : ∀ i, i < m → wrd (sl i) (sg i)) (ht7 : mx_I M 63 z = mx_b tn) (hj : mx_I M 64 z = mx_b jn) (S : sdM M m sl sg)
    (hq : ∀ M1, lip (mK (10 * z + x)) M M1 → slM M1 (10 * z + x) (keyF tn jn m sl sg (ffF n k fg dr m sg)).1 (keyF tn jn m sl sg (ffF n k fg dr m sg)).2 → Q (.inl none) M1) :
    ∀ (c i : Nat), i + c = m - 1 → fnd (fun i => !skF n k fg dr (sg i)) i c = ffF n k fg dr m sg → mx_W m_X11_laysKey (d + 1 + 1) 59 [.ref 58, .int (w z), .int (w o), .int bw, .int (w x), .int (w m), .int (w i), .retAddr 0, .retAddr 0, .retAddr 0, .retAddr 0] [] M Q
  | 0, i, hi, e => by
    have e : i = ffF n k fg dr m sg := e
    have em : w m - 1 = w (m - 1) := w_sub (a := m) (b := 1) h1
    refine x_X11_laysKey_59 T _ _ _ _ _ _ ?_
    rw [w_10, w_nat (n := z) (by omega), w_nat (n := 10 * z + x) (by omega), hj, mx_b1]
    refine ⟨fun _ => ⟨w_in (by omega) (by omega), fun y => ⟨w_in (by omega) (by omega), ?_⟩, fun y => ⟨w_in (by omega) (by omega), ?_⟩⟩, fun h => absurd ?_ h⟩
    · have y2 : jn = false := Bool.eq_false_iff.mpr y
      subst y2
      exact q_key_h (ff := i) T hm h1 (by omega) hz hx hW ht7 S (by rw [e]; exact hq)
    · subst y
      exact q_key_h (ff := i) T hm h1 (by omega) hz hx hW ht7 S (by rw [e]; exact hq)
    · rw [em, w_le (by omega) (by omega)]; omega
  | c + 1, i, hi, e => by
    have em : w m - 1 = w (m - 1) := w_sub (a := m) (b := 1) h1
    have hw := hW i (by omega)
    refine x_X11_laysKey_59 T _ _ _ _ _ _ ⟨fun h => ?_, fun _ => ⟨w_in (by omega) (by omega), ?_⟩⟩
    · rw [em, w_le (by omega) (by omega)] at h; omega
    · rw [w_nat (n := i) (by omega), S i (by omega)]
      refine q_skipped T R Rw hw hd ⟨rfl, rfl, _, rfl, fun y => ?_, fun y => ?_⟩
      · rw [fnd_stop (by rw [y]; rfl)] at e
        rw [w_10, w_nat (n := z) (by omega), w_nat (n := 10 * z + x) (by omega), hj, mx_b1]
        refine ⟨w_in (by omega) (by omega), fun y => ⟨w_in (by omega) (by omega), ?_⟩, fun y => ⟨w_in (by omega) (by omega), ?_⟩⟩
        · have y2 : jn = false := Bool.eq_false_iff.mpr y
          subst y2
          exact q_key_h (ff := i) T hm h1 (by omega) hz hx hW ht7 S (by rw [e]; exact hq)
        · subst y
          exact q_key_h (ff := i) T hm h1 (by omega) hz hx hW ht7 S (by rw [e]; exact hq)
      · rw [fnd_next (by rw [y]; decide)] at e
        rw [w_add1]
        exact q_key_f T R Rw hd hm h1 hz hx hW ht7 hj S hq c (i + 1) (by omega) e
/-- what laysKeys reads -/
def arM (M : mx_M) (o z N n : Nat) (k fl : Nat → Nat) (fg : Nat → Nat → Nat) (tl : Nat → Nat) (tg : Nat → Nat → Nat) (tn jn : Bool) (yr wn : Nat → Nat) (hl : Nat → Nat → Nat) (hg : Nat → Nat → Nat → Nat) : Prop := (mx_Tp M ∧ mx_I M 58 1 = w N) ∧ rlM M o n k fl fg tl tg ∧ cdM M N yr wn hl hg ∧ mx_I M 63 z = mx_b tn ∧ mx_I M 64 z = mx_b jn
theorem arM_lip {P : Nat → Nat → Prop} {M M1 : mx_M} {o z N n : Nat} {k fl : Nat → Nat} {fg : Nat → Nat → Nat} {tl : Nat → Nat} {tg : Nat → Nat → Nat} {tn jn : Bool} {yr wn : Nat → Nat} {hl : Nat → Nat → Nat} {hg : Nat → Nat → Nat → Nat} (L : lip P M M1) (hP : ∀ a j, P a j → a = 85 ∨ a = 86 ∨ a = 87) (A : arM M o z N n k fl fg tl tg tn jn yr wn hl hg) : arM M1 o z N n k fl fg tl tg tn jn yr wn hl hg := by
  have f : ∀ a j, ¬ (a = 85 ∨ a = 86 ∨ a = 87) → mx_I M1 a j = mx_I M a j ∧ mx_J M1 a j = mx_J M a j := fun a j h => L.2 a j (fun z => h (hP _ _ z))
  refine ⟨⟨lip_T L A.1.1, by rw [(f 58 1 (by omega)).1]; exact A.1.2⟩, ⟨A.2.1.1, by rw [(f 61 _ (by omega)).1]; exact A.2.1.2.1, fun i hi => ?_⟩, fun x hx => ?_, by rw [(f 63 _ (by omega)).1]; exact A.2.2.2.1, by rw [(f 64 _ (by omega)).1]; exact A.2.2.2.2⟩
  · rw [(f 62 _ (by omega)).1, (f 68 _ (by omega)).2, (f 69 _ (by omega)).2]; exact A.2.1.2.2 i hi
  · have c := A.2.2.1 x hx
    rw [(f 59 _ (by omega)).1, (f 60 _ (by omega)).1]
    exact ⟨c.1, c.2.1, c.2.2.1, fun i hi => by rw [(f 67 _ (by omega)).2]; exact c.2.2.2 i hi⟩
abbrev m87 : Nat → Nat → Prop := fun k _ => k = 87
theorem fm_phG {n : Nat} {k fl : Nat → Nat} {fg : Nat → Nat → Nat} {tl : Nat → Nat} {tg : Nat → Nat → Nat} {dr : Nat → Bool} (Rw : rlW n k fl fg tl tg) : ∀ (c i : Nat) (p : Nat → Nat), i + c = n → phG p → phG (fmF k fg tg dr i c p)
  | 0, i, p, _, G => G
  | c + 1, i, p, hi, G => by
    rw [fmF]
    refine fm_phG Rw c (i + 1) _ (by omega) ?_
    by_cases h : k i = 2 ∧ dr i = false
    · have r := Rw.2.1 i (by omega)
      have wt := r.2.2.1 (by omega)
      rw [if_pos h]
      exact phG_set G ((r.2.1.2.2 0).1 (by have := r.2.1.1; omega)) ((wt.2.2 0).1 (by have := wt.1; omega)) (wt.2.1 0)
    · rw [if_neg h]; exact G
theorem fm_ok {n : Nat} {k fl : Nat → Nat} {fg : Nat → Nat → Nat} {tl : Nat → Nat} {tg : Nat → Nat → Nat} {dr : Nat → Bool} (Rw : rlW n k fl fg tl tg) : phG (fmF k fg tg dr 0 n (fun a => a)) := fm_phG Rw n 0 _ (Nat.zero_add n) ⟨rfl, fun a ha => ⟨ha, fun h => h⟩⟩
theorem q_said_l {d o z N n x : Nat} {bw : Int32} {k fl : Nat → Nat} {fg : Nat → Nat → Nat} {tl : Nat → Nat} {tg : Nat → Nat → Nat} {dr : Nat → Bool} {tn jn : Bool} {yr wn : Nat → Nat} {hl : Nat → Nat → Nat} {hg : Nat → Nat → Nat → Nat} {M0 : mx_M} {Q : QQ} (hN : N ≤ 10) (hx : x < N) (Rw : rlW n k fl fg tl tg) (hd : ∀ i, i < 8 → (w i = bw ↔ dr i = true)) (h4 : wn x ≤ 4)
    (X : ∀ M1, lip m87 M0 M1 → arM M1 o z N n k fl fg tl tg tn jn yr wn hl hg → sdM M1 (wn x) (fun i => spL n k fg tl dr (hl x i) (hg x i)) (fun i j => fmF k fg tg dr 0 n (fun a => a) (spG n k fg tg dr (hg x i) j)) → mx_W m_X11_laysKey (d + 1 + 1) 59 [.ref 58, .int (w z), .int (w o), .int bw, .int (w x), .int (w (wn x)), .int 0, .retAddr 0, .retAddr 0, .retAddr 0, .retAddr 0] [] M1 Q) :
    ∀ (c i : Nat) (M : mx_M), i + c = wn x → arM M o z N n k fl fg tl tg tn jn yr wn hl hg → lip m87 M0 M → sdM M i (fun i => spL n k fg tl dr (hl x i) (hg x i)) (fun i j => fmF k fg tg dr 0 n (fun a => a) (spG n k fg tg dr (hg x i) j)) → mx_W m_X11_laysKey (d + 1 + 1) 12 [.ref 58, .int (w z), .int (w o), .int bw, .int (w x), .int (w (wn x)), .int (w i), .retAddr 0, .retAddr 0, .retAddr 0, .retAddr 0] [] M Q
  | 0, i, M, hi, A, L, S => by
    refine x_X11_laysKey_12 A.1.1 _ _ _ _ _ _ ⟨fun _ => ?_, fun h => absurd ?_ h⟩
    · rw [show i = wn x by omega] at S; exact X M L A S
    · rw [w_le (by omega) (by omega)]; omega
  | c + 1, i, M, hi, A, L, S => by
    have cw := (A.2.2.1 x hx).2.2.2 i (by omega)
    have G := fm_ok (dr := dr) Rw
    refine x_X11_laysKey_12 A.1.1 _ _ _ _ _ _ ⟨fun h => ?_, fun _ => ?_⟩
    · rw [w_le (by omega) (by omega)] at h; omega
    · rw [w_4, w_nat (n := 4 * x + i) (by omega), cw.1]
      refine ⟨w_in (by omega) (by omega), q_spelled A.1.1 A.2.1 Rw cw.2 hd ⟨rfl, rfl, _, rfl, q_folded A.1.1 A.2.1 Rw (wrd_sp Rw cw.2) hd rfl G ⟨rfl, rfl, _, rfl, w_in (by omega) (by omega), fun M5 e5 => ?_⟩⟩⟩
      rw [w_nat (by omega)] at e5
      have L5 : lip m87 M M5 := by rw [e5]; exact lip_setJ rfl
      rw [w_add1]
      refine q_said_l hN hx Rw hd h4 X c (i + 1) M5 (by omega) (arM_lip L5 (fun a j h => Or.inr (Or.inr h)) A) (lip_trans L L5) (fun q hq => ?_)
      rw [e5]
      by_cases y : q = i
      · rw [y]; exact J_eq
      · rw [J_ne (by omega)]; exact S q (by omega)
/-- what laysKeys writes for the slot z -/
abbrev mZ (z : Nat) : Nat → Nat → Prop := fun k j => k = 87 ∨ (k = 85 ∧ 10 * z ≤ j ∧ j < 10 * z + 10) ∨ (k = 86 ∧ 360 * z ≤ j ∧ j < 360 * z + 360)
theorem q_lays_l {d o z N n : Nat} {bw : Int32} {k fl : Nat → Nat} {fg : Nat → Nat → Nat} {tl : Nat → Nat} {tg : Nat → Nat → Nat} {dr : Nat → Bool} {tn jn : Bool} {yr wn : Nat → Nat} {hl : Nat → Nat → Nat} {hg : Nat → Nat → Nat → Nat} {M0 : mx_M} {Q : QQ} (hN : N ≤ 10) (hz : z < 5) (Rw : rlW n k fl fg tl tg) (hd : ∀ i, i < 8 → (w i = bw ↔ dr i = true))
    (hq : ∀ M1, arM M1 o z N n k fl fg tl tg tn jn yr wn hl hg → lip (mZ z) M0 M1 → (∀ x, x < N → slM M1 (10 * z + x) (keyR n k fl fg tl tg dr tn jn wn hl hg x).1 (keyR n k fl fg tl tg dr tn jn wn hl hg x).2) → Q (.inl none) M1) :
    ∀ (c x : Nat) (M : mx_M), x + c = N → arM M o z N n k fl fg tl tg tn jn yr wn hl hg → lip (mZ z) M0 M → (∀ y, y < x → slM M (10 * z + y) (keyR n k fl fg tl tg dr tn jn wn hl hg y).1 (keyR n k fl fg tl tg dr tn jn wn hl hg y).2) → mx_W m_X11_laysKeys (d + 1 + 1 + 1) 3 [.ref 58, .int (w z), .int (w o), .int bw, .int (w x)] [] M Q
  | 0, x, M, hx, A, L, S => by
    refine x_X11_laysKeys_3 A.1.1 _ _ _ _ ⟨fun _ => hq M A L (fun y hy => S y (by omega)), fun h => absurd ?_ h⟩
    rw [A.1.2, w_le (by omega) (by omega)]; omega
  | c + 1, x, M, hx, A, L, S => by
    have cx := A.2.2.1 x (by omega)
    refine x_X11_laysKeys_3 A.1.1 _ _ _ _ ⟨fun h => ?_, fun _ => x_X11_laysKey_0 A.1.1 _ _ _ _ ?_⟩
    · rw [A.1.2, w_le (by omega) (by omega)] at h; omega
    · rw [w_nat (n := x) (by omega), cx.2.1]
      refine ⟨w_in (by omega) (by omega), q_said_l (dr := dr) hN (by omega) Rw hd cx.2.2.1.2 (fun M1 L1 A1 S1 => ?_) (wn x) 0 M (Nat.zero_add _) A (lip_refl _ _) (fun i hi => by omega)⟩
      refine q_key_f (sl := fun i => spL n k fg tl dr (hl x i) (hg x i)) A1.1.1 A1.2.1 Rw hd cx.2.2.1.2 cx.2.2.1.1 hz (by omega) (fun i hi => wrd_fold (wrd_sp Rw (cx.2.2.2 i hi).2) (fm_ok Rw)) A1.2.2.2.1 A1.2.2.2.2 S1 (fun M2 L2 A2 => ⟨L2.1.1.trans L1.1.1, L2.1.2.1.trans L1.1.2.1, rfl, ?_⟩) (wn x - 1) 0 (Nat.zero_add _) rfl
      have L1' : lip (mZ z) M M1 := lip_mono L1 (fun a j h => Or.inl h)
      have L2' : lip (mZ z) M1 M2 := lip_mono L2 (fun a j h => by
        rcases h with h | h
        · exact Or.inr (Or.inl ⟨h.1, by omega, by omega⟩)
        · exact Or.inr (Or.inr ⟨h.1, by omega, by omega⟩))
      have LL := lip_trans L1' L2'
      rw [w_add1]
      refine q_lays_l hN hz Rw hd hq c (x + 1) M2 (by omega) (arM_lip LL (fun a j h => by rcases h with h | h | h <;> omega) A) (lip_trans L LL) (fun y hy => ?_)
      by_cases e : y = x
      · rw [e]; exact A2
      · have s := S y (by omega)
        have f : ∀ a j, ¬ mK (10 * z + x) a j → ¬ a = 87 → mx_I M2 a j = mx_I M a j := fun a j h h2 => by
          rw [(L2.2 a j h).1, (L1.2 a j h2).1]
        refine ⟨s.1, s.2.1, ?_, fun i hi => ?_⟩
        · rw [f 85 _ (fun h => by rcases h with h | h <;> omega) (by decide)]; exact s.2.2.1
        · have := s.2.1
          rw [f 86 _ (fun h => by rcases h with h | h <;> omega) (by decide)]; exact s.2.2.2 i hi
theorem q_laysKeys {d o z N n : Nat} {bw : Int32} {k fl : Nat → Nat} {fg : Nat → Nat → Nat} {tl : Nat → Nat} {tg : Nat → Nat → Nat} {dr : Nat → Bool} {tn jn : Bool} {yr wn : Nat → Nat} {hl : Nat → Nat → Nat} {hg : Nat → Nat → Nat → Nat} {M : mx_M} {Q : QQ} (hN : N ≤ 10) (hz : z < 5) (Rw : rlW n k fl fg tl tg) (hd : ∀ i, i < 8 → (w i = bw ↔ dr i = true)) (A : arM M o z N n k fl fg tl tg tn jn yr wn hl hg)
    (hq : ∀ M1, arM M1 o z N n k fl fg tl tg tn jn yr wn hl hg → lip (mZ z) M M1 → (∀ x, x < N → slM M1 (10 * z + x) (keyR n k fl fg tl tg dr tn jn wn hl hg x).1 (keyR n k fl fg tl tg dr tn jn wn hl hg x).2) → Q (.inl none) M1) : mx_W m_X11_laysKeys (d + 1 + 1 + 1) 0 [.ref 58, .int (w z), .int (w o), .int bw, .retAddr 0] [] M Q :=
  x_X11_laysKeys_0 A.1.1 _ _ _ (q_lays_l hN hz Rw hd hq N 0 M (Nat.zero_add N) A (lip_refl _ _) (fun y hy => by omega))
