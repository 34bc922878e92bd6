/-! the reference reads a line: its world, small steps -/
abbrev mB : Nat → Nat → Prop := fun k j => (k = 58 ∧ (j = 16 ∨ j = 17 ∨ (20 ≤ j ∧ j ≤ 31))) ∨ (72 ≤ k ∧ k ≤ 84)
def csN (M : mx_M) (X : TX) (c : CD) : Prop := mx_I M 58 27 = w (dN c) ∧ ∀ x, x < dN c → mx_I M 72 x = w (dY c x) ∧ mx_I M 73 x = w (dW c x) ∧ ∀ k, k < dW c x → mx_J M 81 (4 * x + k) = u64 (nm (hgX X c x k) (hlX X c x k))
def rlN (M : mx_M) (X : TX) (c : CD) (o : Nat) : Prop := mx_I M 74 o = w (dR c o) ∧ ∀ i, i < dR c o → mx_I M 75 (8 * o + i) = w (dRk c o i) ∧ mx_J M 82 (8 * o + i) = u64 (nm (fgX X c o i) (flX X c o i)) ∧ (¬ dRk c o i = 0 → mx_J M 83 (8 * o + i) = u64 (nm (tgX X c o i) (tlX X c o i)))
def tieN (M : mx_M) (c : CD) (tp o : Nat) : Prop := (dI c o = false → mx_I M 78 o = -1) ∧ (dI c o = true → ∃ a t, mx_I M 78 o = w a ∧ cdP M (dL c o) a t ∧ mx_I M 79 t = 0 ∧ t + 1 ≤ tp)
def ksN (M : mx_M) (X : TX) (c : CD) (tp : Nat) : Prop := mx_I M 58 28 = w (dK c) ∧ ∀ o, o < dK c → rlN M X c o ∧ (mx_I M 76 o = mx_b (dT c o) ∧ mx_I M 77 o = mx_b (dJ c o)) ∧ tieN M c tp o
def WB (M0 M : mx_M) (X : TX) (q : Nat) : Prop := (mx_Tp M ∧ lip mB M0 M) ∧ tkM M X q ∧ g16 M
def WM (M0 M : mx_M) (X : TX) (c : CD) (q tp : Nat) : Prop := WB M0 M X q ∧ (mx_I M 58 29 = w tp ∧ tp ≤ 2 * q) ∧ csN M X c ∧ ksN M X c tp
/-- a fault -/
def BM (M0 M1 : mx_M) (X : TX) (k p : Nat) : Prop := (mx_Tp M1 ∧ lip mB M0 M1) ∧ (∃ q, tkM M1 X q) ∧ mx_I M1 58 16 = w k ∧ mx_I M1 58 17 = w p
def lnM (M0 : mx_M) (X : TX) (r : LR) (R : mx_M → Prop) : Prop := (r.1 = 0 → ∀ M1 tp1, WM M0 M1 X r.2.2 r.2.1 tp1 → R M1) ∧ (¬ r.1 = 0 → ∀ M1, BM M0 M1 X r.1 r.2.1 → R M1)
theorem tkM_700 {X : TX} {q : Nat} {M : mx_M} (A : tkM M X q) : q ≤ X.2 ∧ X.2 ≤ 700 := ⟨A.2.2.2.2.2, A.2.2.2.2.1.2.1⟩
theorem csN_lip {P : Nat → Nat → Prop} {M M1 : mx_M} {X : TX} {c : CD} (G : gdC X c) (L : lip P M M1) (hP : ∀ k j, P k j → ¬ (k = 58 ∧ j = 27) ∧ (k = 72 ∨ k = 73 → dN c ≤ j) ∧ (k = 81 → 4 * dN c ≤ j)) (A : csN M X c) : csN M1 X c := by
  refine ⟨?_, fun x hx => ?_⟩
  · rw [(L.2 58 27 (fun z => (hP _ _ z).1 ⟨rfl, rfl⟩)).1]; exact A.1
  · obtain ⟨r1, r2, r3⟩ := A.2 x hx
    have g := (G.2.1 x hx).2.1
    refine ⟨?_, ?_, fun k hk => ?_⟩
    · rw [(L.2 72 x (fun z => by have := (hP _ _ z).2.1 (Or.inl rfl); omega)).1]; exact r1
    · rw [(L.2 73 x (fun z => by have := (hP _ _ z).2.1 (Or.inr rfl); omega)).1]; exact r2
    · rw [(L.2 81 _ (fun z => by have := (hP _ _ z).2.2 rfl; omega)).2]; exact r3 k hk
theorem rlN_lip {P : Nat → Nat → Prop} {M M1 : mx_M} {X : TX} {c : CD} {o : Nat} (L : lip P M M1) (h4 : ¬ P 74 o) (h8 : ∀ i, i < dR c o → ¬ P 75 (8 * o + i) ∧ ¬ P 82 (8 * o + i) ∧ ¬ P 83 (8 * o + i)) (A : rlN M X c o) : rlN M1 X c o := by
  refine ⟨by rw [(L.2 74 o h4).1]; exact A.1, fun i hi => ⟨?_, ?_, fun y => ?_⟩⟩
  · rw [(L.2 75 _ (h8 i hi).1).1]; exact (A.2 i hi).1
  · rw [(L.2 82 _ (h8 i hi).2.1).2]; exact (A.2 i hi).2.1
  · rw [(L.2 83 _ (h8 i hi).2.2).2]; exact (A.2 i hi).2.2 y
theorem tieN_lip {P : Nat → Nat → Prop} {M M1 : mx_M} {c : CD} {o tp tp1 : Nat} (L : lip P M M1) (ht : tp ≤ tp1) (h8 : ¬ P 78 o) (h9 : ∀ j, j < tp → ¬ P 79 j) (A : tieN M c tp o) : tieN M1 c tp1 o := by
  refine ⟨fun y => by rw [(L.2 78 o h8).1]; exact A.1 y, fun y => ?_⟩
  obtain ⟨a, t, r1, r2, r3, r4⟩ := A.2 y
  refine ⟨a, t, by rw [(L.2 78 o h8).1]; exact r1, cdP_at _ _ _ (fun j _ hj => (L.2 79 j (h9 j (by omega))).1) r2, by rw [(L.2 79 t (h9 t (by omega))).1]; exact r3, by omega⟩
theorem ksN_lip {P : Nat → Nat → Prop} {M M1 : mx_M} {X : TX} {c : CD} {tp : Nat} (L : lip P M M1) (hP : ∀ k j, P k j → ¬ (k = 58 ∧ j = 28) ∧ ¬ (74 ≤ k ∧ k ≤ 78) ∧ (k = 79 → tp ≤ j) ∧ ¬ k = 82 ∧ ¬ k = 83) (A : ksN M X c tp) : ksN M1 X c tp := by
  refine ⟨by rw [(L.2 58 28 (fun z => (hP _ _ z).1 ⟨rfl, rfl⟩)).1]; exact A.1, fun o ho => ?_⟩
  obtain ⟨r1, r2, r3⟩ := A.2 o ho
  have f : ∀ k j, 74 ≤ k → k ≤ 78 → ¬ P k j := fun k j a b z => (hP k j z).2.1 ⟨a, b⟩
  refine ⟨rlN_lip L (f 74 o (by omega) (by omega)) (fun i hi => ⟨f 75 _ (by omega) (by omega), fun z => (hP _ _ z).2.2.2.1 rfl, fun z => (hP _ _ z).2.2.2.2 rfl⟩) r1, ⟨?_, ?_⟩, tieN_lip L (Nat.le_refl _) (f 78 o (by omega) (by omega)) (fun j hj z => by have := (hP _ _ z).2.2.1 rfl; omega) r3⟩
  · rw [(L.2 76 o (f 76 o (by omega) (by omega))).1]; exact r2.1
  · rw [(L.2 77 o (f 77 o (by omega) (by omega))).1]; exact r2.2
theorem g16_lip {P : Nat → Nat → Prop} {M M1 : mx_M} (L : lip P M M1) (h3 : ¬ P 58 16) (h4 : ¬ P 58 17) (A : g16 M) : g16 M1 := g16_f (L.2 58 16 h3).1 (L.2 58 17 h4).1 A
theorem wb_lip {P : Nat → Nat → Prop} {M0 M M1 : mx_M} {X : TX} {q : Nat} (L : lip P M M1) (hP : ∀ k j, P k j → (k = 58 ∧ 27 ≤ j ∧ j ≤ 31) ∨ (72 ≤ k ∧ k ≤ 84)) (A : WB M0 M X q) : WB M0 M1 X q :=
  ⟨⟨lip_T L A.1.1, lip_trans A.1.2 (lip_mono L (fun k j z => by have := hP k j z; show _ ∨ _; omega))⟩, tkM_E L (fun k j z => by have := hP k j z; omega) A.2.1, g16_lip L (fun z => by have := hP _ _ z; omega) (fun z => by have := hP _ _ z; omega) A.2.2⟩
theorem mX_B {M M1 : mx_M} (L : lip mX M M1) : lip mB M M1 := lip_mono L (fun k j z => Or.inl ⟨z.1, by omega⟩)
theorem wb_goes {d : Nat} {M0 M : mx_M} {X : TX} {q : Nat} {Q : QQ} (W : WB M0 M X q) (hq : ∀ M1, WB M0 M1 X (nx X q) → lip mX M M1 → Q (.inl none) M1) : mx_W m_X11_goes (d + 1) 0 [.ref 58, .retAddr 0] [] M Q :=
  q_goes W.1.1 W.2.1 (fun M1 L1 A1 => hq M1 ⟨⟨lip_T L1 W.1.1, lip_trans W.1.2 (mX_B L1)⟩, A1, g16_lip L1 (by omega) (by omega) W.2.2⟩ L1)
theorem wm_goes {d : Nat} {M0 M : mx_M} {X : TX} {c : CD} {q tp : Nat} {Q : QQ} (G : gdC X c) (W : WM M0 M X c q tp) (hq : ∀ M1, WM M0 M1 X c (nx X q) tp → lip mX M M1 → Q (.inl none) M1) : mx_W m_X11_goes (d + 1) 0 [.ref 58, .retAddr 0] [] M Q := by
  have b7 := tkM_700 W.1.2.1
  have n := nx_le X b7.1
  have ht := W.2.1.2
  exact wb_goes W.1 (fun M1 W1 L1 => hq M1 ⟨W1, ⟨by rw [(L1.2 58 29 (by omega)).1]; exact W.2.1.1, by omega⟩, csN_lip G L1 (fun k j z => by omega) W.2.2.1, ksN_lip L1 (fun k j z => by omega) W.2.2.2⟩ L1)
theorem b_wrong {d k : Nat} {M0 M : mx_M} {X : TX} {q : Nat} {Q : QQ} (W : WB M0 M X q) (hq : ∀ M1, BM M0 M1 X k q → mx_sh M1 = mx_sh M → mx_R M1 = mx_R M → lip (fun k j => k = 58 ∧ (j = 16 ∨ j = 17)) M M1 → Q (.inl none) M1) : mx_W m_X11_wrong d 0 [.ref 58, .int (w k)] [] M Q :=
  q_wrong2 W.1.1 W.2.2 W.2.1 (fun M1 L1 k1 k2 => hq M1 ⟨⟨lip_T L1 W.1.1, lip_trans W.1.2 (lip_mono L1 (fun k j z => by show _ ∨ _; omega))⟩, ⟨q, tkM_E L1 (fun k j z => by omega) W.2.1⟩, k1, k2⟩ L1.1.1 L1.1.2.1 L1)
theorem b_bad {d k p : Nat} {M0 M : mx_M} {X : TX} {Q : QQ} (B : BM M0 M X k p) (h : 1 ≤ k ∧ k ≤ 5) (hq : Q (.inl (some (.int (mx_b false)))) M) : mx_W m_X11_isGood d 0 [.ref 58] [] M Q := q_isBad B.1.1 B.2.2.1 h.1 (by omega) hq
/-- a world that is faulty stays so -/
theorem bm_lip {P : Nat → Nat → Prop} {M0 M M1 : mx_M} {X : TX} {k p : Nat} (L : lip P M M1) (hP : ∀ k j, P k j → (k = 58 ∧ 27 ≤ j ∧ j ≤ 31) ∨ (72 ≤ k ∧ k ≤ 84)) (B : BM M0 M X k p) : BM M0 M1 X k p := by
  obtain ⟨⟨T, L0⟩, ⟨q, A⟩, e1, e2⟩ := B
  refine ⟨⟨lip_T L T, lip_trans L0 (lip_mono L (fun k j z => by have := hP k j z; show _ ∨ _; omega))⟩, ⟨q, tkM_E L (fun k j z => by have := hP k j z; omega) A⟩, ?_, ?_⟩
  · rw [(L.2 58 16 (fun z => by have := hP _ _ z; omega)).1]; exact e1
  · rw [(L.2 58 17 (fun z => by have := hP _ _ z; omega)).1]; exact e2
theorem q_wordHere {d m : Nat} {M0 M : mx_M} {X : TX} {q : Nat} {Q : QQ} (W : WB M0 M X q) (hm : m < 100) (h1 : knd X q = 1 → sz X q ≤ m → Q (.inl (some (.int (mx_b true)))) M) (h2 : ∀ k, (k = if knd X q = 1 then 2 else 1) → ¬ (knd X q = 1 ∧ sz X q ≤ m) → ∀ M1, BM M0 M1 X k q → mx_sh M1 = mx_sh M → mx_R M1 = mx_R M → Q (.inl (some (.int (mx_b false)))) M1) : mx_W m_X11_wordHere (d + 1) 0 [.ref 58, .int (w m)] [] M Q := by
  have b7 := tkM_700 W.2.1
  have hkd := tkM_kd (X := X) (q := q)
  have hsz := sz_le X b7.1
  refine x_X11_wordHere_0 W.1.1 _ (q_isGood W.1.1 W.2.2 ⟨rfl, rfl, true, rfl, fun _ => ?_, fun y => by cases y⟩)
  rw [W.2.1.1.2.1, W.2.1.1.2.2.2, show (1 : Int32) = w 1 from rfl, w_inj (by omega) (by omega), w_le (by omega) (by omega)]
  refine ⟨fun z => ⟨fun y => q_isGood W.1.1 W.2.2 ⟨rfl, rfl, true, rfl, h1 z y⟩, fun y => b_wrong (k := 2) W (fun M1 B1 s1 t1 _ => ⟨s1, t1, rfl, b_bad B1 (by omega) ⟨rfl, rfl, false, rfl, h2 2 (by rw [if_pos z]) (fun x => y x.2) M1 B1 s1 t1⟩⟩)⟩, fun z => b_wrong (k := 1) W (fun M1 B1 s1 t1 _ => ⟨s1, t1, rfl, b_bad B1 (by omega) ⟨rfl, rfl, false, rfl, h2 1 (by rw [if_neg z]) (fun x => z x.1) M1 B1 s1 t1⟩⟩)⟩
theorem b_word {d k p : Nat} {v : Int32} {M0 M : mx_M} {X : TX} {Q : QQ} (B : BM M0 M X k p) (h : 1 ≤ k ∧ k ≤ 5) (hq : Q (.inl (some (.int (mx_b false)))) M) : mx_W m_X11_wordHere (d + 1) 0 [.ref 58, .int v] [] M Q :=
  x_X11_wordHere_0 B.1.1 _ (b_bad B h ⟨rfl, rfl, false, rfl, (fun y => by cases y), fun _ => hq⟩)
theorem q_number {d : Nat} {M0 M : mx_M} {X : TX} {q : Nat} {Q : QQ} (W : WB M0 M X q)
    (h1 : knd X q = 2 → sz X q ≤ 4 → dgv X q (sz X q) ≤ 999 → ∀ M1, WB M0 M1 X (nx X q) → lip mX M M1 → Q (.inl (some (.int (w (dgv X q (sz X q)))))) M1)
    (h2 : ∀ k, (k = if knd X q = 2 then 2 else 1) → ¬ (knd X q = 2 ∧ sz X q ≤ 4 ∧ dgv X q (sz X q) ≤ 999) → ∀ M1 v, BM M0 M1 X k q → mx_sh M1 = mx_sh M → mx_R M1 = mx_R M → lip (fun k j => k = 58 ∧ (j = 16 ∨ j = 17)) M M1 → Q (.inl (some (.int v))) M1) : mx_W m_X11_number (d + 2) 0 [.ref 58, .int 0, .int 999, .retAddr 0] [] M Q := by
  have b7 := tkM_700 W.2.1
  have hkd := tkM_kd (X := X) (q := q)
  have hsz := sz_le X b7.1
  refine x_X11_number_0 W.1.1 _ _ (q_isGood W.1.1 W.2.2 ⟨rfl, rfl, true, rfl, fun _ => ?_, fun y => by cases y⟩)
  rw [W.2.1.1.2.1, W.2.1.1.2.2.2, show (2 : Int32) = w 2 from rfl, show (4 : Int32) = w 4 from rfl, w_inj (by omega) (by omega), w_lt (by omega) (by omega)]
  refine ⟨fun z => ⟨fun y => b_wrong (k := 2) W (fun M1 B1 s1 t1 l1 => ⟨s1, t1, rfl, b_bad B1 (by omega) ⟨rfl, rfl, false, rfl, fun _ => h2 2 (by rw [if_pos z]) (fun x => by omega) M1 _ B1 s1 t1 l1, fun x => by cases x⟩⟩), fun y => ?_⟩, fun z => b_wrong (k := 1) W (fun M1 B1 s1 t1 l1 => ⟨s1, t1, rfl, b_bad B1 (by omega) ⟨rfl, rfl, false, rfl, fun _ => h2 1 (by rw [if_neg z]) (fun x => z x.1) M1 _ B1 s1 t1 l1, fun x => by cases x⟩⟩)⟩
  have d9 := dgv_9 z (by omega)
  have e24 : mx_I M 58 24 = w (dgv X q (sz X q)) := by rw [W.2.1.2.2.1 z]; unfold m4; rw [if_pos (by omega)]
  rw [e24, show (0 : Int32) = w 0 from rfl, show (999 : Int32) = w 999 from rfl, w_lt (by omega) (by omega), w_le (by omega) (by omega)]
  refine ⟨fun x => absurd x (by omega), fun _ => ⟨fun x => q_isGood W.1.1 W.2.2 ⟨rfl, rfl, true, rfl, (fun v => by cases v), fun _ => wb_goes W (fun M1 W1 L1 => ⟨L1.1.1, L1.1.2.1, rfl, h1 z (by omega) x M1 W1 L1⟩)⟩, fun x => b_wrong (k := 2) W (fun M1 B1 s1 t1 l1 => ⟨s1, t1, rfl, b_bad B1 (by omega) ⟨rfl, rfl, false, rfl, fun _ => h2 2 (by rw [if_pos z]) (fun v => x v.2.2) M1 _ B1 s1 t1 l1, fun v => by cases v⟩⟩)⟩⟩
theorem q_need {d : Nat} {b : Bool} {M0 M : mx_M} {X : TX} {c : CD} {q tp : Nat} {Q : QQ} (G : gdC X c) (W : WM M0 M X c q tp) (h1 : b = true → ∀ M1, WM M0 M1 X c (nx X q) tp → lip mX M M1 → Q (.inl none) M1) (h2 : b = false → ∀ M1, BM M0 M1 X 1 q → mx_sh M1 = mx_sh M → mx_R M1 = mx_R M → Q (.inl none) M1) : mx_W m_X11_need (d + 2) 0 [.ref 58, .int (mx_b b)] [] M Q :=
  x_X11_need_0 W.1.1.1 _ (q_isGood W.1.1.1 W.1.2.2 ⟨rfl, rfl, true, rfl, fun _ => ⟨fun y => b_wrong (k := 1) W.1 (fun M1 B1 s1 t1 _ => ⟨s1, t1, rfl, h2 y M1 B1 s1 t1⟩), fun y => wm_goes G W (fun M1 W1 L1 => ⟨L1.1.1, L1.1.2.1, rfl, h1 y M1 W1 L1⟩)⟩, fun y => by cases y⟩)
theorem b_need {d k p : Nat} {b : Bool} {M0 M : mx_M} {X : TX} {Q : QQ} (B : BM M0 M X k p) (h : 1 ≤ k ∧ k ≤ 5) (hq : Q (.inl none) M) : mx_W m_X11_need (d + 1) 0 [.ref 58, .int (mx_b b)] [] M Q :=
  x_X11_need_0 B.1.1 _ (b_bad B h ⟨rfl, rfl, false, rfl, (fun y => by cases y), fun _ => hq⟩)
