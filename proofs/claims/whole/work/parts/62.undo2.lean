/-! undo, image, restore; key, count, clerk -/
theorem p_undo {d t n N K m : Nat} {f : Nat → Nat} {an : Nat → Nat} {af : Nat → Nat → Nat} {Bs : BB} {M : mx_M} {Q : QQ} (W : wC M t n N K f Bs) (A : actC M 35 m N an af)
    (h0 : m = 0 → Q (.inl (some (.int (-1)))) M) (h1 : ∀ m1, m = m1 + 1 → ∀ M1, wC M1 t (an m1) N K (af m1) Bs → lip cA M M1 → actC M1 35 m1 N an af → Q (.inl (some (.int (w m1)))) M1) : mx_W m_X10_undo (d + 1 + 1) 0 [.ref 1] [] M Q := by
  have h40 := A.2.1
  refine x_X10_undo_0 W.1 t W.2.1.1.1 W.2.1.1.2 ?_
  rw [A.1, w_eq0 (by omega)]
  refine ⟨fun z => ?_, h0⟩
  cases m with
  | zero => exact absurd rfl z
  | succ m1 =>
    have a := A.2.2 m1 (by omega)
    refine p_dropLatest W.1 (Or.inl rfl) A (fun M1 L1 A1 => ⟨L1.1.1, L1.1.2.1, _, rfl, p_unpack (lik_T L1 W.1) (Or.inl rfl) a.2.1 h40.2 a.2.2 (fun M2 L2 R2 => ⟨L2.1.1, L2.1.2.1, rfl, ?_⟩)⟩)
    have A2 := actC_lik L2 (by intro z; rcases z with z | z <;> omega) (by intro z; rcases z with z | z <;> omega) A1
    have L := lip_trans (a35 L1) (a31 L2)
    rw [A2.1]
    exact h1 m1 rfl M2 (wC_A L R2 W) L A2
theorem q_undo {d n N K m : Nat} {f : Nat → Nat} {an : Nat → Nat} {af : Nat → Nat → Nat} {Bs : BB} {M : mx_M} {Q : QQ} (W : wM M n N K f Bs) (A : actM M m N an af)
    (h0 : m = 0 → Q (.inl (some (.int (-1)))) (mx_setI M 58 0 0)) (h1 : ∀ m1, m = m1 + 1 → ∀ M1, wM M1 (an m1) N K (af m1) Bs → lip undQ M M1 → mx_I M1 58 0 = 0 → actM M1 m1 N an af → Q (.inl (some (.int (w m1)))) M1) : mx_W m_X11_undo d 0 [.ref 58, .retAddr 0] [] M Q := by
  cases m with
  | zero => exact p_mundo0 W.1 A (h0 rfl)
  | succ m1 => exact p_mundo W.1 A (fun M1 L1 e A1 R1 => h1 m1 rfl M1 (wM_row L1 (fun k j h => ⟨fun g => by rcases h with h | h <;> omega, by rcases h with h | h <;> omega⟩) R1 W) L1 e A1)
/-- what an image keeps -/
def imgC (M : mx_M) (N : Nat) (b : Bool) (n : Nat) (f : Nat → Nat) (m : Nat) (an : Nat → Nat) (af : Nat → Nat → Nat) : Prop := mx_I M 1 12 = mx_b b ∧ (b = true → (mx_J M 1 13 = u64 (pkR n f) ∧ n ≤ 10 ∧ ∀ i, i < n → f i < N) ∧ actC M 37 m N an af)
def act2 (M : mx_M) (m N : Nat) (n : Nat → Nat) (f : Nat → Nat → Nat) : Prop := mx_I M 58 61 = w m ∧ (m ≤ 40 ∧ N ≤ 10) ∧ ∀ i, i < m → mx_I M 97 (11 * i) = w (n i) ∧ n i ≤ 10 ∧ ∀ j, j < n i → mx_I M 97 (11 * i + 1 + j) = w (f i j) ∧ f i j < N
def imgM (M : mx_M) (N : Nat) (b : Bool) (n : Nat) (f : Nat → Nat) (m : Nat) (an : Nat → Nat) (af : Nat → Nat → Nat) : Prop := mx_I M 58 60 = mx_b b ∧ (b = true → rowM M 96 n N f ∧ act2 M m N an af)
abbrev cI : Nat → Nat → Prop := fun k j => (k = 1 ∧ (j = 12 ∨ j = 13)) ∨ k = 37 ∨ k = 38
abbrev mI : Nat → Nat → Prop := fun k j => (k = 58 ∧ (j = 60 ∨ j = 61)) ∨ k = 96 ∨ k = 97
theorem wC_I {M M1 : mx_M} {t n N K : Nat} {f : Nat → Nat} {Bs : BB} (L : lip cI M M1) (W : wC M t n N K f Bs) : wC M1 t n N K f Bs :=
  wC_of L (fun k j h => by rcases h with h | h | h <;> rcases W.2.1.1.1 with e | e <;> omega) W
theorem wM_I {M M1 : mx_M} {n N K : Nat} {f : Nat → Nat} {Bs : BB} (L : lip mI M M1) (W : wM M n N K f Bs) : wM M1 n N K f Bs :=
  wM_row L (fun k j h => ⟨fun g => by rcases h with h | h | h <;> omega, by rcases h with h | h | h <;> omega⟩) (rowM_lip L (fun j h => by rcases h with h | h | h <;> omega) W.2.2) W
theorem actC_lip {P : Nat → Nat → Prop} {M M1 : mx_M} {a m N : Nat} {n : Nat → Nat} {f : Nat → Nat → Nat} (L : lip P M M1) (h1 : ∀ j, ¬ P a j) (h2 : ∀ j, ¬ P (a + 1) j) (A : actC M a m N n f) : actC M1 a m N n f :=
  ⟨by rw [(L.2 a 1 (h1 1)).1]; exact A.1, A.2.1, fun i hi => by rw [(L.2 (a + 1) i (h2 i)).2]; exact A.2.2 i hi⟩
theorem p_image {d t n N K m : Nat} {f : Nat → Nat} {an : Nat → Nat} {af : Nat → Nat → Nat} {Bs : BB} {M : mx_M} {Q : QQ} (W : wC M t n N K f Bs) (A : actC M 35 m N an af)
    (hq : ∀ M1, wC M1 t n N K f Bs → lip cI M M1 → imgC M1 N true n f m an af → Q (.inl none) M1) : mx_W m_X10_image (d + 1 + 1) 0 [.ref 1] [] M Q := by
  have h10 := W.2.2.1.2.1
  refine x_X10_image_0 W.1 t W.2.1.1.1 W.2.1.1.2 (p_packed W.1 (Or.inl rfl) W.2.2.1 ⟨rfl, rfl, _, rfl, fun M3 e3 => ?_⟩)
  have L3 : lip cI M M3 := by rw [e3]; exact lip_setJ (Or.inl ⟨rfl, Or.inr rfl⟩)
  have A3 := actC_lip L3 (fun j h => by rcases h with h | h | h <;> omega) (fun j h => by rcases h with h | h | h <;> omega) A
  refine p_copyActs (lip_T L3 W.1) (Or.inr rfl) (Or.inl rfl) (by decide) A3 (fun M4 L4 A4 => ⟨L4.1.1, L4.1.2.1, rfl, fun M5 e5 => ?_⟩)
  have L4' : lip cI M3 M4 := lip_of L4 (fun k j h => Or.inr h)
  have L5 : lip cI M4 M5 := by rw [e5]; exact lip_setI (Or.inl ⟨rfl, Or.inl rfl⟩)
  have L := lip_trans L3 (lip_trans L4' L5)
  have A5 : actC M5 37 m N an af := actC_lip (P := fun k _ => k = 1) (by rw [e5]; exact lip_setI rfl) (fun j h => by omega) (fun j h => by omega) A4
  refine hq M5 (wC_I L W) L ⟨by rw [e5]; exact I_eq, fun _ => ⟨⟨?_, h10.1, fun i hi => (W.2.2.1.2.2 i hi).2⟩, A5⟩⟩
  have : mx_J M5 = mx_J M4 := by rw [e5]
  rw [this, (L4.2 1 (by intro z; rcases z with z | z <;> omega)).2, e3]
  exact J_eq
theorem act2_of {M M1 : mx_M} {m N : Nat} {n : Nat → Nat} {f : Nat → Nat → Nat} (A : actM M m N n f) (e1 : mx_I M1 58 61 = mx_I M 58 53) (e2 : ∀ i, i < 440 → mx_I M1 97 i = mx_I M 92 i) : act2 M1 m N n f := by
  have h40 := A.2.1
  refine ⟨e1.trans A.1, A.2.1, fun i hi => ?_⟩
  have a := A.2.2 i hi
  exact ⟨by rw [e2 _ (by omega)]; exact a.1, a.2.1, fun j hj => by rw [e2 _ (by omega)]; exact a.2.2 j hj⟩
theorem act2_back {M M1 : mx_M} {m N : Nat} {n : Nat → Nat} {f : Nat → Nat → Nat} (A : act2 M m N n f) (e1 : mx_I M1 58 53 = mx_I M 58 61) (e2 : ∀ i, i < 440 → mx_I M1 92 i = mx_I M 97 i) : actM M1 m N n f := by
  have h40 := A.2.1
  refine ⟨e1.trans A.1, A.2.1, fun i hi => ?_⟩
  have a := A.2.2 i hi
  exact ⟨by rw [e2 _ (by omega)]; exact a.1, a.2.1, fun j hj => by rw [e2 _ (by omega)]; exact a.2.2 j hj⟩
theorem q_image {d n N K m : Nat} {f : Nat → Nat} {an : Nat → Nat} {af : Nat → Nat → Nat} {Bs : BB} {M : mx_M} {Q : QQ} (W : wM M n N K f Bs) (A : actM M m N an af)
    (hq : ∀ M1, wM M1 n N K f Bs → lip mI (mx_setI M 58 0 0) M1 → imgM M1 N true n f m an af → Q (.inl none) M1) : mx_W m_X11_image (d + 1) 0 [.ref 58] [] M Q :=
  x_X11_image_0 W.1 (fun M1 e1 => by
    have L0 : lip (fun k j => k = 58 ∧ j = 0) M M1 := by rw [e1]; exact lip_setI ⟨rfl, rfl⟩
    have A1 : actM M1 m N an af := actM_lip L0 (by omega) (fun j => by omega) A
    subst e1
    have W1 := wM_0 (v := 0) W
    have h10 := W1.2.2.2.1
    intro M2 e2 M3 e3
    have L2 : lip mI (mx_setI M 58 0 0) M2 := by rw [e2]; exact lip_setI (Or.inl ⟨rfl, Or.inl rfl⟩)
    have L3 : lip mI M2 M3 := by rw [e3]; exact lip_setI (Or.inl ⟨rfl, Or.inr rfl⟩)
    have W3 := wM_I L3 (wM_I L2 W1)
    have c61 : mx_I M3 58 61 = mx_I (mx_setI M 58 0 0) 58 53 := by rw [e3, I_eq, e2, I_ne (by omega)]
    have c60 : mx_I M3 58 60 = 1 := by rw [e3, I_ne (by omega), e2]; exact I_eq
    have c92 : ∀ j, mx_I M3 92 j = mx_I (mx_setI M 58 0 0) 92 j := fun j => ((lip_trans L2 L3).2 92 j (by intro z; rcases z with z | z | z <;> omega)).1
    refine p_copies (K := 11) W3.1 (by decide) rfl rfl (by decide) (fun M4 L4 c4 => ⟨L4.1.1, L4.1.2.1, rfl, p_copies (K := 440) (lik_T L4 W3.1) (by decide) rfl rfl (by decide) (fun M5 L5 c5 => ⟨L5.1.1, L5.1.2.1, rfl, ?_⟩)⟩)
    have L4' : lip mI M3 M4 := lip_of L4 (fun k j h => Or.inr (Or.inl h))
    have L5' : lip mI M4 M5 := lip_of L5 (fun k j h => Or.inr (Or.inr h))
    have L := lip_trans L2 (lip_trans L3 (lip_trans L4' L5'))
    have f58 : ∀ j, mx_I M5 58 j = mx_I M3 58 j := fun j => by rw [(L5.2 58 (by decide)).1, (L4.2 58 (by decide)).1]
    refine hq M5 (wM_I L W1) L ⟨by rw [f58, c60]; rfl, fun _ => ⟨⟨?_, W3.2.2.2.1, fun i hi => ?_⟩, act2_of A1 (by rw [f58]; exact c61) (fun i hi => by rw [c5 i hi, (L4.2 92 (by decide)).1]; exact c92 i)⟩⟩
    · rw [(L5.2 96 (by decide)).1, c4 0 (by decide)]; exact W3.2.2.1
    · rw [(L5.2 96 (by decide)).1, c4 (i + 1) (by omega)]; exact W3.2.2.2.2 i hi)
theorem p_restore {d t n N K m n1 m1 : Nat} {f f1 : Nat → Nat} {an an1 : Nat → Nat} {af af1 : Nat → Nat → Nat} {b : Bool} {Bs : BB} {M : mx_M} {Q : QQ} (W : wC M t n N K f Bs) (I : imgC M N b n1 f1 m1 an1 af1)
    (h0 : b = false → Q (.inl (some (.int (mx_b false)))) M) (h1 : b = true → ∀ M1, wC M1 t n1 N K f1 Bs → lip cA M M1 → actC M1 35 m1 N an1 af1 → Q (.inl (some (.int (mx_b true)))) M1) : mx_W m_X10_restore (d + 1 + 1) 0 [.ref 1] [] M Q := by
  have h10 := W.2.2.1.2.1
  refine x_X10_restore_0 W.1 t W.2.1.1.1 W.2.1.1.2 ?_
  rw [I.1]
  refine ⟨fun z => ?_, fun z => h0 (mx_b0.mp z)⟩
  have hb := mx_bn.mp z
  have J := I.2 hb
  rw [J.1.1]
  refine p_unpack W.1 (Or.inl rfl) J.1.2.1 h10.2 J.1.2.2 (fun M1 L1 R1 => ⟨L1.1.1, L1.1.2.1, rfl, p_copyActs (lik_T L1 W.1) (Or.inl rfl) (Or.inr rfl) (by decide) (actC_lik L1 (by intro z; rcases z with z | z <;> omega) (by intro z; rcases z with z | z <;> omega) J.2) (fun M2 L2 A2 => ⟨L2.1.1, L2.1.2.1, rfl, ?_⟩)⟩)
  have L := lip_trans (a31 L1) (a35 L2)
  exact h1 hb M2 (wC_A L (rowC_lik L2 (by intro z; rcases z with z | z <;> omega) (by intro z; rcases z with z | z <;> omega) R1) W) L A2
theorem q_restore {d n N K n1 m1 : Nat} {f f1 : Nat → Nat} {an1 : Nat → Nat} {af1 : Nat → Nat → Nat} {b : Bool} {Bs : BB} {M : mx_M} {Q : QQ} (W : wM M n N K f Bs) (I : imgM M N b n1 f1 m1 an1 af1)
    (h0 : b = false → Q (.inl (some (.int (mx_b false)))) (mx_setI M 58 0 0)) (h1 : b = true → ∀ M1, wM M1 n1 N K f1 Bs → lip mA (mx_setI M 58 0 0) M1 → actM M1 m1 N an1 af1 → Q (.inl (some (.int (mx_b true)))) M1) : mx_W m_X11_restore (d + 1) 0 [.ref 58] [] M Q :=
  x_X11_restore_0 W.1 (fun M1 e1 => by
    have f58 : ∀ j, ¬ j = 0 → mx_I M1 58 j = mx_I M 58 j := fun j hj => by rw [e1, I_ne (by omega)]
    have fo : ∀ k j, ¬ k = 58 → mx_I M1 k j = mx_I M k j := fun k j hk => by rw [e1, I_ne (by omega)]
    subst e1
    have W1 := wM_0 (v := 0) W
    rw [f58 60 (by decide), I.1]
    refine ⟨fun z => ?_, fun z => h0 (mx_b0.mp z)⟩
    have hb := mx_bn.mp z
    have J := I.2 hb
    intro M2 e2
    have L2 : lip mA (mx_setI M 58 0 0) M2 := by rw [e2]; exact lip_setI (by show _ ∨ _; omega)
    have R96 : rowM M2 96 n1 N f1 := ⟨by rw [e2, I_ne (by omega), fo 96 0 (by decide)]; exact J.1.1, J.1.2.1, fun i hi => by rw [e2, I_ne (by omega), fo 96 _ (by decide)]; exact J.1.2.2 i hi⟩
    have h10 := R96.2.1
    refine p_copies (K := 11) (lip_T L2 W1.1) (by decide) rfl rfl (by decide) (fun M4 L4 c4 => ⟨L4.1.1, L4.1.2.1, rfl, p_copies (K := 440) (lik_T L4 (lip_T L2 W1.1)) (by decide) rfl rfl (by decide) (fun M5 L5 c5 => ⟨L5.1.1, L5.1.2.1, rfl, ?_⟩)⟩)
    have L4' : lip mA M2 M4 := lip_of L4 (fun k j h => by show _ ∨ _; omega)
    have L5' : lip mA M4 M5 := lip_of L5 (fun k j h => by show _ ∨ _; omega)
    have L := lip_trans L2 (lip_trans L4' L5')
    have R5 : rowM M5 90 n1 N f1 := ⟨by rw [(L5.2 90 (by decide)).1, c4 0 (by decide)]; exact R96.1, R96.2.1, fun i hi => by rw [(L5.2 90 (by decide)).1, c4 (i + 1) (by omega)]; exact R96.2.2 i hi⟩
    refine h1 hb M5 (wM_A L R5 W1) L (act2_back J.2 ?_ (fun i hi => ?_))
    · rw [(L5.2 58 (by decide)).1, (L4.2 58 (by decide)).1, e2, I_eq, f58 61 (by decide)]
    · rw [c5 i hi, (L4.2 97 (by decide)).1, e2, I_ne (by omega), fo 97 _ (by decide)])
/-! key -/
theorem p_key {d t n N K : Nat} {v1 v2 v3 : Int32} {f : Nat → Nat} {Bs : BB} {kl : Nat → Nat → Nat} {ks : Nat → Nat → Nat → Nat} {M : mx_M} {Q : QQ} (W : wC M t n N K f Bs) (Ky : kyC M N K kl ks) (hr : rmE M)
    (h1 : ∀ o x, o < K → x < N → v1 = w o → v2 = w x → (v3 = -1 → Q (.inl (some (.int (w (kl o x))))) M) ∧ (∀ i, i < kl o x → v3 = w i → Q (.inl (some (.int (w (ks o x i))))) M) ∧ (¬ (v3 = -1 ∨ isIn v3 (kl o x)) → Q (.inr NSE) (mx_thM M)))
    (h2 : ¬ (isIn v1 K ∧ isIn v2 N) → Q (.inr NSE) (mx_thM M)) : mx_W m_X10_key (d + 1) 0 [.ref 1, .int v1, .int v2, .int v3, .retAddr 0] [] M Q := by
  refine x_X10_key_0 W.1 t W.2.1.1.1 W.2.1.1.2 _ _ _ (c_clerkG W hr (fun g => ⟨rfl, rfl, Or.inl ⟨rfl, c_cardG W hr (fun g2 => ⟨rfl, rfl, Or.inl ⟨rfl, ?_⟩⟩) (fun g2 => ⟨rfl, rfl, Or.inr ⟨_, rfl, h2 (fun z => g2 z.2)⟩⟩)⟩⟩) (fun g => ⟨rfl, rfl, Or.inr ⟨_, rfl, h2 (fun z => g z.1)⟩⟩))
  obtain ⟨o, ho, rfl⟩ := g
  obtain ⟨x, hx, rfl⟩ := g2
  have H := h1 o x ho hx rfl rfl
  have A := Ky o x ho hx
  have a1 := A.1
  have a2 := A.2.1
  refine x_X3_keyLength_0 W.1 _ _ ?_
  rw [w_x10, w_nat (by omega), A.2.2.1]
  refine ⟨w_in (by omega) (by omega), rfl, rfl, _, rfl, fun z => ⟨fun y => ⟨hr.1, hr.2, H.2.2 (fun q => q.elim z (isIn_neg (by omega) y))⟩, fun y => ⟨fun y2 => ?_, fun y2 => ⟨hr.1, hr.2, H.2.2 (fun q => q.elim z (isIn_big (by omega) y2))⟩⟩⟩, fun z => H.1 z⟩
  obtain ⟨i, hi, rfl⟩ := isIn_of (by omega) y y2
  refine x_X3_keySign_0 W.1 _ _ _ ?_
  rw [w_x10, w_35, w_nat (by omega), (A.2.2.2 i hi).1]
  exact ⟨w_in (by omega) (by omega), rfl, rfl, _, rfl, H.2.1 i hi rfl⟩
theorem q_key {d n N K : Nat} {v1 v2 v3 : Int32} {f : Nat → Nat} {Bs : BB} {kl : Nat → Nat → Nat} {ks : Nat → Nat → Nat → Nat} {M : mx_M} {Q : QQ} (W : wM M n N K f Bs) (Ky : kyM M N K kl ks)
    (h1 : ∀ o x, o < K → x < N → v1 = w o → v2 = w x → (v3 = -1 → Q (.inl (some (.int (w (kl o x))))) (mx_setI M 58 0 0)) ∧ (∀ i, i < kl o x → v3 = w i → Q (.inl (some (.int (w (ks o x i))))) (mx_setI M 58 0 0)) ∧ (¬ (v3 = -1 ∨ isIn v3 (kl o x)) → Q (.inl (some (.int 0))) (mx_setI (mx_setI M 58 0 0) 58 0 1)))
    (h2 : ¬ (isIn v1 K ∧ isIn v2 N) → Q (.inl (some (.int 0))) (mx_setI (mx_setI M 58 0 0) 58 0 1)) : mx_W m_X11_key (d + 1 + 1) 0 [.ref 58, .int v1, .int v2, .int v3, .retAddr 0] [] M Q :=
  x_X11_key_0 W.1 _ _ _ (fun M1 e1 => by
    subst e1
    have W1 := wM_0 (v := 0) W
    have Ky1 := kyM_0 (v := 0) Ky
    refine q_isClerk W1 I_eq (fun g => ⟨rfl, rfl, _, rfl, fun z => (by cases z), fun _ => q_isCard W1 I_eq (fun g2 => ⟨rfl, rfl, _, rfl, fun _ => ?_, fun z => (by cases z)⟩) (fun g2 => ⟨rfl, rfl, _, rfl, fun z => (by cases z), fun _ => h2 (fun z => g2 z.2)⟩)⟩) (fun g => ⟨rfl, rfl, _, rfl, fun _ => h2 (fun z => g z.1), fun z => (by cases z)⟩)
    obtain ⟨o, ho, rfl⟩ := g
    obtain ⟨x, hx, rfl⟩ := g2
    have H := h1 o x ho hx rfl rfl
    have A := Ky1 o x ho hx
    have a1 := A.1
    have a2 := A.2.1
    rw [w_10, w_nat (n := 10 * o + x) (by omega), A.2.2.1]
    refine ⟨fun z => p_rightF W1.1 I_eq (by decide) ⟨rfl, rfl, _, rfl, fun q => (by cases q), fun _ => H.2.2 (fun q => q.elim (m1_neg z).2 (isIn_neg (by omega) (m1_neg z).1))⟩, fun z => ⟨w_in (by omega) (by omega), fun z2 => p_rightF W1.1 I_eq (by decide) ⟨rfl, rfl, _, rfl, fun q => (by cases q), fun _ => H.2.2 (fun q => q.elim (fun q => ?_) (isIn_big (by omega) (Int32.not_lt.mpr z2)))⟩, fun z2 => p_rightT W1.1 I_eq ⟨rfl, rfl, _, rfl, fun _ => ⟨fun y => ?_, fun y => ⟨w_in (by omega) (by omega), by rw [A.2.2.1]; exact H.1 y⟩⟩, fun q => (by cases q)⟩⟩⟩
    · rw [q] at z2; exact absurd (m1_w (q := kl o x) (by omega)) (Int32.not_lt.mpr z2)
    · obtain ⟨i, hi, rfl⟩ := isIn_of (by omega) (m1_nn z y) (Int32.not_le.mp z2)
      rw [w_36, w_nat (by omega), (A.2.2.2 i hi).1]
      exact ⟨w_in (by omega) (by omega), H.2.1 i hi rfl⟩)
/-! count -/
def ctA (n N K : Nat) (f : Nat → Nat) (a4 a5 a6 a7 : Int32) : Nat → Int32
  | 0 => w N
  | 1 => w K
  | 2 => w n
  | 3 => btsF f 0 n 0
  | 4 => a4
  | 5 => a5
  | 6 => a6
  | _ => a7
theorem p_count {d t n N K : Nat} {v a4 a5 a6 a7 : Int32} {f : Nat → Nat} {Bs : BB} {M : mx_M} {Q : QQ} (W : wC M t n N K f Bs) (hr : rmE M) (e4 : mx_I M 35 1 = a4) (e5 : mx_I M 4 1 = a5) (e6 : mx_I M 1 15 = a6) (e7 : mx_I M 1 16 = a7)
    (h1 : ∀ i, i < 8 → v = w i → Q (.inl (some (.int (ctA n N K f a4 a5 a6 a7 i)))) M) (h2 : ¬ isIn v 8 → Q (.inr NSE) (mx_thM M)) : mx_W m_X10_count (d + 1) 0 [.ref 1, .int v] [] M Q := by
  refine x_X10_count_0 W.1 t W.2.1.1.1 W.2.1.1.2 _ ?_
  rw [W.2.1.2.1.1, W.2.1.2.1.2, W.2.2.1.1, e4, e5, e6, e7]
  refine ⟨h1 0 (by decide), h1 1 (by decide), h1 2 (by decide), fun z => p_bits W.1 (Or.inl rfl) W.2.2.1 ⟨rfl, rfl, _, rfl, h1 3 (by decide) z⟩, h1 4 (by decide), h1 5 (by decide), h1 6 (by decide), h1 7 (by decide), fun z0 z1 z2 z3 z4 z5 z6 z7 => ⟨hr.1, hr.2, h2 ?_⟩⟩
  rintro ⟨c, hc, e⟩
  rcases (show c = 0 ∨ c = 1 ∨ c = 2 ∨ c = 3 ∨ c = 4 ∨ c = 5 ∨ c = 6 ∨ c = 7 by omega) with rfl | rfl | rfl | rfl | rfl | rfl | rfl | rfl
  · exact z0 e
  · exact z1 e
  · exact z2 e
  · exact z3 e
  · exact z4 e
  · exact z5 e
  · exact z6 e
  · exact z7 e
theorem q_count {d n N K : Nat} {v a4 a5 a6 a7 : Int32} {f : Nat → Nat} {Bs : BB} {M : mx_M} {Q : QQ} (W : wM M n N K f Bs) (e4 : mx_I M 58 53 = a4) (e5 : mx_I M 58 15 = a5) (e6 : mx_I M 71 0 = a6) (e7 : mx_I M 71 1 = a7)
    (h1 : ∀ i, i < 8 → v = w i → Q (.inl (some (.int (ctA n N K f a4 a5 a6 a7 i)))) (mx_setI M 58 0 0)) (h2 : ¬ isIn v 8 → Q (.inl (some (.int 0))) (mx_setI (mx_setI M 58 0 0) 58 0 1)) : mx_W m_X11_count (d + 1) 0 [.ref 58, .int v] [] M Q :=
  x_X11_count_0 W.1 _ (fun M1 e9 => by
    subst e9
    have W1 := wM_0 (v := 0) W
    refine x_X11_within_0 W1.1 _ _ _ ⟨fun z => ⟨rfl, rfl, false, rfl, p_rightF W1.1 I_eq (by decide) ⟨rfl, rfl, _, rfl, fun z => (by cases z), fun _ => h2 (isIn_neg (by decide) z)⟩⟩, fun z => ⟨fun z2 => ⟨rfl, rfl, false, rfl, p_rightF W1.1 I_eq (by decide) ⟨rfl, rfl, _, rfl, fun z => (by cases z), fun _ => h2 (isIn_big (by decide) (fun q => ?_))⟩⟩, fun z2 => ⟨rfl, rfl, true, rfl, p_rightT W1.1 I_eq ⟨rfl, rfl, _, rfl, fun _ => ?_, fun z => (by cases z)⟩⟩⟩⟩
    · rw [← le_lt1 (a := 7) (by decide)] at q
      exact Int32.not_lt.mpr q z2
    · have z3 : v ≤ w 7 := Int32.not_lt.mp z2
      rw [le_lt1 (by decide)] at z3
      obtain ⟨i, hi, rfl⟩ := isIn_of (n := 8) (by decide) z z3
      have H := h1 i hi rfl
      rw [W1.2.1.1.1, W1.2.1.1.2, W1.2.2.1, I_ne (show ¬ (58 = 58 ∧ 53 = 0) by decide), I_ne (show ¬ (58 = 58 ∧ 15 = 0) by decide), e4, e5]
      refine ⟨fun y => ?_, fun y => ?_, fun y => ?_, fun y => p_inDrawer W1.1 W1.2.2 ⟨rfl, rfl, _, rfl, ?_⟩, fun y => ?_, fun y => ?_, fun y0 y1 y2 y3 y4 y5 => ?_⟩
      · rw [w_eq0 (by omega)] at y; subst y; exact H
      · rw [show (1 : Int32) = w 1 from rfl, w_inj (by omega) (by omega)] at y; subst y; exact H
      · rw [show (2 : Int32) = w 2 from rfl, w_inj (by omega) (by omega)] at y; subst y; exact H
      · rw [show (3 : Int32) = w 3 from rfl, w_inj (by omega) (by omega)] at y; subst y; exact H
      · rw [show (4 : Int32) = w 4 from rfl, w_inj (by omega) (by omega)] at y; subst y; exact H
      · rw [show (5 : Int32) = w 5 from rfl, w_inj (by omega) (by omega)] at y; subst y; exact H
      · rw [w_eq0 (by omega)] at y0
        rw [show (1 : Int32) = w 1 from rfl, w_inj (by omega) (by omega)] at y1
        rw [show (2 : Int32) = w 2 from rfl, w_inj (by omega) (by omega)] at y2
        rw [show (3 : Int32) = w 3 from rfl, w_inj (by omega) (by omega)] at y3
        rw [show (4 : Int32) = w 4 from rfl, w_inj (by omega) (by omega)] at y4
        rw [show (5 : Int32) = w 5 from rfl, w_inj (by omega) (by omega)] at y5
        rcases (show i = 6 ∨ i = 7 by omega) with rfl | rfl
        · refine ⟨w_in (a := 0) (by omega) (by omega), ?_⟩
          show Q (.inl (some (.int (mx_I (mx_setI M 58 0 0) 71 0)))) _
          rw [I_ne (by omega), e6]; exact H
        · refine ⟨w_in (a := 1) (by omega) (by omega), ?_⟩
          show Q (.inl (some (.int (mx_I (mx_setI M 58 0 0) 71 1)))) _
          rw [I_ne (by omega), e7]; exact H)
