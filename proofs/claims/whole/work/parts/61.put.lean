/-! acts: put, take, move, file -/
theorem wC_row {P : Nat → Nat → Prop} {M M1 : mx_M} {t n N K n1 : Nat} {f f1 : Nat → Nat} {Bs : BB} (L : lip P M M1) (hP : ∀ k j, P k j → ¬ (k = t ∧ (j = 12 ∨ j = 13)) ∧ ¬ (k = 27 ∧ j < 40) ∧ ¬ (k = 28 ∧ j < 40)) (R : rowC M1 31 n1 N f1) (W : wC M t n N K f Bs) : wC M1 t n1 N K f1 Bs := by
  obtain ⟨T, ⟨C1, C2, C3, C4⟩, _, O⟩ := W
  have e1 := (L.2 t 12 (fun z => by have := hP _ _ z; omega)).1
  have e2 := (L.2 t 13 (fun z => by have := hP _ _ z; omega)).1
  have e3 : ∀ o g, o < K → rkC M o g N → rkC M1 o g N := fun o g ho G => ⟨G.1, G.2.1, fun x hx => by
    rw [(L.2 27 (10 * o + x) (fun z => by have := hP _ _ z; omega)).1]; exact G.2.2 x hx⟩
  refine ⟨lip_T L T, ⟨⟨C1.1, by rw [L.1.2.1]; exact C1.2⟩, ⟨by rw [e1]; exact C2.1, by rw [e2]; exact C2.2⟩, C3, fun o ho => ?_⟩, R, fun o ho => ⟨(O o ho).1, e3 o _ ho (O o ho).2.1, fun x hx => ?_⟩⟩
  · obtain ⟨g, G, hB⟩ := C4 o ho
    exact ⟨g, e3 o g ho G, hB⟩
  · have hr := ((O o ho).2.1.2.2 x hx).2
    rw [(L.2 28 (10 * o + rnk N (Bs o) x) (fun z => by have := hP _ _ z; omega)).1]; exact (O o ho).2.2 x hx
theorem wM_row {P : Nat → Nat → Prop} {M M1 : mx_M} {n N K n1 : Nat} {f f1 : Nat → Nat} {Bs : BB} (L : lip P M M1) (hP : ∀ k j, P k j → mRd k ∧ ¬ (k = 58 ∧ (j = 1 ∨ j = 2))) (R : rowM M1 90 n1 N f1) (W : wM M n N K f Bs) : wM M1 n1 N K f1 Bs := by
  have e1 := (L.2 58 1 (fun z => by have := (hP _ _ z).2; omega)).1
  have e2 := (L.2 58 2 (fun z => by have := (hP _ _ z).2; omega)).1
  have e3 : lik mRd M M1 := lik_of L (fun k j h => (hP k j h).1)
  exact ⟨lip_T L W.1, ⟨⟨by rw [e1]; exact W.2.1.1.1, by rw [e2]; exact W.2.1.1.2⟩, W.2.1.2.1, fun o ho d M2 x y Q L2 => W.2.1.2.2 o ho d M2 x y Q (lik_trans e3 L2)⟩, R⟩
abbrev cA : Nat → Nat → Prop := fun k _ => k = 31 ∨ k = 32 ∨ k = 33 ∨ k = 34 ∨ k = 35 ∨ k = 36
abbrev mA : Nat → Nat → Prop := fun k j => k = 88 ∨ k = 89 ∨ k = 90 ∨ k = 91 ∨ k = 92 ∨ (k = 58 ∧ j = 53)
theorem wC_A {M M1 : mx_M} {t n N K n1 : Nat} {f f1 : Nat → Nat} {Bs : BB} (L : lip cA M M1) (R : rowC M1 31 n1 N f1) (W : wC M t n N K f Bs) : wC M1 t n1 N K f1 Bs :=
  wC_row L (fun k j h => by rcases h with h | h | h | h | h | h <;> rcases W.2.1.1.1 with e | e <;> omega) R W
theorem wM_A {M M1 : mx_M} {n N K n1 : Nat} {f f1 : Nat → Nat} {Bs : BB} (L : lip mA M M1) (R : rowM M1 90 n1 N f1) (W : wM M n N K f Bs) : wM M1 n1 N K f1 Bs :=
  wM_row L (fun k j h => ⟨fun g => by rcases h with h | h | h | h | h | h <;> omega, by rcases h with h | h | h | h | h | h <;> omega⟩) R W
theorem a35 {M M1 : mx_M} (h : lik (actP 35) M M1) : lip cA M M1 := lip_of h (fun k j hk => by show _ ∨ _; rcases hk with h | h <;> omega)
theorem a31 {M M1 : mx_M} (h : lik (rowP 31) M M1) : lip cA M M1 := lip_of h (fun k j hk => by show _ ∨ _; rcases hk with h | h <;> omega)
theorem a33 {M M1 : mx_M} (h : lik (rowP 33) M M1) : lip cA M M1 := lip_of h (fun k j hk => by show _ ∨ _; rcases hk with h | h <;> omega)
theorem actM_lip {P : Nat → Nat → Prop} {M M1 : mx_M} {m N : Nat} {n : Nat → Nat} {f : Nat → Nat → Nat} (L : lip P M M1) (h1 : ¬ P 58 53) (h2 : ∀ j, ¬ P 92 j) (A : actM M m N n f) : actM M1 m N n f := by
  refine ⟨by rw [(L.2 58 53 h1).1]; exact A.1, A.2.1, fun i hi => ?_⟩
  have a := A.2.2 i hi
  exact ⟨by rw [(L.2 92 _ (h2 _)).1]; exact a.1, a.2.1, fun j hj => by rw [(L.2 92 _ (h2 _)).1]; exact a.2.2 j hj⟩
/-- one more act was refused -/
abbrev rfC (M : mx_M) : mx_M := mx_setI M 1 16 (mx_I M 1 16 + 1)
abbrev rfM (M : mx_M) : mx_M := mx_setI M 71 1 (mx_I M 71 1 + 1)
theorem p_refuse {d t n N K : Nat} {f : Nat → Nat} {Bs : BB} {M : mx_M} {Q : QQ} (W : wC M t n N K f Bs) (hq : Q (.inl (some (.int (-1)))) (rfC M)) : mx_W m_X10_refuseAct d 0 [.ref 1] [] M (fun o M4 => mx_sh M4 = mx_sh M ∧ mx_R M4 = mx_R M ∧ (∃ x5 : Int32, o = .inl (some (.int x5)) ∧ Q (.inl (some (.int x5))) M4)) :=
  x_X10_refuseAct_0 W.1 t W.2.1.1.1 W.2.1.1.2 (fun M1 e1 => by subst e1; exact ⟨rfl, rfl, _, rfl, hq⟩)
theorem q_refuse {d : Nat} {M : mx_M} {Q : QQ} (T : mx_Tp M) (hq : Q (.inl (some (.int (-1)))) (rfM M)) : mx_W m_X11_refuses d 0 [.ref 58] [] M (fun o M4 => mx_sh M4 = mx_sh M ∧ mx_R M4 = mx_R M ∧ (∃ x5 : Int32, o = .inl (some (.int x5)) ∧ Q (.inl (some (.int x5))) M4)) :=
  x_X11_refuses_0 T (fun M1 e1 => by subst e1; exact ⟨rfl, rfl, _, rfl, hq⟩)
theorem p_put {d t n N K m : Nat} {v1 v2 : Int32} {f : Nat → Nat} {an : Nat → Nat} {af : Nat → Nat → Nat} {Bs : BB} {M : mx_M} {Q : QQ} (W : wC M t n N K f Bs) (D : dst n f) (A : actC M 35 m N an af) (hr : rmE M)
    (h1 : ∀ c o, c < N → o < K → v1 = w c → v2 = w o → (plc n f c = -1 → ∀ M1, wC M1 t (n + 1) N K (insF (plf n f (Bs o) c) c f) Bs → lip cA M M1 → actC M1 35 (kpM m) N (kpF m an n) (kpF m af f) → Q (.inl (some (.int (w (plf n f (Bs o) c))))) M1) ∧ (¬ plc n f c = -1 → Q (.inl (some (.int (-1)))) (rfC M)))
    (h2 : ¬ (isIn v1 N ∧ isIn v2 K) → Q (.inr NSE) (mx_thM M)) : mx_W m_X10_put (d + 1 + 1 + 1) 0 [.ref 1, .int v1, .int v2, .retAddr 0] [] M Q := by
  have h10 := W.2.2.1.2.1
  refine x_X10_put_0 W.1 t W.2.1.1.1 W.2.1.1.2 _ _ (c_cardG W hr (fun g => ⟨rfl, rfl, Or.inl ⟨rfl, c_clerkG W hr (fun g2 => ⟨rfl, rfl, Or.inl ⟨rfl, ?_⟩⟩) (fun g2 => ⟨rfl, rfl, Or.inr ⟨_, rfl, h2 (fun z => g2 z.2)⟩⟩)⟩⟩) (fun g => ⟨rfl, rfl, Or.inr ⟨_, rfl, h2 (fun z => g z.1)⟩⟩))
  obtain ⟨c, hc, rfl⟩ := g
  obtain ⟨o, ho, rfl⟩ := g2
  have H := h1 c o hc ho rfl rfl
  refine p_placeOf W.1 (Or.inl rfl) W.2.2.1 c (by omega) ⟨rfl, rfl, _, rfl, fun z => ?_, fun z => p_refuse W (H.2 z)⟩
  have hno := plc_no h10.1 z
  have hroom := dst_room D (fun a ha => (W.2.2.1.2.2 a ha).2) hc hno
  have hpl := plf_le n f (Bs o) c
  refine p_placeFor W.1 (Or.inl rfl) W.2.2.1 (W.2.1.2.2.2 o ho) c hc ⟨rfl, rfl, _, rfl, p_packed W.1 (Or.inl rfl) W.2.2.1 ⟨rfl, rfl, _, rfl, p_keep W.1 (Or.inl rfl) A h10.1 (fun j hj => (W.2.2.1.2.2 j hj).2) (fun M1 L1 A1 => ⟨L1.1.1, L1.1.2.1, rfl, ?_⟩)⟩⟩
  have R1 := rowC_lik L1 (by intro z; rcases z with z | z <;> omega) (by intro z; rcases z with z | z <;> omega) W.2.2.1
  refine p_insert (lik_T L1 W.1) (Or.inl rfl) R1 (by omega) hpl hc (fun M2 L2 R2 => ⟨L2.1.1, L2.1.2.1, rfl, ?_⟩)
  have L := lip_trans (a35 L1) (a31 L2)
  exact H.1 z M2 (wC_A L R2 W) L (actC_lik L2 (by intro z; rcases z with z | z <;> omega) (by intro z; rcases z with z | z <;> omega) A1)
theorem q_put {d n N K m : Nat} {v1 v2 : Int32} {f : Nat → Nat} {an : Nat → Nat} {af : Nat → Nat → Nat} {Bs : BB} {M : mx_M} {Q : QQ} (W : wM M n N K f Bs) (D : dst n f) (A : actM M m N an af)
    (h1 : ∀ c o, c < N → o < K → v1 = w c → v2 = w o → (plc n f c = -1 → ∀ M1, wM M1 (n + 1) N K (insF (plf n f (Bs o) c) c f) Bs → lip mA (mx_setI M 58 0 0) M1 → actM M1 (kpM m) N (kpF m an n) (kpF m af f) → Q (.inl (some (.int (w (plf n f (Bs o) c))))) M1) ∧ (¬ plc n f c = -1 → Q (.inl (some (.int (-1)))) (rfM (mx_setI M 58 0 0))))
    (h2 : ¬ (isIn v1 N ∧ isIn v2 K) → Q (.inl (some (.int 0))) (mx_setI (mx_setI M 58 0 0) 58 0 1)) : mx_W m_X11_put (d + 4 + 1 + 1) 0 [.ref 58, .int v1, .int v2, .retAddr 0] [] M Q :=
  x_X11_put_0 W.1 _ _ (fun M1 e1 => by
    have L0 : lip (fun k j => k = 58 ∧ j = 0) M M1 := by rw [e1]; exact lip_setI ⟨rfl, rfl⟩
    have A1 : actM M1 m N an af := actM_lip L0 (by omega) (fun j => by omega) A
    subst e1
    have W1 := wM_0 (v := 0) W
    have h10 := W1.2.2.2.1
    refine q_isCard W1 I_eq (fun g => ⟨rfl, rfl, _, rfl, fun z => (by cases z), fun _ => q_isClerk W1 I_eq (fun g2 => ⟨rfl, rfl, _, rfl, fun _ => ?_, fun z => (by cases z)⟩) (fun g2 => ⟨rfl, rfl, _, rfl, fun z => (by cases z), fun _ => h2 (fun z => g2 z.2)⟩)⟩) (fun g => ⟨rfl, rfl, _, rfl, fun _ => h2 (fun z => g z.1), fun z => (by cases z)⟩)
    obtain ⟨c, hc, rfl⟩ := g
    obtain ⟨o, ho, rfl⟩ := g2
    have H := h1 c o hc ho rfl rfl
    refine q_place W1 hc ⟨rfl, rfl, _, rfl, fun z => ?_, fun z => q_refuse W1.1 (H.2 z)⟩
    have hno := plc_no h10.1 z
    have hroom := dst_room D (row_lt W) hc hno
    have hpl := plf_le n f (Bs o) c
    refine p_keeps W1.1 A1 W1.2.2 (fun M2 L2 A2 => ⟨L2.1.1, L2.1.2.1, rfl, ?_⟩)
    have L2' : lip mA (mx_setI M 58 0 0) M2 := lip_mono L2 (fun k j h => by show _ ∨ _; rcases h with h | h <;> omega)
    have R2 := rowM_lip L2 (fun j h => by rcases h with h | h <;> omega) W1.2.2
    have W2 := wM_A L2' R2 W1
    refine p_mplaceFor W2.1 rfl (by intro z; rcases z with z | z <;> omega) (by intro z; omega) (W2.2.1.2.2 o ho) R2 c hc (fun M3 L3 => ⟨L3.1.1, L3.1.2.1, _, rfl, ?_⟩)
    have W3 := wM_q (sc_q L3) W2
    refine p_putsIn W3.1 rfl W3.2.2 (by omega) hpl hc (fun M4 L4 R4 => ⟨L4.1.1, L4.1.2.1, rfl, ?_⟩)
    have L3' : lip mA M2 M3 := lip_of L3 (fun k j h => by show _ ∨ _; rcases h with h | h <;> omega)
    have L4' : lip mA M3 M4 := lip_of L4 (fun k j h => by show _ ∨ _; omega)
    have L := lip_trans L2' (lip_trans L3' L4')
    have A4 := actM_lip (lip_of (P' := fun k _ => k = 90) L4 (fun k j h => h)) (by omega) (fun j => by omega) (actM_lip (lip_of (P' := fun k _ => mSc k) L3 (fun k j h => h)) (by intro z; rcases z with z | z <;> omega) (fun j => by intro z; rcases z with z | z <;> omega) A2)
    exact H.1 z M4 (wM_A L R4 W1) L A4)
theorem p_take {d t n N K m : Nat} {v1 : Int32} {f : Nat → Nat} {an : Nat → Nat} {af : Nat → Nat → Nat} {Bs : BB} {M : mx_M} {Q : QQ} (W : wC M t n N K f Bs) (A : actC M 35 m N an af) (hr : rmE M)
    (h1 : ∀ c, c < N → v1 = w c → (∀ p n1, p < n → n = n1 + 1 → f p = c → plc n f c = w p → ∀ M1, wC M1 t n1 N K (delF p f) Bs → lip cA M M1 → actC M1 35 (kpM m) N (kpF m an n) (kpF m af f) → Q (.inl (some (.int (w p)))) M1) ∧ (plc n f c = -1 → Q (.inl (some (.int (-1)))) (rfC M)))
    (h2 : ¬ isIn v1 N → Q (.inr NSE) (mx_thM M)) : mx_W m_X10_take (d + 1 + 1) 0 [.ref 1, .int v1, .retAddr 0] [] M Q := by
  have h10 := W.2.2.1.2.1
  refine x_X10_take_0 W.1 t W.2.1.1.1 W.2.1.1.2 _ (c_cardG W hr (fun g => ⟨rfl, rfl, Or.inl ⟨rfl, ?_⟩⟩) (fun g => ⟨rfl, rfl, Or.inr ⟨_, rfl, h2 g⟩⟩))
  obtain ⟨c, hc, rfl⟩ := g
  have H := h1 c hc rfl
  refine p_placeOf W.1 (Or.inl rfl) W.2.2.1 c (by omega) ⟨rfl, rfl, _, rfl, fun z => ?_, fun z => p_refuse W (H.2 z)⟩
  obtain ⟨p, hp, ei, ep, _⟩ := plc_ne h10.1 z
  refine p_packed W.1 (Or.inl rfl) W.2.2.1 ⟨rfl, rfl, _, rfl, p_keep W.1 (Or.inl rfl) A h10.1 (fun j hj => (W.2.2.1.2.2 j hj).2) (fun M1 L1 A1 => ⟨L1.1.1, L1.1.2.1, rfl, ?_⟩)⟩
  have R1 := rowC_lik L1 (by intro z; rcases z with z | z <;> omega) (by intro z; rcases z with z | z <;> omega) W.2.2.1
  cases n with
  | zero => omega
  | succ n1 =>
    rw [ep]
    refine p_remove (lik_T L1 W.1) (Or.inl rfl) R1 (by omega) (fun M2 L2 R2 => ⟨L2.1.1, L2.1.2.1, rfl, ?_⟩)
    have L := lip_trans (a35 L1) (a31 L2)
    exact H.1 p n1 hp rfl ei ep M2 (wC_A L R2 W) L (actC_lik L2 (by intro z; rcases z with z | z <;> omega) (by intro z; rcases z with z | z <;> omega) A1)
theorem q_take {d n N K m : Nat} {v1 : Int32} {f : Nat → Nat} {an : Nat → Nat} {af : Nat → Nat → Nat} {Bs : BB} {M : mx_M} {Q : QQ} (W : wM M n N K f Bs) (A : actM M m N an af)
    (h1 : ∀ c, c < N → v1 = w c → (∀ p n1, p < n → n = n1 + 1 → f p = c → plc n f c = w p → ∀ M1, wM M1 n1 N K (delF p f) Bs → lip mA (mx_setI M 58 0 0) M1 → actM M1 (kpM m) N (kpF m an n) (kpF m af f) → Q (.inl (some (.int (w p)))) M1) ∧ (plc n f c = -1 → Q (.inl (some (.int (-1)))) (rfM (mx_setI M 58 0 0))))
    (h2 : ¬ isIn v1 N → Q (.inl (some (.int 0))) (mx_setI (mx_setI M 58 0 0) 58 0 1)) : mx_W m_X11_take (d + 1 + 1) 0 [.ref 58, .int v1, .retAddr 0] [] M Q :=
  x_X11_take_0 W.1 _ (fun M1 e1 => by
    have L0 : lip (fun k j => k = 58 ∧ j = 0) M M1 := by rw [e1]; exact lip_setI ⟨rfl, rfl⟩
    have A1 : actM M1 m N an af := actM_lip L0 (by omega) (fun j => by omega) A
    subst e1
    have W1 := wM_0 (v := 0) W
    have h10 := W1.2.2.2.1
    refine q_isCard W1 I_eq (fun g => ⟨rfl, rfl, _, rfl, fun _ => ?_, fun z => (by cases z)⟩) (fun g => ⟨rfl, rfl, _, rfl, fun z => (by cases z), fun _ => h2 g⟩)
    obtain ⟨c, hc, rfl⟩ := g
    have H := h1 c hc rfl
    refine q_place W1 hc ⟨rfl, rfl, _, rfl, fun z => ?_, fun z => q_refuse W1.1 (H.2 z)⟩
    obtain ⟨p, hp, ei, ep, _⟩ := plc_ne h10.1 z
    refine p_keeps W1.1 A1 W1.2.2 (fun M2 L2 A2 => ⟨L2.1.1, L2.1.2.1, rfl, ?_⟩)
    have L2' : lip mA (mx_setI M 58 0 0) M2 := lip_mono L2 (fun k j h => by show _ ∨ _; rcases h with h | h <;> omega)
    have R2 := rowM_lip L2 (fun j h => by rcases h with h | h <;> omega) W1.2.2
    cases n with
    | zero => omega
    | succ n1 =>
      rw [ep]
      refine p_takesOut (lip_T L2 W1.1) rfl R2 (by omega) (fun M4 L4 R4 => ⟨L4.1.1, L4.1.2.1, rfl, ?_⟩)
      have L4' : lip mA M2 M4 := lip_of L4 (fun k j h => by show _ ∨ _; omega)
      have L := lip_trans L2' L4'
      exact H.1 p n1 hp rfl ei ep M4 (wM_A L R4 W1) L (actM_lip (lip_of (P' := fun k _ => k = 90) L4 (fun k j h => h)) (by omega) (fun j => by omega) A2))
theorem p_move {d t n N K m : Nat} {v1 v2 : Int32} {f : Nat → Nat} {an : Nat → Nat} {af : Nat → Nat → Nat} {Bs : BB} {M : mx_M} {Q : QQ} (W : wC M t n N K f Bs) (A : actC M 35 m N an af) (hr : rmE M)
    (h1 : ∀ c, c < N → v1 = w c → (∀ p q, p < n → q < n → f p = c → plc n f c = w p → v2 = w q → ∀ M1, wC M1 t n N K (insF q c (delF p f)) Bs → lip cA M M1 → actC M1 35 (kpM m) N (kpF m an n) (kpF m af f) → Q (.inl (some (.int (w p)))) M1) ∧ (plc n f c = -1 ∨ ¬ isIn v2 n → Q (.inl (some (.int (-1)))) (rfC M)))
    (h2 : ¬ isIn v1 N → Q (.inr NSE) (mx_thM M)) : mx_W m_X10_move (d + 1 + 1) 0 [.ref 1, .int v1, .int v2, .retAddr 0] [] M Q := by
  have h10 := W.2.2.1.2.1
  refine x_X10_move_0 W.1 t W.2.1.1.1 W.2.1.1.2 _ _ (c_cardG W hr (fun g => ⟨rfl, rfl, Or.inl ⟨rfl, ?_⟩⟩) (fun g => ⟨rfl, rfl, Or.inr ⟨_, rfl, h2 g⟩⟩))
  obtain ⟨c, hc, rfl⟩ := g
  have H := h1 c hc rfl
  refine p_placeOf W.1 (Or.inl rfl) W.2.2.1 c (by omega) ⟨rfl, rfl, _, rfl, fun z => p_refuse W (H.2 (Or.inl z)), fun z => ?_⟩
  obtain ⟨p, hp, ei, ep, _⟩ := plc_ne h10.1 z
  rw [W.2.2.1.1]
  refine ⟨fun y => p_refuse W (H.2 (Or.inr (isIn_neg (by omega) y))), fun y => ⟨fun y2 => ?_, fun y2 => p_refuse W (H.2 (Or.inr (isIn_big (by omega) y2)))⟩⟩
  obtain ⟨q, hq, rfl⟩ := isIn_of (by omega) y y2
  refine p_packed W.1 (Or.inl rfl) W.2.2.1 ⟨rfl, rfl, _, rfl, p_keep W.1 (Or.inl rfl) A h10.1 (fun j hj => (W.2.2.1.2.2 j hj).2) (fun M1 L1 A1 => ⟨L1.1.1, L1.1.2.1, rfl, ?_⟩)⟩
  have R1 := rowC_lik L1 (by intro z; rcases z with z | z <;> omega) (by intro z; rcases z with z | z <;> omega) W.2.2.1
  cases n with
  | zero => omega
  | succ n1 =>
    rw [ep]
    refine p_remove (lik_T L1 W.1) (Or.inl rfl) R1 (by omega) (fun M2 L2 R2 => ⟨L2.1.1, L2.1.2.1, rfl, p_insert (lik_T L2 (lik_T L1 W.1)) (Or.inl rfl) R2 (by omega) (by omega) hc (fun M3 L3 R3 => ⟨L3.1.1, L3.1.2.1, rfl, ?_⟩)⟩)
    have L := lip_trans (a35 L1) (lip_trans (a31 L2) (a31 L3))
    exact H.1 p q hp hq ei ep rfl M3 (wC_A L R3 W) L (actC_lik (lik_trans L2 L3) (by intro z; rcases z with z | z <;> omega) (by intro z; rcases z with z | z <;> omega) A1)
theorem q_move {d n N K m : Nat} {v1 v2 : Int32} {f : Nat → Nat} {an : Nat → Nat} {af : Nat → Nat → Nat} {Bs : BB} {M : mx_M} {Q : QQ} (W : wM M n N K f Bs) (A : actM M m N an af)
    (h1 : ∀ c, c < N → v1 = w c → (∀ p q, p < n → q < n → f p = c → plc n f c = w p → v2 = w q → ∀ M1, wM M1 n N K (insF q c (delF p f)) Bs → lip mA (mx_setI M 58 0 0) M1 → actM M1 (kpM m) N (kpF m an n) (kpF m af f) → Q (.inl (some (.int (w p)))) M1) ∧ (plc n f c = -1 ∨ ¬ isIn v2 n → Q (.inl (some (.int (-1)))) (rfM (mx_setI M 58 0 0))))
    (h2 : ¬ isIn v1 N → Q (.inl (some (.int 0))) (mx_setI (mx_setI M 58 0 0) 58 0 1)) : mx_W m_X11_move (d + 1 + 1) 0 [.ref 58, .int v1, .int v2, .retAddr 0] [] M Q :=
  x_X11_move_0 W.1 _ _ (fun M1 e1 => by
    have L0 : lip (fun k j => k = 58 ∧ j = 0) M M1 := by rw [e1]; exact lip_setI ⟨rfl, rfl⟩
    have A1 : actM M1 m N an af := actM_lip L0 (by omega) (fun j => by omega) A
    subst e1
    have W1 := wM_0 (v := 0) W
    have h10 := W1.2.2.2.1
    refine q_isCard W1 I_eq (fun g => ⟨rfl, rfl, _, rfl, fun _ => ?_, fun z => (by cases z)⟩) (fun g => ⟨rfl, rfl, _, rfl, fun z => (by cases z), fun _ => h2 g⟩)
    obtain ⟨c, hc, rfl⟩ := g
    have H := h1 c hc rfl
    refine q_place W1 hc ⟨rfl, rfl, _, rfl, fun z => q_refuse W1.1 (H.2 (Or.inl z)), fun z => ?_⟩
    obtain ⟨p, hp, ei, ep, _⟩ := plc_ne h10.1 z
    rw [W1.2.2.1]
    refine ⟨fun y => q_refuse W1.1 (H.2 (Or.inr (isIn_neg (by omega) y))), fun y => ⟨fun y2 => ?_, fun y2 => q_refuse W1.1 (H.2 (Or.inr (isIn_big (by omega) y2)))⟩⟩
    obtain ⟨q, hq, rfl⟩ := isIn_of (by omega) y y2
    refine p_keeps W1.1 A1 W1.2.2 (fun M2 L2 A2 => ⟨L2.1.1, L2.1.2.1, rfl, ?_⟩)
    have L2' : lip mA (mx_setI M 58 0 0) M2 := lip_mono L2 (fun k j h => by show _ ∨ _; rcases h with h | h <;> omega)
    have R2 := rowM_lip L2 (fun j h => by rcases h with h | h <;> omega) W1.2.2
    cases n with
    | zero => omega
    | succ n1 =>
      rw [ep]
      refine p_takesOut (lip_T L2 W1.1) rfl R2 (by omega) (fun M4 L4 R4 => ⟨L4.1.1, L4.1.2.1, rfl, p_putsIn (lik_T L4 (lip_T L2 W1.1)) rfl R4 (by omega) (by omega) hc (fun M5 L5 R5 => ⟨L5.1.1, L5.1.2.1, rfl, ?_⟩)⟩)
      have L4' : lip mA M2 M4 := lip_of L4 (fun k j h => by show _ ∨ _; omega)
      have L5' : lip mA M4 M5 := lip_of L5 (fun k j h => by show _ ∨ _; omega)
      have L := lip_trans L2' (lip_trans L4' L5')
      exact H.1 p q hp hq ei ep rfl M5 (wM_A L R5 W1) L (actM_lip (lip_of (P' := fun k _ => k = 90) (lik_trans L4 L5) (fun k j h => h)) (by omega) (fun j => by omega) A2))
theorem mv_dst {n p q c : Nat} {f : Nat → Nat} (D : dst (n + 1) f) (hp : p < n + 1) (hq : q < n + 1) (e : f p = c) : dst (n + 1) (insF q c (delF p f)) := by
  refine dst_ins (dst_del D) (by omega) (fun i hi z => ?_)
  unfold delF at z
  by_cases g : i < p
  · rw [if_pos g] at z; have := D i p (by omega) hp (by rw [z, e]); omega
  · rw [if_neg g] at z; have := D (i + 1) p (by omega) hp (by rw [z, e]); omega
/-! file -/
def fiP (f g : Nat → Nat) : Nat → Bool := fun i => decide (¬ g i = f i)
theorem p_file_l {d t n N : Nat} {f g : Nat → Nat} {M : mx_M} {Q : QQ} (T : mx_Tp M) (ht : mx_Cat t) (ht0 : mx_R M 1 10 = t) (R : rowC M 31 n N g) (R2 : rowC M 33 n N f) :
    ∀ (k i s : Nat), i + k = n → Q (.inl (some (.int (w (s + cnt (fiP f g) i k))))) M → mx_W m_X10_file (d + 1) 46 [.ref 1, .retAddr 0, .int (w s), .int (w i)] [] M Q
  | 0, i, s, hi, hq => by
    have h10 := R.2.1
    refine x_X10_file_46 T t ht ht0 _ _ ⟨fun _ => hq, fun h => absurd ?_ h⟩
    rw [R.1, w_le (by omega) (by omega)]; omega
  | k + 1, i, s, hi, hq => by
    have h10 := R.2.1
    have o1 := R.2.2 i (by omega)
    have o2 := R2.2.2 i (by omega)
    refine x_X10_file_46 T t ht ht0 _ _ ⟨fun h => ?_, fun _ => ?_⟩
    · rw [R.1, w_le (by omega) (by omega)] at h; omega
    · rw [w_nat (by omega), o1.1, o2.1, w_inj (by omega) (by omega), w_add1, w_add1]
      refine ⟨w_in (by omega) (by omega), w_in (by omega) (by omega), fun y => ?_, fun y => ?_⟩
      · rw [cnt_no (by unfold fiP; simp [y])] at hq
        exact p_file_l T ht ht0 R R2 k (i + 1) s (by omega) hq
      · rw [cnt_yes (by unfold fiP; simp [y])] at hq
        exact p_file_l T ht ht0 R R2 k (i + 1) (s + 1) (by omega) (by rw [show s + 1 + cnt (fiP f g) (i + 1) k = s + (cnt (fiP f g) (i + 1) k + 1) by omega]; exact hq)
theorem p_file {d t n N K m : Nat} {v1 : Int32} {f : Nat → Nat} {an : Nat → Nat} {af : Nat → Nat → Nat} {Bs : BB} {M : mx_M} {Q : QQ} (W : wC M t n N K f Bs) (A : actC M 35 m N an af) (hr : rmE M)
    (h1 : ∀ o, o < K → v1 = w o → ∀ M1, wC M1 t n N K (srtF (Bs o) 1 (n - 1) f) Bs → lip cA M M1 → actC M1 35 (kpM m) N (kpF m an n) (kpF m af f) → Q (.inl (some (.int (w (cnt (fiP f (srtF (Bs o) 1 (n - 1) f)) 0 n))))) M1)
    (h2 : ¬ isIn v1 K → Q (.inr NSE) (mx_thM M)) : mx_W m_X10_file (d + 1 + 1 + 1) 0 [.ref 1, .int v1, .retAddr 0, .retAddr 0] [] M Q := by
  have h10 := W.2.2.1.2.1
  refine x_X10_file_0 W.1 t W.2.1.1.1 W.2.1.1.2 _ (c_clerkG W hr (fun g => ⟨rfl, rfl, Or.inl ⟨rfl, ?_⟩⟩) (fun g => ⟨rfl, rfl, Or.inr ⟨_, rfl, h2 g⟩⟩))
  obtain ⟨o, ho, rfl⟩ := g
  refine p_copyRow W.1 W.2.2.1 (fun M1 L1 R1 => ⟨L1.1.1, L1.1.2.1, rfl, ?_⟩)
  have W1 := wC_T (r33 L1) W
  refine p_packed W1.1 (Or.inl rfl) W1.2.2.1 ⟨rfl, rfl, _, rfl, p_keep W1.1 (Or.inl rfl) (actC_lik L1 (by intro z; rcases z with z | z <;> omega) (by intro z; rcases z with z | z <;> omega) A) h10.1 (fun j hj => (W.2.2.1.2.2 j hj).2) (fun M2 L2 A2 => ⟨L2.1.1, L2.1.2.1, rfl, ?_⟩)⟩
  have R2 := rowC_lik L2 (by intro z; rcases z with z | z <;> omega) (by intro z; rcases z with z | z <;> omega) W1.2.2.1
  have R2b := rowC_lik L2 (by intro z; rcases z with z | z <;> omega) (by intro z; rcases z with z | z <;> omega) R1
  have W2 := wC_A (a35 L2) R2 W1
  refine p_sort W2.1 (Or.inl rfl) R2 (W2.2.1.2.2.2 o ho) (fun M3 L3 R3 => ⟨L3.1.1, L3.1.2.1, rfl, ?_⟩)
  have R3b := rowC_lik L3 (by intro z; rcases z with z | z <;> omega) (by intro z; rcases z with z | z <;> omega) R2b
  have L := lip_trans (a33 L1) (lip_trans (a35 L2) (a31 L3))
  have W3 := wC_A L R3 W
  exact p_file_l W3.1 W3.2.1.1.1 W3.2.1.1.2 R3 R3b n 0 0 (Nat.zero_add n) (by rw [Nat.zero_add]; exact h1 o ho rfl M3 W3 L (actC_lik L3 (by intro z; rcases z with z | z <;> omega) (by intro z; rcases z with z | z <;> omega) A2))
theorem q_file_l {d n N : Nat} {f g : Nat → Nat} {M : mx_M} {Q : QQ} (T : mx_Tp M) (R : rowM M 90 n N g) (R2 : rowM M 91 n N f) :
    ∀ (k i s : Nat), i + k = n → Q (.inl (some (.int (w (s + cnt (fiP f g) i k))))) M → mx_W m_X11_file (d + 1) 44 [.ref 58, .retAddr 0, .int (w s), .int (w i)] [] M Q
  | 0, i, s, hi, hq => by
    have h10 := R.2.1
    refine x_X11_file_44 T _ _ ⟨fun _ => hq, fun h => absurd ?_ h⟩
    rw [R.1, w_le (by omega) (by omega)]; omega
  | k + 1, i, s, hi, hq => by
    have h10 := R.2.1
    have o1 := R.2.2 i (by omega)
    have o2 := R2.2.2 i (by omega)
    refine x_X11_file_44 T _ _ ⟨fun h => ?_, fun _ => ?_⟩
    · rw [R.1, w_le (by omega) (by omega)] at h; omega
    · rw [w_1add, w_nat (by omega), o1.1, o2.1, w_inj (by omega) (by omega), w_add1, w_add1, Int32.add_zero]
      refine ⟨w_in (by omega) (by omega), w_in (by omega) (by omega), fun y => ?_, fun y => ?_⟩
      · rw [cnt_no (by unfold fiP; simp [y])] at hq
        exact q_file_l T R R2 k (i + 1) s (by omega) hq
      · rw [cnt_yes (by unfold fiP; simp [y])] at hq
        exact q_file_l T R R2 k (i + 1) (s + 1) (by omega) (by rw [show s + 1 + cnt (fiP f g) (i + 1) k = s + (cnt (fiP f g) (i + 1) k + 1) by omega]; exact hq)
theorem q_file {d n N K m : Nat} {v1 : Int32} {f : Nat → Nat} {an : Nat → Nat} {af : Nat → Nat → Nat} {Bs : BB} {M : mx_M} {Q : QQ} (W : wM M n N K f Bs) (A : actM M m N an af)
    (h1 : ∀ o, o < K → v1 = w o → ∀ M1, wM M1 n N K (srtF (Bs o) 1 (n - 1) f) Bs → lip mA (mx_setI M 58 0 0) M1 → actM M1 (kpM m) N (kpF m an n) (kpF m af f) → Q (.inl (some (.int (w (cnt (fiP f (srtF (Bs o) 1 (n - 1) f)) 0 n))))) M1)
    (h2 : ¬ isIn v1 K → Q (.inl (some (.int 0))) (mx_setI (mx_setI M 58 0 0) 58 0 1)) : mx_W m_X11_file (d + 4 + 1 + 1) 0 [.ref 58, .int v1, .retAddr 0, .retAddr 0] [] M Q :=
  x_X11_file_0 W.1 _ (fun M1 e1 => by
    have L0 : lip (fun k j => k = 58 ∧ j = 0) M M1 := by rw [e1]; exact lip_setI ⟨rfl, rfl⟩
    have A1 : actM M1 m N an af := actM_lip L0 (by omega) (fun j => by omega) A
    subst e1
    have W1 := wM_0 (v := 0) W
    have h10 := W1.2.2.2.1
    refine q_isClerk W1 I_eq (fun g => ⟨rfl, rfl, _, rfl, fun _ => ?_, fun z => (by cases z)⟩) (fun g => ⟨rfl, rfl, _, rfl, fun z => (by cases z), fun _ => h2 g⟩)
    obtain ⟨o, ho, rfl⟩ := g
    refine p_keeps W1.1 A1 W1.2.2 (fun M2 L2 A2 => ⟨L2.1.1, L2.1.2.1, rfl, ?_⟩)
    have L2' : lip mA (mx_setI M 58 0 0) M2 := lip_mono L2 (fun k j h => by show _ ∨ _; rcases h with h | h <;> omega)
    have R2 := rowM_lip L2 (fun j h => by rcases h with h | h <;> omega) W1.2.2
    have W2 := wM_A L2' R2 W1
    refine p_copies (K := 11) W2.1 (by decide) rfl rfl (by decide) (fun M3 L3 c3 => ⟨L3.1.1, L3.1.2.1, rfl, ?_⟩)
    have R3 := rowM_lik L3 (by decide) R2
    have R3b : rowM M3 91 n N f := ⟨by rw [c3 0 (by decide)]; exact R2.1, R2.2.1, fun i hi => by rw [c3 (i + 1) (by omega)]; exact R2.2.2 i hi⟩
    have L3' : lip mA M2 M3 := lip_of L3 (fun k j h => by show _ ∨ _; omega)
    have W3 := wM_A L3' R3 W2
    refine p_files W3.1 rfl (by intro z; rcases z with z | z <;> omega) (by intro z; omega) (W3.2.1.2.2 o ho) R3 (fun M4 L4 R4 => ⟨L4.1.1, L4.1.2.1, rfl, ?_⟩)
    have L4' : lip mA M3 M4 := lip_of L4 (fun k j h => by show _ ∨ _; rcases h with h | h | h <;> omega)
    have R4b := rowM_lik L4 (by intro z; rcases z with z | z | z <;> omega) R3b
    have L := lip_trans L2' (lip_trans L3' L4')
    have W4 := wM_A L R4 W1
    have A4 := actM_lip (lip_of (P' := fun k _ => k = 90 ∨ mSc k) L4 (fun k j h => h)) (by intro z; rcases z with z | z | z <;> omega) (fun j => by intro z; rcases z with z | z | z <;> omega) (actM_lip (lip_of (P' := fun k _ => k = 91) L3 (fun k j h => h)) (by omega) (fun j => by omega) A2)
    exact q_file_l W4.1 R4 R4b n 0 0 (Nat.zero_add n) (by rw [Nat.zero_add]; exact h1 o ho rfl M4 W4 L A4))
