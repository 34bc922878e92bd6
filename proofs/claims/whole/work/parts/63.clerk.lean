/-! clerk -/
/-- how a clerk files: his rules, whether he turns, joins, has a tie -/
def clC (M : mx_M) (t K : Nat) (ru : Nat → Nat) (tb jb ib : Nat → Bool) : Prop := ∀ o, o < K → mx_I M (t + 5) o = w (ru o) ∧ mx_I M (t + 9) o = mx_b (tb o) ∧ mx_I M (t + 10) o = mx_b (jb o) ∧ mx_I M (t + 11) o = mx_b (ib o)
def clM (M : mx_M) (K : Nat) (ru : Nat → Nat) (tb jb ib : Nat → Bool) : Prop := ∀ o, o < K → mx_I M 61 o = w (ru o) ∧ mx_I M 63 o = mx_b (tb o) ∧ mx_I M 64 o = mx_b (jb o) ∧ (mx_I M 65 o = -1 ↔ ib o = false)
def ckA (n N : Nat) (f : Nat → Nat) (B : Nat → Nat → Bool) (r : Nat) (x y z : Bool) : Nat → Int32
  | 0 => w r
  | 1 => mx_b x
  | 2 => mx_b y
  | 3 => mx_b z
  | 4 => w (wrb f B 0 n)
  | 5 => w n - w (lnA B f n).2
  | _ => w (mxF (mlF n f B) 0 N 0)
theorem bz_c {b : Bool} {M : mx_M} {Q : QQ} (H : Q (.inl (some (.int (mx_b b)))) M) : (mx_b b = 0 → Q (.inl (some (.int 0))) M) ∧ (¬ mx_b b = 0 → Q (.inl (some (.int 1))) M) := by
  cases b
  · exact ⟨fun _ => H, fun z => absurd rfl z⟩
  · exact ⟨fun z => absurd z (by decide), fun _ => H⟩
theorem p_clerk {d t n N K : Nat} {v1 v2 : Int32} {ru : Nat → Nat} {tb jb ib : Nat → Bool} {f : Nat → Nat} {Bs : BB} {M : mx_M} {Q : QQ} (W : wC M t n N K f Bs) (C : clC M t K ru tb jb ib) (hr : rmE M)
    (h1 : ∀ o i, o < K → i < 7 → v1 = w o → v2 = w i → ∀ M1, wC M1 t n N K f Bs → lip cL M M1 → Q (.inl (some (.int (ckA n N f (Bs o) (ru o) (tb o) (jb o) (ib o) i)))) M1)
    (h2 : ¬ (isIn v1 K ∧ isIn v2 7) → Q (.inr NSE) (mx_thM M)) : mx_W m_X10_clerk (d + 1 + 1 + 1 + 1 + 1) 0 [.ref 1, .int v1, .int v2] [] M Q := by
  have hb := W.2.1.2.2.1
  refine x_X10_clerk_0 W.1 t W.2.1.1.1 W.2.1.1.2 _ _ (c_clerkG W hr (fun g => ⟨rfl, rfl, Or.inl ⟨rfl, ?_⟩⟩) (fun g => ⟨rfl, rfl, Or.inr ⟨_, rfl, h2 (fun z => g z.1)⟩⟩))
  obtain ⟨o, ho, rfl⟩ := g
  have c := C o ho
  have H := fun i hi e => h1 o i ho hi rfl e M W (lip_refl _ _)
  have hin : vp_in (w o) 4 := w_in (by omega) (by omega)
  rw [w_nat (by omega), c.1, c.2.1, c.2.2.1, c.2.2.2, W.2.2.1.1]
  refine ⟨fun z => ⟨hin, H 0 (by decide) z⟩, fun z => ⟨hin, bz_c (H 1 (by decide) z)⟩, fun z => ⟨hin, bz_c (H 2 (by decide) z)⟩, fun z => ⟨hin, bz_c (H 3 (by decide) z)⟩, fun z => p_wrongBy W.1 (Or.inl rfl) W.2.2.1 (W.2.1.2.2.2 o ho) ⟨rfl, rfl, _, rfl, H 4 (by decide) z⟩, fun z => p_longest W ho (fun M1 W1 L1 _ => ⟨L1.1.1, L1.1.2.1, _, rfl, h1 o 5 ho (by decide) rfl z M1 W1 L1⟩), fun z => p_mostLooks W ho ⟨rfl, rfl, _, rfl, H 6 (by decide) z⟩, fun z0 z1 z2 z3 z4 z5 z6 => ⟨hr.1, hr.2, h2 ?_⟩⟩
  rintro ⟨_, c, hc, e⟩
  rcases (show c = 0 ∨ c = 1 ∨ c = 2 ∨ c = 3 ∨ c = 4 ∨ c = 5 ∨ c = 6 by omega) with rfl | rfl | rfl | rfl | rfl | rfl | rfl
  · exact z0 e
  · exact z1 e
  · exact z2 e
  · exact z3 e
  · exact z4 e
  · exact z5 e
  · exact z6 e
theorem q_clerk {d n N K : Nat} {v1 v2 : Int32} {ru : Nat → Nat} {tb jb ib : Nat → Bool} {f : Nat → Nat} {Bs : BB} {M : mx_M} {Q : QQ} (W : wM M n N K f Bs) (C : clM M K ru tb jb ib)
    (h1 : ∀ o i, o < K → i < 7 → v1 = w o → v2 = w i → ∀ M1, wM M1 n N K f Bs → lip mQ (mx_setI M 58 0 0) M1 → Q (.inl (some (.int (ckA n N f (Bs o) (ru o) (tb o) (jb o) (ib o) i)))) M1)
    (h2 : ¬ (isIn v1 K ∧ isIn v2 7) → Q (.inl (some (.int 0))) (mx_setI (mx_setI M 58 0 0) 58 0 1)) : mx_W m_X11_clerk (d + 4 + 1 + 1 + 1) 0 [.ref 58, .int v1, .int v2] [] M Q :=
  x_X11_clerk_0 W.1 _ _ (fun M1 e1 => by
    have fo : ∀ k j, ¬ k = 58 → mx_I M1 k j = mx_I M k j := fun k j hk => by rw [e1, I_ne (by omega)]
    subst e1
    have W1 := wM_0 (v := 0) W
    have hb := W1.2.1.2.1
    refine q_isClerk W1 I_eq (fun g => ⟨rfl, rfl, _, rfl, fun z => (by cases z), fun _ => p_isWhat (n := 6) W1.1 I_eq (by decide) (fun g2 => ⟨rfl, rfl, _, rfl, fun _ => ?_, fun z => (by cases z)⟩) (fun g2 => ⟨rfl, rfl, _, rfl, fun z => (by cases z), fun _ => h2 (fun z => g2 z.2)⟩)⟩) (fun g => ⟨rfl, rfl, _, rfl, fun _ => h2 (fun z => g z.1), fun z => (by cases z)⟩)
    obtain ⟨o, ho, rfl⟩ := g
    obtain ⟨i, hi, rfl⟩ := g2
    have c := C o ho
    have H := h1 o i ho hi rfl rfl _ W1 (lip_refl _ _)
    rw [w_nat (by omega), fo 61 _ (by decide), fo 63 _ (by decide), fo 64 _ (by decide), fo 65 _ (by decide), c.1, c.2.1, c.2.2.1, c.2.2.2, W1.2.2.1]
    refine ⟨fun y => ⟨w_in (by omega) (by omega), ?_⟩, fun y => ⟨w_in (by omega) (by omega), ?_⟩, fun y => ⟨w_in (by omega) (by omega), ?_⟩, fun y => ⟨w_in (by omega) (by omega), fun z => ?_, fun z => ?_⟩, fun y => q_wrong W1 ho (fun M2 W2 L2 => ⟨L2.1.1, L2.1.2.1, _, rfl, ?_⟩), fun y => q_longest W1 ho (fun M2 W2 L2 _ => ⟨L2.1.1, L2.1.2.1, _, rfl, ?_⟩), fun y0 y1 y2 y3 y4 y5 => q_mostLooks W1 ho (fun M2 W2 L2 => ⟨L2.1.1, L2.1.2.1, _, rfl, ?_⟩)⟩
    · rw [w_eq0 (by omega)] at y; subst y; exact H
    · rw [show (1 : Int32) = w 1 from rfl, w_inj (by omega) (by omega)] at y; subst y; exact H
    · rw [show (2 : Int32) = w 2 from rfl, w_inj (by omega) (by omega)] at y; subst y; exact H
    · rw [show (3 : Int32) = w 3 from rfl, w_inj (by omega) (by omega)] at y; subst y
      have z2 : ib o = true := by
        cases h : ib o
        · exact absurd h z
        · rfl
      have H : Q (.inl (some (.int (mx_b (ib o))))) (mx_setI M 58 0 0) := H
      rw [z2] at H; exact H
    · rw [show (3 : Int32) = w 3 from rfl, w_inj (by omega) (by omega)] at y; subst y
      have H : Q (.inl (some (.int (mx_b (ib o))))) (mx_setI M 58 0 0) := H
      rw [z] at H; exact H
    · rw [show (4 : Int32) = w 4 from rfl, w_inj (by omega) (by omega)] at y; subst y
      exact h1 o 4 ho hi rfl rfl M2 W2 L2
    · rw [show (5 : Int32) = w 5 from rfl, w_inj (by omega) (by omega)] at y; subst y
      exact h1 o 5 ho hi rfl rfl M2 W2 L2
    · rw [w_eq0 (by omega)] at y0
      rw [show (1 : Int32) = w 1 from rfl, w_inj (by omega) (by omega)] at y1
      rw [show (2 : Int32) = w 2 from rfl, w_inj (by omega) (by omega)] at y2
      rw [show (3 : Int32) = w 3 from rfl, w_inj (by omega) (by omega)] at y3
      rw [show (4 : Int32) = w 4 from rfl, w_inj (by omega) (by omega)] at y4
      rw [show (5 : Int32) = w 5 from rfl, w_inj (by omega) (by omega)] at y5
      have e : i = 6 := by omega
      subst e
      exact h1 o 6 ho hi rfl rfl M2 W2 L2)
