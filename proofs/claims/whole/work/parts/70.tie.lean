/-! ties: a program of steps on a stack -/
/-- a step: (0, n) a number, (1, k) a value of the card, (2, c) what is done -/
abbrev SP := Nat × Nat
abbrev SK := Nat × (Nat → Int32)
def setG (f : Nat → Int32) (i : Nat) (v : Int32) : Nat → Int32 := fun k => if k = i then v else f k
theorem setG_eq {f : Nat → Int32} {i : Nat} {v : Int32} : setG f i v i = v := if_pos rfl
theorem setG_ne {f : Nat → Int32} {i k : Nat} {v : Int32} (h : ¬ k = i) : setG f i v k = f k := if_neg h
def wkF (c : Nat) (a b : Int32) : Int32 := if c = 4 then (if a = 0 then 0 else if b = 0 then 0 else 1) else if c = 5 then (if a = 0 then (if b = 0 then 0 else 1) else 1) else if c = 6 then (if b ≤ a then 0 else 1) else if c = 7 then (if a = b then 1 else 0) else if c = 8 then a + b else if c = 9 then a - b else if c = 10 then a * b else if b = 0 then 0 else a / b
/-- what one step does -/
def stE (vl : Nat → Int32) (s : SP) (z : SK) : SK :=
  if s.1 = 0 then (z.1 + 1, setG z.2 z.1 (w s.2)) else if s.1 = 1 then (z.1 + 1, setG z.2 z.1 (vl s.2)) else if s.2 = 3 then (z.1, setG z.2 (z.1 - 1) (if z.2 (z.1 - 1) = 0 then 1 else 0)) else (z.1 - 1, setG z.2 (z.1 - 2) (wkF s.2 (z.2 (z.1 - 2)) (z.2 (z.1 - 1))))
def evL (vl : Nat → Int32) : List SP → SK → SK
  | [], z => z
  | s :: L, z => evL vl L (stE vl s z)
/-- the program may run from the height h on, and ends at e -/
def wfL : List SP → Nat → Nat → Prop
  | [], h, e => h = e
  | s :: L, h, e => (s.1 = 0 ∧ s.2 < 10000 ∧ h < 64 ∧ wfL L (h + 1) e) ∨ (s.1 = 1 ∧ s.2 < 4 ∧ h < 64 ∧ wfL L (h + 1) e) ∨ (s.1 = 2 ∧ s.2 = 3 ∧ 1 ≤ h ∧ h ≤ 64 ∧ wfL L h e) ∨ (s.1 = 2 ∧ 4 ≤ s.2 ∧ s.2 ≤ 11 ∧ 2 ≤ h ∧ h ≤ 64 ∧ wfL L (h - 1) e)
theorem p_joined {d c : Nat} {a b : Int32} {M : mx_M} {Q : QQ} (T : mx_Tp M) (h1 : 4 ≤ c) (h2 : c ≤ 11) (hq : Q (.inl (some (.int (wkF c a b)))) M) : mx_W m_X7_joined d 0 [.int (-(w (c + 2))), .int a, .int b] [] M Q := by
  rcases (show c = 4 ∨ c = 5 ∨ c = 6 ∨ c = 7 ∨ c = 8 ∨ c = 9 ∨ c = 10 ∨ c = 11 by omega) with rfl | rfl | rfl | rfl | rfl | rfl | rfl | rfl
  · have hq : Q (.inl (some (.int (if a = 0 then 0 else if b = 0 then 0 else 1)))) M := hq
    refine x_X7_joined_0 T _ _ _ ⟨fun z => absurd z (by decide), fun z => absurd z (by decide), fun z => absurd z (by decide), fun z => absurd z (by decide), fun z => absurd z (by decide), fun z => absurd z (by decide), fun _ => ⟨fun y => ?_, fun y => ⟨fun x => ?_, fun x => ?_⟩⟩, fun _ _ _ _ _ _ z => absurd (by decide) z⟩
    · rw [if_pos y] at hq; exact hq
    · rw [if_neg y, if_pos x] at hq; exact hq
    · rw [if_neg y, if_neg x] at hq; exact hq
  · have hq : Q (.inl (some (.int (if a = 0 then (if b = 0 then 0 else 1) else 1)))) M := hq
    refine x_X7_joined_0 T _ _ _ ⟨fun z => absurd z (by decide), fun z => absurd z (by decide), fun z => absurd z (by decide), fun z => absurd z (by decide), fun z => absurd z (by decide), fun _ => ⟨fun y => ?_, fun y => ⟨fun x => ?_, fun x => ?_⟩⟩, fun z => absurd z (by decide), fun _ _ _ _ _ z => absurd (by decide) z⟩
    · rw [if_neg y] at hq; exact hq
    · rw [if_pos y, if_pos x] at hq; exact hq
    · rw [if_pos y, if_neg x] at hq; exact hq
  · have hq : Q (.inl (some (.int (if b ≤ a then 0 else 1)))) M := hq
    refine x_X7_joined_0 T _ _ _ ⟨fun z => absurd z (by decide), fun z => absurd z (by decide), fun z => absurd z (by decide), fun z => absurd z (by decide), fun _ => ⟨fun y => ?_, fun y => ?_⟩, fun z => absurd z (by decide), fun z => absurd z (by decide), fun _ _ _ _ z => absurd (by decide) z⟩
    · rw [if_pos y] at hq; exact hq
    · rw [if_neg y] at hq; exact hq
  · have hq : Q (.inl (some (.int (if a = b then 1 else 0)))) M := hq
    refine x_X7_joined_0 T _ _ _ ⟨fun z => absurd z (by decide), fun z => absurd z (by decide), fun z => absurd z (by decide), fun _ => ⟨fun y => ?_, fun y => ?_⟩, fun z => absurd z (by decide), fun z => absurd z (by decide), fun z => absurd z (by decide), fun _ _ _ z => absurd (by decide) z⟩
    · rw [if_neg y] at hq; exact hq
    · rw [if_pos y] at hq; exact hq
  · exact x_X7_joined_0 T _ _ _ ⟨fun z => absurd z (by decide), fun z => absurd z (by decide), fun _ => hq, fun z => absurd z (by decide), fun z => absurd z (by decide), fun z => absurd z (by decide), fun z => absurd z (by decide), fun _ _ z => absurd (by decide) z⟩
  · exact x_X7_joined_0 T _ _ _ ⟨fun z => absurd z (by decide), fun _ => hq, fun z => absurd z (by decide), fun z => absurd z (by decide), fun z => absurd z (by decide), fun z => absurd z (by decide), fun z => absurd z (by decide), fun _ z => absurd (by decide) z⟩
  · exact x_X7_joined_0 T _ _ _ ⟨fun _ => hq, fun z => absurd z (by decide), fun z => absurd z (by decide), fun z => absurd z (by decide), fun z => absurd z (by decide), fun z => absurd z (by decide), fun z => absurd z (by decide), fun z => absurd (by decide) z⟩
  · have hq : Q (.inl (some (.int (if b = 0 then 0 else a / b)))) M := hq
    refine x_X7_joined_0 T _ _ _ ⟨fun z => absurd z (by decide), fun z => absurd z (by decide), fun z => absurd z (by decide), fun z => absurd z (by decide), fun z => absurd z (by decide), fun z => absurd z (by decide), fun z => absurd z (by decide), fun _ _ _ _ _ _ _ => ⟨fun y => ⟨y, ?_⟩, fun y => ?_⟩⟩
    · rw [if_neg y] at hq; exact hq
    · rw [if_pos y] at hq; exact hq
theorem q_works {d c : Nat} {a b : Int32} {M : mx_M} {Q : QQ} (T : mx_Tp M) (h1 : 4 ≤ c) (h2 : c ≤ 11) (hq : Q (.inl (some (.int (wkF c a b)))) M) : mx_W m_X11_works d 0 [.int (w c), .int a, .int b] [] M Q := by
  rcases (show c = 4 ∨ c = 5 ∨ c = 6 ∨ c = 7 ∨ c = 8 ∨ c = 9 ∨ c = 10 ∨ c = 11 by omega) with rfl | rfl | rfl | rfl | rfl | rfl | rfl | rfl
  · have hq : Q (.inl (some (.int (if a = 0 then 0 else if b = 0 then 0 else 1)))) M := hq
    refine x_X11_works_0 T _ _ _ ⟨fun _ => ⟨fun y => ?_, fun y => ⟨fun x => ?_, fun x => ?_⟩⟩, fun z => absurd z (by decide), fun z => absurd z (by decide), fun z => absurd z (by decide), fun z => absurd z (by decide), fun z => absurd z (by decide), fun z => absurd z (by decide), fun z => absurd (by decide) z⟩
    · rw [if_pos y] at hq; exact hq
    · rw [if_neg y, if_pos x] at hq; exact hq
    · rw [if_neg y, if_neg x] at hq; exact hq
  · have hq : Q (.inl (some (.int (if a = 0 then (if b = 0 then 0 else 1) else 1)))) M := hq
    refine x_X11_works_0 T _ _ _ ⟨fun z => absurd z (by decide), fun _ => ⟨fun y => ?_, fun y => ⟨fun x => ?_, fun x => ?_⟩⟩, fun z => absurd z (by decide), fun z => absurd z (by decide), fun z => absurd z (by decide), fun z => absurd z (by decide), fun z => absurd z (by decide), fun _ z => absurd (by decide) z⟩
    · rw [if_neg y] at hq; exact hq
    · rw [if_pos y, if_pos x] at hq; exact hq
    · rw [if_pos y, if_neg x] at hq; exact hq
  · have hq : Q (.inl (some (.int (if b ≤ a then 0 else 1)))) M := hq
    refine x_X11_works_0 T _ _ _ ⟨fun z => absurd z (by decide), fun z => absurd z (by decide), fun _ => ⟨fun y => ?_, fun y => ?_⟩, fun z => absurd z (by decide), fun z => absurd z (by decide), fun z => absurd z (by decide), fun z => absurd z (by decide), fun _ _ z => absurd (by decide) z⟩
    · rw [if_pos y] at hq; exact hq
    · rw [if_neg y] at hq; exact hq
  · have hq : Q (.inl (some (.int (if a = b then 1 else 0)))) M := hq
    refine x_X11_works_0 T _ _ _ ⟨fun z => absurd z (by decide), fun z => absurd z (by decide), fun z => absurd z (by decide), fun _ => ⟨fun y => ?_, fun y => ?_⟩, fun z => absurd z (by decide), fun z => absurd z (by decide), fun z => absurd z (by decide), fun _ _ _ z => absurd (by decide) z⟩
    · rw [if_neg y] at hq; exact hq
    · rw [if_pos y] at hq; exact hq
  · exact x_X11_works_0 T _ _ _ ⟨fun z => absurd z (by decide), fun z => absurd z (by decide), fun z => absurd z (by decide), fun z => absurd z (by decide), fun _ => hq, fun z => absurd z (by decide), fun z => absurd z (by decide), fun _ _ _ _ z => absurd (by decide) z⟩
  · exact x_X11_works_0 T _ _ _ ⟨fun z => absurd z (by decide), fun z => absurd z (by decide), fun z => absurd z (by decide), fun z => absurd z (by decide), fun z => absurd z (by decide), fun _ => hq, fun z => absurd z (by decide), fun _ _ _ _ _ z => absurd (by decide) z⟩
  · exact x_X11_works_0 T _ _ _ ⟨fun z => absurd z (by decide), fun z => absurd z (by decide), fun z => absurd z (by decide), fun z => absurd z (by decide), fun z => absurd z (by decide), fun z => absurd z (by decide), fun _ => hq, fun _ _ _ _ _ _ z => absurd (by decide) z⟩
  · have hq : Q (.inl (some (.int (if b = 0 then 0 else a / b)))) M := hq
    refine x_X11_works_0 T _ _ _ ⟨fun z => absurd z (by decide), fun z => absurd z (by decide), fun z => absurd z (by decide), fun z => absurd z (by decide), fun z => absurd z (by decide), fun z => absurd z (by decide), fun z => absurd z (by decide), fun _ _ _ _ _ _ _ => ⟨fun y => ⟨y, ?_⟩, fun y => ?_⟩⟩
    · rw [if_neg y] at hq; exact hq
    · rw [if_pos y] at hq; exact hq
/-! the reference's machine -/
/-- the program lies at a -/
def cdL (M : mx_M) : List SP → Nat → Prop
  | [], a => a < 2800 ∧ mx_I M 66 a = 0
  | s :: L, a => a + 1 < 2800 ∧ if s.1 = 2 then mx_I M 66 a = w s.2 ∧ cdL M L (a + 1) else mx_I M 66 a = w (s.1 + 1) ∧ mx_I M 66 (a + 1) = w s.2 ∧ cdL M L (a + 2)
theorem cdL_eq {M M1 : mx_M} (e : mx_I M1 66 = mx_I M 66) : ∀ (L : List SP) (a : Nat), cdL M L a → cdL M1 L a
  | [], a, h => by rw [cdL] at h ⊢; rw [e]; exact h
  | s :: L, a, h => by
    rw [cdL] at h ⊢
    refine ⟨h.1, ?_⟩
    by_cases q : s.1 = 2
    · have h2 := h.2
      rw [if_pos q] at h2 ⊢
      rw [e]
      exact ⟨h2.1, cdL_eq e L _ h2.2⟩
    · have h2 := h.2
      rw [if_neg q] at h2 ⊢
      rw [e]
      exact ⟨h2.1, h2.2.1, cdL_eq e L _ h2.2.2⟩
abbrev m89 : Nat → Prop := fun k => k = 89
theorem q_reck_l {d : Nat} {vl : Nat → Int32} {M0 : mx_M} {Q : QQ} (v9 : Int32) (hq : ∀ M1, lik m89 M0 M1 → Q (.inl (some (.int v9))) M1) :
    ∀ (L : List SP) (a : Nat) (z : SK) (M : mx_M), mx_Tp M → lik m89 M0 M → cdL M L a → (∀ k, k < 4 → mx_I M 88 k = vl k) → wfL L z.1 1 → (∀ i, i < z.1 → mx_I M 89 i = z.2 i) → (evL vl L z).2 0 = v9 → mx_W m_X11_reckons (d + 1) 4 [.ref 58, .retAddr 0, .int (w z.1), .int (w a), .retAddr 0] [] M Q
  | [], a, z, M, T, L9, C, V, hw, c1, e => by
    rw [cdL] at C
    have hw : z.1 = 1 := hw
    have e : z.2 0 = v9 := e
    refine x_X11_reckons_4 T _ _ ?_
    rw [w_nat (by omega), C.2]
    refine ⟨w_in (by omega) (by omega), fun _ => ?_, fun y => absurd rfl y⟩
    rw [c1 0 (by omega), e]
    exact hq M L9
  | s :: L, a, z, M, T, L9, C, V, hw, c1, e => by
    rw [cdL] at C
    rw [evL] at e
    obtain ⟨ca, cb⟩ := C
    have go : ∀ (i : Nat) (v : Int32) (a2 : Nat) (M1 : mx_M), M1 = mx_setI M 89 i v → stE vl s z = ((stE vl s z).1, setG z.2 i v) → (stE vl s z).1 ≤ z.1 + 1 → ((stE vl s z).1 = z.1 + 1 → i = z.1) → cdL M L a2 → wfL L (stE vl s z).1 1 → mx_W m_X11_reckons (d + 1) 4 [.ref 58, .retAddr 0, .int (w (stE vl s z).1), .int (w a2), .retAddr 0] [] M1 Q := by
      intro i v a2 M1 e1 es h1 h2 C2 hw2
      have L1 : lik m89 M M1 := by rw [e1]; exact lik_setI rfl
      refine q_reck_l v9 hq L a2 (stE vl s z) M1 (lik_T L1 T) (lik_trans L9 L1) (cdL_eq (L1.2 66 (by decide)).1 L a2 C2) (fun k hk => by rw [(L1.2 88 (by decide)).1]; exact V k hk) hw2 (fun j hj => ?_) e
      rw [es, e1]
      show mx_I (mx_setI M 89 i v) 89 j = setG z.2 i v j
      by_cases q : j = i
      · rw [q, I_eq, setG_eq]
      · rw [I_ne (by omega), setG_ne q]; exact c1 j (by omega)
    rcases hw with ⟨h0, h1, h2, h3⟩ | ⟨h0, h1, h2, h3⟩ | ⟨h0, h1, h2, h3, h4⟩ | ⟨h0, h1, h2, h3, h4, h5⟩
    · have es : stE vl s z = (z.1 + 1, setG z.2 z.1 (w s.2)) := if_pos h0
      rw [if_neg (by omega), h0] at cb
      have g := go z.1 (w s.2) (a + 2)
      rw [es] at g
      refine x_X11_reckons_4 T _ _ ?_
      rw [w_add1, w_add1, w_add1, w_nat (n := a) (by omega), w_nat (n := a + 1) (by omega), w_nat (n := z.1) (by omega), cb.1, cb.2.1]
      exact ⟨w_in (by omega) (by omega), fun y => absurd y (by decide), fun _ => ⟨w_in (by omega) (by omega), fun _ => ⟨fun y => absurd rfl y, fun _ => ⟨w_in (by omega) (by omega), w_in (by omega) (by omega), fun M2 e2 => g M2 e2 rfl (Nat.le_refl _) (fun _ => rfl) cb.2.2 h3⟩⟩, fun y => absurd rfl y⟩⟩
    · have es : stE vl s z = (z.1 + 1, setG z.2 z.1 (vl s.2)) := by unfold stE; rw [if_neg (by omega), if_pos h0]
      rw [if_neg (by omega), h0] at cb
      have g := go z.1 (vl s.2) (a + 2)
      rw [es] at g
      refine x_X11_reckons_4 T _ _ ?_
      rw [w_add1, w_add1, w_add1, w_nat (n := a) (by omega), w_nat (n := a + 1) (by omega), w_nat (n := z.1) (by omega), cb.1, cb.2.1, w_nat (n := s.2) (by omega), V s.2 h1]
      exact ⟨w_in (by omega) (by omega), fun y => absurd y (by decide), fun _ => ⟨w_in (by omega) (by omega), fun y => absurd y (by decide), fun _ => ⟨fun y => absurd rfl y, fun _ => ⟨fun _ => ⟨w_in (by omega) (by omega), w_in (by omega) (by omega), w_in (by omega) (by omega), fun M2 e2 => g M2 e2 rfl (Nat.le_refl _) (fun _ => rfl) cb.2.2 h3⟩, fun y => absurd y (by decide)⟩⟩⟩⟩
    · have es : stE vl s z = (z.1, setG z.2 (z.1 - 1) (if z.2 (z.1 - 1) = 0 then 1 else 0)) := by unfold stE; rw [if_neg (by omega), if_neg (by omega), if_pos h1]
      rw [if_pos h0, h1] at cb
      have g := go (z.1 - 1) (if z.2 (z.1 - 1) = 0 then 1 else 0) (a + 1)
      rw [es] at g
      have ez : w z.1 - 1 = w (z.1 - 1) := w_sub (a := z.1) (b := 1) h2
      refine x_X11_reckons_4 T _ _ ?_
      rw [w_add1, w_nat (n := a) (by omega), cb.1, ez, w_nat (n := z.1 - 1) (by omega), c1 (z.1 - 1) (by omega)]
      refine ⟨w_in (by omega) (by omega), fun y => absurd y (by decide), fun _ => ⟨w_in (by omega) (by omega), fun y => absurd y (by decide), fun _ => ⟨fun _ => ⟨fun y => absurd rfl y, fun _ => ⟨w_in (by omega) (by omega), fun y => ⟨w_in (by omega) (by omega), fun M2 e2 => ?_⟩, fun y => ⟨w_in (by omega) (by omega), fun M2 e2 => ?_⟩⟩⟩, fun y => absurd y (by decide)⟩⟩⟩
      · rw [if_neg y] at g
        exact g M2 e2 rfl (by show z.1 ≤ z.1 + 1; omega) (fun q => by have q : z.1 = z.1 + 1 := q; omega) cb.2 h4
      · rw [if_pos y] at g
        exact g M2 e2 rfl (by show z.1 ≤ z.1 + 1; omega) (fun q => by have q : z.1 = z.1 + 1 := q; omega) cb.2 h4
    · have es : stE vl s z = (z.1 - 1, setG z.2 (z.1 - 2) (wkF s.2 (z.2 (z.1 - 2)) (z.2 (z.1 - 1)))) := by unfold stE; rw [if_neg (by omega), if_neg (by omega), if_neg (by omega)]
      rw [if_pos h0] at cb
      have g := go (z.1 - 2) (wkF s.2 (z.2 (z.1 - 2)) (z.2 (z.1 - 1))) (a + 1)
      rw [es] at g
      have ez : w z.1 + (-1) = w (z.1 - 1) := by rw [w_m1]; exact w_sub (a := z.1) (b := 1) (by omega)
      have ez2 : w (z.1 - 1) - 1 = w (z.1 - 2) := by rw [show z.1 - 2 = z.1 - 1 - 1 by omega]; exact w_sub (a := z.1 - 1) (b := 1) (by omega)
      refine x_X11_reckons_4 T _ _ ?_
      rw [w_add1, w_nat (n := a) (by omega), cb.1, ez, ez2, w_nat (n := z.1 - 1) (by omega), w_nat (n := z.1 - 2) (by omega), c1 (z.1 - 1) (by omega), c1 (z.1 - 2) (by omega)]
      refine ⟨w_in (by omega) (by omega), fun y => ?_, fun _ => ⟨w_in (by omega) (by omega), fun y => ?_, fun _ => ⟨fun _ => ⟨fun _ => ⟨w_in (by omega) (by omega), w_in (by omega) (by omega), q_works T h1 h2 ⟨rfl, rfl, _, rfl, w_in (by omega) (by omega), fun M5 e5 => g M5 e5 rfl (by show z.1 - 1 ≤ z.1 + 1; omega) (fun q => by have q : z.1 - 1 = z.1 + 1 := q; omega) cb.2 h5⟩⟩, fun y => ?_⟩, fun y => ?_⟩⟩⟩
      · rw [w_eq0 (by omega)] at y; omega
      · rw [show (1 : Int32) = w 1 from rfl, w_inj (by omega) (by omega)] at y; omega
      · rw [show (3 : Int32) = w 3 from rfl, w_inj (by omega) (by omega)] at y; omega
      · rw [show (2 : Int32) = w 2 from rfl, w_inj (by omega) (by omega)] at y; omega
/-- the values of a card -/
def vlF (y k l x : Nat) : Nat → Int32
  | 0 => w y
  | 1 => w k
  | 2 => w l
  | _ => w x
/-- what a tie counts for a card -/
def tvF (L : List SP) (y k l x : Nat) : Int32 := (evL (vlF y k l x) L (0, fun _ => 0)).2 0
theorem q_tie {o N a : Nat} {L : List SP} {yr wn : Nat → Nat} {hl : Nat → Nat → Nat} {hg : Nat → Nat → Nat → Nat} {M0 : mx_M} (ho : o < 5) (hN : N ≤ 10) (C : cdM M0 N yr wn hl hg) (e65 : mx_I M0 65 o = w a) (ha : a < 2800) (Cd : cdL M0 L a) (hw : wfL L 0 1) : tiM M0 o N (fun x => tvF L (yr x) (wn x) (su (hl x) (wn x)) x) := by
  intro d M x Q L0 T hx hq
  have f : ∀ k, (k = 59 ∨ k = 60 ∨ k = 65 ∨ k = 66 ∨ k = 67 ∨ k = 85 ∨ k = 86) → mx_I M k = mx_I M0 k ∧ mx_J M k = mx_J M0 k := fun k h => L0.2 k (fun z => z h)
  have cx := C x hx
  refine x_X11_tieOf_0 (d := d + 2) T _ _ ?_
  rw [w_nat (n := o) (by omega), w_nat (n := x) (by omega), (f 65 (by omega)).1, e65]
  refine ⟨w_in (by omega) (by omega), fun _ => ⟨w_in (by omega) (by omega), fun M1 e1 => ⟨w_in (by omega) (by omega), fun M2 e2 => ?_⟩⟩, fun y => absurd y (w_ne1 (by omega))⟩
  have L1 : lik mSc M M1 := by rw [e1]; exact lik_setI (Or.inl rfl)
  have L2 : lik mSc M1 M2 := by rw [e2]; exact lik_setI (Or.inl rfl)
  have LL := lik_trans L1 L2
  have T2 := lik_T LL T
  have C2 : cdM M2 N yr wn hl hg := fun y hy => by
    have c := C y hy
    have g59 : mx_I M2 59 = mx_I M0 59 := ((LL.2 59 (by intro z; rcases z with z | z <;> omega)).1).trans (f 59 (by omega)).1
    have g60 : mx_I M2 60 = mx_I M0 60 := ((LL.2 60 (by intro z; rcases z with z | z <;> omega)).1).trans (f 60 (by omega)).1
    have g67 : mx_J M2 67 = mx_J M0 67 := ((LL.2 67 (by intro z; rcases z with z | z <;> omega)).2).trans (f 67 (by omega)).2
    rw [g59, g60, g67]; exact c
  refine q_letters T2 hN C2 hx ⟨rfl, rfl, _, rfl, fun M5 e5 M6 e6 => ⟨w_in (by omega) (by omega), ?_⟩⟩
  have L5 : lik mSc M2 M5 := by rw [e5]; exact lik_setI (Or.inl rfl)
  have L6 : lik mSc M5 M6 := by rw [e6]; exact lik_setI (Or.inl rfl)
  have L26 := lik_trans LL (lik_trans L5 L6)
  have g65 : mx_I M6 65 = mx_I M0 65 := ((L26.2 65 (by intro z; rcases z with z | z <;> omega)).1).trans (f 65 (by omega)).1
  have g66 : mx_I M6 66 = mx_I M0 66 := ((L26.2 66 (by intro z; rcases z with z | z <;> omega)).1).trans (f 66 (by omega)).1
  have m159 : mx_I M1 60 x = w (wn x) := by rw [(L1.2 60 (by intro z; rcases z with z | z <;> omega)).1, (f 60 (by omega)).1]; exact cx.2.1
  have mm59 : mx_I M 59 x = w (yr x) := by rw [(f 59 (by omega)).1]; exact cx.1
  rw [mm59] at e1
  rw [m159] at e2
  rw [g65, e65]
  refine x_X11_reckons_0 (lik_T L26 T) _ (q_reck_l (vl := vlF (yr x) (wn x) (su (hl x) (wn x)) x) _ (fun M7 L7 => ⟨L7.1.1, L7.1.2.1, _, rfl, hq M7 (lik_trans L26 (lik_mono L7 (fun k h => Or.inr h)))⟩) L a (0, fun _ => 0) M6 (lik_T L26 T) (lik_refl _ _) (cdL_eq g66 L a Cd) (fun k hk => ?_) hw (fun i hi => by have hi : i < 0 := hi; omega) rfl)
  rcases (show k = 0 ∨ k = 1 ∨ k = 2 ∨ k = 3 by omega) with rfl | rfl | rfl | rfl
  · rw [e6, I_ne (by omega), e5, I_ne (by omega), e2, I_ne (by omega), e1]; exact I_eq
  · rw [e6, I_ne (by omega), e5, I_ne (by omega), e2]; exact I_eq
  · rw [e6, I_ne (by omega), e5]; exact I_eq
  · rw [e6]; exact I_eq
theorem q_tie0 {o N : Nat} {yr : Nat → Nat} {M0 : mx_M} (ho : o < 5) (hN : N ≤ 10) (e65 : mx_I M0 65 o = -1) (C : ∀ x, x < N → mx_I M0 59 x = w (yr x)) : tiM M0 o N (fun x => w (yr x)) := by
  intro d M x Q L0 T hx hq
  refine x_X11_tieOf_0 (d := d + 2) T _ _ ?_
  rw [w_nat (n := o) (by omega), w_nat (n := x) (by omega), (L0.2 65 (by intro z; omega)).1, e65, (L0.2 59 (by intro z; omega)).1, C x hx]
  exact ⟨w_in (by omega) (by omega), fun y => absurd rfl y, fun _ => ⟨w_in (by omega) (by omega), hq M (lik_refl _ _)⟩⟩
