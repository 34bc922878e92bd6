/-! the class reads a tie -/
abbrev cE (s : Nat) : Nat → Nat → Prop := fun k j => (k = 3 ∧ 2 ≤ j ∧ j ≤ 6) ∨ (k = 6 ∧ j = 4) ∨ (k = 7 ∧ s ≤ j)
abbrev cEf (s : Nat) : Nat → Nat → Prop := fun k j => (k = 3 ∧ 2 ≤ j ∧ j ≤ 6) ∨ (k = 6 ∧ j = 4) ∨ (k = 7 ∧ s ≤ j) ∨ (k = 2 ∧ (j = 3 ∨ j = 4))
theorem cX_E {s : Nat} {M M1 : mx_M} (L : lip cX M M1) : lip (cE s) M M1 := lip_mono L (fun _ _ h => Or.inl h)
theorem cE_le {s s2 : Nat} {M M1 : mx_M} (h : s ≤ s2) (L : lip (cE s2) M M1) : lip (cE s) M M1 := lip_mono L (fun k j g => by
  rcases g with g | g | g
  · exact Or.inl g
  · exact Or.inr (Or.inl g)
  · exact Or.inr (Or.inr ⟨g.1, by omega⟩))
theorem cE_tf {s s2 : Nat} {M M1 M2 : mx_M} (h : s ≤ s2) (L : lip (cE s) M M1) (L2 : lip (cEf s2) M1 M2) : lip (cEf s) M M2 := lip_trans (lip_mono L (fun k j g => by show _ ∨ _; omega)) (lip_mono L2 (fun k j g => by show _ ∨ _; omega))
theorem tkC_E {P : Nat → Nat → Prop} {X : TX} {q : Nat} {M M1 : mx_M} (L : lip P M M1) (hP : ∀ k j, P k j → ¬ k = 3 ∧ ¬ k = 4 ∧ ¬ k = 5) (A : tkC M X q) : tkC M1 X q := by
  have f : ∀ j, mx_I M1 3 j = mx_I M 3 j ∧ mx_J M1 3 j = mx_J M 3 j := fun j => L.2 3 j (fun z => (hP 3 j z).1 rfl)
  obtain ⟨⟨a1, a2, a3, a4⟩, a5, a6, a7, a8, a9⟩ := A
  refine ⟨⟨?_, ?_, ?_, ?_⟩, fun y => ?_, fun y z => ?_, fun y => ?_, tapC_lip L (fun k j h => ⟨(hP k j h).2.2, fun z => (hP k j h).2.1 z.1⟩) a8, a9⟩
  · rw [(f 1).1]; exact a1
  · rw [(f 2).1]; exact a2
  · rw [(f 3).1]; exact a3
  · rw [(f 4).1]; exact a4
  · rw [(f 6).2]; exact a5 y
  · rw [(f 5).1]; exact a6 y z
  · rw [(f 5).1]; exact a7 y
theorem stL_at {M M1 : mx_M} : ∀ (L : List SP) (a : Nat), (∀ j, a ≤ j → j < a + L.length → mx_I M1 7 j = mx_I M 7 j) → stL M L a → stL M1 L a
  | [], _, _, _ => trivial
  | s :: L, a, e, h => ⟨by rw [e a (Nat.le_refl _) (by rw [List.length_cons]; omega)]; exact h.1, stL_at L (a + 1) (fun j h1 h2 => e j (by omega) (by rw [List.length_cons]; omega)) h.2⟩
theorem stL_app {M : mx_M} : ∀ (L L2 : List SP) (a : Nat), stL M L a → stL M L2 (a + L.length) → stL M (L ++ L2) a
  | [], _, _, _, h => h
  | s :: L, L2, a, h, h2 => ⟨h.1, stL_app L L2 (a + 1) h.2 (by rw [List.length_cons] at h2; rw [show a + 1 + L.length = a + (L.length + 1) by omega]; exact h2)⟩
theorem stL_E {M M1 : mx_M} {L : List SP} {a s : Nat} (h : a + L.length ≤ s) (F : lip (cE s) M M1) (A : stL M L a) : stL M1 L a :=
  stL_at L a (fun j h1 h2 => (F.2 7 j (fun z => by rcases z with z | z | z <;> omega)).1) A
theorem p_addStep {d s : Nat} {v : Int32} {M : mx_M} {Q : QQ} (T : mx_Tp M) (h : mx_I M 6 4 = w s) (hs : s < 700) (hq : ∀ M1, lip (cE s) M M1 → (∀ j, mx_I M1 3 j = mx_I M 3 j ∧ mx_J M1 3 j = mx_J M 3 j) → (∀ X q, tkC M X q → tkC M1 X q) → mx_I M1 7 s = v → mx_I M1 6 4 = w (s + 1) → Q (.inl none) M1) : mx_W m_X7_addStep d 0 [.ref 6, .int v] [] M Q := by
  refine x_X7_addStep_0 T _ ?_
  rw [h, show (700 : Int32) = w 700 from rfl, w_le (by omega) (by omega), w_nat (by omega)]
  refine ⟨fun z => absurd z (by omega), fun _ => ⟨w_in hs (by decide), fun M1 f1 M2 f2 => ?_⟩⟩
  have e : mx_I M1 6 4 = w s := by rw [f1, I_ne (by omega)]; exact h
  rw [e, w_add1] at f2
  have L1 : lip (fun k j => (k = 7 ∧ s ≤ j) ∨ (k = 6 ∧ j = 4)) M M1 := by rw [f1]; exact lip_setI (Or.inl ⟨rfl, Nat.le_refl _⟩)
  have L2 : lip (fun k j => (k = 7 ∧ s ≤ j) ∨ (k = 6 ∧ j = 4)) M1 M2 := by rw [f2]; exact lip_setI (Or.inr ⟨rfl, rfl⟩)
  have L3 := lip_trans L1 L2
  refine hq M2 (lip_mono L3 (fun k j g => ?_)) (fun j => L3.2 3 j (by omega)) (fun X q A => tkC_E L3 (fun k j g => by omega) A) ?_ ?_
  · rcases g with g | g
    · exact Or.inr (Or.inr g)
    · exact Or.inr (Or.inl g)
  · rw [f2, I_ne (by omega), f1]; exact I_eq
  · rw [f2]; exact I_eq
theorem p_refuseP {d k q u s : Nat} {X : TX} {M : mx_M} {Q : QQ} (T : mx_Tp M) (hu : mx_Cat u) (hu0 : mx_R M 2 2 = u) (A : tkC M X q) (hq : ∀ M1, lip (cEf s) M M1 → mx_I M1 2 3 = w k → mx_I M1 2 4 = w q → Q (.inl (some (.int (mx_b false)))) M1) : mx_W m_X4_refuse d 0 [.ref 2, .int (w k)] [] M Q := by
  refine x_X4_refuse_0 T u hu hu0 _ (fun M1 f1 M2 f2 => ?_)
  have e : mx_I M1 3 2 = w q := by rw [f1, I_ne (by omega)]; exact A.1.2.1
  rw [e] at f2
  have L1 : lip (cEf s) M M1 := by rw [f1]; exact lip_setI (Or.inr (Or.inr (Or.inr ⟨rfl, Or.inl rfl⟩)))
  have L2 : lip (cEf s) M1 M2 := by rw [f2]; exact lip_setI (Or.inr (Or.inr (Or.inr ⟨rfl, Or.inr rfl⟩)))
  exact hq M2 (lip_trans L1 L2) (by rw [f2, I_ne (by omega), f1]; exact I_eq) (by rw [f2]; exact I_eq)
/-- what is asked behind a reading -/
def pst (X : TX) (M : mx_M) (s : Nat) (r : RS) (Q : QQ) : Prop := (r.1 = 0 → ∀ M1, lip (cE s) M M1 → tkC M1 X r.2.1 → mx_I M1 6 4 = w (s + r.2.2.length) → stL M1 r.2.2 s → Q (.inl (some (.int (mx_b true)))) M1) ∧ (¬ r.1 = 0 → ∀ M1, lip (cEf s) M M1 → mx_I M1 2 3 = w r.1 → mx_I M1 2 4 = w r.2.1 → Q (.inl (some (.int (mx_b false)))) M1)
def spC (X : TX) (u : Nat) (W : mx_M → QQ → Prop) (F : Nat → RS) : Prop := ∀ (M : mx_M) (q s : Nat) (Q : QQ), mx_Tp M → mx_R M 2 2 = u → tkC M X q → mx_I M 6 4 = w s → s ≤ q → pst X M s (F q) Q → W M Q
theorem tkC_700 {X : TX} {q : Nat} {M : mx_M} (A : tkC M X q) : q ≤ X.2 ∧ X.2 ≤ 700 := by
  obtain ⟨l, l1, l2, l3, l4⟩ := A.2.2.2.2.1
  exact ⟨A.2.2.2.2.2, by omega⟩
/-- a chain's loop -/
abbrev lpC (d : Nat) (Ws : mx_M → QQ → Prop) (Wl : Int32 → mx_M → QQ → Prop) (c : Int32) (i : Nat) (M : mx_M) (Q : QQ) : Prop :=
  mx_W m_X8_step d 0 [.ref 3, .retAddr 0] [] M (fun o M3 => mx_sh M3 = mx_sh M ∧ mx_R M3 = mx_R M ∧ (o = .inl none ∧ Ws M3 (fun o M4 => mx_sh M4 = mx_sh M3 ∧ mx_R M4 = mx_R M3 ∧ (∃ x5 : Bool, o = .inl (some (.int (mx_b x5))) ∧ ((x5 = true → (mx_W m_X7_addStep d 0 [.ref 6, .int c] [] M4 (fun o M6 => mx_sh M6 = mx_sh M4 ∧ mx_R M6 = mx_R M4 ∧ (o = .inl none ∧ Wl (w (i + 1)) M6 Q)))) ∧ (x5 = false → Q (.inl (some (.int (mx_b false)))) M4))))))
theorem c_lop {d u : Nat} {X : TX} {op : Nat → Nat} {F : Nat → RS} {Ws : mx_M → QQ → Prop} {Wl : Int32 → mx_M → QQ → Prop} (G : gd X F) (O : gdo X op) (S : spC X u Ws F)
    (hrow : ∀ (i : Nat) (M : mx_M) (q : Nat) (Q : QQ), mx_Tp M → mx_R M 2 2 = u → tkC M X q → i ≤ 700 → (700 ≤ i ∨ op q = 0 → Q (.inl (some (.int (mx_b true)))) M) → (i < 700 → ¬ op q = 0 → lpC (d + 2) Ws Wl (-(w (op q + 2))) i M Q) → Wl (w i) M Q) (r : RS) {M0 : mx_M} {s : Nat} {Q : QQ} (hQ : pst X M0 s r Q) :
    ∀ (f i q : Nat) (L : List SP) (M : mx_M), i + f = 700 → mx_Tp M → mx_R M 2 2 = u → lip (cE s) M0 M → tkC M X q → mx_I M 6 4 = w (s + L.length) → s + L.length ≤ q → stL M L s → lopF X op F f q L = r → Wl (w i) M Q
  | 0, i, q, L, M, hi, T, hu, L0, A, h64, hs, C, e => by
    have e : (0, q, L) = r := e
    rw [← e] at hQ
    exact hrow i M q Q T hu A (by omega) (fun _ => hQ.1 rfl M L0 A h64 C) (fun z => by omega)
  | f + 1, i, q, L, M, hi, T, hu, L0, A, h64, hs, C, e => by
    refine hrow i M q Q T hu A (by omega) (fun z => ?_) (fun _ z => ?_)
    · have z : op q = 0 := by rcases z with z | z
                              · omega
                              · exact z
      unfold lopF at e
      rw [if_pos z] at e
      rw [← e] at hQ
      exact hQ.1 rfl M L0 A h64 C
    · have o := O q z
      have n := nx_lt o.1
      have b7 := (tkC_700 A).2
      unfold lopF at e
      rw [if_neg z] at e
      refine p_step T A (fun M1 L1 A1 => ⟨L1.1.1, L1.1.2.1, rfl, ?_⟩)
      have L01 := lip_trans L0 (cX_E L1)
      refine S M1 (nx X q) (s + L.length) _ (lip_T L1 T) (by rw [L1.1.2.1]; exact hu) A1 (by rw [(L1.2 6 4 (by decide)).1]; exact h64) (by omega) ⟨fun z1 M2 L2 A2 k64 C2 => ⟨L2.1.1, L2.1.2.1, true, rfl, fun _ => ?_, fun y => by cases y⟩, fun z1 M2 L2 k3 k4 => ⟨L2.1.1, L2.1.2.1, false, rfl, (fun y => by cases y), fun _ => ?_⟩⟩
      · have g := G _ n.2 z1
        rw [if_pos z1] at e
        refine p_addStep (s := s + L.length + (F (nx X q)).2.2.length) (lip_T L2 (lip_T L1 T)) k64 (by omega) (fun M3 L3 _ k3 v3 n3 => ⟨L3.1.1, L3.1.2.1, rfl, ?_⟩)
        have CC : stL M2 L s := stL_E (s := s + L.length) (Nat.le_refl _) (lip_trans (cX_E L1) L2) C
        have C3 : stL M3 (L ++ (F (nx X q)).2.2 ++ [(2, op q)]) s := by
          refine stL_app _ _ _ (stL_app _ _ _ (stL_E (s := s + L.length + (F (nx X q)).2.2.length) (by omega) L3 CC) (stL_E (Nat.le_refl _) L3 C2)) ⟨?_, trivial⟩
          rw [List.length_append, ← Nat.add_assoc]; exact v3
        have ll : (L ++ (F (nx X q)).2.2 ++ [(2, op q)]).length = L.length + (F (nx X q)).2.2.length + 1 := by simp only [List.length_append, List.length_singleton]
        refine c_lop G O S hrow r hQ f (i + 1) _ _ M3 (by omega) (lip_T L3 (lip_T L2 (lip_T L1 T))) ?_ (lip_trans L01 (lip_trans (cE_le (by omega) L2) (cE_le (by omega) L3))) (k3 X _ A2) ?_ ?_ C3 e
        · rw [L3.1.2.1, L2.1.2.1, L1.1.2.1]; exact hu
        · rw [ll, n3]; congr 1; omega
        · rw [ll]; omega
      · rw [if_neg z1] at e
        rw [← e] at hQ
        exact hQ.2 z1 M2 (cE_tf (by omega) L01 L2) k3 k4
theorem c_ch {d u : Nat} {X : TX} {op : Nat → Nat} {F : Nat → RS} {We Ws : mx_M → QQ → Prop} {Wl : Int32 → mx_M → QQ → Prop} (G : gd X F) (O : gdo X op) (S : spC X u Ws F)
    (hrow : ∀ (i : Nat) (M : mx_M) (q : Nat) (Q : QQ), mx_Tp M → mx_R M 2 2 = u → tkC M X q → i ≤ 700 → (700 ≤ i ∨ op q = 0 → Q (.inl (some (.int (mx_b true)))) M) → (i < 700 → ¬ op q = 0 → lpC (d + 2) Ws Wl (-(w (op q + 2))) i M Q) → Wl (w i) M Q)
    (hent : ∀ (M : mx_M) (Q : QQ), mx_Tp M → mx_R M 2 2 = u → Ws M (fun o M1 => mx_sh M1 = mx_sh M ∧ mx_R M1 = mx_R M ∧ (∃ x2 : Bool, o = .inl (some (.int (mx_b x2))) ∧ ((x2 = true → Wl (w 0) M1 Q) ∧ (x2 = false → Q (.inl (some (.int (mx_b false)))) M1)))) → We M Q) : spC X u We (chF X op F) := by
  intro M q s Q T hu A h64 hs hQ
  have b7 := tkC_700 A
  unfold chF at hQ
  refine hent M Q T hu (S M q s _ T hu A h64 hs ⟨fun z M1 L1 A1 k64 C1 => ⟨L1.1.1, L1.1.2.1, true, rfl, fun _ => ?_, fun y => by cases y⟩, fun z M1 L1 k3 k4 => ⟨L1.1.1, L1.1.2.1, false, rfl, (fun y => by cases y), fun _ => ?_⟩⟩)
  · rw [if_pos z] at hQ
    have g := G q b7.1 z
    exact c_lop G O S hrow _ hQ 700 0 _ _ M1 rfl (lip_T L1 T) (by rw [L1.1.2.1]; exact hu) L1 A1 k64 (by omega) C1 rfl
  · rw [if_neg z] at hQ
    exact hQ.2 z M1 L1 k3 k4
theorem r_takeProduct {d u a : Nat} {X : TX} (hu : mx_Cat u) (i : Nat) (M : mx_M) (q : Nat) (Q : QQ) (T : mx_Tp M) (hu0 : mx_R M 2 2 = u) (A : tkC M X q) (hi : i ≤ 700) (h1 : 700 ≤ i ∨ opP X q = 0 → Q (.inl (some (.int (mx_b true)))) M)
    (h2 : i < 700 → ¬ opP X q = 0 → lpC (d + 2) (fun M Q => mx_W m_X4_takePart (d + 2) 0 [.ref 2, .int (w a), .retAddr 0] [] M Q) (fun v M Q => mx_W m_X4_takeProduct (d + 3) 12 [.ref 2, .int (w a), .int v, .retAddr 0] [] M Q) (-(w (opP X q + 2))) i M Q) : mx_W m_X4_takeProduct (d + 3) 12 [.ref 2, .int (w a), .int (w i), .retAddr 0] [] M Q := by
  refine x_X4_takeProduct_12 (d := d + 2) T u hu hu0 _ _ ?_
  rw [show (700 : Int32) = w 700 from rfl, w_le (by omega) (by omega), w_add1]
  refine ⟨fun z => h1 (Or.inl z), fun z => p_isSign (c := 42) T A (by decide) ⟨rfl, rfl, _, rfl, fun y => p_isSign (c := 42) T A (by decide) ⟨rfl, rfl, _, rfl, fun x => absurd (y.symm.trans x) (by decide), fun _ => ?_⟩, fun y => p_isSign (c := 47) T A (by decide) ⟨rfl, rfl, _, rfl, fun x => ?_, fun x => p_isSign (c := 42) T A (by decide) ⟨rfl, rfl, _, rfl, fun _ => ?_, fun v => absurd (y.symm.trans v) (by decide)⟩⟩⟩⟩
  · have e : opP X q = 10 := if_pos y
    have g := h2 (by omega) (by omega)
    rw [e] at g; exact g
  · refine h1 (Or.inr ?_)
    unfold opP
    rw [if_neg (by unfold sg; rw [y]; decide), if_neg (by unfold sg; rw [x]; decide)]
  · have e : opP X q = 11 := by
      unfold opP
      rw [if_neg (by unfold sg; rw [y]; decide), if_pos (show sg X q 47 = true from x)]
    have g := h2 (by omega) (by omega)
    rw [e] at g; exact g
theorem r_takeSum {d u a : Nat} {X : TX} (hu : mx_Cat u) (i : Nat) (M : mx_M) (q : Nat) (Q : QQ) (T : mx_Tp M) (hu0 : mx_R M 2 2 = u) (A : tkC M X q) (hi : i ≤ 700) (h1 : 700 ≤ i ∨ opS X q = 0 → Q (.inl (some (.int (mx_b true)))) M)
    (h2 : i < 700 → ¬ opS X q = 0 → lpC (d + 2) (fun M Q => mx_W m_X4_takeProduct (d + 2) 0 [.ref 2, .int (w a), .retAddr 0, .retAddr 0] [] M Q) (fun v M Q => mx_W m_X4_takeSum (d + 3) 12 [.ref 2, .int (w a), .int v, .retAddr 0] [] M Q) (-(w (opS X q + 2))) i M Q) : mx_W m_X4_takeSum (d + 3) 12 [.ref 2, .int (w a), .int (w i), .retAddr 0] [] M Q := by
  refine x_X4_takeSum_12 (d := d + 2) T u hu hu0 _ _ ?_
  rw [show (700 : Int32) = w 700 from rfl, w_le (by omega) (by omega), w_add1]
  refine ⟨fun z => h1 (Or.inl z), fun z => p_isSign (c := 43) T A (by decide) ⟨rfl, rfl, _, rfl, fun y => p_isSign (c := 43) T A (by decide) ⟨rfl, rfl, _, rfl, fun x => absurd (y.symm.trans x) (by decide), fun _ => ?_⟩, fun y => p_isSign (c := 45) T A (by decide) ⟨rfl, rfl, _, rfl, fun x => ?_, fun x => p_isSign (c := 43) T A (by decide) ⟨rfl, rfl, _, rfl, fun _ => ?_, fun v => absurd (y.symm.trans v) (by decide)⟩⟩⟩⟩
  · have e : opS X q = 8 := if_pos y
    have g := h2 (by omega) (by omega)
    rw [e] at g; exact g
  · refine h1 (Or.inr ?_)
    unfold opS
    rw [if_neg (by unfold sg; rw [y]; decide), if_neg (by unfold sg; rw [x]; decide)]
  · have e : opS X q = 9 := by
      unfold opS
      rw [if_neg (by unfold sg; rw [y]; decide), if_pos (show sg X q 45 = true from x)]
    have g := h2 (by omega) (by omega)
    rw [e] at g; exact g
theorem r_takeAnd {d u a : Nat} {X : TX} (hu : mx_Cat u) (i : Nat) (M : mx_M) (q : Nat) (Q : QQ) (T : mx_Tp M) (hu0 : mx_R M 2 2 = u) (A : tkC M X q) (hi : i ≤ 700) (h1 : 700 ≤ i ∨ opA X q = 0 → Q (.inl (some (.int (mx_b true)))) M)
    (h2 : i < 700 → ¬ opA X q = 0 → lpC (d + 5) (fun M Q => mx_W m_X4_takeNot (d + 5) 0 [.ref 2, .int (w a), .retAddr 0, .retAddr 0] [] M Q) (fun v M Q => mx_W m_X4_takeAnd (d + 6) 12 [.ref 2, .int (w a), .int v] [] M Q) (-(w (opA X q + 2))) i M Q) : mx_W m_X4_takeAnd (d + 6) 12 [.ref 2, .int (w a), .int (w i)] [] M Q := by
  refine x_X4_takeAnd_12 (d := d + 5) T u hu hu0 _ _ ?_
  rw [show (700 : Int32) = w 700 from rfl, w_le (by omega) (by omega), w_add1]
  refine ⟨fun z => h1 (Or.inl z), fun z => p_isWord (k := 12) T A (by decide) ⟨rfl, rfl, _, rfl, fun y => ?_, fun y => ?_⟩⟩
  · exact h1 (Or.inr (if_neg (of_decide_eq_false y)))
  · have e : opA X q = 4 := if_pos (of_decide_eq_true y)
    have g := h2 (by omega) (by omega)
    rw [e] at g; exact g
theorem r_takeExpression {d u a : Nat} {X : TX} (hu : mx_Cat u) (i : Nat) (M : mx_M) (q : Nat) (Q : QQ) (T : mx_Tp M) (hu0 : mx_R M 2 2 = u) (A : tkC M X q) (hi : i ≤ 700) (h1 : 700 ≤ i ∨ opO X q = 0 → Q (.inl (some (.int (mx_b true)))) M)
    (h2 : i < 700 → ¬ opO X q = 0 → lpC (d + 5) (fun M Q => mx_W m_X4_takeAnd (d + 5) 0 [.ref 2, .int (w a), .retAddr 0] [] M Q) (fun v M Q => mx_W m_X4_takeExpression (d + 6) 22 [.ref 2, .int (w a), .int v] [] M Q) (-(w (opO X q + 2))) i M Q) : mx_W m_X4_takeExpression (d + 6) 22 [.ref 2, .int (w a), .int (w i)] [] M Q := by
  refine x_X4_takeExpression_22 (d := d + 5) T u hu hu0 _ _ ?_
  rw [show (700 : Int32) = w 700 from rfl, w_le (by omega) (by omega), w_add1]
  refine ⟨fun z => h1 (Or.inl z), fun z => p_isWord (k := 13) T A (by decide) ⟨rfl, rfl, _, rfl, fun y => ?_, fun y => ?_⟩⟩
  · exact h1 (Or.inr (if_neg (of_decide_eq_false y)))
  · have e : opO X q = 5 := if_pos (of_decide_eq_true y)
    have g := h2 (by omega) (by omega)
    rw [e] at g; exact g
theorem p_valueStep {d u q : Nat} {X : TX} {M : mx_M} {Q : QQ} (T : mx_Tp M) (hu : mx_Cat u) (hu0 : mx_R M 2 2 = u) (A : tkC M X q) (hq : Q (.inl (some (.int (if kw X q < 4 then -(w (kw X q + 1)) else 0)))) M) : mx_W m_X4_valueStep (d + 6) 0 [.ref 2] [] M Q := by
  refine x_X4_valueStep_0 (d := d + 5) T u hu hu0 (p_isWord (k := 0) T A (by decide) ⟨rfl, rfl, _, rfl, fun y => p_isWord (k := 1) T A (by decide) ⟨rfl, rfl, _, rfl, fun x => p_isWord (k := 2) T A (by decide) ⟨rfl, rfl, _, rfl, fun v => p_isWord (k := 3) T A (by decide) ⟨rfl, rfl, _, rfl, fun z => ?_, fun z => ?_⟩, fun v => ?_⟩, fun x => ?_⟩, fun y => ?_⟩)
  · rw [if_neg (by have := of_decide_eq_false y; have := of_decide_eq_false x; have := of_decide_eq_false v; have := of_decide_eq_false z; omega)] at hq; exact hq
  · have z := of_decide_eq_true z
    rw [if_pos (by omega), z] at hq; exact hq
  · have z := of_decide_eq_true v
    rw [if_pos (by omega), z] at hq; exact hq
  · have z := of_decide_eq_true x
    rw [if_pos (by omega), z] at hq; exact hq
  · have z := of_decide_eq_true y
    rw [if_pos (by omega), z] at hq; exact hq
theorem c_part {d u a : Nat} {X : TX} {E : Nat → RS} (hu : mx_Cat u) (G : gd X E) (S : spC X u (fun M Q => mx_W m_X4_takeExpression (d + 6) 0 [.ref 2, .int (w (a + 1)), .retAddr 0] [] M Q) E) : spC X u (fun M Q => mx_W m_X4_takePart (d + 7) 0 [.ref 2, .int (w a), .retAddr 0] [] M Q) (partF X E) := by
  intro M q s Q T hu0 A h64 hs hQ
  have b7 := tkC_700 A
  have hkd := tkM_kd (X := X) (q := q)
  have hsz := sz_le X b7.1
  refine x_X4_takePart_0 (d := d + 6) T u hu hu0 _ (p_isSign (c := 40) T A (by decide) ⟨rfl, rfl, _, rfl, fun y => ?_, fun y => ?_⟩)
  · have ns : ¬ sg X q 40 = true := by unfold sg; rw [y]; decide
    unfold partF at hQ
    rw [if_neg ns] at hQ
    rw [A.1.2.2.2, A.1.2.2.1, show (2 : Int32) = w 2 from rfl, show (1 : Int32) = w 1 from rfl, show (4 : Int32) = w 4 from rfl, w_inj (by omega) (by omega), w_inj (by omega) (by omega), w_le (by omega) (by omega)]
    refine ⟨fun z => ⟨fun x => ?_, fun x => ?_⟩, fun z => ⟨fun x => ?_, fun x => ?_⟩⟩
    · rw [if_neg z, if_neg x] at hQ
      exact p_refuseP (k := 1) (s := s) T hu hu0 A (fun M1 L1 k3 k4 => ⟨L1.1.1, L1.1.2.1, _, rfl, hQ.2 (show ¬ (1 : Nat) = 0 by decide) M1 L1 k3 k4⟩)
    · rw [if_neg z, if_pos x] at hQ
      have hl := knd_lt (X := X) (q := q) (by omega)
      refine p_valueStep T hu hu0 A ⟨rfl, rfl, _, rfl, ?_⟩
      by_cases k4 : kw X q < 4
      · rw [if_pos k4] at hQ
        rw [if_pos k4]
        refine ⟨fun _ => p_addStep T h64 (by omega) (fun M1 L1 _ K1 v1 n1 => ⟨L1.1.1, L1.1.2.1, rfl, p_step (lip_T L1 T) (K1 X q A) (fun M2 L2 A2 => ⟨L2.1.1, L2.1.2.1, rfl, hQ.1 rfl M2 (lip_trans L1 (cX_E L2)) A2 ?_ ⟨?_, trivial⟩⟩)⟩), fun v => absurd v ?_⟩
        · rw [(L2.2 6 4 (by decide)).1, n1]; rfl
        · rw [(L2.2 7 s (by omega)).1, v1]; rfl
        · intro v
          have := (neg_lt (kw X q) (by omega)).1
          rw [v] at this; exact absurd this (by decide)
      · rw [if_neg k4] at hQ
        rw [if_neg k4]
        exact ⟨fun v => absurd rfl v, fun _ => p_refuseP (k := 3) (s := s) T hu hu0 A (fun M1 L1 k3 k4 => ⟨L1.1.1, L1.1.2.1, _, rfl, hQ.2 (show ¬ (3 : Nat) = 0 by decide) M1 L1 k3 k4⟩)⟩
    · rw [if_pos z, if_pos x] at hQ
      have hl := knd_lt (X := X) (q := q) (by omega)
      rw [A.2.2.1 z x]
      refine p_addStep T h64 (by omega) (fun M1 L1 _ K1 v1 n1 => ⟨L1.1.1, L1.1.2.1, rfl, p_step (lip_T L1 T) (K1 X q A) (fun M2 L2 A2 => ⟨L2.1.1, L2.1.2.1, rfl, hQ.1 rfl M2 (lip_trans L1 (cX_E L2)) A2 ?_ ⟨?_, trivial⟩⟩)⟩)
      · rw [(L2.2 6 4 (by decide)).1, n1]; rfl
      · rw [(L2.2 7 s (by omega)).1, v1]; rfl
    · rw [if_pos z, if_neg x] at hQ
      exact p_refuseP (k := 2) (s := s) T hu hu0 A (fun M1 L1 k3 k4 => ⟨L1.1.1, L1.1.2.1, _, rfl, hQ.2 (show ¬ (2 : Nat) = 0 by decide) M1 L1 k3 k4⟩)
  · have ys : sg X q 40 = true := y
    have n := nx_lt (sg_lt ys)
    unfold partF at hQ
    rw [if_pos ys] at hQ
    rw [w_add1]
    refine p_step T A (fun M1 L1 A1 => ⟨L1.1.1, L1.1.2.1, rfl, S M1 (nx X q) s _ (lip_T L1 T) (by rw [L1.1.2.1]; exact hu0) A1 (by rw [(L1.2 6 4 (by decide)).1]; exact h64) (by omega) ⟨fun z M2 L2 A2 k64 C2 => ⟨L2.1.1, L2.1.2.1, true, rfl, fun _ => ?_, (fun y => by cases y)⟩, fun z M2 L2 k3 k4 => ⟨L2.1.1, L2.1.2.1, false, rfl, (fun y => by cases y), fun _ => ?_⟩⟩⟩)
    · rw [if_pos z] at hQ
      have T2 := lip_T L2 (lip_T L1 T)
      refine p_isSign (c := 41) T2 A2 (by decide) ⟨rfl, rfl, _, rfl, fun x => p_step T2 A2 (fun M3 L3 A3 => ⟨L3.1.1, L3.1.2.1, rfl, ?_⟩), fun x => p_refuseP (k := 1) (s := s) T2 hu (by rw [L2.1.2.1, L1.1.2.1]; exact hu0) A2 (fun M3 L3 k3 k4 => ⟨L3.1.1, L3.1.2.1, _, rfl, ?_⟩)⟩
      · have x : sg X (E (nx X q)).2.1 41 = true := x
        rw [if_pos x] at hQ
        exact hQ.1 rfl M3 (lip_trans (cX_E L1) (lip_trans L2 (cX_E L3))) A3 (by rw [(L3.2 6 4 (by decide)).1]; exact k64) (stL_at _ _ (fun j _ _ => (L3.2 7 j (by omega)).1) C2)
      · have x : sg X (E (nx X q)).2.1 41 = false := x
        rw [if_neg (by rw [x]; decide)] at hQ
        exact hQ.2 (show ¬ (1 : Nat) = 0 by decide) M3 (cE_tf (Nat.le_refl _) (lip_trans (cX_E L1) L2) L3) k3 k4
    · rw [if_neg z] at hQ
      exact hQ.2 z M2 (cE_tf (Nat.le_refl _) (cX_E L1) L2) k3 k4
