/-! the reference reads a tie: its stack and its code -/
def cdP (M : mx_M) : List SP → Nat → Nat → Prop
  | [], a, b => a = b
  | s :: L, a, b => if s.1 = 2 then mx_I M 79 a = w s.2 ∧ cdP M L (a + 1) b else mx_I M 79 a = w (s.1 + 1) ∧ mx_I M 79 (a + 1) = w s.2 ∧ cdP M L (a + 2) b
theorem cdP_le {M : mx_M} : ∀ (L : List SP) (a b : Nat), cdP M L a b → a ≤ b
  | [], a, b, h => Nat.le_of_eq h
  | s :: L, a, b, h => by
    unfold cdP at h
    split at h
    · have := cdP_le L _ _ h.2; omega
    · have := cdP_le L _ _ h.2.2; omega
theorem cdP_at {M M1 : mx_M} : ∀ (L : List SP) (a b : Nat), (∀ j, a ≤ j → j < b → mx_I M1 79 j = mx_I M 79 j) → cdP M L a b → cdP M1 L a b
  | [], a, b, _, h => h
  | s :: L, a, b, e, h => by
    unfold cdP at h ⊢
    by_cases q : s.1 = 2
    · rw [if_pos q] at h ⊢
      have l := cdP_le L _ _ h.2
      exact ⟨by rw [e a (Nat.le_refl _) (by omega)]; exact h.1, cdP_at L _ _ (fun j h1 h2 => e j (by omega) h2) h.2⟩
    · rw [if_neg q] at h ⊢
      have l := cdP_le L _ _ h.2.2
      exact ⟨by rw [e a (Nat.le_refl _) (by omega)]; exact h.1, by rw [e (a + 1) (by omega) (by omega)]; exact h.2.1, cdP_at L _ _ (fun j h1 h2 => e j (by omega) h2) h.2.2⟩
theorem cdP_app {M : mx_M} : ∀ (L L2 : List SP) (a b c : Nat), cdP M L a b → cdP M L2 b c → cdP M (L ++ L2) a c
  | [], L2, a, b, c, h, h2 => by have h : a = b := h; rw [h]; exact h2
  | s :: L, L2, a, b, c, h, h2 => by
    have h : cdP M (s :: L) a b := h
    show cdP M (s :: (L ++ L2)) a c
    unfold cdP at h ⊢
    by_cases q : s.1 = 2
    · rw [if_pos q] at h ⊢
      exact ⟨h.1, cdP_app L L2 _ b c h.2 h2⟩
    · rw [if_neg q] at h ⊢
      exact ⟨h.1, h.2.1, cdP_app L L2 _ b c h.2.2 h2⟩
def wtS (M : mx_M) : List Nat → Prop
  | [] => True
  | x :: S => mx_I M 80 S.length = w x ∧ x < 20 ∧ wtS M S
theorem wtS_at {M M1 : mx_M} : ∀ (S : List Nat), (∀ j, j < S.length → mx_I M1 80 j = mx_I M 80 j) → wtS M S → wtS M1 S
  | [], _, _ => trivial
  | x :: S, e, h => ⟨by rw [e S.length (by rw [List.length_cons]; omega)]; exact h.1, h.2.1, wtS_at S (fun j hj => e j (by rw [List.length_cons]; omega)) h.2.2⟩
theorem wtS_tail {M : mx_M} : ∀ (P S : List Nat), wtS M (P ++ S) → wtS M S
  | [], S, h => h
  | x :: P, S, h => wtS_tail P S h.2.2
abbrev mE (a0 : Nat) : Nat → Nat → Prop := fun k j => (k = 58 ∧ ((20 ≤ j ∧ j ≤ 26) ∨ j = 29 ∨ j = 30 ∨ j = 31 ∨ j = 16 ∨ j = 17)) ∨ (k = 79 ∧ a0 ≤ j) ∨ k = 80 ∨ k = 84
def stg (c : Nat) : Nat := if c = 5 then 1 else if c = 4 then 2 else if c = 3 then 3 else if c = 6 ∨ c = 7 then 4 else if c = 8 ∨ c = 9 then 5 else 6
/-- no fault so far -/
def g16 (M : mx_M) : Prop := mx_I M 58 16 = 0 ∧ mx_I M 58 17 = -1
theorem g16_f {M M1 : mx_M} (a : mx_I M1 58 16 = mx_I M 58 16) (b : mx_I M1 58 17 = mx_I M 58 17) (g : g16 M) : g16 M1 := ⟨by rw [a]; exact g.1, by rw [b]; exact g.2⟩
/-- the world of the reference in a tie, at the token q -/
def EX (X : TX) (M0 : mx_M) (a0 : Nat) (M : mx_M) (b q : Nat) (S : List Nat) (dp : Nat) (te : Nat → Bool) (L : List SP) : Prop :=
  (mx_Tp M ∧ lip (mE a0) M0 M ∧ tkM M X q ∧ g16 M) ∧ (mx_I M 58 30 = w S.length ∧ wtS M S) ∧ (mx_I M 58 31 = w dp ∧ dp ≤ 6 ∧ ∀ j, 1 ≤ j → j ≤ dp → mx_I M 84 j = mx_b (te j)) ∧ ∃ tp, mx_I M 58 29 = w tp ∧ cdP M L a0 tp ∧ S.length ≤ b ∧ tp + S.length + 2 ≤ 2 * b
theorem ex_sh {X : TX} {M0 M M1 : mx_M} {a0 b q b1 q1 dp dp1 : Nat} {S S1 : List Nat} {te te1 : Nat → Bool} {L L1 : List SP} (E : EX X M0 a0 M b q S dp te L) (E1 : EX X M0 a0 M1 b1 q1 S1 dp1 te1 L1) : mx_sh M1 = mx_sh M ∧ mx_R M1 = mx_R M :=
  ⟨E1.1.2.1.1.1.trans E.1.2.1.1.1.symm, E1.1.2.1.1.2.1.trans E.1.2.1.1.2.1.symm⟩
theorem ex_b {X : TX} {M0 M : mx_M} {a0 b b1 q dp : Nat} {S : List Nat} {te : Nat → Bool} {L : List SP} (h : b ≤ b1) (E : EX X M0 a0 M b q S dp te L) : EX X M0 a0 M b1 q S dp te L := by
  obtain ⟨h1, h2, h3, tp, h4, h5, h6, h7⟩ := E
  exact ⟨h1, h2, h3, tp, h4, h5, by omega, by omega⟩
theorem tkM_E {P : Nat → Nat → Prop} {X : TX} {q : Nat} {M M1 : mx_M} (L : lip P M M1) (hP : ∀ k j, P k j → ¬ k = 70 ∧ ¬ (k = 58 ∧ 19 ≤ j ∧ j ≤ 26)) (A : tkM M X q) : tkM M1 X q := by
  have f : ∀ j, 19 ≤ j → j ≤ 26 → mx_I M1 58 j = mx_I M 58 j ∧ mx_J M1 58 j = mx_J M 58 j := fun j h1 h2 => L.2 58 j (fun z => (hP 58 j z).2 ⟨rfl, h1, h2⟩)
  obtain ⟨⟨a1, a2, a3, a4⟩, a5, a6, a7, a8, a9⟩ := A
  refine ⟨⟨?_, ?_, ?_, ?_⟩, fun y => ?_, fun y => ?_, fun y => ?_, tapM_lip L (fun k j h => ⟨(hP k j h).1, fun z => (hP k j h).2 ⟨z.1, by omega, by omega⟩⟩) a8, a9⟩
  · rw [(f 20 (by decide) (by decide)).1]; exact a1
  · rw [(f 21 (by decide) (by decide)).1]; exact a2
  · rw [(f 22 (by decide) (by decide)).1]; exact a3
  · rw [(f 23 (by decide) (by decide)).1]; exact a4
  · rw [(f 26 (by decide) (by decide)).2]; exact a5 y
  · rw [(f 24 (by decide) (by decide)).1]; exact a6 y
  · rw [(f 25 (by decide) (by decide)).1]; exact a7 y
theorem ex_waits {d : Nat} {X : TX} {M0 M : mx_M} {a0 b q dp c : Nat} {S : List Nat} {te : Nat → Bool} {L : List SP} {Q : QQ} (E : EX X M0 a0 M b q S dp te L) (hb : b ≤ 700) (hc : c < 20) (hq : ∀ M1, EX X M0 a0 M1 (b + 1) q (c :: S) dp te L → Q (.inl none) M1) : mx_W m_X11_waitsFor d 0 [.ref 58, .int (w c)] [] M Q := by
  obtain ⟨⟨T, F, K, g⟩, ⟨h30, hw⟩, ⟨h31, hd, h84⟩, tp, h29, hcd, hl, ht⟩ := E
  refine x_X11_waitsFor_0 T _ ?_
  rw [h30, w_nat (by omega)]
  refine ⟨w_in (by omega) (by decide), fun M1 f1 M2 f2 => ?_⟩
  have e : mx_I M1 58 30 = w S.length := by rw [f1, I_ne (by omega)]; exact h30
  rw [e, w_add1] at f2
  have L1 : lip (fun k j => k = 80 ∨ (k = 58 ∧ j = 30)) M M1 := by rw [f1]; exact lip_setI (Or.inl rfl)
  have L2 : lip (fun k j => k = 80 ∨ (k = 58 ∧ j = 30)) M1 M2 := by rw [f2]; exact lip_setI (Or.inr ⟨rfl, rfl⟩)
  have L3 := lip_trans L1 L2
  have g : ∀ k j, ¬ (k = 80 ∨ (k = 58 ∧ j = 30)) → mx_I M2 k j = mx_I M k j := fun k j h => (L3.2 k j h).1
  refine hq M2 ⟨⟨lip_T L3 T, lip_trans F (lip_mono L3 (fun k j h => ?_)), tkM_E L3 (fun k j h => by omega) K, ?_⟩, ⟨?_, ?_, hc, ?_⟩, ⟨?_, hd, fun j hj0 hj => ?_⟩, tp, ?_, cdP_at L _ _ (fun j _ _ => g 79 j (by omega)) hcd, ?_, ?_⟩
  · rcases h with h | h
    · exact Or.inr (Or.inr (Or.inl h))
    · exact Or.inl ⟨h.1, by omega⟩
  · exact g16_f (g 58 16 (by omega)) (g 58 17 (by omega)) (by assumption)
  · rw [f2, I_eq]; rfl
  · rw [f2, I_ne (by omega), f1]; exact I_eq
  · refine wtS_at S (fun j hj => ?_) hw
    rw [f2, I_ne (by omega), f1, I_ne (by omega)]
  · rw [g 58 31 (by omega)]; exact h31
  · rw [g 84 j (by omega)]; exact h84 j hj0 hj
  · rw [g 58 29 (by omega)]; exact h29
  · rw [List.length_cons]; omega
  · rw [List.length_cons]; omega
theorem ex_goes {d : Nat} {X : TX} {M0 M : mx_M} {a0 b q dp : Nat} {S : List Nat} {te : Nat → Bool} {L : List SP} {Q : QQ} (E : EX X M0 a0 M b q S dp te L) (hq : ∀ M1, EX X M0 a0 M1 b (nx X q) S dp te L → Q (.inl none) M1) : mx_W m_X11_goes (d + 1) 0 [.ref 58, .retAddr 0] [] M Q := by
  obtain ⟨⟨T, F, K, g⟩, ⟨h30, hw⟩, ⟨h31, hd, h84⟩, tp, h29, hcd, hl, ht⟩ := E
  refine q_goes T K (fun M1 L1 K1 => ?_)
  have f : ∀ k j, ¬ (k = 58 ∧ 20 ≤ j ∧ j ≤ 26) → mx_I M1 k j = mx_I M k j := fun k j h => (L1.2 k j h).1
  refine hq M1 ⟨⟨lip_T L1 T, lip_trans F (lip_mono L1 (fun k j h => Or.inl ⟨h.1, Or.inl h.2⟩)), K1, g16_f (f 58 16 (by omega)) (f 58 17 (by omega)) g⟩, ⟨by rw [f 58 30 (by omega)]; exact h30, wtS_at S (fun j _ => f 80 j (by omega)) hw⟩, ⟨by rw [f 58 31 (by omega)]; exact h31, hd, fun j hj0 hj => by rw [f 84 j (by omega)]; exact h84 j hj0 hj⟩, tp, by rw [f 58 29 (by omega)]; exact h29, cdP_at L _ _ (fun j _ _ => f 79 j (by omega)) hcd, hl, ht⟩
/-- a cell is put: what the code's new cell is -/
theorem ex_puts {d : Nat} {X : TX} {M0 M : mx_M} {a0 tp : Nat} {v : Int32} {Q : QQ} (T : mx_Tp M) (F : lip (mE a0) M0 M) (h29 : mx_I M 58 29 = w tp) (h0 : a0 ≤ tp) (h2 : tp < 2800) (hq : ∀ M1, mx_Tp M1 → lip (mE a0) M0 M1 → (∀ k j, ¬ (k = 58 ∧ j = 29) → ¬ (k = 79 ∧ j = tp) → mx_I M1 k j = mx_I M k j) → (∀ q, tkM M X q → tkM M1 X q) → mx_I M1 79 tp = v → mx_I M1 58 29 = w (tp + 1) → Q (.inl none) M1) : mx_W m_X11_puts d 0 [.ref 58, .int v] [] M Q := by
  refine x_X11_puts_0 T _ ?_
  rw [h29, w_nat (by omega)]
  refine ⟨w_in h2 (by decide), fun M1 f1 M2 f2 => ?_⟩
  have e : mx_I M1 58 29 = w tp := by rw [f1, I_ne (by omega)]; exact h29
  rw [e, w_add1] at f2
  have L1 : lip (fun k j => (k = 79 ∧ a0 ≤ j) ∨ (k = 58 ∧ j = 29)) M M1 := by rw [f1]; exact lip_setI (Or.inl ⟨rfl, h0⟩)
  have L2 : lip (fun k j => (k = 79 ∧ a0 ≤ j) ∨ (k = 58 ∧ j = 29)) M1 M2 := by rw [f2]; exact lip_setI (Or.inr ⟨rfl, rfl⟩)
  have L3 := lip_trans L1 L2
  refine hq M2 (lip_T L3 T) (lip_trans F (lip_mono L3 (fun k j h => ?_))) (fun k j h h2 => ?_) (fun q K => tkM_E L3 (fun k j h => by omega) K) ?_ ?_
  · rcases h with h | h
    · exact Or.inr (Or.inl h)
    · exact Or.inl ⟨h.1, by omega⟩
  · rw [f2, I_ne h, f1, I_ne h2]
  · rw [f2, I_ne (by omega), f1]; exact I_eq
  · rw [f2]; exact I_eq
theorem q_strength {d c : Nat} {M : mx_M} {Q : QQ} (T : mx_Tp M) (hc : c < 20) (hq : Q (.inl (some (.int (w (stg c))))) M) : mx_W m_X11_strength d 0 [.int (w c)] [] M Q := by
  refine x_X11_strength_0 T _ ?_
  rw [show (5 : Int32) = w 5 from rfl, show (4 : Int32) = w 4 from rfl, show (3 : Int32) = w 3 from rfl, show (6 : Int32) = w 6 from rfl, show (7 : Int32) = w 7 from rfl, show (8 : Int32) = w 8 from rfl, show (9 : Int32) = w 9 from rfl]
  iterate 7 rw [w_inj (a := c) (by omega) (by omega)]
  have y : ∀ v, stg c = v → Q (.inl (some (.int (w v)))) M := fun v e => by rw [← e]; exact hq
  unfold stg at y
  refine ⟨fun a => ⟨fun b => ⟨fun e => ⟨fun f => y 4 ?_, fun f => ⟨fun g => ⟨fun h => y 5 ?_, fun h => ⟨fun i => y 6 ?_, fun i => y 5 ?_⟩⟩, fun g => y 4 ?_⟩⟩, fun e => y 3 ?_⟩, fun b => y 2 ?_⟩, fun a => y 1 ?_⟩ <;> simp_all
theorem q_isOpen {d c : Nat} {M : mx_M} {Q : QQ} (T : mx_Tp M) (hc : c < 20) (hq : Q (.inl (some (.int (mx_b (decide (14 ≤ c)))))) M) : mx_W m_X11_isOpen d 0 [.int (w c)] [] M Q := by
  refine x_X11_isOpen_0 T _ ?_
  rw [show (14 : Int32) = w 14 from rfl, w_lt (by omega) (by omega)]
  refine ⟨fun z => ?_, fun z => ?_⟩
  · rw [decide_eq_false (by omega)] at hq; exact hq
  · rw [decide_eq_true (by omega)] at hq; exact hq
def wkS (S : List Nat) (k : Nat) : Prop := ∀ x S1, S = x :: S1 → 14 ≤ x ∨ stg x < k
def mpP (P : List Nat) : List SP := P.map (fun c => (2, c))
/-- what waits and is as strong goes out -/
theorem q_drops {d : Nat} {X : TX} {M0 : mx_M} {a0 k q : Nat} {S : List Nat} {Q : QQ} (hk : k < 100) (wS : wkS S k) :
    ∀ (P : List Nat) (L : List SP) (M : mx_M) (tp : Nat), mx_Tp M → lip (mE a0) M0 M → tkM M X q → mx_I M 58 30 = w (P ++ S).length → wtS M (P ++ S) → mx_I M 58 29 = w tp → cdP M L a0 tp → tp + (P ++ S).length < 2800 → (P ++ S).length < 950 → (∀ x, x ∈ P → x < 14 ∧ k ≤ stg x) →
      (∀ M1, mx_Tp M1 → lip (mE a0) M0 M1 → tkM M1 X q → (∀ i j, ¬ i = 79 → ¬ (i = 58 ∧ (j = 29 ∨ j = 30)) → mx_I M1 i j = mx_I M i j) → mx_I M1 58 30 = w S.length → wtS M1 S → mx_I M1 58 29 = w (tp + P.length) → cdP M1 (L ++ mpP P) a0 (tp + P.length) → Q (.inl none) M1) → mx_W m_X11_drops (d + 1) 0 [.ref 58, .int (w k)] [] M Q
  | [], L, M, tp, T, F, K, h30, hw, h29, hcd, hb, h9, hP, hq => by
    have fin : Q (.inl none) M := hq M T F K (fun _ _ _ _ => rfl) h30 hw h29 (by unfold mpP; rw [List.map_nil, List.append_nil]; exact hcd)
    refine x_X11_drops_0 T _ ?_
    cases S with
    | nil =>
      have h30 : mx_I M 58 30 = w 0 := h30
      rw [h30]
      exact ⟨fun _ => fin, fun z => absurd (by decide) z⟩
    | cons x S1 =>
      have h30 : mx_I M 58 30 = w (S1.length + 1) := h30
      have hb : tp + (S1.length + 1) < 2800 := hb
      have h9 : S1.length + 1 < 950 := h9
      have hw : mx_I M 80 S1.length = w x ∧ x < 20 ∧ wtS M S1 := hw
      have es : w (S1.length + 1) - 1 = w S1.length := w_sub (a := S1.length + 1) (b := 1) (by omega)
      rw [h30, es, w_le0 (by omega), w_nat (by omega), hw.1]
      refine ⟨fun _ => fin, fun _ => ⟨w_in (by omega) (by decide), q_isOpen T hw.2.1 ⟨rfl, rfl, _, rfl, fun _ => fin, fun y => ?_⟩⟩⟩
      have y := of_decide_eq_false y
      have s := wS x S1 rfl
      rw [h30, es, w_nat (by omega), hw.1]
      refine ⟨w_in (by omega) (by decide), q_strength T hw.2.1 ⟨rfl, rfl, _, rfl, fun _ => fin, fun z => ?_⟩⟩
      have s6 : stg x ≤ 6 := by unfold stg; repeat' split
                                all_goals omega
      rw [w_lt (by omega) (by omega)] at z; omega
  | x :: P, L, M, tp, T, F, K, h30, hw, h29, hcd, hb, h9, hP, hq => by
    have hx := hP x (List.mem_cons_self ..)
    have h30 : mx_I M 58 30 = w ((P ++ S).length + 1) := h30
    have hb : tp + ((P ++ S).length + 1) < 2800 := hb
    have h9 : (P ++ S).length + 1 < 950 := h9
    have hw : mx_I M 80 (P ++ S).length = w x ∧ x < 20 ∧ wtS M (P ++ S) := hw
    have es : w ((P ++ S).length + 1) - 1 = w (P ++ S).length := w_sub (a := (P ++ S).length + 1) (b := 1) (by omega)
    have ac := cdP_le L _ _ hcd
    have s6 : stg x ≤ 6 := by unfold stg; repeat' split
                              all_goals omega
    refine x_X11_drops_0 T _ ?_
    rw [h30, es, w_le0 (by omega), w_nat (by omega), hw.1]
    refine ⟨fun z => absurd z (by omega), fun _ => ⟨w_in (by omega) (by decide), q_isOpen T hw.2.1 ⟨rfl, rfl, _, rfl, fun y => ?_, fun y => ?_⟩⟩⟩
    · have y := of_decide_eq_true y; omega
    rw [h30, es, w_nat (by omega), hw.1]
    refine ⟨w_in (by omega) (by decide), q_strength T hw.2.1 ⟨rfl, rfl, _, rfl, fun z => ?_, fun z M5 f5 => ?_⟩⟩
    · rw [w_lt (by omega) (by omega)] at z; omega
    have L5 : lip (mE a0) M M5 := by rw [f5]; exact lip_setI (Or.inl ⟨rfl, by decide⟩)
    have L5' : lip (fun k j => k = 58 ∧ j = 30) M M5 := by rw [f5]; exact lip_setI ⟨rfl, rfl⟩
    have g30 : mx_I M5 58 30 = w (P ++ S).length := by rw [f5, I_eq, h30]; exact es
    have g80 : mx_I M5 80 (P ++ S).length = w x := by rw [f5, I_ne (by omega)]; exact hw.1
    rw [g30, w_nat (by omega), g80]
    refine ⟨w_in (by omega) (by decide), ex_puts (X := X) (lip_T L5 T) (lip_trans F L5) (by rw [f5, I_ne (by omega)]; exact h29) ac (by omega) (fun M6 T6 F6 e6 K6 v6 n6 => ⟨F6.1.1.trans (lip_trans F L5).1.1.symm, F6.1.2.1.trans (lip_trans F L5).1.2.1.symm, rfl, ?_⟩)⟩
    have c6 : cdP M6 (L ++ [(2, x)]) a0 (tp + 1) := by
      refine cdP_app L _ _ tp _ (cdP_at L _ _ (fun j _ hj => ?_) hcd) ?_
      · rw [e6 79 j (by omega) (by omega), f5, I_ne (by omega)]
      · show (if (2 : Nat) = 2 then _ else _)
        rw [if_pos rfl]; exact ⟨v6, rfl⟩
    refine q_drops hk wS P (L ++ [(2, x)]) M6 (tp + 1) T6 F6 (K6 q (tkM_E L5' (fun k j h => by omega) K)) (by rw [e6 58 30 (by omega) (by omega)]; exact g30) (wtS_at _ (fun j hj => by rw [e6 80 j (by omega) (by omega), f5, I_ne (by omega)]) hw.2.2) n6 c6 (by omega) (by omega) (fun y hy => hP y (List.mem_cons_of_mem _ hy)) (fun M7 T7 F7 K7 e7 k1 k2 k3 k4 => hq M7 T7 F7 K7 (fun i j h1 h2 => ?_) k1 k2 ?_ ?_)
    · rw [e7 i j h1 h2, e6 i j (by omega) (by omega), f5, I_ne (by omega)]
    · rw [k3, List.length_cons]; congr 1; omega
    · rw [List.length_cons, show tp + (P.length + 1) = tp + 1 + P.length by omega]
      show cdP M7 (L ++ mpP (x :: P)) a0 _
      rw [show L ++ mpP (x :: P) = L ++ [(2, x)] ++ mpP P by unfold mpP; rw [List.map_cons, List.append_assoc]; rfl]
      exact k4
