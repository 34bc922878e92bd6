/-! the reference reads a tie: its small steps -/
def ppL (P : List Nat) (k : Nat) : Prop := ∀ x, x ∈ P → 3 ≤ x ∧ x < 14 ∧ k ≤ stg x
theorem ex_drops {d : Nat} {X : TX} {M0 M : mx_M} {a0 b q dp k : Nat} {P S : List Nat} {te : Nat → Bool} {L : List SP} {Q : QQ} (E : EX X M0 a0 M b q (P ++ S) dp te L) (hb : b ≤ 702) (hk : k < 100) (wS : wkS S k) (hP : ppL P k) (hq : ∀ M1, EX X M0 a0 M1 b q S dp te (L ++ mpP P) → Q (.inl none) M1) : mx_W m_X11_drops (d + 1) 0 [.ref 58, .int (w k)] [] M Q := by
  obtain ⟨⟨T, F, K, g⟩, ⟨h30, hw⟩, ⟨h31, hd, h84⟩, tp, h29, hcd, hl, ht⟩ := E
  have hll : (P ++ S).length = P.length + S.length := List.length_append
  refine q_drops hk wS P L M tp T F K h30 hw h29 hcd (by omega) (by omega) (fun x hx => (hP x hx).2) (fun M1 T1 F1 K1 e1 k1 k2 k3 k4 => hq M1 ⟨⟨T1, F1, K1, ?_⟩, ⟨k1, k2⟩, ⟨?_, hd, fun j hj0 hj => ?_⟩, tp + P.length, k3, k4, by omega, by omega⟩)
  · exact g16_f (e1 58 16 (by omega) (by omega)) (e1 58 17 (by omega) (by omega)) g
  · rw [e1 58 31 (by omega) (by omega)]; exact h31
  · rw [e1 84 j (by omega) (by omega)]; exact h84 j hj0 hj
/-- behind a fault -/
def FLT (X : TX) (M0 : mx_M) (a0 : Nat) (M : mx_M) (k p : Nat) : Prop := (mx_Tp M ∧ lip (mE a0) M0 M ∧ mx_I M 58 16 = w k ∧ 1 ≤ k ∧ k < 10 ∧ mx_I M 58 17 = w p) ∧ ∃ (S : List Nat) (tp q : Nat), tkM M X q ∧ mx_I M 58 30 = w S.length ∧ wtS M S ∧ mx_I M 58 29 = w tp ∧ a0 ≤ tp ∧ S.length ≤ 800 ∧ tp + S.length ≤ 1600
theorem q_isGood {d : Nat} {M : mx_M} {Q : QQ} (T : mx_Tp M) (h : g16 M) (hq : Q (.inl (some (.int (mx_b true)))) M) : mx_W m_X11_isGood d 0 [.ref 58] [] M Q :=
  x_X11_isGood_0 T ⟨fun z => absurd h.1 z, fun _ => hq⟩
theorem q_isBad {d k : Nat} {M : mx_M} {Q : QQ} (T : mx_Tp M) (h : mx_I M 58 16 = w k) (h1 : 1 ≤ k) (h2 : k < 10) (hq : Q (.inl (some (.int (mx_b false)))) M) : mx_W m_X11_isGood d 0 [.ref 58] [] M Q := by
  refine x_X11_isGood_0 T ⟨fun _ => hq, fun z => ?_⟩
  rw [h, w_eq0 (by omega)] at z; omega
theorem q_wrong2 {d k : Nat} {X : TX} {M : mx_M} {q : Nat} {Q : QQ} (T : mx_Tp M) (h : g16 M) (K : tkM M X q) (hq : ∀ M1, lip (fun k j => k = 58 ∧ (j = 16 ∨ j = 17)) M M1 → mx_I M1 58 16 = w k → mx_I M1 58 17 = w q → Q (.inl none) M1) : mx_W m_X11_wrong d 0 [.ref 58, .int (w k)] [] M Q := by
  refine x_X11_wrong_0 T _ ⟨fun _ M1 f1 M2 f2 => ?_, fun z => absurd h.1 z⟩
  have e : mx_I M1 58 22 = w q := by rw [f1, I_ne (by omega)]; exact K.1.2.2.1
  rw [e] at f2
  have L1 : lip (fun k j => k = 58 ∧ (j = 16 ∨ j = 17)) M M1 := by rw [f1]; exact lip_setI ⟨rfl, Or.inl rfl⟩
  have L2 : lip (fun k j => k = 58 ∧ (j = 16 ∨ j = 17)) M1 M2 := by rw [f2]; exact lip_setI ⟨rfl, Or.inr rfl⟩
  exact hq M2 (lip_trans L1 L2) (by rw [f2, I_ne (by omega), f1]; exact I_eq) (by rw [f2]; exact I_eq)
theorem ex_wrong {d k : Nat} {X : TX} {M0 M : mx_M} {a0 b q dp : Nat} {S : List Nat} {te : Nat → Bool} {L : List SP} {Q : QQ} (E : EX X M0 a0 M b q S dp te L) (hb : b ≤ 702) (h1 : 1 ≤ k) (h2 : k < 10) (hq : ∀ M1, FLT X M0 a0 M1 k q → Q (.inl none) M1) : mx_W m_X11_wrong d 0 [.ref 58, .int (w k)] [] M Q := by
  obtain ⟨⟨T, F, K, g⟩, ⟨h30, hw⟩, ⟨h31, hd, h84⟩, tp, h29, hcd, hl, ht⟩ := E
  have ac := cdP_le L _ _ hcd
  refine q_wrong2 T g K (fun M1 L1 k1 k2 => hq M1 ⟨⟨lip_T L1 T, lip_trans F (lip_mono L1 (fun k j h => Or.inl ⟨h.1, by omega⟩)), k1, h1, h2, k2⟩, S, tp, q, tkM_E L1 (fun k j h => by omega) K, ?_, ?_, ?_, ac, by omega, by omega⟩)
  · rw [(L1.2 58 30 (by omega)).1]; exact h30
  · exact wtS_at S (fun j _ => (L1.2 80 j (by omega)).1) hw
  · rw [(L1.2 58 29 (by omega)).1]; exact h29
/-- a faulty world puts one cell more -/
theorem flt_puts {d k p : Nat} {v : Int32} {X : TX} {M0 M : mx_M} {a0 : Nat} {Q : QQ} (S : List Nat) (tp q : Nat) (H : mx_Tp M ∧ lip (mE a0) M0 M ∧ mx_I M 58 16 = w k ∧ 1 ≤ k ∧ k < 10 ∧ mx_I M 58 17 = w p) (K : tkM M X q) (h30 : mx_I M 58 30 = w S.length) (hw : wtS M S) (h29 : mx_I M 58 29 = w tp) (h0 : a0 ≤ tp) (hS : S.length ≤ 800) (hb : tp + S.length + 1 ≤ 2700) (hq : ∀ M1, (mx_Tp M1 ∧ lip (mE a0) M0 M1 ∧ mx_I M1 58 16 = w k ∧ 1 ≤ k ∧ k < 10 ∧ mx_I M1 58 17 = w p) → tkM M1 X q → mx_I M1 58 30 = w S.length → wtS M1 S → mx_I M1 58 29 = w (tp + 1) → Q (.inl none) M1) : mx_W m_X11_puts d 0 [.ref 58, .int v] [] M Q := by
  refine ex_puts (X := X) H.1 H.2.1 h29 h0 (by omega) (fun M1 T1 F1 e1 K1 v1 n1 => hq M1 ⟨T1, F1, ?_, H.2.2.2.1, H.2.2.2.2.1, ?_⟩ (K1 q K) ?_ ?_ n1)
  · rw [e1 58 16 (by omega) (by omega)]; exact H.2.2.1
  · rw [e1 58 17 (by omega) (by omega)]; exact H.2.2.2.2.2
  · rw [e1 58 30 (by omega) (by omega)]; exact h30
  · exact wtS_at S (fun j _ => e1 80 j (by omega) (by omega)) hw
/-- a split of the stack at what holds the drops -/
theorem splitS (k : Nat) : ∀ (S : List Nat), ∃ P S2, S = P ++ S2 ∧ wkS S2 k ∧ ∀ x, x ∈ P → x < 14 ∧ k ≤ stg x
  | [] => ⟨[], [], rfl, (fun x S1 e => by cases e), fun x h => by cases h⟩
  | x :: S => by
    by_cases h : x < 14 ∧ k ≤ stg x
    · obtain ⟨P, S2, e, h1, h2⟩ := splitS k S
      refine ⟨x :: P, S2, by rw [e]; rfl, h1, fun y hy => ?_⟩
      rcases List.mem_cons.mp hy with rfl | g
      · exact h
      · exact h2 y g
    · refine ⟨[], x :: S, rfl, fun y S1 e => ?_, fun y hy => by cases hy⟩
      have e : x = y := (List.cons.inj e).1
      rw [← e]; omega
theorem anyL {M : mx_M} {a b : Nat} (h : a ≤ b) : ∃ L, (a = b → L = []) ∧ (a = b → cdP M L a b) := ⟨[], fun _ => rfl, fun e => e⟩
/-- drops of a faulty world, without its code -/
theorem flt_drops {d : Nat} {X : TX} {M0 : mx_M} {a0 k f p q : Nat} {S : List Nat} {Q : QQ} (hk : k < 100) (wS : wkS S k) :
    ∀ (P : List Nat) (M : mx_M) (tp : Nat), (mx_Tp M ∧ lip (mE a0) M0 M ∧ mx_I M 58 16 = w f ∧ 1 ≤ f ∧ f < 10 ∧ mx_I M 58 17 = w p) → tkM M X q → mx_I M 58 30 = w (P ++ S).length → wtS M (P ++ S) → mx_I M 58 29 = w tp → a0 ≤ tp → tp + (P ++ S).length < 2600 → (P ++ S).length ≤ 800 → (∀ x, x ∈ P → x < 14 ∧ k ≤ stg x) →
      (∀ M1, (mx_Tp M1 ∧ lip (mE a0) M0 M1 ∧ mx_I M1 58 16 = w f ∧ 1 ≤ f ∧ f < 10 ∧ mx_I M1 58 17 = w p) → tkM M1 X q → mx_I M1 58 30 = w S.length → wtS M1 S → mx_I M1 58 29 = w (tp + P.length) → Q (.inl none) M1) → mx_W m_X11_drops (d + 1) 0 [.ref 58, .int (w k)] [] M Q := by
  intro P M tp H K h30 hw h29 h0 hb hS hP hq
  refine q_drops (a0 := tp) (M0 := M) hk wS P [] M tp H.1 (lip_refl _ _) K h30 hw h29 rfl (by omega) (by omega) hP (fun M1 T1 F1 K1 e1 k1 k2 k3 k4 => hq M1 ⟨T1, lip_trans H.2.1 (lip_mono F1 (fun i j h => ?_)), ?_, H.2.2.2.1, H.2.2.2.2.1, ?_⟩ K1 k1 k2 k3)
  · rcases h with h | h | h | h
    · exact Or.inl h
    · exact Or.inr (Or.inl ⟨h.1, by omega⟩)
    · exact Or.inr (Or.inr (Or.inl h))
    · exact Or.inr (Or.inr (Or.inr h))
  · rw [e1 58 16 (by omega) (by omega)]; exact H.2.2.1
  · rw [e1 58 17 (by omega) (by omega)]; exact H.2.2.2.2.2
/-- behind a fault the expression ends -/
theorem flt_end {d : Nat} {X : TX} {M0 M : mx_M} {a0 k p : Nat} {Q : QQ} (H : FLT X M0 a0 M k p) (hq : ∀ M1 q, mx_Tp M1 → lip (mE a0) M0 M1 → mx_I M1 58 16 = w k → mx_I M1 58 17 = w p → tkM M1 X q → Q (.inl none) M1) : mx_W m_X11_expression (d + 3) 29 [.ref 58, .int 1, .retAddr 0] [] M Q := by
  obtain ⟨H, S, tp, q, K, h30, hw, h29, h0, hS, hb⟩ := H
  refine x_X11_expression_29 (d := d + 2) H.1 _ ⟨fun z => absurd z (by decide), fun _ => q_isBad H.1 H.2.2.1 H.2.2.2.1 H.2.2.2.2.1 ⟨rfl, rfl, _, rfl, fun _ => ?_, fun y => by cases y⟩⟩
  refine x_X11_expression_325 (d := d + 2) H.1 (q_isBad H.1 H.2.2.1 H.2.2.2.1 H.2.2.2.2.1 ⟨rfl, rfl, _, rfl, fun _ => ?_, fun y => by cases y⟩)
  obtain ⟨P, S2, e, wS, hP⟩ := splitS 0 S
  rw [e] at h30 hw hb hS
  refine x_X11_expression_345 (d := d + 2) H.1 (flt_drops (d := d + 1) (X := X) (k := 0) (q := q) (by decide) wS P M tp H K h30 hw h29 h0 (by omega) hS hP (fun M1 H1 K1 g30 g80 g29 => ⟨H1.2.1.1.1.trans H.2.1.1.1.symm, H1.2.1.1.2.1.trans H.2.1.1.2.1.symm, rfl, ?_⟩))
  have hll : (P ++ S2).length = P.length + S2.length := List.length_append
  refine flt_puts (X := X) S2 (tp + P.length) q H1 K1 g30 g80 g29 (by omega) (by omega) (by omega) (fun M2 H2 K2 _ _ _ => ⟨H2.2.1.1.1.trans H1.2.1.1.1.symm, H2.2.1.1.2.1.trans H1.2.1.1.2.1.symm, rfl, hq M2 q H2.1 H2.2.1 H2.2.2.1 H2.2.2.2.2.2 K2⟩)
theorem flt_part {d : Nat} {X : TX} {M0 M : mx_M} {a0 k p : Nat} {Q : QQ} (H : FLT X M0 a0 M k p) (hq : Q (.inl none) M) : mx_W m_X11_part (d + 1) 0 [.ref 58, .retAddr 0] [] M Q :=
  x_X11_part_0 H.1.1 (q_isBad H.1.1 H.1.2.2.1 H.1.2.2.2.1 H.1.2.2.2.2.1 ⟨rfl, rfl, _, rfl, (fun y => by cases y), fun _ => hq⟩)
/-- behind a fault the operand ends -/
theorem flt_A {d : Nat} {v x : Int32} {X : TX} {M0 M : mx_M} {a0 k p : Nat} {Q : QQ} (H : FLT X M0 a0 M k p) (hq : Q (.inl none) M) : mx_W m_X11_operand (d + 2) 4 [.ref 58, .retAddr 0, .int v, .int x, .retAddr 0] [] M Q := by
  refine x_X11_operand_4 (d := d + 1) H.1.1 _ _ ⟨fun _ => flt_part H ⟨rfl, rfl, rfl, hq⟩, fun _ => q_isBad H.1.1 H.1.2.2.1 H.1.2.2.2.1 H.1.2.2.2.2.1 ⟨rfl, rfl, _, rfl, fun _ => flt_part H ⟨rfl, rfl, rfl, hq⟩, fun y => by cases y⟩⟩
theorem flt_N {d : Nat} {v x : Int32} {X : TX} {M0 M : mx_M} {a0 k p : Nat} {Q : QQ} (H : FLT X M0 a0 M k p) (hq : Q (.inl none) M) : mx_W m_X11_operand (d + 2) 18 [.ref 58, .retAddr 0, .int v, .retAddr 0, .int x] [] M Q := by
  refine x_X11_operand_18 (d := d + 1) H.1.1 _ _ (q_isBad H.1.1 H.1.2.2.1 H.1.2.2.2.1 H.1.2.2.2.2.1 ⟨rfl, rfl, _, rfl, fun _ => q_isBad H.1.1 H.1.2.2.1 H.1.2.2.2.1 H.1.2.2.2.2.1 ⟨rfl, rfl, _, rfl, fun _ => flt_A H hq, fun y => by cases y⟩, fun y => by cases y⟩)
