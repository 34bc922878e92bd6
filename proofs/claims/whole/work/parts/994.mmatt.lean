/-! what one rule matters: the reference -/
abbrev m4F : Nat → Nat → Prop := fun k j => (k = 63 ∨ k = 64 ∨ k = 65) ∧ j = 4
abbrev mMt : Nat → Nat → Prop := fun k j => m4F k j ∨ mZ 4 k j ∨ mQ k j
theorem CDM_4 {M M1 : mx_M} {X : TX} {c : CD} (hK : dK c ≤ 4) (L : lip m4F M M1) (A : CDM M X c) : CDM M1 X c := by
  have f : ∀ k j, ¬ (k = 63 ∨ k = 64 ∨ k = 65) → mx_I M1 k j = mx_I M k j ∧ mx_J M1 k j = mx_J M k j := fun k j a => L.2 k j (fun z => a z.1)
  obtain ⟨⟨h1, h2⟩, h3, h4, h5, h6⟩ := A
  refine ⟨⟨?_, ?_⟩, fun x hx => ?_, fun o ho => ?_, fun o ho => ?_, fun o ho hi => ?_⟩
  · rw [(f 58 1 (by omega)).1]; exact h1
  · rw [(f 58 2 (by omega)).1]; exact h2
  · obtain ⟨r1, r2, r3, r4⟩ := h3 x hx
    refine ⟨?_, ?_, r3, fun k hk => ⟨?_, (r4 k hk).2⟩⟩
    · rw [(f 59 x (by omega)).1]; exact r1
    · rw [(f 60 x (by omega)).1]; exact r2
    · rw [(f 67 _ (by omega)).2]; exact (r4 k hk).1
  · obtain ⟨r1, r2, r3⟩ := h4 o ho
    refine ⟨r1, ?_, fun i hi => ⟨?_, ?_, fun y => ?_⟩⟩
    · rw [(f 61 o (by omega)).1]; exact r2
    · rw [(f 62 _ (by omega)).1]; exact (r3 i hi).1
    · rw [(f 68 _ (by omega)).2]; exact (r3 i hi).2.1
    · rw [(f 69 _ (by omega)).2]; exact (r3 i hi).2.2 y
  · rw [(f 61 o (by omega)).1, (L.2 63 o (by omega)).1, (L.2 64 o (by omega)).1, (L.2 65 o (by omega)).1]; exact h5 o ho
  · obtain ⟨a, r1, r2, r3⟩ := h6 o ho hi
    exact ⟨a, by rw [(L.2 65 o (by omega)).1]; exact r1, r2, cdL_eq (funext fun j => (f 66 j (by omega)).1) _ _ r3⟩
theorem rowM_of {P : Nat → Nat → Prop} {M M1 : mx_M} {n N : Nat} {f : Nat → Nat} (L : lip P M M1) (hP : ∀ j, ¬ P 90 j) (A : rowM M 90 n N f) : rowM M1 90 n N f :=
  ⟨by rw [(L.2 90 0 (hP _)).1]; exact A.1, A.2.1, fun i hi => ⟨by rw [(L.2 90 _ (hP _)).1]; exact (A.2.2 i hi).1, (A.2.2 i hi).2⟩⟩
/-- the reference's world stands on its catalogue -/
theorem wM_cdm {M : mx_M} {X : TX} {c : CD} {n : Nat} {f : Nat → Nat} (T : mx_Tp M) (G : gdC X c) (A : CDM M X c) (Y : kyM M (dN c) (dK c) (klX X c) (ksX X c)) (R : rowM M 90 n (dN c) f) : wM M n (dN c) (dK c) f (bsX X c) :=
  ⟨T, ⟨A.1, G.1, fun o ho => cdm_bef (z := 0) G A ho (fun x hx => Y o x ho hx)⟩, R⟩
abbrev mtL (d : Nat) (v1 v2 : Int32) (Q : QQ) (M : mx_M) : Prop := mx_W m_X11_laysKeys d 0 [.ref 58, .int 4, .int v1, .int v2, .retAddr 0] [] M (fun o M9 => mx_sh M9 = mx_sh M ∧ mx_R M9 = mx_R M ∧ (o = .inl none ∧ (mx_W m_X11_mattersNow d 0 [.ref 58, .int v1, .retAddr 0, .retAddr 0, .retAddr 0] [] M9 (fun o M10 => mx_sh M10 = mx_sh M9 ∧ mx_R M10 = mx_R M9 ∧ (∃ x11 : Int32, o = .inl (some (.int x11)) ∧ Q (.inl (some (.int x11))) M10)))))
theorem q_mt_t {d o n : Nat} {v : Int32} {f : Nat → Nat} {X : TX} {c : CD} {M : mx_M} {Q : QQ} (T : mx_Tp M) (G : gdC X c) (ho : o < dK c) (A : CDM M X c) (Y : kyM M (dN c) (dK c) (klX X c) (ksX X c)) (R : rowM M 90 n (dN c) f) (e3 : mx_I M 63 4 = mx_b (mtT v (dT c o))) (e4 : mx_I M 64 4 = mx_b (mtJ v (dJ c o))) (e5 : mx_I M 65 4 = (if v = -3 then -1 else mx_I M 65 o))
    (hq : ∀ M1, wM M1 n (dN c) (dK c) f (bsX X c) → lip (fun k j => mZ 4 k j ∨ mQ k j) M M1 → CDM M1 X c → kyM M1 (dN c) (dK c) (klX X c) (ksX X c) → Q (.inl (some (.int (w (mtA X c o v))))) M1) : mtL (d + 5) (w o) v Q M := by
  have g := G.1
  have AR : arM M o 4 (dN c) (dR c o) (dRk c o) (flX X c o) (fgX X c o) (tlX X c o) (tgX X c o) (mtT v (dT c o)) (mtJ v (dJ c o)) (dY c) (dW c) (hlX X c) (hgX X c) := ⟨⟨T, A.1.1⟩, A.2.2.1 o ho, A.2.1, e3, e4⟩
  refine q_laysKeys (d := d + 2) (z := 4) (dr := mtD v) g.1 (by decide) (G.2.2.1 o ho) (fun i hi => ⟨fun z => decide_eq_true z.symm, fun z => (of_decide_eq_true z).symm⟩) AR (fun M1 A1 L1 S1 => ⟨L1.1.1, L1.1.2.1, rfl, ?_⟩)
  have T1 := lip_T L1 T
  have C1 : CDM M1 X c := CDM_lip L1 (fun k j z => by omega) A
  have Y1 : kyM M1 (dN c) (dK c) (klX X c) (ksX X c) := fun o' x ho' hx => slM_Z (N := 0) L1 (by omega) (by omega) (Y o' x ho' hx)
  have R1 : rowM M1 90 n (dN c) f := rowM_of L1 (fun j => by omega) R
  have W1 := wM_cdm T1 G C1 Y1 R1
  have e65 : mx_I M1 65 4 = (if v = -3 then -1 else mx_I M1 65 o) := by rw [(L1.2 65 4 (by omega)).1, (L1.2 65 o (by omega)).1]; exact e5
  have B4 : befM M1 4 (dN c) (b4X X c o v) := by
    refine befM_ord g.1 ?_ S1
    unfold mtV
    by_cases e : v = -3
    · rw [if_pos e] at e65 ⊢
      exact q_tie0 (by decide) g.1 e65 (fun x hx => (C1.2.1 x hx).1)
    · rw [if_neg e] at e65 ⊢
      unfold tvX
      cases h : dI c o
      · rw [if_neg Bool.false_ne_true]
        exact q_tie0 (by decide) g.1 (by rw [e65]; exact (C1.2.2.2.1 o ho).2.2.2.mpr h) (fun x hx => (C1.2.1 x hx).1)
      · rw [if_pos rfl]
        obtain ⟨a, r1, r2, r3⟩ := C1.2.2.2.2 o ho h
        exact q_tie (by decide) g.1 C1.2.1 (by rw [e65]; exact r1) r2 r3 (G.2.2.2 o ho h)
  refine q_mattersNow (d := d) W1 ho B4 (fun M2 W2 L2 => ⟨L2.1.1, L2.1.2.1, _, rfl, hq M2 W2 (lip_trans (lip_mono L1 (fun k j z => Or.inl z)) (lip_mono L2 (fun k j z => Or.inr z))) (CDM_lip L2 (fun k j z => by rcases z with z | z | z | z | z | z <;> omega) C1) (kyM_q L2 Y1)⟩)
theorem b1_not (b : Bool) : 1 - mx_b b = mx_b (!b) := by cases b <;> decide
theorem q_matters {d n : Nat} {v1 v2 : Int32} {X : TX} {c : CD} {f : Nat → Nat} {M : mx_M} {Q : QQ} (W : wM M n (dN c) (dK c) f (bsX X c)) (G : gdC X c) (A : CDM M X c) (Y : kyM M (dN c) (dK c) (klX X c) (ksX X c))
    (h1 : ∀ o, o < dK c → v1 = w o → ¬ v2 < -3 → v2 < w (dR c o) → ∀ M1, wM M1 n (dN c) (dK c) f (bsX X c) → lip mMt (mx_setI M 58 0 0) M1 → CDM M1 X c → kyM M1 (dN c) (dK c) (klX X c) (ksX X c) → Q (.inl (some (.int (w (mtA X c o v2))))) M1)
    (h2 : ¬ (∃ o, o < dK c ∧ v1 = w o ∧ ¬ v2 < -3 ∧ v2 < w (dR c o)) → Q (.inl (some (.int 0))) (mx_setI (mx_setI M 58 0 0) 58 0 1)) : mx_W m_X11_matters (d + 6) 0 [.ref 58, .int v1, .int v2] [] M Q := by
  have g := G.1
  refine x_X11_matters_0 (d := d + 5) W.1 _ _ (fun M1 f1 => ?_)
  subst f1
  have W1 := wM_0 (v := 0) W
  have A1 : CDM (mx_setI M 58 0 0) X c := CDM_lip (P := fun k j => k = 58 ∧ j = 0) (lip_setI ⟨rfl, rfl⟩) (fun k j z => by omega) A
  have Y1 := kyM_0 (v := 0) Y
  have e0 : mx_I (mx_setI M 58 0 0) 58 0 = 0 := I_eq
  refine q_isClerk W1 I_eq (fun y => ⟨rfl, rfl, true, rfl, (fun z => by cases z), fun _ => ?_⟩) (fun y => ⟨rfl, rfl, false, rfl, fun _ => x_X11_matters_42 (tp_e rfl W1.1) (h2 (fun ⟨o, ho, e, _⟩ => y ⟨o, ho, e⟩)), fun z => by cases z⟩)
  obtain ⟨o, ho, ev⟩ := y
  have inj : ∀ o', v1 = w o' → o' < dK c → o' = o := fun o' e h => (w_inj (by omega) (by omega)).mp (e.symm.trans ev)
  rw [ev, w_nat (n := o) (by omega), (A1.2.2.2.1 o ho).1]
  refine ⟨fun z => p_rightF W1.1 e0 (by decide) ⟨rfl, rfl, false, rfl, (fun y => by cases y), fun _ => x_X11_matters_42 (tp_e rfl W1.1) (h2 (fun ⟨_, _, _, nz, _⟩ => nz z))⟩, fun z => ⟨w_in (by omega) (by decide), fun y => p_rightF W1.1 e0 (by decide) ⟨rfl, rfl, false, rfl, (fun y => by cases y), fun _ => x_X11_matters_42 (tp_e rfl W1.1) (h2 (fun ⟨o', ho', e, _, lt⟩ => ?_))⟩, fun y => p_rightT W1.1 e0 ⟨rfl, rfl, true, rfl, fun _ => ?_, fun y => by cases y⟩⟩⟩
  · rw [inj o' e ho'] at lt
    exact absurd lt (Int32.not_lt.mpr y)
  · have y : v2 < w (dR c o) := Int32.not_le.mp y
    have go : ∀ M3, lip m4F (mx_setI M 58 0 0) M3 → mx_I M3 63 4 = mx_b (mtT v2 (dT c o)) → mx_I M3 64 4 = mx_b (mtJ v2 (dJ c o)) → mx_I M3 65 4 = (if v2 = -3 then -1 else mx_I M3 65 o) → mtL (d + 5) (w o) v2 Q M3 := by
      intro M3 L3 e3 e4 e5
      refine q_mt_t (lip_T L3 W1.1) G ho (CDM_4 g.2 L3 A1) (fun o' x ho' hx => slM_of L3 (fun a j z => by omega) (Y1 o' x ho' hx)) (rowM_of L3 (fun j => by omega) W1.2.2) e3 e4 e5 (fun M4 W4 L4 C4 Y4 => h1 o ho ev z y M4 W4 (lip_trans (lip_mono L3 (fun k j z => Or.inl z)) (lip_mono L4 (fun k j z => Or.inr z))) C4 Y4)
    have k3 : mx_I (mx_setI M 58 0 0) 63 o = mx_b (dT c o) := (A1.2.2.2.1 o ho).2.1
    have k4 : mx_I (mx_setI M 58 0 0) 64 o = mx_b (dJ c o) := (A1.2.2.2.1 o ho).2.2.1
    rw [k3]
    refine ⟨fun n1 => ⟨w_in (by omega) (by decide), fun M6 f6 => ⟨fun n2 => ⟨w_in (by omega) (by decide), fun M7 f7 => ⟨fun n3 => ⟨w_in (by omega) (by decide), fun M8 f8 => go M8 ?_ ?_ ?_ ?_⟩, fun n3 M8 f8 => go M8 ?_ ?_ ?_ ?_⟩⟩, fun n2 => ⟨w_in (by omega) (by decide), fun M7 f7 => ⟨fun n3 => ⟨w_in (by omega) (by decide), fun M8 f8 => go M8 ?_ ?_ ?_ ?_⟩, fun n3 M8 f8 => absurd (n2.symm.trans n3) (by decide)⟩⟩⟩⟩, fun n1 => ⟨w_in (by omega) (by decide), fun M6 f6 => ⟨fun n2 => ⟨w_in (by omega) (by decide), fun M7 f7 => ⟨fun n3 => ⟨w_in (by omega) (by decide), fun M8 f8 => go M8 ?_ ?_ ?_ ?_⟩, fun n3 M8 f8 => absurd (n1.symm.trans n3) (by decide)⟩⟩, fun n2 => absurd (n1.symm.trans n2) (by decide)⟩⟩⟩
    all_goals first
      | (rw [f8, f7, f6]; exact lip_trans (lip_trans (lip_setI ⟨Or.inl rfl, rfl⟩) (lip_setI ⟨Or.inr (Or.inl rfl), rfl⟩)) (lip_setI ⟨Or.inr (Or.inr rfl), rfl⟩))
      | skip
    · rw [f8, I_ne (by omega), f7, I_ne (by omega), f6, I_eq]; unfold mtT; rw [if_neg n1]
    · rw [f8, I_ne (by omega), f7, I_eq, f6, I_ne (by omega), k4]; unfold mtJ; rw [if_neg n2]
    · rw [if_neg n3, f8, I_eq, I_ne (by omega)]
    · rw [f8, I_ne (by omega), f7, I_ne (by omega), f6, I_eq]; unfold mtT; rw [if_neg n1]
    · rw [f8, I_ne (by omega), f7, I_eq, f6, I_ne (by omega), k4]; unfold mtJ; rw [if_neg n2]
    · rw [if_pos n3, f8, I_eq]
    · rw [f8, I_ne (by omega), f7, I_ne (by omega), f6, I_eq]; unfold mtT; rw [if_neg n1]
    · rw [f8, I_ne (by omega), f7, I_eq, f6, I_ne (by omega), k4, b1_not]; unfold mtJ; rw [if_pos n2]
    · rw [if_neg n3, f8, I_eq, I_ne (by omega)]
    · rw [f8, I_ne (by omega), f7, I_ne (by omega), f6, I_eq, b1_not]; unfold mtT; rw [if_pos n1]
    · rw [f8, I_ne (by omega), f7, I_eq, f6, I_ne (by omega), k4]; unfold mtJ; rw [if_neg n2]
    · rw [if_neg n3, f8, I_eq, I_ne (by omega)]
