/-! the parts under the calls that change something -/
theorem ic_K {M M1 : mx_M} {t u : Nat} {X : TX} {c : CD} {n : Nat} {f : Nat → Nat} {A : AQ} {I : IQ} {S Y : NF} {Z : ZQ} (L : lip cK M M1) (W : wC M1 t n (dN c) (dK c) f (bsX X c)) (s : setC M1 (dN c) (dK c) (bsX X c)) (H : IC M t u X c n f A I S Y Z) : IC M1 t u X c n f A I S Y Z := by
  have ht := H.1.2.1.1.1
  have hc : t = 11 ∨ t = 45 := ht
  obtain ⟨_, h1, h2, h3, h4, h5, h6, h7, h8, h9⟩ := H
  exact ⟨W, u_lip L h1, CDC_lip L (fun k j z => by have z : k = 39 ∨ k = 40 ∨ k = 41 ∨ k = 42 := z; omega) h2, kyC_of L (fun k j z => by have z : k = 39 ∨ k = 40 ∨ k = 41 ∨ k = 42 := z; omega) h3, act_lip L (by omega) (fun j => by omega) h4, img_lip L (by omega) (by omega) (by omega) (fun j => by omega) h5, s, sty_lip L (by omega) (fun j => by omega) h7, tpC_lip L (by omega) (fun j => by omega) h8, cnt_lip L (by omega) (by omega) (by omega) h9⟩
theorem ic_S {M M1 : mx_M} {t u : Nat} {X : TX} {c : CD} {n : Nat} {f : Nat → Nat} {A : AQ} {I : IQ} {S S2 Y : NF} {Z : ZQ} (L : lip cS M M1) (W : wC M1 t n (dN c) (dK c) f (bsX X c)) (s : styC M1 S2) (H : IC M t u X c n f A I S Y Z) : IC M1 t u X c n f A I S2 Y Z := by
  have ht := H.1.2.1.1.1
  have hc : t = 11 ∨ t = 45 := ht
  obtain ⟨_, h1, h2, h3, h4, h5, h6, h7, h8, h9⟩ := H
  exact ⟨W, u_lip L h1, CDC_lip L (fun k j z => by have z : k = 43 ∨ k = 44 ∨ (k = 1 ∧ j = 11) := z; omega) h2, kyC_of L (fun k j z => by have z : k = 43 ∨ k = 44 ∨ (k = 1 ∧ j = 11) := z; omega) h3, act_lip L (by omega) (fun j => by omega) h4, img_lip L (by omega) (by omega) (by omega) (fun j => by omega) h5, set_lip L (fun j => by omega) (fun j => by omega) h6, s, tpC_lip L (by omega) (fun j => by omega) h8, cnt_lip L (by omega) (by omega) (by omega) h9⟩
theorem ic_A {M M1 : mx_M} {t u : Nat} {X : TX} {c : CD} {n n2 : Nat} {f f2 : Nat → Nat} {A A2 : AQ} {I : IQ} {S Y : NF} {Z : ZQ} (L : lip cA M M1) (W : wC M1 t n2 (dN c) (dK c) f2 (bsX X c)) (a : actC M1 35 A2.1 (dN c) A2.2.1 A2.2.2) (H : IC M t u X c n f A I S Y Z) : IC M1 t u X c n2 f2 A2 I S Y Z := by
  have ht := H.1.2.1.1.1
  have hc : t = 11 ∨ t = 45 := ht
  obtain ⟨_, h1, h2, h3, h4, h5, h6, h7, h8, h9⟩ := H
  exact ⟨W, u_lip L h1, CDC_lip L (fun k j z => by have z : k = 31 ∨ k = 32 ∨ k = 33 ∨ k = 34 ∨ k = 35 ∨ k = 36 := z; omega) h2, kyC_of L (fun k j z => by have z : k = 31 ∨ k = 32 ∨ k = 33 ∨ k = 34 ∨ k = 35 ∨ k = 36 := z; omega) h3, a, img_lip L (by omega) (by omega) (by omega) (fun j => by omega) h5, set_lip L (fun j => by omega) (fun j => by omega) h6, sty_lip L (by omega) (fun j => by omega) h7, tpC_lip L (by omega) (fun j => by omega) h8, cnt_lip L (by omega) (by omega) (by omega) h9⟩
theorem ic_I {M M1 : mx_M} {t u : Nat} {X : TX} {c : CD} {n : Nat} {f : Nat → Nat} {A : AQ} {I I2 : IQ} {S Y : NF} {Z : ZQ} (L : lip cI M M1) (W : wC M1 t n (dN c) (dK c) f (bsX X c)) (i : imgC M1 (dN c) I2.1 I2.2.1.1 I2.2.1.2 I2.2.2.1 I2.2.2.2.1 I2.2.2.2.2) (H : IC M t u X c n f A I S Y Z) : IC M1 t u X c n f A I2 S Y Z := by
  have ht := H.1.2.1.1.1
  have hc : t = 11 ∨ t = 45 := ht
  obtain ⟨_, h1, h2, h3, h4, h5, h6, h7, h8, h9⟩ := H
  exact ⟨W, u_lip L h1, CDC_lip L (fun k j z => by omega) h2, kyC_of L (fun k j z => by omega) h3, act_lip L (by omega) (fun j => by omega) h4, i, set_lip L (fun j => by omega) (fun j => by omega) h6, sty_lip L (by omega) (fun j => by omega) h7, tpC_lip L (by omega) (fun j => by omega) h8, cnt_lip L (by omega) (by omega) (by omega) h9⟩
theorem ic_rf {M : mx_M} {t u : Nat} {X : TX} {c : CD} {n : Nat} {f : Nat → Nat} {A : AQ} {I : IQ} {S Y : NF} {Z : ZQ} (H : IC M t u X c n f A I S Y Z) : IC (rfC M) t u X c n f A I S Y (Z.1, Z.2.1, Z.2.2 + 1) := by
  have ht := H.1.2.1.1.1
  have hc : t = 11 ∨ t = 45 := ht
  have L : lip (fun k j => k = 1 ∧ j = 16) M (rfC M) := lip_setI ⟨rfl, rfl⟩
  obtain ⟨W, h1, h2, h3, h4, h5, h6, h7, h8, h9⟩ := H
  refine ⟨wC_of L (fun k j z => by omega) W, u_lip L h1, CDC_lip L (fun k j z => by omega) h2, kyC_of L (fun k j z => by omega) h3, act_lip L (by omega) (fun j => by omega) h4, img_lip L (by omega) (by omega) (by omega) (fun j => by omega) h5, set_lip L (fun j => by omega) (fun j => by omega) h6, sty_lip L (by omega) (fun j => by omega) h7, tpC_lip L (by omega) (fun j => by omega) h8, ?_, ?_, ?_⟩
  · rw [(L.2 1 14 (by omega)).1]; exact h9.1
  · rw [(L.2 1 15 (by omega)).1]; exact h9.2.1
  · show mx_I (rfC M) 1 16 = Z.2.2 + 1
    rw [show rfC M = mx_setI M 1 16 (mx_I M 1 16 + 1) from rfl, I_eq, h9.2.2]
theorem ic_D {M M1 : mx_M} {t u : Nat} {X : TX} {c : CD} {n : Nat} {f : Nat → Nat} {A : AQ} {I : IQ} {S Y Y2 : NF} {Z : ZQ} (L : lip cD M M1) (y : tpC M1 Y2.1 Y2.2) (H : IC M t u X c n f A I S Y Z) : IC M1 t u X c n f A I S Y2 Z := by
  have ht := H.1.2.1.1.1
  have hc : t = 11 ∨ t = 45 := ht
  obtain ⟨W, h1, h2, h3, h4, h5, h6, h7, h8, h9⟩ := H
  exact ⟨wC_of L (fun k j z => by omega) W, u_lip L h1, CDC_lip L (fun k j z => by omega) h2, kyC_of L (fun k j z => by omega) h3, act_lip L (by omega) (fun j => by omega) h4, img_lip L (by omega) (by omega) (by omega) (fun j => by omega) h5, set_lip L (fun j => by omega) (fun j => by omega) h6, sty_lip L (by omega) (fun j => by omega) h7, y, cnt_lip L (by omega) (by omega) (by omega) h9⟩
theorem ic_Mt {M M1 : mx_M} {t u : Nat} {X : TX} {c : CD} {n : Nat} {f : Nat → Nat} {A : AQ} {I : IQ} {S Y : NF} {Z : ZQ} (g : dN c ≤ 10 ∧ dK c ≤ 4) (L : lip cMt M M1) (H : IC M t u X c n f A I S Y Z) : IC M1 t u X c n f A I S Y Z := by
  have ht := H.1.2.1.1.1
  have hc : t = 11 ∨ t = 45 := ht
  obtain ⟨W, h1, h2, h3, h4, h5, h6, h7, h8, h9⟩ := H
  have OT : ∀ o, o < dK c → otC M1 o (dN c) (klX X c o) (ksX X c o) (bsX X c o) := fun o ho => otC_lip L g.1 (fun k j z => ⟨fun y => by omega, fun y => by omega⟩) ⟨fun x hx => h3 o x ho hx, W.2.2.2 o ho⟩
  exact ⟨wC_of L (fun k j z => by omega) W, u_lip L h1, CDC_lip L (fun k j z => by omega) h2, fun o x ho hx => (OT o ho).1 x hx, act_lip L (by omega) (fun j => by omega) h4, img_lip L (by omega) (by omega) (by omega) (fun j => by omega) h5, set_lip L (fun j => by omega) (fun j => by omega) h6, sty_lip L (by omega) (fun j => by omega) h7, tpC_lip L (by omega) (fun j => by omega) h8, cnt_lip L (by omega) (by omega) (by omega) h9⟩
theorem im_S {M M1 : mx_M} {X : TX} {c : CD} {n : Nat} {f : Nat → Nat} {A : AQ} {I : IQ} {S S2 Y : NF} {Z : ZQ} (L : lip mS M M1) (s : styM M1 S2) (H : IM M X c n f A I S Y Z) : IM M1 X c n f A I S2 Y Z := by
  obtain ⟨⟨T, R⟩, h1, h2, h3, h4, h5, h6, h7⟩ := H
  exact ⟨⟨lip_T L T, rowM_of L (fun j => by omega) R⟩, CDM_lip L (fun k j z => by omega) h1, fun o x ho hx => slM_of L (fun a j z => by omega) (h2 o x ho hx), actN_lip L (by omega) (fun j => by omega) h3, imgM_lip L (by omega) (by omega) (fun j => by omega) (fun j => by omega) h4, s, tpM_lip L (by omega) (fun j => by omega) h6, cntM_lip L (by omega) (by omega) (by omega) h7⟩
theorem im_A {M M1 : mx_M} {X : TX} {c : CD} {n n2 : Nat} {f f2 : Nat → Nat} {A A2 : AQ} {I : IQ} {S Y : NF} {Z : ZQ} (L : lip mA M M1) (R : rowM M1 90 n2 (dN c) f2) (a : actM M1 A2.1 (dN c) A2.2.1 A2.2.2) (H : IM M X c n f A I S Y Z) : IM M1 X c n2 f2 A2 I S Y Z := by
  obtain ⟨⟨T, _⟩, h1, h2, h3, h4, h5, h6, h7⟩ := H
  exact ⟨⟨lip_T L T, R⟩, CDM_lip L (fun k j z => by omega) h1, fun o x ho hx => slM_of L (fun a j z => by omega) (h2 o x ho hx), a, imgM_lip L (by omega) (by omega) (fun j => by omega) (fun j => by omega) h4, styM_lip L (by omega) (fun j => by omega) h5, tpM_lip L (by omega) (fun j => by omega) h6, cntM_lip L (by omega) (by omega) (by omega) h7⟩
theorem im_u {M M1 : mx_M} {X : TX} {c : CD} {n n2 : Nat} {f f2 : Nat → Nat} {A A2 : AQ} {I : IQ} {S Y : NF} {Z : ZQ} (L : lip undQ M M1) (R : rowM M1 90 n2 (dN c) f2) (a : actM M1 A2.1 (dN c) A2.2.1 A2.2.2) (H : IM M X c n f A I S Y Z) : IM M1 X c n2 f2 A2 I S Y Z := by
  obtain ⟨⟨T, _⟩, h1, h2, h3, h4, h5, h6, h7⟩ := H
  exact ⟨⟨lip_T L T, R⟩, CDM_lip L (fun k j z => by omega) h1, fun o x ho hx => slM_of L (fun a j z => by omega) (h2 o x ho hx), a, imgM_lip L (by omega) (by omega) (fun j => by omega) (fun j => by omega) h4, styM_lip L (by omega) (fun j => by omega) h5, tpM_lip L (by omega) (fun j => by omega) h6, cntM_lip L (by omega) (by omega) (by omega) h7⟩
theorem im_I {M M1 : mx_M} {X : TX} {c : CD} {n : Nat} {f : Nat → Nat} {A : AQ} {I I2 : IQ} {S Y : NF} {Z : ZQ} (L : lip mI M M1) (i : imgM M1 (dN c) I2.1 I2.2.1.1 I2.2.1.2 I2.2.2.1 I2.2.2.2.1 I2.2.2.2.2) (H : IM M X c n f A I S Y Z) : IM M1 X c n f A I2 S Y Z := by
  obtain ⟨⟨T, R⟩, h1, h2, h3, h4, h5, h6, h7⟩ := H
  exact ⟨⟨lip_T L T, rowM_of L (fun j => by omega) R⟩, CDM_lip L (fun k j z => by omega) h1, fun o x ho hx => slM_of L (fun a j z => by omega) (h2 o x ho hx), actN_lip L (by omega) (fun j => by omega) h3, i, styM_lip L (by omega) (fun j => by omega) h5, tpM_lip L (by omega) (fun j => by omega) h6, cntM_lip L (by omega) (by omega) (by omega) h7⟩
theorem im_D {M M1 : mx_M} {X : TX} {c : CD} {n : Nat} {f : Nat → Nat} {A : AQ} {I : IQ} {S Y Y2 : NF} {Z : ZQ} (L : lip mD M M1) (y : tpM M1 Y2.1 Y2.2) (H : IM M X c n f A I S Y Z) : IM M1 X c n f A I S Y2 Z := by
  obtain ⟨⟨T, R⟩, h1, h2, h3, h4, h5, h6, h7⟩ := H
  exact ⟨⟨lip_T L T, rowM_of L (fun j => by omega) R⟩, CDM_lip L (fun k j z => by omega) h1, fun o x ho hx => slM_of L (fun a j z => by omega) (h2 o x ho hx), actN_lip L (by omega) (fun j => by omega) h3, imgM_lip L (by omega) (by omega) (fun j => by omega) (fun j => by omega) h4, styM_lip L (by omega) (fun j => by omega) h5, y, cntM_lip L (by omega) (by omega) (by omega) h7⟩
theorem im_rf {M : mx_M} {X : TX} {c : CD} {n : Nat} {f : Nat → Nat} {A : AQ} {I : IQ} {S Y : NF} {Z : ZQ} (H : IM M X c n f A I S Y Z) : IM (rfM M) X c n f A I S Y (Z.1, Z.2.1, Z.2.2 + 1) := by
  have L : lip (fun k j => k = 71 ∧ j = 1) M (rfM M) := lip_setI ⟨rfl, rfl⟩
  obtain ⟨⟨T, R⟩, h1, h2, h3, h4, h5, h6, h7⟩ := H
  refine ⟨⟨lip_T L T, rowM_of L (fun j => by omega) R⟩, CDM_lip L (fun k j z => by omega) h1, fun o x ho hx => slM_of L (fun a j z => by omega) (h2 o x ho hx), actN_lip L (by omega) (fun j => by omega) h3, imgM_lip L (by omega) (by omega) (fun j => by omega) (fun j => by omega) h4, styM_lip L (by omega) (fun j => by omega) h5, tpM_lip L (by omega) (fun j => by omega) h6, ?_, ?_, ?_⟩
  · rw [(L.2 58 17 (by omega)).1]; exact h7.1
  · rw [(L.2 71 0 (by omega)).1]; exact h7.2.1
  · show mx_I (rfM M) 71 1 = Z.2.2 + 1
    rw [show rfM M = mx_setI M 71 1 (mx_I M 71 1 + 1) from rfl, I_eq, h7.2.2]
theorem im_Mt {M M1 : mx_M} {X : TX} {c : CD} {n : Nat} {f : Nat → Nat} {A : AQ} {I : IQ} {S Y : NF} {Z : ZQ} (L : lip mMt M M1) (a : CDM M1 X c) (b : kyM M1 (dN c) (dK c) (klX X c) (ksX X c)) (H : IM M X c n f A I S Y Z) : IM M1 X c n f A I S Y Z := by
  have g : ∀ k j, ¬ ((k = 63 ∨ k = 64 ∨ k = 65) ∨ (k = 87 ∨ k = 85 ∨ k = 86) ∨ k = 88 ∨ k = 89 ∨ k = 91 ∨ k = 93 ∨ k = 95 ∨ (k = 58 ∧ (j = 57 ∨ j = 59))) → ¬ mMt k j := fun k j h z => h (by
    rcases z with z | z | z
    · exact Or.inl z.1
    · exact Or.inr (Or.inl (by omega))
    · exact Or.inr (Or.inr z))
  obtain ⟨⟨T, R⟩, h1, h2, h3, h4, h5, h6, h7⟩ := H
  exact ⟨⟨lip_T L T, rowM_of L (fun j => g _ _ (by omega)) R⟩, a, b, actN_lip L (g _ _ (by omega)) (fun j => g _ _ (by omega)) h3, imgM_lip L (g _ _ (by omega)) (g _ _ (by omega)) (fun j => g _ _ (by omega)) (fun j => g _ _ (by omega)) h4, styM_lip L (g _ _ (by omega)) (fun j => g _ _ (by omega)) h5, tpM_lip L (g _ _ (by omega)) (fun j => g _ _ (by omega)) h6, cntM_lip L (g _ _ (by omega)) (g _ _ (by omega)) (g _ _ (by omega)) h7⟩
/-- what the class's calls write the reference does not see, and the other way round -/
theorem fM_C {P : Nat → Nat → Prop} (h : ∀ k j, P k j → k < 58 ∨ 98 ≤ k) : farM P := fun k j z => by have := h k j z; omega
theorem f_M {P : Nat → Nat → Prop} (h : ∀ k j, P k j → 58 ≤ k) : far P := fun k j z => Or.inl (h k j z)
theorem kp_dst {A : AQ} {n : Nat} {f : Nat → Nat} (hA : ∀ i, i < A.1 → dst (A.2.1 i) (A.2.2 i)) (D : dst n f) (h40 : A.1 ≤ 40) : ∀ i, i < kpM A.1 → dst (kpF A.1 A.2.1 n i) (kpF A.1 A.2.2 f i) := by
  intro i hi
  unfold kpM at hi
  unfold kpF
  by_cases h : A.1 < 40
  · rw [if_pos h] at hi ⊢
    rw [if_pos h]
    by_cases e : i = A.1
    · rw [if_pos e, if_pos e]; exact D
    · rw [if_neg e, if_neg e]; exact hA i (by omega)
  · rw [if_neg h] at hi ⊢
    rw [if_neg h]
    by_cases e : i = 39
    · rw [if_pos e, if_pos e]; exact D
    · rw [if_neg e, if_neg e]; exact hA (i + 1) (by omega)
