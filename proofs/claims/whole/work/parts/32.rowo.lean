/-! worlds alike but for some places of some cells; the reference's search by halves -/
def lip (P : Nat → Nat → Prop) (M M1 : mx_M) : Prop := (mx_sh M1 = mx_sh M ∧ mx_R M1 = mx_R M ∧ mx_rm M1 = mx_rm M ∧ mx_scr M1 = mx_scr M) ∧ ∀ k j, ¬ P k j → mx_I M1 k j = mx_I M k j ∧ mx_J M1 k j = mx_J M k j
theorem lip_refl (P : Nat → Nat → Prop) (M : mx_M) : lip P M M := ⟨⟨rfl, rfl, rfl, rfl⟩, fun _ _ _ => ⟨rfl, rfl⟩⟩
theorem lip_trans {P : Nat → Nat → Prop} {M M1 M2 : mx_M} (h : lip P M M1) (g : lip P M1 M2) : lip P M M2 := ⟨⟨g.1.1.trans h.1.1, g.1.2.1.trans h.1.2.1, g.1.2.2.1.trans h.1.2.2.1, g.1.2.2.2.trans h.1.2.2.2⟩, fun k j hk => ⟨(g.2 k j hk).1.trans (h.2 k j hk).1, (g.2 k j hk).2.trans (h.2 k j hk).2⟩⟩
theorem lip_mono {P P' : Nat → Nat → Prop} {M M1 : mx_M} (h : lip P M M1) (hp : ∀ k j, P k j → P' k j) : lip P' M M1 := ⟨h.1, fun k j hk => h.2 k j (fun z => hk (hp k j z))⟩
theorem lip_T {P : Nat → Nat → Prop} {M M1 : mx_M} (h : lip P M M1) (T : mx_Tp M) : mx_Tp M1 := tp_of h.1.1 h.1.2.1 T
theorem lip_setI {P : Nat → Nat → Prop} {M : mx_M} {k j : Nat} {v : Int32} (h : P k j) : lip P M (mx_setI M k j v) := ⟨⟨rfl, rfl, rfl, rfl⟩, fun a b hab => ⟨I_ne (fun e => hab (by rw [e.1, e.2]; exact h)), rfl⟩⟩
theorem lip_setJ {P : Nat → Nat → Prop} {M : mx_M} {k j : Nat} {v : Int64} (h : P k j) : lip P M (mx_setJ M k j v) := ⟨⟨rfl, rfl, rfl, rfl⟩, fun a b hab => ⟨rfl, J_ne (fun e => hab (by rw [e.1, e.2]; exact h))⟩⟩
theorem lip_of {P : Nat → Prop} {P' : Nat → Nat → Prop} {M M1 : mx_M} (h : lik P M M1) (hp : ∀ k j, P k → P' k j) : lip P' M M1 := ⟨h.1, fun k j hk => ⟨congrFun (h.2 k (fun z => hk (hp k j z))).1 j, congrFun (h.2 k (fun z => hk (hp k j z))).2 j⟩⟩
theorem lik_of {P : Nat → Nat → Prop} {P' : Nat → Prop} {M M1 : mx_M} (h : lip P M M1) (hp : ∀ k j, P k j → P' k) : lik P' M M1 := ⟨h.1, fun k hk => ⟨funext fun j => (h.2 k j (fun z => hk (hp k j z))).1, funext fun j => (h.2 k j (fun z => hk (hp k j z))).2⟩⟩
/-- where the reference writes while it searches -/
abbrev mLk : Nat → Nat → Prop := fun k j => k = 88 ∨ k = 89 ∨ (k = 58 ∧ j = 57)
theorem lk_rd {M M1 : mx_M} (h : lip mLk M M1) : lik mRd M M1 := lik_of h (fun k j hk g => by rcases hk with rfl | rfl | ⟨rfl, rfl⟩ <;> omega)
theorem sc_lk {M M1 : mx_M} (h : lik mSc M M1) : lip mLk M M1 := lip_of h (fun k j hk => hk.elim (fun e => Or.inl e) (fun e => Or.inr (Or.inl e)))
theorem rowM_lip {P : Nat → Nat → Prop} {M M1 : mx_M} {r n N : Nat} {f : Nat → Nat} (h : lip P M M1) (h1 : ∀ j, ¬ P r j) (R : rowM M r n N f) : rowM M1 r n N f := by
  refine ⟨?_, R.2.1, fun i hi => ?_⟩
  · rw [(h.2 r 0 (h1 0)).1]; exact R.1
  · rw [(h.2 r (i + 1) (h1 (i + 1))).1]; exact R.2.2 i hi
theorem p_mlooksFor_l {d r n N o : Nat} {f : Nat → Nat} {B : Nat → Nat → Bool} {M0 : mx_M} {Q : mx_O → mx_M → Prop} (hr : mx_shp0 r = some (.inr (.int, 11))) (hm : ∀ j, ¬ mLk r j) (A : befM M0 o N B) (c : Nat) (hc : c < N) (z : Nat × Bool)
    (hq : ∀ M1, lip mLk M0 M1 → mx_I M1 58 57 = w z.1 → Q (.inl (some (.int (mx_b z.2)))) M1) :
    ∀ (k l h s : Nat) (M : mx_M), mx_Tp M → lip mLk M0 M → rowM M r n N f → mx_I M 58 57 = w s → h ≤ n → h ≤ l + k → l ≤ n → lkF f B c k l h s = z → mx_W m_X11_looksFor (d + 4 + 1) 15 [.ref 58, .ref r, .int (w o), .int (w c), .int (w l), .int (w h - 1), .retAddr 0] [] M Q
  | 0, l, h, s, M, T, L, R, hs, hh, hl, hn, e9 => by
    have h10 := R.2.1
    rw [lkF_none (by omega)] at e9
    subst e9
    refine x_X11_looksFor_15 T r hr _ _ _ _ ⟨fun _ => hq M L hs, fun g => absurd ?_ g⟩
    rw [w_pred_lt (by omega) (by omega)]
    omega
  | k + 1, l, h, s, M, T, L, R, hs, hh, hl, hn, e9 => by
    have h10 := R.2.1
    refine x_X11_looksFor_15 T r hr _ _ _ _ ⟨fun g => ?_, fun g => ?_⟩
    · rw [w_pred_lt (by omega) (by omega)] at g
      rw [lkF_none g] at e9
      subst e9
      exact hq M L hs
    · rw [w_pred_lt (by omega) (by omega)] at g
      rw [lkF, if_neg g] at e9
      rw [w_mid (by omega) (by omega), w_1add, hs, w_add1]
      have hm1 : l ≤ (l + h - 1) / 2 := by omega
      have hm2 : (l + h - 1) / 2 < h := by omega
      generalize (l + h - 1) / 2 = m at e9 hm1 hm2 ⊢
      intro M1 e1
      have L1 : lip mLk M M1 := by rw [e1]; exact lip_setI (Or.inr (Or.inr ⟨rfl, rfl⟩))
      have hs1 : mx_I M1 58 57 = w (s + 1) := by rw [e1]; exact I_eq
      clear e1
      have T1 := lip_T L1 T
      have R1 := rowM_lip L1 hm R
      have ho := R1.2.2 m (by omega)
      rw [w_nat (by omega), ho.1]
      refine ⟨w_in (by omega) (by omega), fun e => ⟨w_in (by omega) (by omega), ?_⟩, fun e => ?_⟩
      · rw [w_inj (by omega) (by omega)] at e
        rw [if_neg e] at e9
        refine A d M1 c (f m) _ (lk_rd (lip_trans L L1)) T1 hc ho.2 (fun M2 L2 => ⟨L2.1.1, L2.1.2.1, _, rfl, fun y => ?_, fun y => ?_⟩)
        · rw [if_neg (by simp [y])] at e9
          rw [w_add1]
          exact p_mlooksFor_l hr hm A c hc z hq k (m + 1) h (s + 1) M2 (lik_T L2 T1) (lip_trans L (lip_trans L1 (sc_lk L2))) (rowM_lip (sc_lk L2) hm R1) (by rw [(L2.2 58 (by intro y9; rcases y9 with y9 | y9 <;> omega)).1]; exact hs1) hh (by omega) (by omega) e9
        · rw [if_pos y] at e9
          exact p_mlooksFor_l hr hm A c hc z hq k l m (s + 1) M2 (lik_T L2 T1) (lip_trans L (lip_trans L1 (sc_lk L2))) (rowM_lip (sc_lk L2) hm R1) (by rw [(L2.2 58 (by intro y9; rcases y9 with y9 | y9 <;> omega)).1]; exact hs1) (by omega) (by omega) hn e9
      · rw [w_inj (by omega) (by omega)] at e
        rw [if_pos e] at e9
        subst e9
        exact hq M1 (lip_trans L L1) hs1
theorem p_mlooksFor {d r n N o : Nat} {f : Nat → Nat} {B : Nat → Nat → Bool} {M : mx_M} {Q : mx_O → mx_M → Prop} (T : mx_Tp M) (hr : mx_shp0 r = some (.inr (.int, 11))) (hm : ∀ j, ¬ mLk r j) (A : befM M o N B) (R : rowM M r n N f) (c : Nat) (hc : c < N)
    (hq : ∀ M1, lip mLk M M1 → mx_I M1 58 57 = w (lkF f B c 10 0 n 0).1 → Q (.inl (some (.int (mx_b (lkF f B c 10 0 n 0).2)))) M1) : mx_W m_X11_looksFor (d + 4 + 1) 0 [.ref 58, .ref r, .int (w o), .int (w c), .retAddr 0, .retAddr 0, .retAddr 0] [] M Q := by
  have h10 := R.2.1
  refine x_X11_looksFor_0 T r hr _ _ ?_
  intro M1 e1
  have L1 : lip mLk M M1 := by rw [e1]; exact lip_setI (Or.inr (Or.inr ⟨rfl, rfl⟩))
  have hs1 : mx_I M1 58 57 = w 0 := by rw [e1]; exact I_eq
  clear e1
  rw [R.1]
  exact p_mlooksFor_l hr hm A c hc _ hq 10 0 n 0 M1 (lip_T L1 T) L1 (rowM_lip L1 hm R) hs1 (Nat.le_refl _) (by omega) (Nat.zero_le _) rfl
