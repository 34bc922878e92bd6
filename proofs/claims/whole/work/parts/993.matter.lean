/-! what one rule matters -/
def mtD (v : Int32) (i : Nat) : Bool := decide (v = w i)
def mtT (v : Int32) (b : Bool) : Bool := if v = -1 then !b else b
def mtJ (v : Int32) (b : Bool) : Bool := if v = -2 then !b else b
def mtV (X : TX) (c : CD) (o : Nat) (v : Int32) : Nat → Int32 := if v = -3 then (fun x => w (dY c x)) else tvX X c o
def keyM (X : TX) (c : CD) (o : Nat) (v : Int32) (x : Nat) : KS := keyR (dR c o) (dRk c o) (flX X c o) (fgX X c o) (tlX X c o) (tgX X c o) (mtD v) (mtT v (dT c o)) (mtJ v (dJ c o)) (dW c) (hlX X c) (hgX X c) x
def b4X (X : TX) (c : CD) (o : Nat) (v : Int32) : Nat → Nat → Bool := ordB (fun x => kcF (keyM X c o v x).1 (keyM X c o v x).2) (mtV X c o v)
def mtA (X : TX) (c : CD) (o : Nat) (v : Int32) : Nat := cpl (fun x y => bsX X c o x y != b4X X c o v x y) 0 (dN c)
theorem mtD_no {v : Int32} (h : v = -1 ∨ v = -2 ∨ v = -3) : ∀ i, i < 8 → (w i = -1 ↔ mtD v i = true) := by
  intro i hi
  have key : ∀ i : Fin 8, ¬ w i.val = -1 ∧ ¬ (-1 : Int32) = w i.val ∧ ¬ (-2 : Int32) = w i.val ∧ ¬ (-3 : Int32) = w i.val := by decide
  have k := key ⟨i, hi⟩
  refine ⟨fun z => absurd z k.1, fun z => ?_⟩
  have z := of_decide_eq_true z
  rcases h with h | h | h <;> rw [h] at z
  · exact absurd z k.2.1
  · exact absurd z k.2.2.1
  · exact absurd z k.2.2.2
abbrev cMt : Nat → Nat → Prop := fun k j => (k = 24 ∧ 6 ≤ j ∧ j ≤ 9) ∨ cZ 4 k j
theorem ah_ord {M : mx_M} {o N : Nat} {B : Nat → Nat → Bool} (A : ordC M o N B) : ahC M o N B := ⟨rnk N B, A.2.1, fun x y hx hy => rnk_iff A.1 hx hy⟩
theorem p_mt_t {d t o : Nat} {v : Int32} {X : TX} {c : CD} {M : mx_M} {Q : QQ} (ht : mx_Cat t) (ht0 : mx_R M 1 10 = t) (G : gdC X c) (ho : o < dK c) (A : CDC M t X c) (O : otC M o (dN c) (klX X c o) (ksX X c o) (bsX X c o)) (AR : arC M t o (dN c) (dR c o) (dRk c o) (fgX X c o) (tgX X c o) (mtD v) (mtT v (dT c o)) (mtJ v (dJ c o)) (dY c) (dW c) (hlX X c) (hgX X c) (mtV X c o v)) (hq : ∀ M1, lip (cZ 4) M M1 → Q (.inl (some (.int (w (mtA X c o v))))) M1) :
    mx_W m_X3_arrange (d + 5) 0 [.ref 24, .ref t, .int (w o), .int 4, .retAddr 0] [] M (fun o4 M4 => mx_sh M4 = mx_sh M ∧ mx_R M4 = mx_R M ∧ (o4 = .inl none ∧ (mx_W m_X10_couplesApart (d + 5) 0 [.ref 1, .int (w o), .int 4, .retAddr 0, .retAddr 0, .retAddr 0] [] M4 (fun o M5 => mx_sh M5 = mx_sh M4 ∧ mx_R M5 = mx_R M4 ∧ (∃ x6 : Int32, o = .inl (some (.int x6)) ∧ Q (.inl (some (.int x6))) M5))))) := by
  have g := G.1
  have hc : t = 11 ∨ t = 45 := ht
  refine p_arrange (d := d) (z := 4) ht g.1 (by decide) (G.2.2.1 o ho) AR (fun M1 A1 L1 S1 O1 => ⟨L1.1.1, L1.1.2.1, rfl, ?_⟩)
  have O2 : otC M1 o (dN c) (klX X c o) (ksX X c o) (bsX X c o) := otC_lip L1 g.1 (fun k j z => ⟨fun y => by omega, fun y => by omega⟩) O
  exact p_couplesApart (d := d + 2) (o := o) (o2 := 4) (lip_T L1 AR.1.1) ht (by rw [L1.1.2.1]; exact ht0) A1.1.2.1 g.1 (ah_ord O2.2) (ah_ord O1) ⟨rfl, rfl, _, rfl, hq M1 L1⟩
theorem p_matters {d t n : Nat} {v1 v2 : Int32} {X : TX} {c : CD} {f : Nat → Nat} {M : mx_M} {Q : QQ} (W : wC M t n (dN c) (dK c) f (bsX X c)) (G : gdC X c) (A : CDC M t X c) (Y : kyC M (dN c) (dK c) (klX X c) (ksX X c)) (hr : rmE M)
    (h1 : ∀ o, o < dK c → v1 = w o → ¬ v2 < -3 → v2 < w (dR c o) → ∀ M1, lip cMt M M1 → Q (.inl (some (.int (w (mtA X c o v2))))) M1)
    (h2 : ¬ (∃ o, o < dK c ∧ v1 = w o ∧ ¬ v2 < -3 ∧ v2 < w (dR c o)) → Q (.inr NSE) (mx_thM M)) : mx_W m_X10_matters (d + 6) 0 [.ref 1, .int v1, .int v2] [] M Q := by
  have g := G.1
  have ht := W.2.1.1.1
  have ht0 := W.2.1.1.2
  have hc : t = 11 ∨ t = 45 := ht
  refine x_X10_matters_0 (d := d + 5) W.1 t ht ht0 _ _ (p_needClerk W.1 ht ht0 A.1.2 (by omega) hr (fun y => ⟨rfl, rfl, Or.inl ⟨rfl, ?_⟩⟩) (fun y => ⟨rfl, rfl, Or.inr ⟨_, rfl, h2 (fun ⟨o, ho, e, _⟩ => y ⟨o, ho, e⟩)⟩⟩))
  obtain ⟨o, ho, ev⟩ := y
  have k5 := (A.2.2.2.1 o ho).1
  rw [ev, w_nat (n := o) (by omega), k5]
  have inj : ∀ o', v1 = w o' → o' < dK c → o' = o := fun o' e h => (w_inj (by omega) (by omega)).mp (e.symm.trans ev)
  refine ⟨fun z => ⟨hr.1, hr.2, h2 (fun ⟨_, _, _, nz, _⟩ => nz z)⟩, fun z => ⟨w_in (by omega) (by decide), fun y => ?_, fun y => ⟨hr.1, hr.2, h2 (fun ⟨o', ho', e, _, lt⟩ => y (by rw [← inj o' e ho']; exact lt))⟩⟩⟩
  refine p_learn W.1 ht G A ho (fun M1 L1 k6 k7 k8 k9 => ⟨L1.1.1, L1.1.2.1, rfl, ?_⟩)
  have hP : ∀ k j, (k = 24 ∧ 6 ≤ j ∧ j ≤ 9) → ¬ (t ≤ k ∧ k ≤ t + 12) := fun k j z => by omega
  have O0 : otC M o (dN c) (klX X c o) (ksX X c o) (bsX X c o) := ⟨fun x hx => Y o x ho hx, W.2.2.2 o ho⟩
  have go : ∀ M3, lip (fun k j => k = 24 ∧ 6 ≤ j ∧ j ≤ 9) M1 M3 → (∀ i, i < 8 → (w i = mx_I M3 24 6 ↔ mtD v2 i = true)) → mx_I M3 24 7 = mx_b (mtT v2 (dT c o)) → mx_I M3 24 8 = mx_b (mtJ v2 (dJ c o)) → mx_I M3 24 9 = (if v2 = -3 then 0 else mx_b (dI c o)) → mx_W m_X3_arrange (d + 5) 0 [.ref 24, .ref t, .int (w o), .int 4, .retAddr 0] [] M3 (fun o4 M4 => mx_sh M4 = mx_sh M3 ∧ mx_R M4 = mx_R M3 ∧ (o4 = .inl none ∧ (mx_W m_X10_couplesApart (d + 5) 0 [.ref 1, .int (w o), .int 4, .retAddr 0, .retAddr 0, .retAddr 0] [] M4 (fun o M5 => mx_sh M5 = mx_sh M4 ∧ mx_R M5 = mx_R M4 ∧ (∃ x6 : Int32, o = .inl (some (.int x6)) ∧ Q (.inl (some (.int x6))) M5))))) := by
    intro M3 L3 hd h7 h8 h9
    have L13 := lip_trans L1 L3
    have A3 : CDC M3 t X c := CDC_lip L13 hP A
    refine p_mt_t ht (by rw [L13.1.2.1]; exact ht0) G ho A3 (otC_lip L13 g.1 (fun k j z => ⟨fun y => by omega, fun y => by omega⟩) O0) (arC_of (lip_T L13 W.1) A3 ho hd h7 h8 ?_) (fun M4 L4 => h1 o ho ev z y M4 (lip_trans (lip_mono L13 (fun k j z => Or.inl z)) (lip_mono L4 (fun k j z => Or.inr z))))
    rw [h9]
    unfold mtV
    by_cases e : v2 = -3
    · rw [if_pos e, if_pos e]; exact Or.inl ⟨rfl, fun x _ => rfl⟩
    · rw [if_neg e, if_neg e]
      unfold tvX
      cases h : dI c o
      · exact Or.inl ⟨rfl, fun x _ => rfl⟩
      · exact Or.inr ⟨by decide, rfl, fun x _ => rfl⟩
  refine ⟨fun e => fun M3 f3 => ?_, fun e => ?_, fun e => ?_, fun n3 n2 n1 M3 f3 => ?_⟩
  · have L3 : lip (fun k j => k = 24 ∧ 6 ≤ j ∧ j ≤ 9) M1 M3 := by rw [f3]; exact lip_setI ⟨rfl, by decide, by decide⟩
    refine go M3 L3 ?_ ?_ ?_ ?_
    · rw [f3, I_ne (by omega), k6]; exact mtD_no (Or.inr (Or.inr e))
    · rw [f3, I_ne (by omega), k7]; unfold mtT; rw [e, if_neg (by decide)]
    · rw [f3, I_ne (by omega), k8]; unfold mtJ; rw [e, if_neg (by decide)]
    · rw [f3, I_eq, if_pos e]
  · rw [k8]
    have mj : mtJ v2 (dJ c o) = !dJ c o := by unfold mtJ; rw [if_pos e]
    have mt : mtT v2 (dT c o) = dT c o := by unfold mtT; rw [e, if_neg (by decide)]
    refine ⟨fun nz M3 f3 => ?_, fun nz M3 f3 => ?_⟩
    · have L3 : lip (fun k j => k = 24 ∧ 6 ≤ j ∧ j ≤ 9) M1 M3 := by rw [f3]; exact lip_setI ⟨rfl, by decide, by decide⟩
      have hj : dJ c o = true := by
        cases h : dJ c o
        · rw [h] at nz; exact absurd rfl nz
        · rfl
      refine go M3 L3 ?_ ?_ ?_ ?_
      · rw [f3, I_ne (by omega), k6]; exact mtD_no (Or.inr (Or.inl e))
      · rw [f3, I_ne (by omega), k7, mt]
      · rw [f3, I_eq, mj, hj]; rfl
      · rw [f3, I_ne (by omega), k9, e, if_neg (by decide)]
    · have L3 : lip (fun k j => k = 24 ∧ 6 ≤ j ∧ j ≤ 9) M1 M3 := by rw [f3]; exact lip_setI ⟨rfl, by decide, by decide⟩
      have hj : dJ c o = false := by
        cases h : dJ c o
        · rfl
        · rw [h] at nz; exact absurd nz (by decide)
      refine go M3 L3 ?_ ?_ ?_ ?_
      · rw [f3, I_ne (by omega), k6]; exact mtD_no (Or.inr (Or.inl e))
      · rw [f3, I_ne (by omega), k7, mt]
      · rw [f3, I_eq, mj, hj]; rfl
      · rw [f3, I_ne (by omega), k9, e, if_neg (by decide)]
  · rw [k7]
    have mj : mtJ v2 (dJ c o) = dJ c o := by unfold mtJ; rw [e, if_neg (by decide)]
    have mt : mtT v2 (dT c o) = !dT c o := by unfold mtT; rw [if_pos e]
    refine ⟨fun nz M3 f3 => ?_, fun nz M3 f3 => ?_⟩
    · have L3 : lip (fun k j => k = 24 ∧ 6 ≤ j ∧ j ≤ 9) M1 M3 := by rw [f3]; exact lip_setI ⟨rfl, by decide, by decide⟩
      have hj : dT c o = true := by
        cases h : dT c o
        · rw [h] at nz; exact absurd rfl nz
        · rfl
      refine go M3 L3 ?_ ?_ ?_ ?_
      · rw [f3, I_ne (by omega), k6]; exact mtD_no (Or.inl e)
      · rw [f3, I_eq, mt, hj]; rfl
      · rw [f3, I_ne (by omega), k8, mj]
      · rw [f3, I_ne (by omega), k9, e, if_neg (by decide)]
    · have L3 : lip (fun k j => k = 24 ∧ 6 ≤ j ∧ j ≤ 9) M1 M3 := by rw [f3]; exact lip_setI ⟨rfl, by decide, by decide⟩
      have hj : dT c o = false := by
        cases h : dT c o
        · rfl
        · rw [h] at nz; exact absurd nz (by decide)
      refine go M3 L3 ?_ ?_ ?_ ?_
      · rw [f3, I_ne (by omega), k6]; exact mtD_no (Or.inl e)
      · rw [f3, I_eq, mt, hj]; rfl
      · rw [f3, I_ne (by omega), k8, mj]
      · rw [f3, I_ne (by omega), k9, e, if_neg (by decide)]
  · have L3 : lip (fun k j => k = 24 ∧ 6 ≤ j ∧ j ≤ 9) M1 M3 := by rw [f3]; exact lip_setI ⟨rfl, by decide, by decide⟩
    refine go M3 L3 (fun i hi => ?_) ?_ ?_ ?_
    · rw [f3, I_eq]; exact ⟨fun z => decide_eq_true z.symm, fun z => (of_decide_eq_true z).symm⟩
    · rw [f3, I_ne (by omega), k7]; unfold mtT; rw [if_neg n1]
    · rw [f3, I_ne (by omega), k8]; unfold mtJ; rw [if_neg n2]
    · rw [f3, I_ne (by omega), k9, if_neg n3]
