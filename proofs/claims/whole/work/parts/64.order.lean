/-! an order by keys, ties and numbers; the class ranks by it -/
/-- the first m of p as one number -/
def cdN (p : Nat → Nat) : Nat → Nat
  | 0 => 0
  | m + 1 => cdN p m * 33 + p m
theorem cdN_eq {p q : Nat → Nat} : ∀ (m : Nat), (∀ i, i < m → p i = q i) → cdN p m = cdN q m
  | 0, _ => rfl
  | m + 1, h => by rw [cdN, cdN, cdN_eq m (fun i hi => h i (by omega)), h m (by omega)]
theorem cdN_lt {p q : Nat → Nat} {a : Nat} (he : ∀ i, i < a → p i = q i) (hl : p a < q a) (hp : ∀ i, p i < 33) : ∀ (k : Nat), cdN p (a + 1 + k) < cdN q (a + 1 + k)
  | 0 => by
    rw [Nat.add_zero, cdN, cdN, cdN_eq a he]; omega
  | k + 1 => by
    have ih := cdN_lt he hl hp k
    have h := hp (a + 1 + k)
    rw [← Nat.add_assoc, cdN, cdN]
    have : (cdN p (a + 1 + k) + 1) * 33 ≤ cdN q (a + 1 + k) * 33 := Nat.mul_le_mul_right 33 ih
    omega
/-- a sign of a key, 0 behind its end -/
def pdF (l : Nat) (k : Nat → Nat) (i : Nat) : Nat := if i < l then k i + 1 else 0
def kcF (l : Nat) (k : Nat → Nat) : Nat := cdN (pdF l k) 35
theorem ck_code {l l2 : Nat} {k k2 : Nat → Nat} (h1 : l ≤ 35) (h2 : l2 ≤ 35) (hk : ∀ i, i < l → k i < 32) (hk2 : ∀ i, i < l2 → k2 i < 32) : (ckF l k l2 k2 = 0 ↔ kcF l k = kcF l2 k2) ∧ (ckF l k l2 k2 ≤ 0 ↔ kcF l k ≤ kcF l2 k2) := by
  have hm := mn_le l l2
  have ha := alk_le l k l2 k2
  have p1 : ∀ i, pdF l k i < 33 := fun i => by
    unfold pdF
    split
    · have := hk i (by assumption)
      omega
    · omega
  have p2 : ∀ i, pdF l2 k2 i < 33 := fun i => by
    unfold pdF
    split
    · have := hk2 i (by assumption)
      omega
    · omega
  have pe : ∀ i, i < alk l k l2 k2 → pdF l k i = pdF l2 k2 i := fun i hi => by
    unfold pdF
    rw [if_pos (by omega), if_pos (by omega), alk_eq hi]
  have lt1 : pdF l k (alk l k l2 k2) < pdF l2 k2 (alk l k l2 k2) → alk l k l2 k2 < 35 → kcF l k < kcF l2 k2 := fun h h9 => by
    have := cdN_lt pe h p1 (35 - (alk l k l2 k2 + 1))
    rw [show alk l k l2 k2 + 1 + (35 - (alk l k l2 k2 + 1)) = 35 by omega] at this
    exact this
  have lt2 : pdF l2 k2 (alk l k l2 k2) < pdF l k (alk l k l2 k2) → alk l k l2 k2 < 35 → kcF l2 k2 < kcF l k := fun h h9 => by
    have := cdN_lt (fun i hi => (pe i hi).symm) h p2 (35 - (alk l k l2 k2 + 1))
    rw [show alk l k l2 k2 + 1 + (35 - (alk l k l2 k2 + 1)) = 35 by omega] at this
    exact this
  unfold ckF
  by_cases g : alk l k l2 k2 < mn l l2
  · have ne := alk_ne g
    have e1 : pdF l k (alk l k l2 k2) = k (alk l k l2 k2) + 1 := if_pos (by omega)
    have e2 : pdF l2 k2 (alk l k l2 k2) = k2 (alk l k l2 k2) + 1 := if_pos (by omega)
    rw [if_pos g, icm_0, icm_le]
    rw [e1, e2] at lt1 lt2
    rcases Nat.lt_trichotomy (k (alk l k l2 k2)) (k2 (alk l k l2 k2)) with q | q | q
    · have := lt1 (by omega) (by omega); omega
    · omega
    · have := lt2 (by omega) (by omega); omega
  · rw [if_neg g, icm_0, icm_le]
    rcases Nat.lt_trichotomy l l2 with q | q | q
    · have ea : alk l k l2 k2 = l := by omega
      have e1 : pdF l k (alk l k l2 k2) = 0 := if_neg (by omega)
      have e2 : pdF l2 k2 (alk l k l2 k2) = k2 (alk l k l2 k2) + 1 := if_pos (by omega)
      rw [e1, e2] at lt1
      have := lt1 (by omega) (by omega); omega
    · have : kcF l k = kcF l2 k2 := by
        refine cdN_eq 35 (fun i _ => ?_)
        by_cases h : i < l
        · exact pe i (by omega)
        · unfold pdF; rw [if_neg h, if_neg (by omega)]
      omega
    · have ea : alk l k l2 k2 = l2 := by omega
      have e2 : pdF l2 k2 (alk l k l2 k2) = 0 := if_neg (by omega)
      have e1 : pdF l k (alk l k l2 k2) = k (alk l k l2 k2) + 1 := if_pos (by omega)
      rw [e1, e2] at lt2
      have := lt2 (by omega) (by omega); omega
/-- before: by the key's number, then by the tie, then by the card's -/
def ordB (cx : Nat → Nat) (tv : Nat → Int32) (x y : Nat) : Bool := decide (cx x < cx y ∨ (cx x = cx y ∧ ((tv x).toInt < (tv y).toInt ∨ ((tv x).toInt = (tv y).toInt ∧ x < y))))
theorem ordB_sto (N : Nat) (cx : Nat → Nat) (tv : Nat → Int32) : sto N (ordB cx tv) := by
  unfold ordB
  refine ⟨fun x _ => decide_eq_false (by omega), fun x y z _ _ _ h1 h2 => ?_, fun x y _ _ h => ?_⟩
  · have h1 := of_decide_eq_true h1
    have h2 := of_decide_eq_true h2
    exact decide_eq_true (by omega)
  · have : (cx x < cx y ∨ (cx x = cx y ∧ ((tv x).toInt < (tv y).toInt ∨ ((tv x).toInt = (tv y).toInt ∧ x < y)))) ∨ (cx y < cx x ∨ (cx y = cx x ∧ ((tv y).toInt < (tv x).toInt ∨ ((tv y).toInt = (tv x).toInt ∧ y < x)))) := by omega
    exact this.imp decide_eq_true decide_eq_true
/-- how the class finds ties -/
def tiC (M : mx_M) (t o N : Nat) (tv : Nat → Int32) : Prop := (mx_I M 24 9 = 0 ∧ ∀ x, x < N → mx_I M (t + 1) x = tv x) ∨ (¬ mx_I M 24 9 = 0 ∧ ∀ x, x < N → mx_I M (t + 12) (10 * o + x) = tv x)
theorem p_tieOf {d t o N x : Nat} {tv : Nat → Int32} {M : mx_M} {Q : QQ} (T : mx_Tp M) (ht : mx_Cat t) (C : tiC M t o N tv) (ho : o < 4) (hN : N ≤ 10) (hx : x < N) (hq : Q (.inl (some (.int (tv x)))) M) : mx_W m_X3_tieOf d 0 [.ref 24, .ref t, .int (w o), .int (w x)] [] M Q := by
  refine x_X3_tieOf_0 T t ht _ _ ?_
  rw [w_x10, w_nat (n := x) (by omega), w_nat (n := 10 * o + x) (by omega)]
  rcases C with ⟨a, b⟩ | ⟨a, b⟩
  · exact ⟨fun _ => ⟨w_in (by omega) (by omega), by rw [b x hx]; exact hq⟩, fun z => absurd a z⟩
  · exact ⟨fun z => absurd z a, fun _ => ⟨w_in (by omega) (by omega), by rw [b x hx]; exact hq⟩⟩
theorem p_goes {d t o z N x y : Nat} {tv : Nat → Int32} {kl : Nat → Nat} {ks : Nat → Nat → Nat} {M : mx_M} {Q : QQ} (T : mx_Tp M) (ht : mx_Cat t) (C : tiC M t o N tv) (ho : o < 4) (hN : N ≤ 10) (Ky : ∀ x, x < N → slC M (10 * z + x) (kl x) (ks x)) (hxy : x < y) (hy : y < N)
    (hq : Q (.inl (some (.int (mx_b (ordB (fun x => kcF (kl x) (ks x)) tv x y))))) M) : mx_W m_X3_goesAhead (d + 1 + 1 + 1) 0 [.ref 24, .ref t, .int (w o), .int (w (10 * z)), .int (w x), .int (w y), .retAddr 0] [] M Q := by
  have A := Ky x (by omega)
  have A2 := Ky y hy
  have cc := ck_code A.2.1 A2.2.1 (fun i hi => (A.2.2.2 i hi).2) (fun i hi => (A2.2.2.2 i hi).2)
  unfold ordB at hq
  dsimp only at hq
  refine x_X3_goesAhead_0 T t ht _ _ _ _ ?_
  rw [w_add, w_add]
  refine p_compared T A A2 ⟨rfl, rfl, _, rfl, fun g => ⟨fun g2 => ?_, fun g2 => ?_⟩, fun g => p_tieOf T ht C ho hN (by omega) ⟨rfl, rfl, _, rfl, p_tieOf T ht C ho hN hy ⟨rfl, rfl, _, rfl, x_J6_compare_7cf53_0 T _ _ ⟨fun q => ⟨fun q2 => ⟨rfl, rfl, _, rfl, fun _ => ?_, fun z => absurd (by decide) z⟩, fun q2 => ⟨rfl, rfl, _, rfl, fun z => absurd z (by decide), fun _ => ?_⟩⟩, fun q => ⟨rfl, rfl, _, rfl, fun z => absurd z (by decide), fun _ => ?_⟩⟩⟩⟩⟩
  · have h1 : ¬ ckF (kl x) (ks x) (kl y) (ks y) ≤ 0 := Int32.not_le.mpr g2
    rw [cc.2] at h1
    rw [decide_eq_false (by omega)] at hq; exact hq
  · have h1 : ckF (kl x) (ks x) (kl y) (ks y) ≤ 0 := Int32.not_lt.mp g2
    rw [cc.2] at h1
    rw [cc.1] at g
    rw [decide_eq_true (by omega)] at hq; exact hq
  · rw [cc.1] at g
    have q3 : ¬ tv x = tv y := q2
    rw [← Int32.toInt_inj] at q3
    rw [Int32.le_iff_toInt_le] at q
    rw [decide_eq_false (by omega)] at hq; exact hq
  · rw [cc.1] at g
    rw [q2, decide_eq_true (by omega)] at hq; exact hq
  · rw [cc.1] at g
    rw [Int32.le_iff_toInt_le] at q
    rw [decide_eq_true (by omega)] at hq; exact hq
/-! all ranks of an order -/
abbrev cR : Nat → Nat → Prop := fun k _ => k = 27 ∨ k = 28
/-- the couple of y and x has been compared -/
def prP (i j y x : Nat) : Bool := decide ((y < i ∨ x < i) ∨ (y = i ∧ x < j) ∨ (x = i ∧ y < j))
/-- what the ranks are so far -/
def rkS (N : Nat) (B : Nat → Nat → Bool) (i j x : Nat) : Nat := cnt (fun y => B y x && prP i j y x) 0 N
theorem rkS_le (N : Nat) (B : Nat → Nat → Bool) (i j x : Nat) : rkS N B i j x ≤ N := cnt_le _ _ _
theorem rkS_add {N i j x z : Nat} {B : Nat → Nat → Bool} (hz : z < N) (h1 : B z x = true) (h2 : prP i (j + 1) z x = true) (h3 : ∀ y, y < N → (B y x && prP i j y x) = ((B y x && prP i (j + 1) y x) && !decide (y = z))) : rkS N B i (j + 1) x = rkS N B i j x + 1 := by
  have a := cnt_rm (p := fun y => B y x && prP i (j + 1) y x) (z := z) (by rw [h1, h2]; rfl) N
  rw [if_pos hz] at a
  unfold rkS
  rw [← a, cnt_congr (p := fun y => B y x && prP i j y x) (q := fun y => (B y x && prP i (j + 1) y x) && !decide (y = z)) 0 N (fun y _ hy => h3 y (by omega))]
theorem rkS_same {N i j x : Nat} {B : Nat → Nat → Bool} {i2 j2 : Nat} (h : ∀ y, y < N → B y x = true → prP i j y x = prP i2 j2 y x) : rkS N B i j x = rkS N B i2 j2 x := by
  unfold rkS
  refine cnt_congr 0 N (fun y _ hy => ?_)
  cases e : B y x
  · rfl
  · rw [h y (by omega) e]
theorem rkS_step {N i j x : Nat} {B : Nat → Nat → Bool} (S : sto N B) (hij : i < j) (hj : j < N) (hx : x < N) : rkS N B i (j + 1) x = if x = (if B i j then j else i) then rkS N B i j x + 1 else rkS N B i j x := by
  by_cases hb : B i j = true
  · have hb2 := sto_not S (by omega) hj hb
    rw [if_pos hb]
    by_cases e : x = j
    · rw [if_pos e, e]
      refine rkS_add (z := i) (by omega) hb (by unfold prP; exact decide_eq_true (by omega)) (fun y hy => ?_)
      by_cases q : y = i
      · rw [q, decide_eq_true rfl, Bool.not_true, Bool.and_false]
        have : prP i j i j = false := by unfold prP; exact decide_eq_false (by omega)
        rw [this, Bool.and_false]
      · rw [decide_eq_false q, Bool.not_false, Bool.and_true]
        have : prP i j y j = prP i (j + 1) y j := by
          unfold prP
          by_cases r : ((y < i ∨ j < i) ∨ (y = i ∧ j < j) ∨ (j = i ∧ y < j))
          · rw [decide_eq_true r, decide_eq_true (by omega)]
          · rw [decide_eq_false r, decide_eq_false (by omega)]
        rw [this]
    · rw [if_neg e]
      refine (rkS_same (fun y hy hB => ?_)).symm
      unfold prP
      by_cases r : ((y < i ∨ x < i) ∨ (y = i ∧ x < j) ∨ (x = i ∧ y < j))
      · rw [decide_eq_true r, decide_eq_true (by omega)]
      · rw [decide_eq_false r]
        refine (decide_eq_false (fun q => ?_)).symm
        have : x = i ∧ y = j := by omega
        rw [this.1, this.2, hb2] at hB; cases hB
  · have hb1 : B i j = false := Bool.eq_false_iff.mpr hb
    have hb2 : B j i = true := by
      rcases S.2.2 i j (by omega) hj (by omega) with h | h
      · exact absurd h hb
      · exact h
    rw [if_neg hb]
    by_cases e : x = i
    · rw [if_pos e, e]
      refine rkS_add (z := j) hj hb2 (by unfold prP; exact decide_eq_true (by omega)) (fun y hy => ?_)
      by_cases q : y = j
      · rw [q, decide_eq_true rfl, Bool.not_true, Bool.and_false]
        have : prP i j j i = false := by unfold prP; exact decide_eq_false (by omega)
        rw [this, Bool.and_false]
      · rw [decide_eq_false q, Bool.not_false, Bool.and_true]
        by_cases q2 : y = i
        · rw [q2, S.1 i (by omega), Bool.false_and, Bool.false_and]
        · have : prP i j y i = prP i (j + 1) y i := by
            unfold prP
            by_cases r : ((y < i ∨ i < i) ∨ (y = i ∧ i < j) ∨ (i = i ∧ y < j))
            · rw [decide_eq_true r, decide_eq_true (by omega)]
            · rw [decide_eq_false r, decide_eq_false (by omega)]
          rw [this]
    · rw [if_neg e]
      refine (rkS_same (fun y hy hB => ?_)).symm
      unfold prP
      by_cases r : ((y < i ∨ x < i) ∨ (y = i ∧ x < j) ∨ (x = i ∧ y < j))
      · rw [decide_eq_true r, decide_eq_true (by omega)]
      · rw [decide_eq_false r]
        refine (decide_eq_false (fun q => ?_)).symm
        have : y = i ∧ x = j := by omega
        rw [this.1, this.2, hb1] at hB; cases hB
theorem rkS_turn {N i x : Nat} {B : Nat → Nat → Bool} (S : sto N B) (hx : x < N) : rkS N B i N x = rkS N B (i + 1) (i + 2) x := by
  refine rkS_same (fun y hy hB => ?_)
  have hne : ¬ y = x := fun e => by rw [e, S.1 x hx] at hB; cases hB
  unfold prP
  by_cases r : ((y < i ∨ x < i) ∨ (y = i ∧ x < N) ∨ (x = i ∧ y < N))
  · rw [decide_eq_true r, decide_eq_true (by omega)]
  · rw [decide_eq_false r, decide_eq_false (by omega)]
theorem rkS_0 {N x : Nat} {B : Nat → Nat → Bool} (S : sto N B) (hx : x < N) : rkS N B 0 1 x = 0 := by
  unfold rkS
  refine (cnt_congr 0 N (fun y _ hy => ?_)).trans (cnt_none N 0)
  cases e : B y x
  · rfl
  · have hne : ¬ y = x := fun e2 => by rw [e2, S.1 x hx] at e; cases e
    unfold prP
    rw [decide_eq_false (by omega)]; rfl
theorem rkS_end {N i j x : Nat} {B : Nat → Nat → Bool} (hi : N ≤ i) : rkS N B i j x = rnk N B x := by
  unfold rkS rnk
  refine cnt_congr 0 N (fun y _ hy => ?_)
  unfold prP
  rw [decide_eq_true (by omega), Bool.and_true]
/-- what is read while ranks are made -/
def rdC (M : mx_M) (t o z N : Nat) (tv : Nat → Int32) (kl : Nat → Nat) (ks : Nat → Nat → Nat) : Prop := mx_Tp M ∧ mx_I M t 12 = w N ∧ tiC M t o N tv ∧ ∀ x, x < N → slC M (10 * z + x) (kl x) (ks x)
theorem rdC_lip {P : Nat → Nat → Prop} {M M1 : mx_M} {t o z N : Nat} {tv : Nat → Int32} {kl : Nat → Nat} {ks : Nat → Nat → Nat} (ht : mx_Cat t) (L : lip P M M1) (hP : ∀ k j, P k j → k = 27 ∨ k = 28) (R : rdC M t o z N tv kl ks) : rdC M1 t o z N tv kl ks := by
  obtain ⟨T, e, C, Ky⟩ := R
  have f : ∀ k j, ¬ k = 27 → ¬ k = 28 → mx_I M1 k j = mx_I M k j := fun k j h1 h2 => (L.2 k j (fun z => by have := hP _ _ z; omega)).1
  have h11 : t = 11 ∨ t = 45 := ht
  refine ⟨lip_T L T, by rw [f t 12 (by omega) (by omega)]; exact e, ?_, fun x hx => ?_⟩
  · rcases C with ⟨a, b⟩ | ⟨a, b⟩
    · exact Or.inl ⟨by rw [f 24 9 (by decide) (by decide)]; exact a, fun x hx => by rw [f (t + 1) x (by omega) (by omega)]; exact b x hx⟩
    · exact Or.inr ⟨by rw [f 24 9 (by decide) (by decide)]; exact a, fun x hx => by rw [f (t + 12) _ (by omega) (by omega)]; exact b x hx⟩
  · have a := Ky x hx
    exact ⟨a.1, a.2.1, by rw [f 26 _ (by decide) (by decide)]; exact a.2.2.1, fun i hi => by rw [f 25 _ (by decide) (by decide)]; exact a.2.2.2 i hi⟩
/-- what rankAll may write -/
abbrev cO (z : Nat) : Nat → Nat → Prop := fun k j => (k = 27 ∨ k = 28) ∧ 10 * z ≤ j ∧ j < 10 * z + 10
theorem p_rk_a {d t o z N : Nat} {tv : Nat → Int32} {kl : Nat → Nat} {ks : Nat → Nat → Nat} {M0 : mx_M} {Q : QQ} (ht : mx_Cat t) (hN : N ≤ 10) (hz : z < 5)
    (X : ∀ M1, rdC M1 t o z N tv kl ks → lip (cO z) M0 M1 → (∀ x, x < N → mx_I M1 27 (10 * z + x) = 0) → mx_W m_X3_rankAll (d + 1) 31 [.ref 24, .ref t, .int (w o), .int (w (10 * z)), .int 0, .retAddr 0, .retAddr 0] [] M1 Q) :
    ∀ (k i : Nat) (M : mx_M), i + k = N → rdC M t o z N tv kl ks → lip (cO z) M0 M → (∀ x, x < i → mx_I M 27 (10 * z + x) = 0) → mx_W m_X3_rankAll (d + 1) 3 [.ref 24, .ref t, .int (w o), .int (w (10 * z)), .int (w i), .retAddr 0, .retAddr 0] [] M Q
  | 0, i, M, hi, R, L, c1 => by
    refine x_X3_rankAll_3 R.1 t ht _ _ _ ⟨fun _ => X M R L (fun x hx => c1 x (by omega)), fun h => absurd ?_ h⟩
    rw [R.2.1, w_le (by omega) (by omega)]; omega
  | k + 1, i, M, hi, R, L, c1 => by
    refine x_X3_rankAll_3 R.1 t ht _ _ _ ⟨fun h => ?_, fun _ => ?_⟩
    · rw [R.2.1, w_le (by omega) (by omega)] at h; omega
    · rw [w_add]
      refine ⟨w_in (by omega) (by omega), fun M1 e1 => ?_⟩
      rw [w_nat (by omega)] at e1
      have L1 : lip (cO z) M M1 := by rw [e1]; exact lip_setI ⟨Or.inl rfl, by omega, by omega⟩
      rw [w_add1]
      refine p_rk_a ht hN hz X k (i + 1) M1 (by omega) (rdC_lip ht L1 (fun k j h => h.1) R) (lip_trans L L1) (fun x hx => ?_)
      rw [e1]
      by_cases e : x = i
      · rw [e]; exact I_eq
      · rw [I_ne (by omega)]; exact c1 x (by omega)
theorem p_rk_i {d t o z N i : Nat} {tv : Nat → Int32} {kl : Nat → Nat} {ks : Nat → Nat → Nat} {M0 : mx_M} {Q : QQ} (ht : mx_Cat t) (hN : N ≤ 10) (hz : z < 5) (ho : o < 4) (hi : i < N)
    (X : ∀ M1, rdC M1 t o z N tv kl ks → lip (cO z) M0 M1 → (∀ x, x < N → mx_I M1 27 (10 * z + x) = w (rkS N (ordB (fun x => kcF (kl x) (ks x)) tv) i N x)) → mx_W m_X3_rankAll (d + 1 + 1 + 1 + 1) 31 [.ref 24, .ref t, .int (w o), .int (w (10 * z)), .int (w (i + 1)), .retAddr 0, .retAddr 0] [] M1 Q) :
    ∀ (k j : Nat) (M : mx_M), j + k = N → i < j → rdC M t o z N tv kl ks → lip (cO z) M0 M → (∀ x, x < N → mx_I M 27 (10 * z + x) = w (rkS N (ordB (fun x => kcF (kl x) (ks x)) tv) i j x)) → mx_W m_X3_rankAll (d + 1 + 1 + 1 + 1) 46 [.ref 24, .ref t, .int (w o), .int (w (10 * z)), .int (w i), .int (w j), .retAddr 0] [] M Q
  | 0, j, M, hj, hij, R, L, c1 => by
    have e : j = N := by omega
    subst e
    refine x_X3_rankAll_46 R.1 t ht _ _ _ _ ⟨fun _ => ?_, fun h => absurd ?_ h⟩
    · rw [w_add1]; exact X M R L c1
    · rw [R.2.1, w_le (by omega) (by omega)]; omega
  | k + 1, j, M, hj, hij, R, L, c1 => by
    have S := ordB_sto N (fun x => kcF (kl x) (ks x)) tv
    refine x_X3_rankAll_46 R.1 t ht _ _ _ _ ⟨fun h => ?_, fun _ => p_goes R.1 ht R.2.2.1 ho hN R.2.2.2 hij (by omega) ⟨rfl, rfl, _, rfl, fun g => ?_, fun g => ?_⟩⟩
    · rw [R.2.1, w_le (by omega) (by omega)] at h; omega
    · rw [w_add, w_nat (by omega), c1 i hi, w_add1, w_add1]
      refine ⟨w_in (by omega) (by omega), w_in (by omega) (by omega), fun M1 e1 => ?_⟩
      have L1 : lip (cO z) M M1 := by rw [e1]; exact lip_setI ⟨Or.inl rfl, by omega, by omega⟩
      refine p_rk_i ht hN hz ho hi X k (j + 1) M1 (by omega) (by omega) (rdC_lip ht L1 (fun k j h => h.1) R) (lip_trans L L1) (fun x hx => ?_)
      rw [rkS_step S hij (by omega) hx, g, if_neg (show ¬ false = true by decide), e1]
      by_cases e : x = i
      · rw [if_pos e, e]; exact I_eq
      · rw [if_neg e, I_ne (by omega)]; exact c1 x hx
    · rw [w_add, w_nat (by omega), c1 j (by omega), w_add1, w_add1]
      refine ⟨w_in (by omega) (by omega), w_in (by omega) (by omega), fun M1 e1 => ?_⟩
      have L1 : lip (cO z) M M1 := by rw [e1]; exact lip_setI ⟨Or.inl rfl, by omega, by omega⟩
      refine p_rk_i ht hN hz ho hi X k (j + 1) M1 (by omega) (by omega) (rdC_lip ht L1 (fun k j h => h.1) R) (lip_trans L L1) (fun x hx => ?_)
      rw [rkS_step S hij (by omega) hx, g, if_pos rfl, e1]
      by_cases e : x = j
      · rw [if_pos e, e]; exact I_eq
      · rw [if_neg e, I_ne (by omega)]; exact c1 x hx
theorem p_rk_b {d t o z N : Nat} {tv : Nat → Int32} {kl : Nat → Nat} {ks : Nat → Nat → Nat} {M0 : mx_M} {Q : QQ} (ht : mx_Cat t) (hN : N ≤ 10) (hz : z < 5) (ho : o < 4)
    (X : ∀ M1, rdC M1 t o z N tv kl ks → lip (cO z) M0 M1 → (∀ x, x < N → mx_I M1 27 (10 * z + x) = w (rnk N (ordB (fun x => kcF (kl x) (ks x)) tv) x)) → mx_W m_X3_rankAll (d + 1 + 1 + 1 + 1) 106 [.ref 24, .ref t, .retAddr 0, .int (w (10 * z)), .int 0, .retAddr 0, .retAddr 0] [] M1 Q) :
    ∀ (k i : Nat) (M : mx_M), i + k = N → rdC M t o z N tv kl ks → lip (cO z) M0 M → (∀ x, x < N → mx_I M 27 (10 * z + x) = w (rkS N (ordB (fun x => kcF (kl x) (ks x)) tv) i (i + 1) x)) → mx_W m_X3_rankAll (d + 1 + 1 + 1 + 1) 31 [.ref 24, .ref t, .int (w o), .int (w (10 * z)), .int (w i), .retAddr 0, .retAddr 0] [] M Q
  | 0, i, M, hi, R, L, c1 => by
    refine x_X3_rankAll_31 R.1 t ht _ _ _ ⟨fun _ => X M R L (fun x hx => by rw [c1 x hx, rkS_end (by omega)]), fun h => absurd ?_ h⟩
    rw [R.2.1, w_le (by omega) (by omega)]; omega
  | k + 1, i, M, hi, R, L, c1 => by
    have S := ordB_sto N (fun x => kcF (kl x) (ks x)) tv
    refine x_X3_rankAll_31 R.1 t ht _ _ _ ⟨fun h => ?_, fun _ => ?_⟩
    · rw [R.2.1, w_le (by omega) (by omega)] at h; omega
    · rw [w_add1]
      exact p_rk_i ht hN hz ho (by omega) (fun M1 R1 L1 d1 => p_rk_b ht hN hz ho X k (i + 1) M1 (by omega) R1 L1 (fun x hx => by rw [d1 x hx, rkS_turn S hx])) k (i + 1) M (by omega) (by omega) R L c1
theorem p_rk_c {d t o z N : Nat} {tv : Nat → Int32} {kl : Nat → Nat} {ks : Nat → Nat → Nat} {B : Nat → Nat → Bool} {M0 : mx_M} {Q : QQ} (ht : mx_Cat t) (hN : N ≤ 10) (hz : z < 5) (S : sto N B)
    (hq : ∀ M1, rdC M1 t o z N tv kl ks → lip (cO z) M0 M1 → ordC M1 z N B → Q (.inl none) M1) :
    ∀ (k i : Nat) (M : mx_M), i + k = N → rdC M t o z N tv kl ks → lip (cO z) M0 M → (∀ x, x < N → mx_I M 27 (10 * z + x) = w (rnk N B x)) → (∀ x, x < i → mx_I M 28 (10 * z + rnk N B x) = w x) → mx_W m_X3_rankAll (d + 1) 106 [.ref 24, .ref t, .retAddr 0, .int (w (10 * z)), .int (w i), .retAddr 0, .retAddr 0] [] M Q
  | 0, i, M, hi, R, L, c1, c2 => by
    refine x_X3_rankAll_106 R.1 t ht _ _ ⟨fun _ => hq M R L ⟨S, ⟨hz, hN, fun x hx => ⟨c1 x hx, by have := rnk_lt S hx; omega⟩⟩, fun x hx => c2 x (by omega)⟩, fun h => absurd ?_ h⟩
    rw [R.2.1, w_le (by omega) (by omega)]; omega
  | k + 1, i, M, hi, R, L, c1, c2 => by
    have hr := rnk_lt S (show i < N by omega)
    refine x_X3_rankAll_106 R.1 t ht _ _ ⟨fun h => ?_, fun _ => ?_⟩
    · rw [R.2.1, w_le (by omega) (by omega)] at h; omega
    · rw [w_add, w_nat (n := 10 * z + i) (by omega), c1 i (by omega), w_add]
      refine ⟨w_in (by omega) (by omega), w_in (by omega) (by omega), fun M1 e1 => ?_⟩
      rw [w_nat (by omega)] at e1
      have L1 : lip (cO z) M M1 := by rw [e1]; exact lip_setI ⟨Or.inr rfl, by omega, by omega⟩
      rw [w_add1]
      refine p_rk_c ht hN hz S hq k (i + 1) M1 (by omega) (rdC_lip ht L1 (fun k j h => h.1) R) (lip_trans L L1) (fun x hx => by rw [e1, I_ne (by omega)]; exact c1 x hx) (fun x hx => ?_)
      rw [e1]
      by_cases e : x = i
      · rw [e]; exact I_eq
      · rw [I_ne (fun q => e (rnk_inj S (by omega) (by omega) (by omega)))]; exact c2 x (by omega)
theorem p_rankAll {d t o z N : Nat} {tv : Nat → Int32} {kl : Nat → Nat} {ks : Nat → Nat → Nat} {M : mx_M} {Q : QQ} (ht : mx_Cat t) (hN : N ≤ 10) (hz : z < 5) (ho : o < 4) (R : rdC M t o z N tv kl ks)
    (hq : ∀ M1, rdC M1 t o z N tv kl ks → lip (cO z) M M1 → ordC M1 z N (ordB (fun x => kcF (kl x) (ks x)) tv) → Q (.inl none) M1) : mx_W m_X3_rankAll (d + 1 + 1 + 1 + 1) 0 [.ref 24, .ref t, .int (w o), .int (w (10 * z)), .retAddr 0, .retAddr 0, .retAddr 0] [] M Q := by
  have S := ordB_sto N (fun x => kcF (kl x) (ks x)) tv
  refine x_X3_rankAll_0 R.1 t ht _ _ (p_rk_a ht hN hz (fun M1 R1 L1 c1 => ?_) N 0 M (Nat.zero_add N) R (lip_refl _ _) (fun x hx => by omega))
  refine p_rk_b ht hN hz ho (fun M2 R2 L2 c2 => ?_) N 0 M1 (Nat.zero_add N) R1 L1 (fun x hx => by rw [c1 x hx, rkS_0 S hx]; rfl)
  exact p_rk_c ht hN hz S hq N 0 M2 (Nat.zero_add N) R2 L2 c2 (fun x hx => by omega)
/-! the reference's order -/
/-- its ties -/
def tiM (M0 : mx_M) (o N : Nat) (tv : Nat → Int32) : Prop := ∀ (d : Nat) (M : mx_M) (x : Nat) (Q : QQ), lik mRd M0 M → mx_Tp M → x < N → (∀ M1, lik mSc M M1 → Q (.inl (some (.int (tv x)))) M1) → mx_W m_X11_tieOf (d + 3) 0 [.ref 58, .int (w o), .int (w x)] [] M Q
theorem befM_ord {M0 : mx_M} {o N : Nat} {tv : Nat → Int32} {kl : Nat → Nat} {ks : Nat → Nat → Nat} (hN : N ≤ 10) (Ti : tiM M0 o N tv) (Ky : ∀ x, x < N → slM M0 (10 * o + x) (kl x) (ks x)) : befM M0 o N (ordB (fun x => kcF (kl x) (ks x)) tv) := by
  intro d M x y Q L T hx hy hq
  have A0 := Ky x hx
  have B0 := Ky y hy
  have cc := ck_code A0.2.1 B0.2.1 (fun i hi => (A0.2.2.2 i hi).2) (fun i hi => (B0.2.2.2 i hi).2)
  have kd := kdF_0 A0.2.1 B0.2.1 (fun i hi => (A0.2.2.2 i hi).2) (fun i hi => (B0.2.2.2 i hi).2)
  have f85 : mx_I M 85 = mx_I M0 85 := (L.2 85 (by intro z; omega)).1
  have f86 : mx_I M 86 = mx_I M0 86 := (L.2 86 (by intro z; omega)).1
  have A : slM M (10 * o + x) (kl x) (ks x) := ⟨A0.1, A0.2.1, by rw [f85]; exact A0.2.2.1, fun i hi => by rw [f86]; exact A0.2.2.2 i hi⟩
  have A2 : slM M (10 * o + y) (kl y) (ks y) := ⟨B0.1, B0.2.1, by rw [f85]; exact B0.2.2.1, fun i hi => by rw [f86]; exact B0.2.2.2 i hi⟩
  unfold ordB at hq
  dsimp only at hq
  refine x_X11_isBefore_0 (d := d + 3) T _ _ _ ⟨fun z => q_compares T A A2 ⟨rfl, rfl, _, rfl, fun g => ?_, fun g => ⟨fun g2 => ?_, fun g2 => ?_⟩⟩, fun z => ?_⟩
  · rw [w_inj (by omega) (by omega)] at z
    rw [kd.1, cc.1] at g
    refine Ti d M x _ L T hx (fun M1 L1 => ⟨L1.1.1, L1.1.2.1, _, rfl, Ti d M1 y _ (lik_trans L (sc_rd L1)) (lik_T L1 T) hy (fun M2 L2 => ⟨L2.1.1, L2.1.2.1, _, rfl, ?_⟩)⟩)
    have H := hq M2 (lik_trans L1 L2)
    refine ⟨fun q => ⟨fun q2 => ?_, fun q2 => ?_⟩, fun q => ⟨fun q2 => ?_, fun q2 => ?_⟩⟩
    · rw [w_le (by omega) (by omega)] at q2
      rw [q, decide_eq_false (by omega)] at H; exact H
    · rw [w_le (by omega) (by omega)] at q2
      rw [q, decide_eq_true (by omega)] at H; exact H
    · rw [← Int32.toInt_inj] at q
      rw [Int32.le_iff_toInt_le] at q2
      rw [decide_eq_false (by omega)] at H; exact H
    · rw [← Int32.toInt_inj] at q
      rw [Int32.le_iff_toInt_le] at q2
      rw [decide_eq_true (by omega)] at H; exact H
  · have h1 : ¬ ckF (kl x) (ks x) (kl y) (ks y) = 0 := fun e => g (kd.1.mpr e)
    have h2 := kd.2.1 g2 h1
    rw [cc.1] at h1
    rw [cc.2] at h2
    have H := hq M (lik_refl _ _)
    rw [decide_eq_false (by omega)] at H; exact H
  · have h2 := kd.2.2 g2
    rw [cc.1, cc.2] at h2
    have H := hq M (lik_refl _ _)
    rw [decide_eq_true (by omega)] at H; exact H
  · rw [w_inj (by omega) (by omega)] at z
    subst z
    have H := hq M (lik_refl _ _)
    rw [decide_eq_false (by omega)] at H; exact H
/-- an order so made goes by keys first -/
theorem ordB_kb {x y : Nat} {tv : Nat → Int32} {kl : Nat → Nat} {ks : Nat → Nat → Nat} (h1 : kl x ≤ 35) (h2 : kl y ≤ 35) (hk : ∀ i, i < kl x → ks x i < 32) (hk2 : ∀ i, i < kl y → ks y i < 32) (h : ordB (fun x => kcF (kl x) (ks x)) tv x y = true) : ckF (kl x) (ks x) (kl y) (ks y) ≤ 0 := by
  rw [(ck_code h1 h2 hk hk2).2]
  have := of_decide_eq_true h
  dsimp only at this
  omega
