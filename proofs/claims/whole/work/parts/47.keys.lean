/-! keys: by class and by reference -/
def slC (M : mx_M) (z l : Nat) (k : Nat → Nat) : Prop := z < 50 ∧ l ≤ 35 ∧ mx_I M 26 z = w l ∧ ∀ i, i < l → mx_I M 25 (35 * z + i) = w (k i) ∧ k i < 32
def slM (M : mx_M) (z l : Nat) (k : Nat → Nat) : Prop := z < 50 ∧ l ≤ 35 ∧ mx_I M 85 z = w l ∧ ∀ i, i < l → mx_I M 86 (36 * z + i) = w (k i) ∧ k i < 32
/-- the lesser of two -/
def mn (a b : Nat) : Nat := if b < a then b else a
theorem mn_le (a b : Nat) : mn a b ≤ a ∧ mn a b ≤ b ∧ (mn a b = a ∨ mn a b = b) := by
  unfold mn
  split <;> omega
/-- how many signs two keys begin with alike -/
def alk (l : Nat) (k : Nat → Nat) (l2 : Nat) (k2 : Nat → Nat) : Nat := fnd (fun i => decide (¬ k i = k2 i)) 0 (mn l l2)
theorem alk_le (l : Nat) (k : Nat → Nat) (l2 : Nat) (k2 : Nat → Nat) : alk l k l2 k2 ≤ mn l l2 := by
  have := fnd_le (fun i => decide (¬ k i = k2 i)) 0 (mn l l2)
  unfold alk; omega
theorem alk_ne {l l2 : Nat} {k k2 : Nat → Nat} (h : alk l k l2 k2 < mn l l2) : ¬ k (alk l k l2 k2) = k2 (alk l k l2 k2) := by
  have := fnd_so (fun i => decide (¬ k i = k2 i)) 0 (mn l l2) (by unfold alk at h; omega)
  exact of_decide_eq_true this
theorem alk_eq {l l2 : Nat} {k k2 : Nat → Nat} {j : Nat} (h : j < alk l k l2 k2) : k j = k2 j := by
  have := fnd_not (fun i => decide (¬ k i = k2 i)) 0 (mn l l2) j (Nat.zero_le _) (by unfold alk at h; omega)
  simpa using this
theorem w_35 (z i : Nat) : w z * 35 + w i = w (35 * z + i) := by rw [show (35 : Int32) = w 35 from rfl, w_mul, w_add, Nat.mul_comm]
theorem w_36 (z i : Nat) : 36 * w z + w i = w (36 * z + i) := by rw [show (36 : Int32) = w 36 from rfl, w_mul, w_add]
theorem w_x10 (z i : Nat) : w z * 10 + w i = w (10 * z + i) := by rw [show (10 : Int32) = w 10 from rfl, w_mul, w_add, Nat.mul_comm]
theorem p_min {d a b : Nat} {M : mx_M} {Q : QQ} (T : mx_Tp M) (ha : a < 2147483648) (hb : b < 2147483648) (hq : Q (.inl (some (.int (w (mn a b))))) M) : mx_W m_J9_min_7cf53 d 0 [.int (w a), .int (w b)] [] M Q := by
  unfold mn at hq
  refine x_J9_min_7cf53_0 T _ _ ⟨fun g => ?_, fun g => ?_⟩
  · rw [w_lt hb ha] at g; rw [if_pos g] at hq; exact hq
  · rw [w_lt hb ha] at g; rw [if_neg g] at hq; exact hq
/-- -1, 0 or 1 -/
def icm (a b : Nat) : Int32 := if a < b then -1 else if a = b then 0 else 1
theorem p_compare {d a b : Nat} {M : mx_M} {Q : QQ} (T : mx_Tp M) (ha : a < 2147483648) (hb : b < 2147483648) (hq : Q (.inl (some (.int (icm a b)))) M) : mx_W m_J6_compare_7cf53 d 0 [.int (w a), .int (w b)] [] M Q := by
  unfold icm at hq
  refine x_J6_compare_7cf53_0 T _ _ ⟨fun g => ⟨fun g2 => ?_, fun g2 => ?_⟩, fun g => ?_⟩
  · rw [w_le hb ha] at g
    rw [w_inj ha hb] at g2
    rw [if_neg (show ¬ a < b by omega), if_neg g2] at hq; exact hq
  · rw [w_le hb ha] at g
    rw [w_inj ha hb] at g2
    rw [if_neg (show ¬ a < b by omega), if_pos g2] at hq; exact hq
  · rw [w_le hb ha] at g
    rw [if_pos (show a < b by omega)] at hq; exact hq
theorem p_alike_l {d z l z2 l2 : Nat} {k k2 : Nat → Nat} {M : mx_M} {Q : QQ} (T : mx_Tp M) (A : slC M z l k) (A2 : slC M z2 l2 k2) :
    ∀ (c i : Nat), i + c = mn l l2 → Q (.inl (some (.int (w (fnd (fun i => decide (¬ k i = k2 i)) i c))))) M → mx_W m_X3_alikeSigns (d + 1) 19 [.ref 24, .int (w z), .int (w z2), .int (w (mn l l2)), .int (w i)] [] M Q
  | 0, i, hi, hq => by
    have hm := mn_le l l2
    have h1 := A.2.1
    refine x_X3_alikeSigns_19 T _ _ _ _ ⟨fun _ => ?_, fun h => absurd ?_ h⟩
    · rw [← hi]; exact hq
    · rw [w_le (by omega) (by omega)]; omega
  | c + 1, i, hi, hq => by
    have hm := mn_le l l2
    have h1 := A.2.1
    have h2 := A.1
    have h3 := A2.1
    have h4 := A2.2.1
    have o1 := A.2.2.2 i (by omega)
    have o2 := A2.2.2.2 i (by omega)
    refine x_X3_alikeSigns_19 T _ _ _ _ ⟨fun h => ?_, fun _ => ?_⟩
    · rw [w_le (by omega) (by omega)] at h; omega
    · rw [w_35, w_35, w_nat (by omega), w_nat (by omega), o1.1, o2.1, w_inj (by omega) (by omega)]
      refine ⟨w_in (by omega) (by omega), w_in (by omega) (by omega), fun g => ?_, fun g => ?_⟩
      · rw [fnd_next (by simp [g])] at hq
        rw [w_add1]
        exact p_alike_l T A A2 c (i + 1) (by omega) hq
      · rw [fnd_stop (by simp [g])] at hq
        exact hq
theorem p_alike {d z l z2 l2 : Nat} {k k2 : Nat → Nat} {M : mx_M} {Q : QQ} (T : mx_Tp M) (A : slC M z l k) (A2 : slC M z2 l2 k2) (hq : Q (.inl (some (.int (w (alk l k l2 k2))))) M) : mx_W m_X3_alikeSigns (d + 1) 0 [.ref 24, .int (w z), .int (w z2), .retAddr 0, .retAddr 0] [] M Q := by
  have h1 := A.2.1
  have h2 := A.1
  have h3 := A2.1
  have h4 := A2.2.1
  refine x_X3_alikeSigns_0 T _ _ ⟨w_in (by omega) (by omega), w_in (by omega) (by omega), ?_⟩
  rw [w_nat (by omega), w_nat (by omega), A.2.2.1, A2.2.2.1]
  exact p_min T (by omega) (by omega) ⟨rfl, rfl, _, rfl, p_alike_l T A A2 _ 0 (Nat.zero_add _) hq⟩
/-- how two keys compare: -1, 0 or 1 -/
def ckF (l : Nat) (k : Nat → Nat) (l2 : Nat) (k2 : Nat → Nat) : Int32 := if alk l k l2 k2 < mn l l2 then icm (k (alk l k l2 k2)) (k2 (alk l k l2 k2)) else icm l l2
theorem p_compared {d z l z2 l2 : Nat} {k k2 : Nat → Nat} {M : mx_M} {Q : QQ} (T : mx_Tp M) (A : slC M z l k) (A2 : slC M z2 l2 k2) (hq : Q (.inl (some (.int (ckF l k l2 k2)))) M) : mx_W m_X3_comparedKeys (d + 1 + 1) 0 [.ref 24, .int (w z), .int (w z2), .retAddr 0] [] M Q := by
  have h1 := A.2.1
  have h2 := A.1
  have h3 := A2.1
  have h4 := A2.2.1
  have hm := mn_le l l2
  have ha := alk_le l k l2 k2
  unfold ckF at hq
  refine x_X3_comparedKeys_0 T _ _ (p_alike T A A2 ⟨rfl, rfl, _, rfl, w_in (by omega) (by omega), ?_⟩)
  generalize alk l k l2 k2 = a at hq ha
  rw [w_nat (by omega), w_nat (by omega), A.2.2.1, A2.2.2.1, w_le (by omega) (by omega), w_le (by omega) (by omega), w_35, w_35]
  refine ⟨fun g => ⟨w_in (by omega) (by omega), w_in (by omega) (by omega), ?_⟩, fun g => ⟨w_in (by omega) (by omega), fun g2 => ⟨w_in (by omega) (by omega), w_in (by omega) (by omega), ?_⟩, fun g2 => ⟨w_in (by omega) (by omega), w_in (by omega) (by omega), ?_⟩⟩⟩
  · rw [if_neg (show ¬ a < mn l l2 by omega)] at hq
    exact p_compare T (by omega) (by omega) ⟨rfl, rfl, _, rfl, hq⟩
  · rw [if_neg (show ¬ a < mn l l2 by omega)] at hq
    exact p_compare T (by omega) (by omega) ⟨rfl, rfl, _, rfl, hq⟩
  · have o1 := A.2.2.2 a (by omega)
    have o2 := A2.2.2.2 a (by omega)
    rw [if_pos (show a < mn l l2 by omega)] at hq
    rw [w_nat (by omega), w_nat (by omega), o1.1, o2.1]
    exact p_compare T (by omega) (by omega) ⟨rfl, rfl, _, rfl, hq⟩
/-- the same key -/
def smF (l : Nat) (k : Nat → Nat) (l2 : Nat) (k2 : Nat → Nat) : Bool := decide (l = l2) && allF (fun i => decide (k i = k2 i)) 0 l
theorem allF_iff {p : Nat → Bool} : ∀ (k i : Nat), allF p i k = true ↔ ∀ j, i ≤ j → j < i + k → p j = true
  | 0, i => ⟨fun _ j h1 h2 => by omega, fun _ => rfl⟩
  | k + 1, i => by
    rw [allF, Bool.and_eq_true, allF_iff k (i + 1)]
    constructor
    · rintro ⟨h1, h2⟩ j h3 h4
      by_cases e : i = j
      · rw [← e]; exact h1
      · exact h2 j (by omega) (by omega)
    · intro h
      exact ⟨h i (Nat.le_refl _) (by omega), fun j h1 h2 => h j (by omega) (by omega)⟩
theorem smF_iff {l l2 : Nat} {k k2 : Nat → Nat} : smF l k l2 k2 = true ↔ l = l2 ∧ ∀ i, i < l → k i = k2 i := by
  unfold smF
  rw [Bool.and_eq_true, allF_iff]
  simp
theorem smF_comm (l : Nat) (k : Nat → Nat) (l2 : Nat) (k2 : Nat → Nat) : smF l k l2 k2 = smF l2 k2 l k := by
  have h : smF l k l2 k2 = true ↔ smF l2 k2 l k = true := by
    rw [smF_iff, smF_iff]
    constructor
    · rintro ⟨rfl, h⟩; exact ⟨rfl, fun i hi => (h i hi).symm⟩
    · rintro ⟨rfl, h⟩; exact ⟨rfl, fun i hi => (h i hi).symm⟩
  cases h1 : smF l k l2 k2 <;> cases h2 : smF l2 k2 l k
  · rfl
  · rw [h1, h2] at h; exact absurd (h.mpr rfl) (by decide)
  · rw [h1, h2] at h; exact absurd (h.mp rfl) (by decide)
  · rfl
theorem icm_0 {a b : Nat} : icm a b = 0 ↔ a = b := by
  unfold icm
  split
  · constructor
    · intro h; exact absurd h (by decide)
    · intro; omega
  · split
    · exact ⟨fun _ => by assumption, fun _ => rfl⟩
    · constructor
      · intro h; exact absurd h (by decide)
      · intro; omega
theorem icm_le {a b : Nat} : icm a b ≤ 0 ↔ a ≤ b := by
  unfold icm
  split
  · constructor
    · intro; omega
    · intro; decide
  · split
    · constructor
      · intro; omega
      · intro; decide
    · constructor
      · intro h; exact absurd h (by decide)
      · intro; omega
theorem ckF_0 {l l2 : Nat} {k k2 : Nat → Nat} : ckF l k l2 k2 = 0 ↔ smF l k l2 k2 = true := by
  have hm := mn_le l l2
  have ha := alk_le l k l2 k2
  rw [smF_iff]
  unfold ckF
  by_cases g : alk l k l2 k2 < mn l l2
  · rw [if_pos g, icm_0]
    have := alk_ne g
    constructor
    · intro h; exact absurd h this
    · rintro ⟨_, h⟩; exact absurd (h _ (by omega)) this
  · rw [if_neg g, icm_0]
    constructor
    · intro h; exact ⟨h, fun i hi => alk_eq (l := l) (l2 := l2) (by omega)⟩
    · exact fun h => h.1
theorem p_sameKey {d o o2 x l l2 : Nat} {k k2 : Nat → Nat} {M : mx_M} {Q : QQ} (T : mx_Tp M) (A : slC M (10 * o + x) l k) (A2 : slC M (10 * o2 + x) l2 k2) (hq : Q (.inl (some (.int (mx_b (smF l k l2 k2))))) M) : mx_W m_X3_hasSameKey (d + 1 + 1 + 1) 0 [.ref 24, .int (w o), .int (w o2), .int (w x)] [] M Q := by
  refine x_X3_hasSameKey_0 T _ _ _ ?_
  rw [w_x10, w_x10]
  refine p_compared T A A2 ⟨rfl, rfl, _, rfl, fun g => ?_, fun g => ?_⟩
  · have : smF l k l2 k2 = false := by
      cases h : smF l k l2 k2
      · rfl
      · exact absurd (ckF_0.mpr h) g
    rw [this] at hq; exact hq
  · rw [ckF_0.mp g] at hq; exact hq
/-- begins alike up to n signs -/
def baF (n l : Nat) (k : Nat → Nat) (l2 : Nat) (k2 : Nat → Nat) : Bool := decide (mn n l ≤ alk l k l2 k2)
theorem baF_iff {n l l2 : Nat} {k k2 : Nat → Nat} : baF n l k l2 k2 = true ↔ mn n l ≤ l2 ∧ ∀ i, i < mn n l → k i = k2 i := by
  have h1 := mn_le n l
  have hm := mn_le l l2
  have ha := alk_le l k l2 k2
  unfold baF
  rw [decide_eq_true_iff]
  constructor
  · intro h; exact ⟨by omega, fun i hi => alk_eq (l := l) (l2 := l2) (by omega)⟩
  · rintro ⟨h, h3⟩
    by_cases g : mn n l ≤ alk l k l2 k2
    · exact g
    · exact absurd (h3 (alk l k l2 k2) (by omega)) (alk_ne (by omega))
theorem p_begins {d o x y n l l2 : Nat} {k k2 : Nat → Nat} {M : mx_M} {Q : QQ} (T : mx_Tp M) (A : slC M (10 * o + x) l k) (A2 : slC M (10 * o + y) l2 k2) (hn : n < 1000) (hq : Q (.inl (some (.int (mx_b (baF n l k l2 k2))))) M) : mx_W m_X3_beginsAlike (d + 1 + 1) 0 [.ref 24, .int (w o), .int (w x), .int (w y), .int (w n), .retAddr 0] [] M Q := by
  have h1 := A.2.1
  have h2 := A.1
  have h4 := A2.2.1
  have hm := mn_le l l2
  have hm2 := mn_le n l
  have ha := alk_le l k l2 k2
  unfold baF at hq
  refine x_X3_beginsAlike_0 T _ _ _ _ ?_
  rw [w_x10, w_x10]
  refine p_alike T A A2 ⟨rfl, rfl, _, rfl, w_in (by omega) (by omega), ?_⟩
  rw [w_nat (by omega), A.2.2.1]
  refine p_min T (by omega) (by omega) ⟨rfl, rfl, _, rfl, ?_⟩
  rw [w_lt (by omega) (by omega)]
  refine ⟨fun g => ?_, fun g => ?_⟩
  · rw [decide_eq_false (by omega)] at hq; exact hq
  · rw [decide_eq_true (by omega)] at hq; exact hq
theorem p_guideLen {d o x y l l2 : Nat} {k k2 : Nat → Nat} {M : mx_M} {Q : QQ} (T : mx_Tp M) (A : slC M (10 * o + x) l k) (A2 : slC M (10 * o + y) l2 k2) (hq : Q (.inl (some (.int (w (mn l (alk l k l2 k2 + 1)))))) M) : mx_W m_X3_guideLength (d + 1 + 1) 0 [.ref 24, .int (w o), .int (w x), .int (w y), .retAddr 0] [] M Q := by
  have h1 := A.2.1
  have h2 := A.1
  have h4 := A2.2.1
  have hm := mn_le l l2
  have ha := alk_le l k l2 k2
  refine x_X3_guideLength_0 T _ _ _ ?_
  rw [w_x10, w_x10]
  refine ⟨w_in (by omega) (by omega), p_alike T A A2 ⟨rfl, rfl, _, rfl, ?_⟩⟩
  rw [w_nat (by omega), A.2.2.1, w_add1]
  exact p_min T (by omega) (by omega) ⟨rfl, rfl, _, rfl, hq⟩
/-! the reference's -/
theorem q_areAlike_l {d z l z2 l2 : Nat} {k k2 : Nat → Nat} {M : mx_M} {Q : QQ} (T : mx_Tp M) (A : slM M z l k) (A2 : slM M z2 l2 k2) (e : l = l2) :
    ∀ (c i : Nat), i + c = l → Q (.inl (some (.int (mx_b (allF (fun i => decide (k i = k2 i)) i c))))) M → mx_W m_X11_areAlike d 38 [.ref 58, .retAddr 0, .retAddr 0, .retAddr 0, .int (w z), .int (w z2), .int (w i)] [] M Q
  | 0, i, hi, hq => by
    have h1 := A.2.1
    have h2 := A.1
    refine x_X11_areAlike_38 T _ _ _ ?_
    rw [w_nat (by omega), A.2.2.1]
    refine ⟨w_in (by omega) (by omega), fun _ => hq, fun h => absurd ?_ h⟩
    rw [w_le (by omega) (by omega)]; omega
  | c + 1, i, hi, hq => by
    have h1 := A.2.1
    have h2 := A.1
    have h3 := A2.1
    have o1 := A.2.2.2 i (by omega)
    have o2 := A2.2.2.2 i (by omega)
    rw [allF] at hq
    refine x_X11_areAlike_38 T _ _ _ ?_
    rw [w_36, w_36, w_nat (by omega), w_nat (by omega), w_nat (by omega), A.2.2.1, o1.1, o2.1, w_inj (by omega) (by omega)]
    refine ⟨w_in (by omega) (by omega), fun h => ?_, fun _ => ⟨w_in (by omega) (by omega), w_in (by omega) (by omega), fun g => ?_, fun g => ?_⟩⟩
    · rw [w_le (by omega) (by omega)] at h; omega
    · rw [decide_eq_true g, Bool.true_and] at hq
      rw [w_add1]
      exact q_areAlike_l T A A2 e c (i + 1) (by omega) hq
    · rw [decide_eq_false g, Bool.false_and] at hq
      exact hq
theorem q_areAlike {d o o2 x l l2 : Nat} {k k2 : Nat → Nat} {M : mx_M} {Q : QQ} (T : mx_Tp M) (A : slM M (10 * o + x) l k) (A2 : slM M (10 * o2 + x) l2 k2) (hq : Q (.inl (some (.int (mx_b (smF l k l2 k2))))) M) : mx_W m_X11_areAlike d 0 [.ref 58, .int (w o), .int (w o2), .int (w x), .retAddr 0, .retAddr 0, .retAddr 0] [] M Q := by
  have h1 := A.2.1
  have h2 := A.1
  have h3 := A2.1
  have h4 := A2.2.1
  unfold smF at hq
  refine x_X11_areAlike_0 T _ _ _ ?_
  rw [w_10, w_10, w_nat (by omega), w_nat (by omega), A.2.2.1, A2.2.2.1, w_inj (by omega) (by omega)]
  refine ⟨w_in (by omega) (by omega), w_in (by omega) (by omega), fun g => ?_, fun g => ?_⟩
  · rw [decide_eq_true g, Bool.true_and] at hq
    exact q_areAlike_l T A A2 g l 0 (Nat.zero_add l) hq
  · rw [decide_eq_false g, Bool.false_and] at hq
    exact hq
/-- how the reference's two keys compare -/
def kdF (l : Nat) (k : Nat → Nat) (l2 : Nat) (k2 : Nat → Nat) : Int32 := if alk l k l2 k2 < mn l l2 then w (k (alk l k l2 k2)) - w (k2 (alk l k l2 k2)) else w l - w l2
theorem q_compares_l {d z l z2 l2 : Nat} {k k2 : Nat → Nat} {M : mx_M} {Q : QQ} (T : mx_Tp M) (A : slM M z l k) (A2 : slM M z2 l2 k2) (hq : Q (.inl (some (.int (kdF l k l2 k2)))) M) :
    ∀ (c i : Nat), i + c = mn l l2 → fnd (fun i => decide (¬ k i = k2 i)) i c = alk l k l2 k2 → mx_W m_X11_compares d 19 [.ref 58, .retAddr 0, .retAddr 0, .retAddr 0, .int (w z), .int (w z2), .int (w i)] [] M Q
  | 0, i, hi, e => by
    have h1 := A.2.1
    have h2 := A.1
    have h3 := A2.1
    have h4 := A2.2.1
    have hm := mn_le l l2
    have e : i = alk l k l2 k2 := e
    unfold kdF at hq
    rw [if_neg (by omega)] at hq
    refine x_X11_compares_19 T _ _ _ ?_
    rw [w_nat (by omega), w_nat (by omega), A.2.2.1, A2.2.2.1]
    refine ⟨w_in (by omega) (by omega), fun _ => ⟨w_in (by omega) (by omega), w_in (by omega) (by omega), hq⟩, fun g => ⟨w_in (by omega) (by omega), fun _ => ⟨w_in (by omega) (by omega), w_in (by omega) (by omega), hq⟩, fun g2 => ?_⟩⟩
    rw [w_le (by omega) (by omega)] at g g2
    omega
  | c + 1, i, hi, e => by
    have h1 := A.2.1
    have h2 := A.1
    have h3 := A2.1
    have h4 := A2.2.1
    have hm := mn_le l l2
    have o1 := A.2.2.2 i (by omega)
    have o2 := A2.2.2.2 i (by omega)
    refine x_X11_compares_19 T _ _ _ ?_
    rw [w_36, w_36, w_nat (by omega), w_nat (by omega), w_nat (by omega), w_nat (by omega), A.2.2.1, A2.2.2.1, o1.1, o2.1, w_inj (by omega) (by omega)]
    refine ⟨w_in (by omega) (by omega), fun g => ?_, fun _ => ⟨w_in (by omega) (by omega), fun g => ?_, fun _ => ⟨w_in (by omega) (by omega), w_in (by omega) (by omega), fun g => ?_, fun g => ⟨w_in (by omega) (by omega), w_in (by omega) (by omega), ?_⟩⟩⟩⟩
    · rw [w_le (by omega) (by omega)] at g; omega
    · rw [w_le (by omega) (by omega)] at g; omega
    · rw [fnd_next (by simp [g])] at e
      rw [w_add1]
      exact q_compares_l T A A2 hq c (i + 1) (by omega) e
    · rw [fnd_stop (by simp [g])] at e
      unfold kdF at hq
      rw [if_pos (by omega), ← e] at hq
      exact hq
theorem q_compares {d o x y l l2 : Nat} {k k2 : Nat → Nat} {M : mx_M} {Q : QQ} (T : mx_Tp M) (A : slM M (10 * o + x) l k) (A2 : slM M (10 * o + y) l2 k2) (hq : Q (.inl (some (.int (kdF l k l2 k2)))) M) : mx_W m_X11_compares d 0 [.ref 58, .int (w o), .int (w x), .int (w y), .retAddr 0, .retAddr 0, .retAddr 0] [] M Q := by
  refine x_X11_compares_0 T _ _ _ ?_
  rw [w_10, w_10]
  exact q_compares_l T A A2 hq _ 0 (Nat.zero_add _) rfl
theorem w_diff {a b : Nat} (ha : a < 1000) (hb : b < 1000) : (w a - w b).toInt = (a : Int) - b := by
  rw [Int32.toInt_sub, w_int (by omega), w_int (by omega), Int.bmod_def]
  split <;> omega
theorem w_diff0 {a b : Nat} (ha : a < 1000) (hb : b < 1000) : w a - w b = 0 ↔ a = b := by
  rw [← Int32.toInt_inj, w_diff ha hb, show (0 : Int32).toInt = 0 from rfl]; omega
theorem w_diff_le {a b : Nat} (ha : a < 1000) (hb : b < 1000) : 0 ≤ w a - w b ↔ b ≤ a := by
  rw [Int32.le_iff_toInt_le, w_diff ha hb, show (0 : Int32).toInt = 0 from rfl]; omega
theorem kdF_0 {l l2 : Nat} {k k2 : Nat → Nat} (h1 : l ≤ 35) (h2 : l2 ≤ 35) (hk : ∀ i, i < l → k i < 32) (hk2 : ∀ i, i < l2 → k2 i < 32) : (kdF l k l2 k2 = 0 ↔ ckF l k l2 k2 = 0) ∧ (0 ≤ kdF l k l2 k2 → ¬ ckF l k l2 k2 = 0 → ¬ ckF l k l2 k2 ≤ 0) ∧ (¬ 0 ≤ kdF l k l2 k2 → ckF l k l2 k2 ≤ 0 ∧ ¬ ckF l k l2 k2 = 0) := by
  have hm := mn_le l l2
  unfold kdF ckF
  by_cases g : alk l k l2 k2 < mn l l2
  · have a1 := hk (alk l k l2 k2) (by omega)
    have a2 := hk2 (alk l k l2 k2) (by omega)
    rw [if_pos g, if_pos g, w_diff0 (by omega) (by omega), w_diff_le (by omega) (by omega), icm_0, icm_le]
    omega
  · rw [if_neg g, if_neg g, w_diff0 (by omega) (by omega), w_diff_le (by omega) (by omega), icm_0, icm_le]
    omega
theorem q_guide_i {d z l z2 l2 g : Nat} {k k2 : Nat → Nat} {M : mx_M} {Q : QQ} (T : mx_Tp M) (A : slM M z l k) (A2 : slM M z2 l2 k2) (hG : (alk l k l2 k2 < mn l l2 ∧ k2 (alk l k l2 k2) < k (alk l k l2 k2)) ∨ (alk l k l2 k2 = l2 ∧ l2 ≤ l)) (hg : g < l) (hg2 : g ≤ alk l k l2 k2 + 1)
    (X : g ≤ alk l k l2 k2 → mx_W m_X11_guideFor d 19 [.ref 58, .retAddr 0, .retAddr 0, .retAddr 0, .int (w z), .int (w z2), .int (w (g + 1)), .retAddr 0, .retAddr 0] [] M Q) (Y : g = alk l k l2 k2 + 1 → Q (.inl (some (.int (w g)))) M) :
    ∀ (c i : Nat), i + c = g → i ≤ alk l k l2 k2 → mx_W m_X11_guideFor d 34 [.ref 58, .retAddr 0, .retAddr 0, .retAddr 0, .int (w z), .int (w z2), .int (w g), .int (w i), .retAddr 0] [] M Q
  | 0, i, hi, hi2 => by
    have h1 := A.2.1
    refine x_X11_guideFor_34 T _ _ _ _ ?_
    rw [w_le (a := g) (b := i) (by omega) (by omega)]
    refine ⟨fun _ => ⟨fun _ => ?_, fun h => ?_⟩, fun h => ?_⟩
    · rw [w_add1]; exact X (by omega)
    · omega
    · omega
  | c + 1, i, hi, hi2 => by
    have h1 := A.2.1
    have h2 := A.1
    have h3 := A2.1
    have h4 := A2.2.1
    have hm := mn_le l l2
    have ha := alk_le l k l2 k2
    have o1 := A.2.2.2 i (by omega)
    refine x_X11_guideFor_34 T _ _ _ _ ?_
    rw [w_le (a := g) (b := i) (by omega) (by omega), w_36, w_36, w_nat (n := z2) (by omega), w_nat (n := 36 * z + i) (by omega), w_nat (n := 36 * z2 + i) (by omega), A2.2.2.1, o1.1, w_le (a := l2) (b := i) (by omega) (by omega)]
    by_cases q : i < alk l k l2 k2
    · have o2 := A2.2.2.2 i (by omega)
      have e := alk_eq q
      rw [o2.1, e]
      refine ⟨fun h => by omega, fun _ => ⟨w_in (by omega) (by omega), fun h => by omega, fun _ => ⟨w_in (by omega) (by omega), w_in (by omega) (by omega), fun h => absurd rfl h, fun _ => ?_⟩⟩⟩
      rw [w_add1]
      exact q_guide_i T A A2 hG hg hg2 X Y c (i + 1) (by omega) (by omega)
    · have e : i = alk l k l2 k2 := by omega
      have H := Y (by omega)
      refine ⟨fun h => by omega, fun _ => ⟨w_in (by omega) (by omega), fun h => ⟨fun z => by omega, fun _ => ⟨w_in (by omega) (by omega), fun _ => H, fun z => absurd (by congr 1; omega) z⟩⟩, fun h => ?_⟩⟩
      have o2 := A2.2.2.2 i (by omega)
      have hlt : k2 i < k i := by rw [e]; omega
      rw [o2.1, w_le (by omega) (by omega), w_inj (a := k i) (b := k2 i) (by omega) (by omega)]
      exact ⟨w_in (by omega) (by omega), w_in (by omega) (by omega), fun _ => ⟨fun z => by omega, fun _ => ⟨w_in (by omega) (by omega), fun _ => H, fun _ => ⟨w_in (by omega) (by omega), w_in (by omega) (by omega), fun z => by omega, fun _ => H⟩⟩⟩, fun z => by omega⟩
theorem q_guide_o {d z l z2 l2 : Nat} {k k2 : Nat → Nat} {M : mx_M} {Q : QQ} (T : mx_Tp M) (A : slM M z l k) (A2 : slM M z2 l2 k2) (hG : (alk l k l2 k2 < mn l l2 ∧ k2 (alk l k l2 k2) < k (alk l k l2 k2)) ∨ (alk l k l2 k2 = l2 ∧ l2 ≤ l)) (hq : Q (.inl (some (.int (w (mn l (alk l k l2 k2 + 1)))))) M) :
    ∀ (c g : Nat), g + c = l → g ≤ alk l k l2 k2 + 1 → mx_W m_X11_guideFor d 19 [.ref 58, .retAddr 0, .retAddr 0, .retAddr 0, .int (w z), .int (w z2), .int (w g), .retAddr 0, .retAddr 0] [] M Q
  | 0, g, hg, hg2 => by
    have h1 := A.2.1
    have h2 := A.1
    unfold mn at hq
    rw [if_neg (by omega)] at hq
    refine x_X11_guideFor_19 T _ _ _ ?_
    rw [w_nat (by omega), A.2.2.1]
    refine ⟨w_in (by omega) (by omega), fun _ => ⟨w_in (by omega) (by omega), hq⟩, fun h => absurd ?_ h⟩
    rw [w_le (by omega) (by omega)]; omega
  | c + 1, g, hg, hg2 => by
    have h1 := A.2.1
    have h2 := A.1
    refine x_X11_guideFor_19 T _ _ _ ?_
    rw [w_nat (by omega), A.2.2.1]
    refine ⟨w_in (by omega) (by omega), fun h => ?_, fun _ => ?_⟩
    · rw [w_le (by omega) (by omega)] at h; omega
    · refine q_guide_i T A A2 hG (by omega) hg2 (fun h => q_guide_o T A A2 hG hq c (g + 1) (by omega) (by omega)) (fun h => ?_) g 0 (Nat.zero_add g) (Nat.zero_le _)
      unfold mn at hq
      rw [if_pos (by omega), ← h] at hq
      exact hq
theorem q_guideFor {d o x y l l2 : Nat} {k k2 : Nat → Nat} {M : mx_M} {Q : QQ} (T : mx_Tp M) (A : slM M (10 * o + x) l k) (A2 : slM M (10 * o + y) l2 k2) (hG : (alk l k l2 k2 < mn l l2 ∧ k2 (alk l k l2 k2) < k (alk l k l2 k2)) ∨ (alk l k l2 k2 = l2 ∧ l2 ≤ l)) (hq : Q (.inl (some (.int (w (mn l (alk l k l2 k2 + 1)))))) M) : mx_W m_X11_guideFor d 0 [.ref 58, .int (w o), .int (w x), .int (w y), .retAddr 0, .retAddr 0, .retAddr 0, .retAddr 0, .retAddr 0] [] M Q := by
  refine x_X11_guideFor_0 T _ _ _ ?_
  rw [w_10, w_10]
  exact q_guide_o T A A2 hG hq _ 0 (Nat.zero_add _) (Nat.zero_le _)
