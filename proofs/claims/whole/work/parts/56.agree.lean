/-! what all agree on: chains from the front and from the back -/
def agP (K : Nat) (Bs : BB) (x y : Nat) : Bool := allF (fun o => Bs o x y) 0 K
theorem cnt_allF {p : Nat → Bool} : ∀ (k i : Nat), cnt p i k = k ↔ allF p i k = true
  | 0, i => ⟨fun _ => rfl, fun _ => rfl⟩
  | k + 1, i => by
    have ih := cnt_allF (p := p) k (i + 1)
    have hl := cnt_le p (i + 1) k
    rw [cnt, allF, Bool.and_eq_true, ← ih]
    by_cases h : p i = true
    · rw [if_pos h]
      constructor
      · intro e; exact ⟨h, by omega⟩
      · rintro ⟨_, e⟩; omega
    · rw [if_neg h]
      constructor
      · intro e; omega
      · rintro ⟨e, _⟩; exact absurd e h
def fwI (E : Nat → Nat → Bool) (g : Nat → Nat) (r : Nat) : Nat → Nat → Nat → Nat
  | _, 0, s => s
  | a, k + 1, s => fwI E g r (a + 1) k (if E a r && decide (s < g a + 1) then g a + 1 else s)
def fwR (E : Nat → Nat → Bool) : Nat → Nat → (Nat → Nat) → Nat → Nat
  | _, 0, _, b => b
  | r, k + 1, g, b => fwR E (r + 1) k (setF g r (fwI E g r 0 r 1)) (if b < fwI E g r 0 r 1 then fwI E g r 0 r 1 else b)
theorem fwI_le (E : Nat → Nat → Bool) (g : Nat → Nat) (r m : Nat) : ∀ (k a s : Nat), s ≤ m → (∀ x, a ≤ x → x < a + k → g x + 1 ≤ m) → fwI E g r a k s ≤ m
  | 0, a, s, hs, _ => hs
  | k + 1, a, s, hs, hg => by
    rw [fwI]
    refine fwI_le E g r m k (a + 1) _ ?_ (fun x h1 h2 => hg x (by omega) (by omega))
    split
    · exact hg a (Nat.le_refl _) (by omega)
    · exact hs
theorem fwI_ge (E : Nat → Nat → Bool) (g : Nat → Nat) (r : Nat) : ∀ (k a s : Nat), s ≤ fwI E g r a k s ∧ ∀ x, a ≤ x → x < a + k → E x r = true → g x + 1 ≤ fwI E g r a k s
  | 0, a, s => ⟨Nat.le_refl _, fun x h1 h2 => by omega⟩
  | k + 1, a, s => by
    rw [fwI]
    have ih := fwI_ge E g r k (a + 1) (if E a r && decide (s < g a + 1) then g a + 1 else s)
    have h0 : s ≤ (if E a r && decide (s < g a + 1) then g a + 1 else s) := by
      split
      · rename_i h
        rw [Bool.and_eq_true, decide_eq_true_iff] at h
        omega
      · exact Nat.le_refl _
    refine ⟨Nat.le_trans h0 ih.1, fun x h1 h2 hE => ?_⟩
    by_cases e : x = a
    · refine Nat.le_trans ?_ ih.1
      rw [e] at hE ⊢
      rw [hE, Bool.true_and]
      by_cases g2 : s < g a + 1
      · rw [if_pos (by simpa using g2)]; omega
      · rw [if_neg (by simpa using g2)]; omega
    · exact ih.2 x (by omega) (by omega) hE
theorem fwI_or (E : Nat → Nat → Bool) (g : Nat → Nat) (r : Nat) : ∀ (k a s : Nat), fwI E g r a k s = s ∨ ∃ x, a ≤ x ∧ x < a + k ∧ E x r = true ∧ fwI E g r a k s = g x + 1
  | 0, a, s => Or.inl rfl
  | k + 1, a, s => by
    rw [fwI]
    by_cases h : (E a r && decide (s < g a + 1)) = true
    · rw [if_pos h]
      rw [Bool.and_eq_true] at h
      rcases fwI_or E g r k (a + 1) (g a + 1) with e | ⟨x, h1, h2, h3, e⟩
      · exact Or.inr ⟨a, Nat.le_refl _, by omega, h.1, e⟩
      · exact Or.inr ⟨x, by omega, by omega, h3, e⟩
    · rw [if_neg h]
      rcases fwI_or E g r k (a + 1) s with e | ⟨x, h1, h2, h3, e⟩
      · exact Or.inl e
      · exact Or.inr ⟨x, by omega, by omega, h3, e⟩
/-- lengths of the chains that end at each place below r, and their most -/
def fwV (E : Nat → Nat → Bool) (r : Nat) (g : Nat → Nat) (b : Nat) : Prop := (∀ j, j < r → (1 ≤ g j ∧ g j ≤ j + 1 ∧ g j ≤ b) ∧ (2 ≤ g j → ∃ x, x < j ∧ E x j = true ∧ g x + 1 = g j) ∧ ∀ x, x < j → E x j = true → g x + 1 ≤ g j) ∧ (b = 0 ∨ ∃ p, p < r ∧ g p = b)
theorem fwV_S {E : Nat → Nat → Bool} {r b : Nat} {g : Nat → Nat} (V : fwV E r g b) : fwV E (r + 1) (setF g r (fwI E g r 0 r 1)) (if b < fwI E g r 0 r 1 then fwI E g r 0 r 1 else b) := by
  have hb : b ≤ (if b < fwI E g r 0 r 1 then fwI E g r 0 r 1 else b) ∧ fwI E g r 0 r 1 ≤ (if b < fwI E g r 0 r 1 then fwI E g r 0 r 1 else b) := by
    split <;> omega
  refine ⟨fun j hj => ?_, ?_⟩
  · by_cases q : j = r
    · rw [q, setF_eq]
      have ge := fwI_ge E g r r 0 1
      refine ⟨⟨ge.1, fwI_le _ _ _ _ _ _ _ (by omega) (fun x _ h2 => by have := (V.1 x (by omega)).1; omega), hb.2⟩, fun h => ?_, fun x hx hE => ?_⟩
      · rcases fwI_or E g r r 0 1 with e | ⟨x, _, a2, a3, e⟩
        · omega
        · exact ⟨x, by omega, a3, by rw [setF_ne (by omega), e]⟩
      · rw [setF_ne (by omega)]; exact ge.2 x (by omega) (by omega) hE
    · have v := V.1 j (by omega)
      rw [setF_ne q]
      refine ⟨⟨v.1.1, v.1.2.1, by omega⟩, fun h => ?_, fun x hx hE => ?_⟩
      · obtain ⟨x, h1, h2, h3⟩ := v.2.1 h
        exact ⟨x, h1, h2, by rw [setF_ne (by omega)]; exact h3⟩
      · rw [setF_ne (by omega)]; exact v.2.2 x hx hE
  · split
    · exact Or.inr ⟨r, by omega, setF_eq⟩
    · rcases V.2 with e | ⟨p, h1, h2⟩
      · exact Or.inl e
      · exact Or.inr ⟨p, by omega, by rw [setF_ne (by omega)]; exact h2⟩
theorem fwV_R {E : Nat → Nat → Bool} {n : Nat} : ∀ (k r b : Nat) (g : Nat → Nat), r + k = n → fwV E r g b → ∃ g2, fwV E n g2 (fwR E r k g b)
  | 0, r, b, g, hr, V => by
    have e : r = n := by omega
    subst e
    exact ⟨g, V⟩
  | k + 1, r, b, g, hr, V => fwV_R k (r + 1) _ _ (by omega) (fwV_S V)
/-- the same from the back: also no length is too small -/
def bwV (E : Nat → Nat → Bool) (n i : Nat) (g : Nat → Nat) (b : Nat) : Prop := ∀ j, i ≤ j → j < n → g j ≤ b ∧ ∀ x, j < x → x < n → E j x = true → g x + 1 ≤ g j
theorem lnI_ub (B : Nat → Nat → Bool) (f g : Nat → Nat) (i : Nat) : ∀ (k j s : Nat), ∀ x, j ≤ x → x < j + k → B (f i) (f x) = true → g x + 1 ≤ lnI B f g i j k s
  | 0, j, s, x, h1, h2, _ => by omega
  | k + 1, j, s, x, h1, h2, hB => by
    rw [lnI]
    by_cases e : x = j
    · refine Nat.le_trans ?_ (lnI_ge B f g i k (j + 1) _)
      rw [e] at hB ⊢
      rw [hB, Bool.true_and]
      by_cases g2 : s < g j + 1
      · rw [if_pos (by simpa using g2)]; omega
      · rw [if_neg (by simpa using g2)]; omega
    · exact lnI_ub B f g i k (j + 1) _ x (by omega) (by omega) hB
theorem bwV_S {B : Nat → Nat → Bool} {f : Nat → Nat} {n i b : Nat} {g : Nat → Nat} (hi : i < n) (V : bwV (fun x y => B (f x) (f y)) n (i + 1) g b) : bwV (fun x y => B (f x) (f y)) n i (lnS B f n i g) (if b < lnS B f n i g i then lnS B f n i g i else b) := by
  have eS : lnS B f n i g i = lnI B f g i (i + 1) (n - (i + 1)) 1 := if_pos rfl
  have eN : ∀ x, ¬ x = i → lnS B f n i g x = g x := fun x h => if_neg h
  have hb : b ≤ (if b < lnS B f n i g i then lnS B f n i g i else b) ∧ lnS B f n i g i ≤ (if b < lnS B f n i g i then lnS B f n i g i else b) := by
    split <;> omega
  intro j h1 h2
  by_cases q : j = i
  · rw [q]
    refine ⟨hb.2, fun x a1 a2 a3 => ?_⟩
    rw [eN x (by omega), eS]
    exact lnI_ub B f g i _ _ _ x (by omega) (by omega) a3
  · have v := V j (by omega) h2
    rw [eN j q]
    refine ⟨by omega, fun x a1 a2 a3 => ?_⟩
    rw [eN x (by omega)]
    exact v.2 x a1 a2 a3
theorem bwV_R {B : Nat → Nat → Bool} {f : Nat → Nat} {n : Nat} : ∀ (i b : Nat) (g : Nat → Nat), i ≤ n → bwV (fun x y => B (f x) (f y)) n i g b → bwV (fun x y => B (f x) (f y)) n 0 (lnR B f n i g b).1 (lnR B f n i g b).2
  | 0, b, g, _, V => V
  | i + 1, b, g, hi, V => bwV_R i _ _ (by omega) (bwV_S (by omega) V)
theorem fw_bw (B : Nat → Nat → Bool) (f : Nat → Nat) (n : Nat) : fwR (fun x y => B (f x) (f y)) 0 n (fun _ => 0) 0 = (lnA B f n).2 := by
  obtain ⟨F, VF⟩ := fwV_R (E := fun x y => B (f x) (f y)) (n := n) n 0 0 (fun _ => 0) (Nat.zero_add n) ⟨fun j hj => by omega, Or.inl rfl⟩
  have VG := lnV_A B f n
  have VU : bwV (fun x y => B (f x) (f y)) n 0 (lnA B f n).1 (lnA B f n).2 := bwV_R n 0 _ (Nat.le_refl _) (fun j h1 h2 => by omega)
  generalize (lnA B f n).1 = G at VG VU
  generalize (lnA B f n).2 = mG at VG VU
  generalize fwR (fun x y => B (f x) (f y)) 0 n (fun _ => 0) 0 = mF at VF
  have up : ∀ m j, j ≤ m → j < n → F j + G j ≤ mG + 1 := by
    intro m
    induction m with
    | zero =>
      intro j h1 h2
      have a := (VF.1 j h2).1
      have b := (VU j (Nat.zero_le _) h2).1
      omega
    | succ m ih =>
      intro j h1 h2
      have a := VF.1 j h2
      have b := (VU j (Nat.zero_le _) h2).1
      by_cases g : 2 ≤ F j
      · obtain ⟨x, a1, a2, a3⟩ := a.2.1 g
        have c := (VU x (Nat.zero_le _) (by omega)).2 j a1 h2 a2
        have d := ih x (by omega) (by omega)
        omega
      · omega
  have dn : ∀ m j, n ≤ j + m + 1 → j < n → F j + G j ≤ mF + 1 := by
    intro m
    induction m with
    | zero =>
      intro j h1 h2
      have a := (VF.1 j h2).1
      have b := (VG.1 j (Nat.zero_le _) h2).1
      omega
    | succ m ih =>
      intro j h1 h2
      have a := (VF.1 j h2).1
      have b := VG.1 j (Nat.zero_le _) h2
      by_cases g : 2 ≤ G j
      · obtain ⟨x, a1, a2, a3, a4⟩ := b.2 g
        have c := (VF.1 x a2).2.2 j a1 a3
        have d := ih x (by omega) a2
        omega
      · omega
  have le1 : mF ≤ mG := by
    rcases VF.2 with e | ⟨p, h1, h2⟩
    · omega
    · have := up p p (Nat.le_refl _) h1
      have := (VG.1 p (Nat.zero_le _) h1).1
      omega
  have le2 : mG ≤ mF := by
    rcases VG.2 with e | ⟨p, _, h1, h2⟩
    · omega
    · have := dn n p (by omega) h1
      have := (VF.1 p h1).1
      omega
  omega
/-! the class's agreed -/
theorem p_agr_i {d t n N K r b : Nat} {f g : Nat → Nat} {Bs : BB} {M0 : mx_M} {Q : QQ} (hK : 0 < K) (hr : r < N) (hb9 : b ≤ 10) (hg : ∀ j, j < r → g j ≤ 9) (s9 : Nat)
    (X : ∀ M1, wC M1 t n N K f Bs → lip cL M0 M1 → mx_I M1 44 r = w s9 → (∀ j, j < r → mx_I M1 44 j = w (g j)) → s9 ≤ 10 → mx_W m_X10_agreed (d + 1 + 1 + 1) 22 [.ref 1, .int (w (if b < s9 then s9 else b)), .int (w (r + 1)), .retAddr 0, .retAddr 0] [] M1 Q) :
    ∀ (k a s : Nat) (M : mx_M), wC M t n N K f Bs → lip cL M0 M → a + k = r → s ≤ 10 → mx_I M 44 r = w s → (∀ j, j < r → mx_I M 44 j = w (g j)) → fwI (fun x y => agP K Bs (crd N (Bs 0) x) (crd N (Bs 0) y)) g r a k s = s9 → mx_W m_X10_agreed (d + 1 + 1 + 1) 53 [.ref 1, .int (w b), .int (w r), .int (w (crd N (Bs 0) r)), .int (w a)] [] M Q
  | 0, a, s, M, W, L, ha, hs, c1, c2, e => by
    have hb := W.2.1.2.2.1
    have e : s = s9 := e
    subst e
    have H := X M W L c1 c2 hs
    refine x_X10_agreed_53 W.1 t W.2.1.1.1 W.2.1.1.2 _ _ _ _ ⟨fun _ => ?_, fun h => absurd ?_ h⟩
    · rw [w_nat (by omega), c1, w_add1]
      refine ⟨w_in (by omega) (by omega), x_J9_max_7cf53_0 W.1 _ _ ⟨fun g => ⟨rfl, rfl, _, rfl, ?_⟩, fun g => ⟨rfl, rfl, _, rfl, ?_⟩⟩⟩
      · rw [w_lt (by omega) (by omega)] at g
        rw [if_pos g] at H; exact H
      · rw [w_lt (by omega) (by omega)] at g
        rw [if_neg g] at H; exact H
    · rw [w_le (by omega) (by omega)]; omega
  | k + 1, a, s, M, W, L, ha, hs, c1, c2, e => by
    have hb := W.2.1.2.2.1
    have S := (W.2.2.2 0 hK).1
    have ga := hg a (by omega)
    have ca := c2 a (by omega)
    have h1 := crd_lt S (show a < N by omega)
    have h2 := crd_lt S hr
    have hl := cnt_le (fun o => Bs o (crd N (Bs 0) a) (crd N (Bs 0) r)) 0 K
    rw [fwI] at e
    refine x_X10_agreed_53 W.1 t W.2.1.1.1 W.2.1.1.2 _ _ _ _ ⟨fun h => ?_, fun _ => c_card (o := 0) W hK (by omega) ⟨rfl, rfl, _, rfl, p_clerksFor W.1 W.2.1 h1 h2 ⟨rfl, rfl, _, rfl, ?_⟩⟩⟩
    · rw [w_le (by omega) (by omega)] at h; omega
    · rw [W.2.1.2.1.2, w_inj (by omega) (by omega), w_nat (n := r) (by omega), w_nat (n := a) (by omega), c1, ca, w_add1, w_add1]
      refine ⟨fun z => ?_, fun z => ⟨w_in (by omega) (by omega), w_in (by omega) (by omega), ?_⟩⟩
      · have z2 : agP K Bs (crd N (Bs 0) a) (crd N (Bs 0) r) = false := by
          cases q : agP K Bs (crd N (Bs 0) a) (crd N (Bs 0) r)
          · rfl
          · exact absurd ((cnt_allF K 0).mpr q) z
        rw [z2, Bool.false_and, if_neg (by decide)] at e
        exact p_agr_i hK hr hb9 hg s9 X k (a + 1) s M W L (by omega) hs c1 c2 e
      · have z2 : agP K Bs (crd N (Bs 0) a) (crd N (Bs 0) r) = true := (cnt_allF K 0).mp z
        rw [z2, Bool.true_and] at e
        refine x_J9_max_7cf53_0 W.1 _ _ ⟨fun y => ⟨rfl, rfl, _, rfl, w_in (by omega) (by omega), fun M7 e7 => ?_⟩, fun y => ⟨rfl, rfl, _, rfl, w_in (by omega) (by omega), fun M7 e7 => ?_⟩⟩
        · rw [w_lt (by omega) (by omega)] at y
          rw [if_pos (by simpa using y)] at e
          have L7 : lip cL M M7 := by rw [e7]; exact lip_setI rfl
          refine p_agr_i hK hr hb9 hg s9 X k (a + 1) (g a + 1) M7 (wC_L L7 W) (lip_trans L L7) (by omega) (by omega) (by rw [e7]; exact I_eq) (fun q h1 => ?_) e
          rw [e7, I_ne (by omega)]; exact c2 q h1
        · rw [w_lt (by omega) (by omega)] at y
          rw [if_neg (by simpa using y)] at e
          have L7 : lip cL M M7 := by rw [e7]; exact lip_setI rfl
          refine p_agr_i hK hr hb9 hg s9 X k (a + 1) s M7 (wC_L L7 W) (lip_trans L L7) (by omega) hs (by rw [e7]; exact I_eq) (fun q h1 => ?_) e
          rw [e7, I_ne (by omega)]; exact c2 q h1
theorem p_agr_o {d t n N K : Nat} {f : Nat → Nat} {Bs : BB} {M0 : mx_M} {Q : QQ} (hK : 0 < K) (r9 : Nat)
    (hq : ∀ M1, wC M1 t n N K f Bs → lip cL M0 M1 → Q (.inl (some (.int (w r9)))) M1) :
    ∀ (k r b : Nat) (g : Nat → Nat) (M : mx_M), wC M t n N K f Bs → lip cL M0 M → r + k = N → b ≤ 10 → (∀ j, j < r → g j ≤ j + 1 ∧ mx_I M 44 j = w (g j)) → fwR (fun x y => agP K Bs (crd N (Bs 0) x) (crd N (Bs 0) y)) r k g b = r9 → mx_W m_X10_agreed (d + 1 + 1 + 1) 22 [.ref 1, .int (w b), .int (w r), .retAddr 0, .retAddr 0] [] M Q
  | 0, r, b, g, M, W, L, hr, hb9, hg, e => by
    have hb := W.2.1.2.2.1
    have e : b = r9 := e
    subst e
    refine x_X10_agreed_22 W.1 t W.2.1.1.1 W.2.1.1.2 _ _ ⟨fun _ => hq M W L, fun h => absurd ?_ h⟩
    rw [W.2.1.2.1.1, w_le (by omega) (by omega)]; omega
  | k + 1, r, b, g, M, W, L, hr, hb9, hg, e => by
    have hb := W.2.1.2.2.1
    rw [fwR] at e
    refine x_X10_agreed_22 W.1 t W.2.1.1.1 W.2.1.1.2 _ _ ⟨fun h => ?_, fun _ => c_card (o := 0) W hK (by omega) ⟨rfl, rfl, _, rfl, w_in (by omega) (by omega), fun M1 e2 => ?_⟩⟩
    · rw [W.2.1.2.1.1, w_le (by omega) (by omega)] at h; omega
    · rw [w_nat (by omega)] at e2
      have L1 : lip cL M M1 := by rw [e2]; exact lip_setI rfl
      have hle := fwI_le (fun x y => agP K Bs (crd N (Bs 0) x) (crd N (Bs 0) y)) g r (r + 1) r 0 1 (by omega) (fun x _ h2 => by have := (hg x (by omega)).1; omega)
      refine p_agr_i hK (by omega) hb9 (fun j hj => by have := (hg j hj).1; omega) _ (fun M2 W2 L2 d1 d2 hs9 => p_agr_o hK r9 hq k (r + 1) _ _ M2 W2 L2 (by omega) (by split <;> omega) (fun j hj => ?_) e) r 0 1 M1 (wC_L L1 W) (lip_trans L L1) (Nat.zero_add r) (by omega) (by rw [e2]; exact I_eq) (fun q h1 => by rw [e2, I_ne (by omega)]; exact (hg q h1).2) rfl
      by_cases q : j = r
      · rw [q, setF_eq]; exact ⟨hle, d1⟩
      · rw [setF_ne q]; exact ⟨(hg j (by omega)).1, d2 j (by omega)⟩
/-- the answer of agreed -/
def agA (N K : Nat) (Bs : BB) : Nat := if K = 0 then N else (lnA (agP K Bs) (crd N (Bs 0)) N).2
theorem p_agreed {d t n N K : Nat} {f : Nat → Nat} {Bs : BB} {M : mx_M} {Q : QQ} (W : wC M t n N K f Bs) (hq : ∀ M1, wC M1 t n N K f Bs → lip cL M M1 → Q (.inl (some (.int (w (agA N K Bs))))) M1) : mx_W m_X10_agreed (d + 1 + 1 + 1) 0 [.ref 1, .retAddr 0, .retAddr 0, .retAddr 0, .retAddr 0] [] M Q := by
  have hb := W.2.1.2.2.1
  unfold agA at hq
  refine x_X10_agreed_0 W.1 t W.2.1.1.1 W.2.1.1.2 ?_
  rw [W.2.1.2.1.2, W.2.1.2.1.1, show (0 : Int32) = w 0 from rfl, w_inj (by omega) (by omega)]
  refine ⟨fun z => ?_, fun z => ?_⟩
  · rw [if_neg z] at hq
    exact p_agr_o (by omega) _ hq N 0 0 (fun _ => 0) M W (lip_refl _ _) (Nat.zero_add N) (by omega) (fun j hj => by omega) (fw_bw (agP K Bs) (crd N (Bs 0)) N)
  · rw [if_pos z] at hq
    exact hq M W (lip_refl _ _)
/-! the reference's -/
theorem q_areAgreed_l {d n N K x y : Nat} {f : Nat → Nat} {Bs : BB} {M0 : mx_M} {Q : QQ} (hx : x < N) (hy : y < N) (b9 : Bool) (hq : ∀ M1, wM M1 n N K f Bs → lik mSc M0 M1 → Q (.inl (some (.int (mx_b b9)))) M1) :
    ∀ (k i : Nat) (M : mx_M), wM M n N K f Bs → lik mSc M0 M → i + k = K → allF (fun o => Bs o x y) i k = b9 → mx_W m_X11_areAgreed (d + 4 + 1) 2 [.ref 58, .int (w x), .int (w y), .int (w i)] [] M Q
  | 0, i, M, W, L, hi, e => by
    have hb := W.2.1.2.1
    have e : true = b9 := e
    subst e
    refine x_X11_areAgreed_2 W.1 _ _ _ ⟨fun _ => hq M W L, fun h => absurd ?_ h⟩
    rw [W.2.1.1.2, w_le (by omega) (by omega)]; omega
  | k + 1, i, M, W, L, hi, e => by
    have hb := W.2.1.2.1
    rw [allF] at e
    refine x_X11_areAgreed_2 W.1 _ _ _ ⟨fun h => ?_, fun _ => W.2.1.2.2 i (by omega) d M x y _ (lik_refl _ _) W.1 hx hy (fun M1 L1 => ⟨L1.1.1, L1.1.2.1, _, rfl, fun g => ?_, fun g => ?_⟩)⟩
    · rw [W.2.1.1.2, w_le (by omega) (by omega)] at h; omega
    · rw [g, Bool.true_and] at e
      rw [w_add1]
      exact q_areAgreed_l hx hy b9 hq k (i + 1) M1 (wM_q (sc_q L1) W) (lik_trans L L1) (by omega) e
    · rw [g, Bool.false_and] at e
      subst e
      exact hq M1 (wM_q (sc_q L1) W) (lik_trans L L1)
/-- ranks and cards are found without a word written but in 88 and 89 -/
theorem q_rank_s {d n N K o x : Nat} {f : Nat → Nat} {Bs : BB} {M0 : mx_M} {Q : QQ} (ho : o < K) (hx : x < N) (hq : ∀ M1, wM M1 n N K f Bs → lik mSc M0 M1 → Q (.inl (some (.int (w (rnk N (Bs o) x))))) M1) :
    ∀ (k i s : Nat) (M : mx_M), wM M n N K f Bs → lik mSc M0 M → i + k = N → s + cnt (fun z => Bs o z x) i k = rnk N (Bs o) x → mx_W m_X11_rankOf (d + 4 + 1) 5 [.ref 58, .int (w o), .int (w x), .int (w s), .int (w i)] [] M Q
  | 0, i, s, M, W, L, hi, e => by
    have hb := W.2.1.2.1
    refine x_X11_rankOf_5 W.1 _ _ _ _ ⟨fun _ => ?_, fun h => absurd ?_ h⟩
    · have := hq M W L
      rw [← e] at this
      exact this
    · rw [W.2.1.1.1, w_le (by omega) (by omega)]; omega
  | k + 1, i, s, M, W, L, hi, e => by
    have hb := W.2.1.2.1
    refine x_X11_rankOf_5 W.1 _ _ _ _ ⟨fun h => ?_, fun _ => W.2.1.2.2 o ho d M i x _ (lik_refl _ _) W.1 (by omega) hx (fun M1 L1 => ⟨L1.1.1, L1.1.2.1, _, rfl, fun g => ?_, fun g => ?_⟩)⟩
    · rw [W.2.1.1.1, w_le (by omega) (by omega)] at h; omega
    · rw [cnt_no (by simp [g])] at e
      rw [w_add1, Int32.add_zero]
      exact q_rank_s ho hx hq k (i + 1) s M1 (wM_q (sc_q L1) W) (lik_trans L L1) (by omega) e
    · rw [cnt_yes (by simp [g])] at e
      rw [w_add1, w_add1]
      exact q_rank_s ho hx hq k (i + 1) (s + 1) M1 (wM_q (sc_q L1) W) (lik_trans L L1) (by omega) (by omega)
theorem q_card_s {d n N K o r : Nat} {f : Nat → Nat} {Bs : BB} {M0 : mx_M} {Q : QQ} (S : sto N (Bs o)) (ho : o < K) (hr : r < N) (hq : ∀ M1, wM M1 n N K f Bs → lik mSc M0 M1 → Q (.inl (some (.int (w (crd N (Bs o) r))))) M1) :
    ∀ (k i : Nat) (M : mx_M), wM M n N K f Bs → lik mSc M0 M → i + k = N → fnd (fun x => decide (rnk N (Bs o) x = r)) i k = crd N (Bs o) r → mx_W m_X11_cardOf (d + 4 + 1 + 1) 2 [.ref 58, .int (w o), .int (w r), .int (w i)] [] M Q
  | 0, i, M, W, L, hi, e => by
    have := crd_lt S hr
    unfold fnd at e
    omega
  | k + 1, i, M, W, L, hi, e => by
    have hb := W.2.1.2.1
    have hl := rnk_lt S (show i < N by omega)
    refine x_X11_cardOf_2 W.1 _ _ _ (x_X11_rankOf_0 W.1 _ _ (q_rank_s ho (by omega) (fun M1 W1 L1 => ⟨L1.1.1, L1.1.2.1, _, rfl, fun g => ?_, fun g => ?_⟩) N 0 0 M W (lik_refl _ _) (Nat.zero_add N) (Nat.zero_add _)))
    · rw [w_inj (by omega) (by omega)] at g
      rw [fnd_stop (by simp [g])] at e
      rw [e]
      exact hq M1 W1 (lik_trans L L1)
    · rw [w_inj (by omega) (by omega)] at g
      rw [fnd_next (by simp [g])] at e
      rw [w_add1]
      exact q_card_s S ho hr hq k (i + 1) M1 W1 (lik_trans L L1) (by omega) e
theorem q_agr_i {d n N K r b : Nat} {f g : Nat → Nat} {Bs : BB} {M0 : mx_M} {Q : QQ} (S : sto N (Bs 0)) (hK : 0 < K) (hr : r < N) (hb9 : b ≤ 10) (hg : ∀ j, r < j → j < N → g j ≤ N - j) (s9 : Nat)
    (X : ∀ M1, wM M1 n N K f Bs → lip mQ M0 M1 → mx_I M1 93 r = w s9 → (∀ j, r < j → j < N → mx_I M1 93 j = w (g j)) → s9 ≤ 10 → mx_W m_X11_agreed (d + 4 + 1 + 1 + 1) 26 [.ref 58, .int (w (if b < s9 then s9 else b)), .int (w r - 1), .retAddr 0, .retAddr 0] [] M1 Q) :
    ∀ (k j s : Nat) (M : mx_M), wM M n N K f Bs → lip mQ M0 M → j + k = N → r < j → s ≤ 10 → mx_I M 93 r = w s → (∀ j, r < j → j < N → mx_I M 93 j = w (g j)) → lnI (agP K Bs) (crd N (Bs 0)) g r j k s = s9 → mx_W m_X11_agreed (d + 4 + 1 + 1 + 1) 49 [.ref 58, .int (w b), .int (w r), .int (w (crd N (Bs 0) r)), .int (w j)] [] M Q
  | 0, j, s, M, W, L, hj, hij, hs, c1, c2, e => by
    have hb := W.2.1.2.1
    have e : s = s9 := e
    subst e
    have H := X M W L c1 c2 hs
    refine x_X11_agreed_49 W.1 _ _ _ _ ⟨fun _ => ?_, fun h => absurd ?_ h⟩
    · rw [w_nat (by omega), c1, w_m1]
      refine ⟨w_in (by omega) (by omega), fun g => ?_, fun g => ⟨w_in (by omega) (by omega), ?_⟩⟩
      · rw [w_le (by omega) (by omega)] at g
        rw [if_neg (by omega)] at H; exact H
      · rw [w_le (by omega) (by omega)] at g
        rw [if_pos (by omega)] at H; exact H
    · rw [W.2.1.1.1, w_le (by omega) (by omega)]; omega
  | k + 1, j, s, M, W, L, hj, hij, hs, c1, c2, e => by
    have hb := W.2.1.2.1
    have gj := hg j hij (by omega)
    have cj := c2 j hij (by omega)
    have h1 := crd_lt S (show j < N by omega)
    have h2 := crd_lt S hr
    rw [lnI] at e
    refine x_X11_agreed_49 W.1 _ _ _ _ ⟨fun h => ?_, fun _ => ?_⟩
    · rw [W.2.1.1.1, w_le (by omega) (by omega)] at h; omega
    · rw [w_nat (n := r) (by omega), w_nat (n := j) (by omega), c1, cj, w_add1, w_add1, w_le (by omega) (by omega)]
      refine ⟨w_in (by omega) (by omega), w_in (by omega) (by omega), fun y => ?_, fun y => ?_⟩
      · rw [if_neg (by simp; omega)] at e
        exact q_agr_i S hK hr hb9 hg s9 X k (j + 1) s M W L (by omega) (by omega) hs c1 c2 e
      · refine x_X11_cardOf_0 W.1 _ _ (q_card_s (o := 0) S hK (by omega) (fun M1 W1 L1 => ⟨L1.1.1, L1.1.2.1, _, rfl, x_X11_areAgreed_0 W1.1 _ _ (q_areAgreed_l (d := d + 1) h2 h1 _ (fun M2 W2 L2 => ?_) K 0 M1 W1 (lik_refl _ _) (Nat.zero_add K) rfl)⟩) N 0 M W (lik_refl _ _) (Nat.zero_add N) rfl)
        have LL := lik_trans L1 L2
        have e93 := (LL.2 93 (by intro z; rcases z with z | z <;> omega)).1
        have d1 : mx_I M2 93 r = w s := by rw [e93]; exact c1
        have d2 : ∀ j, r < j → j < N → mx_I M2 93 j = w (g j) := fun q a1 a2 => by rw [e93]; exact c2 q a1 a2
        have L9 := lip_trans L (sc_q LL)
        refine ⟨L2.1.1, L2.1.2.1, _, rfl, fun z => ?_, fun z => ⟨w_in (by omega) (by omega), w_in (by omega) (by omega), ?_⟩⟩
        · rw [show agP K Bs (crd N (Bs 0) r) (crd N (Bs 0) j) = false from z, Bool.false_and, if_neg (by decide)] at e
          exact q_agr_i S hK hr hb9 hg s9 X k (j + 1) s M2 W2 L9 (by omega) (by omega) hs d1 d2 e
        · rw [show agP K Bs (crd N (Bs 0) r) (crd N (Bs 0) j) = true from z, Bool.true_and, if_pos (by simp; omega)] at e
          rw [d2 j hij (by omega), w_add1]
          intro M7 e7
          have L7 : lip mQ M2 M7 := by rw [e7]; exact lip_setI (by show _ ∨ _; omega)
          refine q_agr_i S hK hr hb9 hg s9 X k (j + 1) (g j + 1) M7 (wM_q L7 W2) (lip_trans L9 L7) (by omega) (by omega) (by omega) (by rw [e7]; exact I_eq) (fun q a1 a2 => ?_) e
          rw [e7, I_ne (by omega)]; exact d2 q a1 a2
theorem q_agr_o {d n N K : Nat} {f : Nat → Nat} {Bs : BB} {M0 : mx_M} {Q : QQ} (S : sto N (Bs 0)) (hK : 0 < K) (r9 : (Nat → Nat) × Nat)
    (hq : ∀ M1, wM M1 n N K f Bs → lip mQ M0 M1 → Q (.inl (some (.int (w r9.2)))) M1) :
    ∀ (i b : Nat) (g : Nat → Nat) (M : mx_M), wM M n N K f Bs → lip mQ M0 M → i ≤ N → b ≤ 10 → (∀ j, i ≤ j → j < N → g j ≤ N - j ∧ mx_I M 93 j = w (g j)) → lnR (agP K Bs) (crd N (Bs 0)) N i g b = r9 → mx_W m_X11_agreed (d + 4 + 1 + 1 + 1) 26 [.ref 58, .int (w b), .int (w i - 1), .retAddr 0, .retAddr 0] [] M Q
  | 0, b, g, M, W, L, hi, hb9, hg, e => by
    refine x_X11_agreed_26 W.1 _ _ ⟨fun _ => ?_, fun h => absurd ?_ h⟩
    · have e : (g, b) = r9 := e
      subst e
      exact hq M W L
    · decide
  | i + 1, b, g, M, W, L, hi, hb9, hg, e => by
    have hb := W.2.1.2.1
    have e1 : w (i + 1) - 1 = w i := w_sub (a := i + 1) (b := 1) (by omega)
    rw [lnR] at e
    have eS : lnS (agP K Bs) (crd N (Bs 0)) N i g i = lnI (agP K Bs) (crd N (Bs 0)) g i (i + 1) (N - (i + 1)) 1 := if_pos rfl
    have hle : lnI (agP K Bs) (crd N (Bs 0)) g i (i + 1) (N - (i + 1)) 1 ≤ N - i := lnI_le _ _ _ _ _ _ _ _ (by omega) (fun x h1 h2 => by have := (hg x (by omega) (by omega)).1; omega)
    rw [e1]
    refine x_X11_agreed_26 W.1 _ _ ⟨fun h => absurd h (w_pos (by omega)), fun _ => x_X11_cardOf_0 W.1 _ _ (q_card_s (o := 0) S hK (by omega) (fun M1 W1 L1 => ⟨L1.1.1, L1.1.2.1, _, rfl, w_in (by omega) (by omega), fun M3 e3 => ?_⟩) N 0 M W (lik_refl _ _) (Nat.zero_add N) rfl)⟩
    have e93 := (L1.2 93 (by intro z; rcases z with z | z <;> omega)).1
    rw [w_nat (by omega)] at e3
    have L3 : lip mQ M1 M3 := by rw [e3]; exact lip_setI (by show _ ∨ _; omega)
    rw [w_add1]
    refine q_agr_i S hK (by omega) hb9 (fun j h1 h2 => (hg j (by omega) h2).1) (lnI (agP K Bs) (crd N (Bs 0)) g i (i + 1) (N - (i + 1)) 1) (fun M2 W2 L2 d1 d2 hs9 => ?_) (N - (i + 1)) (i + 1) 1 M3 (wM_q L3 W1) (lip_trans L (lip_trans (sc_q L1) L3)) (by omega) (by omega) (by omega) (by rw [e3]; exact I_eq) (fun q h1 h2 => by rw [e3, I_ne (by omega), e93]; exact (hg q (by omega) h2).2) rfl
    rw [eS] at e
    refine q_agr_o S hK r9 hq i _ (lnS (agP K Bs) (crd N (Bs 0)) N i g) M2 W2 L2 (by omega) (by split <;> omega) (fun j h1 h2 => ?_) e
    unfold lnS
    by_cases q : j = i
    · rw [if_pos q, q]
      exact ⟨hle, d1⟩
    · rw [if_neg q]
      exact ⟨(hg j (by omega) h2).1, d2 j (by omega) h2⟩
theorem q_agreed {d n N K : Nat} {f : Nat → Nat} {Bs : BB} {M : mx_M} {Q : QQ} (W : wM M n N K f Bs) (S : ∀ o, o < K → sto N (Bs o)) (hq : ∀ M1, wM M1 n N K f Bs → lip mQ (mx_setI M 58 0 0) M1 → Q (.inl (some (.int (w (agA N K Bs))))) M1) : mx_W m_X11_agreed (d + 4 + 1 + 1 + 1) 0 [.ref 58, .retAddr 0, .retAddr 0, .retAddr 0, .retAddr 0] [] M Q :=
  x_X11_agreed_0 W.1 (fun M1 e1 => by
    subst e1
    have W1 := wM_0 (v := 0) W
    have hb := W1.2.1.2.1
    unfold agA at hq
    rw [W1.2.1.1.2, W1.2.1.1.1, show (0 : Int32) = w 0 from rfl, w_inj (by omega) (by omega)]
    refine ⟨fun z => ?_, fun z => ?_⟩
    · rw [if_neg z] at hq
      exact q_agr_o (S 0 (by omega)) (by omega) _ hq N 0 (fun _ => 0) _ W1 (lip_refl _ _) (Nat.le_refl _) (by omega) (fun j h1 h2 => by omega) rfl
    · rw [if_pos z] at hq
      exact hq _ W1 (lip_refl _ _))
