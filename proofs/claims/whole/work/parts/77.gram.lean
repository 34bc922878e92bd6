/-! ties: what is read -/
abbrev RS := Nat × Nat × List SP
def sg (X : TX) (q c : Nat) : Bool := decide (knd X q = 3 ∧ X.1 q = c)
def opP (X : TX) (q : Nat) : Nat := if sg X q 42 = true then 10 else if sg X q 47 = true then 11 else 0
def opS (X : TX) (q : Nat) : Nat := if sg X q 43 = true then 8 else if sg X q 45 = true then 9 else 0
def opT (X : TX) (q : Nat) : Nat := if sg X q 60 = true then 6 else if sg X q 61 = true then 7 else 0
def opA (X : TX) (q : Nat) : Nat := if kw X q = 12 then 4 else 0
def opO (X : TX) (q : Nat) : Nat := if kw X q = 13 then 5 else 0
def partF (X : TX) (E : Nat → RS) (q : Nat) : RS :=
  if sg X q 40 = true then (if (E (nx X q)).1 = 0 then (if sg X (E (nx X q)).2.1 41 = true then (0, nx X (E (nx X q)).2.1, (E (nx X q)).2.2) else (1, (E (nx X q)).2.1, [])) else E (nx X q))
  else if knd X q = 2 then (if sz X q ≤ 4 then (0, nx X q, [(0, dgv X q (sz X q))]) else (2, q, []))
  else if knd X q = 1 then (if kw X q < 4 then (0, nx X q, [(1, kw X q)]) else (3, q, []))
  else (1, q, [])
def lopF (X : TX) (op : Nat → Nat) (F : Nat → RS) : Nat → Nat → List SP → RS
  | 0, q, L => (0, q, L)
  | f + 1, q, L => if op q = 0 then (0, q, L) else if (F (nx X q)).1 = 0 then lopF X op F f (F (nx X q)).2.1 (L ++ (F (nx X q)).2.2 ++ [(2, op q)]) else F (nx X q)
def chF (X : TX) (op : Nat → Nat) (F : Nat → RS) (q : Nat) : RS := if (F q).1 = 0 then lopF X op F 700 (F q).2.1 (F q).2.2 else F q
def testF (X : TX) (F : Nat → RS) (q : Nat) : RS :=
  if (F q).1 = 0 then (if opT X (F q).2.1 = 0 then F q else if (F (nx X (F q).2.1)).1 = 0 then (0, (F (nx X (F q).2.1)).2.1, (F q).2.2 ++ (F (nx X (F q).2.1)).2.2 ++ [(2, opT X (F q).2.1)]) else F (nx X (F q).2.1)) else F q
def ntF (X : TX) : Nat → Nat → Nat × Nat
  | 0, q => (0, q)
  | f + 1, q => if kw X q = 14 then ((ntF X f (nx X q)).1 + 1, (ntF X f (nx X q)).2) else (0, q)
def notF (X : TX) (F : Nat → RS) (q : Nat) : RS :=
  if (ntF X 6 q).1 = 6 ∧ kw X (ntF X 6 q).2 = 14 then (2, (ntF X 6 q).2, []) else if (F (ntF X 6 q).2).1 = 0 then (0, (F (ntF X 6 q).2).2.1, (F (ntF X 6 q).2).2.2 ++ List.replicate (ntF X 6 q).1 (2, 3)) else F (ntF X 6 q).2
def exprF (X : TX) : Nat → Nat → RS
  | 0, q => (if knd X q = 2 ∨ knd X q = 1 ∨ sg X q 40 = true then 2 else 1, q, [])
  | k + 1, q => chF X (opO X) (chF X (opA X) (notF X (testF X (chF X (opS X) (chF X (opP X) (partF X (exprF X k))))))) q
/-- what is read goes on, and is not longer than its signs -/
def gd (X : TX) (F : Nat → RS) : Prop := ∀ q, q ≤ X.2 → (F q).1 = 0 → q + (F q).2.2.length ≤ (F q).2.1 ∧ (F q).2.1 ≤ X.2
def gdo (X : TX) (op : Nat → Nat) : Prop := ∀ q, ¬ op q = 0 → q < X.2 ∧ 3 ≤ op q ∧ op q ≤ 11
theorem sg_lt {X : TX} {q c : Nat} (h : sg X q c = true) : q < X.2 := knd_lt (by have := (of_decide_eq_true h).1; omega)
theorem kw_lt {X : TX} {q : Nat} (h : kw X q < 15) : q < X.2 := knd_lt (by have := kw_k h; omega)
theorem gdo_P (X : TX) : gdo X (opP X) := by
  intro q h; unfold opP at h ⊢
  by_cases a : sg X q 42 = true
  · rw [if_pos a]; exact ⟨sg_lt a, by decide⟩
  · by_cases b : sg X q 47 = true
    · rw [if_neg a, if_pos b]; exact ⟨sg_lt b, by decide⟩
    · rw [if_neg a, if_neg b] at h; exact absurd rfl h
theorem gdo_S (X : TX) : gdo X (opS X) := by
  intro q h; unfold opS at h ⊢
  by_cases a : sg X q 43 = true
  · rw [if_pos a]; exact ⟨sg_lt a, by decide⟩
  · by_cases b : sg X q 45 = true
    · rw [if_neg a, if_pos b]; exact ⟨sg_lt b, by decide⟩
    · rw [if_neg a, if_neg b] at h; exact absurd rfl h
theorem gdo_T (X : TX) : gdo X (opT X) := by
  intro q h; unfold opT at h ⊢
  by_cases a : sg X q 60 = true
  · rw [if_pos a]; exact ⟨sg_lt a, by decide⟩
  · by_cases b : sg X q 61 = true
    · rw [if_neg a, if_pos b]; exact ⟨sg_lt b, by decide⟩
    · rw [if_neg a, if_neg b] at h; exact absurd rfl h
theorem gdo_A (X : TX) : gdo X (opA X) := by
  intro q h; unfold opA at h ⊢
  by_cases a : kw X q = 12
  · rw [if_pos a]; exact ⟨kw_lt (by omega), by decide⟩
  · rw [if_neg a] at h; exact absurd rfl h
theorem gdo_O (X : TX) : gdo X (opO X) := by
  intro q h; unfold opO at h ⊢
  by_cases a : kw X q = 13
  · rw [if_pos a]; exact ⟨kw_lt (by omega), by decide⟩
  · rw [if_neg a] at h; exact absurd rfl h
theorem gd_lop {X : TX} {op : Nat → Nat} {F : Nat → RS} (G : gd X F) (O : gdo X op) : ∀ (f q : Nat) (L : List SP), q ≤ X.2 → (lopF X op F f q L).1 = 0 → q + (lopF X op F f q L).2.2.length ≤ (lopF X op F f q L).2.1 + L.length ∧ (lopF X op F f q L).2.1 ≤ X.2
  | 0, q, L, hq, _ => ⟨by show q + L.length ≤ q + L.length; omega, hq⟩
  | f + 1, q, L, hq, h => by
    unfold lopF at h ⊢
    by_cases a : op q = 0
    · rw [if_pos a]; exact ⟨by show q + L.length ≤ q + L.length; omega, hq⟩
    · have o := O q a
      have n := nx_lt o.1
      rw [if_neg a] at h ⊢
      by_cases b : (F (nx X q)).1 = 0
      · rw [if_pos b] at h ⊢
        have g := G _ n.2 b
        have i := gd_lop G O f _ _ g.2 h
        simp only [List.length_append, List.length_singleton] at i
        exact ⟨by omega, i.2⟩
      · rw [if_neg b] at h; exact absurd h b
theorem gd_ch {X : TX} {op : Nat → Nat} {F : Nat → RS} (G : gd X F) (O : gdo X op) : gd X (chF X op F) := by
  intro q hq h
  unfold chF at h ⊢
  by_cases b : (F q).1 = 0
  · rw [if_pos b] at h ⊢
    have g := G q hq b
    have i := gd_lop G O 700 _ _ g.2 h
    exact ⟨by omega, i.2⟩
  · rw [if_neg b] at h; exact absurd h b
theorem gd_part {X : TX} {E : Nat → RS} (G : gd X E) : gd X (partF X E) := by
  intro q hq h
  unfold partF at h ⊢
  by_cases a : sg X q 40 = true
  · have n := nx_lt (sg_lt a)
    rw [if_pos a] at h ⊢
    by_cases b : (E (nx X q)).1 = 0
    · rw [if_pos b] at h ⊢
      have g := G _ n.2 b
      by_cases c : sg X (E (nx X q)).2.1 41 = true
      · rw [if_pos c]
        have m := nx_lt (sg_lt c)
        exact ⟨by show q + (E (nx X q)).2.2.length ≤ nx X (E (nx X q)).2.1; omega, m.2⟩
      · rw [if_neg c] at h; exact absurd h (show ¬ (1 : Nat) = 0 by decide)
    · rw [if_neg b] at h; exact absurd h b
  · rw [if_neg a] at h ⊢
    by_cases b : knd X q = 2
    · have n := nx_lt (knd_lt (X := X) (q := q) (by omega))
      rw [if_pos b] at h ⊢
      by_cases c : sz X q ≤ 4
      · rw [if_pos c]; exact ⟨by show q + 1 ≤ nx X q; omega, n.2⟩
      · rw [if_neg c] at h; exact absurd h (show ¬ (2 : Nat) = 0 by decide)
    · rw [if_neg b] at h ⊢
      by_cases c : knd X q = 1
      · have n := nx_lt (knd_lt (X := X) (q := q) (by omega))
        rw [if_pos c] at h ⊢
        by_cases e : kw X q < 4
        · rw [if_pos e]; exact ⟨by show q + 1 ≤ nx X q; omega, n.2⟩
        · rw [if_neg e] at h; exact absurd h (show ¬ (3 : Nat) = 0 by decide)
      · rw [if_neg c] at h; exact absurd h (show ¬ (1 : Nat) = 0 by decide)
theorem gd_test {X : TX} {F : Nat → RS} (G : gd X F) : gd X (testF X F) := by
  intro q hq h
  unfold testF at h ⊢
  by_cases b : (F q).1 = 0
  · rw [if_pos b] at h ⊢
    have g := G q hq b
    by_cases c : opT X (F q).2.1 = 0
    · rw [if_pos c]; exact g
    · have o := gdo_T X _ c
      have n := nx_lt o.1
      rw [if_neg c] at h ⊢
      by_cases e : (F (nx X (F q).2.1)).1 = 0
      · rw [if_pos e]
        have i := G _ n.2 e
        refine ⟨?_, i.2⟩
        show q + ((F q).2.2 ++ (F (nx X (F q).2.1)).2.2 ++ [(2, opT X (F q).2.1)]).length ≤ _
        simp only [List.length_append, List.length_singleton]
        show _ ≤ (F (nx X (F q).2.1)).2.1
        omega
      · rw [if_neg e] at h; exact absurd h e
  · rw [if_neg b] at h; exact absurd h b
theorem ntF_le (X : TX) : ∀ (f q : Nat), q ≤ X.2 → q + (ntF X f q).1 ≤ (ntF X f q).2 ∧ (ntF X f q).2 ≤ X.2 ∧ (ntF X f q).1 ≤ f
  | 0, q, h => ⟨Nat.le_refl _, h, Nat.le_refl _⟩
  | f + 1, q, h => by
    unfold ntF
    by_cases a : kw X q = 14
    · have n := nx_lt (X := X) (q := q) (kw_lt (by omega))
      have i := ntF_le X f (nx X q) n.2
      rw [if_pos a]
      exact ⟨by show q + ((ntF X f (nx X q)).1 + 1) ≤ (ntF X f (nx X q)).2; omega, i.2.1, by show (ntF X f (nx X q)).1 + 1 ≤ f + 1; omega⟩
    · rw [if_neg a]; exact ⟨Nat.le_refl _, h, by show 0 ≤ f + 1; omega⟩
theorem gd_not {X : TX} {F : Nat → RS} (G : gd X F) : gd X (notF X F) := by
  intro q hq h
  have z := ntF_le X 6 q hq
  unfold notF at h ⊢
  by_cases a : (ntF X 6 q).1 = 6 ∧ kw X (ntF X 6 q).2 = 14
  · rw [if_pos a] at h; exact absurd h (show ¬ (2 : Nat) = 0 by decide)
  · rw [if_neg a] at h ⊢
    by_cases b : (F (ntF X 6 q).2).1 = 0
    · rw [if_pos b]
      have g := G _ z.2.1 b
      refine ⟨?_, g.2⟩
      show q + ((F (ntF X 6 q).2).2.2 ++ List.replicate (ntF X 6 q).1 (2, 3)).length ≤ (F (ntF X 6 q).2).2.1
      rw [List.length_append, List.length_replicate]
      omega
    · rw [if_neg b] at h; exact absurd h b
theorem gd_expr (X : TX) : ∀ (k : Nat), gd X (exprF X k)
  | 0 => fun q hq h => by
    have h : (if knd X q = 2 ∨ knd X q = 1 ∨ sg X q 40 = true then 2 else 1) = 0 := h
    split at h <;> omega
  | k + 1 => gd_ch (gd_ch (gd_not (gd_test (gd_ch (gd_ch (gd_part (gd_expr X k)) (gdo_P X)) (gdo_S X)))) (gdo_A X)) (gdo_O X)
/-! the program may run -/
theorem wfL_app : ∀ (L L2 : List SP) (h m e : Nat), wfL L h m → wfL L2 m e → wfL (L ++ L2) h e
  | [], L2, h, m, e, h1, h2 => by have h1 : h = m := h1; rw [h1]; exact h2
  | s :: L, L2, h, m, e, h1, h2 => by
    rcases h1 with ⟨a, b, c, g⟩ | ⟨a, b, c, g⟩ | ⟨a, b, c, c2, g⟩ | ⟨a, b, c, c2, c3, g⟩
    · exact Or.inl ⟨a, b, c, wfL_app L L2 _ m e g h2⟩
    · exact Or.inr (Or.inl ⟨a, b, c, wfL_app L L2 _ m e g h2⟩)
    · exact Or.inr (Or.inr (Or.inl ⟨a, b, c, c2, wfL_app L L2 _ m e g h2⟩))
    · exact Or.inr (Or.inr (Or.inr ⟨a, b, c, c2, c3, wfL_app L L2 _ m e g h2⟩))
def wfb (X : TX) (F : Nat → RS) (b : Nat) : Prop := ∀ q, q ≤ X.2 → (F q).1 = 0 → ∀ h, h + b ≤ 64 → wfL (F q).2.2 h (h + 1)
def gdb (op : Nat → Nat) : Prop := ∀ q, ¬ op q = 0 → 4 ≤ op q ∧ op q ≤ 11
theorem gdb_P (X : TX) : gdb (opP X) := fun q h => by unfold opP at h ⊢; split <;> (try split) <;> simp_all
theorem gdb_S (X : TX) : gdb (opS X) := fun q h => by unfold opS at h ⊢; split <;> (try split) <;> simp_all
theorem gdb_T (X : TX) : gdb (opT X) := fun q h => by unfold opT at h ⊢; split <;> (try split) <;> simp_all
theorem gdb_A (X : TX) : gdb (opA X) := fun q h => by unfold opA at h ⊢; split <;> simp_all
theorem gdb_O (X : TX) : gdb (opO X) := fun q h => by unfold opO at h ⊢; split <;> simp_all
theorem wf_bin {L1 L2 : List SP} {c h : Nat} (h1 : wfL L1 h (h + 1)) (h2 : wfL L2 (h + 1) (h + 2)) (hc : 4 ≤ c ∧ c ≤ 11) (hh : h + 2 ≤ 64) : wfL (L1 ++ L2 ++ [(2, c)]) h (h + 1) := by
  refine wfL_app _ _ h (h + 2) (h + 1) (wfL_app _ _ h (h + 1) (h + 2) h1 h2) (Or.inr (Or.inr (Or.inr ⟨rfl, hc.1, hc.2, by omega, by omega, ?_⟩)))
  show h + 2 - 1 = h + 1
  omega
theorem wf_lop {X : TX} {op : Nat → Nat} {F : Nat → RS} {b : Nat} (G : gd X F) (O : gdo X op) (B : gdb op) (W : wfb X F b) (hb : 1 ≤ b) : ∀ (f q : Nat) (L : List SP), q ≤ X.2 → (lopF X op F f q L).1 = 0 → ∀ h, h + (b + 1) ≤ 64 → wfL L h (h + 1) → wfL (lopF X op F f q L).2.2 h (h + 1)
  | 0, q, L, hq, _, h, _, hw => hw
  | f + 1, q, L, hq, h0, h, hh, hw => by
    unfold lopF at h0 ⊢
    by_cases a : op q = 0
    · rw [if_pos a]; exact hw
    · have o := O q a
      have n := nx_lt o.1
      rw [if_neg a] at h0 ⊢
      by_cases c : (F (nx X q)).1 = 0
      · rw [if_pos c] at h0 ⊢
        have g := G _ n.2 c
        exact wf_lop G O B W hb f _ _ g.2 h0 h hh (wf_bin hw (W _ n.2 c (h + 1) (by omega)) (B q a) (by omega))
      · rw [if_neg c] at h0; exact absurd h0 c
theorem wf_ch {X : TX} {op : Nat → Nat} {F : Nat → RS} {b : Nat} (G : gd X F) (O : gdo X op) (B : gdb op) (W : wfb X F b) (hb : 1 ≤ b) : wfb X (chF X op F) (b + 1) := by
  intro q hq h0 h hh
  unfold chF at h0 ⊢
  by_cases c : (F q).1 = 0
  · rw [if_pos c] at h0 ⊢
    exact wf_lop G O B W hb 700 _ _ (G q hq c).2 h0 h hh (W q hq c h (by omega))
  · rw [if_neg c] at h0; exact absurd h0 c
theorem dgv_9 {X : TX} {q : Nat} (h : knd X q = 2) (h4 : sz X q ≤ 4) : dgv X q (sz X q) < 10000 := by
  have hq := knd_lt (X := X) (q := q) (by omega)
  have hs : sz X q = dend X q - q := by have hk := knd_cases hq; rcases hk with k | k | k | k <;> omega
  have hd := dend_le X (Nat.le_of_lt hq)
  have l := dgv_lt (X := X) (q := q) (sz X q) (by omega)
  have : 10 ^ sz X q ≤ 10 ^ 4 := Nat.pow_le_pow_right (by decide) h4
  omega
theorem wf_part {X : TX} {E : Nat → RS} {b : Nat} (W : wfb X E b) (hb : 1 ≤ b) : wfb X (partF X E) b := by
  intro q hq h0 h hh
  unfold partF at h0 ⊢
  by_cases a : sg X q 40 = true
  · have n := nx_lt (sg_lt a)
    rw [if_pos a] at h0 ⊢
    by_cases c : (E (nx X q)).1 = 0
    · rw [if_pos c] at h0 ⊢
      by_cases e : sg X (E (nx X q)).2.1 41 = true
      · rw [if_pos e]; exact W _ n.2 c h hh
      · rw [if_neg e] at h0; exact absurd h0 (show ¬ (1 : Nat) = 0 by decide)
    · rw [if_neg c] at h0; exact absurd h0 c
  · rw [if_neg a] at h0 ⊢
    by_cases c : knd X q = 2
    · rw [if_pos c] at h0 ⊢
      by_cases e : sz X q ≤ 4
      · rw [if_pos e]; exact Or.inl ⟨rfl, dgv_9 c e, by omega, rfl⟩
      · rw [if_neg e] at h0; exact absurd h0 (show ¬ (2 : Nat) = 0 by decide)
    · rw [if_neg c] at h0 ⊢
      by_cases e : knd X q = 1
      · rw [if_pos e] at h0 ⊢
        by_cases f : kw X q < 4
        · rw [if_pos f]; exact Or.inr (Or.inl ⟨rfl, f, by omega, rfl⟩)
        · rw [if_neg f] at h0; exact absurd h0 (show ¬ (3 : Nat) = 0 by decide)
      · rw [if_neg e] at h0; exact absurd h0 (show ¬ (1 : Nat) = 0 by decide)
theorem wf_test {X : TX} {F : Nat → RS} {b : Nat} (G : gd X F) (W : wfb X F b) (hb : 1 ≤ b) : wfb X (testF X F) (b + 1) := by
  intro q hq h0 h hh
  unfold testF at h0 ⊢
  by_cases c : (F q).1 = 0
  · have g := G q hq c
    rw [if_pos c] at h0 ⊢
    by_cases e : opT X (F q).2.1 = 0
    · rw [if_pos e]; exact W q hq c h (by omega)
    · have n := nx_lt (gdo_T X _ e).1
      rw [if_neg e] at h0 ⊢
      by_cases f : (F (nx X (F q).2.1)).1 = 0
      · rw [if_pos f]; exact wf_bin (W q hq c h (by omega)) (W _ n.2 f (h + 1) (by omega)) (gdb_T X _ e) (by omega)
      · rw [if_neg f] at h0; exact absurd h0 f
  · rw [if_neg c] at h0; exact absurd h0 c
theorem wf_rep : ∀ (m h : Nat), h + 1 ≤ 64 → wfL (List.replicate m (2, 3)) (h + 1) (h + 1)
  | 0, h, _ => rfl
  | m + 1, h, hh => Or.inr (Or.inr (Or.inl ⟨rfl, rfl, by omega, by omega, wf_rep m h hh⟩))
theorem wf_not {X : TX} {F : Nat → RS} {b : Nat} (W : wfb X F b) (hb : 1 ≤ b) : wfb X (notF X F) b := by
  intro q hq h0 h hh
  have z := ntF_le X 6 q hq
  unfold notF at h0 ⊢
  by_cases a : (ntF X 6 q).1 = 6 ∧ kw X (ntF X 6 q).2 = 14
  · rw [if_pos a] at h0; exact absurd h0 (show ¬ (2 : Nat) = 0 by decide)
  · rw [if_neg a] at h0 ⊢
    by_cases c : (F (ntF X 6 q).2).1 = 0
    · rw [if_pos c]; exact wfL_app _ _ h (h + 1) (h + 1) (W _ z.2.1 c h hh) (wf_rep _ h (by omega))
    · rw [if_neg c] at h0; exact absurd h0 c
theorem wf_expr (X : TX) : ∀ (k : Nat), wfb X (exprF X k) (5 * k + 1)
  | 0 => fun q hq h0 => by
    have h : (if knd X q = 2 ∨ knd X q = 1 ∨ sg X q 40 = true then 2 else 1) = 0 := h0
    split at h <;> omega
  | k + 1 => by
    have g0 := gd_part (gd_expr X k)
    have g1 := gd_ch g0 (gdo_P X)
    have g2 := gd_ch g1 (gdo_S X)
    have g3 := gd_not (gd_test g2)
    have w0 := wf_part (wf_expr X k) (by omega)
    have w1 := wf_ch g0 (gdo_P X) (gdb_P X) w0 (by omega)
    have w2 := wf_ch g1 (gdo_S X) (gdb_S X) w1 (by omega)
    have w3 := wf_not (wf_test g2 w2 (by omega)) (by omega)
    have w4 := wf_ch g3 (gdo_A X) (gdb_A X) w3 (by omega)
    exact wf_ch (gd_ch g3 (gdo_A X)) (gdo_O X) (gdb_O X) w4 (by omega)
