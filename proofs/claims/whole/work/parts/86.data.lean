/-! what a text tells -/
def st1 {α : Type} (f : Nat → α) (i : Nat) (v : α) : Nat → α := fun k => if k = i then v else f k
theorem st1_eq {α : Type} {f : Nat → α} {i : Nat} {v : α} : st1 f i v i = v := if_pos rfl
theorem st1_ne {α : Type} {f : Nat → α} {i k : Nat} {v : α} (h : ¬ k = i) : st1 f i v k = f k := if_neg h
def nxI (X : TX) (q : Nat) : Nat → Nat
  | 0 => q
  | k + 1 => nx X (nxI X q k)
/-- cards: how many, year, where the heading begins, how many words; clerks: how many, rules, kinds, where they begin; turned, joined, tied, ties -/
abbrev CD := (Nat × (Nat → Nat) × (Nat → Nat) × (Nat → Nat)) × (Nat × (Nat → Nat) × (Nat → Nat → Nat) × (Nat → Nat → Nat) × (Nat → Nat → Nat)) × ((Nat → Bool) × (Nat → Bool) × (Nat → Bool) × (Nat → List SP))
abbrev dN (c : CD) : Nat := c.1.1
abbrev dY (c : CD) : Nat → Nat := c.1.2.1
abbrev dH (c : CD) : Nat → Nat := c.1.2.2.1
abbrev dW (c : CD) : Nat → Nat := c.1.2.2.2
abbrev dK (c : CD) : Nat := c.2.1.1
abbrev dR (c : CD) : Nat → Nat := c.2.1.2.1
abbrev dRk (c : CD) : Nat → Nat → Nat := c.2.1.2.2.1
abbrev dRf (c : CD) : Nat → Nat → Nat := c.2.1.2.2.2.1
abbrev dRt (c : CD) : Nat → Nat → Nat := c.2.1.2.2.2.2
abbrev dT (c : CD) : Nat → Bool := c.2.2.1
abbrev dJ (c : CD) : Nat → Bool := c.2.2.2.1
abbrev dI (c : CD) : Nat → Bool := c.2.2.2.2.1
abbrev dL (c : CD) : Nat → List SP := c.2.2.2.2.2
def hlX (X : TX) (c : CD) (x k : Nat) : Nat := sz X (nxI X (dH c x) k)
def hgX (X : TX) (c : CD) (x k : Nat) : Nat → Nat := lt8 X (nxI X (dH c x) k)
def flX (X : TX) (c : CD) (o i : Nat) : Nat := sz X (dRf c o i)
def fgX (X : TX) (c : CD) (o i : Nat) : Nat → Nat := lt8 X (dRf c o i)
def tlX (X : TX) (c : CD) (o i : Nat) : Nat := sz X (dRt c o i)
def tgX (X : TX) (c : CD) (o i : Nat) : Nat → Nat := lt8 X (dRt c o i)
def cd0 : CD := ((0, fun _ => 0, fun _ => 0, fun _ => 0), (0, fun _ => 0, fun _ _ => 0, fun _ _ => 0, fun _ _ => 0), (fun _ => false, fun _ => false, fun _ => false, fun _ => []))
def addCd (c : CD) (y h m : Nat) : CD := ((dN c + 1, st1 (dY c) (dN c) y, st1 (dH c) (dN c) h, st1 (dW c) (dN c) m), c.2)
def addCk (c : CD) : CD := (c.1, (dK c + 1, st1 (dR c) (dK c) 0, dRk c, dRf c, dRt c), (st1 (dT c) (dK c) false, st1 (dJ c) (dK c) false, st1 (dI c) (dK c) false, dL c))
def addRl (c : CD) (k f t : Nat) : CD := (c.1, (dK c, st1 (dR c) (dK c - 1) (dR c (dK c - 1) + 1), st1 (dRk c) (dK c - 1) (st1 (dRk c (dK c - 1)) (dR c (dK c - 1)) k), st1 (dRf c) (dK c - 1) (st1 (dRf c (dK c - 1)) (dR c (dK c - 1)) f), st1 (dRt c) (dK c - 1) (st1 (dRt c (dK c - 1)) (dR c (dK c - 1)) t)), c.2.2)
def setT (c : CD) : CD := (c.1, c.2.1, (st1 (dT c) (dK c - 1) true, dJ c, dI c, dL c))
def setJ (c : CD) : CD := (c.1, c.2.1, (dT c, st1 (dJ c) (dK c - 1) true, dI c, dL c))
def setI (c : CD) (L : List SP) : CD := (c.1, c.2.1, (dT c, dJ c, st1 (dI c) (dK c - 1) true, st1 (dL c) (dK c - 1) L))
abbrev LR := Nat × Nat × CD
/-- a heading: fault, place, how many words -/
def hdF (X : TX) : Nat → Nat → Nat → Nat × Nat × Nat
  | 0, j, q => if knd X q = 1 then (2, q, j) else (0, q, j)
  | f + 1, j, q => if j = 0 ∨ knd X q = 1 then (if knd X q = 1 then (if sz X q ≤ 8 then hdF X f (j + 1) (nx X q) else (2, q, j)) else (1, q, j)) else (0, q, j)
def cardF (X : TX) (c : CD) (q : Nat) : LR :=
  if dN c = 10 then (2, q, c) else if knd X (nx X q) = 2 then (if sz X (nx X q) ≤ 4 then (if dgv X (nx X q) (sz X (nx X q)) ≤ 999 then (if (hdF X 4 0 (nx X (nx X q))).1 = 0 then (0, (hdF X 4 0 (nx X (nx X q))).2.1, addCd c (dgv X (nx X q) (sz X (nx X q))) (nx X (nx X q)) (hdF X 4 0 (nx X (nx X q))).2.2) else ((hdF X 4 0 (nx X (nx X q))).1, (hdF X 4 0 (nx X (nx X q))).2.1, c)) else (2, nx X q, c)) else (2, nx X q, c)) else (1, nx X q, c)
def hasF (X : TX) (c : CD) (k q : Nat) : Bool := decide (fnd (mtF (dRk c (dK c - 1)) (fgX X c (dK c - 1)) k (nm (lt8 X q) 8)) 0 (dR c (dK c - 1)) < dR c (dK c - 1))
def mst (k : Nat) : Nat := if k = 2 then 1 else 8
def ruleF (X : TX) (c : CD) (k q : Nat) : LR :=
  if 8 ≤ dR c (dK c - 1) then (2, q, c) else if knd X (nx X q) = 1 then (if sz X (nx X q) ≤ mst k then (if hasF X c k (nx X q) = true then (4, nx X q, c) else if k = 0 then (0, nx X (nx X q), addRl c 0 (nx X q) (nx X q)) else if knd X (nx X (nx X q)) = 1 then (if sz X (nx X (nx X q)) ≤ mst k then (0, nx X (nx X (nx X q)), addRl c k (nx X q) (nx X (nx X q))) else (2, nx X (nx X q), c)) else (1, nx X (nx X q), c)) else (2, nx X q, c)) else (1, nx X q, c)
def mannF (X : TX) (c : CD) (k q : Nat) : LR :=
  if k = 9 then (if dT c (dK c - 1) = true then (5, q, c) else (0, nx X q, setT c)) else if k = 10 then (if dJ c (dK c - 1) = true then (5, q, c) else (0, nx X q, setJ c)) else if dI c (dK c - 1) = true then (5, q, c) else if (exprF X 6 (nx X q)).1 = 0 then (0, (exprF X 6 (nx X q)).2.1, setI c (exprF X 6 (nx X q)).2.2) else ((exprF X 6 (nx X q)).1, (exprF X 6 (nx X q)).2.1, c)
def lineF (X : TX) (c : CD) (q : Nat) : LR :=
  if kw X q = 4 then cardF X c q else if kw X q = 5 then (if dK c = 4 then (2, q, c) else (0, nx X q, addCk c)) else if dK c = 0 then (1, q, c) else if 6 ≤ kw X q ∧ kw X q ≤ 8 then ruleF X c (kw X q - 6) q else if 9 ≤ kw X q ∧ kw X q ≤ 11 then mannF X c (kw X q) q else (1, q, c)
def semF (X : TX) (r : LR) : LR := if r.1 = 0 then (if sg X r.2.1 59 = true then (0, nx X r.2.1, r.2.2) else (1, r.2.1, r.2.2)) else r
def prsF (X : TX) : Nat → CD → Nat → LR
  | 0, c, q => (0, q, c)
  | f + 1, c, q => if knd X q = 0 then (0, q, c) else if (semF X (lineF X c q)).1 = 0 then prsF X f (semF X (lineF X c q)).2.2 (semF X (lineF X c q)).2.1 else semF X (lineF X c q)
/-- what is sure of what was told -/
def gdC (X : TX) (c : CD) : Prop := (dN c ≤ 10 ∧ dK c ≤ 4) ∧ (∀ x, x < dN c → dY c x ≤ 999 ∧ (1 ≤ dW c x ∧ dW c x ≤ 4) ∧ ∀ k, k < dW c x → wrd (hlX X c x k) (hgX X c x k)) ∧ (∀ o, o < dK c → rlW (dR c o) (dRk c o) (flX X c o) (fgX X c o) (tlX X c o) (tgX X c o)) ∧ ∀ o, o < dK c → dI c o = true → wfL (dL c o) 0 1
theorem hd_le {X : TX} : ∀ (f j q : Nat), q ≤ X.2 → q ≤ (hdF X f j q).2.1 ∧ (hdF X f j q).2.1 ≤ X.2
  | 0, j, q, h => by unfold hdF; split <;> exact ⟨Nat.le_refl _, h⟩
  | f + 1, j, q, h => by
    unfold hdF
    split
    · split
      · split
        · have n := nx_le X h
          have i := hd_le f (j + 1) (nx X q) n.2
          exact ⟨by omega, i.2⟩
        · exact ⟨Nat.le_refl _, h⟩
      · exact ⟨Nat.le_refl _, h⟩
    · exact ⟨Nat.le_refl _, h⟩
theorem nxI_s (X : TX) (q : Nat) : ∀ (k : Nat), nxI X (nx X q) k = nxI X q (k + 1)
  | 0 => rfl
  | k + 1 => by show nx X (nxI X (nx X q) k) = nx X (nxI X q (k + 1)); rw [nxI_s X q k]
/-- the words of a heading -/
theorem hd_ok {X : TX} {h0 : Nat} : ∀ (f j q : Nat), q = nxI X h0 j → (j = 0 → 1 ≤ f) → j + f = 4 → (∀ k, k < j → wrd (sz X (nxI X h0 k)) (lt8 X (nxI X h0 k))) → (hdF X f j q).1 = 0 → (1 ≤ (hdF X f j q).2.2 ∧ (hdF X f j q).2.2 ≤ 4) ∧ ∀ k, k < (hdF X f j q).2.2 → wrd (sz X (nxI X h0 k)) (lt8 X (nxI X h0 k))
  | 0, j, q, hq, h1, h4, hw, h => by
    unfold hdF at h ⊢
    split at h
    · exact absurd h (show ¬ (2 : Nat) = 0 by decide)
    · rename_i z
      rw [if_neg z]; exact ⟨⟨by show 1 ≤ j; omega, by show j ≤ 4; omega⟩, hw⟩
  | f + 1, j, q, hq, h1, h4, hw, h => by
    unfold hdF at h ⊢
    by_cases a : j = 0 ∨ knd X q = 1
    · rw [if_pos a] at h ⊢
      by_cases b : knd X q = 1
      · rw [if_pos b] at h ⊢
        by_cases e : sz X q ≤ 8
        · rw [if_pos e] at h ⊢
          refine hd_ok f (j + 1) (nx X q) (by rw [hq]; rfl) (fun z => by omega) (by omega) (fun k hk => ?_) h
          rcases Nat.lt_or_ge k j with g | g
          · exact hw k g
          · rw [show k = j by omega, ← hq]; exact lt8_wrd b e
        · rw [if_neg e] at h; exact absurd h (show ¬ (2 : Nat) = 0 by decide)
      · rw [if_neg b] at h; exact absurd h (show ¬ (1 : Nat) = 0 by decide)
    · rw [if_neg a] at h ⊢
      exact ⟨⟨by show 1 ≤ j; omega, by show j ≤ 4; omega⟩, hw⟩
theorem nx_b {X : TX} {q : Nat} (h : q ≤ X.2) : nx X q ≤ X.2 := (nx_le X h).2
theorem line_le {X : TX} {c : CD} {q : Nat} (h : q ≤ X.2) (h0 : (lineF X c q).1 = 0) : q < (lineF X c q).2.1 ∧ (lineF X c q).2.1 ≤ X.2 := by
  unfold lineF at h0 ⊢
  by_cases a : kw X q = 4
  · have n := nx_lt (X := X) (q := q) (kw_lt (by omega))
    rw [if_pos a] at h0 ⊢
    unfold cardF at h0 ⊢
    split at h0
    · exact absurd h0 (show ¬ (2 : Nat) = 0 by decide)
    · rename_i c1
      rw [if_neg c1]
      split at h0
      · rename_i c2
        rw [if_pos c2]
        split at h0
        · rename_i c3
          rw [if_pos c3]
          split at h0
          · rename_i c4
            rw [if_pos c4]
            split at h0
            · rename_i c5
              rw [if_pos c5]
              have n2 := nx_le X n.2
              have i := hd_le (X := X) 4 0 (nx X (nx X q)) n2.2
              exact ⟨by show q < (hdF X 4 0 (nx X (nx X q))).2.1; omega, i.2⟩
            · rename_i c5; exact absurd h0 c5
          · exact absurd h0 (show ¬ (2 : Nat) = 0 by decide)
        · exact absurd h0 (show ¬ (2 : Nat) = 0 by decide)
      · exact absurd h0 (show ¬ (1 : Nat) = 0 by decide)
  · rw [if_neg a] at h0 ⊢
    by_cases b : kw X q = 5
    · have n := nx_lt (X := X) (q := q) (kw_lt (by omega))
      rw [if_pos b] at h0 ⊢
      split at h0
      · exact absurd h0 (show ¬ (2 : Nat) = 0 by decide)
      · rename_i c1; rw [if_neg c1]; exact n
    · rw [if_neg b] at h0 ⊢
      split at h0
      · exact absurd h0 (show ¬ (1 : Nat) = 0 by decide)
      · rename_i c1
        rw [if_neg c1]
        split at h0
        · rename_i c2
          have n := nx_lt (X := X) (q := q) (kw_lt (by omega))
          rw [if_pos c2]
          unfold ruleF at h0 ⊢
          have n2 := nx_le X n.2
          have n3 := nx_le X n2.2
          split at h0
          · exact absurd h0 (show ¬ (2 : Nat) = 0 by decide)
          · rename_i d1
            rw [if_neg d1]
            split at h0
            · rename_i d2
              rw [if_pos d2]
              split at h0
              · rename_i d3
                rw [if_pos d3]
                split at h0
                · exact absurd h0 (show ¬ (4 : Nat) = 0 by decide)
                · rename_i d4
                  rw [if_neg d4]
                  split at h0
                  · rename_i d5
                    rw [if_pos d5]; exact ⟨by show q < nx X (nx X q); omega, n2.2⟩
                  · rename_i d5
                    rw [if_neg d5]
                    split at h0
                    · rename_i d6
                      rw [if_pos d6]
                      split at h0
                      · rename_i d7
                        rw [if_pos d7]; exact ⟨by show q < nx X (nx X (nx X q)); omega, n3.2⟩
                      · exact absurd h0 (show ¬ (2 : Nat) = 0 by decide)
                    · exact absurd h0 (show ¬ (1 : Nat) = 0 by decide)
              · exact absurd h0 (show ¬ (2 : Nat) = 0 by decide)
            · exact absurd h0 (show ¬ (1 : Nat) = 0 by decide)
        · rename_i c2
          rw [if_neg c2]
          split at h0
          · rename_i c3
            have n := nx_lt (X := X) (q := q) (kw_lt (by omega))
            rw [if_pos c3]
            unfold mannF at h0 ⊢
            split at h0
            · rename_i d1
              rw [if_pos d1]
              split at h0
              · exact absurd h0 (show ¬ (5 : Nat) = 0 by decide)
              · rename_i d2; rw [if_neg d2]; exact n
            · rename_i d1
              rw [if_neg d1]
              split at h0
              · rename_i d2
                rw [if_pos d2]
                split at h0
                · exact absurd h0 (show ¬ (5 : Nat) = 0 by decide)
                · rename_i d3; rw [if_neg d3]; exact n
              · rename_i d2
                rw [if_neg d2]
                split at h0
                · exact absurd h0 (show ¬ (5 : Nat) = 0 by decide)
                · rename_i d3
                  rw [if_neg d3]
                  split at h0
                  · rename_i d4
                    rw [if_pos d4]
                    have g := gd_expr X 6 _ n.2 d4
                    exact ⟨by show q < (exprF X 6 (nx X q)).2.1; omega, g.2⟩
                  · rename_i d4; exact absurd h0 d4
          · exact absurd h0 (show ¬ (1 : Nat) = 0 by decide)
