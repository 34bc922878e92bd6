/-! what was told stays well formed -/
theorem gdC_0 (X : TX) : gdC X cd0 := ⟨⟨Nat.zero_le _, Nat.zero_le _⟩, fun x hx => absurd hx (Nat.not_lt_zero _), fun o ho => absurd ho (Nat.not_lt_zero _), fun o ho => absurd ho (Nat.not_lt_zero _)⟩
theorem gdC_card {X : TX} {c : CD} {y h m : Nat} (G : gdC X c) (hN : ¬ dN c = 10) (hy : y ≤ 999) (hm : 1 ≤ m ∧ m ≤ 4) (hw : ∀ k, k < m → wrd (sz X (nxI X h k)) (lt8 X (nxI X h k))) : gdC X (addCd c y h m) := by
  have g := G.1
  refine ⟨⟨by show dN c + 1 ≤ 10; omega, g.2⟩, fun x hx => ?_, G.2.2.1, G.2.2.2⟩
  have hx : x < dN c + 1 := hx
  show st1 (dY c) (dN c) y x ≤ 999 ∧ (1 ≤ st1 (dW c) (dN c) m x ∧ st1 (dW c) (dN c) m x ≤ 4) ∧ ∀ k, k < st1 (dW c) (dN c) m x → wrd (sz X (nxI X (st1 (dH c) (dN c) h x) k)) (lt8 X (nxI X (st1 (dH c) (dN c) h x) k))
  by_cases e : x = dN c
  · rw [e, st1_eq, st1_eq, st1_eq]; exact ⟨hy, hm, hw⟩
  · rw [st1_ne e, st1_ne e, st1_ne e]; exact G.2.1 x (by omega)
theorem gdC_clerk {X : TX} {c : CD} (G : gdC X c) (hK : ¬ dK c = 4) : gdC X (addCk c) := by
  have g := G.1
  refine ⟨⟨g.1, by show dK c + 1 ≤ 4; omega⟩, G.2.1, fun o ho => ?_, fun o ho hi => ?_⟩
  · have ho : o < dK c + 1 := ho
    show rlW (st1 (dR c) (dK c) 0 o) (dRk c o) (flX X c o) (fgX X c o) (tlX X c o) (tgX X c o)
    by_cases e : o = dK c
    · rw [e, st1_eq]; exact ⟨Nat.zero_le _, fun i hi => absurd hi (Nat.not_lt_zero _), fun i j hi => absurd hi (Nat.not_lt_zero _)⟩
    · rw [st1_ne e]; exact G.2.2.1 o (by omega)
  · have ho : o < dK c + 1 := ho
    have hi : st1 (dI c) (dK c) false o = true := hi
    by_cases e : o = dK c
    · rw [e, st1_eq] at hi; cases hi
    · rw [st1_ne e] at hi; exact G.2.2.2 o (by omega) hi
theorem has_no {X : TX} {c : CD} {k q : Nat} (h : ¬ hasF X c k q = true) : ∀ j, j < dR c (dK c - 1) → mtF (dRk c (dK c - 1)) (fgX X c (dK c - 1)) k (nm (lt8 X q) 8) j = false := by
  intro j hj
  have h : ¬ fnd (mtF (dRk c (dK c - 1)) (fgX X c (dK c - 1)) k (nm (lt8 X q) 8)) 0 (dR c (dK c - 1)) < dR c (dK c - 1) := fun z => h (decide_eq_true z)
  exact fnd_not _ 0 (dR c (dK c - 1)) j (Nat.zero_le _) (by omega)
theorem gdC_rule {X : TX} {c : CD} {k f t : Nat} (G : gdC X c) (hK : ¬ dK c = 0) (h8 : ¬ 8 ≤ dR c (dK c - 1)) (hk : k ≤ 2) (hf : wrd (sz X f) (lt8 X f)) (hf1 : k = 2 → sz X f = 1) (ht : ¬ k = 0 → wrd (sz X t) (lt8 X t) ∧ (k = 2 → sz X t = 1)) (hn : ¬ hasF X c k f = true) : gdC X (addRl c k f t) := by
  have g := G.1
  have hno := has_no hn
  refine ⟨g, G.2.1, fun o ho => ?_, G.2.2.2⟩
  have ho : o < dK c := ho
  by_cases e : o = dK c - 1
  · have r := G.2.2.1 o ho
    rw [e] at r
    have e1 : dR (addRl c k f t) o = dR c (dK c - 1) + 1 := by rw [e]; exact st1_eq
    have e2 : dRk (addRl c k f t) o = st1 (dRk c (dK c - 1)) (dR c (dK c - 1)) k := by rw [e]; exact st1_eq
    have e3 : dRf (addRl c k f t) o = st1 (dRf c (dK c - 1)) (dR c (dK c - 1)) f := by rw [e]; exact st1_eq
    have e4 : dRt (addRl c k f t) o = st1 (dRt c (dK c - 1)) (dR c (dK c - 1)) t := by rw [e]; exact st1_eq
    unfold rlW
    rw [e1, e2]
    refine ⟨by omega, fun i hi => ?_, fun i j hi hj hkk hnn => ?_⟩
    · unfold flX fgX tlX tgX
      rw [e3, e4]
      by_cases ei : i = dR c (dK c - 1)
      · rw [ei, st1_eq, st1_eq, st1_eq]
        exact ⟨hk, hf, fun z => (ht z).1, fun z => ⟨hf1 z, (ht (by omega)).2 z⟩⟩
      · rw [st1_ne ei, st1_ne ei, st1_ne ei]
        exact r.2.1 i (by omega)
    · unfold fgX at hnn
      rw [e3] at hnn
      by_cases ei : i = dR c (dK c - 1)
      · by_cases ej : j = dR c (dK c - 1)
        · omega
        · rw [ei, st1_eq, st1_ne ej] at hkk hnn
          have z := hno j (by omega)
          unfold mtF at z
          rw [decide_eq_true hkk.symm] at z
          have z2 : decide (nm (fgX X c (dK c - 1) j) 8 = nm (lt8 X f) 8) = true := decide_eq_true hnn.symm
          rw [z2] at z; cases z
      · by_cases ej : j = dR c (dK c - 1)
        · rw [ej, st1_ne ei, st1_eq] at hkk hnn
          have z := hno i (by omega)
          unfold mtF at z
          rw [decide_eq_true hkk] at z
          have z2 : decide (nm (fgX X c (dK c - 1) i) 8 = nm (lt8 X f) 8) = true := decide_eq_true hnn
          rw [z2] at z; cases z
        · rw [st1_ne ei, st1_ne ej] at hkk hnn
          exact r.2.2 i j (by omega) (by omega) hkk hnn
  · have r := G.2.2.1 o ho
    have e1 : dR (addRl c k f t) o = dR c o := st1_ne e
    have e2 : dRk (addRl c k f t) o = dRk c o := st1_ne e
    have e3 : dRf (addRl c k f t) o = dRf c o := st1_ne e
    have e4 : dRt (addRl c k f t) o = dRt c o := st1_ne e
    have f1 : flX X (addRl c k f t) o = flX X c o := by unfold flX; rw [e3]
    have f2 : fgX X (addRl c k f t) o = fgX X c o := by unfold fgX; rw [e3]
    have f3 : tlX X (addRl c k f t) o = tlX X c o := by unfold tlX; rw [e4]
    have f4 : tgX X (addRl c k f t) o = tgX X c o := by unfold tgX; rw [e4]
    rw [e1, e2, f1, f2, f3, f4]; exact r
theorem gdC_tie {X : TX} {c : CD} {L : List SP} (G : gdC X c) (hK : ¬ dK c = 0) (hw : wfL L 0 1) : gdC X (setI c L) := by
  refine ⟨G.1, G.2.1, G.2.2.1, fun o ho hi => ?_⟩
  have hi : st1 (dI c) (dK c - 1) true o = true := hi
  show wfL (st1 (dL c) (dK c - 1) L o) 0 1
  by_cases e : o = dK c - 1
  · rw [e, st1_eq]; exact hw
  · rw [st1_ne e] at hi ⊢; exact G.2.2.2 o ho hi
theorem gdC_line {X : TX} {c : CD} {q : Nat} (h : q ≤ X.2) (G : gdC X c) (h0 : (lineF X c q).1 = 0) : gdC X (lineF X c q).2.2 := by
  unfold lineF at h0 ⊢
  by_cases a : kw X q = 4
  · have n := nx_lt (X := X) (q := q) (kw_lt (by omega))
    rw [if_pos a] at h0 ⊢
    unfold cardF at h0 ⊢
    split at h0
    · exact absurd h0 (show ¬ (2 : Nat) = 0 by decide)
    · rename_i c1
      rw [if_neg c1]
      split at h0
      · rename_i c2
        rw [if_pos c2]
        split at h0
        · rename_i c3
          rw [if_pos c3]
          split at h0
          · rename_i c4
            rw [if_pos c4]
            split at h0
            · rename_i c5
              rw [if_pos c5]
              have k := hd_ok (X := X) (h0 := nx X (nx X q)) 4 0 (nx X (nx X q)) rfl (fun _ => by decide) rfl (fun k hk => by omega) c5
              exact gdC_card G c1 c4 k.1 k.2
            · rename_i c5; exact absurd h0 c5
          · exact absurd h0 (show ¬ (2 : Nat) = 0 by decide)
        · exact absurd h0 (show ¬ (2 : Nat) = 0 by decide)
      · exact absurd h0 (show ¬ (1 : Nat) = 0 by decide)
  · rw [if_neg a] at h0 ⊢
    by_cases b : kw X q = 5
    · rw [if_pos b] at h0 ⊢
      split at h0
      · exact absurd h0 (show ¬ (2 : Nat) = 0 by decide)
      · rename_i c1; rw [if_neg c1]; exact gdC_clerk G c1
    · rw [if_neg b] at h0 ⊢
      split at h0
      · exact absurd h0 (show ¬ (1 : Nat) = 0 by decide)
      · rename_i c1
        rw [if_neg c1]
        split at h0
        · rename_i c2
          rw [if_pos c2]
          unfold ruleF at h0 ⊢
          split at h0
          · exact absurd h0 (show ¬ (2 : Nat) = 0 by decide)
          · rename_i d1
            rw [if_neg d1]
            split at h0
            · rename_i d2
              rw [if_pos d2]
              split at h0
              · rename_i d3
                rw [if_pos d3]
                have m8 : mst (kw X q - 6) ≤ 8 := by unfold mst; split <;> omega
                have w1 := lt8_wrd d2 (by omega)
                have m1 : kw X q - 6 = 2 → sz X (nx X q) = 1 := fun z => by unfold mst at d3; rw [if_pos z] at d3; have := w1.1; omega
                split at h0
                · exact absurd h0 (show ¬ (4 : Nat) = 0 by decide)
                · rename_i d4
                  rw [if_neg d4]
                  split at h0
                  · rename_i d5
                    rw [if_pos d5]
                    rw [d5] at d4
                    exact gdC_rule G c1 d1 (by omega) w1 (fun z => by omega) (fun z => absurd rfl z) d4
                  · rename_i d5
                    rw [if_neg d5]
                    split at h0
                    · rename_i d6
                      rw [if_pos d6]
                      split at h0
                      · rename_i d7
                        rw [if_pos d7]
                        have w2 := lt8_wrd d6 (by omega)
                        exact gdC_rule G c1 d1 (by omega) w1 m1 (fun _ => ⟨w2, fun z => by unfold mst at d7; rw [if_pos z] at d7; have := w2.1; omega⟩) d4
                      · exact absurd h0 (show ¬ (2 : Nat) = 0 by decide)
                    · exact absurd h0 (show ¬ (1 : Nat) = 0 by decide)
              · exact absurd h0 (show ¬ (2 : Nat) = 0 by decide)
            · exact absurd h0 (show ¬ (1 : Nat) = 0 by decide)
        · rename_i c2
          rw [if_neg c2]
          split at h0
          · rename_i c3
            have n := nx_lt (X := X) (q := q) (kw_lt (by omega))
            rw [if_pos c3]
            unfold mannF at h0 ⊢
            split at h0
            · rename_i d1
              rw [if_pos d1]
              split at h0
              · exact absurd h0 (show ¬ (5 : Nat) = 0 by decide)
              · rename_i d2; rw [if_neg d2]; exact G
            · rename_i d1
              rw [if_neg d1]
              split at h0
              · rename_i d2
                rw [if_pos d2]
                split at h0
                · exact absurd h0 (show ¬ (5 : Nat) = 0 by decide)
                · rename_i d3; rw [if_neg d3]; exact G
              · rename_i d2
                rw [if_neg d2]
                split at h0
                · exact absurd h0 (show ¬ (5 : Nat) = 0 by decide)
                · rename_i d3
                  rw [if_neg d3]
                  split at h0
                  · rename_i d4
                    rw [if_pos d4]
                    exact gdC_tie G c1 (wf_expr X 6 _ n.2 d4 0 (by decide))
                  · rename_i d4; exact absurd h0 d4
          · exact absurd h0 (show ¬ (1 : Nat) = 0 by decide)
