/-! the law's entry -/
/-- the words on the i-th text -/
def mx_tq (i : Nat) : Term := .string (mx_txt.getD i ("", 0, "")).1 (mx_txt.getD i ("", 0, "")).2.1
def mx_tws (i : Nat) : List Cond := [.exactly (mx_tq i) "java/lang/String", .eq (.field (mx_tq i) "java/lang/String" "coder" "B") (.int 0), .arrayOf (.field (mx_tq i) "java/lang/String" "value" "[B") .byte, .eq (.length (.field (mx_tq i) "java/lang/String" "value" "[B")) (.int (Int32.ofNat (mx_tlen.getD i 0)))] ++
  (List.range (mx_tlen.getD i 0)).map (fun j => .eq (.elem (.field (mx_tq i) "java/lang/String" "value" "[B") (.int (Int32.ofNat j))) (.int ((mx_tbyt.getD i []).getD j 0)))
theorem mx_fl : (flatC (Jvm.Cond.and given_1 narrow_1)).drop 35 = (List.range 33).flatMap mx_tws := by decide +kernel
theorem mx_tws_in {i : Nat} (hi : i < 33) {w : Cond} (hw : w ∈ mx_tws i) : w ∈ flatC (Jvm.Cond.and given_1 narrow_1) := by
  have h : w ∈ (List.range 33).flatMap mx_tws := List.mem_flatMap.mpr ⟨i, List.mem_range.mpr hi, hw⟩
  rw [← mx_fl] at h
  exact List.mem_of_mem_drop h
theorem mx_trf_in : ∀ i, i < 33 → Cond.stringRef (mx_txt.getD i ("", 0, "")).1 (mx_txt.getD i ("", 0, "")).2.1 (mx_txt.getD i ("", 0, "")).2.2 ∈ lw_tbl := by decide +kernel
theorem mx_w4 : Cond.isRef (.static "java/lang/Throwable" "UNASSIGNED_STACK" "[Ljava/lang/StackTraceElement;") ∈ flatC (Jvm.Cond.and given_1 narrow_1) := List.mem_of_getElem? (i := 4) (by decide +kernel)
theorem mx_w5 : Cond.isRef (.static "java/lang/Throwable" "SUPPRESSED_SENTINEL" "Ljava/util/List;") ∈ flatC (Jvm.Cond.and given_1 narrow_1) := List.mem_of_getElem? (i := 5) (by decide +kernel)
theorem mx_w6 : Cond.eq (.static "java/lang/String" "COMPACT_STRINGS" "Z") (.int 1) ∈ flatC (Jvm.Cond.and given_1 narrow_1) := List.mem_of_getElem? (i := 6) (by decide +kernel)
theorem mx_w7 : Cond.isRef (.static "jdk/internal/util/Preconditions" "SIOOBE_FORMATTER" "Ljava/util/function/BiFunction;") ∈ flatC (Jvm.Cond.and given_1 narrow_1) := List.mem_of_getElem? (i := 7) (by decide +kernel)
theorem mx_wNc : Cond.not (.castable mx_iae mx_nse) ∈ (flatC (Jvm.Cond.and given_1 narrow_1)).take 35 := by decide +kernel
theorem mx_T0 {s : State} {args : Array Value} (hts : ∀ w ∈ lw_tbl, w.before args s = true) : mx_T s := by
  intro w hw hk a
  have h0 := hts w hw
  cases w with
  | fieldLinkNest a1 i b n d h9 => exact va_Nw.use rfl (va_Nw.of rfl h0)
  | methodLinkNest a1 i x h9 => exact va_Nw.use rfl (va_Nw.of rfl h0)
  | castable C T => exact va_Nw.use rfl (va_Nw.of rfl h0)
  | declares x => exact va_Nw.use rfl (va_Nw.of rfl h0)
  | _ => exact word_at (U := s) (State.WarmedH.refl s) (good_of_word hk) h0
theorem mx_ins : ∀ (ci : Nat) (q : vw_C), vwCl[ci]? = some q → Cond.instantiable q.1 q.2.2 ∈ lw_tbl := by
  intro ci q h
  have : ∀ c ∈ vwCl, Cond.instantiable c.1 c.2.2 ∈ lw_tbl := by decide +kernel
  exact this q (List.mem_of_getElem? h)
theorem mx_acs : Cond.arrayClass .int ∈ lw_tbl ∧ Cond.arrayClass .long ∈ lw_tbl ∧ Cond.arrayClass .byte ∈ lw_tbl ∧ Cond.arrayClass .boolean ∈ lw_tbl := by decide +kernel
theorem mx_arr0 {s : State} {args : Array Value} {ty : FieldType} (hk : ∀ C, ty ≠ .object C) (h : (Cond.arrayClass ty).before args s = true) : ∃ cA : ClassId, ArrOfT s cA ty ∧ va_RA s cA ty := by
  obtain ⟨c, k, comp, h1, h2, h3⟩ := Cond.arrayClass_spec h
  refine ⟨c, fun n z => ⟨fun k h => (by cases h), k, h2, comp, h3⟩, ?_⟩
  cases ty with
  | object C => exact absurd rfl (hk C)
  | _ => exact h1
theorem mx_wst : Cond.laysStatic "java/lang/Throwable" "UNASSIGNED_STACK" "[Ljava/lang/StackTraceElement;" ∈ lw_tbl ∧ Cond.laysStatic "java/lang/Throwable" "SUPPRESSED_SENTINEL" "Ljava/util/List;" ∈ lw_tbl ∧ Cond.laysStatic "java/lang/String" "COMPACT_STRINGS" "Z" ∈ lw_tbl ∧ Cond.laysStatic "jdk/internal/util/Preconditions" "SIOOBE_FORMATTER" "Ljava/util/function/BiFunction;" ∈ lw_tbl ∧
    Cond.initialized "java/lang/Throwable" ∈ lw_tbl ∧ Cond.initialized "java/lang/String" ∈ lw_tbl ∧ Cond.initialized "jdk/internal/util/Preconditions" ∈ lw_tbl := by decide +kernel
set_option maxHeartbeats 1000000 in
theorem mx_env0 {s : State} {b L : Nat} {xs : Nat → Int32} (hts : ∀ w ∈ lw_tbl, w.before #[Value.ref b] s = true) (hgv : (Jvm.Cond.and given_1 narrow_1).before #[Value.ref b] s = true) (hX : va_X b L xs s s.heap) (hbl : b < s.heap.size) : ∃ Γ : mx_G, mx_z Γ = s.heap.size ∧ mx_old Γ 1 = b ∧ mx_Env Γ (L, xs) s := by
  have hf := flat_of_before _ hgv
  have hA : ∀ a : Nat, a < s.heap.size → ¬ (fun q => s.heap.size ≤ q) a := fun a h => Nat.not_le.mpr h
  have hcl : ∀ ci : Nat, ∃ z : ClassId × (Nat → Nat), ∀ q : vw_C, vwCl[ci]? = some q → u_Kn s q.1 q.2.1 q.2.2 z.1 z.2 := by
    intro ci
    cases hq : vwCl[ci]? with
    | none => exact ⟨(0, fun _ => 0), fun q h => by cases h⟩
    | some q =>
      obtain ⟨cC, iS, h⟩ := u_known (C := q.1) (T := q.2.1) (N := q.2.2) (n := q.2.2) hts (fun w hw => (List.mem_filter.mp ((mx_ok ci q hq).1 w hw)).1) (hts _ (mx_ins ci q hq))
      exact ⟨(cC, iS), fun q2 h2 => by cases h2; exact h⟩
  obtain ⟨dz, hdz⟩ := Classical.axiomOfChoice hcl
  obtain ⟨cI, hI1, hI2⟩ := mx_arr0 (ty := .int) (fun C h => by cases h) (hts _ mx_acs.1)
  obtain ⟨cJ, hJ1, hJ2⟩ := mx_arr0 (ty := .long) (fun C h => by cases h) (hts _ mx_acs.2.1)
  obtain ⟨cB, hB1, hB2⟩ := mx_arr0 (ty := .byte) (fun C h => by cases h) (hts _ mx_acs.2.2.1)
  obtain ⟨cZ, hZ1, hZ2⟩ := mx_arr0 (ty := .boolean) (fun C h => by cases h) (hts _ mx_acs.2.2.2)
  have hst : ∀ i : Nat, ∃ z : Nat × Nat, i < 33 → vk_S 1 [mx_tlen.getD i 0] [mx_tbyt.getD i []] (fun _ => z.1) (fun _ => z.2) (fun q => s.heap.size ≤ q) s s.heap ∧ (mx_tq i).eval #[Value.ref b] s none [] s = some (.ref z.1) := by
    intro i
    by_cases hi : i < 33
    · have hl9 : mx_tlen.getD i 0 < 2 ^ 31 := by
        have : ∀ j, j < 33 → mx_tlen.getD j 0 < 2 ^ 31 := by decide +kernel
        exact this i hi
      have hw : ∀ w ∈ mx_tws i, w.before #[Value.ref b] s = true := fun w h => hf w (mx_tws_in hi h)
      obtain ⟨aK, aV, h1, h2⟩ := vk_Sof (args := #[Value.ref b]) (s := s) (N := 1) (tm := fun _ => mx_tq i) (len := [mx_tlen.getD i 0]) (byt := [mx_tbyt.getD i []]) (A := fun q => s.heap.size ≤ q)
        (fun j hj => by have : j = 0 := by omega
                        subst this; exact hl9) (fun j hj => hw _ (by simp [mx_tws])) (fun j hj => hw _ (by simp [mx_tws])) (fun j hj => hw _ (by simp [mx_tws]))
        (fun j hj => by have : j = 0 := by omega
                        subst this; exact hw _ (by simp [mx_tws]))
        (fun j hj k hk => by
          have : j = 0 := by omega
          subst this
          refine hw _ (List.mem_append_right _ (List.mem_map.mpr ⟨k, List.mem_range.mpr hk, rfl⟩)))
        (fun j k hj hk hjk => absurd (show j = k by omega) hjk) hA
      refine ⟨(aK 0, aV 0), fun _ => ⟨?_, h2 0 Nat.one_pos⟩⟩
      refine ⟨fun j hj => ?_, fun j k hj hk _ => by omega⟩
      have : j = 0 := by omega
      subst this
      exact h1.1 0 hj
    · exact ⟨(0, 0), fun h => absurd h hi⟩
  obtain ⟨sz, hsz⟩ := Classical.axiomOfChoice hst
  have hF := va_Zqof (A := fun q => s.heap.size ≤ q) (hts _ mx_wst.2.2.2.1) (hts _ mx_wst.2.2.2.2.2.2) (hf _ mx_w7) hA
  obtain ⟨f0, hF⟩ : ∃ f0 : Nat, va_Z "jdk/internal/util/Preconditions" "SIOOBE_FORMATTER" "Ljava/util/function/BiFunction;" .null (fun q => s.heap.size ≤ q) s s.heap ∨ va_Z "jdk/internal/util/Preconditions" "SIOOBE_FORMATTER" "Ljava/util/function/BiFunction;" (.ref f0) (fun q => s.heap.size ≤ q) s s.heap := by
    rcases hF with h | ⟨t, h⟩
    · exact ⟨0, Or.inl h⟩
    · exact ⟨t, Or.inr h⟩
  have ho : ∀ i, (fun n => if n = 0 then f0 else if n = 1 then b else if n % 2 = 0 then (sz ((n - 2) / 2)).1 else (sz ((n - 3) / 2)).2 : Nat → Nat) (2 * i + 2) = (sz i).1 := by
    intro i
    have e1 : ¬ 2 * i + 2 = 0 := by omega
    have e2 : ¬ 2 * i + 2 = 1 := by omega
    have e3 : (2 * i + 2) % 2 = 0 := by omega
    have e4 : (2 * i + 2 - 2) / 2 = i := by omega
    simp only [e1, e2, e3, e4, if_false, if_true]
  have ho2 : ∀ i, (fun n => if n = 0 then f0 else if n = 1 then b else if n % 2 = 0 then (sz ((n - 2) / 2)).1 else (sz ((n - 3) / 2)).2 : Nat → Nat) (2 * i + 3) = (sz i).2 := by
    intro i
    have e1 : ¬ 2 * i + 3 = 0 := by omega
    have e2 : ¬ 2 * i + 3 = 1 := by omega
    have e3 : ¬ (2 * i + 3) % 2 = 0 := by omega
    have e4 : (2 * i + 3 - 3) / 2 = i := by omega
    simp only [e1, e2, e3, e4, if_false]
  refine ⟨((fun k => (dz k).1, fun k => (dz k).2), s.heap.size, (fun n => if n = 0 then f0 else if n = 1 then b else if n % 2 = 0 then (sz ((n - 2) / 2)).1 else (sz ((n - 3) / 2)).2), (cI, cJ, cB, cZ)), rfl, rfl, mx_T0 hts, ⟨fun c q hq => hdz c q hq, fun k q hq => ?_⟩, fun i hi => ?_, fun i hi => ?_, vx_Zqof (hts _ mx_wst.1) (hts _ mx_wst.2.2.2.2.1) (hf _ mx_w4) hA, vx_Zqof (hts _ mx_wst.2.1) (hts _ mx_wst.2.2.2.2.1) (hf _ mx_w5) hA,
    va_Zof (hts _ mx_wst.2.2.1) (hts _ mx_wst.2.2.2.2.2.1) (va_eqt (hf _ mx_w6)) hA, va_Nc.of (hf _ (List.mem_of_mem_take mx_wNc)), hX, hbl, Nat.le_refl _, hF⟩
  · match k, hq with
    | 0, hq => cases hq; exact ⟨hI1, hI2⟩
    | 1, hq => cases hq; exact ⟨hJ1, hJ2⟩
    | 2, hq => cases hq; exact ⟨hB1, hB2⟩
    | 3, hq => cases hq; exact ⟨hZ1, hZ2⟩
    | k + 4, hq => simp at hq
  · have h9 := (hsz i hi).2
    refine ⟨?_, ?_⟩
    · exact (hts _ (mx_trf_in i hi) : (Cond.stringRef _ _ _).before #[Value.ref b] s = true)
    · show (mx_tq i).eval #[] s none [] s = some (.ref _)
      have e9 : (mx_tq i).eval #[] s none [] s = (mx_tq i).eval #[Value.ref b] s none [] s := rfl
      rw [e9, h9]
      exact congrArg (fun z => some (Value.ref z)) (ho i).symm
  · have h9 := (hsz i hi).1
    show vk_S 1 _ _ (fun _ => (fun n => if n = 0 then f0 else if n = 1 then b else if n % 2 = 0 then (sz ((n - 2) / 2)).1 else (sz ((n - 3) / 2)).2 : Nat → Nat) (2 * i + 2)) (fun _ => (fun n => if n = 0 then f0 else if n = 1 then b else if n % 2 = 0 then (sz ((n - 2) / 2)).1 else (sz ((n - 3) / 2)).2 : Nat → Nat) (2 * i + 3)) _ s s.heap
    rw [ho i, ho2 i]
    exact h9
