/-! the law's entry -/
/-- the words on the i-th text -/
def mx_tq (i : Nat) : Term := .string (mx_txt.getD i ("", 0, "")).1 (mx_txt.getD i ("", 0, "")).2.1
def mx_tws (i : Nat) : List Cond := [.exactly (mx_tq i) "java/lang/String", .eq (.field (mx_tq i) "java/lang/String" "coder" "B") (.int 0), .arrayOf (.field (mx_tq i) "java/lang/String" "value" "[B") .byte, .eq (.length (.field (mx_tq i) "java/lang/String" "value" "[B")) (.int (Int32.ofNat (mx_tlen.getD i 0)))] ++
  (List.range (mx_tlen.getD i 0)).map (fun j => .eq (.elem (.field (mx_tq i) "java/lang/String" "value" "[B") (.int (Int32.ofNat j))) (.int ((mx_tbyt.getD i []).getD j 0)))
theorem mx_fl : (flatC (Jvm.Cond.and given_1 narrow_1)).drop 35 = (List.range 33).flatMap mx_tws := by decide +kernel
theorem mx_tws_in {i : Nat} (hi : i < 33) {w : Cond} (hw : w ∈ mx_tws i) : w ∈ flatC (Jvm.Cond.and given_1 narrow_1) := by
  have h : w ∈ (List.range 33).flatMap mx_tws := List.mem_flatMap.mpr ⟨i, List.mem_range.mpr hi, hw⟩
  rw [← mx_fl] at h
  exact List.mem_of_mem_drop h
theorem mx_trf_in : ∀ i, i < 33 → Cond.stringRef (mx_txt.getD i ("", 0, "")).1 (mx_txt.getD i ("", 0, "")).2.1 (mx_txt.getD i ("", 0, "")).2.2 ∈ lw_tbl := by decide +kernel
theorem mx_w4 : Cond.isRef (.static "java/lang/Throwable" "UNASSIGNED_STACK" "[Ljava/lang/StackTraceElement;") ∈ flatC (Jvm.Cond.and given_1 narrow_1) := List.mem_of_getElem? (i := 4) (by decide +kernel)
theorem mx_w5 : Cond.isRef (.static "java/lang/Throwable" "SUPPRESSED_SENTINEL" "Ljava/util/List;") ∈ flatC (Jvm.Cond.and given_1 narrow_1) := List.mem_of_getElem? (i := 5) (by decide +kernel)
theorem mx_w6 : Cond.eq (.static "java/lang/String" "COMPACT_STRINGS" "Z") (.int 1) ∈ flatC (Jvm.Cond.and given_1 narrow_1) := List.mem_of_getElem? (i := 6) (by decide +kernel)
theorem mx_w7 : Cond.isRef (.static "jdk/internal/util/Preconditions" "SIOOBE_FORMATTER" "Ljava/util/function/BiFunction;") ∈ flatC (Jvm.Cond.and given_1 narrow_1) := List.mem_of_getElem? (i := 7) (by decide +kernel)
theorem mx_wNc : Cond.not (.castable mx_iae mx_nse) ∈ (flatC (Jvm.Cond.and given_1 narrow_1)).take 35 := by decide +kernel
