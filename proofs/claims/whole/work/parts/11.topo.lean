/-! where everything is, once it is made (by tools/mktopo.py) -/
def mx_SH : List mx_S := [.inl 9, .inl 4, .inl 8, .inl 6, .inr (.byte, 700), .inl 7, .inr (.int, 700), .inr (.int, 4), .inr (.int, 4), .inr (.int, 64), .inl 1, .inr (.int, 10), .inr (.int, 10), .inr (.int, 10), .inr (.long, 40), .inr (.int, 4), .inr (.int, 32), .inr (.long, 32), .inr (.long, 32), .inr (.boolean, 4), .inr (.boolean, 4), .inr (.boolean, 4), .inr (.int, 40), .inl 3, .inr (.int, 1750), .inr (.int, 50), .inr (.int, 50), .inr (.int, 50), .inr (.long, 4), .inr (.int, 32), .inl 5, .inr (.int, 10), .inl 5, .inr (.int, 10), .inl 0, .inr (.long, 40), .inl 0, .inr (.long, 40), .inl 2, .inr (.int, 100), .inr (.int, 1024), .inr (.int, 10), .inr (.int, 10), .inr (.int, 10), .inl 1, .inr (.int, 10), .inr (.int, 10), .inr (.int, 10), .inr (.long, 40), .inr (.int, 4), .inr (.int, 32), .inr (.long, 32), .inr (.long, 32), .inr (.boolean, 4), .inr (.boolean, 4), .inr (.boolean, 4), .inr (.int, 40), .inl 10, .inr (.int, 10), .inr (.int, 10), .inr (.int, 4), .inr (.int, 32), .inr (.int, 5), .inr (.int, 5), .inr (.int, 5), .inr (.int, 2800), .inr (.long, 40), .inr (.long, 32), .inr (.long, 32), .inr (.int, 700), .inr (.int, 2), .inr (.int, 10), .inr (.int, 10), .inr (.int, 4), .inr (.int, 32), .inr (.int, 5), .inr (.int, 5), .inr (.int, 5), .inr (.int, 2800), .inr (.int, 950), .inr (.long, 40), .inr (.long, 32), .inr (.long, 32), .inr (.boolean, 9), .inr (.int, 50), .inr (.int, 1800), .inr (.long, 4), .inr (.int, 4), .inr (.int, 950), .inr (.int, 11), .inr (.int, 11), .inr (.int, 440), .inr (.int, 10), .inr (.int, 10), .inr (.int, 1024), .inr (.int, 11), .inr (.int, 440), .inr (.long, 1)]
def mx_RL : List (Nat × Nat × Nat) := [(4, 0, 5), (3, 0, 4), (2, 0, 3), (6, 0, 7), (6, 1, 8), (6, 2, 9), (6, 3, 10), (2, 1, 6), (11, 0, 12), (11, 1, 13), (11, 2, 14), (11, 3, 15), (11, 4, 16), (11, 5, 17), (11, 6, 18), (11, 7, 19), (11, 8, 20), (11, 9, 21), (11, 10, 22), (11, 11, 23), (1, 0, 2), (1, 1, 4), (24, 0, 25), (24, 1, 26), (24, 2, 27), (24, 3, 28), (24, 4, 29), (24, 5, 30), (1, 2, 24), (31, 0, 32), (1, 3, 31), (33, 0, 34), (1, 4, 33), (35, 0, 36), (1, 5, 35), (37, 0, 38), (1, 6, 37), (39, 0, 40), (39, 1, 41), (39, 2, 42), (1, 7, 39), (1, 8, 43), (1, 9, 44), (45, 0, 46), (45, 1, 47), (45, 2, 48), (45, 3, 49), (45, 4, 50), (45, 5, 51), (45, 6, 52), (45, 7, 53), (45, 8, 54), (45, 9, 55), (45, 10, 56), (45, 11, 57), (58, 3, 59), (58, 4, 60), (58, 5, 61), (58, 6, 62), (58, 7, 63), (58, 8, 64), (58, 9, 65), (58, 10, 66), (58, 11, 67), (58, 12, 68), (58, 13, 69), (58, 14, 70), (58, 18, 71), (58, 32, 72), (58, 33, 73), (58, 34, 74), (58, 35, 75), (58, 36, 76), (58, 37, 77), (58, 38, 78), (58, 39, 79), (58, 40, 80), (58, 41, 81), (58, 42, 82), (58, 43, 83), (58, 44, 84), (58, 45, 85), (58, 46, 86), (58, 47, 87), (58, 48, 88), (58, 49, 89), (58, 50, 90), (58, 51, 91), (58, 52, 92), (58, 54, 93), (58, 55, 94), (58, 58, 95), (58, 62, 96), (58, 63, 97)]
def mx_Tp (M : mx_M) : Prop := mx_sh M = mx_SH ∧ ∀ q ∈ mx_RL, mx_R M q.1 q.2.1 = q.2.2
def mx_shp0 : Nat → Option mx_S
  | 0 => none
  | k + 1 => mx_SH[k]?
theorem tp_s {M : mx_M} (T : mx_Tp M) (k : Nat) {s : mx_S} (h : mx_shp0 k = some s) : mx_shp M k = some s := by
  cases k with
  | zero => cases h
  | succ k =>
    show (mx_sh M)[k]? = some s
    rw [T.1]
    exact h
theorem tp_r {M : mx_M} (T : mx_Tp M) (i : Nat) {k j v : Nat} (h : mx_RL[i]? = some (k, j, v)) : mx_R M k j = v := T.2 _ (List.mem_of_getElem? h)
theorem tp_of {M M1 : mx_M} (e1 : mx_sh M1 = mx_sh M) (e2 : mx_R M1 = mx_R M) (T : mx_Tp M) : mx_Tp M1 := ⟨e1.trans T.1, fun q hq => by rw [e2]; exact T.2 q hq⟩
/-- one of the two catalogues; one of the two rows; one of the two lists of acts -/
def mx_Cat (t : Nat) : Prop := t = 11 ∨ t = 45
def mx_Row (a : Nat) : Prop := a = 31 ∨ a = 33
def mx_Act (a : Nat) : Prop := a = 35 ∨ a = 37
theorem cat_s {M : mx_M} (T : mx_Tp M) {a : Nat} (h : mx_Cat a) : mx_shp M a = some (.inl 1) := by
  rcases h with rfl | rfl
  · exact tp_s T 11 rfl
  · exact tp_s T 45 rfl
theorem cat_r0 {M : mx_M} (T : mx_Tp M) {a : Nat} (h : mx_Cat a) : mx_R M a 0 = a + 1 := by
  rcases h with rfl | rfl
  · exact tp_r T 8 rfl
  · exact tp_r T 43 rfl
theorem cat_a0 {M : mx_M} (T : mx_Tp M) {a : Nat} (h : mx_Cat a) : mx_shp M (a + 1) = some (.inr (.int, 10)) := by
  rcases h with rfl | rfl
  · exact tp_s T 12 rfl
  · exact tp_s T 46 rfl
theorem cat_r1 {M : mx_M} (T : mx_Tp M) {a : Nat} (h : mx_Cat a) : mx_R M a 1 = a + 2 := by
  rcases h with rfl | rfl
  · exact tp_r T 9 rfl
  · exact tp_r T 44 rfl
theorem cat_a1 {M : mx_M} (T : mx_Tp M) {a : Nat} (h : mx_Cat a) : mx_shp M (a + 2) = some (.inr (.int, 10)) := by
  rcases h with rfl | rfl
  · exact tp_s T 13 rfl
  · exact tp_s T 47 rfl
theorem cat_r2 {M : mx_M} (T : mx_Tp M) {a : Nat} (h : mx_Cat a) : mx_R M a 2 = a + 3 := by
  rcases h with rfl | rfl
  · exact tp_r T 10 rfl
  · exact tp_r T 45 rfl
theorem cat_a2 {M : mx_M} (T : mx_Tp M) {a : Nat} (h : mx_Cat a) : mx_shp M (a + 3) = some (.inr (.int, 10)) := by
  rcases h with rfl | rfl
  · exact tp_s T 14 rfl
  · exact tp_s T 48 rfl
theorem cat_r3 {M : mx_M} (T : mx_Tp M) {a : Nat} (h : mx_Cat a) : mx_R M a 3 = a + 4 := by
  rcases h with rfl | rfl
  · exact tp_r T 11 rfl
  · exact tp_r T 46 rfl
theorem cat_a3 {M : mx_M} (T : mx_Tp M) {a : Nat} (h : mx_Cat a) : mx_shp M (a + 4) = some (.inr (.long, 40)) := by
  rcases h with rfl | rfl
  · exact tp_s T 15 rfl
  · exact tp_s T 49 rfl
theorem cat_r4 {M : mx_M} (T : mx_Tp M) {a : Nat} (h : mx_Cat a) : mx_R M a 4 = a + 5 := by
  rcases h with rfl | rfl
  · exact tp_r T 12 rfl
  · exact tp_r T 47 rfl
theorem cat_a4 {M : mx_M} (T : mx_Tp M) {a : Nat} (h : mx_Cat a) : mx_shp M (a + 5) = some (.inr (.int, 4)) := by
  rcases h with rfl | rfl
  · exact tp_s T 16 rfl
  · exact tp_s T 50 rfl
theorem cat_r5 {M : mx_M} (T : mx_Tp M) {a : Nat} (h : mx_Cat a) : mx_R M a 5 = a + 6 := by
  rcases h with rfl | rfl
  · exact tp_r T 13 rfl
  · exact tp_r T 48 rfl
theorem cat_a5 {M : mx_M} (T : mx_Tp M) {a : Nat} (h : mx_Cat a) : mx_shp M (a + 6) = some (.inr (.int, 32)) := by
  rcases h with rfl | rfl
  · exact tp_s T 17 rfl
  · exact tp_s T 51 rfl
theorem cat_r6 {M : mx_M} (T : mx_Tp M) {a : Nat} (h : mx_Cat a) : mx_R M a 6 = a + 7 := by
  rcases h with rfl | rfl
  · exact tp_r T 14 rfl
  · exact tp_r T 49 rfl
theorem cat_a6 {M : mx_M} (T : mx_Tp M) {a : Nat} (h : mx_Cat a) : mx_shp M (a + 7) = some (.inr (.long, 32)) := by
  rcases h with rfl | rfl
  · exact tp_s T 18 rfl
  · exact tp_s T 52 rfl
theorem cat_r7 {M : mx_M} (T : mx_Tp M) {a : Nat} (h : mx_Cat a) : mx_R M a 7 = a + 8 := by
  rcases h with rfl | rfl
  · exact tp_r T 15 rfl
  · exact tp_r T 50 rfl
theorem cat_a7 {M : mx_M} (T : mx_Tp M) {a : Nat} (h : mx_Cat a) : mx_shp M (a + 8) = some (.inr (.long, 32)) := by
  rcases h with rfl | rfl
  · exact tp_s T 19 rfl
  · exact tp_s T 53 rfl
theorem cat_r8 {M : mx_M} (T : mx_Tp M) {a : Nat} (h : mx_Cat a) : mx_R M a 8 = a + 9 := by
  rcases h with rfl | rfl
  · exact tp_r T 16 rfl
  · exact tp_r T 51 rfl
theorem cat_a8 {M : mx_M} (T : mx_Tp M) {a : Nat} (h : mx_Cat a) : mx_shp M (a + 9) = some (.inr (.boolean, 4)) := by
  rcases h with rfl | rfl
  · exact tp_s T 20 rfl
  · exact tp_s T 54 rfl
theorem cat_r9 {M : mx_M} (T : mx_Tp M) {a : Nat} (h : mx_Cat a) : mx_R M a 9 = a + 10 := by
  rcases h with rfl | rfl
  · exact tp_r T 17 rfl
  · exact tp_r T 52 rfl
theorem cat_a9 {M : mx_M} (T : mx_Tp M) {a : Nat} (h : mx_Cat a) : mx_shp M (a + 10) = some (.inr (.boolean, 4)) := by
  rcases h with rfl | rfl
  · exact tp_s T 21 rfl
  · exact tp_s T 55 rfl
theorem cat_r10 {M : mx_M} (T : mx_Tp M) {a : Nat} (h : mx_Cat a) : mx_R M a 10 = a + 11 := by
  rcases h with rfl | rfl
  · exact tp_r T 18 rfl
  · exact tp_r T 53 rfl
theorem cat_a10 {M : mx_M} (T : mx_Tp M) {a : Nat} (h : mx_Cat a) : mx_shp M (a + 11) = some (.inr (.boolean, 4)) := by
  rcases h with rfl | rfl
  · exact tp_s T 22 rfl
  · exact tp_s T 56 rfl
theorem cat_r11 {M : mx_M} (T : mx_Tp M) {a : Nat} (h : mx_Cat a) : mx_R M a 11 = a + 12 := by
  rcases h with rfl | rfl
  · exact tp_r T 19 rfl
  · exact tp_r T 54 rfl
theorem cat_a11 {M : mx_M} (T : mx_Tp M) {a : Nat} (h : mx_Cat a) : mx_shp M (a + 12) = some (.inr (.int, 40)) := by
  rcases h with rfl | rfl
  · exact tp_s T 23 rfl
  · exact tp_s T 57 rfl
theorem row_s {M : mx_M} (T : mx_Tp M) {a : Nat} (h : mx_Row a) : mx_shp M a = some (.inl 5) := by
  rcases h with rfl | rfl
  · exact tp_s T 31 rfl
  · exact tp_s T 33 rfl
theorem row_r0 {M : mx_M} (T : mx_Tp M) {a : Nat} (h : mx_Row a) : mx_R M a 0 = a + 1 := by
  rcases h with rfl | rfl
  · exact tp_r T 29 rfl
  · exact tp_r T 31 rfl
theorem row_a0 {M : mx_M} (T : mx_Tp M) {a : Nat} (h : mx_Row a) : mx_shp M (a + 1) = some (.inr (.int, 10)) := by
  rcases h with rfl | rfl
  · exact tp_s T 32 rfl
  · exact tp_s T 34 rfl
theorem act_s {M : mx_M} (T : mx_Tp M) {a : Nat} (h : mx_Act a) : mx_shp M a = some (.inl 0) := by
  rcases h with rfl | rfl
  · exact tp_s T 35 rfl
  · exact tp_s T 37 rfl
theorem act_r0 {M : mx_M} (T : mx_Tp M) {a : Nat} (h : mx_Act a) : mx_R M a 0 = a + 1 := by
  rcases h with rfl | rfl
  · exact tp_r T 33 rfl
  · exact tp_r T 35 rfl
theorem act_a0 {M : mx_M} (T : mx_Tp M) {a : Nat} (h : mx_Act a) : mx_shp M (a + 1) = some (.inr (.long, 40)) := by
  rcases h with rfl | rfl
  · exact tp_s T 36 rfl
  · exact tp_s T 38 rfl
/-- a boolean as the machine has it -/
def mx_b (b : Bool) : Int32 := if b then 1 else 0
theorem mx_b0 {b : Bool} : mx_b b = 0 ↔ b = false := by cases b <;> simp [mx_b]
theorem mx_bn {b : Bool} : ¬ mx_b b = 0 ↔ b = true := by cases b <;> simp [mx_b]
theorem mx_bz (b : Bool) : narrow .boolean (.int (mx_b b)) = .int (mx_b b) := by cases b <;> rfl
/-- fewer locals known, place by place -/
def mx_wkP : List Value → List Value → Prop
  | [], [] => True
  | a :: as, b :: bs => (a = .retAddr 0 ∨ a = b) ∧ mx_wkP as bs
  | _, _ => False
theorem mx_wkP_of : ∀ {as bs : List Value}, mx_wkP as bs → as.length = bs.length ∧ ∀ i : Nat, as[i]? = some (.retAddr 0) ∨ as[i]? = bs[i]?
  | [], [], _ => ⟨rfl, fun i => Or.inr rfl⟩
  | a :: as, b :: bs, h => by
    obtain ⟨h1, h2⟩ := mx_wkP_of h.2
    refine ⟨by simp [h1], fun i => ?_⟩
    cases i with
    | zero =>
      rcases h.1 with e | e
      · exact Or.inl (by rw [e]; rfl)
      · exact Or.inr (by rw [e]; rfl)
    | succ i => exact h2 i
  | [], _ :: _, h => h.elim
  | _ :: _, [], h => h.elim
theorem mx_wkn {μ : mx_Me} {d pc : Nat} {ls st : List Value} {M : mx_M} {Q : mx_O → mx_M → Prop} (ls' : List Value) (hw : mx_wkP ls' ls) (h : mx_W μ d pc ls' st M Q) : mx_W μ d pc ls st M Q := mx_weak ls' (mx_wkP_of hw).1 (mx_wkP_of hw).2 h
/-- the world behind a throw -/
abbrev mx_thM (M : mx_M) : mx_M := (mx_sh M, mx_I M, mx_J M, mx_R M, ((mx_rm M).1 - 1, (mx_rm M).2 - 6), mx_scr M)
theorem th_113 : (∀ w ∈ vx_atS RX10 113 "java/lang/IllegalArgumentException" ["java/lang/RuntimeException", "java/lang/Exception"], w ∈ mx_tb) ∧ ∀ w ∈ vx_atS RX10 113 "java/lang/IllegalArgumentException" ["java/lang/RuntimeException", "java/lang/Exception"], vx_ot w = true := by decide +kernel
theorem in_IAE : Cond.initialized "java/lang/IllegalArgumentException" ∈ lw_tbl := tb_1 _ (List.mem_of_getElem? (i := 15) rfl)
theorem in_NSE : Cond.initialized "java/util/NoSuchElementException" ∈ lw_tbl := tb_1 _ (List.mem_of_getElem? (i := 23) rfl)
theorem cl_109 : Cond.classLink RX10 109 "java/lang/IllegalArgumentException" ∈ lw_tbl := tb_3 _ (List.mem_of_getElem? (i := 45) rfl)
theorem cl_155 : Cond.classLink RX10 155 "java/util/NoSuchElementException" ∈ lw_tbl := tb_4 _ (List.mem_of_getElem? (i := 185) rfl)
