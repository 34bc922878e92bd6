/-! where everything is, once it is made (by tools/mktopo.py) -/
def mx_SH : List mx_S := [.inl 9, .inl 4, .inl 8, .inl 6, .inr (.byte, 700), .inl 7, .inr (.int, 700), .inr (.int, 4), .inr (.int, 4), .inr (.int, 64), .inl 1, .inr (.int, 10), .inr (.int, 10), .inr (.int, 10), .inr (.long, 40), .inr (.int, 4), .inr (.int, 32), .inr (.long, 32), .inr (.long, 32), .inr (.boolean, 4), .inr (.boolean, 4), .inr (.boolean, 4), .inr (.int, 40), .inl 3, .inr (.int, 1750), .inr (.int, 50), .inr (.int, 50), .inr (.int, 50), .inr (.long, 4), .inr (.int, 32), .inl 5, .inr (.int, 10), .inl 5, .inr (.int, 10), .inl 0, .inr (.long, 40), .inl 0, .inr (.long, 40), .inl 2, .inr (.int, 100), .inr (.int, 1024), .inr (.int, 10), .inr (.int, 10), .inr (.int, 10), .inl 1, .inr (.int, 10), .inr (.int, 10), .inr (.int, 10), .inr (.long, 40), .inr (.int, 4), .inr (.int, 32), .inr (.long, 32), .inr (.long, 32), .inr (.boolean, 4), .inr (.boolean, 4), .inr (.boolean, 4), .inr (.int, 40), .inl 10, .inr (.int, 10), .inr (.int, 10), .inr (.int, 4), .inr (.int, 32), .inr (.int, 5), .inr (.int, 5), .inr (.int, 5), .inr (.int, 2800), .inr (.long, 40), .inr (.long, 32), .inr (.long, 32), .inr (.int, 700), .inr (.int, 2), .inr (.int, 10), .inr (.int, 10), .inr (.int, 4), .inr (.int, 32), .inr (.int, 5), .inr (.int, 5), .inr (.int, 5), .inr (.int, 2800), .inr (.int, 950), .inr (.long, 40), .inr (.long, 32), .inr (.long, 32), .inr (.boolean, 9), .inr (.int, 50), .inr (.int, 1800), .inr (.long, 4), .inr (.int, 4), .inr (.int, 950), .inr (.int, 11), .inr (.int, 11), .inr (.int, 440), .inr (.int, 10), .inr (.int, 10), .inr (.int, 1024), .inr (.int, 11), .inr (.int, 440), .inr (.long, 1)]
def mx_RL : List (Nat × Nat × Nat) := [(4, 0, 5), (3, 0, 4), (2, 0, 3), (6, 0, 7), (6, 1, 8), (6, 2, 9), (6, 3, 10), (2, 1, 6), (11, 0, 12), (11, 1, 13), (11, 2, 14), (11, 3, 15), (11, 4, 16), (11, 5, 17), (11, 6, 18), (11, 7, 19), (11, 8, 20), (11, 9, 21), (11, 10, 22), (11, 11, 23), (1, 0, 2), (1, 1, 4), (24, 0, 25), (24, 1, 26), (24, 2, 27), (24, 3, 28), (24, 4, 29), (24, 5, 30), (1, 2, 24), (31, 0, 32), (1, 3, 31), (33, 0, 34), (1, 4, 33), (35, 0, 36), (1, 5, 35), (37, 0, 38), (1, 6, 37), (39, 0, 40), (39, 1, 41), (39, 2, 42), (1, 7, 39), (1, 8, 43), (1, 9, 44), (45, 0, 46), (45, 1, 47), (45, 2, 48), (45, 3, 49), (45, 4, 50), (45, 5, 51), (45, 6, 52), (45, 7, 53), (45, 8, 54), (45, 9, 55), (45, 10, 56), (45, 11, 57), (58, 3, 59), (58, 4, 60), (58, 5, 61), (58, 6, 62), (58, 7, 63), (58, 8, 64), (58, 9, 65), (58, 10, 66), (58, 11, 67), (58, 12, 68), (58, 13, 69), (58, 14, 70), (58, 18, 71), (58, 32, 72), (58, 33, 73), (58, 34, 74), (58, 35, 75), (58, 36, 76), (58, 37, 77), (58, 38, 78), (58, 39, 79), (58, 40, 80), (58, 41, 81), (58, 42, 82), (58, 43, 83), (58, 44, 84), (58, 45, 85), (58, 46, 86), (58, 47, 87), (58, 48, 88), (58, 49, 89), (58, 50, 90), (58, 51, 91), (58, 52, 92), (58, 54, 93), (58, 55, 94), (58, 58, 95), (58, 62, 96), (58, 63, 97)]
def mx_Tp (M : mx_M) : Prop := mx_sh M = mx_SH ∧ ∀ q ∈ mx_RL, mx_R M q.1 q.2.1 = q.2.2
def mx_shp0 : Nat → Option mx_S
  | 0 => none
  | k + 1 => mx_SH[k]?
theorem tp_s {M : mx_M} (T : mx_Tp M) (k : Nat) {s : mx_S} (h : mx_shp0 k = some s) : mx_shp M k = some s := by
  cases k with
  | zero => cases h
  | succ k =>
    show (mx_sh M)[k]? = some s
    rw [T.1]
    exact h
theorem tp_r {M : mx_M} (T : mx_Tp M) (i : Nat) {k j v : Nat} (h : mx_RL[i]? = some (k, j, v)) : mx_R M k j = v := T.2 _ (List.mem_of_getElem? h)
theorem tp_of {M M1 : mx_M} (e1 : mx_sh M1 = mx_sh M) (e2 : mx_R M1 = mx_R M) (T : mx_Tp M) : mx_Tp M1 := ⟨e1.trans T.1, fun q hq => by rw [e2]; exact T.2 q hq⟩
/-- one of the two catalogues; one of the two rows; one of the two lists of acts -/
def mx_Cat (t : Nat) : Prop := t = 11 ∨ t = 45
def mx_Row (a : Nat) : Prop := a = 31 ∨ a = 33
def mx_Act (a : Nat) : Prop := a = 35 ∨ a = 37
theorem cat_s {M : mx_M} (T : mx_Tp M) {a : Nat} (h : mx_Cat a) : mx_shp M a = some (.inl 1) := by
  rcases h with rfl | rfl
  · exact tp_s T 11 rfl
  · exact tp_s T 45 rfl
theorem cat_r0 {M : mx_M} (T : mx_Tp M) {a : Nat} (h : mx_Cat a) : mx_R M a 0 = a + 1 := by
  rcases h with rfl | rfl
  · exact tp_r T 8 rfl
  · exact tp_r T 43 rfl
theorem cat_a0 {M : mx_M} (T : mx_Tp M) {a : Nat} (h : mx_Cat a) : mx_shp M (a + 1) = some (.inr (.int, 10)) := by
  rcases h with rfl | rfl
  · exact tp_s T 12 rfl
  · exact tp_s T 46 rfl
theorem cat_r1 {M : mx_M} (T : mx_Tp M) {a : Nat} (h : mx_Cat a) : mx_R M a 1 = a + 2 := by
  rcases h with rfl | rfl
  · exact tp_r T 9 rfl
  · exact tp_r T 44 rfl
theorem cat_a1 {M : mx_M} (T : mx_Tp M) {a : Nat} (h : mx_Cat a) : mx_shp M (a + 2) = some (.inr (.int, 10)) := by
  rcases h with rfl | rfl
  · exact tp_s T 13 rfl
  · exact tp_s T 47 rfl
theorem cat_r2 {M : mx_M} (T : mx_Tp M) {a : Nat} (h : mx_Cat a) : mx_R M a 2 = a + 3 := by
  rcases h with rfl | rfl
  · exact tp_r T 10 rfl
  · exact tp_r T 45 rfl
theorem cat_a2 {M : mx_M} (T : mx_Tp M) {a : Nat} (h : mx_Cat a) : mx_shp M (a + 3) = some (.inr (.int, 10)) := by
  rcases h with rfl | rfl
  · exact tp_s T 14 rfl
  · exact tp_s T 48 rfl
theorem cat_r3 {M : mx_M} (T : mx_Tp M) {a : Nat} (h : mx_Cat a) : mx_R M a 3 = a + 4 := by
  rcases h with rfl | rfl
  · exact tp_r T 11 rfl
  · exact tp_r T 46 rfl
theorem cat_a3 {M : mx_M} (T : mx_Tp M) {a : Nat} (h : mx_Cat a) : mx_shp M (a + 4) = some (.inr (.long, 40)) := by
  rcases h with rfl | rfl
  · exact tp_s T 15 rfl
  · exact tp_s T 49 rfl
theorem cat_r4 {M : mx_M} (T : mx_Tp M) {a : Nat} (h : mx_Cat a) : mx_R M a 4 = a + 5 := by
  rcases h with rfl | rfl
  · exact tp_r T 12 rfl
  · exact tp_r T 47 rfl
theorem cat_a4 {M : mx_M} (T : mx_Tp M) {a : Nat} (h : mx_Cat a) : mx_shp M (a + 5) = some (.inr (.int, 4)) := by
  rcases h with rfl | rfl
  · exact tp_s T 16 rfl
  · exact tp_s T 50 rfl
theorem cat_r5 {M : mx_M} (T : mx_Tp M) {a : Nat} (h : mx_Cat a) : mx_R M a 5 = a + 6 := by
  rcases h with rfl | rfl
  · exact tp_r T 13 rfl
  · exact tp_r T 48 rfl
theorem cat_a5 {M : mx_M} (T : mx_Tp M) {a : Nat} (h : mx_Cat a) : mx_shp M (a + 6) = some (.inr (.int, 32)) := by
  rcases h with rfl | rfl
  · exact tp_s T 17 rfl
  · exact tp_s T 51 rfl
theorem cat_r6 {M : mx_M} (T : mx_Tp M) {a : Nat} (h : mx_Cat a) : mx_R M a 6 = a + 7 := by
  rcases h with rfl | rfl
  · exact tp_r T 14 rfl
  · exact tp_r T 49 rfl
theorem cat_a6 {M : mx_M} (T : mx_Tp M) {a : Nat} (h : mx_Cat a) : mx_shp M (a + 7) = some (.inr (.long, 32)) := by
  rcases h with rfl | rfl
  · exact tp_s T 18 rfl
  · exact tp_s T 52 rfl
theorem cat_r7 {M : mx_M} (T : mx_Tp M) {a : Nat} (h : mx_Cat a) : mx_R M a 7 = a + 8 := by
  rcases h with rfl | rfl
  · exact tp_r T 15 rfl
  · exact tp_r T 50 rfl
theorem cat_a7 {M : mx_M} (T : mx_Tp M) {a : Nat} (h : mx_Cat a) : mx_shp M (a + 8) = some (.inr (.long, 32)) := by
  rcases h with rfl | rfl
  · exact tp_s T 19 rfl
  · exact tp_s T 53 rfl
theorem cat_r8 {M : mx_M} (T : mx_Tp M) {a : Nat} (h : mx_Cat a) : mx_R M a 8 = a + 9 := by
  rcases h with rfl | rfl
  · exact tp_r T 16 rfl
  · exact tp_r T 51 rfl
theorem cat_a8 {M : mx_M} (T : mx_Tp M) {a : Nat} (h : mx_Cat a) : mx_shp M (a + 9) = some (.inr (.boolean, 4)) := by
  rcases h with rfl | rfl
  · exact tp_s T 20 rfl
  · exact tp_s T 54 rfl
theorem cat_r9 {M : mx_M} (T : mx_Tp M) {a : Nat} (h : mx_Cat a) : mx_R M a 9 = a + 10 := by
  rcases h with rfl | rfl
  · exact tp_r T 17 rfl
  · exact tp_r T 52 rfl
theorem cat_a9 {M : mx_M} (T : mx_Tp M) {a : Nat} (h : mx_Cat a) : mx_shp M (a + 10) = some (.inr (.boolean, 4)) := by
  rcases h with rfl | rfl
  · exact tp_s T 21 rfl
  · exact tp_s T 55 rfl
theorem cat_r10 {M : mx_M} (T : mx_Tp M) {a : Nat} (h : mx_Cat a) : mx_R M a 10 = a + 11 := by
  rcases h with rfl | rfl
  · exact tp_r T 18 rfl
  · exact tp_r T 53 rfl
theorem cat_a10 {M : mx_M} (T : mx_Tp M) {a : Nat} (h : mx_Cat a) : mx_shp M (a + 11) = some (.inr (.boolean, 4)) := by
  rcases h with rfl | rfl
  · exact tp_s T 22 rfl
  · exact tp_s T 56 rfl
theorem cat_r11 {M : mx_M} (T : mx_Tp M) {a : Nat} (h : mx_Cat a) : mx_R M a 11 = a + 12 := by
  rcases h with rfl | rfl
  · exact tp_r T 19 rfl
  · exact tp_r T 54 rfl
theorem cat_a11 {M : mx_M} (T : mx_Tp M) {a : Nat} (h : mx_Cat a) : mx_shp M (a + 12) = some (.inr (.int, 40)) := by
  rcases h with rfl | rfl
  · exact tp_s T 23 rfl
  · exact tp_s T 57 rfl
theorem row_s {M : mx_M} (T : mx_Tp M) {a : Nat} (h : mx_Row a) : mx_shp M a = some (.inl 5) := by
  rcases h with rfl | rfl
  · exact tp_s T 31 rfl
  · exact tp_s T 33 rfl
theorem row_r0 {M : mx_M} (T : mx_Tp M) {a : Nat} (h : mx_Row a) : mx_R M a 0 = a + 1 := by
  rcases h with rfl | rfl
  · exact tp_r T 29 rfl
  · exact tp_r T 31 rfl
theorem row_a0 {M : mx_M} (T : mx_Tp M) {a : Nat} (h : mx_Row a) : mx_shp M (a + 1) = some (.inr (.int, 10)) := by
  rcases h with rfl | rfl
  · exact tp_s T 32 rfl
  · exact tp_s T 34 rfl
theorem act_s {M : mx_M} (T : mx_Tp M) {a : Nat} (h : mx_Act a) : mx_shp M a = some (.inl 0) := by
  rcases h with rfl | rfl
  · exact tp_s T 35 rfl
  · exact tp_s T 37 rfl
theorem act_r0 {M : mx_M} (T : mx_Tp M) {a : Nat} (h : mx_Act a) : mx_R M a 0 = a + 1 := by
  rcases h with rfl | rfl
  · exact tp_r T 33 rfl
  · exact tp_r T 35 rfl
theorem act_a0 {M : mx_M} (T : mx_Tp M) {a : Nat} (h : mx_Act a) : mx_shp M (a + 1) = some (.inr (.long, 40)) := by
  rcases h with rfl | rfl
  · exact tp_s T 36 rfl
  · exact tp_s T 38 rfl
/-- a boolean as the machine has it -/
def mx_b (b : Bool) : Int32 := if b then 1 else 0
theorem mx_b0 {b : Bool} : mx_b b = 0 ↔ b = false := by cases b <;> simp [mx_b]
theorem mx_bn {b : Bool} : ¬ mx_b b = 0 ↔ b = true := by cases b <;> simp [mx_b]
theorem mx_bz (b : Bool) : narrow .boolean (.int (mx_b b)) = .int (mx_b b) := by cases b <;> rfl
/-- fewer locals known, place by place -/
def mx_wkP : List Value → List Value → Prop
  | [], [] => True
  | a :: as, b :: bs => (a = .retAddr 0 ∨ a = b) ∧ mx_wkP as bs
  | _, _ => False
theorem mx_wkP_of : ∀ {as bs : List Value}, mx_wkP as bs → as.length = bs.length ∧ ∀ i : Nat, as[i]? = some (.retAddr 0) ∨ as[i]? = bs[i]?
  | [], [], _ => ⟨rfl, fun i => Or.inr rfl⟩
  | a :: as, b :: bs, h => by
    obtain ⟨h1, h2⟩ := mx_wkP_of h.2
    refine ⟨by simp [h1], fun i => ?_⟩
    cases i with
    | zero =>
      rcases h.1 with e | e
      · exact Or.inl (by rw [e]; rfl)
      · exact Or.inr (by rw [e]; rfl)
    | succ i => exact h2 i
  | [], _ :: _, h => h.elim
  | _ :: _, [], h => h.elim
theorem mx_wkn {μ : mx_Me} {d pc : Nat} {ls st : List Value} {M : mx_M} {Q : mx_O → mx_M → Prop} (ls' : List Value) (hw : mx_wkP ls' ls) (h : mx_W μ d pc ls' st M Q) : mx_W μ d pc ls st M Q := mx_weak ls' (mx_wkP_of hw).1 (mx_wkP_of hw).2 h
/-- the world behind a throw -/
abbrev mx_thM (M : mx_M) : mx_M := (mx_sh M, mx_I M, mx_J M, mx_R M, ((mx_rm M).1 - 1, (mx_rm M).2 - 6), mx_scr M)
theorem th_113 : (∀ w ∈ vx_atS RX10 113 "java/lang/IllegalArgumentException" ["java/lang/RuntimeException", "java/lang/Exception"], w ∈ mx_tb) ∧ ∀ w ∈ vx_atS RX10 113 "java/lang/IllegalArgumentException" ["java/lang/RuntimeException", "java/lang/Exception"], vx_ot w = true := by decide +kernel
theorem in_IAE : Cond.initialized "java/lang/IllegalArgumentException" ∈ lw_tbl := tb_1 _ (List.mem_of_getElem? (i := 15) rfl)
theorem in_NSE : Cond.initialized "java/util/NoSuchElementException" ∈ lw_tbl := tb_1 _ (List.mem_of_getElem? (i := 23) rfl)
theorem cl_109 : Cond.classLink RX10 109 "java/lang/IllegalArgumentException" ∈ lw_tbl := tb_3 _ (List.mem_of_getElem? (i := 45) rfl)
theorem cl_155 : Cond.classLink RX10 155 "java/util/NoSuchElementException" ∈ lw_tbl := tb_4 _ (List.mem_of_getElem? (i := 185) rfl)
theorem mx_up_eq {α : Type} (f : Nat → Nat → α) (k j : Nat) (v : α) : mx_up f k j v k j = v := by
  unfold mx_up
  rw [if_pos ⟨rfl, rfl⟩]
/-- a memory gets a name -/
theorem mx_gen {μ : mx_Me} {d pc : Nat} {ls st : List Value} {Q : mx_O → mx_M → Prop} (u : mx_M) (h : ∀ M1, M1 = u → mx_W μ d pc ls st M1 Q) : mx_W μ d pc ls st u Q := h u rfl
theorem mx_vin {i : Int32} {n : Nat} (h : decide (¬ (i < 0 ∨ n ≤ i.toNatClampNeg)) = true) : vp_in i n := by
  unfold vp_in
  exact of_decide_eq_true h
theorem tp_e {M1 u : mx_M} (e : M1 = u) (T : mx_Tp u) : mx_Tp M1 := e ▸ T
theorem rr_e {M1 u : mx_M} {k j v : Nat} (e : M1 = u) (h : mx_R u k j = v) : mx_R M1 k j = v := e ▸ h
theorem mx_bf (b : Bool) : fits .boolean (.int (mx_b b)) = true := by cases b <;> rfl
/-- one of the two numbers that a boolean may be -/
abbrev mx_zo (x : Int32) : Prop := narrow .boolean (.int x) = .int x ∧ fits .boolean (.int x) = true
theorem mx_lc0 {x y : Int64} : lg_cmp x y = 0 ↔ x = y := by
  unfold lg_cmp
  simp only [gt_iff_lt, Int64.lt_iff_toInt_lt, ← Int64.toInt_inj]
  repeat' split
  all_goals (constructor <;> intro hh <;> first | omega | decide | exact absurd hh (by decide))
theorem mx_lcn {x y : Int64} : ¬ lg_cmp x y = 0 ↔ ¬ x = y := not_congr mx_lc0
theorem mx_ne {x v : Int32} {n : Int} (hn : v.toInt = n) (h : ¬ x = v) : x.toInt ≠ n := fun e => h (Int32.toInt_inj.mp (e.trans hn.symm))
theorem tp_setR {M : mx_M} {k j v : Nat} (T : mx_Tp M) (h : ∀ q ∈ mx_RL, ¬ (q.1 = k ∧ q.2.1 = j)) : mx_Tp (mx_setR M k j v) := by
  refine ⟨T.1, fun q hq => ?_⟩
  show mx_up (mx_R M) k j v q.1 q.2.1 = _
  unfold mx_up
  rw [if_neg (h q hq)]
  exact T.2 q hq
theorem rl_10 : ∀ q ∈ mx_RL, ¬ (q.1 = 1 ∧ q.2.1 = 10) := by decide
theorem rl_p2 : ∀ q ∈ mx_RL, ¬ (q.1 = 2 ∧ q.2.1 = 2) := by decide
theorem cat_le {M : mx_M} (T : mx_Tp M) {a : Nat} (h : mx_Cat a) : a ≤ (mx_sh M).length := by
  rw [T.1]
  rcases h with rfl | rfl <;> decide
/-- copying keeps what is where -/
theorem tp_cpI {M : mx_M} {r0 r1 a b n : Nat} (T : mx_Tp M) : mx_Tp (mx_cpI M r0 r1 a b n) := T
theorem tp_cpJ {M : mx_M} {r0 r1 a b n : Nat} (T : mx_Tp M) : mx_Tp (mx_cpJ M r0 r1 a b n) := T
set_option maxHeartbeats 1000000 in
theorem mx_throwW {μ : mx_Me} {d pc : Nat} {ls st : List Value} {M : mx_M} {Q : mx_O → mx_M → Prop} (E : String) (i ik is ic : Nat) {tx : String} (hi : i < 33) (hc : mx_txt.getD i ("", 0, "") = (μ.1, is, tx)) (hE : Bundle.fit E = true) (hk : Cond.classLink μ.1 ik E ∈ lw_tbl) (hini : Cond.initialized E ∈ lw_tbl)
    (hat : ∀ w ∈ vx_atS μ.1 ic E ["java/lang/RuntimeException", "java/lang/Exception"], w ∈ mx_tb) (hot : ∀ w ∈ vx_atS μ.1 ic E ["java/lang/RuntimeException", "java/lang/Exception"], vx_ot w = true)
    (d0 : decode μ.2.1 pc = .ok (.new ik, 3)) (d3 : decode μ.2.1 (pc + 3) = .ok (.dup, 1)) (d4 : decode μ.2.1 (pc + 4) = .ok (.ldc_w is, 3)) (d6 : decode μ.2.1 (pc + 7) = .ok (.invokespecial ic, 3)) (d9 : decode μ.2.1 (pc + 10) = .ok (.athrow, 1))
    (hex : μ.2.2.2.2.1 = []) (hst : (st.map fun v => v.category).sum ≤ 64) (h1 : 1 ≤ (mx_rm M).1) (h2 : 6 ≤ (mx_rm M).2)
    (hq : Q (.inr E) (mx_sh M, mx_I M, mx_J M, mx_R M, ((mx_rm M).1 - 1, (mx_rm M).2 - 6), mx_scr M)) : mx_W μ d pc ls st M Q := by
  intro Γ p l e R s m args below meth c a0 n0 H locs cells slots ad la C A L
  have h3 := C.2.2.2.2.2.2.2.2.2.2.2.2.1 i hi
  rw [hc] at h3
  have hts := mx_tb_of C.2.2.2.2.2.2.2.2.2.2.1 args
  obtain ⟨hx, hb, hml, hown, hr, hlocks, hexc, ⟨hl, hnam⟩, hfr, hlo, hT, hK, -, -, hU, hN, -, -, -, -, -, -⟩ := id C
  have hcat : ((st.map (mx_tv Γ ad)).map fun v => v.category).sum ≤ 64 := by
    rw [List.map_map]
    have : ((fun v : Value => v.category) ∘ mx_tv Γ ad) = fun v => v.category := by funext v; exact mx_cat Γ ad v
    rw [this]; exact hst
  have k := vx_throwSW (p := p) (l := l) (e := e) (R := R) (s := s) (m := m) (args := args) (below := below) (meth := meth) (c := c) (H := H) (locs := locs) (cells := cells) (slots := slots) (pc := pc) (ls := la) (rest := st.map (mx_tv Γ ad)) (Qc := fun _ _ _ _ => False) (free := mx_A Γ) (mc := cells + 1) (ms := slots + 6)
    (XC := fun E9 _ t => E9 = E ∧ H.size ≤ t.heap.size ∧ ∀ q : Nat, q < H.size → t.heap[q]? = H[q]?) hx hb hl hown hE (by decide) (hT _ hk rfl args) (hT _ hini rfl args) h3 (fun w hw => hts w (hat w hw)) (fun w hw => ?_) hU hN A.2.1 (L.1.trans hml.symm) d0 d3 d4 d6 d9 (by rw [hexc, hex]; intro x hx; cases hx)
    (by show 2 + 3 < R.frames; omega) (by show _ + (13 * (2 + 1) + 43) ≤ R.locals; omega) (by have := A.2.2.1; omega) (by have := A.2.2.2.1; omega) hlocks (fun t _ h5 h6 => ⟨rfl, h5, h6⟩) A.2.1.2.2 (Nat.le_refl _) (Nat.le_refl _)
  · refine mx_Wq k ?_
    intro t ⟨o, g1, g2, g3⟩
    rcases g3 with ⟨hf, -⟩ | ⟨q, ho, E9, ce, L9, ⟨rfl, hz, hh⟩, hce, hcv, hcc, hW, hsm, hL9⟩
    · exact hf.elim
    · refine ⟨o, .inr _, (mx_sh M, mx_I M, mx_J M, mx_R M, ((mx_rm M).1 - 1, (mx_rm M).2 - 6), mx_scr M), ad, L9, cells + 1, slots + 6, g1, g2, ⟨q, ce, ho, hce, hcv, hcc⟩, ⟨⟨A.1.1.kept (fun k9 q9 h9 => hh _ (A.1.1 k9 q9 h9).lt), A.1.2⟩, ⟨Nat.le_trans A.2.1.1 hz, fun q9 a1 a2 => by rw [hh q9 (Nat.lt_of_lt_of_le a1 A.2.1.1)]; exact A.2.1.2.1 q9 a1 a2, hL9⟩, ?_, ?_, A.2.2.2.2.1, A.2.2.2.2.2⟩, hW, hsm, rfl, hq⟩
      · show cells + 1 + ((mx_rm M).1 - 1) ≤ R.cells
        have := A.2.2.1; omega
      · show slots + 6 + ((mx_rm M).2 - 6) ≤ R.slots
        have := A.2.2.2.1; omega
  · rcases List.mem_cons.mp hw with e9 | hw
    · subst e9; rfl
    · rcases List.mem_cons.mp hw with e9 | hw
      · subst e9; rfl
      · exact hot w hw
theorem ac_RX0_19 : mx_Ac RX0 19 := ⟨tb_2 _ (List.mem_of_getElem? (i := 172) rfl), tb_2 _ (List.mem_of_getElem? (i := 174) rfl), tb_2 _ (List.mem_of_getElem? (i := 173) rfl), tb_1 _ (List.mem_of_getElem? (i := 24) rfl)⟩
theorem sl_38 : Cond.fieldLink RJ0 38 "java/lang/String" "COMPACT_STRINGS" "Z" ∈ lw_tbl := tb_3 _ (List.mem_of_getElem? (i := 171) rfl)
theorem sl_1053 : Cond.fieldLink RJ0 1053 "jdk/internal/util/Preconditions" "SIOOBE_FORMATTER" "Ljava/util/function/BiFunction;" ∈ lw_tbl := tb_3 _ (List.mem_of_getElem? (i := 187) rfl)
theorem ac_RX5_19 : mx_Ac RX5 19 := ⟨tb_5 _ (List.mem_of_getElem? (i := 106) rfl), tb_2 _ (List.mem_of_getElem? (i := 174) rfl), tb_2 _ (List.mem_of_getElem? (i := 173) rfl), tb_1 _ (List.mem_of_getElem? (i := 24) rfl)⟩
theorem sl_9 : Cond.fieldLink RJ0 9 "java/lang/String" "value" "[B" ∈ lw_tbl := tb_9 _ (List.mem_of_getElem? (i := 26) rfl)
theorem sl_15 : Cond.fieldLink RJ0 15 "java/lang/String" "coder" "B" ∈ lw_tbl := tb_9 _ (List.mem_of_getElem? (i := 27) rfl)
def m_J9_max_7cf53 : mx_Me := (RJ9, cJ9_max_7cf53, 2, (some .int), [], "max")
theorem mm_J9_max_7cf53 : mx_Mt yJ9_max_7cf53 m_J9_max_7cf53 := ⟨rfl, tb_2 _ (List.mem_of_getElem? (i := 221) rfl), rfl, by decide +kernel, ⟨by decide, by decide⟩, by decide, tb_1 _ (List.mem_of_getElem? (i := 21) rfl), rfl⟩
theorem st_J9_max_7cf53 : Cond.static yJ9_max_7cf53 ∈ lw_tbl := tb_2 _ (List.mem_of_getElem? (i := 220) rfl)
theorem t_J9_max_7cf53 : mx_dec cJ9_max_7cf53 [(0, .iload_n 0, 1), (1, .iload_n 1, 1), (2, .if_icmp .lt 7, 3), (5, .iload_n 0, 1), (6, .goto 4, 3), (9, .iload_n 1, 1), (10, .ireturn, 1)] = true := by decide +kernel
def m_J9_min_7cf53 : mx_Me := (RJ9, cJ9_min_7cf53, 2, (some .int), [], "min")
theorem mm_J9_min_7cf53 : mx_Mt yJ9_min_7cf53 m_J9_min_7cf53 := ⟨rfl, tb_2 _ (List.mem_of_getElem? (i := 159) rfl), rfl, by decide +kernel, ⟨by decide, by decide⟩, by decide, tb_1 _ (List.mem_of_getElem? (i := 21) rfl), rfl⟩
theorem st_J9_min_7cf53 : Cond.static yJ9_min_7cf53 ∈ lw_tbl := tb_2 _ (List.mem_of_getElem? (i := 158) rfl)
theorem t_J9_min_7cf53 : mx_dec cJ9_min_7cf53 [(0, .iload_n 0, 1), (1, .iload_n 1, 1), (2, .if_icmp .gt 7, 3), (5, .iload_n 0, 1), (6, .goto 4, 3), (9, .iload_n 1, 1), (10, .ireturn, 1)] = true := by decide +kernel
