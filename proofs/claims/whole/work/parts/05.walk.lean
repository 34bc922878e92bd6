/-! ===== the world's list, read and written ===== -/
theorem mx_ws_len (Γ : mx_G) (ad : Nat → Nat) (M : mx_M) : (mx_ws Γ ad M).length = (mx_sh M).length := by simp [mx_ws]
theorem mx_ws_at {Γ : mx_G} {ad : Nat → Nat} {M : mx_M} {k : Nat} {s : mx_S} (h : (mx_sh M)[k]? = some s) : (mx_ws Γ ad M)[k]? = some (ad k, mx_cell Γ ad s (mx_I M (k + 1)) (mx_J M (k + 1)) (mx_R M (k + 1))) := by
  have hk : k < (mx_sh M).length := (List.getElem?_eq_some_iff.mp h).1
  unfold mx_ws
  rw [List.getElem?_map, List.getElem?_range hk, Option.map_some, List.getD_eq_getElem?_getD, h, Option.getD_some]
/-- one cell is another one: the list with this place set -/
theorem mx_ws_set {Γ : mx_G} {ad : Nat → Nat} {M M' : mx_M} {k : Nat} {s : mx_S} (h : (mx_sh M)[k]? = some s) (hs : mx_sh M' = mx_sh M) (hI : ∀ a, a ≠ k + 1 → mx_I M' a = mx_I M a) (hJ : ∀ a, a ≠ k + 1 → mx_J M' a = mx_J M a) (hR : ∀ a, a ≠ k + 1 → mx_R M' a = mx_R M a) :
    mx_ws Γ ad M' = (mx_ws Γ ad M).set k (ad k, mx_cell Γ ad s (mx_I M' (k + 1)) (mx_J M' (k + 1)) (mx_R M' (k + 1))) := by
  have hk : k < (mx_sh M).length := (List.getElem?_eq_some_iff.mp h).1
  apply List.ext_getElem?
  intro i
  by_cases hi : i = k
  · subst hi
    rw [List.getElem?_set_self (by rw [mx_ws_len]; exact hk), mx_ws_at (M := M') (by rw [hs]; exact h)]
  · rw [List.getElem?_set_ne (Ne.symm hi)]
    cases hx : (mx_sh M)[i]? with
    | some s' =>
      rw [mx_ws_at hx, mx_ws_at (M := M') (by rw [hs]; exact hx), hI _ (by omega), hJ _ (by omega), hR _ (by omega)]
    | none =>
      have h1 : (mx_sh M).length ≤ i := List.getElem?_eq_none_iff.mp hx
      rw [List.getElem?_eq_none_iff.mpr (by rw [mx_ws_len, hs]; exact h1), List.getElem?_eq_none_iff.mpr (by rw [mx_ws_len]; exact h1)]
theorem mx_up_off {α : Type} (f : Nat → Nat → α) {k j a : Nat} (v : α) (h : a ≠ k) : mx_up f k j v a = f a := by
  funext b
  simp [mx_up, h]
theorem mx_up_on {α : Type} (f : Nat → Nat → α) (k j : Nat) (v : α) : mx_up f k j v k = fun b => if b = j then v else f k b := by
  funext b
  simp [mx_up]
theorem mx_row_set {n j : Nat} {f g : Nat → Value} {v : Value} (hj : j < n) (h : ∀ i, i < n → g i = if i = j then v else f i) : ((List.range n).map f).set j v = (List.range n).map g := by
  apply List.ext_getElem?
  intro i
  by_cases hi : i = j
  · subst hi
    rw [List.getElem?_set_self (by simpa using hj), List.getElem?_map, List.getElem?_range hj, Option.map_some, h i hj, if_pos rfl]
  · rw [List.getElem?_set_ne (Ne.symm hi), List.getElem?_map, List.getElem?_map]
    by_cases hl : i < n
    · rw [List.getElem?_range hl, Option.map_some, Option.map_some, h i hl, if_neg hi]
    · rw [List.getElem?_eq_none_iff.mpr (by simpa using hl)]; rfl
/-! ===== the texts ===== -/
def mx_txt : List (String × Nat × String) := [("MeerDrawers", 111, "the tape has not so many bytes"), ("MeerDrawers$Parser", 77, "card"), ("MeerDrawers$Parser", 86, "clerk"), ("MeerDrawers$Parser", 94, "skip"), ("MeerDrawers$Parser", 96, "spell"), ("MeerDrawers$Parser", 98, "fold"), ("MeerDrawers$Parser", 103, "turn"), ("MeerDrawers$Parser", 113, "join"), ("MeerDrawers$Parser", 118, "tie"), ("MeerDrawers$Parser", 194, "not"), ("MeerDrawers$Parser", 211, "year"), ("MeerDrawers$Parser", 213, "words"), ("MeerDrawers$Parser", 215, "letters"), ("MeerDrawers$Parser", 217, "number"), ("MeerDrawers$Parser", 192, "and"), ("MeerDrawers$Parser", 184, "or"), ("MeerDrawers", 157, "no such count"), ("MeerDrawers", 221, "no such card"), ("MeerDrawers", 178, "no such thing of a card"), ("MeerDrawers", 223, "no such clerk"), ("MeerDrawers", 210, "no such thing of a clerk"), ("MeerDrawers", 230, "the key has not so many"), ("MeerDrawers", 240, "no such rank"), ("MeerDrawers", 245, "no such place"), ("MeerDrawers", 225, "no such what"), ("MeerDrawers", 330, "no such card is kept"), ("MeerDrawers", 375, "no such rule"), ("MeerDrawers", 359, "a reader knows 0 to 9 letters"), ("MeerDrawers", 389, "two clerks play for 0 to 99"), ("MeerDrawers", 401, "0 to 60 years"), ("MeerDrawers", 312, "the row has not so many"), ("MeerDrawers", 338, "a tray has 1 to 10 cards"), ("MeerDrawers", 340, "no such tray")]
def mx_tlen : List Nat := [30, 4, 5, 4, 5, 4, 4, 4, 3, 3, 4, 5, 7, 6, 3, 2, 13, 12, 23, 13, 24, 23, 12, 13, 12, 20, 12, 29, 27, 13, 23, 24, 12]
def mx_tbyt : List (List Int32) := [[116, 104, 101, 32, 116, 97, 112, 101, 32, 104, 97, 115, 32, 110, 111, 116, 32, 115, 111, 32, 109, 97, 110, 121, 32, 98, 121, 116, 101, 115], [99, 97, 114, 100], [99, 108, 101, 114, 107], [115, 107, 105, 112], [115, 112, 101, 108, 108], [102, 111, 108, 100], [116, 117, 114, 110], [106, 111, 105, 110], [116, 105, 101], [110, 111, 116], [121, 101, 97, 114], [119, 111, 114, 100, 115], [108, 101, 116, 116, 101, 114, 115], [110, 117, 109, 98, 101, 114], [97, 110, 100], [111, 114], [110, 111, 32, 115, 117, 99, 104, 32, 99, 111, 117, 110, 116], [110, 111, 32, 115, 117, 99, 104, 32, 99, 97, 114, 100], [110, 111, 32, 115, 117, 99, 104, 32, 116, 104, 105, 110, 103, 32, 111, 102, 32, 97, 32, 99, 97, 114, 100], [110, 111, 32, 115, 117, 99, 104, 32, 99, 108, 101, 114, 107], [110, 111, 32, 115, 117, 99, 104, 32, 116, 104, 105, 110, 103, 32, 111, 102, 32, 97, 32, 99, 108, 101, 114, 107], [116, 104, 101, 32, 107, 101, 121, 32, 104, 97, 115, 32, 110, 111, 116, 32, 115, 111, 32, 109, 97, 110, 121], [110, 111, 32, 115, 117, 99, 104, 32, 114, 97, 110, 107], [110, 111, 32, 115, 117, 99, 104, 32, 112, 108, 97, 99, 101], [110, 111, 32, 115, 117, 99, 104, 32, 119, 104, 97, 116], [110, 111, 32, 115, 117, 99, 104, 32, 99, 97, 114, 100, 32, 105, 115, 32, 107, 101, 112, 116], [110, 111, 32, 115, 117, 99, 104, 32, 114, 117, 108, 101], [97, 32, 114, 101, 97, 100, 101, 114, 32, 107, 110, 111, 119, 115, 32, 48, 32, 116, 111, 32, 57, 32, 108, 101, 116, 116, 101, 114, 115], [116, 119, 111, 32, 99, 108, 101, 114, 107, 115, 32, 112, 108, 97, 121, 32, 102, 111, 114, 32, 48, 32, 116, 111, 32, 57, 57], [48, 32, 116, 111, 32, 54, 48, 32, 121, 101, 97, 114, 115], [116, 104, 101, 32, 114, 111, 119, 32, 104, 97, 115, 32, 110, 111, 116, 32, 115, 111, 32, 109, 97, 110, 121], [97, 32, 116, 114, 97, 121, 32, 104, 97, 115, 32, 49, 32, 116, 111, 32, 49, 48, 32, 99, 97, 114, 100, 115], [110, 111, 32, 115, 117, 99, 104, 32, 116, 114, 97, 121]]
/-! ===== what holds at every invocation ===== -/
def mx_Env (Γ : mx_G) (scr : Nat × (Nat → Int32)) (s : State) : Prop :=
  mx_T s ∧ va_K (mx_D Γ) vwCl (mx_tys Γ) s ∧ (∀ i, i < 33 → vk_R (mx_txt.getD i ("", 0, "")).1 (mx_txt.getD i ("", 0, "")).2.1 (mx_txt.getD i ("", 0, "")).2.2 (mx_old Γ (2 * i + 2)) s) ∧
  (∀ i, i < 33 → vk_S 1 [mx_tlen.getD i 0] [mx_tbyt.getD i []] (fun _ => mx_old Γ (2 * i + 2)) (fun _ => mx_old Γ (2 * i + 3)) (mx_A Γ) s s.heap) ∧ vx_Zq Bundle.tN "UNASSIGNED_STACK" Bundle.steD (mx_A Γ) s s.heap ∧ vx_Zq Bundle.tN "SUPPRESSED_SENTINEL" Bundle.listD (mx_A Γ) s s.heap ∧
  va_Z "java/lang/String" "COMPACT_STRINGS" "Z" (.int 1) (mx_A Γ) s s.heap ∧ va_Nc "java/lang/IllegalArgumentException" "java/util/NoSuchElementException" s ∧
  va_X (mx_old Γ 1) scr.1 scr.2 s s.heap ∧ mx_old Γ 1 < mx_z Γ ∧ mx_z Γ ≤ s.heap.size ∧
  (va_Z "jdk/internal/util/Preconditions" "SIOOBE_FORMATTER" "Ljava/util/function/BiFunction;" .null (mx_A Γ) s s.heap ∨ va_Z "jdk/internal/util/Preconditions" "SIOOBE_FORMATTER" "Ljava/util/function/BiFunction;" (.ref (mx_old Γ 0)) (mx_A Γ) s s.heap)
theorem mx_Env.step {Γ : mx_G} {scr : Nat × (Nat → Int32)} {s U : State} {locs : List Loc} (h : mx_Env Γ scr s) (hW : s.WarmedH U.vm) (hS : va_S (mx_A Γ) s.heap U.heap locs) : mx_Env Γ scr U := by
  obtain ⟨h1, h2, h3, h4, h5, h6, h7, h8, h9, h10, h11, h12⟩ := h
  have hq : ∀ a : Nat, a < s.heap.size → ¬ mx_A Γ a → U.heap[a]? = s.heap[a]? := hS.2.1
  exact ⟨h1.warm hW, va_K.moved hW.alike h2, fun i hi => (h3 i hi).warm hW, fun i hi => vk_S.moved hW.alike (vk_S.kept (h4 i hi) hq), vx_Zq.moved hW.alike (vx_Zq.kept h5 hq), vx_Zq.moved hW.alike (vx_Zq.kept h6 hq), va_Z.moved hW.alike (va_Z.kept h7 hq), h8.moved hW.alike,
    va_X.moved hW.alike (h9.kept (hq _ (Nat.lt_of_lt_of_le h10 h11) (Nat.not_le.mpr h10))), h10, Nat.le_trans h11 hS.1, h12.imp (fun h => va_Z.moved hW.alike (va_Z.kept h hq)) (fun h => va_Z.moved hW.alike (va_Z.kept h hq))⟩
/-- a method: its class, its bytes, how many locals, what it returns, its table of handlers, its name -/
abbrev mx_Me : Type := String × ByteArray × Nat × Option FieldType × List ExceptionTableEntry × String
def mx_Ctx (Γ : mx_G) (μ : mx_Me) (d : Nat) (scr : Nat × (Nat → Int32)) (p : Program) (l : Launch) (R : Room) (s : State) (m : MethodId) (meth : Method) (c : Code) : Prop :=
  p.tables.exec = Jvm.exec ∧ c.code = μ.2.1 ∧ c.maxLocals = μ.2.2.1 ∧ s.vm.findClass μ.1 = some m.cls ∧ meth.sig.returnType = μ.2.2.2.1 ∧ meth.locks = false ∧ c.exceptionTable.toList = μ.2.2.2.2.1 ∧ (l.stackTraces = false ∧ meth.name = μ.2.2.2.2.2) ∧ d + 16 ≤ R.frames ∧ 64 * d + 512 ≤ R.locals ∧ mx_Env Γ scr s
def mx_L (Γ : mx_G) (ad : Nat → Nat) (nL : Nat) (ls : List Value) (la : Array Slot) : Prop := la.size = nL ∧ lv_wf la ∧ ls.length = nL ∧ ∀ (i : Nat) (v : Value), ls[i]? = some v → v ≠ .retAddr 0 → la[i]? = some (.val (mx_tv Γ ad v))
def mx_At (Γ : mx_G) (R : Room) (s : State) (a0 : Nat → Nat) (n0 : Nat) (M : mx_M) (H : Heap) (locs : List Loc) (cells slots : Nat) (ad : Nat → Nat) : Prop :=
  mx_Rep Γ M ad H ∧ va_S (mx_A Γ) s.heap H locs ∧ cells + (mx_rm M).1 ≤ R.cells ∧ slots + (mx_rm M).2 ≤ R.slots ∧ (∀ i, i < n0 ∨ (mx_sh M).length ≤ i → ad i = a0 i) ∧ n0 ≤ (mx_sh M).length
/-- how a method ends: it returned, or threw an object of a class -/
abbrev mx_O : Type := Option Value ⊕ String
def mx_OR (Γ : mx_G) (ad : Nat → Nat) (s : State) (t : State) (o : Outcome) (r : mx_O) : Prop := match r with
  | .inl v => o = .returned (v.map (mx_tv Γ ad))
  | .inr E => ∃ (q : Addr) (ce : Cell), o = .threw q ∧ t.heap[q]? = some ce ∧ ce.vm = .none ∧ s.vm.findClass E = some ce.cls
def mx_Fin (Γ : mx_G) (scr : Nat × (Nat → Int32)) (R : Room) (s : State) (below : List Frame) (a0 : Nat → Nat) (n0 : Nat) (Q : mx_O → mx_M → Prop) : State → Prop := fun t =>
  ∃ (o : Outcome) (r : mx_O) (M : mx_M) (ad : Nat → Nat) (L : List Loc) (k n : Nat), t.status = .running ∧ Ended t below o ∧ mx_OR Γ ad s t o r ∧ mx_At Γ R s a0 n0 M t.heap L k n ad ∧ s.WarmedH t.vm ∧ s.sameButNew ({ t with vm := s.vm } : State) L k n ∧ mx_scr M = scr ∧ Q r M
/-- THE WALK, IN PURE WORDS: from this place of the method, with these locals and this stack, in every machine that stands so: it ends, and Q of how, and of the world then -/
def mx_W (μ : mx_Me) (d pc : Nat) (ls st : List Value) (M : mx_M) (Q : mx_O → mx_M → Prop) : Prop :=
  ∀ (Γ : mx_G) (p : Program) (l : Launch) (e : Env) (R : Room) (s : State) (m : MethodId) (args : Array Value) (below : List Frame) (meth : Method) (c : Code) (a0 : Nat → Nat) (n0 : Nat) (H : Heap) (locs : List Loc) (cells slots : Nat) (ad : Nat → Nat) (la : Array Slot),
    mx_Ctx Γ μ d (mx_scr M) p l R s m meth c → mx_At Γ R s a0 n0 M H locs cells slots ad → mx_L Γ ad μ.2.2.1 ls la →
    W p l e R s m args below meth c H locs cells slots (mx_Fin Γ (mx_scr M) R s below a0 n0 Q) (F0 m pc la (st.map (mx_tv Γ ad)))
theorem mx_Wq {p : Program} {l : Launch} {e : Env} {R : Room} {s : State} {m : MethodId} {args : Array Value} {below : List Frame} {meth : Method} {c : Code} {H : Heap} {locs : List Loc} {cells slots : Nat} {Q Q2 : State → Prop} {g : JFrame}
    (h : W p l e R s m args below meth c H locs cells slots Q g) (hq : ∀ t, Q t → Q2 t) : W p l e R s m args below meth c H locs cells slots Q2 g := fun T hT X => by
  obtain ⟨t, a, b⟩ := h T hT X
  exact ⟨t, a, hq t b⟩
/-- the post may be weakened -/
theorem mx_mono {μ : mx_Me} {d pc : Nat} {ls st : List Value} {M : mx_M} {Q Q2 : mx_O → mx_M → Prop} (h : mx_W μ d pc ls st M Q) (hq : ∀ r M', Q r M' → Q2 r M') : mx_W μ d pc ls st M Q2 :=
  fun Γ p l e R s m args below meth c a0 n0 H locs cells slots ad la C A L => mx_Wq (h Γ p l e R s m args below meth c a0 n0 H locs cells slots ad la C A L) fun _ ⟨o, r, M', ad', L', k, n, h1, h2, h3, h4, h5, h6, h7, h8⟩ => ⟨o, r, M', ad', L', k, n, h1, h2, h3, h4, h5, h6, h7, hq _ _ h8⟩
/-- fewer locals are known -/
def mx_wk (ls ls' : List Value) : Bool := ls.length == ls'.length && (List.range ls.length).all (fun i => decide (ls'[i]? = some (.retAddr 0)) || decide (ls'[i]? = ls[i]?))
theorem mx_weak {μ : mx_Me} {d pc : Nat} {ls st : List Value} {M : mx_M} {Q : mx_O → mx_M → Prop} (ls' : List Value) (hl : ls'.length = ls.length) (hw : ∀ i : Nat, ls'[i]? = some (.retAddr 0) ∨ ls'[i]? = ls[i]?) (h : mx_W μ d pc ls' st M Q) : mx_W μ d pc ls st M Q :=
  fun Γ p l e R s m args below meth c a0 n0 H locs cells slots ad la C A ⟨l1, l2, l3, l4⟩ => h Γ p l e R s m args below meth c a0 n0 H locs cells slots ad la C A ⟨l1, l2, hl.trans l3, fun i v hv hn => by
    rcases hw i with q | q
    · rw [q] at hv; exact absurd (Option.some.inj hv).symm hn
    · rw [q] at hv; exact l4 i v hv hn⟩
