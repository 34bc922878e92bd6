/-! throw new NoSuchElementException("text"): its constructor passes the text on by another entry than the others do -/
def mx_c13 : ByteArray := ⟨#[0x2a, 0x2b, 0xb7, 0x00, 0x0d, 0xb1]⟩
theorem mx_c13_0 : decode mx_c13 0 = .ok (.aload_n 0, 1) := by decide +kernel
theorem mx_c13_1 : decode mx_c13 1 = .ok (.aload_n 1, 1) := by decide +kernel
theorem mx_c13_2 : decode mx_c13 2 = .ok (.invokespecial 13, 3) := by decide +kernel
theorem mx_c13_5 : decode mx_c13 5 = .ok (.return_, 1) := by decide +kernel
/-- the words of such a throw, the chain of constructors apart -/
def mx_tw (own : String) (ic : Nat) (X : String) : List Cond := Bundle.throwableAtoms ++ Bundle.throwableSAtoms ++
  [.methodLink own ic (Bundle.initS X), .instanceMethod (Bundle.initS X), .instantiable X 6, .castable X X, .selects X Bundle.tFill0 Bundle.tFill0, .selects X Bundle.tFill Bundle.tFill,
   .lays X Bundle.tN "cause" "Ljava/lang/Throwable;", .lays X Bundle.tN "stackTrace" Bundle.steD, .lays X Bundle.tN "suppressedExceptions" Bundle.listD, .lays X Bundle.tN "detailMessage" "Ljava/lang/String;",
   .isRef (.static Bundle.tN "UNASSIGNED_STACK" Bundle.steD), .isRef (.static Bundle.tN "SUPPRESSED_SENTINEL" Bundle.listD),
   .fieldLink Bundle.tN 198 Bundle.tN "backtrace" "Ljava/lang/Object;", .lays Bundle.tN Bundle.tN "backtrace" "Ljava/lang/Object;", .lays X Bundle.tN "backtrace" "Ljava/lang/Object;"]
set_option maxHeartbeats 2000000 in
/-- a constructor of an exception, then its throw: the chain of constructors given -/
theorem mx_ctorT {p : Program} {l : Launch} {e : Env} {R : Room} {s : State} {m0 : MethodId} {args : Array Value} {below : List Frame} {meth : Method} {c : Code} {V : State} {locs : List Loc} {cells slots : Nat} (X : Stand p l e R s m0 args below meth c V locs cells slots) (hexec : p.tables.exec = Jvm.exec) (htr : e.platform.stackTraces = false) {own cls : String} {ic : Nat} {bytes : ByteArray}
    (hown : s.vm.findClass own = some m0.cls) (hcls : Bundle.fit cls = true) (h : ∀ a ∈ mx_tw own ic cls, a.before args s = true) (hcode : (Cond.code (Bundle.initS cls) bytes 2 none).before args s = true)
    (hch : ∀ top, s.methodNamed? (Bundle.initS Bundle.tN) = some top → ∃ (P1 : PassC) (Ps : List PassC), Ps.length = 2 ∧ P1.LinksS e.platform s ∧ (∀ P, P ∈ Ps → P.LinksS e.platform s) ∧ s.methodNamed? (Bundle.initS cls) = some P1.m ∧ P1.sup = firstOf top (Ps.map (·.toPassT)) ∧ PassesOn top (Ps.map (·.toPassT)))
    (hlocs : ∀ x ∈ locs, ∀ cell, s.heap[x.base]? = some cell → cell.vm.isStatics = false)
    {a : Addr} {cX : ClassId} {kX : Class} (hfoundX : s.vm.findClass cls = some cX) (hkX : s.vm.classes[cX]? = some kX) (hcell : V.heap[a]? = some (freshCell cX kX)) (hnew : s.heap.size ≤ a)
    {msg : Value} (hmsg : msg.isRef = true) {g : JFrame} (hg : g.method = m0) (hsize : g.locals.size = c.maxLocals) (hlocked : g.locked = none) (hentered : g.entered = []) {rest : List Value} (hstack : g.stack = msg :: .ref a :: .ref a :: rest)
    (hd6 : decode c.code g.pc = .ok (.invokespecial ic, 3)) (hd9 : decode c.code (g.pc + 3) = .ok (.athrow, 1)) (hout : ∀ x ∈ c.exceptionTable.toList, covers x (g.pc + 3) = false)
    (hRframes : 5 < R.frames) (hRlocals : 2 * g.monitorRoom + ((Value.ref a :: rest).map fun v => v.category).sum + 81 ≤ R.locals) (hlocks : meth.locks = false) :
    ∃ U : State, Steps p.tables e below (V.setTop g) U ∧ U.status = .running ∧ Ended U below (.threw a) ∧ s.WarmedH U.vm ∧ s.sameButNew ({ U with vm := s.vm } : State) locs cells slots ∧ ∃ ce, U.heap[a]? = some ce ∧ ce.vm = .none ∧ s.vm.findClass cls = some ce.cls := by
  have howns : e.platform.frameOwnsMonitors = true := by rw [X.admits.platform]
  have hfin : e.platform.finalization = false := by rw [X.admits.platform]
  have hpl : e.platform.magicAccessors = ({} : Platform).magicAccessors := by rw [X.admits.platform]
  have a' : ∀ x, x ∈ mx_tw own ic cls → x.holds args s none s [] = true := fun x hx => h x hx
  obtain ⟨T, Z0, L, -, Y⟩ := ThrowableC.of_atoms (args := args) howns hfin hpl (fun x hx => h x (by simp [mx_tw, hx]))
  obtain ⟨Z, M, LZ, LM, hnZ⟩ := Init0T.ofS_atoms (args := args) hpl L Y (fun x hx => h x (by simp [mx_tw, hx]))
  obtain ⟨P1, Ps, hlen, L1, hL, hP1m, hlink1, hlink⟩ := hch _ hnZ
  have hfound : s.vm.findClass cls = some P1.m.cls := findClass_of_methodNamed hP1m
  cases Option.some.inj (hfoundX.symm.trans hfound)
  obtain ⟨c1, kX', hc1, hk, hord, -, -, hn6⟩ := Cond.instantiable_spec (a' (.instantiable cls 6) (by simp [mx_tw]))
  cases Option.some.inj (hc1.symm.trans hfound)
  cases Option.some.inj (hkX.symm.trans hk)
  have hsel : ∀ (y : MethodName) (f : MethodId), (y.cls ≠ "java/lang/invoke/MethodHandle" ∧ y.cls ≠ "java/lang/invoke/VarHandle") → s.methodNamed? y = some f → (Cond.selects cls y y).before args s = true → selectMethod e.platform s.vm P1.m.cls f = .method f := by
    intro y f hy hf hs
    obtain ⟨c2, r2, m2, q1, q2, q3, q4, -⟩ := Cond.selects_spec hs
    cases Option.some.inj (q1.symm.trans hfound)
    cases Option.some.inj (q2.symm.trans (State.methodFound?_of_named hf hy))
    cases Option.some.inj (q3.symm.trans hf)
    rw [Launch.admits_selectMethod X.admits]; exact q4
  have hsel0 := hsel Bundle.tFill0 T.fill0 (by decide) Y.fill0 (h _ (by simp [mx_tw]))
  have hselF := hsel Bundle.tFill T.fill (by decide) Y.fill (h _ (by simp [mx_tw]))
  obtain ⟨cellS0, hcS0, hiss⟩ := Y.statics
  obtain ⟨u0, hu0⟩ := Cond.staticRefV Y.unassigned L.unassignedStatic L.statics hcS0 hiss (a' (.isRef (.static Bundle.tN "UNASSIGNED_STACK" Bundle.steD)) (by simp [mx_tw]))
  obtain ⟨sen, hsen⟩ := Cond.staticRefV Y.sentinel L.sentinelStatic L.statics hcS0 hiss (a' (.isRef (.static Bundle.tN "SUPPRESSED_SENTINEL" Bundle.listD)) (by simp [mx_tw]))
  obtain ⟨ci198, i198, fB, hk198, hg198, ha198, hsB, -, hnB, htB, hffB⟩ := Cond.ownField (t := .object "java/lang/Object") Y.found L.cls (by decide +kernel) (a' (.fieldLink Bundle.tN 198 Bundle.tN "backtrace" "Ljava/lang/Object;") (by simp [mx_tw])) (a' (.lays Bundle.tN Bundle.tN "backtrace" "Ljava/lang/Object;") (by simp [mx_tw])) e.platform hpl
  obtain ⟨cellS, hcellS, heS, -, hkeep⟩ := X.same.2.2.2.2.2 T.aS cellS0 hcS0
  have hcellS : V.heap[T.aS]? = some cellS := hcellS
  have hfree : ∀ i, (⟨T.aS, i⟩ : Loc) ∉ locs := fun i hmem => by
    have h9 := hlocs _ hmem cellS0 hcS0
    rw [hiss] at h9
    cases h9
  have hknownS : cellS.vm ≠ .unknown := by
    rw [heS]
    intro hu
    rw [show cellS0.vm = .unknown from hu] at hiss
    cases hiss
  have hneS : T.aS ≠ a := Nat.ne_of_lt (Nat.lt_of_lt_of_le (Array.getElem?_eq_some_iff.mp hcS0).1 hnew)
  obtain ⟨iM, hffM⟩ := Y.msg
  obtain ⟨tyC, dC, hdC, hdnC⟩ := Cond.laysAt hfound hk Y.cause (a' (.lays cls Bundle.tN "cause" "Ljava/lang/Throwable;") (by simp [mx_tw]))
  obtain ⟨tyS, dS, hdS, hdnS⟩ := Cond.laysAt hfound hk Y.stack (a' (.lays cls Bundle.tN "stackTrace" Bundle.steD) (by simp [mx_tw]))
  obtain ⟨tyP, dP, hdP, hdnP⟩ := Cond.laysAt hfound hk Y.supp (a' (.lays cls Bundle.tN "suppressedExceptions" Bundle.listD) (by simp [mx_tw]))
  obtain ⟨tyM, dM, hdM, hdnM⟩ := Cond.laysAt hfound hk hffM (a' (.lays cls Bundle.tN "detailMessage" "Ljava/lang/String;") (by simp [mx_tw]))
  obtain ⟨tyB, dB, hdB, hdnB⟩ := Cond.laysAt hfound hk hffB (a' (.lays cls Bundle.tN "backtrace" "Ljava/lang/Object;") (by simp [mx_tw]))
  have bC := Cond.laysApart hdB hdC hdnB hdnC (by rw [hnB, Y.causeName]; decide)
  have bS := Cond.laysApart hdB hdS hdnB hdnS (by rw [hnB, Y.stackName]; decide)
  have bP := Cond.laysApart hdB hdP hdnB hdnP (by rw [hnB, Y.suppName]; decide)
  have hskip : SkipFacts T e.platform s (fun u => u) u0 ((preparedCellV T.toThrowableT (freshCell P1.m.cls kX) a u0 sen).withEntry V.cur) :=
    ⟨{ ci198 := ci198, i198 := i198, fBack := fB }, ⟨hk198, hg198, ha198, hsB⟩, by
      have h9 := fresh_default (c := P1.m.cls) tyB
      rw [htB] at h9
      simpa [preparedCellV, Cell.setSlot, Cell.withEntry, Array.getElem?_setIfInBounds, bC, bS, bP, bC.symm, bS.symm, bP.symm, defaultValue] using h9, fun _ _ => rfl⟩
  obtain ⟨tm, methC, cdC, kC, vm1, hnC, -, -, -, -, -, -, -, hW1, st1⟩ := Steps.initColdS (tb := p.tables) (e := e) (below := below) (s := s) (U := V) X.here hexec X.warmed hpl hown (t := Bundle.initS cls) rfl rfl (Bundle.fit_spec hcls).2
    (a' (.methodLink own ic (Bundle.initS cls)) (by simp [mx_tw])) (h (.instanceMethod (Bundle.initS cls)) (by simp [mx_tw])) (bytes := bytes) (maxL := 2) hcode (f := g) hg (a := a) (msg := msg) (rest := .ref a :: rest) hstack hd6
  cases Option.some.inj (hnC.symm.trans hP1m)
  have X1 := X.noted hW1
  obtain ⟨vm2, X2, st2⟩ := X1.ctorMessageOffV hexec (g := { g with stack := .ref a :: rest }) hg hsize T L Z LZ M LM (P1 :: Ps) (fun P hP => by rcases List.mem_cons.mp hP with rfl | hP; exact L1; exact hL P hP) ⟨hlink1, hlink⟩ (u0 := u0) (sen := sen) (self := a) hmsg (cell := freshCell P1.m.cls kX) (cellS := cellS)
    hcell (fun _ => by simp) (by simp) rfl rfl hsel0 hselF hcellS hneS hknownS (by rw [hkeep _ (hfree _)]; exact hu0) (by rw [hkeep _ (hfree _)]; exact hsen)
    (Takes.of_laid hk hord tyC (by rw [Y.causeType]; rfl)) (Takes.of_laid hk hord tyS (by rw [Y.stackType]; exact fits_refV_array _ u0)) (Takes.of_laid hk hord tyP (by rw [Y.suppType]; exact fits_refV_object _ sen)) (Takes.of_laid hk hord tyM (by rw [Y.msgType]; exact fits_refV_object _ ⟨msg, hmsg⟩)) Y.objLocals hskip htr [] hd6
    (by simp only [List.length_cons, hlen]; omega) (by simp only [List.length_cons, hlen]; exact hRlocals)
  obtain ⟨hwalk, hrun, hended, hWU, hsame⟩ := X2.athrowLeaves hexec (g := { g with stack := .ref a :: rest, pc := g.pc + 3 }) hg hlocked hentered hout (a := a) (rest := rest) rfl hd9
  have hlt : a < ((V.setVm vm1).setVm vm2).heap.size := (Array.getElem?_eq_some_iff.mp hcell).1
  have hU := heapAt_setCell_self (s := (V.setVm vm1).setVm vm2) (plainBareV T.toThrowableT (freshCell P1.m.cls kX) a u0 sen msg) hlt
  refine ⟨_, st1 _ (fun acts => ?_), hrun, hended, hWU, hsame.weaken (fun y hy hlt' => ?_) (Nat.le_refl _) (Nat.le_refl _), _, hU, rfl, hfound⟩
  · rw [doInvoke_state]
    exact st2 _ hwalk
  · rcases List.mem_append.mp hy with h1 | h1
    · exact h1
    · exfalso
      simp only [List.mem_cons, List.not_mem_nil, or_false] at h1
      rcases h1 with rfl | rfl | rfl | rfl | rfl <;> exact Nat.not_le.mpr hlt' hnew
abbrev mx_nse : String := "java/util/NoSuchElementException"
abbrev mx_iae : String := "java/lang/IllegalArgumentException"
abbrev mx_rte : String := "java/lang/RuntimeException"
theorem mx_chain {args : Array Value} {s : State} {pl : Platform} (hpl : pl.magicAccessors = ({} : Platform).magicAccessors) (h1 : ∀ w ∈ Bundle.passSAtoms mx_nse mx_rte 13 mx_c13, w.before args s = true) (h2 : ∀ w ∈ Bundle.chainSAtoms mx_rte ["java/lang/Exception"], w.before args s = true) :
    ∀ top, s.methodNamed? (Bundle.initS Bundle.tN) = some top → ∃ (P1 : PassC) (Ps : List PassC), Ps.length = 2 ∧ P1.LinksS pl s ∧ (∀ P, P ∈ Ps → P.LinksS pl s) ∧ s.methodNamed? (Bundle.initS mx_nse) = some P1.m ∧ P1.sup = firstOf top (Ps.map (·.toPassT)) ∧ PassesOn top (Ps.map (·.toPassT)) := by
  intro top htop
  obtain ⟨P, L, hm, hs⟩ := PassC.ofS_atoms (args := args) (s := s) hpl (X := mx_nse) (Y := mx_rte) (by decide +kernel) ⟨by decide, by decide⟩ mx_c13_0 mx_c13_1 mx_c13_2 mx_c13_5 h1
  obtain ⟨P2, Ps, hlen, L2, hL, hm2, hsup, hpass⟩ := Bundle.chainS (args := args) hpl htop ["java/lang/Exception"] mx_rte (by decide +kernel) (by decide +kernel) h2
  refine ⟨P, P2 :: Ps, by simp [hlen], L, ?_, hm, Option.some.inj (hs.symm.trans hm2), hsup, hpass⟩
  intro P9 hP9
  rcases List.mem_cons.mp hP9 with rfl | hP9
  · exact L2
  · exact hL P9 hP9
theorem mx_tw_no : ∀ w ∈ (mx_tw "MeerDrawers" 159 mx_nse).filter vx_no, w ∈ mx_tb := by decide +kernel
theorem mx_tw_ot : ∀ w ∈ (mx_tw "MeerDrawers" 159 mx_nse).filter vx_no, vx_ot w = true := by decide +kernel
theorem mx_ps_in : ∀ w ∈ Bundle.passSAtoms mx_nse mx_rte 13 mx_c13 ++ Bundle.chainSAtoms mx_rte ["java/lang/Exception"], w ∈ mx_tb := by decide +kernel
theorem mx_ps_ot : ∀ w ∈ Bundle.passSAtoms mx_nse mx_rte 13 mx_c13 ++ Bundle.chainSAtoms mx_rte ["java/lang/Exception"], vx_ot w = true := by decide +kernel
set_option maxHeartbeats 2000000 in
theorem mx_thrN {μ : mx_Me} {d pc : Nat} {ls st : List Value} {M : mx_M} {Q : mx_O → mx_M → Prop} (i ik is q : Nat) {tx : String} (hμ : μ.1 = "MeerDrawers") (hi : i < 33) (hc : mx_txt.getD i ("", 0, "") = (μ.1, is, tx)) (hk : Cond.classLink μ.1 ik mx_nse ∈ lw_tbl) (hini : Cond.initialized mx_nse ∈ lw_tbl)
    (d0 : decode μ.2.1 pc = .ok (.new ik, 3)) (d3 : decode μ.2.1 (pc + 3) = .ok (.dup, 1)) (d4 : (q = 2 ∧ decode μ.2.1 (pc + 4) = .ok (.ldc is, 2)) ∨ (q = 3 ∧ decode μ.2.1 (pc + 4) = .ok (.ldc_w is, 3))) (d6 : decode μ.2.1 (pc + 4 + q) = .ok (.invokespecial 159, 3)) (d9 : decode μ.2.1 (pc + 4 + q + 3) = .ok (.athrow, 1))
    (hex : μ.2.2.2.2.1 = []) (hst : (st.map fun v => v.category).sum ≤ 64) (h1 : 1 ≤ (mx_rm M).1) (h2 : 6 ≤ (mx_rm M).2)
    (hq : Q (.inr mx_nse) (mx_sh M, mx_I M, mx_J M, mx_R M, ((mx_rm M).1 - 1, (mx_rm M).2 - 6), mx_scr M)) : mx_W μ d pc ls st M Q := by
  intro Γ p l e R s m args below meth c a0 n0 H locs cells slots ad la C A L T hT X
  have hstr := C.2.2.2.2.2.2.2.2.2.2.2.2.1 i hi
  rw [hc] at hstr
  have hts := mx_tb_of C.2.2.2.2.2.2.2.2.2.2.1 args
  obtain ⟨hx, hb, hml, hown, hr, hlocks, hexc, ⟨hl, hnam⟩, hfr, hlo, hTT, hK, -, -, hU, hN, -⟩ := id C
  have htr : e.platform.stackTraces = false := (show e.platform.stackTraces = l.stackTraces by rw [X.admits.platform]).trans hl
  have hpl : e.platform.magicAccessors = ({} : Platform).magicAccessors := by rw [X.admits.platform]
  have hcR : cells + 1 ≤ R.cells := by have := A.2.2.1; omega
  have hsR : slots + 6 ≤ R.slots := by have := A.2.2.2.1; omega
  have Y := vx_rebase X (R' := { frames := R.frames, locals := R.locals, cells := 1, slots := 6 }) (Nat.le_refl _) (Nat.le_refl _) hcR hsR
  obtain ⟨s', hA⟩ : ∃ z, z = (T.setVm s.vm).setFrames (.invoking m args :: below) := ⟨_, rfl⟩
  rw [← hA] at Y
  have hvm : s'.vm = s.vm := by rw [hA]; rfl
  have hhp : s'.heap = H := by rw [hA]; exact hT
  have hW0 : s.WarmedH s'.vm := by rw [hvm]; exact State.WarmedH.refl s
  have hU' : vx_Zq Bundle.tN "UNASSIGNED_STACK" Bundle.steD (mx_A Γ) s' s'.heap := by rw [hhp]; exact vx_Zq.moved hW0.alike (hU.kept A.2.1.2.1)
  have hN' : vx_Zq Bundle.tN "SUPPRESSED_SENTINEL" Bundle.listD (mx_A Γ) s' s'.heap := by rw [hhp]; exact vx_Zq.moved hW0.alike (hN.kept A.2.1.2.1)
  have h : ∀ w ∈ mx_tw μ.1 159 mx_nse, w.before args s' = true := by
    rw [hμ]
    exact vx_own (fun w hw => vx_ot_at hW0 hvm.symm (mx_tw_ot w hw) (hts w (mx_tw_no w hw))) (vx_isRefq hU'.1) (vx_isRefq hN'.1) hU'.2.word hN'.2.word
  have hps : ∀ w ∈ Bundle.passSAtoms mx_nse mx_rte 13 mx_c13 ++ Bundle.chainSAtoms mx_rte ["java/lang/Exception"], w.before args s' = true := fun w hw => vx_ot_at hW0 hvm.symm (mx_ps_ot w hw) (hts w (mx_ps_in w hw))
  have hown' : s'.vm.findClass μ.1 = some m.cls := by rw [hvm]; exact hown
  have hk' : (Cond.classLink μ.1 ik mx_nse).before args s' = true := vx_ot_at hW0 hvm.symm rfl (hTT _ hk rfl args)
  have hini' : (Cond.initialized mx_nse).before args s' = true := vx_ot_at hW0 hvm.symm rfl (hTT _ hini rfl args)
  have hins : (Cond.instantiable mx_nse 6).before args s' = true := h _ (by simp [mx_tw])
  obtain ⟨vm1, cX, kX, hfX, hkX, -, -, X1, st1⟩ := Y.newCold hx (own := μ.1) (C := mx_nse) (index := ik) (n := 6) hown' hk' hins hini' (g := F0 m pc la (st.map (mx_tv Γ ad))) rfl (by rw [hb]; exact d0) (Nat.le_refl _) (Nat.le_refl _)
  generalize hT1 : (T.setVm vm1).pushCell { cls := cX, slots := kX.instanceTypes.map defaultValue, vm := .none } = T1 at X1 st1
  have hcat : (Value.ref T.heap.size).category = 1 := rfl
  have hcellA : T1.heap[T.heap.size]? = some (freshCell cX kX) := by rw [← hT1]; exact State.heap_pushCell_size _ _
  have d3' : decode c.code (pc + 3) = .ok (.dup, 1) := by rw [hb]; exact d3
  have hstr' : vk_R μ.1 is tx (mx_old Γ (2 * i + 2)) s' := vk_R.warm hW0 hstr
  have hsum : ((st.map (mx_tv Γ ad)).map fun v => v.category).sum ≤ 64 := by rw [mx_catsum]; exact hst
  obtain ⟨U, hsteps, hrun, hend, hW, hsame, ce, hce, hcv, hcl⟩ := mx_ctorT X1 hx htr (own := μ.1) (cls := mx_nse) (ic := 159) (bytes := mx_c13) hown' (by decide +kernel) h (hps _ (by simp [Bundle.passSAtoms])) (mx_chain hpl (fun w hw => hps w (List.mem_append_left _ hw)) (fun w hw => hps w (List.mem_append_right _ hw))) (fun x hx => nomatch hx) hfX hkX hcellA (by rw [hhp, hT]; exact Nat.le_refl _) (msg := .ref (mx_old Γ (2 * i + 2))) rfl
    (g := { method := m, pc := pc + 4 + q, locals := la, stack := .ref (mx_old Γ (2 * i + 2)) :: .ref T.heap.size :: .ref T.heap.size :: st.map (mx_tv Γ ad), locked := none }) rfl (L.1.trans hml.symm) rfl rfl (rest := st.map (mx_tv Γ ad)) rfl
    (by rw [hb]; exact d6) (by rw [hb]; exact d9) (by rw [hexc, hex]; intro x hx; cases hx) (by show 5 < R.frames; omega) (by simp only [List.map_cons, List.sum_cons, hcat]; show 2 * 0 + (1 + _) + 81 ≤ R.locals; omega) hlocks
  obtain ⟨f1, f2⟩ := vx_frame hsame
  rw [hhp] at f1 f2
  have f3 : ∀ q : Nat, q < H.size → U.heap[q]? = H[q]? := fun q hq => f2 q hq (fun z hz => nomatch hz)
  have hWs : s.WarmedH U.vm := State.WarmedH.trans hW0 hW
  rw [hvm] at hcl
  have hall : s.sameButNew ({ U with vm := s.vm } : State) locs (cells + 1) (slots + 6) := by
    subst hA
    obtain ⟨e1, e2⟩ := hsame
    rw [State.setFrames_setFrames] at e1
    have h2 : (T.setVm s.vm).sameButNew ({ U with vm := s.vm } : State) [] (0 + 1) (0 + 6) := ⟨e1, e2⟩
    have h3 := X.same.trans h2
    rw [List.append_nil] at h3
    exact h3
  have hcE : cells + 1 + ((mx_rm M).1 - 1) ≤ R.cells := by have := A.2.2.1; omega
  have hsE : slots + 6 + ((mx_rm M).2 - 6) ≤ R.slots := by have := A.2.2.2.1; omega
  refine ⟨U, ?_, .threw T.heap.size, .inr mx_nse, (mx_sh M, mx_I M, mx_J M, mx_R M, ((mx_rm M).1 - 1, (mx_rm M).2 - 6), mx_scr M), ad, locs, cells + 1, slots + 6, hrun, hend, ⟨T.heap.size, ce, rfl, hce, hcv, hcl⟩, ⟨⟨A.1.1.kept (fun k9 q9 h9 => f3 _ (A.1.1 k9 q9 h9).lt), A.1.2⟩, ⟨Nat.le_trans A.2.1.1 f1, fun q9 a1 a2 => by rw [f3 q9 (Nat.lt_of_lt_of_le a1 A.2.1.1)]; exact A.2.1.2.1 q9 a1 a2, A.2.1.2.2⟩, hcE, hsE, A.2.2.2.2.1, A.2.2.2.2.2⟩, hWs, hall, rfl, hq⟩
  refine st1 _ ?_
  show Steps p.tables e below (T1.setTop { method := m, pc := pc + 3, locals := la, stack := .ref T.heap.size :: st.map (mx_tv Γ ad), locked := none }) _
  jvm_step X1.here [X1.here.top, hx, d3', Value.category]
  rcases d4 with ⟨hq2, d4⟩ | ⟨hq2, d4⟩
  · subst hq2
    exact X1.ldcString hx (own := μ.1) (text := tx) (index := is) (a := mx_old Γ (2 * i + 2)) hown' hstr'.1 hstr'.2 (g := { method := m, pc := pc + 4, locals := la, stack := .ref T.heap.size :: .ref T.heap.size :: st.map (mx_tv Γ ad), locked := none }) rfl (by rw [hb]; exact d4) _ hsteps
  · subst hq2
    exact X1.ldcStringW hx (own := μ.1) (text := tx) (index := is) (a := mx_old Γ (2 * i + 2)) hown' hstr'.1 hstr'.2 (g := { method := m, pc := pc + 4, locals := la, stack := .ref T.heap.size :: .ref T.heap.size :: st.map (mx_tv Γ ad), locked := none }) rfl (by rw [hb]; exact d4) _ hsteps
