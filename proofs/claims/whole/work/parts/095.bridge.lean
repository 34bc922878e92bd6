/-! the law's walk in pure words gives its walk on the machine -/
def mx_law : mx_Me := (RL, code, 7, ret, [], "law")
/-- the world at the law's entry: nothing is made, all room is there -/
abbrev mx_M0 (L : Nat) (xs : Nat → Int32) : mx_M := ([], fun _ _ => 0, fun _ _ => 0, fun _ _ => 0, (600128, 7301098), (L, xs))
def mx_Law : Prop := ∀ (L : Nat) (xs : Nat → Int32), L ≤ 384 → mx_W mx_law 1000 0 (mx_ent 7 [.retAddr 1]) [] (mx_M0 L xs) (fun o _ => o = .inl (some (.int 1)))
theorem mx_law_exc {s : State} {m : MethodId} {meth : Method} {c : Code} {args : Array Value} (hn : s.methodNamed? x = some m) (hm : s.vm.method? m = some meth) (hc : meth.code = some c) (h : (Cond.code x code maxLocals ret).before args s = true) : c.exceptionTable.toList = [] := by
  obtain ⟨meth2, c2, h1, h2, -, -, -, -, h7, -⟩ := Cond.code_spec hn h
  cases hm.symm.trans h1
  cases hc.symm.trans h2
  simpa using h7
theorem mx_e0 {α : Type} {P : Prop} {k : Nat} {q : α} (h : ([] : List α)[k]? = some q) : P := by simp at h
theorem mx_room : room_1.frames = 2048 ∧ room_1.cells = 600128 ∧ room_1.slots = 7301098 ∧ room_1.locals = 84000 := ⟨rfl, rfl, rfl, rfl⟩
theorem mx_C0 {Γ : mx_G} {p : Program} {s : State} {m : MethodId} {meth : Method} {c : Code} {l : Launch} {L : Nat} {xs : Nat → Int32} (hl : l.stackTraces = false) (hx : p.tables.exec = Jvm.exec) (hb : c.code = code) (hr : meth.sig.returnType = ret) (hml : c.maxLocals = 7) (hown : s.vm.findClass RL = some m.cls) (hlocks : meth.locks = false) (hexc : c.exceptionTable.toList = []) (hnam : meth.name = "law") (hE : mx_Env Γ (L, xs) s) : mx_Ctx Γ mx_law 1000 (L, xs) p l room_1 s m meth c := by
  refine ⟨hx, hb, hml, hown, hr, hlocks, hexc, ⟨hl, hnam⟩, ?_, ?_, hE⟩
  · rw [mx_room.1]; omega
  · rw [mx_room.2.2.2]; omega
theorem mx_A0 {Γ : mx_G} {s : State} {L : Nat} {xs : Nat → Int32} : mx_At Γ room_1 s (fun _ => 0) 0 (mx_M0 L xs) s.heap [] 0 0 (fun _ => 0) := by
  refine ⟨⟨fun k q h => mx_e0 h, ⟨fun i j p q h => mx_e0 h, fun k q h => mx_e0 h⟩, fun _ _ => Nat.le_refl _⟩, va_S.rf, ?_, ?_, fun _ _ => rfl, Nat.le_refl _⟩
  · rw [mx_room.2.1]; show 0 + 600128 ≤ 600128; omega
  · rw [mx_room.2.2.1]; show 0 + 7301098 ≤ 7301098; omega
theorem mx_F0 {Γ : mx_G} {s : State} {below : List Frame} {L : Nat} {xs : Nat → Int32} (hz : mx_z Γ = s.heap.size) (t : State) (ht : mx_Fin Γ (L, xs) room_1 s below (fun _ => 0) 0 (fun o _ => o = .inl (some (.int 1))) t) : ∃ o, t.status = .running ∧ Ended t below o ∧ o = .returned (some (.int 1)) ∧ Framed s o t [] 600128 7301098 := by
  obtain ⟨o, r, M, ad, L9, kc, ks, f1, f2, f3, f4, f5, f6, f7, f8⟩ := ht
  subst f8
  have f3 : o = .returned (some (.int 1)) := f3
  have g1 := f4.2.2.1
  have g2 := f4.2.2.2.1
  rw [mx_room.2.1] at g1
  rw [mx_room.2.2.1] at g2
  refine ⟨o, f1, f2, f3, ⟨_, f3⟩, f5, f6.weaken (fun y hy hlt => ?_) (by omega) (by omega)⟩
  have h8 : mx_z Γ ≤ y.base := f4.2.1.2.2 y hy
  rw [hz] at h8
  exact absurd hlt (Nat.not_lt.mpr h8)
theorem mx_bridge (hW : mx_Law) {p : Program} {e : Env} {s : State} {m : MethodId} {below : List Frame} {meth : Method} {c : Code} (l : Launch) (hl : l.stackTraces = false) {b L : Nat} {xs : Nat → Int32} (hL : L ≤ 384) (hx : p.tables.exec = Jvm.exec) (hb : c.code = code) (hr : meth.sig.returnType = ret) (hml : c.maxLocals = 7) (hown : s.vm.findClass RL = some m.cls) (hts : ∀ w ∈ lw_tbl, w.before #[Value.ref b] s = true) (hX : va_X b L xs s s.heap) (hbl : b < s.heap.size) (hlocks : meth.locks = false)
    (hgv : (Jvm.Cond.and given_1 narrow_1).before #[Value.ref b] s = true) (hexc : c.exceptionTable.toList = []) (hnam : meth.name = "law") :
    W p l e room_1 s m #[Value.ref b] below meth c s.heap [] 0 0 (fun t => ∃ o, t.status = .running ∧ Ended t below o ∧ o = .returned (some (.int 1)) ∧ Framed s o t [] 600128 7301098) (entryFrame m ([Value.ref b] : List Value).toArray 7) := by
  obtain ⟨Γ, hz, ho, hE⟩ := mx_env0 hts hgv hX hbl
  have hla := mx_L_ent (Γ := Γ) (ad := fun _ => 0) (nL := 7) (as := [.retAddr 1]) (by decide)
  have e2 : ([.retAddr 1] : List Value).map (mx_tv Γ (fun _ => 0)) = [Value.ref b] := by
    show [Value.ref (mx_old Γ 1)] = _
    rw [ho]
  rw [e2] at hla
  have k := hW L xs hL Γ p l e room_1 s m #[Value.ref b] below meth c (fun _ => 0) 0 s.heap [] 0 0 (fun _ => 0) _ (mx_C0 hl hx hb hr hml hown hlocks hexc hnam hE) mx_A0 hla
  rw [lg_entry_eq m [Value.ref b] 7]
  exact mx_Wq k (mx_F0 hz)
