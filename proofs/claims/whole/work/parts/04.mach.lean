/-! ONE WORLD: the cells of the class and of the reference, numbered from 1 on (0: null); a method's walk over it, in pure words -/
/-- a cell's shape: an object of the class with this number in vwCl, or an array of so many -/
abbrev mx_S : Type := Nat ⊕ (FieldType × Nat)
/-- shapes; ints (fields and elements); longs; references; room left (cells, slots); the script -/
abbrev mx_M : Type := List mx_S × (Nat → Nat → Int32) × (Nat → Nat → Int64) × (Nat → Nat → Nat) × (Nat × Nat) × (Nat × (Nat → Int32))
abbrev mx_sh (M : mx_M) : List mx_S := M.1
abbrev mx_I (M : mx_M) : Nat → Nat → Int32 := M.2.1
abbrev mx_J (M : mx_M) : Nat → Nat → Int64 := M.2.2.1
abbrev mx_R (M : mx_M) : Nat → Nat → Nat := M.2.2.2.1
abbrev mx_rm (M : mx_M) : Nat × Nat := M.2.2.2.2.1
abbrev mx_scr (M : mx_M) : Nat × (Nat → Int32) := M.2.2.2.2.2
def mx_up {α : Type} (f : Nat → Nat → α) (k j : Nat) (v : α) : Nat → Nat → α := fun a b => if a = k ∧ b = j then v else f a b
abbrev mx_setI (M : mx_M) (k j : Nat) (v : Int32) : mx_M := (mx_sh M, mx_up (mx_I M) k j v, mx_J M, mx_R M, mx_rm M, mx_scr M)
abbrev mx_setJ (M : mx_M) (k j : Nat) (v : Int64) : mx_M := (mx_sh M, mx_I M, mx_up (mx_J M) k j v, mx_R M, mx_rm M, mx_scr M)
abbrev mx_setR (M : mx_M) (k j : Nat) (v : Nat) : mx_M := (mx_sh M, mx_I M, mx_J M, mx_up (mx_R M) k j v, mx_rm M, mx_scr M)
/-- the class's number and slots; the first address that is ours; where the old objects are (1: the script; 2 i + 2: the i-th text; 2 i + 3: its bytes); the classes of the four kinds of arrays -/
abbrev mx_G : Type := va_G × Nat × (Nat → Nat) × (ClassId × ClassId × ClassId × ClassId)
abbrev mx_D (Γ : mx_G) : va_G := Γ.1
abbrev mx_z (Γ : mx_G) : Nat := Γ.2.1
abbrev mx_old (Γ : mx_G) : Nat → Nat := Γ.2.2.1
abbrev mx_A (Γ : mx_G) : Nat → Prop := fun q => mx_z Γ ≤ q
abbrev mx_tys (Γ : mx_G) : List (ClassId × FieldType) := [(Γ.2.2.2.1, .int), (Γ.2.2.2.2.1, .long), (Γ.2.2.2.2.2.1, .byte), (Γ.2.2.2.2.2.2, .boolean)]
def mx_ac (Γ : mx_G) (ty : FieldType) : ClassId := if ty = .int then Γ.2.2.2.1 else if ty = .long then Γ.2.2.2.2.1 else if ty = .byte then Γ.2.2.2.2.2.1 else Γ.2.2.2.2.2.2
/-- a reference of ours, at its address -/
def mx_ra (ad : Nat → Nat) : Nat → Value
  | 0 => .null
  | k + 1 => .ref (ad k)
def mx_tv (Γ : mx_G) (ad : Nat → Nat) : Value → Value
  | .ref r => mx_ra ad r
  | .retAddr n => .ref (mx_old Γ n)
  | v => v
/-- classes' fields: how many, of which type -/
def mx_cn (ci : Nat) : Nat := match vwCl[ci]? with
  | some q => q.2.2
  | none => 0
def mx_ct (ci : Nat) : Nat → FieldType := ([tyX0, tyX1, tyX2, tyX3, tyX4, tyX5, tyX6, tyX7, tyX8, tyX10, tyX11] : List (Nat → FieldType)).getD ci (fun _ => .int)
def mx_fv (ty : FieldType) (x : Int32) (y : Int64) (r : Value) : Value := match ty with
  | .long => .long y
  | .object _ => r
  | .array _ => r
  | _ => .int x
def mx_cell (Γ : mx_G) (ad : Nat → Nat) (s : mx_S) (x : Nat → Int32) (y : Nat → Int64) (r : Nat → Nat) : va_E := match s with
  | .inl ci => .inr (ci, (List.range (mx_cn ci)).map (fun j => mx_fv (mx_ct ci j) (x j) (y j) (mx_ra ad (r j))))
  | .inr (ty, n) => .inl (mx_ac Γ ty, n, if ty = .long then .inr (.inl y) else .inl x)
def mx_ws (Γ : mx_G) (ad : Nat → Nat) (M : mx_M) : va_W := (List.range (mx_sh M).length).map (fun k => (ad k, mx_cell Γ ad ((mx_sh M).getD k (.inl 0)) (mx_I M (k + 1)) (mx_J M (k + 1)) (mx_R M (k + 1))))
def mx_Rep (Γ : mx_G) (M : mx_M) (ad : Nat → Nat) (H : Heap) : Prop := va_P (mx_D Γ) vwCl (mx_ws Γ ad M) H ∧ va_D (mx_A Γ) (mx_ws Γ ad M) ∧ ∀ k j, mx_R M k j ≤ (mx_sh M).length
/-- words that stay while the tables warm -/
def mx_keep : Cond → Bool
  | .fieldLinkNest .. => true
  | .methodLinkNest .. => true
  | .castable .. => true
  | .declares _ => true
  | w => goodWord w
def mx_T (s : State) : Prop := ∀ w ∈ lw_tbl, mx_keep w = true → ∀ a, w.before a s = true
theorem mx_T.warm {s U : State} (hW : s.WarmedH U.vm) (h : mx_T s) : mx_T U := by
  intro w hw hk a
  have h0 := h w hw hk #[]
  cases w with
  | fieldLinkNest a1 i b n d h9 => exact va_Nw.use rfl (va_Nw.warmF hW h0)
  | methodLinkNest a1 i x h9 => exact va_Nw.use rfl (va_Nw.warmM hW h0)
  | castable C T => exact va_Nw.use rfl (va_Nw.warmC hW h0)
  | declares x => exact va_Nw.use rfl (va_Nw.warmD hW h0)
  | _ => exact word_at hW (good_of_word hk) h0
