/-! ===== the plain memory: ints, longs, references of each cell by its number; lengths; kinds; how many cells ===== -/
abbrev sp_Mem : Type := (Nat → Nat → Int32) × (Nat → Nat → Int64) × (Nat → Nat → Option Nat) × (Nat → Nat) × (Nat → Nat) × Nat
def sp_I (M : sp_Mem) (o j : Nat) : Int32 := M.1 o j
def sp_L (M : sp_Mem) (o j : Nat) : Int64 := M.2.1 o j
def sp_P (M : sp_Mem) (o j : Nat) : Option Nat := M.2.2.1 o j
def sp_N (M : sp_Mem) (o : Nat) : Nat := M.2.2.2.1 o
def sp_T (M : sp_Mem) (o : Nat) : Nat := M.2.2.2.2.1 o
def sp_n (M : sp_Mem) : Nat := M.2.2.2.2.2
def sp_up {α : Type} (f : Nat → α) (o : Nat) (v : α) : Nat → α := fun a => if a = o then v else f a
def sp_up2 {α : Type} (f : Nat → Nat → α) (o j : Nat) (v : α) : Nat → Nat → α := fun a b => if a = o ∧ b = j then v else f a b
def sp_setI (M : sp_Mem) (o j : Nat) (v : Int32) : sp_Mem := (sp_up2 M.1 o j v, M.2)
def sp_setL (M : sp_Mem) (o j : Nat) (v : Int64) : sp_Mem := (M.1, sp_up2 M.2.1 o j v, M.2.2)
def sp_setP (M : sp_Mem) (o j : Nat) (v : Option Nat) : sp_Mem := (M.1, M.2.1, sp_up2 M.2.2.1 o j v, M.2.2.2)
/-- a row of ints put in whole -/
def sp_rowI (M : sp_Mem) (o : Nat) (f : Nat → Int32) : sp_Mem := (sp_up M.1 o f, M.2)
/-- a new cell, all its places 0 or null -/
def sp_new (M : sp_Mem) (t len : Nat) : sp_Mem := (sp_up M.1 M.2.2.2.2.2 (fun _ => 0), sp_up M.2.1 M.2.2.2.2.2 (fun _ => 0), sp_up M.2.2.1 M.2.2.2.2.2 (fun _ => none), sp_up M.2.2.2.1 M.2.2.2.2.2 len, sp_up M.2.2.2.2.1 M.2.2.2.2.2 t, M.2.2.2.2.2 + 1)
section SpMem
variable (M : sp_Mem) (o j a b : Nat)
theorem sp_I_setI (v : Int32) : sp_I (sp_setI M o j v) a b = if a = o ∧ b = j then v else sp_I M a b := rfl
theorem sp_L_setI (v : Int32) : sp_L (sp_setI M o j v) a b = sp_L M a b := rfl
theorem sp_P_setI (v : Int32) : sp_P (sp_setI M o j v) a b = sp_P M a b := rfl
theorem sp_N_setI (v : Int32) : sp_N (sp_setI M o j v) a = sp_N M a := rfl
theorem sp_T_setI (v : Int32) : sp_T (sp_setI M o j v) a = sp_T M a := rfl
theorem sp_n_setI (v : Int32) : sp_n (sp_setI M o j v) = sp_n M := rfl
theorem sp_I_setL (v : Int64) : sp_I (sp_setL M o j v) a b = sp_I M a b := rfl
theorem sp_L_setL (v : Int64) : sp_L (sp_setL M o j v) a b = if a = o ∧ b = j then v else sp_L M a b := rfl
theorem sp_P_setL (v : Int64) : sp_P (sp_setL M o j v) a b = sp_P M a b := rfl
theorem sp_N_setL (v : Int64) : sp_N (sp_setL M o j v) a = sp_N M a := rfl
theorem sp_T_setL (v : Int64) : sp_T (sp_setL M o j v) a = sp_T M a := rfl
theorem sp_n_setL (v : Int64) : sp_n (sp_setL M o j v) = sp_n M := rfl
theorem sp_I_setP (v : Option Nat) : sp_I (sp_setP M o j v) a b = sp_I M a b := rfl
theorem sp_L_setP (v : Option Nat) : sp_L (sp_setP M o j v) a b = sp_L M a b := rfl
theorem sp_P_setP (v : Option Nat) : sp_P (sp_setP M o j v) a b = if a = o ∧ b = j then v else sp_P M a b := rfl
theorem sp_N_setP (v : Option Nat) : sp_N (sp_setP M o j v) a = sp_N M a := rfl
theorem sp_T_setP (v : Option Nat) : sp_T (sp_setP M o j v) a = sp_T M a := rfl
theorem sp_n_setP (v : Option Nat) : sp_n (sp_setP M o j v) = sp_n M := rfl
theorem sp_I_rowI (f : Nat → Int32) : sp_I (sp_rowI M o f) a b = if a = o then f b else sp_I M a b := by
  by_cases h : a = o <;> simp [sp_I, sp_rowI, sp_up, h]
theorem sp_L_rowI (f : Nat → Int32) : sp_L (sp_rowI M o f) a b = sp_L M a b := rfl
theorem sp_P_rowI (f : Nat → Int32) : sp_P (sp_rowI M o f) a b = sp_P M a b := rfl
theorem sp_N_rowI (f : Nat → Int32) : sp_N (sp_rowI M o f) a = sp_N M a := rfl
theorem sp_T_rowI (f : Nat → Int32) : sp_T (sp_rowI M o f) a = sp_T M a := rfl
theorem sp_n_rowI (f : Nat → Int32) : sp_n (sp_rowI M o f) = sp_n M := rfl
theorem sp_I_new (t len : Nat) : sp_I (sp_new M t len) a b = if a = sp_n M then 0 else sp_I M a b := by
  by_cases h : a = sp_n M <;> simp [sp_I, sp_new, sp_up, sp_n, h] <;> simp_all [sp_n]
theorem sp_L_new (t len : Nat) : sp_L (sp_new M t len) a b = if a = sp_n M then 0 else sp_L M a b := by
  by_cases h : a = sp_n M <;> simp [sp_L, sp_new, sp_up, sp_n, h] <;> simp_all [sp_n]
theorem sp_P_new (t len : Nat) : sp_P (sp_new M t len) a b = if a = sp_n M then none else sp_P M a b := by
  by_cases h : a = sp_n M <;> simp [sp_P, sp_new, sp_up, sp_n, h] <;> simp_all [sp_n]
theorem sp_N_new (t len : Nat) : sp_N (sp_new M t len) a = if a = sp_n M then len else sp_N M a := rfl
theorem sp_T_new (t len : Nat) : sp_T (sp_new M t len) a = if a = sp_n M then t else sp_T M a := rfl
theorem sp_n_new (t len : Nat) : sp_n (sp_new M t len) = sp_n M + 1 := rfl
end SpMem
/-! ===== what stays the same over the whole run: launch, class numbers, the first free cell, the arrays' classes, the cells of the texts ===== -/
abbrev sp_G : Type := Launch × va_G × Nat × (Nat → ClassId) × (Nat → Nat) × (Nat → Nat) × Nat × (Nat → Int32)
abbrev sp_l (g : sp_G) : Launch := g.1
abbrev sp_D (g : sp_G) : va_G := g.2.1
abbrev sp_z (g : sp_G) : Nat := g.2.2.1
abbrev sp_ca (g : sp_G) : Nat → ClassId := g.2.2.2.1
abbrev sp_cs (g : sp_G) : Nat → Nat := g.2.2.2.2.1
abbrev sp_cv (g : sp_G) : Nat → Nat := g.2.2.2.2.2.1
/-- the script: its length, its ints; its cell is 1000201 -/
abbrev sp_sl (g : sp_G) : Nat := g.2.2.2.2.2.2.1
abbrev sp_sx (g : sp_G) : Nat → Int32 := g.2.2.2.2.2.2.2
def sp_A (g : sp_G) : Nat → Prop := fun q => sp_z g ≤ q
def sp_ad (g : sp_G) (id : Nat) : Nat := if id < 1000000 then sp_z g + id else if id < 1000100 then sp_cs g (id - 1000000) else sp_cv g (id - 1000100)
def sp_rv (g : sp_G) (v : Value) : Value := match v with
  | .ref id => .ref (sp_ad g id)
  | w => w
theorem sp_rv_cat (g : sp_G) (v : Value) : (sp_rv g v).category = v.category := by cases v <;> rfl
theorem sp_rv_rf (g : sp_G) (r : Option Nat) : sp_rv g (va_rf r) = va_rf (r.map (sp_ad g)) := by cases r <;> rfl
def sp_tys (g : sp_G) : List (ClassId × FieldType) := [(sp_ca g 0, .int), (sp_ca g 1, .long), (sp_ca g 2, .boolean), (sp_ca g 3, .object "NamedSparks$Room"), (sp_ca g 4, .object "NamedSparks$Text")]
/-- the type of a field, by the class's number in vwCl -/
def sp_ty (c j : Nat) : FieldType := match c with
  | 0 => tyX0 j
  | 1 => tyX1 j
  | 2 => tyX2 j
  | 3 => tyX3 j
  | 4 => tyX5 j
  | 5 => tyX6 j
  | 6 => tyX7 j
  | 7 => tyX8 j
  | 8 => tyX9 j
  | 9 => tyX10 j
  | _ => tyX11 j
def sp_nf (c : Nat) : Nat := match c with
  | 0 => 1
  | 1 => 7
  | 2 => 9
  | 3 => 4
  | 4 => 16
  | 5 => 2
  | 6 => 6
  | 7 => 5
  | 8 => 4
  | 9 => 16
  | _ => 56
/-- what a field holds -/
def sp_fv (M : sp_Mem) (o : Nat) (ty : FieldType) (j : Nat) : Value := match ty with
  | .long => .long (sp_L M o j)
  | .object _ => va_rf (sp_P M o j)
  | .array _ => va_rf (sp_P M o j)
  | _ => .int (sp_I M o j)
def sp_fs (g : sp_G) (M : sp_Mem) (o c : Nat) : List Value := (List.range (sp_nf c)).map (fun j => sp_rv g (sp_fv M o (sp_ty c j) j))
def sp_cell (g : sp_G) (M : sp_Mem) (o : Nat) : va_E := match sp_T M o with
  | 0 => .inl (sp_ca g 0, sp_N M o, .inl (sp_I M o))
  | 1 => .inl (sp_ca g 1, sp_N M o, .inr (.inl (sp_L M o)))
  | 2 => .inl (sp_ca g 2, sp_N M o, .inl (sp_I M o))
  | 3 => .inl (sp_ca g 3, sp_N M o, .inr (.inr (.inr (.inr (fun j => (sp_P M o j).map (sp_ad g))))))
  | 4 => .inl (sp_ca g 4, sp_N M o, .inr (.inr (.inr (.inr (fun j => (sp_P M o j).map (sp_ad g))))))
  | t + 5 => .inr (t, sp_fs g M o t)
def sp_wl (g : sp_G) (M : sp_Mem) : va_W := (List.range (sp_n M)).map (fun o => (sp_z g + o, sp_cell g M o))
/-- the heap holds the plain memory -/
def sp_HR (g : sp_G) (M : sp_Mem) (H : Heap) : Prop := H.size = sp_z g + sp_n M ∧ sp_n M ≤ 1000000 ∧ va_P (sp_D g) vwCl (sp_wl g M) H
theorem sp_wl_at {g : sp_G} {M : sp_Mem} {o : Nat} (h : o < sp_n M) : (sp_wl g M)[o]? = some (sp_z g + o, sp_cell g M o) := by
  simp [sp_wl, h]
theorem sp_wl_len (g : sp_G) (M : sp_Mem) : (sp_wl g M).length = sp_n M := by simp [sp_wl]
theorem sp_ad_lt {g : sp_G} {M : sp_Mem} {H : Heap} (hR : sp_HR g M H) {o : Nat} (h : o < sp_n M) : sp_ad g o = sp_z g + o := by
  have := hR.2.1
  simp [sp_ad, show o < 1000000 by omega]
theorem sp_wl_D (g : sp_G) (M : sp_Mem) : va_D (sp_A g) (sp_wl g M) := by
  refine ⟨fun i j p q hp hq he => ?_, fun k q hq => ?_⟩
  · have hi : i < sp_n M := by have := (List.getElem?_eq_some_iff.mp hp).1; rwa [sp_wl_len] at this
    have hj : j < sp_n M := by have := (List.getElem?_eq_some_iff.mp hq).1; rwa [sp_wl_len] at this
    rw [sp_wl_at hi] at hp
    rw [sp_wl_at hj] at hq
    cases hp
    cases hq
    simp at he
    exact he
  · have hi : k < sp_n M := by have := (List.getElem?_eq_some_iff.mp hq).1; rwa [sp_wl_len] at this
    rw [sp_wl_at hi] at hq
    cases hq
    exact Nat.le_add_right _ _
/-- one cell of the list put anew is the list of the memory in which that cell alone is another -/
theorem sp_wl_set {g : sp_G} {M M' : sp_Mem} {o : Nat} {e : va_E} (hn : sp_n M' = sp_n M) (ho : o < sp_n M) (he : sp_cell g M' o = e) (hr : ∀ q, q ≠ o → sp_cell g M' q = sp_cell g M q) : (sp_wl g M).set o (sp_z g + o, e) = sp_wl g M' := by
  apply List.ext_getElem?
  intro k
  rw [List.getElem?_set]
  by_cases hk : o = k
  · subst hk
    rw [if_pos rfl, if_pos (by rw [sp_wl_len]; exact ho), sp_wl_at (by rw [hn]; exact ho), he]
  · rw [if_neg hk]
    by_cases hl : k < sp_n M
    · rw [sp_wl_at hl, sp_wl_at (by rw [hn]; exact hl), hr k (fun h => hk h.symm)]
    · rw [List.getElem?_eq_none (by rw [sp_wl_len]; omega), List.getElem?_eq_none (by rw [sp_wl_len, hn]; omega)]
theorem sp_wl_push {g : sp_G} {M M' : sp_Mem} {e : va_E} (hn : sp_n M' = sp_n M + 1) (he : sp_cell g M' (sp_n M) = e) (hr : ∀ q, q < sp_n M → sp_cell g M' q = sp_cell g M q) : sp_wl g M ++ [(sp_z g + sp_n M, e)] = sp_wl g M' := by
  apply List.ext_getElem?
  intro k
  by_cases hl : k < sp_n M
  · rw [List.getElem?_append_left (by rw [sp_wl_len]; exact hl), sp_wl_at hl, sp_wl_at (by omega), hr k hl]
  · rw [List.getElem?_append_right (by rw [sp_wl_len]; omega), sp_wl_len]
    by_cases hk : k = sp_n M
    · subst hk
      rw [sp_wl_at (by omega), he]
      simp
    · rw [List.getElem?_eq_none (by simp; omega), List.getElem?_eq_none (by rw [sp_wl_len]; omega)]
