/-- a method: its name, code, locals, what it returns, the frames and the locals that its calls need -/
abbrev sp_MD : Type := MethodName × ByteArray × Nat × Option FieldType × Nat × Nat
def sp_nest : List (String × Nat × MethodName) := [("NamedSparks", 11, ⟨"NamedSparks$Rules", "<init>", "()V"⟩), ("NamedSparks$Rules", 11, ⟨"NamedSparks$Calculator", "<init>", "()V"⟩), ("NamedSparks$Stage", 20, ⟨"NamedSparks$Past", "<init>", "()V"⟩), ("NamedSparks", 56, ⟨"NamedSparks$Tape", "<init>", "()V"⟩), ("NamedSparks$Rules", 39, ⟨"NamedSparks", "isCell", "(I)Z"⟩), ("NamedSparks$Rules", 52, ⟨"NamedSparks", "farApart", "(II)I"⟩), ("NamedSparks$Rules", 35, ⟨"NamedSparks", "nearest", "(III)I"⟩), ("NamedSparks$Parser", 100, ⟨"NamedSparks", "isWithin", "(III)Z"⟩), ("NamedSparks$Room", 71, ⟨"NamedSparks", "isCell", "(I)Z"⟩), ("NamedSparks$Room", 74, ⟨"NamedSparks", "isWithin", "(III)Z"⟩), ("NamedSparks$Room", 81, ⟨"NamedSparks", "stepFrom", "(II)I"⟩), ("NamedSparks$Rules", 79, ⟨"NamedSparks", "stepFrom", "(II)I"⟩), ("NamedSparks$Paper", 88, ⟨"NamedSparks", "isCell", "(I)Z"⟩), ("NamedSparks$Paper", 99, ⟨"NamedSparks", "stepFrom", "(II)I"⟩)]
/-- the texts of the class: where its file has them -/
def sp_txt : List (Nat × String) := [(65, "goes burns shuns bars"), (79, "if"), (85, "call wet walk pass"), (87, "by"), (89, "to"), (91, "times"), (135, "not"), (146, "minute done latest loose heat cell"), (148, "spark heat name x y kind far person minute mood"), (171, "and or")]
def sp_tlen : List Nat := sp_txt.map (fun q => q.2.length)
def sp_tbyt : List (List Int32) := sp_txt.map (fun q => q.2.toList.map (fun c => Int32.ofNat c.toNat))
def sp_X (g : sp_G) (U : State) : Prop :=
  ((∀ q ∈ sp_nest, va_Nw (.methodLinkNest q.1 q.2.1 q.2.2 "NamedSparks") U) ∧ va_Nw (.castable "[I" "java/lang/Cloneable") U) ∧ va_AO "NamedSparks$Text" U ∧ va_AO "NamedSparks$Room" U ∧
  (∀ i q, sp_txt[i]? = some q → vk_R "NamedSparks$Parser" q.1 q.2 (sp_cs g i) U) ∧ vk_S 10 sp_tlen sp_tbyt (sp_cs g) (sp_cv g) (sp_A g) U U.heap ∧ va_Z "java/lang/String" "COMPACT_STRINGS" "Z" (.int 1) (sp_A g) U U.heap ∧ (va_Z "jdk/internal/util/Preconditions" "SIOOBE_FORMATTER" "Ljava/util/function/BiFunction;" .null (sp_A g) U U.heap ∨ va_Z "jdk/internal/util/Preconditions" "SIOOBE_FORMATTER" "Ljava/util/function/BiFunction;" (.ref (sp_cv g 100)) (sp_A g) U U.heap) ∧ va_X (sp_cv g 101) (sp_sl g) (sp_sx g) U U.heap ∧ sp_cv g 101 < sp_z g ∧ sp_z g ≤ U.heap.size
theorem sp_X.go {g : sp_G} {s U : State} (hW : s.WarmedH U.vm) (hz : s.heap.size ≤ U.heap.size) (hh : ∀ a : Nat, a < s.heap.size → ¬ sp_A g a → U.heap[a]? = s.heap[a]?) (h : sp_X g s) : sp_X g U :=
  ⟨⟨fun q hq => va_Nw.warmM hW (h.1.1 q hq), va_Nw.warmC hW h.1.2⟩, va_AO.moved hW.alike h.2.1, va_AO.moved hW.alike h.2.2.1, fun i q hq => vk_R.warm hW (h.2.2.2.1 i q hq), (vk_S.moved hW.alike h.2.2.2.2.1).kept hh, (va_Z.moved hW.alike h.2.2.2.2.2.1).kept hh, h.2.2.2.2.2.2.1.elim (fun q => Or.inl ((va_Z.moved hW.alike q).kept hh)) (fun q => Or.inr ((va_Z.moved hW.alike q).kept hh)), (va_X.moved hW.alike h.2.2.2.2.2.2.2.1).kept (hh _ (Nat.lt_of_lt_of_le h.2.2.2.2.2.2.2.2.1 h.2.2.2.2.2.2.2.2.2) (Nat.not_le.mpr h.2.2.2.2.2.2.2.2.1)), h.2.2.2.2.2.2.2.2.1, Nat.le_trans h.2.2.2.2.2.2.2.2.2 hz⟩
theorem sp_X.same {g : sp_G} {u U : State} (hv : U.vm = u.vm) (hh : U.heap = u.heap) (h : sp_X g u) : sp_X g U := by
  have ha : u.vm.Alike U.vm := by rw [hv]; exact Vm.Alike.refl _
  exact ⟨⟨fun q hq => va_Nw.same rfl hv.symm (h.1.1 q hq), va_Nw.same rfl hv.symm h.1.2⟩, va_AO.moved ha h.2.1, va_AO.moved ha h.2.2.1, fun i q hq => vk_R.same hv (h.2.2.2.1 i q hq), by rw [hh]; exact vk_S.moved ha h.2.2.2.2.1, by rw [hh]; exact va_Z.moved ha h.2.2.2.2.2.1, by rw [hh]; exact h.2.2.2.2.2.2.1.elim (fun q => Or.inl (va_Z.moved ha q)) (fun q => Or.inr (va_Z.moved ha q)), by rw [hh]; exact va_X.moved ha h.2.2.2.2.2.2.2.1, h.2.2.2.2.2.2.2.2.1, by rw [hh]; exact h.2.2.2.2.2.2.2.2.2⟩
/-- what holds in a frame of a method -/
def sp_C (g : sp_G) (μ : sp_MD) (p : Program) (R : Room) (s : State) (m : MethodId) (args : Array Value) (meth : Method) (c : Code) : Prop :=
  p.tables.exec = Jvm.exec ∧ c.code = μ.2.1 ∧ c.maxLocals = μ.2.2.1 ∧ meth.sig.returnType = μ.2.2.2.1 ∧ meth.locks = false ∧ s.vm.findClass μ.1.cls = some m.cls ∧ (∀ w ∈ sp_tb, w.before args s = true) ∧ va_K (sp_D g) vwCl (sp_tys g) s ∧ μ.2.2.2.2.1 ≤ R.frames ∧ μ.2.2.2.2.2 ≤ R.locals ∧ meth.name = μ.1.name ∧ sp_X g s ∧ sp_z g ≤ s.heap.size
abbrev sp_Qt : Type := Option Value → sp_Mem → Prop
def sp_QC (g : sp_G) (Ω : sp_Mem → Prop) (Q : sp_Qt) : Array Value → State → Outcome → State → Prop := fun _ st o t =>
  (∃ (r : Option Value) (M : sp_Mem), o = .returned (r.map (sp_rv g)) ∧ Q r M ∧ Ω M ∧ sp_HR g M t.heap) ∧ va_F (sp_A g) st t
def sp_LR (g : sp_G) (ls : Array Slot) (nL : Nat) (lo : List (Option Value)) : Prop := ls.size = nL ∧ lv_wf ls ∧ ∀ (k : Nat) (v : Value), lo[k]? = some (some v) → ls[k]? = some (.val (sp_rv g v))
/-- from here the method comes to its end with Q; mc cells of ms slots are still to be made -/
def sp_Wp (g : sp_G) (Ω : sp_Mem → Prop) (μ : sp_MD) (mc ms pc : Nat) (lo : List (Option Value)) (st : List Value) (M : sp_Mem) (Q : sp_Qt) : Prop :=
  Ω M → ∀ (p : Program) (e : Env) (R : Room) (s : State) (m : MethodId) (args : Array Value) (below : List Frame) (meth : Method) (c : Code) (H : Heap) (locs : List Loc) (cells slots : Nat) (ls : Array Slot), sp_C g μ p R s m args meth c → sp_HR g M H → va_S (sp_A g) s.heap H locs → sp_LR g ls μ.2.2.1 lo → s.heap.size + cells = sp_z g + sp_n M → cells + mc ≤ R.cells → slots + ms ≤ R.slots →
    W p (sp_l g) e R s m args below meth c H locs cells slots (MQ below (sp_QC g Ω Q) args s (cells + mc) (slots + ms) (sp_A g)) (F0 m pc ls (st.map (sp_rv g)))
/-- the contract of a method at these arguments and this memory -/
def sp_Mt (g : sp_G) (Ω : sp_Mem → Prop) (μ : sp_MD) (mc ms : Nat) (av : List Value) (M : sp_Mem) (Q : sp_Qt) : Prop :=
  Ω M → Met (sp_l g) μ.1 (.code μ.1 μ.2.1 μ.2.2.1 μ.2.2.2.1 :: sp_tb) ({ frames := μ.2.2.2.2.1, cells := mc, slots := ms, locals := μ.2.2.2.2.2 }) (va_Pc (av.map (sp_rv g)) (fun U => sp_HR g M U.heap ∧ va_K (sp_D g) vwCl (sp_tys g) U ∧ sp_X g U)) (sp_QC g Ω Q) mc ms (sp_A g)
/-! ===== locals ===== -/
def sp_c2 (a : Option Value) : Option Value := match a with
  | some w => if w.category = 2 then none else some w
  | none => none
def sp_lst : List (Option Value) → Nat → Value → List (Option Value)
  | [], _, _ => []
  | _ :: l, 0, v => some v :: l
  | a :: l, i + 1, v => (if i = 0 then sp_c2 a else a) :: sp_lst l i v
theorem sp_lst_get : ∀ (lo : List (Option Value)) (i : Nat) (v : Value) (k : Nat) (w : Value), (sp_lst lo i v)[k]? = some (some w) → (k = i ∧ w = v) ∨ (k ≠ i ∧ lo[k]? = some (some w) ∧ ¬ (k + 1 = i ∧ w.category = 2))
  | [], i, v, k, w, h => by simp [sp_lst] at h
  | a :: l, 0, v, 0, w, h => by
    simp [sp_lst] at h
    exact Or.inl ⟨rfl, h.symm⟩
  | a :: l, 0, v, k + 1, w, h => by
    simp [sp_lst] at h
    exact Or.inr ⟨by omega, by simpa using h, by omega⟩
  | a :: l, i + 1, v, 0, w, h => by
    simp only [sp_lst, List.getElem?_cons_zero, Option.some.injEq] at h
    by_cases hi : i = 0
    · rw [if_pos hi] at h
      refine Or.inr ⟨by omega, ?_, ?_⟩
      · cases a with
        | none => simp [sp_c2] at h
        | some u =>
          simp only [sp_c2] at h
          split at h
          · cases h
          · simpa using h
      · cases a with
        | none => simp [sp_c2] at h
        | some u =>
          simp only [sp_c2] at h
          split at h
          · cases h
          · cases h
            rename_i hc
            exact fun q => hc q.2
    · rw [if_neg hi] at h
      exact Or.inr ⟨by omega, by simpa using h, by omega⟩
  | a :: l, i + 1, v, k + 1, w, h => by
    simp only [sp_lst, List.getElem?_cons_succ] at h
    rcases sp_lst_get l i v k w h with h | h
    · exact Or.inl ⟨by omega, h.2⟩
    · exact Or.inr ⟨by omega, by simpa using h.2.1, fun q => h.2.2 ⟨by omega, q.2⟩⟩
def sp_lv (g : sp_G) : List (Option Value) → Nat → List (Nat × Value)
  | [], _ => []
  | none :: l, i => sp_lv g l (i + 1)
  | some v :: l, i => (i, sp_rv g v) :: sp_lv g l (i + 1)
theorem sp_lv_mem (g : sp_G) : ∀ (lo : List (Option Value)) (i : Nat) (q : Nat × Value), q ∈ sp_lv g lo i ↔ ∃ (k : Nat) (v : Value), lo[k]? = some (some v) ∧ q = (i + k, sp_rv g v)
  | [], i, q => by simp [sp_lv]
  | none :: l, i, q => by
    rw [sp_lv, sp_lv_mem g l (i + 1) q]
    constructor
    · rintro ⟨k, v, h1, h2⟩
      exact ⟨k + 1, v, by simpa using h1, by rw [h2]; congr 1; omega⟩
    · rintro ⟨k, v, h1, h2⟩
      cases k with
      | zero => simp at h1
      | succ k => exact ⟨k, v, by simpa using h1, by rw [h2]; congr 1; omega⟩
  | some u :: l, i, q => by
    rw [sp_lv, List.mem_cons, sp_lv_mem g l (i + 1) q]
    constructor
    · rintro (h | ⟨k, v, h1, h2⟩)
      · exact ⟨0, u, rfl, h⟩
      · exact ⟨k + 1, v, by simpa using h1, by rw [h2]; congr 1; omega⟩
    · rintro ⟨k, v, h1, h2⟩
      cases k with
      | zero => simp at h1; subst h1; exact Or.inl h2
      | succ k => exact Or.inr ⟨k, v, by simpa using h1, by rw [h2]; congr 1; omega⟩
theorem sp_LR.lv {g : sp_G} {ls : Array Slot} {nL : Nat} {lo : List (Option Value)} (h : sp_LR g ls nL lo) : lv_has ls nL (sp_lv g lo 0) := by
  refine ⟨h.1, h.2.1, fun q hq => ?_⟩
  obtain ⟨k, v, h1, h2⟩ := (sp_lv_mem g lo 0 q).mp hq
  subst h2
  simpa using h.2.2 k v h1
theorem sp_LR.st {g : sp_G} {ls : Array Slot} {nL : Nat} {lo : List (Option Value)} {i : Nat} {v : Value} (h : lv_has ls nL ((i, sp_rv g v) :: (sp_lv g lo 0).filter (fun q => !(q.1 == i) && !(q.1 + 1 == i && q.2.category == 2)))) : sp_LR g ls nL (sp_lst lo i v) := by
  refine ⟨h.1, h.2.1, fun k w hk => ?_⟩
  rcases sp_lst_get lo i v k w hk with ⟨h1, h2⟩ | ⟨h1, h2, h3⟩
  · subst h1; subst h2
    exact h.2.2 (k, sp_rv g w) List.mem_cons_self
  · refine h.2.2 (k, sp_rv g w) (List.mem_cons_of_mem _ (List.mem_filter.mpr ⟨(sp_lv_mem g lo 0 _).mpr ⟨k, w, h2, by simp⟩, ?_⟩))
    simp only [sp_rv_cat]
    simp [h1]
    rcases Classical.em (k + 1 = i) with q | q
    · exact Or.inr (fun hc => h3 ⟨q, hc⟩)
    · exact Or.inl q
def sp_lst2 (lo : List (Option Value)) (i : Nat) (v : Value) : List (Option Value) := (sp_lst lo i v).set (i + 1) none
theorem sp_LR.st2 {g : sp_G} {ls : Array Slot} {nL : Nat} {lo : List (Option Value)} {i : Nat} {v : Value} (h : lv_has ls nL ((i, sp_rv g v) :: (sp_lv g lo 0).filter (fun q => !(q.1 == i) && (!(q.1 == i + 1) && !(q.1 + 1 == i && q.2.category == 2))))) : sp_LR g ls nL (sp_lst2 lo i v) := by
  refine ⟨h.1, h.2.1, fun k w hk => ?_⟩
  rw [sp_lst2, List.getElem?_set] at hk
  by_cases hki : i + 1 = k
  · rw [if_pos hki] at hk
    split at hk <;> simp at hk
  rw [if_neg hki] at hk
  rcases sp_lst_get lo i v k w hk with ⟨h1, h2⟩ | ⟨h1, h2, h3⟩
  · subst h1; subst h2
    exact h.2.2 (k, sp_rv g w) List.mem_cons_self
  · refine h.2.2 (k, sp_rv g w) (List.mem_cons_of_mem _ (List.mem_filter.mpr ⟨(sp_lv_mem g lo 0 _).mpr ⟨k, w, h2, by simp⟩, ?_⟩))
    simp only [sp_rv_cat]
    simp [h1]
    refine ⟨fun q => hki q.symm, ?_⟩
    rcases Classical.em (k + 1 = i) with q | q
    · exact Or.inr (fun hc => h3 ⟨q, hc⟩)
    · exact Or.inl q
/-- the locals at a method's entry -/
def sp_ent : List Value → List (Option Value)
  | [] => []
  | v :: l => if v.category = 2 then some v :: none :: sp_ent l else some v :: sp_ent l
section SpRows
variable {g : sp_G} {Ω : sp_Mem → Prop} {μ : sp_MD} {mc ms pc : Nat} {lo : List (Option Value)} {st : List Value} {M : sp_Mem} {Q : sp_Qt}
theorem sp_iadd {x y : Int32} (d : decode μ.2.1 pc = .ok (.iadd, 1)) (k : sp_Wp g Ω μ mc ms (pc + 1) lo (.int (x + y) :: st) M Q) : sp_Wp g Ω μ mc ms pc lo (.int y :: .int x :: st) M Q :=
  fun ho p e R s m args below meth c H locs cells slots ls C hH hS hl h0 h1 h2 => lv_iadd C.1 C.2.1 d (k ho p e R s m args below meth c H locs cells slots ls C hH hS hl h0 h1 h2)
theorem sp_isub {x y : Int32} (d : decode μ.2.1 pc = .ok (.isub, 1)) (k : sp_Wp g Ω μ mc ms (pc + 1) lo (.int (x - y) :: st) M Q) : sp_Wp g Ω μ mc ms pc lo (.int y :: .int x :: st) M Q :=
  fun ho p e R s m args below meth c H locs cells slots ls C hH hS hl h0 h1 h2 => lv_isub C.1 C.2.1 d (k ho p e R s m args below meth c H locs cells slots ls C hH hS hl h0 h1 h2)
theorem sp_imul {x y : Int32} (d : decode μ.2.1 pc = .ok (.imul, 1)) (k : sp_Wp g Ω μ mc ms (pc + 1) lo (.int (x * y) :: st) M Q) : sp_Wp g Ω μ mc ms pc lo (.int y :: .int x :: st) M Q :=
  fun ho p e R s m args below meth c H locs cells slots ls C hH hS hl h0 h1 h2 => lv_imul C.1 C.2.1 d (k ho p e R s m args below meth c H locs cells slots ls C hH hS hl h0 h1 h2)
theorem sp_iand {x y : Int32} (d : decode μ.2.1 pc = .ok (.iand, 1)) (k : sp_Wp g Ω μ mc ms (pc + 1) lo (.int (x &&& y) :: st) M Q) : sp_Wp g Ω μ mc ms pc lo (.int y :: .int x :: st) M Q :=
  fun ho p e R s m args below meth c H locs cells slots ls C hH hS hl h0 h1 h2 => lv_iand C.1 C.2.1 d (k ho p e R s m args below meth c H locs cells slots ls C hH hS hl h0 h1 h2)
theorem sp_ior {x y : Int32} (d : decode μ.2.1 pc = .ok (.ior, 1)) (k : sp_Wp g Ω μ mc ms (pc + 1) lo (.int (x ||| y) :: st) M Q) : sp_Wp g Ω μ mc ms pc lo (.int y :: .int x :: st) M Q :=
  fun ho p e R s m args below meth c H locs cells slots ls C hH hS hl h0 h1 h2 => lv_ior C.1 C.2.1 d (k ho p e R s m args below meth c H locs cells slots ls C hH hS hl h0 h1 h2)
theorem sp_ixor {x y : Int32} (d : decode μ.2.1 pc = .ok (.ixor, 1)) (k : sp_Wp g Ω μ mc ms (pc + 1) lo (.int (x ^^^ y) :: st) M Q) : sp_Wp g Ω μ mc ms pc lo (.int y :: .int x :: st) M Q :=
  fun ho p e R s m args below meth c H locs cells slots ls C hH hS hl h0 h1 h2 => lv_ixor C.1 C.2.1 d (k ho p e R s m args below meth c H locs cells slots ls C hH hS hl h0 h1 h2)
theorem sp_ishl {x y : Int32} (d : decode μ.2.1 pc = .ok (.ishl, 1)) (k : sp_Wp g Ω μ mc ms (pc + 1) lo (.int (x <<< (y &&& 31)) :: st) M Q) : sp_Wp g Ω μ mc ms pc lo (.int y :: .int x :: st) M Q :=
  fun ho p e R s m args below meth c H locs cells slots ls C hH hS hl h0 h1 h2 => lv_ishl C.1 C.2.1 d (k ho p e R s m args below meth c H locs cells slots ls C hH hS hl h0 h1 h2)
theorem sp_ishr {x y : Int32} (d : decode μ.2.1 pc = .ok (.ishr, 1)) (k : sp_Wp g Ω μ mc ms (pc + 1) lo (.int (x >>> (y &&& 31)) :: st) M Q) : sp_Wp g Ω μ mc ms pc lo (.int y :: .int x :: st) M Q :=
  fun ho p e R s m args below meth c H locs cells slots ls C hH hS hl h0 h1 h2 => lv_ishr C.1 C.2.1 d (k ho p e R s m args below meth c H locs cells slots ls C hH hS hl h0 h1 h2)
theorem sp_idiv {x y : Int32} (d : decode μ.2.1 pc = .ok (.idiv, 1)) (hne : ¬ y = 0) (k : sp_Wp g Ω μ mc ms (pc + 1) lo (.int (x / y) :: st) M Q) : sp_Wp g Ω μ mc ms pc lo (.int y :: .int x :: st) M Q :=
  fun ho p e R s m args below meth c H locs cells slots ls C hH hS hl h0 h1 h2 => lv_idiv C.1 C.2.1 d hne (k ho p e R s m args below meth c H locs cells slots ls C hH hS hl h0 h1 h2)
theorem sp_irem {x y : Int32} (d : decode μ.2.1 pc = .ok (.irem, 1)) (hne : ¬ y = 0) (k : sp_Wp g Ω μ mc ms (pc + 1) lo (.int (x - x / y * y) :: st) M Q) : sp_Wp g Ω μ mc ms pc lo (.int y :: .int x :: st) M Q :=
  fun ho p e R s m args below meth c H locs cells slots ls C hH hS hl h0 h1 h2 => lv_irem C.1 C.2.1 d hne (k ho p e R s m args below meth c H locs cells slots ls C hH hS hl h0 h1 h2)
theorem sp_ineg {x : Int32} (d : decode μ.2.1 pc = .ok (.ineg, 1)) (k : sp_Wp g Ω μ mc ms (pc + 1) lo (.int (-x) :: st) M Q) : sp_Wp g Ω μ mc ms pc lo (.int x :: st) M Q :=
  fun ho p e R s m args below meth c H locs cells slots ls C hH hS hl h0 h1 h2 => lv_ineg C.1 C.2.1 d (k ho p e R s m args below meth c H locs cells slots ls C hH hS hl h0 h1 h2)
theorem sp_iushr {x y : Int32} (d : decode μ.2.1 pc = .ok (.iushr, 1)) (k : sp_Wp g Ω μ mc ms (pc + 1) lo (.int ((x.toUInt32 >>> (y.toUInt32 &&& Int32.toUInt32 31)).toInt32) :: st) M Q) : sp_Wp g Ω μ mc ms pc lo (.int y :: .int x :: st) M Q :=
  fun ho p e R s m args below meth c H locs cells slots ls C hH hS hl h0 h1 h2 => lv_iushr C.1 C.2.1 d rfl (k ho p e R s m args below meth c H locs cells slots ls C hH hS hl h0 h1 h2)
theorem sp_ladd {x y : Int64} (d : decode μ.2.1 pc = .ok (.ladd, 1)) (k : sp_Wp g Ω μ mc ms (pc + 1) lo (.long (x + y) :: st) M Q) : sp_Wp g Ω μ mc ms pc lo (.long y :: .long x :: st) M Q :=
  fun ho p e R s m args below meth c H locs cells slots ls C hH hS hl h0 h1 h2 => lv_ladd C.1 C.2.1 d (k ho p e R s m args below meth c H locs cells slots ls C hH hS hl h0 h1 h2)
theorem sp_lsub {x y : Int64} (d : decode μ.2.1 pc = .ok (.lsub, 1)) (k : sp_Wp g Ω μ mc ms (pc + 1) lo (.long (x - y) :: st) M Q) : sp_Wp g Ω μ mc ms pc lo (.long y :: .long x :: st) M Q :=
  fun ho p e R s m args below meth c H locs cells slots ls C hH hS hl h0 h1 h2 => lv_lsub C.1 C.2.1 d (k ho p e R s m args below meth c H locs cells slots ls C hH hS hl h0 h1 h2)
theorem sp_lmul {x y : Int64} (d : decode μ.2.1 pc = .ok (.lmul, 1)) (k : sp_Wp g Ω μ mc ms (pc + 1) lo (.long (x * y) :: st) M Q) : sp_Wp g Ω μ mc ms pc lo (.long y :: .long x :: st) M Q :=
  fun ho p e R s m args below meth c H locs cells slots ls C hH hS hl h0 h1 h2 => lv_lmul C.1 C.2.1 d (k ho p e R s m args below meth c H locs cells slots ls C hH hS hl h0 h1 h2)
theorem sp_ldiv {x y : Int64} (d : decode μ.2.1 pc = .ok (.ldiv, 1)) (hne : ¬ y = 0) (k : sp_Wp g Ω μ mc ms (pc + 1) lo (.long (x / y) :: st) M Q) : sp_Wp g Ω μ mc ms pc lo (.long y :: .long x :: st) M Q :=
  fun ho p e R s m args below meth c H locs cells slots ls C hH hS hl h0 h1 h2 => lv_ldiv C.1 C.2.1 d hne (k ho p e R s m args below meth c H locs cells slots ls C hH hS hl h0 h1 h2)
theorem sp_lrem {x y : Int64} (d : decode μ.2.1 pc = .ok (.lrem, 1)) (hne : ¬ y = 0) (k : sp_Wp g Ω μ mc ms (pc + 1) lo (.long (x - x / y * y) :: st) M Q) : sp_Wp g Ω μ mc ms pc lo (.long y :: .long x :: st) M Q :=
  fun ho p e R s m args below meth c H locs cells slots ls C hH hS hl h0 h1 h2 => lv_lrem C.1 C.2.1 d hne (k ho p e R s m args below meth c H locs cells slots ls C hH hS hl h0 h1 h2)
theorem sp_i2l {x : Int32} (d : decode μ.2.1 pc = .ok (.i2l, 1)) (k : sp_Wp g Ω μ mc ms (pc + 1) lo (.long (x.toInt64) :: st) M Q) : sp_Wp g Ω μ mc ms pc lo (.int x :: st) M Q :=
  fun ho p e R s m args below meth c H locs cells slots ls C hH hS hl h0 h1 h2 => lv_i2l C.1 C.2.1 d rfl (k ho p e R s m args below meth c H locs cells slots ls C hH hS hl h0 h1 h2)
theorem sp_l2i {x : Int64} (d : decode μ.2.1 pc = .ok (.l2i, 1)) (k : sp_Wp g Ω μ mc ms (pc + 1) lo (.int (x.toInt32) :: st) M Q) : sp_Wp g Ω μ mc ms pc lo (.long x :: st) M Q :=
  fun ho p e R s m args below meth c H locs cells slots ls C hH hS hl h0 h1 h2 => lv_l2i C.1 C.2.1 d rfl (k ho p e R s m args below meth c H locs cells slots ls C hH hS hl h0 h1 h2)
theorem sp_i2c {x : Int32} (d : decode μ.2.1 pc = .ok (.i2c, 1)) (k : sp_Wp g Ω μ mc ms (pc + 1) lo (.int ((x.toUInt32 % 65536).toInt32) :: st) M Q) : sp_Wp g Ω μ mc ms pc lo (.int x :: st) M Q :=
  fun ho p e R s m args below meth c H locs cells slots ls C hH hS hl h0 h1 h2 => lv_i2c C.1 C.2.1 d rfl (k ho p e R s m args below meth c H locs cells slots ls C hH hS hl h0 h1 h2)
theorem sp_lcmp {x y : Int64} (d : decode μ.2.1 pc = .ok (.lcmp, 1)) (k : sp_Wp g Ω μ mc ms (pc + 1) lo (.int (lg_cmp x y) :: st) M Q) : sp_Wp g Ω μ mc ms pc lo (.long y :: .long x :: st) M Q :=
  fun ho p e R s m args below meth c H locs cells slots ls C hH hS hl h0 h1 h2 => W.lcmp C.1 C.2.1 d (k ho p e R s m args below meth c H locs cells slots ls C hH hS hl h0 h1 h2)
theorem sp_iconst {n : Int} {v : Int32} (d : decode μ.2.1 pc = .ok (.iconst n, 1)) (hv : Int32.ofInt n = v) (k : sp_Wp g Ω μ mc ms (pc + 1) lo (.int v :: st) M Q) : sp_Wp g Ω μ mc ms pc lo (st) M Q :=
  fun ho p e R s m args below meth c H locs cells slots ls C hH hS hl h0 h1 h2 => lv_iconst C.1 C.2.1 d hv (k ho p e R s m args below meth c H locs cells slots ls C hH hS hl h0 h1 h2)
theorem sp_bipush {n : Int} {v : Int32} (d : decode μ.2.1 pc = .ok (.bipush n, 2)) (hv : (Int8.ofInt n).toInt32 = v) (k : sp_Wp g Ω μ mc ms (pc + 2) lo (.int v :: st) M Q) : sp_Wp g Ω μ mc ms pc lo (st) M Q :=
  fun ho p e R s m args below meth c H locs cells slots ls C hH hS hl h0 h1 h2 => lv_bipush C.1 C.2.1 d hv (k ho p e R s m args below meth c H locs cells slots ls C hH hS hl h0 h1 h2)
theorem sp_sipush {n : Int} {v : Int32} (d : decode μ.2.1 pc = .ok (.sipush n, 3)) (hv : (Int16.ofInt n).toInt32 = v) (k : sp_Wp g Ω μ mc ms (pc + 3) lo (.int v :: st) M Q) : sp_Wp g Ω μ mc ms pc lo (st) M Q :=
  fun ho p e R s m args below meth c H locs cells slots ls C hH hS hl h0 h1 h2 => lv_sipush C.1 C.2.1 d hv (k ho p e R s m args below meth c H locs cells slots ls C hH hS hl h0 h1 h2)
theorem sp_lconst {n : Fin 2} {v : Int64} (d : decode μ.2.1 pc = .ok (.lconst n, 1)) (hv : Int64.ofNat (n : Nat) = v) (k : sp_Wp g Ω μ mc ms (pc + 1) lo (.long v :: st) M Q) : sp_Wp g Ω μ mc ms pc lo (st) M Q :=
  fun ho p e R s m args below meth c H locs cells slots ls C hH hS hl h0 h1 h2 => lv_lconst C.1 C.2.1 d hv (k ho p e R s m args below meth c H locs cells slots ls C hH hS hl h0 h1 h2)
theorem sp_dup {v : Value} (d : decode μ.2.1 pc = .ok (.dup, 1)) (h : v.category = 1) (k : sp_Wp g Ω μ mc ms (pc + 1) lo (v :: v :: st) M Q) : sp_Wp g Ω μ mc ms pc lo (v :: st) M Q :=
  fun ho p e R s m args below meth c H locs cells slots ls C hH hS hl h0 h1 h2 => lv_dup C.1 C.2.1 d ((sp_rv_cat g v).trans h) (k ho p e R s m args below meth c H locs cells slots ls C hH hS hl h0 h1 h2)
theorem sp_pop {v : Value} (d : decode μ.2.1 pc = .ok (.pop, 1)) (h : v.category = 1) (k : sp_Wp g Ω μ mc ms (pc + 1) lo (st) M Q) : sp_Wp g Ω μ mc ms pc lo (v :: st) M Q :=
  fun ho p e R s m args below meth c H locs cells slots ls C hH hS hl h0 h1 h2 => lv_pop C.1 C.2.1 d ((sp_rv_cat g v).trans h) (k ho p e R s m args below meth c H locs cells slots ls C hH hS hl h0 h1 h2)
theorem sp_dup_x1 {v w : Value} (d : decode μ.2.1 pc = .ok (.dup_x1, 1)) (h : v.category = 1) (h3 : w.category = 1) (k : sp_Wp g Ω μ mc ms (pc + 1) lo (v :: w :: v :: st) M Q) : sp_Wp g Ω μ mc ms pc lo (v :: w :: st) M Q :=
  fun ho p e R s m args below meth c H locs cells slots ls C hH hS hl h0 h1 h2 => lv_dup_x1 C.1 C.2.1 d ((sp_rv_cat g v).trans h) ((sp_rv_cat g w).trans h3) (k ho p e R s m args below meth c H locs cells slots ls C hH hS hl h0 h1 h2)
theorem sp_dup2 {v w : Value} (d : decode μ.2.1 pc = .ok (.dup2, 1)) (h : v.category = 1) (h3 : w.category = 1) (k : sp_Wp g Ω μ mc ms (pc + 1) lo (v :: w :: v :: w :: st) M Q) : sp_Wp g Ω μ mc ms pc lo (v :: w :: st) M Q :=
  fun ho p e R s m args below meth c H locs cells slots ls C hH hS hl h0 h1 h2 => lv_dup2_11 C.1 C.2.1 d ((sp_rv_cat g v).trans h) ((sp_rv_cat g w).trans h3) (k ho p e R s m args below meth c H locs cells slots ls C hH hS hl h0 h1 h2)
theorem sp_dup2l {v : Value} (d : decode μ.2.1 pc = .ok (.dup2, 1)) (h : v.category = 2) (k : sp_Wp g Ω μ mc ms (pc + 1) lo (v :: v :: st) M Q) : sp_Wp g Ω μ mc ms pc lo (v :: st) M Q :=
  fun ho p e R s m args below meth c H locs cells slots ls C hH hS hl h0 h1 h2 => lv_dup2_2 C.1 C.2.1 d ((sp_rv_cat g v).trans h) (k ho p e R s m args below meth c H locs cells slots ls C hH hS hl h0 h1 h2)
theorem sp_null  (d : decode μ.2.1 pc = .ok (.aconst_null, 1)) (k : sp_Wp g Ω μ mc ms (pc + 1) lo (.null :: st) M Q) : sp_Wp g Ω μ mc ms pc lo (st) M Q :=
  fun ho p e R s m args below meth c H locs cells slots ls C hH hS hl h0 h1 h2 => lv_null C.1 C.2.1 d (k ho p e R s m args below meth c H locs cells slots ls C hH hS hl h0 h1 h2)
theorem sp_ldc {i : Nat} {v : Int32} (d : decode μ.2.1 pc = .ok (.ldc i, 2)) (hm : Cond.constant μ.1.cls i v ∈ sp_tb) (k : sp_Wp g Ω μ mc ms (pc + 2) lo (.int v :: st) M Q) : sp_Wp g Ω μ mc ms pc lo (st) M Q :=
  fun ho p e R s m args below meth c H locs cells slots ls C hH hS hl h0 h1 h2 => lv_ldc C.1 C.2.1 C.2.2.2.2.2.1 (C.2.2.2.2.2.2.1 _ hm) d (k ho p e R s m args below meth c H locs cells slots ls C hH hS hl h0 h1 h2)
theorem sp_ldcw {i : Nat} {v : Int32} (d : decode μ.2.1 pc = .ok (.ldc_w i, 3)) (hm : Cond.constant μ.1.cls i v ∈ sp_tb) (k : sp_Wp g Ω μ mc ms (pc + 3) lo (.int v :: st) M Q) : sp_Wp g Ω μ mc ms pc lo (st) M Q :=
  fun ho p e R s m args below meth c H locs cells slots ls C hH hS hl h0 h1 h2 => lv_ldcw C.1 C.2.1 C.2.2.2.2.2.1 (C.2.2.2.2.2.2.1 _ hm) d (k ho p e R s m args below meth c H locs cells slots ls C hH hS hl h0 h1 h2)
theorem sp_ldc2 {i : Nat} {v : Int64} (d : decode μ.2.1 pc = .ok (.ldc2_w i, 3)) (hm : Cond.constantLong μ.1.cls i v ∈ sp_tb) (k : sp_Wp g Ω μ mc ms (pc + 3) lo (.long v :: st) M Q) : sp_Wp g Ω μ mc ms pc lo (st) M Q :=
  fun ho p e R s m args below meth c H locs cells slots ls C hH hS hl h0 h1 h2 => lv_ldc2 C.1 C.2.1 C.2.2.2.2.2.1 (C.2.2.2.2.2.2.1 _ hm) d (k ho p e R s m args below meth c H locs cells slots ls C hH hS hl h0 h1 h2)
theorem sp_if_eq {x : Int32} {off : Int} {tgt : Nat} (d : decode μ.2.1 pc = .ok (.ifCond .eq off, 3)) (ht : (pc : Int) + off = (tgt : Int)) (kt : x = 0 → sp_Wp g Ω μ mc ms tgt lo st M Q) (kf : ¬ x = 0 → sp_Wp g Ω μ mc ms (pc + 3) lo st M Q) : sp_Wp g Ω μ mc ms pc lo (.int x :: st) M Q :=
  fun ho p e R s m args below meth c H locs cells slots ls C hH hS hl h0 h1 h2 => lv_if_eq C.1 C.2.1 d ht (fun hc => kt hc ho p e R s m args below meth c H locs cells slots ls C hH hS hl h0 h1 h2) (fun hc => kf hc ho p e R s m args below meth c H locs cells slots ls C hH hS hl h0 h1 h2)
theorem sp_if_ne {x : Int32} {off : Int} {tgt : Nat} (d : decode μ.2.1 pc = .ok (.ifCond .ne off, 3)) (ht : (pc : Int) + off = (tgt : Int)) (kt : ¬ x = 0 → sp_Wp g Ω μ mc ms tgt lo st M Q) (kf : x = 0 → sp_Wp g Ω μ mc ms (pc + 3) lo st M Q) : sp_Wp g Ω μ mc ms pc lo (.int x :: st) M Q :=
  fun ho p e R s m args below meth c H locs cells slots ls C hH hS hl h0 h1 h2 => lv_if_ne C.1 C.2.1 d ht (fun hc => kt hc ho p e R s m args below meth c H locs cells slots ls C hH hS hl h0 h1 h2) (fun hc => kf hc ho p e R s m args below meth c H locs cells slots ls C hH hS hl h0 h1 h2)
theorem sp_if_lt {x : Int32} {off : Int} {tgt : Nat} (d : decode μ.2.1 pc = .ok (.ifCond .lt off, 3)) (ht : (pc : Int) + off = (tgt : Int)) (kt : x < 0 → sp_Wp g Ω μ mc ms tgt lo st M Q) (kf : ¬ x < 0 → sp_Wp g Ω μ mc ms (pc + 3) lo st M Q) : sp_Wp g Ω μ mc ms pc lo (.int x :: st) M Q :=
  fun ho p e R s m args below meth c H locs cells slots ls C hH hS hl h0 h1 h2 => lv_if_lt C.1 C.2.1 d ht (fun hc => kt hc ho p e R s m args below meth c H locs cells slots ls C hH hS hl h0 h1 h2) (fun hc => kf hc ho p e R s m args below meth c H locs cells slots ls C hH hS hl h0 h1 h2)
theorem sp_if_ge {x : Int32} {off : Int} {tgt : Nat} (d : decode μ.2.1 pc = .ok (.ifCond .ge off, 3)) (ht : (pc : Int) + off = (tgt : Int)) (kt : 0 ≤ x → sp_Wp g Ω μ mc ms tgt lo st M Q) (kf : ¬ 0 ≤ x → sp_Wp g Ω μ mc ms (pc + 3) lo st M Q) : sp_Wp g Ω μ mc ms pc lo (.int x :: st) M Q :=
  fun ho p e R s m args below meth c H locs cells slots ls C hH hS hl h0 h1 h2 => lv_if_ge C.1 C.2.1 d ht (fun hc => kt hc ho p e R s m args below meth c H locs cells slots ls C hH hS hl h0 h1 h2) (fun hc => kf hc ho p e R s m args below meth c H locs cells slots ls C hH hS hl h0 h1 h2)
theorem sp_if_gt {x : Int32} {off : Int} {tgt : Nat} (d : decode μ.2.1 pc = .ok (.ifCond .gt off, 3)) (ht : (pc : Int) + off = (tgt : Int)) (kt : 0 < x → sp_Wp g Ω μ mc ms tgt lo st M Q) (kf : ¬ 0 < x → sp_Wp g Ω μ mc ms (pc + 3) lo st M Q) : sp_Wp g Ω μ mc ms pc lo (.int x :: st) M Q :=
  fun ho p e R s m args below meth c H locs cells slots ls C hH hS hl h0 h1 h2 => lv_if_gt C.1 C.2.1 d ht (fun hc => kt hc ho p e R s m args below meth c H locs cells slots ls C hH hS hl h0 h1 h2) (fun hc => kf hc ho p e R s m args below meth c H locs cells slots ls C hH hS hl h0 h1 h2)
theorem sp_if_le {x : Int32} {off : Int} {tgt : Nat} (d : decode μ.2.1 pc = .ok (.ifCond .le off, 3)) (ht : (pc : Int) + off = (tgt : Int)) (kt : x ≤ 0 → sp_Wp g Ω μ mc ms tgt lo st M Q) (kf : ¬ x ≤ 0 → sp_Wp g Ω μ mc ms (pc + 3) lo st M Q) : sp_Wp g Ω μ mc ms pc lo (.int x :: st) M Q :=
  fun ho p e R s m args below meth c H locs cells slots ls C hH hS hl h0 h1 h2 => lv_if_le C.1 C.2.1 d ht (fun hc => kt hc ho p e R s m args below meth c H locs cells slots ls C hH hS hl h0 h1 h2) (fun hc => kf hc ho p e R s m args below meth c H locs cells slots ls C hH hS hl h0 h1 h2)
theorem sp_icmp_eq {x y : Int32} {off : Int} {tgt : Nat} (d : decode μ.2.1 pc = .ok (.if_icmp .eq off, 3)) (ht : (pc : Int) + off = (tgt : Int)) (kt : x = y → sp_Wp g Ω μ mc ms tgt lo st M Q) (kf : ¬ x = y → sp_Wp g Ω μ mc ms (pc + 3) lo st M Q) : sp_Wp g Ω μ mc ms pc lo (.int y :: .int x :: st) M Q :=
  fun ho p e R s m args below meth c H locs cells slots ls C hH hS hl h0 h1 h2 => lv_icmp_eq C.1 C.2.1 d ht (fun hc => kt hc ho p e R s m args below meth c H locs cells slots ls C hH hS hl h0 h1 h2) (fun hc => kf hc ho p e R s m args below meth c H locs cells slots ls C hH hS hl h0 h1 h2)
theorem sp_icmp_ne {x y : Int32} {off : Int} {tgt : Nat} (d : decode μ.2.1 pc = .ok (.if_icmp .ne off, 3)) (ht : (pc : Int) + off = (tgt : Int)) (kt : ¬ x = y → sp_Wp g Ω μ mc ms tgt lo st M Q) (kf : x = y → sp_Wp g Ω μ mc ms (pc + 3) lo st M Q) : sp_Wp g Ω μ mc ms pc lo (.int y :: .int x :: st) M Q :=
  fun ho p e R s m args below meth c H locs cells slots ls C hH hS hl h0 h1 h2 => lv_icmp_ne C.1 C.2.1 d ht (fun hc => kt hc ho p e R s m args below meth c H locs cells slots ls C hH hS hl h0 h1 h2) (fun hc => kf hc ho p e R s m args below meth c H locs cells slots ls C hH hS hl h0 h1 h2)
theorem sp_icmp_lt {x y : Int32} {off : Int} {tgt : Nat} (d : decode μ.2.1 pc = .ok (.if_icmp .lt off, 3)) (ht : (pc : Int) + off = (tgt : Int)) (kt : x < y → sp_Wp g Ω μ mc ms tgt lo st M Q) (kf : ¬ x < y → sp_Wp g Ω μ mc ms (pc + 3) lo st M Q) : sp_Wp g Ω μ mc ms pc lo (.int y :: .int x :: st) M Q :=
  fun ho p e R s m args below meth c H locs cells slots ls C hH hS hl h0 h1 h2 => lv_icmp_lt C.1 C.2.1 d ht (fun hc => kt hc ho p e R s m args below meth c H locs cells slots ls C hH hS hl h0 h1 h2) (fun hc => kf hc ho p e R s m args below meth c H locs cells slots ls C hH hS hl h0 h1 h2)
theorem sp_icmp_ge {x y : Int32} {off : Int} {tgt : Nat} (d : decode μ.2.1 pc = .ok (.if_icmp .ge off, 3)) (ht : (pc : Int) + off = (tgt : Int)) (kt : y ≤ x → sp_Wp g Ω μ mc ms tgt lo st M Q) (kf : ¬ y ≤ x → sp_Wp g Ω μ mc ms (pc + 3) lo st M Q) : sp_Wp g Ω μ mc ms pc lo (.int y :: .int x :: st) M Q :=
  fun ho p e R s m args below meth c H locs cells slots ls C hH hS hl h0 h1 h2 => lv_icmp_ge C.1 C.2.1 d ht (fun hc => kt hc ho p e R s m args below meth c H locs cells slots ls C hH hS hl h0 h1 h2) (fun hc => kf hc ho p e R s m args below meth c H locs cells slots ls C hH hS hl h0 h1 h2)
theorem sp_icmp_gt {x y : Int32} {off : Int} {tgt : Nat} (d : decode μ.2.1 pc = .ok (.if_icmp .gt off, 3)) (ht : (pc : Int) + off = (tgt : Int)) (kt : y < x → sp_Wp g Ω μ mc ms tgt lo st M Q) (kf : ¬ y < x → sp_Wp g Ω μ mc ms (pc + 3) lo st M Q) : sp_Wp g Ω μ mc ms pc lo (.int y :: .int x :: st) M Q :=
  fun ho p e R s m args below meth c H locs cells slots ls C hH hS hl h0 h1 h2 => lv_icmp_gt C.1 C.2.1 d ht (fun hc => kt hc ho p e R s m args below meth c H locs cells slots ls C hH hS hl h0 h1 h2) (fun hc => kf hc ho p e R s m args below meth c H locs cells slots ls C hH hS hl h0 h1 h2)
theorem sp_icmp_le {x y : Int32} {off : Int} {tgt : Nat} (d : decode μ.2.1 pc = .ok (.if_icmp .le off, 3)) (ht : (pc : Int) + off = (tgt : Int)) (kt : x ≤ y → sp_Wp g Ω μ mc ms tgt lo st M Q) (kf : ¬ x ≤ y → sp_Wp g Ω μ mc ms (pc + 3) lo st M Q) : sp_Wp g Ω μ mc ms pc lo (.int y :: .int x :: st) M Q :=
  fun ho p e R s m args below meth c H locs cells slots ls C hH hS hl h0 h1 h2 => lv_icmp_le C.1 C.2.1 d ht (fun hc => kt hc ho p e R s m args below meth c H locs cells slots ls C hH hS hl h0 h1 h2) (fun hc => kf hc ho p e R s m args below meth c H locs cells slots ls C hH hS hl h0 h1 h2)
theorem sp_goto {off : Int} {tgt : Nat} (d : decode μ.2.1 pc = .ok (.goto off, 3)) (ht : (pc : Int) + off = (tgt : Int)) (k : sp_Wp g Ω μ mc ms tgt lo st M Q) : sp_Wp g Ω μ mc ms pc lo st M Q :=
  fun ho p e R s m args below meth c H locs cells slots ls C hH hS hl h0 h1 h2 => lv_goto C.1 C.2.1 d ht (k ho p e R s m args below meth c H locs cells slots ls C hH hS hl h0 h1 h2)
theorem sp_ifnull {r : Option Nat} {off : Int} {tgt : Nat} (d : decode μ.2.1 pc = .ok (.ifnull off, 3)) (ht : (pc : Int) + off = (tgt : Int)) (kt : r = none → sp_Wp g Ω μ mc ms tgt lo st M Q) (kf : ∀ a, r = some a → sp_Wp g Ω μ mc ms (pc + 3) lo st M Q) : sp_Wp g Ω μ mc ms pc lo (va_rf r :: st) M Q :=
  match r, kt, kf with
  | none, kt, _ => fun ho p e R s m args below meth c H locs cells slots ls C hH hS hl h0 h1 h2 => lv_ifnullN C.1 C.2.1 d ht (kt rfl ho p e R s m args below meth c H locs cells slots ls C hH hS hl h0 h1 h2)
  | some a, _, kf => fun ho p e R s m args below meth c H locs cells slots ls C hH hS hl h0 h1 h2 => lv_ifnull C.1 C.2.1 d (kf a rfl ho p e R s m args below meth c H locs cells slots ls C hH hS hl h0 h1 h2)
theorem sp_ifnonnull {r : Option Nat} {off : Int} {tgt : Nat} (d : decode μ.2.1 pc = .ok (.ifnonnull off, 3)) (ht : (pc : Int) + off = (tgt : Int)) (kt : ∀ a, r = some a → sp_Wp g Ω μ mc ms tgt lo st M Q) (kf : r = none → sp_Wp g Ω μ mc ms (pc + 3) lo st M Q) : sp_Wp g Ω μ mc ms pc lo (va_rf r :: st) M Q :=
  match r, kt, kf with
  | none, _, kf => fun ho p e R s m args below meth c H locs cells slots ls C hH hS hl h0 h1 h2 => lv_ifnonnullN C.1 C.2.1 d (kf rfl ho p e R s m args below meth c H locs cells slots ls C hH hS hl h0 h1 h2)
  | some a, kt, _ => fun ho p e R s m args below meth c H locs cells slots ls C hH hS hl h0 h1 h2 => lv_ifnonnull C.1 C.2.1 d ht (kt a rfl ho p e R s m args below meth c H locs cells slots ls C hH hS hl h0 h1 h2)
theorem sp_tswO {df lw hg : Int} {offs : Array Int} {len : Nat} {x : Int32} {tgt : Nat} (d : decode μ.2.1 pc = .ok (.tableswitch df lw hg offs, len)) (h : x.toInt < lw ∨ hg < x.toInt) (ht : (pc : Int) + df = (tgt : Int)) (k : sp_Wp g Ω μ mc ms tgt lo st M Q) : sp_Wp g Ω μ mc ms pc lo (.int x :: st) M Q :=
  fun ho p e R s m args below meth c H locs cells slots ls C hH hS hl h0 h1 h2 => lv_tableOut C.1 C.2.1 d h ht (k ho p e R s m args below meth c H locs cells slots ls C hH hS hl h0 h1 h2)
theorem sp_tswI {df lw hg : Int} {offs : Array Int} {len : Nat} {x : Int32} {off : Int} {tgt : Nat} (d : decode μ.2.1 pc = .ok (.tableswitch df lw hg offs, len)) (h3 : ¬ x.toInt < lw) (h4 : ¬ hg < x.toInt) (hoff : offs[(x.toInt - lw).toNat]? = some off) (ht : (pc : Int) + off = (tgt : Int)) (k : sp_Wp g Ω μ mc ms tgt lo st M Q) : sp_Wp g Ω μ mc ms pc lo (.int x :: st) M Q :=
  fun ho p e R s m args below meth c H locs cells slots ls C hH hS hl h0 h1 h2 => lv_tableIn C.1 C.2.1 d h3 h4 hoff ht (k ho p e R s m args below meth c H locs cells slots ls C hH hS hl h0 h1 h2)
theorem sp_iload_n {kf : Fin 4} {i : Nat} {x : Int32} (d : decode μ.2.1 pc = .ok (.iload_n kf, 1)) (hi : (kf : Nat) = i) (hv : lo[i]? = some (some (.int x))) (k : sp_Wp g Ω μ mc ms (pc + 1) lo (.int x :: st) M Q) : sp_Wp g Ω μ mc ms pc lo st M Q :=
  fun ho p e R s m args below meth c H locs cells slots ls C hH hS hl h0 h1 h2 => lv_iload_n C.1 C.2.1 d hi (hl.2.2 i _ hv) (k ho p e R s m args below meth c H locs cells slots ls C hH hS hl h0 h1 h2)
theorem sp_iload {i : Nat} {x : Int32} (d : decode μ.2.1 pc = .ok (.iload i, 2)) (hv : lo[i]? = some (some (.int x))) (k : sp_Wp g Ω μ mc ms (pc + 2) lo (.int x :: st) M Q) : sp_Wp g Ω μ mc ms pc lo st M Q :=
  fun ho p e R s m args below meth c H locs cells slots ls C hH hS hl h0 h1 h2 => lv_iload C.1 C.2.1 d (hl.2.2 i _ hv) (k ho p e R s m args below meth c H locs cells slots ls C hH hS hl h0 h1 h2)
theorem sp_lload_n {kf : Fin 4} {i : Nat} {x : Int64} (d : decode μ.2.1 pc = .ok (.lload_n kf, 1)) (hi : (kf : Nat) = i) (hv : lo[i]? = some (some (.long x))) (k : sp_Wp g Ω μ mc ms (pc + 1) lo (.long x :: st) M Q) : sp_Wp g Ω μ mc ms pc lo st M Q :=
  fun ho p e R s m args below meth c H locs cells slots ls C hH hS hl h0 h1 h2 => lv_lload_n C.1 C.2.1 d hi (hl.2.2 i _ hv) (k ho p e R s m args below meth c H locs cells slots ls C hH hS hl h0 h1 h2)
theorem sp_lload {i : Nat} {x : Int64} (d : decode μ.2.1 pc = .ok (.lload i, 2)) (hv : lo[i]? = some (some (.long x))) (k : sp_Wp g Ω μ mc ms (pc + 2) lo (.long x :: st) M Q) : sp_Wp g Ω μ mc ms pc lo st M Q :=
  fun ho p e R s m args below meth c H locs cells slots ls C hH hS hl h0 h1 h2 => lv_lload C.1 C.2.1 d (hl.2.2 i _ hv) (k ho p e R s m args below meth c H locs cells slots ls C hH hS hl h0 h1 h2)
theorem sp_aload_n {kf : Fin 4} {i : Nat} {x : Nat} (d : decode μ.2.1 pc = .ok (.aload_n kf, 1)) (hi : (kf : Nat) = i) (hv : lo[i]? = some (some (.ref x))) (k : sp_Wp g Ω μ mc ms (pc + 1) lo (.ref x :: st) M Q) : sp_Wp g Ω μ mc ms pc lo st M Q :=
  fun ho p e R s m args below meth c H locs cells slots ls C hH hS hl h0 h1 h2 => lv_aload_n C.1 C.2.1 d hi (hl.2.2 i _ hv) (k ho p e R s m args below meth c H locs cells slots ls C hH hS hl h0 h1 h2)
theorem sp_aload {i : Nat} {x : Nat} (d : decode μ.2.1 pc = .ok (.aload i, 2)) (hv : lo[i]? = some (some (.ref x))) (k : sp_Wp g Ω μ mc ms (pc + 2) lo (.ref x :: st) M Q) : sp_Wp g Ω μ mc ms pc lo st M Q :=
  fun ho p e R s m args below meth c H locs cells slots ls C hH hS hl h0 h1 h2 => lv_aload C.1 C.2.1 d (hl.2.2 i _ hv) (k ho p e R s m args below meth c H locs cells slots ls C hH hS hl h0 h1 h2)
theorem sp_aload_nN {kf : Fin 4} {i : Nat}  (d : decode μ.2.1 pc = .ok (.aload_n kf, 1)) (hi : (kf : Nat) = i) (hv : lo[i]? = some (some (.null))) (k : sp_Wp g Ω μ mc ms (pc + 1) lo (.null :: st) M Q) : sp_Wp g Ω μ mc ms pc lo st M Q :=
  fun ho p e R s m args below meth c H locs cells slots ls C hH hS hl h0 h1 h2 => lv_aload_nN C.1 C.2.1 d hi (hl.2.2 i _ hv) (k ho p e R s m args below meth c H locs cells slots ls C hH hS hl h0 h1 h2)
theorem sp_aloadN {i : Nat}  (d : decode μ.2.1 pc = .ok (.aload i, 2)) (hv : lo[i]? = some (some (.null))) (k : sp_Wp g Ω μ mc ms (pc + 2) lo (.null :: st) M Q) : sp_Wp g Ω μ mc ms pc lo st M Q :=
  fun ho p e R s m args below meth c H locs cells slots ls C hH hS hl h0 h1 h2 => lv_aloadN C.1 C.2.1 d (hl.2.2 i _ hv) (k ho p e R s m args below meth c H locs cells slots ls C hH hS hl h0 h1 h2)
theorem sp_istore_n {kf : Fin 4} {i : Nat} {x : Int32} (lo' : List (Option Value)) (d : decode μ.2.1 pc = .ok (.istore_n kf, 1)) (hi : (kf : Nat) = i) (hn : i < μ.2.2.1) (hs : sp_lst lo i (.int x) = lo') (k : sp_Wp g Ω μ mc ms (pc + 1) lo' st M Q) : sp_Wp g Ω μ mc ms pc lo (.int x :: st) M Q := by
  subst hs
  exact fun ho p e R s m args below meth c H locs cells slots ls C hH hS hl h0 h1 h2 => lv_istore_n C.1 C.2.1 d hi (sp_LR.lv hl) hn rfl (fun ls2 hl2 => k ho p e R s m args below meth c H locs cells slots ls2 C hH hS (sp_LR.st hl2) h0 h1 h2)
theorem sp_istore {i : Nat} {x : Int32} (lo' : List (Option Value)) (d : decode μ.2.1 pc = .ok (.istore i, 2)) (hn : i < μ.2.2.1) (hs : sp_lst lo i (.int x) = lo') (k : sp_Wp g Ω μ mc ms (pc + 2) lo' st M Q) : sp_Wp g Ω μ mc ms pc lo (.int x :: st) M Q := by
  subst hs
  exact fun ho p e R s m args below meth c H locs cells slots ls C hH hS hl h0 h1 h2 => lv_istore C.1 C.2.1 d (sp_LR.lv hl) hn rfl (fun ls2 hl2 => k ho p e R s m args below meth c H locs cells slots ls2 C hH hS (sp_LR.st hl2) h0 h1 h2)
theorem sp_lstore_n {kf : Fin 4} {i : Nat} {x : Int64} (lo' : List (Option Value)) (d : decode μ.2.1 pc = .ok (.lstore_n kf, 1)) (hi : (kf : Nat) = i) (hn : i + 1 < μ.2.2.1) (hs : sp_lst2 lo i (.long x) = lo') (k : sp_Wp g Ω μ mc ms (pc + 1) lo' st M Q) : sp_Wp g Ω μ mc ms pc lo (.long x :: st) M Q := by
  subst hs
  exact fun ho p e R s m args below meth c H locs cells slots ls C hH hS hl h0 h1 h2 => lv_lstore_n C.1 C.2.1 d hi (sp_LR.lv hl) hn rfl (fun ls2 hl2 => k ho p e R s m args below meth c H locs cells slots ls2 C hH hS (sp_LR.st2 hl2) h0 h1 h2)
theorem sp_lstore {i : Nat} {x : Int64} (lo' : List (Option Value)) (d : decode μ.2.1 pc = .ok (.lstore i, 2)) (hn : i + 1 < μ.2.2.1) (hs : sp_lst2 lo i (.long x) = lo') (k : sp_Wp g Ω μ mc ms (pc + 2) lo' st M Q) : sp_Wp g Ω μ mc ms pc lo (.long x :: st) M Q := by
  subst hs
  exact fun ho p e R s m args below meth c H locs cells slots ls C hH hS hl h0 h1 h2 => lv_lstore C.1 C.2.1 d (sp_LR.lv hl) hn rfl (fun ls2 hl2 => k ho p e R s m args below meth c H locs cells slots ls2 C hH hS (sp_LR.st2 hl2) h0 h1 h2)
theorem sp_astore_n {kf : Fin 4} {i : Nat} {x : Nat} (lo' : List (Option Value)) (d : decode μ.2.1 pc = .ok (.astore_n kf, 1)) (hi : (kf : Nat) = i) (hn : i < μ.2.2.1) (hs : sp_lst lo i (.ref x) = lo') (k : sp_Wp g Ω μ mc ms (pc + 1) lo' st M Q) : sp_Wp g Ω μ mc ms pc lo (.ref x :: st) M Q := by
  subst hs
  exact fun ho p e R s m args below meth c H locs cells slots ls C hH hS hl h0 h1 h2 => lv_astore_n C.1 C.2.1 d hi (sp_LR.lv hl) hn rfl (fun ls2 hl2 => k ho p e R s m args below meth c H locs cells slots ls2 C hH hS (sp_LR.st hl2) h0 h1 h2)
theorem sp_astore {i : Nat} {x : Nat} (lo' : List (Option Value)) (d : decode μ.2.1 pc = .ok (.astore i, 2)) (hn : i < μ.2.2.1) (hs : sp_lst lo i (.ref x) = lo') (k : sp_Wp g Ω μ mc ms (pc + 2) lo' st M Q) : sp_Wp g Ω μ mc ms pc lo (.ref x :: st) M Q := by
  subst hs
  exact fun ho p e R s m args below meth c H locs cells slots ls C hH hS hl h0 h1 h2 => lv_astore C.1 C.2.1 d (sp_LR.lv hl) hn rfl (fun ls2 hl2 => k ho p e R s m args below meth c H locs cells slots ls2 C hH hS (sp_LR.st hl2) h0 h1 h2)
theorem sp_astore_nN {kf : Fin 4} {i : Nat}  (lo' : List (Option Value)) (d : decode μ.2.1 pc = .ok (.astore_n kf, 1)) (hi : (kf : Nat) = i) (hn : i < μ.2.2.1) (hs : sp_lst lo i (.null) = lo') (k : sp_Wp g Ω μ mc ms (pc + 1) lo' st M Q) : sp_Wp g Ω μ mc ms pc lo (.null :: st) M Q := by
  subst hs
  exact fun ho p e R s m args below meth c H locs cells slots ls C hH hS hl h0 h1 h2 => lv_astore_nN C.1 C.2.1 d hi (sp_LR.lv hl) hn rfl (fun ls2 hl2 => k ho p e R s m args below meth c H locs cells slots ls2 C hH hS (sp_LR.st hl2) h0 h1 h2)
theorem sp_astoreN {i : Nat}  (lo' : List (Option Value)) (d : decode μ.2.1 pc = .ok (.astore i, 2)) (hn : i < μ.2.2.1) (hs : sp_lst lo i (.null) = lo') (k : sp_Wp g Ω μ mc ms (pc + 2) lo' st M Q) : sp_Wp g Ω μ mc ms pc lo (.null :: st) M Q := by
  subst hs
  exact fun ho p e R s m args below meth c H locs cells slots ls C hH hS hl h0 h1 h2 => lv_astoreN C.1 C.2.1 d (sp_LR.lv hl) hn rfl (fun ls2 hl2 => k ho p e R s m args below meth c H locs cells slots ls2 C hH hS (sp_LR.st hl2) h0 h1 h2)
theorem sp_iinc {i : Nat} {n : Int} {x v : Int32} (lo' : List (Option Value)) (d : decode μ.2.1 pc = .ok (.iinc i n, 3)) (hv : lo[i]? = some (some (.int x))) (hx : x + Int32.ofInt n = v) (hn : i < μ.2.2.1) (hs : sp_lst lo i (.int v) = lo') (k : sp_Wp g Ω μ mc ms (pc + 3) lo' st M Q) : sp_Wp g Ω μ mc ms pc lo st M Q := by
  subst hs
  intro ho p e R s m args below meth c H locs cells slots ls C hH hS hl h0 h1 h2
  obtain ⟨kq, hkq⟩ := List.getElem?_of_mem ((sp_lv_mem g lo 0 (i, .int x)).mpr ⟨i, .int x, hv, by simp [sp_rv]⟩)
  exact lv_iinc C.1 C.2.1 d (sp_LR.lv hl) hkq hx hn rfl (fun ls2 hl2 => k ho p e R s m args below meth c H locs cells slots ls2 C hH hS (sp_LR.st hl2) h0 h1 h2)
theorem sp_iret {v : Int32} (d : decode μ.2.1 pc = .ok (.ireturn, 1)) {ty : FieldType} (hr : μ.2.2.2.1 = some ty) (hn : narrow ty (.int v) = .int v) (k : Ω M → Q (some (.int v)) M) : sp_Wp g Ω μ mc ms pc lo [.int v] M Q :=
  fun ho p e R s m args below meth c H locs cells slots ls C hH hS hl h0 h1 h2 => W.widen (Nat.le_add_right cells mc) (Nat.le_add_right slots ms) (W.zret C.1 C.2.1 (C.2.2.2.1.trans hr) hn (fun t ht hw => ⟨⟨_, M, rfl, k ho, ho, by rw [ht]; exact hH⟩, by rw [ht]; exact hS.1, fun q h3 h4 => by rw [ht]; exact hS.2.1 q h3 h4⟩) (fun q hq => hS.2.2 q hq) d C.2.2.2.2.1)
theorem sp_lret {v : Int64} (d : decode μ.2.1 pc = .ok (.lreturn, 1)) (hr : μ.2.2.2.1 = some .long) (k : Ω M → Q (some (.long v)) M) : sp_Wp g Ω μ mc ms pc lo [.long v] M Q :=
  fun ho p e R s m args below meth c H locs cells slots ls C hH hS hl h0 h1 h2 => W.widen (Nat.le_add_right cells mc) (Nat.le_add_right slots ms) (W.lret C.1 C.2.1 (C.2.2.2.1.trans hr) (fun t ht hw => ⟨⟨_, M, rfl, k ho, ho, by rw [ht]; exact hH⟩, by rw [ht]; exact hS.1, fun q h3 h4 => by rw [ht]; exact hS.2.1 q h3 h4⟩) (fun q hq => hS.2.2 q hq) d C.2.2.2.2.1)
theorem sp_vret  (d : decode μ.2.1 pc = .ok (.return_, 1)) (hr : μ.2.2.2.1 = none) (k : Ω M → Q none M) : sp_Wp g Ω μ mc ms pc lo [] M Q :=
  fun ho p e R s m args below meth c H locs cells slots ls C hH hS hl h0 h1 h2 => W.widen (Nat.le_add_right cells mc) (Nat.le_add_right slots ms) (W.vret C.1 C.2.1 (C.2.2.2.1.trans hr) (fun t ht hw => ⟨⟨_, M, rfl, k ho, ho, by rw [ht]; exact hH⟩, by rw [ht]; exact hS.1, fun q h3 h4 => by rw [ht]; exact hS.2.1 q h3 h4⟩) (fun q hq => hS.2.2 q hq) d C.2.2.2.2.1)
theorem sp_aret {r : Option Nat} {rt : FieldType} (d : decode μ.2.1 pc = .ok (.areturn, 1)) (hr : μ.2.2.2.1 = some rt) (hrt : (∃ n, rt = .object n) ∨ ∃ t, rt = .array t) (k : Ω M → Q (some (va_rf r)) M) : sp_Wp g Ω μ mc ms pc lo [va_rf r] M Q :=
  fun ho p e R s m args below meth c H locs cells slots ls C hH hS hl h0 h1 h2 => W.widen (Nat.le_add_right cells mc) (Nat.le_add_right slots ms) (W.aret (v := sp_rv g (va_rf r)) C.1 C.2.1 (C.2.2.2.1.trans hr) hrt (by cases r with | none => exact Or.inl rfl | some a => exact Or.inr ⟨_, rfl⟩) (fun t ht hw => ⟨⟨_, M, rfl, k ho, ho, by rw [ht]; exact hH⟩, by rw [ht]; exact hS.1, fun q h3 h4 => by rw [ht]; exact hS.2.1 q h3 h4⟩) (fun q hq => hS.2.2 q hq) d C.2.2.2.2.1)
end SpRows
