def st_fl : List Cond := flatC (Jvm.Cond.and given_1 narrow_1)
def st_b : List Nat := [222, 208, 31, 169, 180, 192, 53, 61, 101, 155]
def st_p : List (List Nat) := [[0, 255, 247, 252, 253, 254, 248, 249, 250, 251], [255, 0, 214, 219, 220, 221, 215, 216, 217, 218], [247, 214, 0, 175, 186, 201, 60, 99, 152, 165], [252, 219, 175, 0, 191, 206, 176, 177, 178, 179], [253, 220, 186, 191, 0, 207, 187, 188, 189, 190], [254, 221, 201, 206, 207, 0, 202, 203, 204, 205], [248, 215, 60, 176, 187, 202, 0, 100, 153, 166], [249, 216, 99, 177, 188, 203, 100, 0, 154, 167], [250, 217, 152, 178, 189, 204, 153, 154, 0, 168], [251, 218, 165, 179, 190, 205, 166, 167, 168, 0]]
def st_s : List Nat := [815, 810, 664, 799, 800, 805, 738, 763, 764, 777]
def st_n : List Nat := [129, 135, 256, 333, 514, 521, 545, 754, 914, 919, 921, 930, 1114, 1121]
def st_tm (i : Nat) : Term := .string "NamedSparks$Parser" (sp_txt.getD i (0, "")).1
theorem st_0 : ∀ i, i < 10 → st_fl[st_b.getD i 0]? = some (Cond.exactly (st_tm i) "java/lang/String") := by decide +kernel
theorem st_1 : ∀ i, i < 10 → st_fl[st_b.getD i 0 + 1]? = some (Cond.eq (.field (st_tm i) "java/lang/String" "coder" "B") (.int 0)) := by decide +kernel
theorem st_2 : ∀ i, i < 10 → st_fl[st_b.getD i 0 + 2]? = some (Cond.arrayOf (.field (st_tm i) "java/lang/String" "value" "[B") .byte) := by decide +kernel
theorem st_3 : ∀ i, i < 10 → st_fl[st_b.getD i 0 + 3]? = some (Cond.eq (.length (.field (st_tm i) "java/lang/String" "value" "[B")) (.int (Int32.ofNat (sp_tlen.getD i 0)))) := by decide +kernel
theorem st_4 : ∀ i, i < 10 → ∀ j, j < sp_tlen.getD i 0 → st_fl[st_b.getD i 0 + 4 + j]? = some (Cond.eq (.elem (.field (st_tm i) "java/lang/String" "value" "[B") (.int (Int32.ofNat j))) (.int ((sp_tbyt.getD i []).getD j 0))) := by decide +kernel
theorem st_5 : ∀ i, i < 10 → ∀ j, j < 10 → i ≠ j → st_fl[(st_p.getD i []).getD j 0]? = some (Cond.not (Cond.eq (st_tm i) (st_tm j))) ∨ st_fl[(st_p.getD i []).getD j 0]? = some (Cond.not (Cond.eq (st_tm j) (st_tm i))) := by decide +kernel
theorem st_6 : ∀ i, i < 10 → lw_tbl[st_s.getD i 0]? = some (Cond.stringRef "NamedSparks$Parser" (sp_txt.getD i (0, "")).1 (sp_txt.getD i (0, "")).2) := by decide +kernel
theorem st_7 : ∀ i, i < 14 → lw_tbl[st_n.getD i 0]? = (sp_nest[i]?).map (fun q => Cond.methodLinkNest q.1 q.2.1 q.2.2 "NamedSparks") := by decide +kernel
theorem st_c : st_fl[4]? = some (Cond.eq (.static "java/lang/String" "COMPACT_STRINGS" "Z") (.int 1)) := by decide +kernel
theorem st_f : st_fl[5]? = some (Cond.isRef (.static "jdk/internal/util/Preconditions" "SIOOBE_FORMATTER" "Ljava/util/function/BiFunction;")) := by decide +kernel
theorem st_lc : lw_tbl[678]? = some (Cond.laysStatic "java/lang/String" "COMPACT_STRINGS" "Z") := by decide +kernel
theorem st_lf : lw_tbl[694]? = some (Cond.laysStatic "jdk/internal/util/Preconditions" "SIOOBE_FORMATTER" "Ljava/util/function/BiFunction;") := by decide +kernel
theorem st_ic : lw_tbl[111]? = some (Cond.initialized "java/lang/String") := by decide +kernel
theorem st_if : lw_tbl[113]? = some (Cond.initialized "jdk/internal/util/Preconditions") := by decide +kernel
theorem st_at : lw_tbl[164]? = some (Cond.arrayOver (.object "NamedSparks$Text")) := by decide +kernel
theorem st_ar : lw_tbl[298]? = some (Cond.arrayOver (.object "NamedSparks$Room")) := by decide +kernel
theorem st_ct : lw_tbl[832]? = some (Cond.castable "[I" "java/lang/Cloneable") := by decide +kernel
/-! THE CLAIM OUT OF ONE WALK OF THE LAW'S BODY. Your part is whole_start (and what it stands on); all else here is the same for every law, but numbers. -/
def R_law : String := "NamedSparksLaw"
def lw_P (b : Addr) (xs : List Int32) (args : Array Value) (s : State) : Prop := args = #[.ref b] ∧ s.IntsAt b xs ∧ xs.length ≤ 3072 ∧ (Jvm.Cond.and given_1 narrow_1).before args s = true
def lw_Q (_ : Array Value) (s : State) (o : Outcome) (t : State) : Prop := o = .returned (some (.int 1)) ∧ Framed s o t [] 600000 7302250
def lw_Z (below : List Frame) (a : Array Value) (s : State) : State → Prop := fun t => ∃ o, t.status = .running ∧ Ended t below o ∧ lw_Q a s o t
/-- the law's own end, with 1 on the stack, nothing written that was there before, its room as the claim has it -/
theorem lw_ret {p : Program} {l : Launch} {e : Env} {s : State} {m : MethodId} {below : List Frame} {meth : Method} {c : Code} {b : Nat} (hx : p.tables.exec = Jvm.exec) (hb : c.code = code) (hr : meth.sig.returnType = ret) (hlocks : meth.locks = false) {pc : Nat} {H : Heap} {ls : Array Slot} (hdg : decode code pc = .ok (.ireturn, 1)) : W p l e room_1 s m #[Value.ref b] below meth c H [] 600000 7302250 (lw_Z below #[Value.ref b] s) (F0 m pc ls [.int 1]) := by
  intro T hT X
  obtain ⟨fs, hret, hrun, hended, hW, hframe⟩ := X.leave (v := some (.int 1)) (hlocks := hlocks) (fun h => by rw [hr] at h; cases h)
  have hmeth' : T.vm.method? m = some meth := X.method'
  refine ⟨T.setFrames fs, ?_, .returned (some (.int 1)), hrun, hended, rfl, ⟨_, rfl⟩, hW, hframe⟩
  jvm_step X.here [X.here.top, hx, hb, hdg, hmeth', hr, ret, narrow_b1]
  (try refine ⟨rfl, ?_⟩); (try refine ⟨rfl, ?_⟩)
  first | (intro acts; rw [hret _ acts rfl rfl rfl]) | rw [hret _ _ rfl rfl rfl]
  exact Steps.refl _
/-- what holds at the law's entry: the machine, the code, the tables' words (any of lw_tbl by 'hts w (by decide +kernel)'), the script of L ints xs at the cell b, what the Statement gives of the start (any of its parts by flat_of_before) -/
def lw_At (p : Program) (s : State) (m : MethodId) (meth : Method) (c : Code) (b L : Nat) (xs : Nat → Int32) : Prop :=
  p.tables.exec = Jvm.exec ∧ c.code = code ∧ meth.sig.returnType = ret ∧ c.maxLocals = 4 ∧ s.vm.findClass R_law = some m.cls ∧ (∀ w ∈ lw_tbl, w.before #[Value.ref b] s = true) ∧ va_X b L xs s s.heap ∧ b < s.heap.size ∧ meth.locks = false ∧ (Jvm.Cond.and given_1 narrow_1).before #[Value.ref b] s = true ∧ meth.name = x.name
