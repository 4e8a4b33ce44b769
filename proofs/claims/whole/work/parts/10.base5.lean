/-! ===== calls ===== -/
theorem sp_back {g : sp_G} {Ω : sp_Mem → Prop} {p : Program} {l : Launch} {e : Env} {R : Room} {s : State} {m : MethodId} {args : Array Value} {below : List Frame} {meth : Method} {c : Code} {H : Heap} {locs : List Loc} {cells slots mc1 ms1 pc : Nat} {Q : State → Prop} {ls : Array Slot} {st0 rest : List Value} {a : Array Value} {Qc : sp_Qt} {M : sp_Mem}
    (hr : va_Run p l e R s m args below meth c H locs cells slots mc1 ms1 (F0 m pc ls st0) rest (sp_QC g Ω Qc a) (sp_A g)) (hS : va_S (sp_A g) s.heap H locs) (hH : sp_HR g M H) (h0 : s.heap.size + cells = sp_z g + sp_n M) (hx : ∀ r M', Qc r M' → sp_n M ≤ sp_n M' → sp_n M' ≤ sp_n M + mc1 → sp_n M' = sp_n M + mc1)
    (kk : ∀ (r : Option Value) (M' : sp_Mem) (H1 : Heap) (locs1 : List Loc), Qc r M' → Ω M' → sp_HR g M' H1 → va_S (sp_A g) s.heap H1 locs1 → s.heap.size + (cells + mc1) = sp_z g + sp_n M' → W p l e R s m args below meth c H1 locs1 (cells + mc1) (slots + ms1) Q (F0 m (pc + 3) ls ((r.map (sp_rv g)).toList ++ rest))) :
    W p l e R s m args below meth c H locs cells slots Q (F0 m pc ls st0) := by
  intro T hT X
  obtain ⟨v, st₀, t, T', L, h0', X', hL, e1, e2, ⟨⟨r, M', hv, hq, ho, hH1⟩, hz, hk⟩, st⟩ := hr T hT X
  cases hv
  rw [h0'] at hz hk
  have hsz := X'.heapSize
  rw [e1] at hsz
  have g1 := hH1.1
  have g2 := hH.1
  have hn := hx r M' hq (by omega) (by omega)
  obtain ⟨t2, a1, b1⟩ := kk r M' T'.heap (locs ++ L) hq ho (by rw [e1]; exact hH1) ⟨Nat.le_trans hS.1 (by rw [e1]; exact hz), fun q h1 h2 => by rw [e1, hk q (Nat.lt_of_lt_of_le h1 hS.1) h2]; exact hS.2.1 q h1 h2, fun q hq => by
      rcases List.mem_append.mp hq with h | h
      · exact hS.2.2 q h
      · exact hL q h⟩ (by omega) T' rfl X'
  exact ⟨t2, st t2 a1, b1⟩
/-- a method's own words: its code, its class begun, its number of parameters -/
def sp_m (μ' : sp_MD) (n : Nat) : Prop := Cond.code μ'.1 μ'.2.1 μ'.2.2.1 μ'.2.2.2.1 ∈ sp_tb ∧ Cond.initialized μ'.1.cls ∈ sp_tb ∧ (μ'.1.cls ≠ "java/lang/invoke/MethodHandle" ∧ μ'.1.cls ≠ "java/lang/invoke/VarHandle" ∧ (parseMethodDescriptor μ'.1.desc).map (fun d => d.parameters.length) = some n)
theorem sp_good {w0 : Cond} (h : w0 ∈ sp_tb) : GoodIn sp_tb (w0 :: sp_tb) := by
  intro w hw
  have hm : w ∈ sp_tb := by
    rcases List.mem_cons.mp hw with h1 | h1
    · rw [h1]; exact h
    · exact h1
  exact ⟨hm, good_of_word (List.mem_filter.mp hm).2⟩
theorem sp_cats (g : sp_G) (st : List Value) : ((st.map (sp_rv g)).map fun v => v.category).sum = (st.map fun v => v.category).sum := by
  rw [List.map_map]
  congr 1
  exact List.map_congr_left (fun v _ => sp_rv_cat g v)
section SpCall
variable {g : sp_G} {Ω : sp_Mem → Prop} {μ μ' : sp_MD} {mc ms mc1 ms1 pc : Nat} {lo : List (Option Value)} {st : List Value} {M : sp_Mem} {Q Qc : sp_Qt}
theorem sp_pre {p : Program} {R : Room} {s : State} {m : MethodId} {args : Array Value} {meth : Method} {c : Code} {H : Heap} {locs : List Loc} (av : List Value) (C : sp_C g μ p R s m args meth c) (hH : sp_HR g M H) (hS : va_S (sp_A g) s.heap H locs) : PreS s H (va_Pc (av.map (sp_rv g)) (fun U => sp_HR g M U.heap ∧ va_K (sp_D g) vwCl (sp_tys g) U ∧ sp_X g U)) (av.map (sp_rv g)) :=
  ⟨fun a U g' mk q => ⟨q.1, q.2.1, va_K.moved (u := U) (U := U.calling g' mk a) (Vm.Alike.refl U.vm) q.2.2.1, sp_X.same (u := U) (U := U.calling g' mk a) rfl rfl q.2.2.2⟩, fun U hU hW => ⟨rfl, by rw [hU]; exact hH, va_K.moved hW.alike C.2.2.2.2.2.2.2.1, sp_X.go hW (by rw [hU]; exact hS.1) (fun a h1 h2 => by rw [hU]; exact hS.2.1 a h1 h2) C.2.2.2.2.2.2.2.2.2.2.2.1⟩⟩
theorem sp_cb {p : Program} {R : Room} {s : State} {m : MethodId} {args : Array Value} {meth : Method} {c : Code} {i n : Nat} (C : sp_C g μ p R s m args meth c) (hm : sp_m μ' n) (hl : Cond.methodLink μ.1.cls i μ'.1 ∈ sp_tb) (hfr : μ'.2.2.2.2.1 + 1 ≤ μ.2.2.2.2.1) (hlc : 8 + (μ'.2.2.1 + 11) + μ'.2.2.2.2.2 ≤ μ.2.2.2.2.2) : CallB R s args μ.1.cls i μ'.1 μ'.2.1 μ'.2.2.1 μ'.2.2.2.1 (.code μ'.1 μ'.2.1 μ'.2.2.1 μ'.2.2.2.1 :: sp_tb) ({ frames := μ'.2.2.2.2.1, cells := mc1, slots := ms1, locals := μ'.2.2.2.2.2 }) mc1 ms1 n :=
  callB_of n C.2.2.2.2.2.2.1 (sp_good hm.1) rfl rfl rfl (C.2.2.2.2.2.2.1 _ hm.2.1) (C.2.2.2.2.2.2.1 _ hl) hm.2.2 ⟨Nat.le_trans hfr C.2.2.2.2.2.2.2.2.1, Nat.le_trans hlc C.2.2.2.2.2.2.2.2.2.1⟩
theorem sp_cn {p : Program} {R : Room} {s : State} {m : MethodId} {args : Array Value} {meth : Method} {c : Code} {i n : Nat} (C : sp_C g μ p R s m args meth c) (hm : sp_m μ' n) (hl : (μ.1.cls, i, μ'.1) ∈ sp_nest) (hfr : μ'.2.2.2.2.1 + 1 ≤ μ.2.2.2.2.1) (hlc : 8 + (μ'.2.2.1 + 11) + μ'.2.2.2.2.2 ≤ μ.2.2.2.2.2) : va_CN R s args μ.1.cls i μ'.1 "NamedSparks" μ'.2.1 μ'.2.2.1 μ'.2.2.2.1 (.code μ'.1 μ'.2.1 μ'.2.2.1 μ'.2.2.2.1 :: sp_tb) ({ frames := μ'.2.2.2.2.1, cells := mc1, slots := ms1, locals := μ'.2.2.2.2.2 }) mc1 ms1 n :=
  va_cnB n C.2.2.2.2.2.2.1 (sp_good hm.1) rfl rfl rfl (C.2.2.2.2.2.2.2.2.2.2.2.1.1.1 _ hl) (C.2.2.2.2.2.2.1 _ hm.2.1) hm.2.2 ⟨Nat.le_trans hfr C.2.2.2.2.2.2.2.2.1, Nat.le_trans hlc C.2.2.2.2.2.2.2.2.2.1⟩
/-- what comes behind a call -/
theorem sp_go {p : Program} {e : Env} {R : Room} {s : State} {m : MethodId} {args : Array Value} {below : List Frame} {meth : Method} {c : Code} {H : Heap} {locs : List Loc} {cells slots : Nat} {ls : Array Slot} {st0 : List Value} {a : Array Value} (C : sp_C g μ p R s m args meth c) (hl : sp_LR g ls μ.2.2.1 lo) (h1 : cells + (mc1 + mc) ≤ R.cells) (h2 : slots + (ms1 + ms) ≤ R.slots)
    (hr : va_Run p (sp_l g) e R s m args below meth c H locs cells slots mc1 ms1 (F0 m pc ls st0) (st.map (sp_rv g)) (sp_QC g Ω Qc a) (sp_A g)) (hS : va_S (sp_A g) s.heap H locs) (hH : sp_HR g M H) (h0 : s.heap.size + cells = sp_z g + sp_n M) (hx : ∀ r M', Qc r M' → sp_n M ≤ sp_n M' → sp_n M' ≤ sp_n M + mc1 → sp_n M' = sp_n M + mc1)
    (k : ∀ r M', Qc r M' → sp_Wp g Ω μ mc ms (pc + 3) lo (r.toList ++ st) M' Q) :
    W p (sp_l g) e R s m args below meth c H locs cells slots (MQ below (sp_QC g Ω Q) args s (cells + (mc1 + mc)) (slots + (ms1 + ms)) (sp_A g)) (F0 m pc ls st0) := by
  refine sp_back hr hS hH h0 hx (fun r M' H1 locs1 hq ho hH1 hS1 h3 => ?_)
  have := k r M' hq ho p e R s m args below meth c H1 locs1 (cells + mc1) (slots + ms1) ls C hH1 hS1 hl h3 (by omega) (by omega)
  rw [show cells + (mc1 + mc) = cells + mc1 + mc by omega, show slots + (ms1 + ms) = slots + ms1 + ms by omega]
  refine W.eq ?_ this
  cases r <;> simp
theorem sp_callS {i n : Nat} (av : List Value) (d : decode μ.2.1 pc = .ok (.invokestatic i, 3)) (hm : sp_m μ' n) (hl : Cond.methodLink μ.1.cls i μ'.1 ∈ sp_tb) (hst : Cond.static μ'.1 ∈ sp_tb) (hfr : μ'.2.2.2.2.1 + 1 ≤ μ.2.2.2.2.1) (hlc : 8 + (μ'.2.2.1 + 11) + μ'.2.2.2.2.2 ≤ μ.2.2.2.2.2) (hn : av.length = n) (hcat : (st.map fun v => v.category).sum ≤ 8) (hx : ∀ r M', Qc r M' → sp_n M ≤ sp_n M' → sp_n M' ≤ sp_n M + mc1 → sp_n M' = sp_n M + mc1) (call : sp_Mt g Ω μ' mc1 ms1 av M Qc)
    (k : ∀ r M', Qc r M' → sp_Wp g Ω μ mc ms (pc + 3) lo (r.toList ++ st) M' Q) (st0 : List Value) (hs : av.reverse ++ st = st0) : sp_Wp g Ω μ (mc1 + mc) (ms1 + ms) pc lo st0 M Q := by
  subst hs
  intro ho p e R s m args below meth c H locs cells slots ls C hH hS hl0 h0 h1 h2
  exact sp_go C hl0 h1 h2 (va_runS (As := av.map (sp_rv g)) (rest := st.map (sp_rv g)) ⟨C.1, C.2.1, C.2.2.1, C.2.2.2.2.2.1, C.2.2.2.2.2.2.1⟩ (call ho) ⟨sp_cb C hm hl hfr hlc, C.2.2.2.2.2.2.1 _ hst⟩ (sp_pre av C hH hS) rfl (by rw [List.length_map]; exact hn) hl0.1 (by simp) (lv_room (by rw [sp_cats]; exact hcat)) d ⟨by omega, by omega⟩) hS hH h0 hx k
theorem sp_callSN {i n : Nat} (av : List Value) (d : decode μ.2.1 pc = .ok (.invokestatic i, 3)) (hm : sp_m μ' n) (hl : (μ.1.cls, i, μ'.1) ∈ sp_nest) (hst : Cond.static μ'.1 ∈ sp_tb) (hfr : μ'.2.2.2.2.1 + 1 ≤ μ.2.2.2.2.1) (hlc : 8 + (μ'.2.2.1 + 11) + μ'.2.2.2.2.2 ≤ μ.2.2.2.2.2) (hn : av.length = n) (hcat : (st.map fun v => v.category).sum ≤ 8) (hx : ∀ r M', Qc r M' → sp_n M ≤ sp_n M' → sp_n M' ≤ sp_n M + mc1 → sp_n M' = sp_n M + mc1) (call : sp_Mt g Ω μ' mc1 ms1 av M Qc)
    (k : ∀ r M', Qc r M' → sp_Wp g Ω μ mc ms (pc + 3) lo (r.toList ++ st) M' Q) (st0 : List Value) (hs : av.reverse ++ st = st0) : sp_Wp g Ω μ (mc1 + mc) (ms1 + ms) pc lo st0 M Q := by
  subst hs
  intro ho p e R s m args below meth c H locs cells slots ls C hH hS hl0 h0 h1 h2
  exact sp_go C hl0 h1 h2 (va_runSN (As := av.map (sp_rv g)) (rest := st.map (sp_rv g)) ⟨C.1, C.2.1, C.2.2.1, C.2.2.2.2.2.1, C.2.2.2.2.2.2.1⟩ (call ho) ⟨sp_cn C hm hl hfr hlc, C.2.2.2.2.2.2.1 _ hst, trivial⟩ (sp_pre av C hH hS) rfl (by rw [List.length_map]; exact hn) hl0.1 (by simp) (lv_room (by rw [sp_cats]; exact hcat)) d ⟨by omega, by omega⟩) hS hH h0 hx k
theorem sp_callI {i n : Nat} {o : Nat} (av : List Value) (d : decode μ.2.1 pc = .ok (.invokespecial i, 3)) (hm : sp_m μ' n) (hl : Cond.methodLink μ.1.cls i μ'.1 ∈ sp_tb) (hr : μ'.2.2.2.1 = none) (hnm : μ'.1.name = "<init>") (hst : Cond.instanceMethod μ'.1 ∈ sp_tb) (hfr : μ'.2.2.2.2.1 + 1 ≤ μ.2.2.2.2.1) (hlc : 8 + (μ'.2.2.1 + 11) + μ'.2.2.2.2.2 ≤ μ.2.2.2.2.2) (hn : av.length = n) (hcat : (st.map fun v => v.category).sum ≤ 8) (hx : ∀ r M', Qc r M' → sp_n M ≤ sp_n M' → sp_n M' ≤ sp_n M + mc1 → sp_n M' = sp_n M + mc1) (call : sp_Mt g Ω μ' mc1 ms1 (.ref o :: av) M Qc)
    (k : ∀ r M', Qc r M' → sp_Wp g Ω μ mc ms (pc + 3) lo (r.toList ++ st) M' Q) (st0 : List Value) (hs : av.reverse ++ .ref o :: st = st0) : sp_Wp g Ω μ (mc1 + mc) (ms1 + ms) pc lo st0 M Q := by
  subst hs
  intro ho p e R s m args below meth c H locs cells slots ls C hH hS hl0 h0 h1 h2
  have hcb := sp_cb (mc1 := mc1) (ms1 := ms1) C hm hl hfr hlc
  have call := call ho
  rw [hr] at hcb
  rw [hr] at call
  exact sp_go C hl0 h1 h2 (va_runI (b := sp_ad g o) (As := av.map (sp_rv g)) (rest := st.map (sp_rv g)) ⟨C.1, C.2.1, C.2.2.1, C.2.2.2.2.2.1, C.2.2.2.2.2.2.1⟩ call ⟨hcb, hnm, C.2.2.2.2.2.2.1 _ hst⟩ (sp_pre (.ref o :: av) C hH hS) rfl (by rw [List.length_map]; exact hn) hl0.1 (by simp [sp_rv]) (lv_room (by rw [sp_cats]; exact hcat)) d ⟨by omega, by omega⟩) hS hH h0 hx k
theorem sp_callIN {i n : Nat} {o : Nat} (av : List Value) (d : decode μ.2.1 pc = .ok (.invokespecial i, 3)) (hm : sp_m μ' n) (hl : (μ.1.cls, i, μ'.1) ∈ sp_nest) (hr : μ'.2.2.2.1 = none) (hnm : μ'.1.name = "<init>") (hst : Cond.instanceMethod μ'.1 ∈ sp_tb) (hfr : μ'.2.2.2.2.1 + 1 ≤ μ.2.2.2.2.1) (hlc : 8 + (μ'.2.2.1 + 11) + μ'.2.2.2.2.2 ≤ μ.2.2.2.2.2) (hn : av.length = n) (hcat : (st.map fun v => v.category).sum ≤ 8) (hx : ∀ r M', Qc r M' → sp_n M ≤ sp_n M' → sp_n M' ≤ sp_n M + mc1 → sp_n M' = sp_n M + mc1) (call : sp_Mt g Ω μ' mc1 ms1 (.ref o :: av) M Qc)
    (k : ∀ r M', Qc r M' → sp_Wp g Ω μ mc ms (pc + 3) lo (r.toList ++ st) M' Q) (st0 : List Value) (hs : av.reverse ++ .ref o :: st = st0) : sp_Wp g Ω μ (mc1 + mc) (ms1 + ms) pc lo st0 M Q := by
  subst hs
  intro ho p e R s m args below meth c H locs cells slots ls C hH hS hl0 h0 h1 h2
  have hcb := sp_cn (mc1 := mc1) (ms1 := ms1) C hm hl hfr hlc
  have call := call ho
  rw [hr] at hcb
  rw [hr] at call
  exact sp_go C hl0 h1 h2 (va_runIN (b := sp_ad g o) (As := av.map (sp_rv g)) (rest := st.map (sp_rv g)) ⟨C.1, C.2.1, C.2.2.1, C.2.2.2.2.2.1, C.2.2.2.2.2.2.1⟩ call ⟨hcb, hnm, C.2.2.2.2.2.2.1 _ hst⟩ (sp_pre (.ref o :: av) C hH hS) rfl (by rw [List.length_map]; exact hn) hl0.1 (by simp [sp_rv]) (lv_room (by rw [sp_cats]; exact hcat)) d ⟨by omega, by omega⟩) hS hH h0 hx k
/-- a method of an object; the receiver is a cell of its class -/
theorem sp_callV0 {i n : Nat} {o : Nat} (av : List Value) (d : decode μ.2.1 pc = .ok (.invokevirtual i, 3)) (hm : sp_m μ' n) (hl : Cond.methodLink μ.1.cls i μ'.1 ∈ sp_tb) (hst : Cond.instanceMethod μ'.1 ∈ sp_tb) (hsel : Cond.selects μ'.1.cls μ'.1 μ'.1 ∈ sp_tb) (hfr : μ'.2.2.2.2.1 + 1 ≤ μ.2.2.2.2.1) (hlc : 8 + (μ'.2.2.1 + 11) + μ'.2.2.2.2.2 ≤ μ.2.2.2.2.2) (hn : av.length = n) (hcat : (st.map fun v => v.category).sum ≤ 8) (hx : ∀ r M', Qc r M' → sp_n M ≤ sp_n M' → sp_n M' ≤ sp_n M + mc1 → sp_n M' = sp_n M + mc1)
    (hrc : ∀ (s : State) (H : Heap) (locs : List Loc), va_K (sp_D g) vwCl (sp_tys g) s → sp_X g s → sp_HR g M H → va_S (sp_A g) s.heap H locs → ∃ cell : Cell, H[sp_ad g o]? = some cell ∧ cell.vm.isStatics = false ∧ s.vm.findClass μ'.1.cls = some cell.cls) (call : sp_Mt g Ω μ' mc1 ms1 (.ref o :: av) M Qc)
    (k : ∀ r M', Qc r M' → sp_Wp g Ω μ mc ms (pc + 3) lo (r.toList ++ st) M' Q) (st0 : List Value) (hs : av.reverse ++ .ref o :: st = st0) : sp_Wp g Ω μ (mc1 + mc) (ms1 + ms) pc lo st0 M Q := by
  subst hs
  intro ho p e R s m args below meth c H locs cells slots ls C hH hS hl0 h0 h1 h2
  have hp := sp_pre (.ref o :: av) C hH hS
  exact sp_go C hl0 h1 h2 (va_runV (C := μ'.1.cls) (b := sp_ad g o) (As := av.map (sp_rv g)) (rest := st.map (sp_rv g)) ⟨C.1, C.2.1, C.2.2.1, C.2.2.2.2.2.1, C.2.2.2.2.2.2.1⟩ (call ho) ⟨sp_cb C hm hl hfr hlc, C.2.2.2.2.2.2.1 _ hst, C.2.2.2.2.2.2.1 _ hsel⟩ ⟨hp.1, hrc s H locs C.2.2.2.2.2.2.2.1 C.2.2.2.2.2.2.2.2.2.2.2.1 hH hS, hp.2⟩ rfl (by rw [List.length_map]; exact hn) hl0.1 (by simp [sp_rv]) (lv_room (by rw [sp_cats]; exact hcat)) d ⟨by omega, by omega⟩) hS hH h0 hx k
theorem sp_recv {o c : Nat} {r : vw_C} (hc : vwCl[c]? = some r) (hr : r.1 = μ'.1.cls) (ho : sp_is M o c) (s : State) (H : Heap) (locs : List Loc) (hK : va_K (sp_D g) vwCl (sp_tys g) s) (_ : sp_X g s) (hH : sp_HR g M H) (_ : va_S (sp_A g) s.heap H locs) : ∃ cell : Cell, H[sp_ad g o]? = some cell ∧ cell.vm.isStatics = false ∧ s.vm.findClass μ'.1.cls = some cell.cls := by
  rw [sp_ad_lt hH ho.1, ← hr]
  exact va_recv hK hH.2.2 hc (q0 := o) (by rw [sp_wl_at ho.1, sp_cell_o ho])
theorem sp_callV {i n : Nat} {o c : Nat} (r : vw_C) (av : List Value) (d : decode μ.2.1 pc = .ok (.invokevirtual i, 3)) (hm : sp_m μ' n) (hl : Cond.methodLink μ.1.cls i μ'.1 ∈ sp_tb) (hst : Cond.instanceMethod μ'.1 ∈ sp_tb) (hsel : Cond.selects μ'.1.cls μ'.1 μ'.1 ∈ sp_tb) (hfr : μ'.2.2.2.2.1 + 1 ≤ μ.2.2.2.2.1) (hlc : 8 + (μ'.2.2.1 + 11) + μ'.2.2.2.2.2 ≤ μ.2.2.2.2.2) (hn : av.length = n) (hcat : (st.map fun v => v.category).sum ≤ 8) (hx : ∀ r M', Qc r M' → sp_n M ≤ sp_n M' → sp_n M' ≤ sp_n M + mc1 → sp_n M' = sp_n M + mc1)
    (hc : vwCl[c]? = some r) (hrn : r.1 = μ'.1.cls) (ho : sp_is M o c) (call : sp_Mt g Ω μ' mc1 ms1 (.ref o :: av) M Qc)
    (k : ∀ r M', Qc r M' → sp_Wp g Ω μ mc ms (pc + 3) lo (r.toList ++ st) M' Q) (st0 : List Value) (hs : av.reverse ++ .ref o :: st = st0) : sp_Wp g Ω μ (mc1 + mc) (ms1 + ms) pc lo st0 M Q :=
  sp_callV0 av d hm hl hst hsel hfr hlc hn hcat hx (fun s H locs => sp_recv hc hrn ho s H locs) call k st0 hs
theorem sp_objInit {i o : Nat} (d : decode μ.2.1 pc = .ok (.invokespecial i, 3)) (hl : Cond.methodLink μ.1.cls i Lib.objectInit ∈ sp_tb) (hi : Cond.instanceMethod Lib.objectInit ∈ sp_tb) (hc : Cond.code Lib.objectInit ⟨#[0xb1]⟩ 1 none ∈ sp_tb) (hfr : 1 ≤ μ.2.2.2.2.1) (hlc : (st.map fun v => v.category).sum + 12 ≤ μ.2.2.2.2.2) (k : sp_Wp g Ω μ mc ms (pc + 3) lo st M Q) : sp_Wp g Ω μ mc ms pc lo (.ref o :: st) M Q := by
  intro ho p e R s m args below meth c H locs cells slots ls C hH hS hl0 h0 h1 h2
  exact W.objInit C.1 C.2.1 C.2.2.2.2.2.1 (C.2.2.2.2.2.2.1 _ hl) (C.2.2.2.2.2.2.1 _ hi) (C.2.2.2.2.2.2.1 _ hc) rfl (hl0.1.trans C.2.2.1.symm) rfl d (Nat.le_trans hfr C.2.2.2.2.2.2.2.2.1) (by show 2 * 0 + _ + 12 ≤ _; rw [sp_cats]; have := C.2.2.2.2.2.2.2.2.2.1; omega) (k ho p e R s m args below meth c H locs cells slots ls C hH hS hl0 h0 h1 h2)
end SpCall
