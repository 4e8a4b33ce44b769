/-! ===== entry, heap rows, calls ===== -/
theorem sp_ent_args (g : sp_G) : ∀ (av : List Value) (i k : Nat) (v : Value), (sp_ent av)[k]? = some (some v) → (i + k, sp_rv g v) ∈ lv_args i (av.map (sp_rv g))
  | [], i, k, v, h => by simp [sp_ent] at h
  | u :: l, i, k, v, h => by
    rw [List.map_cons, lv_args]
    rw [sp_ent] at h
    rw [sp_rv_cat]
    by_cases hc : u.category = 2
    · rw [if_pos hc] at h ⊢
      match k, h with
      | 0, h => simp at h; subst h; exact List.mem_cons_self
      | 1, h => simp at h
      | k + 2, h =>
        have := sp_ent_args g l (i + 2) k v (by simpa using h)
        rw [show i + (k + 2) = i + 2 + k by omega]
        exact List.mem_cons_of_mem _ this
    · rw [if_neg hc] at h ⊢
      match k, h with
      | 0, h => simp at h; subst h; exact List.mem_cons_self
      | k + 1, h =>
        have := sp_ent_args g l (i + 1) k v (by simpa using h)
        rw [show i + (k + 1) = i + 1 + k by omega]
        exact List.mem_cons_of_mem _ this
theorem sp_ent_pad (g : sp_G) (av : List Value) {nL : Nat} (h : (lg_sl (av.map (sp_rv g))).length ≤ nL) {lo : List (Option Value)} (hlo : ∀ (k : Nat) (v : Value), lo[k]? = some (some v) → (sp_ent av)[k]? = some (some v)) :
    sp_LR g ((lg_sl (av.map (sp_rv g)) ++ List.replicate (nL - (lg_sl (av.map (sp_rv g))).length) Slot.unset).toArray) nL lo := by
  have hl := lv_entry (av.map (sp_rv g)) h
  refine ⟨hl.1, hl.2.1, fun k v hk => ?_⟩
  have := hl.2.2 _ (sp_ent_args g av 0 k v (hlo k v hk))
  simpa using this
theorem sp_lg_len (g : sp_G) (av : List Value) : (lg_sl (av.map (sp_rv g))).length = (sp_ent av).length := by
  induction av with
  | nil => rfl
  | cons v l ih =>
    simp only [lg_sl, List.map_cons, List.flatMap_cons, List.length_append, sp_ent, sp_rv_cat] at ih ⊢
    rw [ih]
    split <;> simp <;> omega
theorem sp_pad_get (l : List (Option Value)) (n k : Nat) (v : Value) (h : (l ++ List.replicate n none)[k]? = some (some v)) : l[k]? = some (some v) := by
  by_cases hk : k < l.length
  · rwa [List.getElem?_append_left hk] at h
  · rw [List.getElem?_append_right (by omega)] at h
    have := List.mem_of_getElem? h
    rw [List.mem_replicate] at this
    exact absurd this.2 (by simp)
/-- a contract out of a walk of the body -/
theorem sp_Mt.of {g : sp_G} {Ω : sp_Mem → Prop} {μ : sp_MD} {mc ms : Nat} {av : List Value} {M : sp_Mem} {Q : sp_Qt} (lo : List (Option Value)) (hy : plainName μ.1.cls = true) (hlen : (sp_ent av).length ≤ μ.2.2.1) (hlo : sp_ent av ++ List.replicate (μ.2.2.1 - (sp_ent av).length) none = lo) (k : sp_Wp g Ω μ mc ms 0 lo [] M Q) : sp_Mt g Ω μ mc ms av M Q := by
  intro ho
  refine Met.ofW (cc := μ.2.1) (maxL := μ.2.2.1) (ret := μ.2.2.2.1) hy rfl ?_
  intro p e s m args below meth c s₁ B hml hv
  obtain ⟨rfl, hH, hK, hX⟩ := hv
  have hts := atoms_spec (ws := .code μ.1 μ.2.1 μ.2.2.1 μ.2.2.2.1 :: sp_tb) B.pre
  have hown : s.vm.findClass μ.1.cls = some m.cls := findClass_of_methodNamed B.named
  have hname : meth.name = μ.1.name := (name_of_methodNamed B.named B.method).1
  rw [lg_entry_eq]
  have hz : sp_z g ≤ s.heap.size := by rw [hH.1]; exact Nat.le_add_right _ _
  have hw := k ho p e ({ frames := μ.2.2.2.2.1, cells := mc, slots := ms, locals := μ.2.2.2.2.2 }) s m _ below meth c s.heap [] 0 0 _ ⟨B.exec, B.bytes, hml, B.returns, B.notSynchronized, hown, fun w hw => hts w (List.mem_cons_of_mem _ hw), hK, Nat.le_refl _, Nat.le_refl _, hname, hX, hz⟩ hH va_S.rf (sp_ent_pad g av (by rw [sp_lg_len]; exact hlen) (fun k v h => by rw [← hlo] at h; exact sp_pad_get _ _ k v h)) (by rw [hH.1]; rfl) (by show 0 + mc ≤ mc; omega) (by show 0 + ms ≤ ms; omega)
  rw [Nat.zero_add, Nat.zero_add] at hw
  exact hw
/-- the number of cells, known again behind a store -/
theorem sp_size {g : sp_G} {M : sp_Mem} {p : Program} {l : Launch} {e : Env} {R : Room} {s T : State} {m : MethodId} {args : Array Value} {below : List Frame} {meth : Method} {c : Code} {H : Heap} {locs : List Loc} {cells slots : Nat} (hn : sp_n M ≤ 1000000) (hP : va_P (sp_D g) vwCl (sp_wl g M) H) (hz : sp_z g ≤ H.size) (h0 : s.heap.size + cells = sp_z g + sp_n M) (hT : T.heap = H) (X : Stand p l e R s m args below meth c T locs cells slots) : sp_HR g M H := by
  refine ⟨?_, hn, hP⟩
  have h1 := X.heapSize
  rw [hT, h0] at h1
  cases hk : sp_n M with
  | zero => rw [hk] at h1; omega
  | succ k =>
    have hlt := (hP k _ (sp_wl_at (by omega))).lt
    rw [hk] at h1
    simp at hlt
    omega
section SpHeap
variable {g : sp_G} {Ω : sp_Mem → Prop} {μ : sp_MD} {mc ms pc : Nat} {lo : List (Option Value)} {st : List Value} {M : sp_Mem} {Q : sp_Qt}
/-- what holds of the memory may be used -/
theorem sp_use (k : Ω M → sp_Wp g Ω μ mc ms pc lo st M Q) : sp_Wp g Ω μ mc ms pc lo st M Q := fun ho => k ho ho
def sp_okty (ty : FieldType) : Bool := match ty with
  | .int => true
  | .boolean => true
  | .long => true
  | .object _ => true
  | .array _ => true
  | _ => false
/-- a class among those of the worlds: its words -/
def sp_cl (c : Nat) (r : vw_C) : Prop := vwCl[c]? = some r ∧ r.2.2 = sp_nf c ∧ (∀ w ∈ u_ws r.1 r.2.1 r.2.2, w ∈ sp_tb) ∧ (∀ k, k < r.2.2 → parseFieldDescriptor (r.2.1 k).2.2.1 = some (sp_ty c k)) ∧ (∀ a, a < r.2.2 → ∀ b, b < r.2.2 → a ≠ b → (r.2.1 a).2.1 ≠ (r.2.1 b).2.1) ∧ (∀ k, k < r.2.2 → (r.2.1 k).1 = r.1) ∧ ∀ k, k < r.2.2 → sp_okty (sp_ty c k) = true
/-- an object of a class -/
def sp_is (M : sp_Mem) (o c : Nat) : Prop := o < sp_n M ∧ sp_T M o = c + 5
theorem sp_cell_o {o c : Nat} (h : sp_is M o c) : sp_cell g M o = .inr (c, sp_fs g M o c) := by
  simp only [sp_cell, h.2]
theorem sp_fs_at {o c j : Nat} (h : j < sp_nf c) : (sp_fs g M o c)[j]? = some (sp_rv g (sp_fv M o (sp_ty c j) j)) := by
  simp [sp_fs, h]
theorem sp_get {i o c j : Nat} (r : vw_C) (d : decode μ.2.1 pc = .ok (.getfield i, 3)) (hc : sp_cl c r) (hj : j < r.2.2) (hl : Cond.fieldLink μ.1.cls i r.1 (r.2.1 j).2.1 (r.2.1 j).2.2.1 ∈ sp_tb) (ho : sp_is M o c) (k : sp_Wp g Ω μ mc ms (pc + 3) lo (sp_fv M o (sp_ty c j) j :: st) M Q) : sp_Wp g Ω μ mc ms pc lo (.ref o :: st) M Q := by
  intro hom p e R s m args below meth c0 H locs cells slots ls C hH hS hl0 h0 h1 h2
  obtain ⟨q1, q2, q3, q4, q5, q6, q7⟩ := hc
  have hj2 : j < sp_nf c := by rw [← q2]; exact hj
  have := k hom p e R s m args below meth c0 H locs cells slots ls C hH hS hl0 h0 h1 h2
  refine W.eq (g2 := F0 m pc ls (.ref (sp_z g + o) :: st.map (sp_rv g))) (by simp [sp_rv, sp_ad_lt hH ho.1]) ?_
  refine va_get (C := r.1) (T := r.2.1) (N := r.2.2) (ci := c) C.1 C.2.1 C.2.2.2.2.2.2.1 q3 C.2.2.2.2.2.1 C.2.2.2.2.2.2.2.1 hH.2.2 o (fs := sp_fs g M o c) (by rw [sp_wl_at ho.1, sp_cell_o ho]) q1 j hj (C.2.2.2.2.2.2.1 _ hl) (fun x hx => by rw [q6 j hj] at hx; exact hx) (sp_fs_at hj2) d this
/-! arrays -/
def sp_ar (M : sp_Mem) (a t : Nat) : Prop := a < sp_n M ∧ sp_T M a = t
theorem sp_cell_0 {a : Nat} (h : sp_ar M a 0) : sp_cell g M a = .inl (sp_ca g 0, sp_N M a, .inl (sp_I M a)) := by simp only [sp_cell, h.2]
theorem sp_cell_1 {a : Nat} (h : sp_ar M a 1) : sp_cell g M a = .inl (sp_ca g 1, sp_N M a, .inr (.inl (sp_L M a))) := by simp only [sp_cell, h.2]
theorem sp_cell_2 {a : Nat} (h : sp_ar M a 2) : sp_cell g M a = .inl (sp_ca g 2, sp_N M a, .inl (sp_I M a)) := by simp only [sp_cell, h.2]
theorem sp_cell_3 {a : Nat} (h : sp_ar M a 3) : sp_cell g M a = .inl (sp_ca g 3, sp_N M a, .inr (.inr (.inr (.inr (fun j => (sp_P M a j).map (sp_ad g)))))) := by simp only [sp_cell, h.2]
theorem sp_cell_4 {a : Nat} (h : sp_ar M a 4) : sp_cell g M a = .inl (sp_ca g 4, sp_N M a, .inr (.inr (.inr (.inr (fun j => (sp_P M a j).map (sp_ad g)))))) := by simp only [sp_cell, h.2]
theorem sp_iald {a : Nat} {i : Int32} (d : decode μ.2.1 pc = .ok (.iaload, 1)) (ha : sp_ar M a 0) (hi : vp_in i (sp_N M a)) (k : sp_Wp g Ω μ mc ms (pc + 1) lo (.int (sp_I M a i.toNatClampNeg) :: st) M Q) : sp_Wp g Ω μ mc ms pc lo (.int i :: .ref a :: st) M Q := by
  intro hom p e R s m args below meth c0 H locs cells slots ls C hH hS hl0 h0 h1 h2
  have := k hom p e R s m args below meth c0 H locs cells slots ls C hH hS hl0 h0 h1 h2
  refine W.eq (g2 := F0 m pc ls (.int i :: .ref (sp_z g + a) :: st.map (sp_rv g))) (by simp [sp_rv, sp_ad_lt hH ha.1]) ?_
  exact va_iald C.1 C.2.1 C.2.2.2.2.2.2.2.1 hH.2.2 a 0 (by rw [sp_wl_at ha.1, sp_cell_0 ha]) rfl hi d this
theorem sp_zald {a : Nat} {i : Int32} (d : decode μ.2.1 pc = .ok (.baload, 1)) (ha : sp_ar M a 2) (hi : vp_in i (sp_N M a)) (k : sp_Wp g Ω μ mc ms (pc + 1) lo (.int (sp_I M a i.toNatClampNeg) :: st) M Q) : sp_Wp g Ω μ mc ms pc lo (.int i :: .ref a :: st) M Q := by
  intro hom p e R s m args below meth c0 H locs cells slots ls C hH hS hl0 h0 h1 h2
  have := k hom p e R s m args below meth c0 H locs cells slots ls C hH hS hl0 h0 h1 h2
  refine W.eq (g2 := F0 m pc ls (.int i :: .ref (sp_z g + a) :: st.map (sp_rv g))) (by simp [sp_rv, sp_ad_lt hH ha.1]) ?_
  exact va_zald C.1 C.2.1 C.2.2.2.2.2.2.2.1 hH.2.2 a 2 (by rw [sp_wl_at ha.1, sp_cell_2 ha]) rfl hi d this
theorem sp_lald {a : Nat} {i : Int32} (d : decode μ.2.1 pc = .ok (.laload, 1)) (ha : sp_ar M a 1) (hi : vp_in i (sp_N M a)) (k : sp_Wp g Ω μ mc ms (pc + 1) lo (.long (sp_L M a i.toNatClampNeg) :: st) M Q) : sp_Wp g Ω μ mc ms pc lo (.int i :: .ref a :: st) M Q := by
  intro hom p e R s m args below meth c0 H locs cells slots ls C hH hS hl0 h0 h1 h2
  have := k hom p e R s m args below meth c0 H locs cells slots ls C hH hS hl0 h0 h1 h2
  refine W.eq (g2 := F0 m pc ls (.int i :: .ref (sp_z g + a) :: st.map (sp_rv g))) (by simp [sp_rv, sp_ad_lt hH ha.1]) ?_
  exact va_lald C.1 C.2.1 C.2.2.2.2.2.2.2.1 hH.2.2 a 1 (by rw [sp_wl_at ha.1, sp_cell_1 ha]) rfl hi d this
theorem sp_aald {a : Nat} {i : Int32} (t : Nat) (ht : t = 3 ∨ t = 4) (d : decode μ.2.1 pc = .ok (.aaload, 1)) (ha : sp_ar M a t) (hi : vp_in i (sp_N M a)) (k : sp_Wp g Ω μ mc ms (pc + 1) lo (va_rf (sp_P M a i.toNatClampNeg) :: st) M Q) : sp_Wp g Ω μ mc ms pc lo (.int i :: .ref a :: st) M Q := by
  intro hom p e R s m args below meth c0 H locs cells slots ls C hH hS hl0 h0 h1 h2
  have := k hom p e R s m args below meth c0 H locs cells slots ls C hH hS hl0 h0 h1 h2
  refine W.eq (g2 := F0 m pc ls (.int i :: .ref (sp_z g + a) :: st.map (sp_rv g))) (by simp [sp_rv, sp_ad_lt hH ha.1]) ?_
  rw [List.map_cons, sp_rv_rf] at this
  rcases ht with rfl | rfl
  · exact va_aldq C.1 C.2.1 C.2.2.2.2.2.2.2.1 hH.2.2 a 3 (by rw [sp_wl_at ha.1, sp_cell_3 ha]) rfl hi d this
  · exact va_aldq C.1 C.2.1 C.2.2.2.2.2.2.2.1 hH.2.2 a 4 (by rw [sp_wl_at ha.1, sp_cell_4 ha]) rfl hi d this
theorem sp_alen {a : Nat} (t : Nat) (ht : t < 5) {v : Int32} (d : decode μ.2.1 pc = .ok (.arraylength, 1)) (ha : sp_ar M a t) (hv : Int32.ofNat (sp_N M a) = v) (k : sp_Wp g Ω μ mc ms (pc + 1) lo (.int v :: st) M Q) : sp_Wp g Ω μ mc ms pc lo (.ref a :: st) M Q := by
  intro hom p e R s m args below meth c0 H locs cells slots ls C hH hS hl0 h0 h1 h2
  have := k hom p e R s m args below meth c0 H locs cells slots ls C hH hS hl0 h0 h1 h2
  refine W.eq (g2 := F0 m pc ls (.ref (sp_z g + a) :: st.map (sp_rv g))) (by simp [sp_rv, sp_ad_lt hH ha.1]) ?_
  rcases (show t = 0 ∨ t = 1 ∨ t = 2 ∨ t = 3 ∨ t = 4 by omega) with rfl | rfl | rfl | rfl | rfl
  · exact va_alen C.1 C.2.1 C.2.2.2.2.2.2.2.1 hH.2.2 a 0 (by rw [sp_wl_at ha.1, sp_cell_0 ha]) rfl hv d this
  · exact va_alen C.1 C.2.1 C.2.2.2.2.2.2.2.1 hH.2.2 a 1 (by rw [sp_wl_at ha.1, sp_cell_1 ha]) rfl hv d this
  · exact va_alen C.1 C.2.1 C.2.2.2.2.2.2.2.1 hH.2.2 a 2 (by rw [sp_wl_at ha.1, sp_cell_2 ha]) rfl hv d this
  · exact va_alen C.1 C.2.1 C.2.2.2.2.2.2.2.1 hH.2.2 a 3 (by rw [sp_wl_at ha.1, sp_cell_3 ha]) rfl hv d this
  · exact va_alen C.1 C.2.1 C.2.2.2.2.2.2.2.1 hH.2.2 a 4 (by rw [sp_wl_at ha.1, sp_cell_4 ha]) rfl hv d this
theorem sp_upd_I (M : sp_Mem) (a j : Nat) (x : Int32) : sp_I (sp_setI M a j x) a = upd (sp_I M a) j x := by
  funext q
  simp [sp_I_setI, upd]
theorem sp_upd_L (M : sp_Mem) (a j : Nat) (x : Int64) : sp_L (sp_setL M a j x) a = vp_updL (sp_L M a) j x := by
  funext q
  simp [sp_L_setL, vp_updL]
theorem sp_fs_other {M' : sp_Mem} {q : Nat} (hI : sp_I M' q = sp_I M q) (hL : sp_L M' q = sp_L M q) (hP : sp_P M' q = sp_P M q) (hN : sp_N M' q = sp_N M q) (hT : sp_T M' q = sp_T M q) : sp_cell g M' q = sp_cell g M q := by
  have hf : ∀ ty j, sp_fv M' q ty j = sp_fv M q ty j := fun ty j => by
    unfold sp_fv
    cases ty <;> simp [hI, hL, hP]
  have hs : ∀ c, sp_fs g M' q c = sp_fs g M q c := fun c => by
    unfold sp_fs
    simp only [hf]
  unfold sp_cell
  rw [hT, hI, hL, hP, hN]
  split <;> first | rfl | rw [hs]
theorem sp_cell_setI {M : sp_Mem} {o j : Nat} {x : Int32} {q : Nat} (h : q ≠ o) : sp_cell g (sp_setI M o j x) q = sp_cell g M q :=
  sp_fs_other (by funext k; simp [sp_I_setI, h]) rfl rfl rfl rfl
theorem sp_cell_setL {M : sp_Mem} {o j : Nat} {x : Int64} {q : Nat} (h : q ≠ o) : sp_cell g (sp_setL M o j x) q = sp_cell g M q :=
  sp_fs_other rfl (by funext k; simp [sp_L_setL, h]) rfl rfl rfl
theorem sp_cell_setP {M : sp_Mem} {o j : Nat} {x : Option Nat} {q : Nat} (h : q ≠ o) : sp_cell g (sp_setP M o j x) q = sp_cell g M q :=
  sp_fs_other rfl rfl (by funext k; simp [sp_P_setP, h]) rfl rfl
theorem sp_iast {a : Nat} {i x : Int32} (d : decode μ.2.1 pc = .ok (.iastore, 1)) (ha : sp_ar M a 0) (hi : vp_in i (sp_N M a)) (hΩ : Ω M → Ω (sp_setI M a i.toNatClampNeg x)) (k : sp_Wp g Ω μ mc ms (pc + 1) lo st (sp_setI M a i.toNatClampNeg x) Q) : sp_Wp g Ω μ mc ms pc lo (.int x :: .int i :: .ref a :: st) M Q := by
  intro hom p e R s m args below meth c0 H locs cells slots ls C hH hS hl0 h0 h1 h2
  refine W.eq (g2 := F0 m pc ls (.int x :: .int i :: .ref (sp_z g + a) :: st.map (sp_rv g))) (by simp [sp_rv, sp_ad_lt hH ha.1]) ?_
  refine va_iast C.1 C.2.1 C.2.2.2.2.2.2.2.1 hH.2.2 (sp_wl_D g M) hS a 0 (by rw [sp_wl_at ha.1, sp_cell_0 ha]) rfl hi d (fun H1 locs1 hP hD hS1 => ?_)
  rw [sp_wl_set (g := g) (M := M) (M' := sp_setI M a i.toNatClampNeg x) rfl ha.1 (by rw [sp_cell_0 (M := sp_setI M a i.toNatClampNeg x) ha, sp_upd_I]; rfl) (fun q hq => sp_cell_setI hq)] at hP
  intro T hT X
  exact k (hΩ hom) p e R s m args below meth c0 H1 locs1 cells slots ls C (sp_size hH.2.1 hP (Nat.le_trans C.2.2.2.2.2.2.2.2.2.2.2.2 hS1.1) h0 hT X) hS1 hl0 h0 h1 h2 T hT X
theorem sp_zast {a : Nat} {i x : Int32} (d : decode μ.2.1 pc = .ok (.bastore, 1)) (ha : sp_ar M a 2) (hi : vp_in i (sp_N M a)) (hΩ : Ω M → Ω (sp_setI M a i.toNatClampNeg (vp_nar .boolean x))) (k : sp_Wp g Ω μ mc ms (pc + 1) lo st (sp_setI M a i.toNatClampNeg (vp_nar .boolean x)) Q) : sp_Wp g Ω μ mc ms pc lo (.int x :: .int i :: .ref a :: st) M Q := by
  intro hom p e R s m args below meth c0 H locs cells slots ls C hH hS hl0 h0 h1 h2
  refine W.eq (g2 := F0 m pc ls (.int x :: .int i :: .ref (sp_z g + a) :: st.map (sp_rv g))) (by simp [sp_rv, sp_ad_lt hH ha.1]) ?_
  refine va_zast C.1 C.2.1 C.2.2.2.2.2.2.2.1 hH.2.2 (sp_wl_D g M) hS a 2 (by rw [sp_wl_at ha.1, sp_cell_2 ha]) rfl hi d (fun H1 locs1 hP hD hS1 => ?_)
  rw [sp_wl_set (g := g) (M := M) (M' := sp_setI M a i.toNatClampNeg (vp_nar .boolean x)) rfl ha.1 (by rw [sp_cell_2 (M := sp_setI M a i.toNatClampNeg (vp_nar .boolean x)) ha, sp_upd_I]; rfl) (fun q hq => sp_cell_setI hq)] at hP
  intro T hT X
  exact k (hΩ hom) p e R s m args below meth c0 H1 locs1 cells slots ls C (sp_size hH.2.1 hP (Nat.le_trans C.2.2.2.2.2.2.2.2.2.2.2.2 hS1.1) h0 hT X) hS1 hl0 h0 h1 h2 T hT X
theorem sp_last {a : Nat} {i : Int32} {x : Int64} (d : decode μ.2.1 pc = .ok (.lastore, 1)) (ha : sp_ar M a 1) (hi : vp_in i (sp_N M a)) (hΩ : Ω M → Ω (sp_setL M a i.toNatClampNeg x)) (k : sp_Wp g Ω μ mc ms (pc + 1) lo st (sp_setL M a i.toNatClampNeg x) Q) : sp_Wp g Ω μ mc ms pc lo (.long x :: .int i :: .ref a :: st) M Q := by
  intro hom p e R s m args below meth c0 H locs cells slots ls C hH hS hl0 h0 h1 h2
  refine W.eq (g2 := F0 m pc ls (.long x :: .int i :: .ref (sp_z g + a) :: st.map (sp_rv g))) (by simp [sp_rv, sp_ad_lt hH ha.1]) ?_
  refine va_last C.1 C.2.1 C.2.2.2.2.2.2.2.1 hH.2.2 (sp_wl_D g M) hS a 1 (by rw [sp_wl_at ha.1, sp_cell_1 ha]) rfl hi d (fun H1 locs1 hP hD hS1 => ?_)
  rw [sp_wl_set (g := g) (M := M) (M' := sp_setL M a i.toNatClampNeg x) rfl ha.1 (by rw [sp_cell_1 (M := sp_setL M a i.toNatClampNeg x) ha, sp_upd_L]; rfl) (fun q hq => sp_cell_setL hq)] at hP
  intro T hT X
  exact k (hΩ hom) p e R s m args below meth c0 H1 locs1 cells slots ls C (sp_size hH.2.1 hP (Nat.le_trans C.2.2.2.2.2.2.2.2.2.2.2.2 hS1.1) h0 hT X) hS1 hl0 h0 h1 h2 T hT X
theorem sp_up_P (M : sp_Mem) (g : sp_G) (a j : Nat) (x : Option Nat) : (fun q => (sp_P (sp_setP M a j x) a q).map (sp_ad g)) = va_up (fun q => (sp_P M a q).map (sp_ad g)) j (x.map (sp_ad g)) := by
  funext q
  simp only [sp_P_setP, va_up]
  by_cases h : q = j <;> simp [h]
/-- a reference put into an array: of rooms (3) or of texts (4) -/
theorem sp_aast {a : Nat} {i : Int32} {x : Option Nat} (t ci : Nat) (r : vw_C) (ht : (t = 3 ∧ r.1 = "NamedSparks$Room") ∨ (t = 4 ∧ r.1 = "NamedSparks$Text")) (hcl : vwCl[ci]? = some r) (d : decode μ.2.1 pc = .ok (.aastore, 1)) (ha : sp_ar M a t) (hi : vp_in i (sp_N M a)) (hx : ∀ v, x = some v → sp_is M v ci) (hΩ : Ω M → Ω (sp_setP M a i.toNatClampNeg x)) (k : sp_Wp g Ω μ mc ms (pc + 1) lo st (sp_setP M a i.toNatClampNeg x) Q) : sp_Wp g Ω μ mc ms pc lo (va_rf x :: .int i :: .ref a :: st) M Q := by
  intro hom p e R s m args below meth c0 H locs cells slots ls C hH hS hl0 h0 h1 h2
  have fin : ∀ (H1 : Heap) (locs1 : List Loc), va_P (sp_D g) vwCl (sp_wl g (sp_setP M a i.toNatClampNeg x)) H1 → va_S (sp_A g) s.heap H1 locs1 → W p (sp_l g) e R s m args below meth c0 H1 locs1 cells slots (MQ below (sp_QC g Ω Q) args s (cells + mc) (slots + ms) (sp_A g)) (F0 m (pc + 1) ls (st.map (sp_rv g))) := by
    intro H1 locs1 hP hS1 T hT X
    exact k (hΩ hom) p e R s m args below meth c0 H1 locs1 cells slots ls C (sp_size hH.2.1 hP (Nat.le_trans C.2.2.2.2.2.2.2.2.2.2.2.2 hS1.1) h0 hT X) hS1 hl0 h0 h1 h2 T hT X
  have hset : ∀ e', sp_cell g (sp_setP M a i.toNatClampNeg x) a = e' → (sp_wl g M).set a (sp_z g + a, e') = sp_wl g (sp_setP M a i.toNatClampNeg x) := fun e' he => sp_wl_set (g := g) (M := M) rfl ha.1 he (fun q hq => sp_cell_setP hq)
  cases x with
  | none =>
    refine W.eq (g2 := F0 m pc ls (.null :: .int i :: .ref (sp_z g + a) :: st.map (sp_rv g))) (by simp [sp_rv, sp_ad_lt hH ha.1, va_rf]) ?_
    rcases ht with ⟨rfl, hr⟩ | ⟨rfl, hr⟩
    · refine va_astqN C.1 C.2.1 C.2.2.2.2.2.2.2.1 hH.2.2 (sp_wl_D g M) hS a 3 (by rw [sp_wl_at ha.1, sp_cell_3 ha]) rfl hi d (fun H1 locs1 hP hD hS1 => ?_)
      rw [hset _ (by rw [sp_cell_3 (M := sp_setP M a i.toNatClampNeg none) ha, sp_up_P]; rfl)] at hP
      exact fin H1 locs1 hP hS1
    · refine va_astqN C.1 C.2.1 C.2.2.2.2.2.2.2.1 hH.2.2 (sp_wl_D g M) hS a 4 (by rw [sp_wl_at ha.1, sp_cell_4 ha]) rfl hi d (fun H1 locs1 hP hD hS1 => ?_)
      rw [hset _ (by rw [sp_cell_4 (M := sp_setP M a i.toNatClampNeg none) ha, sp_up_P]; rfl)] at hP
      exact fin H1 locs1 hP hS1
  | some v =>
    have hv := hx v rfl
    refine W.eq (g2 := F0 m pc ls (.ref (sp_z g + v) :: .int i :: .ref (sp_z g + a) :: st.map (sp_rv g))) (by simp [sp_rv, sp_ad_lt hH ha.1, sp_ad_lt hH hv.1, va_rf]) ?_
    have hm : (some v).map (sp_ad g) = some (sp_z g + v) := by rw [Option.map_some, sp_ad_lt hH hv.1]
    rcases ht with ⟨rfl, hr⟩ | ⟨rfl, hr⟩
    · refine va_astq (r := r) C.1 C.2.1 C.2.2.2.2.2.2.2.1 hH.2.2 (sp_wl_D g M) hS a 3 v ci (by rw [sp_wl_at ha.1, sp_cell_3 ha]) (by rw [hr]; rfl) (by rw [sp_wl_at hv.1, sp_cell_o hv]) hcl hi d (fun H1 locs1 hP hD hS1 => ?_)
      rw [hset _ (by rw [sp_cell_3 (M := sp_setP M a i.toNatClampNeg (some v)) ha, sp_up_P, hm]; rfl)] at hP
      exact fin H1 locs1 hP hS1
    · refine va_astq (r := r) C.1 C.2.1 C.2.2.2.2.2.2.2.1 hH.2.2 (sp_wl_D g M) hS a 4 v ci (by rw [sp_wl_at ha.1, sp_cell_4 ha]) (by rw [hr]; rfl) (by rw [sp_wl_at hv.1, sp_cell_o hv]) hcl hi d (fun H1 locs1 hP hD hS1 => ?_)
      rw [hset _ (by rw [sp_cell_4 (M := sp_setP M a i.toNatClampNeg (some v)) ha, sp_up_P, hm]; rfl)] at hP
      exact fin H1 locs1 hP hS1
/-! fields put -/
theorem sp_fs_set {M' : sp_Mem} {o c j : Nat} {v : Value} (hj : j < sp_nf c) (h1 : sp_fv M' o (sp_ty c j) j = v) (h2 : ∀ k, k ≠ j → sp_fv M' o (sp_ty c k) k = sp_fv M o (sp_ty c k) k) : (sp_fs g M o c).set j (sp_rv g v) = sp_fs g M' o c := by
  apply List.ext_getElem?
  intro k
  rw [List.getElem?_set]
  by_cases hk : j = k
  · subst hk
    rw [if_pos rfl, if_pos (by simp [sp_fs, hj]), sp_fs_at hj, h1]
  · rw [if_neg hk]
    by_cases hl : k < sp_nf c
    · rw [sp_fs_at hl, sp_fs_at hl, h2 k (fun q => hk q.symm)]
    · rw [List.getElem?_eq_none (by simp [sp_fs]; omega), List.getElem?_eq_none (by simp [sp_fs]; omega)]
theorem sp_put {i o c j : Nat} {v : Value} (r : vw_C) (M' : sp_Mem) (d : decode μ.2.1 pc = .ok (.putfield i, 3)) (hc : sp_cl c r) (hj : j < r.2.2) (hl : Cond.fieldLink μ.1.cls i r.1 (r.2.1 j).2.1 (r.2.1 j).2.2.1 ∈ sp_tb) (hfin : (r.2.1 j).2.2.2 = false ∨ ((r.2.1 j).2.2.2 = true ∧ μ.1.name = "<init>" ∧ r.1 = μ.1.cls)) (ho : sp_is M o c)
    (hn : narrow (sp_ty c j) (sp_rv g v) = sp_rv g v) (hfit : fits (sp_ty c j) (sp_rv g v) = true) (hn' : sp_n M' = sp_n M) (hT : sp_is M' o c) (h1 : sp_fv M' o (sp_ty c j) j = v) (h2 : ∀ k, k ≠ j → sp_fv M' o (sp_ty c k) k = sp_fv M o (sp_ty c k) k) (h3 : ∀ q, q ≠ o → sp_cell g M' q = sp_cell g M q)
    (hΩ : Ω M → Ω M') (k : sp_Wp g Ω μ mc ms (pc + 3) lo st M' Q) : sp_Wp g Ω μ mc ms pc lo (v :: .ref o :: st) M Q := by
  intro hom p e R s m args below meth c0 H locs cells slots ls C hH hS hl0 g0 g1 g2
  obtain ⟨q1, q2, q3, q4, q5, q6, q7⟩ := hc
  have hj2 : j < sp_nf c := by rw [← q2]; exact hj
  refine W.eq (g2 := F0 m pc ls (sp_rv g v :: .ref (sp_z g + o) :: st.map (sp_rv g))) (by rw [List.map_cons, List.map_cons]; simp [sp_rv, sp_ad_lt hH ho.1]) ?_
  have fin : ∀ (H1 : Heap) (locs1 : List Loc), va_P (sp_D g) vwCl ((sp_wl g M).set o (sp_z g + o, .inr (c, (sp_fs g M o c).set j (sp_rv g v)))) H1 → va_D (sp_A g) ((sp_wl g M).set o (sp_z g + o, .inr (c, (sp_fs g M o c).set j (sp_rv g v)))) → va_S (sp_A g) s.heap H1 locs1 → W p (sp_l g) e R s m args below meth c0 H1 locs1 cells slots (MQ below (sp_QC g Ω Q) args s (cells + mc) (slots + ms) (sp_A g)) (F0 m (pc + 3) ls (st.map (sp_rv g))) := by
    intro H1 locs1 hP hD hS1 T hT2 X
    rw [sp_fs_set hj2 h1 h2, sp_wl_set (g := g) (M := M) (M' := M') hn' ho.1 (sp_cell_o hT) h3] at hP
    exact k (hΩ hom) p e R s m args below meth c0 H1 locs1 cells slots ls C (sp_size (by rw [hn']; exact hH.2.1) hP (Nat.le_trans C.2.2.2.2.2.2.2.2.2.2.2.2 hS1.1) (by rw [hn']; exact g0) hT2 X) hS1 hl0 (by rw [hn']; exact g0) g1 g2 T hT2 X
  have hlen : j < (sp_fs g M o c).length := by simp [sp_fs, hj2]
  rcases hfin with hf | ⟨hf, hini, hdc⟩
  · exact va_put (C := r.1) (T := r.2.1) (N := r.2.2) (ci := c) C.1 C.2.1 C.2.2.2.2.2.2.1 q3 (sp_ty c) q4 q5 C.2.2.2.2.2.1 C.2.2.2.2.2.2.2.1 hH.2.2 (sp_wl_D g M) hS o (by rw [sp_wl_at ho.1, sp_cell_o ho]) q1 j hj (C.2.2.2.2.2.2.1 _ hl) (fun x hx => by rw [q6 j hj] at hx; exact hx) hf (q4 j hj) hn hfit hlen d fin
  · exact va_putF (C := r.1) (T := r.2.1) (N := r.2.2) (ci := c) C.1 C.2.1 C.2.2.2.2.2.2.1 q3 (sp_ty c) q4 q5 C.2.2.2.2.2.1 C.2.2.2.2.2.2.2.1 hH.2.2 (sp_wl_D g M) hS o (by rw [sp_wl_at ho.1, sp_cell_o ho]) q1 j hj (C.2.2.2.2.2.2.1 _ hl) (fun x hx => by rw [q6 j hj] at hx; exact hx) hf (C.2.2.2.2.2.2.2.2.2.2.1.trans hini) ((q6 j hj).trans hdc) (q4 j hj) hn hfit hlen d fin
end SpHeap
