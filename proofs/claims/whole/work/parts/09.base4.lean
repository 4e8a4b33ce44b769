section SpPut
variable {g : sp_G} {Ω : sp_Mem → Prop} {μ : sp_MD} {mc ms pc : Nat} {lo : List (Option Value)} {st : List Value} {M : sp_Mem} {Q : sp_Qt}
/-- an int put into a field of type int; a boolean's, where it is 0 or 1 -/
theorem sp_putI {i o c j : Nat} {x : Int32} (r : vw_C) (d : decode μ.2.1 pc = .ok (.putfield i, 3)) (hc : sp_cl c r) (hj : j < r.2.2) (hl : Cond.fieldLink μ.1.cls i r.1 (r.2.1 j).2.1 (r.2.1 j).2.2.1 ∈ sp_tb) (hfin : (r.2.1 j).2.2.2 = false ∨ ((r.2.1 j).2.2.2 = true ∧ μ.1.name = "<init>" ∧ r.1 = μ.1.cls)) (hty : sp_ty c j = .int ∨ (sp_ty c j = .boolean ∧ (x = 0 ∨ x = 1))) (ho : sp_is M o c) (hΩ : Ω M → Ω (sp_setI M o j x)) (k : sp_Wp g Ω μ mc ms (pc + 3) lo st (sp_setI M o j x) Q) : sp_Wp g Ω μ mc ms pc lo (.int x :: .ref o :: st) M Q := by
  refine sp_put (M' := sp_setI M o j x) r d hc hj hl hfin ho ?_ ?_ rfl ho ?_ ?_ (fun q hq => sp_cell_setI hq) hΩ k
  · rcases hty with h | ⟨h, rfl | rfl⟩ <;> rw [h] <;> rfl
  · rcases hty with h | ⟨h, rfl | rfl⟩ <;> rw [h] <;> rfl
  · rcases hty with h | ⟨h, -⟩ <;> rw [h] <;> simp [sp_fv, sp_I_setI]
  · intro q hq
    unfold sp_fv
    cases sp_ty c q <;> simp [sp_I_setI, sp_L_setI, sp_P_setI, hq]
theorem sp_putL {i o c j : Nat} {x : Int64} (r : vw_C) (d : decode μ.2.1 pc = .ok (.putfield i, 3)) (hc : sp_cl c r) (hj : j < r.2.2) (hl : Cond.fieldLink μ.1.cls i r.1 (r.2.1 j).2.1 (r.2.1 j).2.2.1 ∈ sp_tb) (hfin : (r.2.1 j).2.2.2 = false ∨ ((r.2.1 j).2.2.2 = true ∧ μ.1.name = "<init>" ∧ r.1 = μ.1.cls)) (hty : sp_ty c j = .long) (ho : sp_is M o c) (hΩ : Ω M → Ω (sp_setL M o j x)) (k : sp_Wp g Ω μ mc ms (pc + 3) lo st (sp_setL M o j x) Q) : sp_Wp g Ω μ mc ms pc lo (.long x :: .ref o :: st) M Q := by
  refine sp_put (M' := sp_setL M o j x) r d hc hj hl hfin ho ?_ ?_ rfl ho ?_ ?_ (fun q hq => sp_cell_setL hq) hΩ k
  · rw [hty]; rfl
  · rw [hty]; rfl
  · rw [hty]; simp [sp_fv, sp_L_setL]
  · intro q hq
    unfold sp_fv
    cases sp_ty c q <;> simp [sp_I_setL, sp_L_setL, sp_P_setL, hq]
theorem sp_putP {i o c j : Nat} {x : Option Nat} (r : vw_C) (d : decode μ.2.1 pc = .ok (.putfield i, 3)) (hc : sp_cl c r) (hj : j < r.2.2) (hl : Cond.fieldLink μ.1.cls i r.1 (r.2.1 j).2.1 (r.2.1 j).2.2.1 ∈ sp_tb) (hfin : (r.2.1 j).2.2.2 = false ∨ ((r.2.1 j).2.2.2 = true ∧ μ.1.name = "<init>" ∧ r.1 = μ.1.cls)) (hty : (∃ C, sp_ty c j = .object C) ∨ ∃ t, sp_ty c j = .array t) (ho : sp_is M o c) (hΩ : Ω M → Ω (sp_setP M o j x)) (k : sp_Wp g Ω μ mc ms (pc + 3) lo st (sp_setP M o j x) Q) : sp_Wp g Ω μ mc ms pc lo (va_rf x :: .ref o :: st) M Q := by
  refine sp_put (M' := sp_setP M o j x) r d hc hj hl hfin ho ?_ ?_ rfl ho ?_ ?_ (fun q hq => sp_cell_setP hq) hΩ k
  · rw [sp_rv_rf]
    rcases hty with ⟨C, h⟩ | ⟨C, h⟩ <;> rw [h] <;> cases x <;> rfl
  · rw [sp_rv_rf]
    rcases hty with ⟨C, h⟩ | ⟨C, h⟩ <;> rw [h] <;> cases x <;> rfl
  · rcases hty with ⟨C, h⟩ | ⟨C, h⟩ <;> rw [h] <;> simp [sp_fv, sp_P_setP]
  · intro q hq
    unfold sp_fv
    cases sp_ty c q <;> simp [sp_I_setP, sp_L_setP, sp_P_setP, hq]
/-! new cells -/
theorem sp_cell_new {t len q : Nat} (h : q < sp_n M) : sp_cell g (sp_new M t len) q = sp_cell g M q :=
  sp_fs_other (by funext k; simp [sp_I_new, show ¬ q = sp_n M by omega]) (by funext k; simp [sp_L_new, show ¬ q = sp_n M by omega]) (by funext k; simp [sp_P_new, show ¬ q = sp_n M by omega]) (by simp [sp_N_new, show ¬ q = sp_n M by omega]) (by simp [sp_T_new, show ¬ q = sp_n M by omega])
theorem sp_newq {p : Program} {l : Launch} {e : Env} {R : Room} {s T : State} {m : MethodId} {args : Array Value} {below : List Frame} {meth : Method} {c : Code} {H1 : Heap} {locs : List Loc} {cells slots q : Nat} {x : va_E} (hP : va_P (sp_D g) vwCl (sp_wl g M ++ [(q, x)]) H1) (hD : va_D (sp_A g) (sp_wl g M ++ [(q, x)])) (h0 : s.heap.size + cells = sp_z g + sp_n M) (hT : T.heap = H1) (X : Stand p l e R s m args below meth c T locs (cells + 1) slots) : q = sp_z g + sp_n M := by
  have hat : (sp_wl g M ++ [(q, x)])[sp_n M]? = some (q, x) := by
    rw [List.getElem?_append_right (by rw [sp_wl_len]; exact Nat.le_refl _), sp_wl_len]
    simp
  have h1 := X.heapSize
  rw [hT] at h1
  have h2 : q < H1.size := (hP _ _ hat).lt
  have h3 : sp_z g ≤ q := hD.2 _ _ hat
  rcases Nat.lt_or_ge q (sp_z g + sp_n M) with h | h
  · exfalso
    have hlt : q - sp_z g < sp_n M := by omega
    have h4 : (sp_wl g M ++ [(q, x)])[q - sp_z g]? = some (sp_z g + (q - sp_z g), sp_cell g M (q - sp_z g)) := by
      rw [List.getElem?_append_left (by rw [sp_wl_len]; exact hlt), sp_wl_at hlt]
    have h5 := hD.1 _ _ _ _ h4 hat (by simp; omega)
    omega
  · omega
theorem sp_newo {i c : Nat} (r : vw_C) (d : decode μ.2.1 pc = .ok (.new i, 3)) (hc : sp_cl c r) (hl : Cond.classLink μ.1.cls i r.1 ∈ sp_tb) (hi : Cond.instantiable r.1 r.2.2 ∈ sp_tb) (hin : Cond.initialized r.1 ∈ sp_tb) (hn : sp_n M < 1000000) (hΩ : Ω M → Ω (sp_new M (c + 5) 0)) (k : sp_Wp g Ω μ mc ms (pc + 3) lo (.ref (sp_n M) :: st) (sp_new M (c + 5) 0) Q) : sp_Wp g Ω μ (mc + 1) (ms + sp_nf c) pc lo st M Q := by
  intro hom p e R s m args below meth c0 H locs cells slots ls C hH hS hl0 h0 h1 h2
  obtain ⟨q1, q2, q3, q4, q5, q6, q7⟩ := hc
  have ho : sp_is (sp_new M (c + 5) 0) (sp_n M) c := ⟨by rw [sp_n_new]; omega, by rw [sp_T_new, if_pos rfl]⟩
  refine va_new (C := r.1) (T := r.2.1) (N := r.2.2) (ci := c) (fs := sp_fs g (sp_new M (c + 5) 0) (sp_n M) c) C.1 C.2.1 C.2.2.2.2.2.2.1 q3 (sp_ty c) q4 C.2.2.2.2.2.1 (C.2.2.2.2.2.2.1 _ hl) (C.2.2.2.2.2.2.1 _ hi) (C.2.2.2.2.2.2.1 _ hin) C.2.2.2.2.2.2.2.1 hH.2.2 (sp_wl_D g M) hS (fun q hq => Nat.le_trans C.2.2.2.2.2.2.2.2.2.2.2.2 hq) q1 ?_ (by omega) (by rw [q2]; omega) d ?_
  · intro j hj
    rw [q2] at hj
    have h3 := q7 j (by rw [q2]; exact hj)
    unfold vp_V
    rw [List.getD_eq_getElem?_getD, sp_fs_at hj]
    simp only [Option.getD_some]
    unfold sp_fv
    cases hty : sp_ty c j <;> rw [hty] at h3 <;> simp [sp_okty] at h3 <;> simp [sp_I_new, sp_L_new, sp_P_new, sp_rv, va_rf, defaultValue]
  · intro q H1 hP hD hS1
    intro T hT X
    have hq := sp_newq hP hD h0 hT X
    subst hq
    rw [sp_wl_push (g := g) (M := M) (M' := sp_new M (c + 5) 0) (sp_n_new M (c + 5) 0) (sp_cell_o ho) (fun q hq => sp_cell_new hq)] at hP
    have hH1 : sp_HR g (sp_new M (c + 5) 0) H1 := sp_size (by rw [sp_n_new]; omega) hP (Nat.le_trans C.2.2.2.2.2.2.2.2.2.2.2.2 hS1.1) (by rw [sp_n_new]; omega) hT X
    have hk := k (hΩ hom) p e R s m args below meth c0 H1 locs (cells + 1) (slots + sp_nf c) ls C hH1 hS1 hl0 (by rw [sp_n_new]; omega) (by omega) (by omega)
    rw [show cells + (mc + 1) = cells + 1 + mc by omega, show slots + (ms + sp_nf c) = slots + sp_nf c + ms by omega]
    rw [q2] at X
    refine W.eq (g2 := F0 m (pc + 3) ls ((.ref (sp_n M) :: st).map (sp_rv g))) ?_ hk T hT X
    simp [sp_rv, sp_ad, hn]
/-- a new array of ints (0), longs (1), booleans (2) -/
theorem sp_newa {t : Nat} {x : Int32} {N : Nat} {atype : ArrayType} (ht : (t = 0 ∧ newarray.typeOf atype = .int) ∨ (t = 1 ∧ newarray.typeOf atype = .long) ∨ (t = 2 ∧ newarray.typeOf atype = .boolean)) (d : decode μ.2.1 pc = .ok (.newarray atype, 2)) (hl : Cond.arrayClass (newarray.typeOf atype) ∈ sp_tb) (hx : ¬ x < 0) (hN : x.toNatClampNeg = N) (hb : N * 8 ≤ 536870912) (hn : sp_n M < 1000000) (hΩ : Ω M → Ω (sp_new M t N)) (k : sp_Wp g Ω μ mc ms (pc + 2) lo (.ref (sp_n M) :: st) (sp_new M t N) Q) : sp_Wp g Ω μ (mc + 1) (ms + N) pc lo (.int x :: st) M Q := by
  intro hom p e R s m args below meth c0 H locs cells slots ls C hH hS hl0 h0 h1 h2
  have hfin : ∀ (ty : FieldType) (a0 : vp_A), newarray.typeOf atype = ty → (∀ cA : ClassId, vp_cell cA a0 = arrV cA N (fun _ => defaultValue ty)) → N * componentBytes ty ≤ 536870912 → (∀ cA : ClassId, va_K (sp_D g) vwCl (sp_tys g ++ [(cA, ty)]) s → sp_cell g (sp_new M t N) (sp_n M) = .inl (cA, a0)) →
      W p (sp_l g) e R s m args below meth c0 H locs cells slots (MQ below (sp_QC g Ω Q) args s (cells + (mc + 1)) (slots + (ms + N)) (sp_A g)) (F0 m pc ls ((.int x :: st).map (sp_rv g))) := by
    intro ty a0 hty ha hbb hcell
    refine va_newa C.1 C.2.1 (C.2.2.2.2.2.2.1 _ hl) hty C.2.2.2.2.2.2.2.1 hH.2.2 (sp_wl_D g M) hS (fun q hq => Nat.le_trans C.2.2.2.2.2.2.2.2.2.2.2.2 hq) ha hx hN hbb (by omega) (by omega) d ?_
    intro q cA H1 hK hP hD hS1 T hT X
    have hq := sp_newq hP hD h0 hT X
    subst hq
    rw [sp_wl_push (g := g) (M := M) (M' := sp_new M t N) (sp_n_new M t N) (hcell cA hK) (fun q hq => sp_cell_new hq)] at hP
    have hH1 : sp_HR g (sp_new M t N) H1 := sp_size (by rw [sp_n_new]; omega) hP (Nat.le_trans C.2.2.2.2.2.2.2.2.2.2.2.2 hS1.1) (by rw [sp_n_new]; omega) hT X
    have hk := k (hΩ hom) p e R s m args below meth c0 H1 locs (cells + 1) (slots + N) ls C hH1 hS1 hl0 (by rw [sp_n_new]; omega) (by omega) (by omega)
    rw [show cells + (mc + 1) = cells + 1 + mc by omega, show slots + (ms + N) = slots + N + ms by omega]
    refine W.eq (g2 := F0 m (pc + 2) ls ((.ref (sp_n M) :: st).map (sp_rv g))) ?_ hk T hT X
    simp [sp_rv, sp_ad, hn]
  have hid : ∀ (k0 : Nat) (cA cB : ClassId) (ty : FieldType), (sp_tys g)[k0]? = some (cB, ty) → (∀ C, ty ≠ .object C) → va_K (sp_D g) vwCl (sp_tys g ++ [(cA, ty)]) s → cA = cB := by
    intro k0 cA cB ty hk0 hno hK
    have e1 := (C.2.2.2.2.2.2.2.1.2 k0 _ hk0).2
    have e2 := (hK.2 5 (cA, ty) (by simp [sp_tys])).2
    unfold va_RA at e1 e2
    cases ty <;> first | exact absurd rfl (hno _) | exact Option.some.inj (e2.symm.trans e1)
  rcases ht with ⟨rfl, hty⟩ | ⟨rfl, hty⟩ | ⟨rfl, hty⟩
  · refine hfin .int (N, .inl (fun _ => 0)) hty (fun cA => rfl) (by simp [componentBytes]; omega) (fun cA hK => ?_)
    rw [hid 0 cA _ .int rfl (fun _ h => by cases h) hK, sp_cell_0 ⟨by rw [sp_n_new]; omega, by rw [sp_T_new, if_pos rfl]⟩, sp_N_new, if_pos rfl]
    congr; funext j; simp [sp_I_new]
  · refine hfin .long (N, .inr (.inl (fun _ => 0))) hty (fun cA => rfl) (by simp [componentBytes]; omega) (fun cA hK => ?_)
    rw [hid 1 cA _ .long rfl (fun _ h => by cases h) hK, sp_cell_1 ⟨by rw [sp_n_new]; omega, by rw [sp_T_new, if_pos rfl]⟩, sp_N_new, if_pos rfl]
    congr; funext j; simp [sp_L_new]
  · refine hfin .boolean (N, .inl (fun _ => 0)) hty (fun cA => rfl) (by simp [componentBytes]; omega) (fun cA hK => ?_)
    rw [hid 2 cA _ .boolean rfl (fun _ h => by cases h) hK, sp_cell_2 ⟨by rw [sp_n_new]; omega, by rw [sp_T_new, if_pos rfl]⟩, sp_N_new, if_pos rfl]
    congr; funext j; simp [sp_I_new]
/-- a new array of rooms (3) or of texts (4) -/
theorem sp_newr {i t : Nat} {x : Int32} {N : Nat} {C0 : String} (ht : (t = 3 ∧ C0 = "NamedSparks$Room") ∨ (t = 4 ∧ C0 = "NamedSparks$Text")) (d : decode μ.2.1 pc = .ok (.anewarray i, 3)) (hl : Cond.classLink μ.1.cls i C0 ∈ sp_tb) (hx : ¬ x < 0) (hN : x.toNatClampNeg = N) (hb : N * 4 ≤ 536870912) (hn : sp_n M < 1000000) (hΩ : Ω M → Ω (sp_new M t N)) (k : sp_Wp g Ω μ mc ms (pc + 3) lo (.ref (sp_n M) :: st) (sp_new M t N) Q) : sp_Wp g Ω μ (mc + 1) (ms + N) pc lo (.int x :: st) M Q := by
  intro hom p e R s m args below meth c0 H locs cells slots ls C hH hS hl0 h0 h1 h2
  have hX : va_AO C0 s := by
    rcases ht with ⟨-, rfl⟩ | ⟨-, rfl⟩
    · exact C.2.2.2.2.2.2.2.2.2.2.2.1.2.2.1
    · exact C.2.2.2.2.2.2.2.2.2.2.2.1.2.1
  refine va_newq C.1 C.2.1 C.2.2.2.2.2.1 (C.2.2.2.2.2.2.1 _ hl) hX C.2.2.2.2.2.2.2.1 hH.2.2 (sp_wl_D g M) hS (fun q hq => Nat.le_trans C.2.2.2.2.2.2.2.2.2.2.2.2 hq) hx hN hb (by omega) (by omega) d ?_
  intro q cA H1 hK hP hD hS1 T hT X
  have hq := sp_newq hP hD h0 hT X
  subst hq
  have hcA : ∀ (k0 : Nat) (cB : ClassId), (sp_tys g)[k0]? = some (cB, .object C0) → cA = cB := by
    intro k0 cB hk0
    obtain ⟨_, _, -, -, -, e1⟩ := (C.2.2.2.2.2.2.2.1.2 k0 _ hk0).2
    obtain ⟨_, _, -, -, -, e2⟩ := (hK.2 5 (cA, .object C0) (by simp [sp_tys])).2
    exact Option.some.inj (e2.symm.trans e1)
  have hcell : sp_cell g (sp_new M t N) (sp_n M) = .inl (cA, N, .inr (.inr (.inr (.inr (fun _ => none))))) := by
    rcases ht with ⟨rfl, rfl⟩ | ⟨rfl, rfl⟩
    · rw [hcA 3 _ rfl, sp_cell_3 ⟨by rw [sp_n_new]; omega, by rw [sp_T_new, if_pos rfl]⟩, sp_N_new, if_pos rfl]
      congr; funext j; simp [sp_P_new]
    · rw [hcA 4 _ rfl, sp_cell_4 ⟨by rw [sp_n_new]; omega, by rw [sp_T_new, if_pos rfl]⟩, sp_N_new, if_pos rfl]
      congr; funext j; simp [sp_P_new]
  rw [sp_wl_push (g := g) (M := M) (M' := sp_new M t N) (sp_n_new M t N) hcell (fun q hq => sp_cell_new hq)] at hP
  have hH1 : sp_HR g (sp_new M t N) H1 := sp_size (by rw [sp_n_new]; omega) hP (Nat.le_trans C.2.2.2.2.2.2.2.2.2.2.2.2 hS1.1) (by rw [sp_n_new]; omega) hT X
  have hk := k (hΩ hom) p e R s m args below meth c0 H1 locs (cells + 1) (slots + N) ls C hH1 hS1 hl0 (by rw [sp_n_new]; omega) (by omega) (by omega)
  rw [show cells + (mc + 1) = cells + 1 + mc by omega, show slots + (ms + N) = slots + N + ms by omega]
  refine W.eq (g2 := F0 m (pc + 3) ls ((.ref (sp_n M) :: st).map (sp_rv g))) ?_ hk T hT X
  simp [sp_rv, sp_ad, hn]
end SpPut
