/-! ===== clone of an int array; more room than is used ===== -/
section SpClone
variable {g : sp_G} {Ω : sp_Mem → Prop} {μ μ' : sp_MD} {mc ms pc : Nat} {lo : List (Option Value)} {st : List Value} {M M1 : sp_Mem} {Q : sp_Qt}
abbrev sp_cloneI : MethodName := ⟨"[I", "clone", "()Ljava/lang/Object;"⟩
abbrev sp_cloneO : MethodName := ⟨"java/lang/Object", "clone", "()Ljava/lang/Object;"⟩
theorem sp_clone {i a N : Nat} (d : decode μ.2.1 pc = .ok (.invokevirtual i, 3)) (hl : Cond.methodLink μ.1.cls i sp_cloneI ∈ sp_tb) (hsame : Cond.sameMethod "[I" "java/lang/Object" "clone" "()Ljava/lang/Object;" ∈ sp_tb) (hnat : Cond.native sp_cloneO ∈ sp_tb) (hinst : Cond.instanceMethod sp_cloneO ∈ sp_tb) (hsel : Cond.selects "[I" sp_cloneI sp_cloneO ∈ sp_tb) (ha : sp_ar M a 0) (hN : sp_N M a = N) (hfr : 1 ≤ μ.2.2.2.2.1) (hlc : (st.map fun v => v.category).sum + 14 ≤ μ.2.2.2.2.2) (hn : sp_n M < 1000000) (hM : sp_rowI (sp_new M 0 N) (sp_n M) (sp_I M a) = M1) (hΩ : Ω M → Ω M1) (k : sp_Wp g Ω μ mc ms (pc + 3) lo (.ref (sp_n M) :: st) M1 Q) : sp_Wp g Ω μ (mc + 1) (ms + N) pc lo (.ref a :: st) M Q := by
  subst hM
  intro hom p e R s m args below meth c0 H locs cells slots ls C hH hS hl0 h0 h1 h2
  refine W.eq (g2 := F0 m pc ls (.ref (sp_z g + a) :: st.map (sp_rv g))) (by simp [sp_rv, sp_ad_lt hH ha.1]) ?_
  have hnm : s.vm.findClass "[I" = some (sp_ca g 0) := (C.2.2.2.2.2.2.2.1.2 0 (sp_ca g 0, .int) rfl).2
  refine va_clone C.1 C.2.1 (C.2.2.1.trans hl0.1.symm) C.2.2.2.2.2.1 (C.2.2.2.2.2.2.1 _ hl) (C.2.2.2.2.2.2.1 _ hsame) (C.2.2.2.2.2.2.1 _ hnat) (C.2.2.2.2.2.2.1 _ hinst) (C.2.2.2.2.2.2.1 _ hsel) C.2.2.2.2.2.2.2.2.2.2.2.1.1.2 C.2.2.2.2.2.2.2.1 hH.2.2 (sp_wl_D g M) hS (fun q hq => Nat.le_trans C.2.2.2.2.2.2.2.2.2.2.2.2 hq) a 0 (by rw [sp_wl_at ha.1, sp_cell_0 ha]) rfl hnm ?_ (Nat.le_trans hfr C.2.2.2.2.2.2.2.2.1) (by rw [sp_cats]; exact Nat.le_trans hlc C.2.2.2.2.2.2.2.2.2.1) (by omega) (by show slots + sp_N M a ≤ _; omega) d ?_
  · intro j v hv
    rw [vp_cell_i] at hv
    have hj : j < sp_N M a := by
      have := (Array.getElem?_eq_some_iff.mp hv).1
      rwa [arrV_size] at this
    rw [arrV_read _ _ hj] at hv
    cases hv
    rfl
  · intro q H1 hK hP hD hS1 T hT X
    have hq := sp_newq hP hD h0 hT X
    subst hq
    have hc : sp_cell g (sp_rowI (sp_new M 0 N) (sp_n M) (sp_I M a)) (sp_n M) = .inl (sp_ca g 0, sp_N M a, .inl (sp_I M a)) := by
      rw [sp_cell_0 (M := sp_rowI (sp_new M 0 N) (sp_n M) (sp_I M a)) ⟨by rw [sp_n_rowI, sp_n_new]; omega, by rw [sp_T_rowI, sp_T_new, if_pos rfl]⟩, sp_N_rowI, sp_N_new, if_pos rfl, hN, show sp_I (sp_rowI (sp_new M 0 N) (sp_n M) (sp_I M a)) (sp_n M) = sp_I M a from by funext j; simp [sp_I_rowI]]
    rw [sp_wl_push (g := g) (M := M) (M' := sp_rowI (sp_new M 0 N) (sp_n M) (sp_I M a)) (sp_n_new M 0 N) hc (fun q hq => (sp_cell_rowI (by omega)).trans (sp_cell_new hq))] at hP
    have hH1 : sp_HR g (sp_rowI (sp_new M 0 N) (sp_n M) (sp_I M a)) H1 := sp_size (by rw [sp_n_rowI, sp_n_new]; omega) hP (Nat.le_trans C.2.2.2.2.2.2.2.2.2.2.2.2 hS1.1) (by rw [sp_n_rowI, sp_n_new]; omega) hT X
    have X' : Stand p (sp_l g) e R s m args below meth c0 T locs (cells + 1) (slots + N) := by rw [← hN]; exact X
    have hk := k (hΩ hom) p e R s m args below meth c0 H1 locs (cells + 1) (slots + N) ls C hH1 hS1 hl0 (by rw [sp_n_rowI, sp_n_new]; omega) (by omega) (by omega)
    rw [show cells + (mc + 1) = cells + 1 + mc by omega, show slots + (ms + N) = slots + N + ms by omega]
    refine W.eq (g2 := F0 m (pc + 3) ls ((.ref (sp_n M) :: st).map (sp_rv g))) ?_ hk T hT X'
    simp [sp_rv, sp_ad, hn]
theorem sp_castI {i a : Nat} (d : decode μ.2.1 pc = .ok (.checkcast i, 3)) (hl : Cond.classLink μ.1.cls i "[I" ∈ sp_tb) (ha : sp_ar M a 0) (k : sp_Wp g Ω μ mc ms (pc + 3) lo (.ref a :: st) M Q) : sp_Wp g Ω μ mc ms pc lo (.ref a :: st) M Q := by
  intro hom p e R s m args below meth c0 H locs cells slots ls C hH hS hl0 h0 h1 h2
  have := k hom p e R s m args below meth c0 H locs cells slots ls C hH hS hl0 h0 h1 h2
  have hnm : s.vm.findClass "[I" = some (sp_ca g 0) := (C.2.2.2.2.2.2.2.1.2 0 (sp_ca g 0, .int) rfl).2
  refine W.eq (g2 := F0 m pc ls (.ref (sp_z g + a) :: st.map (sp_rv g))) (by simp [sp_rv, sp_ad_lt hH ha.1]) ?_
  exact va_castA C.1 C.2.1 C.2.2.2.2.2.1 (C.2.2.2.2.2.2.1 _ hl) hH.2.2 a (by rw [sp_wl_at ha.1, sp_cell_0 ha]) hnm d (W.eq (by simp [sp_rv, sp_ad_lt hH ha.1]) this)
/-- a walk that needs less room -/
theorem sp_less {mc' ms' : Nat} (h1 : mc' ≤ mc) (h2 : ms' ≤ ms) (k : sp_Wp g Ω μ mc' ms' pc lo st M Q) : sp_Wp g Ω μ mc ms pc lo st M Q := by
  intro ho p e R s m args below meth c H locs cells slots ls C hH hS hl g0 g1 g2 T hT X
  obtain ⟨t, a1, o, b1, b2, b3, L, ⟨c1, c2, c3⟩, b4⟩ := k ho p e R s m args below meth c H locs cells slots ls C hH hS hl g0 (by omega) (by omega) T hT X
  exact ⟨t, a1, o, b1, b2, b3, L, ⟨c1, c2, c3.mono (by omega) (by omega)⟩, b4⟩
theorem sp_bud {mc' ms' : Nat} (h1 : mc' = mc) (h2 : ms' = ms) (k : sp_Wp g Ω μ mc' ms' pc lo st M Q) : sp_Wp g Ω μ mc ms pc lo st M Q := by
  subst h1; subst h2; exact k
end SpClone
