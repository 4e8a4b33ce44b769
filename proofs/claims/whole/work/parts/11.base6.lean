/-! ===== arraycopy; the class's texts ===== -/
section SpJdk
variable {g : sp_G} {Ω : sp_Mem → Prop} {μ μ' : sp_MD} {mc ms pc : Nat} {lo : List (Option Value)} {st : List Value} {M : sp_Mem} {Q : sp_Qt}
theorem sp_cell_rowI {o q : Nat} {f : Nat → Int32} (h : q ≠ o) : sp_cell g (sp_rowI M o f) q = sp_cell g M q :=
  sp_fs_other (by funext k; simp [sp_I_rowI, h]) rfl rfl rfl rfl
theorem sp_copy {i a b : Nat} {sp dp n : Int32} (d : decode μ.2.1 pc = .ok (.invokestatic i, 3)) (hl : Cond.methodLink μ.1.cls i arraycopyName ∈ sp_tb) (hnat : Cond.native arraycopyName ∈ sp_tb) (hst : Cond.static arraycopyName ∈ sp_tb) (hin : Cond.initialized "java/lang/System" ∈ sp_tb) (ha : sp_ar M a 0) (hb : sp_ar M b 0) (h3 : ¬ sp < 0) (h4 : ¬ dp < 0) (h5 : ¬ n < 0) (h6 : sp.toNatClampNeg + n.toNatClampNeg ≤ sp_N M a) (h7 : dp.toNatClampNeg + n.toNatClampNeg ≤ sp_N M b) (hfr : 1 ≤ μ.2.2.2.2.1) (hlc : (st.map fun v => v.category).sum + (nativeFrameWords "java/lang/System" "arraycopy" 5 + 11) ≤ μ.2.2.2.2.2)
    (hΩ : Ω M → Ω (sp_rowI M b (va_cpy (sp_I M a) (sp_I M b) sp.toNatClampNeg dp.toNatClampNeg n.toNatClampNeg))) (k : sp_Wp g Ω μ mc ms (pc + 3) lo st (sp_rowI M b (va_cpy (sp_I M a) (sp_I M b) sp.toNatClampNeg dp.toNatClampNeg n.toNatClampNeg)) Q) : sp_Wp g Ω μ mc ms pc lo (.int n :: .int dp :: .ref b :: .int sp :: .ref a :: st) M Q := by
  intro hom p e R s m args below meth c0 H locs cells slots ls C hH hS hl0 h0 h1 h2
  refine W.eq (g2 := F0 m pc ls (.int n :: .int dp :: .ref (sp_z g + b) :: .int sp :: .ref (sp_z g + a) :: st.map (sp_rv g))) (by simp [sp_rv, sp_ad_lt hH ha.1, sp_ad_lt hH hb.1]) ?_
  refine va_copyi C.1 C.2.1 (C.2.2.1.trans hl0.1.symm) C.2.2.2.2.2.1 (C.2.2.2.2.2.2.1 _ hl) (C.2.2.2.2.2.2.1 _ hnat) (C.2.2.2.2.2.2.1 _ hst) (C.2.2.2.2.2.2.1 _ hin) C.2.2.2.2.2.2.2.1 hH.2.2 (sp_wl_D g M) hS a b 0 0 (by rw [sp_wl_at ha.1, sp_cell_0 ha]) (by rw [sp_wl_at hb.1, sp_cell_0 hb]) rfl rfl rfl h3 h4 h5 h6 h7 (fun _ _ => rfl) (Nat.le_trans hfr C.2.2.2.2.2.2.2.2.1) (by rw [sp_cats]; exact Nat.le_trans hlc C.2.2.2.2.2.2.2.2.2.1) d (fun H1 locs1 hP hD hS1 => ?_)
  rw [sp_wl_set (g := g) (M := M) (M' := sp_rowI M b (va_cpy (sp_I M a) (sp_I M b) sp.toNatClampNeg dp.toNatClampNeg n.toNatClampNeg)) rfl hb.1 (by
    rw [sp_cell_0 (M := sp_rowI M b _) hb, show sp_I (sp_rowI M b (va_cpy (sp_I M a) (sp_I M b) sp.toNatClampNeg dp.toNatClampNeg n.toNatClampNeg)) b = va_cpy (sp_I M a) (sp_I M b) sp.toNatClampNeg dp.toNatClampNeg n.toNatClampNeg from by funext q; simp [sp_I_rowI]]
    rfl) (fun q hq => sp_cell_rowI hq)] at hP
  intro T hT X
  exact k (hΩ hom) p e R s m args below meth c0 H1 locs1 cells slots ls C (sp_size hH.2.1 hP (Nat.le_trans C.2.2.2.2.2.2.2.2.2.2.2.2 hS1.1) h0 hT X) hS1 hl0 h0 h1 h2 T hT X
theorem sp_ad_s {j : Nat} (h : j < 10) : sp_ad g (1000000 + j) = sp_cs g j := by
  unfold sp_ad
  rw [if_neg (by omega), if_pos (by omega), Nat.add_sub_cancel_left]
theorem sp_ad_v {j : Nat} : sp_ad g (1000100 + j) = sp_cv g j := by
  unfold sp_ad
  rw [if_neg (by omega), if_neg (by omega), Nat.add_sub_cancel_left]
/-- a text of the class: its cell is 1000000 + its number in sp_txt, the cell of its bytes 1000100 + that -/
theorem sp_ldcS {i j : Nat} {tx : String} (d : decode μ.2.1 pc = .ok (.ldc i, 2)) (hc : μ.1.cls = "NamedSparks$Parser") (hj : sp_txt[j]? = some (i, tx)) (k : sp_Wp g Ω μ mc ms (pc + 2) lo (.ref (1000000 + j) :: st) M Q) : sp_Wp g Ω μ mc ms pc lo st M Q := by
  intro hom p e R s m args below meth c0 H locs cells slots ls C hH hS hl0 h0 h1 h2
  have hjl : j < 10 := (List.getElem?_eq_some_iff.mp hj).1
  have := k hom p e R s m args below meth c0 H locs cells slots ls C hH hS hl0 h0 h1 h2
  refine va_ldcS C.1 C.2.1 C.2.2.2.2.2.1 (tx := tx) (q := sp_cs g j) (by rw [hc]; exact C.2.2.2.2.2.2.2.2.2.2.2.1.2.2.2.1 j _ hj) d (W.eq (by simp only [List.map_cons, sp_rv, sp_ad_s hjl]) this)
theorem sp_getC {i j : Nat} (d : decode μ.2.1 pc = .ok (.getfield i, 3)) (hl : Cond.fieldLink μ.1.cls i "java/lang/String" "coder" "B" ∈ sp_tb) (hj : j < 10) (k : sp_Wp g Ω μ mc ms (pc + 3) lo (.int 0 :: st) M Q) : sp_Wp g Ω μ mc ms pc lo (.ref (1000000 + j) :: st) M Q := by
  intro hom p e R s m args below meth c0 H locs cells slots ls C hH hS hl0 h0 h1 h2
  have := k hom p e R s m args below meth c0 H locs cells slots ls C hH hS hl0 h0 h1 h2
  refine W.eq (g2 := F0 m pc ls (.ref (sp_cs g j) :: st.map (sp_rv g))) (by simp only [List.map_cons, sp_rv, sp_ad_s hj]) ?_
  exact vk_getf C.1 C.2.1 (C.2.2.2.2.2.2.2.2.2.2.2.1.2.2.2.2.1.1 j hj).2.1 hS C.2.2.2.2.2.1 (C.2.2.2.2.2.2.1 _ hl) (fun x hx => hx) d this
theorem sp_getV {i j : Nat} (d : decode μ.2.1 pc = .ok (.getfield i, 3)) (hl : Cond.fieldLink μ.1.cls i "java/lang/String" "value" "[B" ∈ sp_tb) (hj : j < 10) (k : sp_Wp g Ω μ mc ms (pc + 3) lo (.ref (1000100 + j) :: st) M Q) : sp_Wp g Ω μ mc ms pc lo (.ref (1000000 + j) :: st) M Q := by
  intro hom p e R s m args below meth c0 H locs cells slots ls C hH hS hl0 h0 h1 h2
  have := k hom p e R s m args below meth c0 H locs cells slots ls C hH hS hl0 h0 h1 h2
  refine W.eq (g2 := F0 m pc ls (.ref (sp_cs g j) :: st.map (sp_rv g))) (by simp only [List.map_cons, sp_rv, sp_ad_s hj]) ?_
  exact vk_getf C.1 C.2.1 (C.2.2.2.2.2.2.2.2.2.2.2.1.2.2.2.2.1.1 j hj).2.2.1 hS C.2.2.2.2.2.1 (C.2.2.2.2.2.2.1 _ hl) (fun x hx => hx) d (W.eq (by simp only [List.map_cons, sp_rv, sp_ad_v]) this)
theorem sp_alenV {j : Nat} {v : Int32} (d : decode μ.2.1 pc = .ok (.arraylength, 1)) (hj : j < 10) (hv : Int32.ofNat (sp_tlen.getD j 0) = v) (k : sp_Wp g Ω μ mc ms (pc + 1) lo (.int v :: st) M Q) : sp_Wp g Ω μ mc ms pc lo (.ref (1000100 + j) :: st) M Q := by
  intro hom p e R s m args below meth c0 H locs cells slots ls C hH hS hl0 h0 h1 h2
  have := k hom p e R s m args below meth c0 H locs cells slots ls C hH hS hl0 h0 h1 h2
  refine W.eq (g2 := F0 m pc ls (.ref (sp_cv g j) :: st.map (sp_rv g))) (by simp only [List.map_cons, sp_rv, sp_ad_v]) ?_
  exact va_tlen C.1 C.2.1 (C.2.2.2.2.2.2.2.2.2.2.2.1.2.2.2.2.1.1 j hj).2.2.2 hS hv d this
theorem sp_baldV {j : Nat} {i v : Int32} (d : decode μ.2.1 pc = .ok (.baload, 1)) (hj : j < 10) (hi : vp_in i (sp_tlen.getD j 0)) (hv : (sp_tbyt.getD j []).getD i.toNatClampNeg 0 = v) (k : sp_Wp g Ω μ mc ms (pc + 1) lo (.int v :: st) M Q) : sp_Wp g Ω μ mc ms pc lo (.int i :: .ref (1000100 + j) :: st) M Q := by
  intro hom p e R s m args below meth c0 H locs cells slots ls C hH hS hl0 h0 h1 h2
  have := k hom p e R s m args below meth c0 H locs cells slots ls C hH hS hl0 h0 h1 h2
  refine W.eq (g2 := F0 m pc ls (.int i :: .ref (sp_cv g j) :: st.map (sp_rv g))) (by simp only [List.map_cons, sp_rv, sp_ad_v]) ?_
  exact va_tb C.1 C.2.1 (C.2.2.2.2.2.2.2.2.2.2.2.1.2.2.2.2.1.1 j hj).2.2.2 hS hi (by subst hv; rfl) d this
theorem sp_getsC {i : Nat} (d : decode μ.2.1 pc = .ok (.getstatic i, 3)) (hl : Cond.fieldLink μ.1.cls i "java/lang/String" "COMPACT_STRINGS" "Z" ∈ sp_tb) (k : sp_Wp g Ω μ mc ms (pc + 3) lo (.int 1 :: st) M Q) : sp_Wp g Ω μ mc ms pc lo st M Q := by
  intro hom p e R s m args below meth c0 H locs cells slots ls C hH hS hl0 h0 h1 h2
  have := k hom p e R s m args below meth c0 H locs cells slots ls C hH hS hl0 h0 h1 h2
  exact va_gets C.1 C.2.1 C.2.2.2.2.2.2.2.2.2.2.2.1.2.2.2.2.2.1 hS C.2.2.2.2.2.1 (C.2.2.2.2.2.2.1 _ hl) (fun x hx => hx) d this
theorem sp_getsF {i : Nat} (d : decode μ.2.1 pc = .ok (.getstatic i, 3)) (hl : Cond.fieldLink μ.1.cls i "jdk/internal/util/Preconditions" "SIOOBE_FORMATTER" "Ljava/util/function/BiFunction;" ∈ sp_tb) (k : ∀ r : Option Nat, sp_Wp g Ω μ mc ms (pc + 3) lo (va_rf r :: st) M Q) : sp_Wp g Ω μ mc ms pc lo st M Q := by
  intro hom p e R s m args below meth c0 H locs cells slots ls C hH hS hl0 h0 h1 h2
  rcases C.2.2.2.2.2.2.2.2.2.2.2.1.2.2.2.2.2.2.1 with hZ | hZ
  · exact va_gets C.1 C.2.1 hZ hS C.2.2.2.2.2.1 (C.2.2.2.2.2.2.1 _ hl) (fun x hx => hx) d (k none hom p e R s m args below meth c0 H locs cells slots ls C hH hS hl0 h0 h1 h2)
  · refine va_gets C.1 C.2.1 hZ hS C.2.2.2.2.2.1 (C.2.2.2.2.2.2.1 _ hl) (fun x hx => hx) d (W.eq ?_ (k (some (1000100 + 100)) hom p e R s m args below meth c0 H locs cells slots ls C hH hS hl0 h0 h1 h2))
    simp only [List.map_cons, va_rf, sp_rv, sp_ad_v]
theorem sp_recvS {j : Nat} (hj : j < 10) (hr : μ'.1.cls = "java/lang/String") (s : State) (H : Heap) (locs : List Loc) (_ : va_K (sp_D g) vwCl (sp_tys g) s) (hX : sp_X g s) (_ : sp_HR g M H) (hS : va_S (sp_A g) s.heap H locs) : ∃ cell : Cell, H[sp_ad g (1000000 + j)]? = some cell ∧ cell.vm.isStatics = false ∧ s.vm.findClass μ'.1.cls = some cell.cls := by
  rw [hr, sp_ad_s hj]
  exact vk_recv hX.2.2.2.2.1 hj hS
theorem sp_sld {i : Int32} (d : decode μ.2.1 pc = .ok (.iaload, 1)) (hi : vp_in i (sp_sl g)) (k : sp_Wp g Ω μ mc ms (pc + 1) lo (.int (sp_sx g i.toNatClampNeg) :: st) M Q) : sp_Wp g Ω μ mc ms pc lo (.int i :: .ref (1000100 + 101) :: st) M Q := by
  intro hom p e R s m args below meth c0 H locs cells slots ls C hH hS hl0 h0 h1 h2
  have := k hom p e R s m args below meth c0 H locs cells slots ls C hH hS hl0 h0 h1 h2
  have hX := C.2.2.2.2.2.2.2.2.2.2.2.1.2.2.2.2.2.2.2
  refine W.eq (g2 := F0 m pc ls (.int i :: .ref (sp_cv g 101) :: st.map (sp_rv g))) (by simp only [List.map_cons, sp_rv, sp_ad_v]) ?_
  exact va_sld C.1 C.2.1 hX.1 (Nat.lt_of_lt_of_le hX.2.1 hX.2.2) (Nat.not_le.mpr hX.2.1) hS hi d this
theorem sp_slenS {v : Int32} (d : decode μ.2.1 pc = .ok (.arraylength, 1)) (hv : Int32.ofNat (sp_sl g) = v) (k : sp_Wp g Ω μ mc ms (pc + 1) lo (.int v :: st) M Q) : sp_Wp g Ω μ mc ms pc lo (.ref (1000100 + 101) :: st) M Q := by
  subst hv
  intro hom p e R s m args below meth c0 H locs cells slots ls C hH hS hl0 h0 h1 h2
  have := k hom p e R s m args below meth c0 H locs cells slots ls C hH hS hl0 h0 h1 h2
  have hX := C.2.2.2.2.2.2.2.2.2.2.2.1.2.2.2.2.2.2.2
  refine W.eq (g2 := F0 m pc ls (.ref (sp_cv g 101) :: st.map (sp_rv g))) (by simp only [List.map_cons, sp_rv, sp_ad_v]) ?_
  exact va_slen C.1 C.2.1 hX.1 (Nat.lt_of_lt_of_le hX.2.1 hX.2.2) (Nat.not_le.mpr hX.2.1) hS d this
end SpJdk
