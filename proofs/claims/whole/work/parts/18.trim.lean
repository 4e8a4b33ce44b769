theorem tw_827 : Cond.methodLink RJ7 316 sp_cloneI ∈ sp_tb := sp_mem 827 (by decide +kernel) (by decide +kernel)
theorem tw_828 : Cond.sameMethod "[I" "java/lang/Object" "clone" "()Ljava/lang/Object;" ∈ sp_tb := sp_mem 828 (by decide +kernel) (by decide +kernel)
theorem tw_829 : Cond.native sp_cloneO ∈ sp_tb := sp_mem 829 (by decide +kernel) (by decide +kernel)
theorem tw_830 : Cond.instanceMethod sp_cloneO ∈ sp_tb := sp_mem 830 (by decide +kernel) (by decide +kernel)
theorem tw_831 : Cond.selects "[I" sp_cloneI sp_cloneO ∈ sp_tb := sp_mem 831 (by decide +kernel) (by decide +kernel)
theorem tw_833 : Cond.classLink RJ7 317 "[I" ∈ sp_tb := sp_mem 833 (by decide +kernel) (by decide +kernel)
/-- Arrays.copyOf -/
def sp_cpo (M : sp_Mem) (a n : Nat) : sp_Mem := if n = sp_N M a then sp_rowI (sp_new M 0 n) (sp_n M) (sp_I M a) else sp_cpy (sp_new M 0 n) a (sp_n M) 0 0 n
section SpTrim
variable {g : sp_G} {Ω : sp_Mem → Prop} {Q : sp_Qt} {M : sp_Mem}
theorem sp_ar_new {a t t' len : Nat} (h : sp_ar M a t) : sp_ar (sp_new M t' len) a t := ⟨by rw [sp_n_new]; have := h.1; omega, by rw [sp_T_new, if_neg (by have := h.1; omega)]; exact h.2⟩
set_option maxRecDepth 100000 in
set_option maxHeartbeats 4000000 in
theorem tCopyOf {a n : Nat} {x : Int32} (hG : sp_Ok Ω) (ha : sp_ar M a 0) (hx0 : ¬ x < 0) (hx : x.toNatClampNeg = n) (hle : n ≤ sp_N M a) (hNs : sp_N M a < 1000000) (hn : sp_n M < 1000000) (hQ : Q (some (.ref (sp_n M))) (sp_cpo M a n)) : sp_Mt g Ω mJ7_copyOf_59c91 1 n [.ref a, .int x] M Q := by
  refine sp_Mt.of [some (.ref a), some (.int x), none] (by decide) (by simp [sp_ent, Value.category]) rfl ?_
  refine sp_iload_n dJ7_copyOf_59c91_0 rfl rfl ?_
  refine sp_aload_n dJ7_copyOf_59c91_1 rfl rfl ?_
  refine sp_alen 0 (by decide) dJ7_copyOf_59c91_2 ha rfl ?_
  refine sp_icmp_ne (tgt := 14) dJ7_copyOf_59c91_3 (by decide) (fun hc => ?_) (fun hc => ?_)
  · have hnN : ¬ n = sp_N M a := fun e => hc (by
      obtain ⟨j, hj, hxj⟩ := nI_of hx0
      rw [hxj, nI_clamp hj] at hx
      rw [hxj, hx, e]; rfl)
    have hQ2 : Q (some (.ref (sp_n M))) (sp_cpy (sp_new M 0 n) a (sp_n M) 0 0 n) := by
      unfold sp_cpo at hQ
      rw [if_neg hnN] at hQ
      exact hQ
    have ha1 : sp_ar (sp_new M 0 n) a 0 := sp_ar_new ha
    have hb1 : sp_ar (sp_new M 0 n) (sp_n M) 0 := ⟨by rw [sp_n_new]; omega, by rw [sp_T_new, if_pos rfl]⟩
    have hNa : sp_N (sp_new M 0 n) a = sp_N M a := by rw [sp_N_new, if_neg (by have := ha.1; omega)]
    have hNb : sp_N (sp_new M 0 n) (sp_n M) = n := by rw [sp_N_new, if_pos rfl]
    refine sp_iload_n dJ7_copyOf_59c91_14 rfl rfl ?_
    refine sp_bud (mc' := 0 + 1) (ms' := 0 + n) rfl (Nat.zero_add n) ?_
    refine sp_newa (t := 0) (N := n) (Or.inl ⟨rfl, rfl⟩) dJ7_copyOf_59c91_15 tw_143 hx0 hx (by omega) hn (fun h => hG.2.2.2.2.2.2 M 0 n h) ?_
    refine sp_astore_n [some (.ref a), some (.int x), some (.ref (sp_n M))] dJ7_copyOf_59c91_17 rfl (by decide) rfl ?_
    refine sp_aload_n dJ7_copyOf_59c91_18 rfl rfl ?_
    refine sp_iconst (v := 0) dJ7_copyOf_59c91_19 (by decide) ?_
    refine sp_aload_n dJ7_copyOf_59c91_20 rfl rfl ?_
    refine sp_iconst (v := 0) dJ7_copyOf_59c91_21 (by decide) ?_
    refine sp_aload_n dJ7_copyOf_59c91_22 rfl rfl ?_
    refine sp_alen 0 (by decide) dJ7_copyOf_59c91_23 ha1 rfl ?_
    refine sp_iload_n dJ7_copyOf_59c91_24 rfl rfl ?_
    have hmin : sp_min (Int32.ofNat (sp_N (sp_new M 0 n) a)) x = x := by
      obtain ⟨j, hj, hxj⟩ := nI_of hx0
      rw [hxj, nI_clamp hj] at hx
      subst hx
      rw [hxj, hNa]
      unfold sp_min
      have hlt : j < sp_N M a := by omega
      exact if_pos (nI_lt hlt (by omega))
    refine sp_mmin dJ7_copyOf_59c91_25 tw_834 (by decide) (Nat.le_of_ble_eq_true rfl) ?_
    refine sp_topi hmin ?_
    refine sp_copy2 (s1 := 0) (d1 := 0) (n1 := n) dJ7_copyOf_59c91_28 tw_835 tw_837 tw_836 tw_116 hG ha1 hb1 (by decide) (by decide) hx0 (by decide) (by decide) hx (by rw [hNa]; omega) (by rw [hNb]; omega) (by decide) (Nat.le_of_ble_eq_true rfl) rfl ?_
    refine sp_aload_n dJ7_copyOf_59c91_31 rfl rfl ?_
    exact sp_aret (r := some (sp_n M)) dJ7_copyOf_59c91_32 rfl (Or.inr ⟨_, rfl⟩) (fun _ => hQ2)
  · have hnN : n = sp_N M a := by rw [← hx, hc]; exact nI_clamp (by omega)
    have hQ2 : Q (some (.ref (sp_n M))) (sp_rowI (sp_new M 0 n) (sp_n M) (sp_I M a)) := by
      unfold sp_cpo at hQ
      rw [if_pos hnN] at hQ
      exact hQ
    refine sp_aload_n dJ7_copyOf_59c91_6 rfl rfl ?_
    refine sp_bud (mc' := 0 + 1) (ms' := 0 + n) rfl (Nat.zero_add n) ?_
    refine sp_clone dJ7_copyOf_59c91_7 tw_827 tw_828 tw_829 tw_830 tw_831 ha hnN.symm (by decide) (by decide) hn rfl (fun h => hG.R (hG.2.2.2.2.2.2 M 0 n h)) ?_
    refine sp_castI dJ7_copyOf_59c91_10 tw_833 ⟨by rw [sp_n_rowI, sp_n_new]; omega, by rw [sp_T_rowI, sp_T_new, if_pos rfl]⟩ ?_
    exact sp_aret (r := some (sp_n M)) dJ7_copyOf_59c91_13 rfl (Or.inr ⟨_, rfl⟩) (fun _ => hQ2)
end SpTrim
section SpCpo
variable (M : sp_Mem) (a n i j : Nat)
theorem sp_n_cpo : sp_n (sp_cpo M a n) = sp_n M + 1 := by unfold sp_cpo; split <;> rfl
theorem sp_T_cpo : sp_T (sp_cpo M a n) i = if i = sp_n M then 0 else sp_T M i := by unfold sp_cpo; split <;> rfl
theorem sp_P_cpo : sp_P (sp_cpo M a n) i j = if i = sp_n M then none else sp_P M i j := by
  unfold sp_cpo; split
  · rw [sp_P_rowI, sp_P_new]
  · unfold sp_cpy; rw [sp_P_rowI, sp_P_new]
theorem sp_N_cpo : sp_N (sp_cpo M a n) i = if i = sp_n M then n else sp_N M i := by unfold sp_cpo; split <;> rfl
theorem sp_I_cpo (h : i ≠ sp_n M) : sp_I (sp_cpo M a n) i j = sp_I M i j := by
  unfold sp_cpo; split
  · rw [sp_I_rowI, if_neg h, sp_I_new, if_neg h]
  · unfold sp_cpy; rw [sp_I_rowI, if_neg h, sp_I_new, if_neg h]
theorem sp_L_cpo (h : i ≠ sp_n M) : sp_L (sp_cpo M a n) i j = sp_L M i j := by
  unfold sp_cpo; split
  · rw [sp_L_rowI, sp_L_new, if_neg h]
  · unfold sp_cpy; rw [sp_L_rowI, sp_L_new, if_neg h]
theorem sp_I_cpo_in (ha : a ≠ sp_n M) (h : j < n) : sp_I (sp_cpo M a n) (sp_n M) j = sp_I M a j := by
  unfold sp_cpo; split
  · rw [sp_I_rowI, if_pos rfl]
  · unfold sp_cpy; rw [sp_I_rowI, if_pos rfl, pk_cpy_in (by omega) (by omega), sp_I_new, if_neg ha]
    congr 1; omega
end SpCpo
/-- a text trimmed: what it leaves -/
def sp_tri (M : sp_Mem) (o t n1 n2 : Nat) : sp_Mem :=
  sp_setI (sp_setI (sp_setP (sp_cpo (sp_setP (sp_cpo M (t + 1) n1) o 0 (some (sp_n M))) (t + 2) n2) o 1 (some (sp_n M + 1))) o 2 (sp_I M t 2)) o 3 (sp_I M t 3)
section SpTri
variable {g : sp_G} {Ω : sp_Mem → Prop} {Q : sp_Qt} {M : sp_Mem}
theorem sp_is_cpo {o c a n : Nat} (h : sp_is M o c) : sp_is (sp_cpo M a n) o c := ⟨by rw [sp_n_cpo]; have := h.1; omega, by rw [sp_T_cpo, if_neg (by have := h.1; omega)]; exact h.2⟩
theorem sp_ar_cpo {o c a n : Nat} (h : sp_ar M o c) : sp_ar (sp_cpo M a n) o c := ⟨by rw [sp_n_cpo]; have := h.1; omega, by rw [sp_T_cpo, if_neg (by have := h.1; omega)]; exact h.2⟩
theorem sp_Ok.cpo (hG : sp_Ok Ω) {a n : Nat} (h : Ω M) : Ω (sp_cpo M a n) := by
  unfold sp_cpo; split
  · exact hG.R (hG.2.2.2.2.2.2 M 0 n h)
  · exact hG.R (hG.2.2.2.2.2.2 M 0 n h)
theorem sp_cIr {μ μ' : sp_MD} {mc ms mc1 ms1 pc i n : Nat} {lo : List (Option Value)} {st : List Value} {M1 : sp_Mem} {r : Option Value} (av : List Value) (st0 st1 : List Value) (d : decode μ.2.1 pc = .ok (.invokestatic i, 3)) (hm : sp_m μ' n) (hl : Cond.methodLink μ.1.cls i μ'.1 ∈ sp_tb) (hst : Cond.static μ'.1 ∈ sp_tb) (hfr : μ'.2.2.2.2.1 + 1 ≤ μ.2.2.2.2.1) (hlc : 8 + (μ'.2.2.1 + 11) + μ'.2.2.2.2.2 ≤ μ.2.2.2.2.2) (hn : av.length = n) (hcat : (st.map fun v => v.category).sum ≤ 8) (hs : av.reverse ++ st = st0) (hs1 : r.toList ++ st = st1) (hx : sp_n M1 = sp_n M + mc1) (call : ∀ Q' : sp_Qt, Q' r M1 → sp_Mt g Ω μ' mc1 ms1 av M Q')
    (k : sp_Wp g Ω μ mc ms (pc + 3) lo st1 M1 Q) : sp_Wp g Ω μ (mc1 + mc) (ms1 + ms) pc lo st0 M Q :=
  sp_callS (Qc := fun r' M' => r' = r ∧ M' = M1) av d hm hl hst hfr hlc hn hcat (fun _ M' hq _ _ => by rw [hq.2]; exact hx) (call _ ⟨rfl, rfl⟩) (fun r' M' hq => by obtain ⟨rfl, rfl⟩ := hq; rw [hs1]; exact k) st0 hs
set_option maxRecDepth 100000 in
set_option maxHeartbeats 4000000 in
theorem tTextInit {o t n1 n2 : Nat} (hG : sp_Ok Ω) (ho : sp_is M o 8) (h132 : 132 ≤ o) (hp0 : sp_P M o 0 = none) (hp1 : sp_P M o 1 = none) (ht : sp_text M t) (hne : o ≠ t) (hc0 : ¬ sp_I M t 2 * 5 < 0) (hc1 : (sp_I M t 2 * 5).toNatClampNeg = n1) (hc2 : n1 ≤ sp_N M (t + 1)) (hc3 : sp_N M (t + 1) < 1000000) (hd0 : ¬ sp_I M t 3 < 0) (hd1 : (sp_I M t 3).toNatClampNeg = n2) (hd2 : n2 ≤ sp_N M (t + 2)) (hd3 : sp_N M (t + 2) < 1000000) (hn : sp_n M + 1 < 1000000) (hQ : Q none (sp_tri M o t n1 n2)) : sp_Mt g Ω mX9_init_ 2 (n1 + n2) [.ref o, .ref t] M Q := by
  have hol := ho.1
  have htl := ht.1.1
  have ht1 := ht.2.2.2.1.1
  have ht2 := ht.2.2.2.2.1
  refine sp_Mt.of [some (.ref o), some (.ref t)] (by decide) (by simp [sp_ent, Value.category]) rfl ?_
  refine sp_aload_n dX9_init__0 rfl rfl ?_
  refine sp_objInit dX9_init__1 tw_367 tw_125 tw_126 (by decide) (by decide) ?_
  refine sp_aload_n dX9_init__4 rfl rfl ?_
  refine sp_aload_n dX9_init__5 rfl rfl ?_
  refine sp_getR (RX9, TX9, 4) dX9_init__6 clX9 (j := 0) (by decide) tw_368 ht.1 (Or.inr ⟨_, rfl⟩) ht.2.1 ?_
  refine sp_aload_n dX9_init__9 rfl rfl ?_
  refine sp_getI (RX9, TX9, 4) dX9_init__10 clX9 (j := 2) (by decide) tw_371 ht.1 (Or.inl rfl) ?_
  refine sp_iconst (v := 5) dX9_init__13 (by decide) ?_
  refine sp_imul dX9_init__14 ?_
  refine sp_bud (mc' := 1 + 1) (ms' := n1 + n2) rfl rfl ?_
  refine sp_cIr (M1 := sp_cpo M (t + 1) n1) (r := some (.ref (sp_n M))) (st := [.ref o]) [.ref (t + 1), .int (sp_I M t 2 * 5)] [.int (sp_I M t 2 * 5), .ref (t + 1), .ref o] [.ref (sp_n M), .ref o] dX9_init__15 okJ7_copyOf_59c91 tw_824 tw_825 (by decide) (by decide) rfl (Nat.le_of_ble_eq_true rfl) rfl rfl (sp_n_cpo _ _ _) (fun Q hQ => tCopyOf hG ht.2.2.2.1 hc0 hc1 hc2 hc3 (by omega) hQ) ?_
  have e1 : sp_is (sp_cpo M (t + 1) n1) o 8 := sp_is_cpo ho
  have hnt1 : ¬ sp_text (sp_cpo M (t + 1) n1) o := fun h => by
    have := h.2.1
    rw [sp_P_cpo, if_neg (by omega), hp0] at this
    cases this
  refine sp_putP (x := some (sp_n M)) (RX9, TX9, 4) dX9_init__18 clX9 (j := 0) (by decide) tw_368 (Or.inr ⟨rfl, rfl, rfl⟩) (Or.inr ⟨_, rfl⟩) e1 (fun h => hG.2.2.2.2.2.1 _ o 0 _ h132 hnt1 h) ?_
  generalize hM2 : sp_setP (sp_cpo M (t + 1) n1) o 0 (some (sp_n M)) = M2
  have n2' : sp_n M2 = sp_n M + 1 := by rw [← hM2, sp_n_setP, sp_n_cpo]
  have T2 : ∀ i, i < sp_n M → sp_T M2 i = sp_T M i := fun i hi => by rw [← hM2, sp_T_setP, sp_T_cpo, if_neg (by omega)]
  have N2 : ∀ i, i < sp_n M → sp_N M2 i = sp_N M i := fun i hi => by rw [← hM2, sp_N_setP, sp_N_cpo, if_neg (by omega)]
  have P2 : ∀ i j, i < sp_n M → i ≠ o → sp_P M2 i j = sp_P M i j := fun i j hi ho => by rw [← hM2, sp_P_setP, if_neg (fun e => ho e.1), sp_P_cpo, if_neg (by omega)]
  have P2o : sp_P M2 o 1 = none := by rw [← hM2, sp_P_setP, if_neg (fun e => by cases e.2), sp_P_cpo, if_neg (by omega), hp1]
  have I2 : ∀ i j, i < sp_n M → sp_I M2 i j = sp_I M i j := fun i j hi => by rw [← hM2, sp_I_setP, sp_I_cpo _ _ _ _ _ (by omega)]
  have t2 : sp_is M2 t 8 := ⟨by omega, by rw [T2 t htl]; exact ht.1.2⟩
  have t22 : sp_ar M2 (t + 2) 0 := ⟨by omega, by rw [T2 _ ht2]; exact ht.2.2.2.2.2⟩
  have o2 : sp_is M2 o 8 := ⟨by omega, by rw [T2 o hol]; exact ho.2⟩
  refine sp_aload_n dX9_init__21 rfl rfl ?_
  refine sp_aload_n dX9_init__22 rfl rfl ?_
  refine sp_getR (RX9, TX9, 4) dX9_init__23 clX9 (j := 1) (by decide) tw_369 t2 (Or.inr ⟨_, rfl⟩) ((P2 t 1 htl hne.symm).trans ht.2.2.1) ?_
  refine sp_aload_n dX9_init__26 rfl rfl ?_
  refine sp_getI (RX9, TX9, 4) dX9_init__27 clX9 (j := 3) (by decide) tw_375 t2 (Or.inl rfl) ?_
  refine sp_topi (I2 t 3 htl) ?_
  refine sp_bud (mc' := 1 + 0) (ms' := n2 + 0) rfl rfl ?_
  refine sp_cIr (M1 := sp_cpo M2 (t + 2) n2) (r := some (.ref (sp_n M2))) (st := [.ref o]) [.ref (t + 2), .int (sp_I M t 3)] [.int (sp_I M t 3), .ref (t + 2), .ref o] [.ref (sp_n M2), .ref o] dX9_init__30 okJ7_copyOf_59c91 tw_824 tw_825 (by decide) (by decide) rfl (Nat.le_of_ble_eq_true rfl) rfl rfl (sp_n_cpo _ _ _) (fun Q hQ => tCopyOf hG t22 hd0 hd1 (by rw [N2 _ ht2]; exact hd2) (by rw [N2 _ ht2]; exact hd3) (by omega) hQ) ?_
  have e3 : sp_is (sp_cpo M2 (t + 2) n2) o 8 := sp_is_cpo o2
  have hnt3 : ¬ sp_text (sp_cpo M2 (t + 2) n2) o := fun h => by
    have := h.2.2.1
    rw [sp_P_cpo, if_neg (by omega), P2o] at this
    cases this
  refine sp_putP (x := some (sp_n M2)) (RX9, TX9, 4) dX9_init__33 clX9 (j := 1) (by decide) tw_369 (Or.inr ⟨rfl, rfl, rfl⟩) (Or.inr ⟨_, rfl⟩) e3 (fun h => hG.2.2.2.2.2.1 _ o 1 _ h132 hnt3 h) ?_
  generalize hM4 : sp_setP (sp_cpo M2 (t + 2) n2) o 1 (some (sp_n M2)) = M4
  have n4 : sp_n M4 = sp_n M + 2 := by rw [← hM4, sp_n_setP, sp_n_cpo, n2']
  have T4 : ∀ i, i < sp_n M → sp_T M4 i = sp_T M i := fun i hi => by rw [← hM4, sp_T_setP, sp_T_cpo, if_neg (by omega), T2 i hi]
  have I4 : ∀ i j, i < sp_n M → sp_I M4 i j = sp_I M i j := fun i j hi => by rw [← hM4, sp_I_setP, sp_I_cpo _ _ _ _ _ (by omega), I2 i j hi]
  have t4 : sp_is M4 t 8 := ⟨by omega, by rw [T4 t htl]; exact ht.1.2⟩
  have o4 : sp_is M4 o 8 := ⟨by omega, by rw [T4 o hol]; exact ho.2⟩
  refine sp_aload_n dX9_init__36 rfl rfl ?_
  refine sp_aload_n dX9_init__37 rfl rfl ?_
  refine sp_getI (RX9, TX9, 4) dX9_init__38 clX9 (j := 2) (by decide) tw_371 t4 (Or.inl rfl) ?_
  refine sp_topi (I4 t 2 htl) ?_
  refine sp_putI (RX9, TX9, 4) dX9_init__41 clX9 (j := 2) (by decide) tw_371 (Or.inl rfl) (Or.inl rfl) o4 hG.I ?_
  refine sp_aload_n dX9_init__44 rfl rfl ?_
  refine sp_aload_n dX9_init__45 rfl rfl ?_
  refine sp_getI (RX9, TX9, 4) dX9_init__46 clX9 (j := 3) (by decide) tw_375 (M := sp_setI M4 o 2 (sp_I M t 2)) t4 (Or.inl rfl) ?_
  refine sp_topi (show sp_I (sp_setI M4 o 2 (sp_I M t 2)) t 3 = sp_I M t 3 by rw [sp_I_setI, if_neg (fun e => hne e.1.symm), I4 t 3 htl]) ?_
  refine sp_putI (RX9, TX9, 4) dX9_init__49 clX9 (j := 3) (by decide) tw_375 (Or.inl rfl) (Or.inl rfl) (M := sp_setI M4 o 2 (sp_I M t 2)) o4 hG.I ?_
  refine sp_vret dX9_init__52 rfl (fun _ => ?_)
  have : sp_tri M o t n1 n2 = sp_setI (sp_setI M4 o 2 (sp_I M t 2)) o 3 (sp_I M t 3) := by
    unfold sp_tri
    rw [hM2, show sp_n M + 1 = sp_n M2 from n2'.symm, hM4]
  rw [this] at hQ
  exact hQ
set_option maxRecDepth 100000 in
set_option maxHeartbeats 4000000 in
/-- trimmed(): a new text, and its two rows behind it -/
theorem tX9_trimmed {t n1 n2 : Nat} (hG : sp_Ok Ω) (ht : sp_text M t) (hc0 : ¬ sp_I M t 2 * 5 < 0) (hc1 : (sp_I M t 2 * 5).toNatClampNeg = n1) (hc2 : n1 ≤ sp_N M (t + 1)) (hc3 : sp_N M (t + 1) < 1000000) (hd0 : ¬ sp_I M t 3 < 0) (hd1 : (sp_I M t 3).toNatClampNeg = n2) (hd2 : n2 ≤ sp_N M (t + 2)) (hd3 : sp_N M (t + 2) < 1000000) (hn : sp_n M + 2 < 1000000) (hs : sp_WS M) (hQ : Q (some (.ref (sp_n M))) (sp_tri (sp_new M 13 0) (sp_n M) t n1 n2)) : sp_Mt g Ω mX9_trimmed 3 (n1 + n2 + 4) [.ref t] M Q := by
  have htl := ht.1.1
  have ht1 := ht.2.2.2.1.1
  have ht2 := ht.2.2.2.2.1
  have h132 := hs.1
  refine sp_Mt.of [some (.ref t)] (by decide) (by simp [sp_ent, Value.category]) rfl ?_
  refine sp_bud (mc' := 2 + 1) (ms' := (n1 + n2) + sp_nf 8) rfl rfl ?_
  refine sp_newo (c := 8) (RX9, TX9, 4) dX9_trimmed_0 clX9 tw_820 tw_363 tw_108 (by omega) (fun h => hG.2.2.2.2.2.2 M 13 0 h) ?_
  refine sp_dup dX9_trimmed_3 rfl ?_
  refine sp_aload_n dX9_trimmed_4 rfl rfl ?_
  have I1 : ∀ j, sp_I (sp_new M 13 0) t j = sp_I M t j := fun j => by rw [sp_I_new, if_neg (by omega)]
  have N1 : ∀ i, i < sp_n M → sp_N (sp_new M 13 0) i = sp_N M i := fun i hi => by rw [sp_N_new, if_neg (by omega)]
  refine sp_bud (mc' := 2 + 0) (ms' := (n1 + n2) + 0) rfl rfl ?_
  refine sp_callI (μ' := mX9_init_) (Qc := fun r' M' => r' = none ∧ M' = sp_tri (sp_new M 13 0) (sp_n M) t n1 n2) [.ref t] dX9_trimmed_5 okX9_init_ tw_821 rfl rfl tw_822 (by decide) (by decide) rfl (Nat.le_of_ble_eq_true rfl) (fun _ M' hq _ _ => ?_) (tTextInit hG ⟨by rw [sp_n_new]; omega, by rw [sp_T_new, if_pos rfl]⟩ h132 (by rw [sp_P_new, if_pos rfl]) (by rw [sp_P_new, if_pos rfl]) (sp_text_new ht) (by omega) (by rw [I1]; exact hc0) (by rw [I1]; exact hc1) (by rw [N1 _ ht1]; exact hc2) (by rw [N1 _ ht1]; exact hc3) (by rw [I1]; exact hd0) (by rw [I1]; exact hd1) (by rw [N1 _ ht2]; exact hd2) (by rw [N1 _ ht2]; exact hd3) (by rw [sp_n_new]; omega) ⟨rfl, rfl⟩) (fun r' M' hq => ?_) [.ref t, .ref (sp_n M), .ref (sp_n M)] rfl
  · rw [hq.2]
    unfold sp_tri
    rw [sp_n_setI, sp_n_setI, sp_n_setP, sp_n_cpo, sp_n_setP, sp_n_cpo]
  · obtain ⟨rfl, rfl⟩ := hq
    exact sp_aret (r := some (sp_n M)) dX9_trimmed_8 rfl (Or.inl ⟨_, rfl⟩) (fun _ => hQ)
end SpTri
