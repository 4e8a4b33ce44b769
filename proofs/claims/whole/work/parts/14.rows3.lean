theorem sp_nz {v : Int32} (h : v = 0 ∨ v = 1) : narrow .boolean (.int v) = .int v := by rcases h with rfl | rfl <;> rfl
theorem sp_ne {x k : Int32} {n : Int} (h : ¬ x = k) (hk : k.toInt = n) : x.toInt ≠ n := fun e => h (Int32.toInt_inj.mp (e.trans hk.symm))
theorem sp_ix_lt {n j : Nat} {i : Int32} (h : sp_ix n i = some j) : j < n := by
  obtain ⟨h1, rfl⟩ := sp_ix_in h
  exact Nat.not_le.mp fun q => h1 (Or.inr q)
theorem ws_half2 {M : sp_Mem} {o : Nat} (hs : sp_WS M) (h : sp_P M 77 2 = some o) : sp_half o := by
  obtain ⟨a, h1, h2⟩ := hs.2.2.2.2.1
  rw [h2] at h; cases h; exact h1
theorem ws_half3 {M : sp_Mem} {o : Nat} (hs : sp_WS M) (h : sp_P M 77 3 = some o) : sp_half o := by
  obtain ⟨a, h1, h2⟩ := hs.2.2.2.2.2.1
  rw [h2] at h; cases h; exact h1
def sp_cpy (M : sp_Mem) (a b sp dp n : Nat) : sp_Mem := sp_rowI M b (va_cpy (sp_I M a) (sp_I M b) sp dp n)
def sp_cix (Na Nb : Nat) (sp dp n : Int32) : Option (Nat × Nat × Nat) := if sp < 0 ∨ dp < 0 ∨ n < 0 ∨ Na < sp.toNatClampNeg + n.toNatClampNeg ∨ Nb < dp.toNatClampNeg + n.toNatClampNeg then none else some (sp.toNatClampNeg, dp.toNatClampNeg, n.toNatClampNeg)
theorem sp_cix_all {Na Nb : Nat} {sp dp n : Int32} {k : Nat × Nat × Nat} (h : sp_cix Na Nb sp dp n = some k) : ¬ sp < 0 ∧ ¬ dp < 0 ∧ ¬ n < 0 ∧ sp.toNatClampNeg = k.1 ∧ dp.toNatClampNeg = k.2.1 ∧ n.toNatClampNeg = k.2.2 ∧ k.1 + k.2.2 ≤ Na ∧ k.2.1 + k.2.2 ≤ Nb := by
  unfold sp_cix at h
  split at h
  · cases h
  · rename_i hc
    cases h
    refine ⟨fun q => hc (Or.inl q), fun q => hc (Or.inr (Or.inl q)), fun q => hc (Or.inr (Or.inr (Or.inl q))), rfl, rfl, rfl, ?_, ?_⟩
    · exact Nat.not_lt.mp fun q => hc (Or.inr (Or.inr (Or.inr (Or.inl q))))
    · exact Nat.not_lt.mp fun q => hc (Or.inr (Or.inr (Or.inr (Or.inr q))))
section SpCix
variable {Na Nb : Nat} {sp dp n : Int32} {k : Nat × Nat × Nat} (h : sp_cix Na Nb sp dp n = some k)
theorem sp_cix_1 (h : sp_cix Na Nb sp dp n = some k) : ¬ sp < 0 := (sp_cix_all h).1
theorem sp_cix_2 (h : sp_cix Na Nb sp dp n = some k) : ¬ dp < 0 := (sp_cix_all h).2.1
theorem sp_cix_3 (h : sp_cix Na Nb sp dp n = some k) : ¬ n < 0 := (sp_cix_all h).2.2.1
theorem sp_cix_4 (h : sp_cix Na Nb sp dp n = some k) : sp.toNatClampNeg = k.1 := (sp_cix_all h).2.2.2.1
theorem sp_cix_5 (h : sp_cix Na Nb sp dp n = some k) : dp.toNatClampNeg = k.2.1 := (sp_cix_all h).2.2.2.2.1
theorem sp_cix_6 (h : sp_cix Na Nb sp dp n = some k) : n.toNatClampNeg = k.2.2 := (sp_cix_all h).2.2.2.2.2.1
theorem sp_cix_7 (h : sp_cix Na Nb sp dp n = some k) : k.1 + k.2.2 ≤ Na := (sp_cix_all h).2.2.2.2.2.2.1
theorem sp_cix_8 (h : sp_cix Na Nb sp dp n = some k) : k.2.1 + k.2.2 ≤ Nb := (sp_cix_all h).2.2.2.2.2.2.2
end SpCix
section SpRow3
variable {g : sp_G} {Ω : sp_Mem → Prop} {μ μ' : sp_MD} {mc ms pc : Nat} {lo : List (Option Value)} {st : List Value} {M M1 : sp_Mem} {Q : sp_Qt}
theorem sp_lif_eq {x y : Int64} {off : Int} {tgt : Nat} (d : decode μ.2.1 pc = .ok (.ifCond .eq off, 3)) (ht : (pc : Int) + off = (tgt : Int)) (kt : x = y → sp_Wp g Ω μ mc ms tgt lo st M Q) (kf : ¬ x = y → sp_Wp g Ω μ mc ms (pc + 3) lo st M Q) : sp_Wp g Ω μ mc ms pc lo (.int (lg_cmp x y) :: st) M Q :=
  sp_if_eq d ht (fun h => kt ((lg_cmp_eq x y).mp h)) (fun h => kf fun q => h ((lg_cmp_eq x y).mpr q))
theorem sp_lif_ne {x y : Int64} {off : Int} {tgt : Nat} (d : decode μ.2.1 pc = .ok (.ifCond .ne off, 3)) (ht : (pc : Int) + off = (tgt : Int)) (kt : ¬ x = y → sp_Wp g Ω μ mc ms tgt lo st M Q) (kf : x = y → sp_Wp g Ω μ mc ms (pc + 3) lo st M Q) : sp_Wp g Ω μ mc ms pc lo (.int (lg_cmp x y) :: st) M Q :=
  sp_if_ne d ht (fun h => kt fun q => h ((lg_cmp_eq x y).mpr q)) (fun h => kf ((lg_cmp_eq x y).mp h))
theorem sp_lif_lt {x y : Int64} {off : Int} {tgt : Nat} (d : decode μ.2.1 pc = .ok (.ifCond .lt off, 3)) (ht : (pc : Int) + off = (tgt : Int)) (kt : x < y → sp_Wp g Ω μ mc ms tgt lo st M Q) (kf : ¬ x < y → sp_Wp g Ω μ mc ms (pc + 3) lo st M Q) : sp_Wp g Ω μ mc ms pc lo (.int (lg_cmp x y) :: st) M Q :=
  sp_if_lt d ht (fun h => kt ((lg_cmp_lt x y).mp h)) (fun h => kf fun q => h ((lg_cmp_lt x y).mpr q))
theorem sp_lif_ge {x y : Int64} {off : Int} {tgt : Nat} (d : decode μ.2.1 pc = .ok (.ifCond .ge off, 3)) (ht : (pc : Int) + off = (tgt : Int)) (kt : y ≤ x → sp_Wp g Ω μ mc ms tgt lo st M Q) (kf : ¬ y ≤ x → sp_Wp g Ω μ mc ms (pc + 3) lo st M Q) : sp_Wp g Ω μ mc ms pc lo (.int (lg_cmp x y) :: st) M Q :=
  sp_if_ge d ht (fun h => kt ((lg_cmp_ge x y).mp h)) (fun h => kf fun q => h ((lg_cmp_ge x y).mpr q))
theorem sp_lif_gt {x y : Int64} {off : Int} {tgt : Nat} (d : decode μ.2.1 pc = .ok (.ifCond .gt off, 3)) (ht : (pc : Int) + off = (tgt : Int)) (kt : y < x → sp_Wp g Ω μ mc ms tgt lo st M Q) (kf : ¬ y < x → sp_Wp g Ω μ mc ms (pc + 3) lo st M Q) : sp_Wp g Ω μ mc ms pc lo (.int (lg_cmp x y) :: st) M Q :=
  sp_if_gt d ht (fun h => kt ((lg_cmp_gt x y).mp h)) (fun h => kf fun q => h ((lg_cmp_gt x y).mpr q))
theorem sp_lif_le {x y : Int64} {off : Int} {tgt : Nat} (d : decode μ.2.1 pc = .ok (.ifCond .le off, 3)) (ht : (pc : Int) + off = (tgt : Int)) (kt : x ≤ y → sp_Wp g Ω μ mc ms tgt lo st M Q) (kf : ¬ x ≤ y → sp_Wp g Ω μ mc ms (pc + 3) lo st M Q) : sp_Wp g Ω μ mc ms pc lo (.int (lg_cmp x y) :: st) M Q :=
  sp_if_le d ht (fun h => kt ((lg_cmp_le x y).mp h)) (fun h => kf fun q => h ((lg_cmp_le x y).mpr q))
theorem sp_copy2 {i a b s1 d1 n1 : Nat} {sp dp n : Int32} (d : decode μ.2.1 pc = .ok (.invokestatic i, 3)) (hl : Cond.methodLink μ.1.cls i arraycopyName ∈ sp_tb) (hnat : Cond.native arraycopyName ∈ sp_tb) (hst : Cond.static arraycopyName ∈ sp_tb) (hin : Cond.initialized "java/lang/System" ∈ sp_tb) (hG : sp_Ok Ω) (ha : sp_ar M a 0) (hb : sp_ar M b 0) (h3 : ¬ sp < 0) (h4 : ¬ dp < 0) (h5 : ¬ n < 0) (e1 : sp.toNatClampNeg = s1) (e2 : dp.toNatClampNeg = d1) (e3 : n.toNatClampNeg = n1) (h6 : s1 + n1 ≤ sp_N M a) (h7 : d1 + n1 ≤ sp_N M b) (hfr : 1 ≤ μ.2.2.2.2.1) (hlc : (st.map fun v => v.category).sum + (nativeFrameWords "java/lang/System" "arraycopy" 5 + 11) ≤ μ.2.2.2.2.2) (hM : sp_cpy M a b s1 d1 n1 = M1) (k : sp_Wp g Ω μ mc ms (pc + 3) lo st M1 Q) : sp_Wp g Ω μ mc ms pc lo (.int n :: .int dp :: .ref b :: .int sp :: .ref a :: st) M Q := by
  subst e1; subst e2; subst e3; subst hM
  exact sp_copy d hl hnat hst hin ha hb h3 h4 h5 h6 h7 hfr hlc hG.R k
theorem sp_putH2 {i c j a : Nat} (r : vw_C) (hG : sp_Ok Ω) (d : decode μ.2.1 pc = .ok (.putfield i, 3)) (hc : sp_cl c r) (hj : j < r.2.2) (hl : Cond.fieldLink μ.1.cls i r.1 (r.2.1 j).2.1 (r.2.1 j).2.2.1 ∈ sp_tb) (hfin : (r.2.1 j).2.2.2 = false) (hj2 : j = 2 ∨ j = 3) (ha : sp_half a) (ho : sp_is M 77 c) (hM : sp_setP M 77 j (some a) = M1) (ht : (∃ C, sp_ty c j = .object C) ∨ ∃ t, sp_ty c j = .array t) (k : sp_Wp g Ω μ mc ms (pc + 3) lo st M1 Q) : sp_Wp g Ω μ mc ms pc lo (.ref a :: .ref 77 :: st) M Q := by
  subst hM
  exact sp_putP (x := some a) r d hc hj hl (Or.inl hfin) ht ho (fun h => hG.2.2.2.2.1 M j a hj2 ha h) k
theorem sp_aast2 {o N j : Nat} {i : Int32} {x : Option Nat} (hG : sp_Ok Ω) (d : decode μ.2.1 pc = .ok (.aastore, 1)) (ho : sp_room o) (ha : sp_ar M (o + 11) 4) (hN : sp_N M (o + 11) = N) (hi : sp_ix N i = some j) (hx : ∀ t, x = some t → sp_text M t) (hM : sp_setP M (o + 11) j x = M1) (k : sp_Wp g Ω μ mc ms (pc + 1) lo st M1 Q) : sp_Wp g Ω μ mc ms pc lo (va_rf x :: .int i :: .ref (o + 11) :: st) M Q := by
  obtain ⟨h1, rfl⟩ := sp_ix_in hi
  subst hM
  exact sp_aast 4 8 (RX9, TX9, 4) (Or.inr ⟨rfl, rfl⟩) rfl d ha (by rw [hN]; exact h1) (fun v hv => (hx v hv).1) (fun h => hG.2.2.2.1 M o _ x ho hx h) k
theorem sp_aload_nQ {kf : Fin 4} {i : Nat} {x : Option Nat} (d : decode μ.2.1 pc = .ok (.aload_n kf, 1)) (hi : (kf : Nat) = i) (hv : lo[i]? = some (some (va_rf x))) (k : sp_Wp g Ω μ mc ms (pc + 1) lo (va_rf x :: st) M Q) : sp_Wp g Ω μ mc ms pc lo st M Q := by
  cases x with
  | none => exact sp_aload_nN d hi hv k
  | some a => exact sp_aload_n d hi hv k
theorem sp_aloadQ {i : Nat} {x : Option Nat} (d : decode μ.2.1 pc = .ok (.aload i, 2)) (hv : lo[i]? = some (some (va_rf x))) (k : sp_Wp g Ω μ mc ms (pc + 2) lo (va_rf x :: st) M Q) : sp_Wp g Ω μ mc ms pc lo st M Q := by
  cases x with
  | none => exact sp_aloadN d hv k
  | some a => exact sp_aload d hv k
theorem sp_astore_nQ {kf : Fin 4} {i : Nat} {x : Option Nat} (lo' : List (Option Value)) (d : decode μ.2.1 pc = .ok (.astore_n kf, 1)) (hi : (kf : Nat) = i) (hn : i < μ.2.2.1) (hs : sp_lst lo i (va_rf x) = lo') (k : sp_Wp g Ω μ mc ms (pc + 1) lo' st M Q) : sp_Wp g Ω μ mc ms pc lo (va_rf x :: st) M Q := by
  cases x with
  | none => exact sp_astore_nN lo' d hi hn hs k
  | some a => exact sp_astore_n lo' d hi hn hs k
theorem sp_astoreQ {i : Nat} {x : Option Nat} (lo' : List (Option Value)) (d : decode μ.2.1 pc = .ok (.astore i, 2)) (hn : i < μ.2.2.1) (hs : sp_lst lo i (va_rf x) = lo') (k : sp_Wp g Ω μ mc ms (pc + 2) lo' st M Q) : sp_Wp g Ω μ mc ms pc lo (va_rf x :: st) M Q := by
  cases x with
  | none => exact sp_astoreN lo' d hn hs k
  | some a => exact sp_astore lo' d hn hs k
end SpRow3
def sp_b01 (v : Int32) : Option Unit := if v = 0 ∨ v = 1 then some () else none
theorem sp_b01_e {v : Int32} {u : Unit} (h : sp_b01 v = some u) : v = 0 ∨ v = 1 := by
  unfold sp_b01 at h
  split at h
  · assumption
  · cases h
def sp_mq {β : Type} (q : Option Nat) (a : β) (f : Nat → β) : β := match q with
  | none => a
  | some t => f t
theorem sp_mq_e {β : Type} {q : Option Nat} {a : β} {f : Nat → β} {r : β} (h : sp_mq q a f = r) : (q = none ∧ a = r) ∨ ∃ t, q = some t ∧ f t = r := by
  cases q with
  | none => exact Or.inl ⟨rfl, h⟩
  | some t => exact Or.inr ⟨t, rfl, h⟩
/-- more may be held from here on -/
theorem sp_chg {g : sp_G} {Ω Ω' : sp_Mem → Prop} {μ : sp_MD} {mc ms pc : Nat} {lo : List (Option Value)} {st : List Value} {M : sp_Mem} {Q : sp_Qt} (h1 : Ω M → Ω' M) (h2 : ∀ M', Ω' M' → Ω M') (k : sp_Wp g Ω' μ mc ms pc lo st M Q) : sp_Wp g Ω μ mc ms pc lo st M Q := by
  intro ho p e R s m args below meth c H locs cells slots ls C hH hS hl g0 g1 g2 T hT X
  obtain ⟨t, a1, o, b1, b2, ⟨⟨r, M', q1, q2, q3, q4⟩, q5⟩, b4⟩ := k (h1 ho) p e R s m args below meth c H locs cells slots ls C hH hS hl g0 g1 g2 T hT X
  exact ⟨t, a1, o, b1, b2, ⟨⟨r, M', q1, q2, h2 _ q3, q4⟩, q5⟩, b4⟩
theorem sp_text_I {M : sp_Mem} {t : Nat} {f : Nat → Nat → Int32} (h : sp_text M t) : sp_text (f, M.2) t := h
theorem sp_text_P {M : sp_Mem} {t q k : Nat} {x : Option Nat} (hq : q ≠ t) (h : sp_text M t) : sp_text (sp_setP M q k x) t := by
  refine ⟨h.1, ?_, ?_, h.2.2.2.1, h.2.2.2.2⟩
  · rw [sp_P_setP, if_neg (fun e => hq e.1.symm)]; exact h.2.1
  · rw [sp_P_setP, if_neg (fun e => hq e.1.symm)]; exact h.2.2.1
theorem sp_text_new {M : sp_Mem} {t tg len : Nat} (h : sp_text M t) : sp_text (sp_new M tg len) t := by
  have h1 := h.1.1
  have h2 := h.2.2.2.1.1
  have h3 := h.2.2.2.2.1
  refine ⟨⟨by rw [sp_n_new]; omega, by rw [sp_T_new, if_neg (by omega)]; exact h.1.2⟩, ?_, ?_, ⟨by rw [sp_n_new]; omega, by rw [sp_T_new, if_neg (by omega)]; exact h.2.2.2.1.2⟩, ⟨by rw [sp_n_new]; omega, by rw [sp_T_new, if_neg (by omega)]; exact h.2.2.2.2.2⟩⟩
  · rw [sp_P_new, if_neg (by omega)]; exact h.2.1
  · rw [sp_P_new, if_neg (by omega)]; exact h.2.2.1
/-- a text once made stays one -/
theorem sp_Ok_text {Ω : sp_Mem → Prop} (hG : sp_Ok Ω) (t : Nat) : sp_Ok (fun M => Ω M ∧ sp_text M t) := by
  refine ⟨fun M h => hG.1 M h.1, fun M f h => ⟨hG.2.1 M f h.1, h.2⟩, fun M f h => ⟨hG.2.2.1 M f h.1, h.2⟩, fun M o k x ho hx h => ⟨hG.2.2.2.1 M o k x ho hx h.1, sp_text_P ?_ h.2⟩, fun M j a hj ha h => ⟨hG.2.2.2.2.1 M j a hj ha h.1, sp_text_P ?_ h.2⟩, fun M q j x hq hn h => ⟨hG.2.2.2.2.2.1 M q j x hq hn h.1, sp_text_P (fun e => hn (e ▸ h.2)) h.2⟩, fun M tg len h => ⟨hG.2.2.2.2.2.2 M tg len h.1, sp_text_new h.2⟩⟩
  · intro e
    have h1 := (rmA_11 (hG.1 M h.1) ho).2
    have h2 := h.2.1.2
    rw [← e, h1] at h2
    omega
  · intro e
    have h1 := (wsI_77 (hG.1 M h.1)).2
    have h2 := h.2.1.2
    rw [← e, h1] at h2
    omega
def sp_slen (j : Nat) : Int32 := Int32.ofNat (sp_tlen.getD j 0)
def sp_chr (j k : Nat) : Int32 := (sp_tbyt.getD j []).getD k 0
section SpRow4
variable {g : sp_G} {Ω : sp_Mem → Prop} {μ μ' : sp_MD} {mc ms pc : Nat} {lo : List (Option Value)} {st : List Value} {M M1 : sp_Mem} {Q : sp_Qt}
theorem sp_cVS {i n j : Nat} {r : Option Value} (av : List Value) (st0 st1 : List Value) (d : decode μ.2.1 pc = .ok (.invokevirtual i, 3)) (hm : sp_m μ' n) (hl : Cond.methodLink μ.1.cls i μ'.1 ∈ sp_tb) (hst : Cond.instanceMethod μ'.1 ∈ sp_tb) (hsel : Cond.selects μ'.1.cls μ'.1 μ'.1 ∈ sp_tb) (hfr : μ'.2.2.2.2.1 + 1 ≤ μ.2.2.2.2.1) (hlc : 8 + (μ'.2.2.1 + 11) + μ'.2.2.2.2.2 ≤ μ.2.2.2.2.2) (hn : av.length = n) (hcat : (st.map fun v => v.category).sum ≤ 8) (hs : av.reverse ++ .ref (1000000 + j) :: st = st0) (hs1 : r.toList ++ st = st1) (hj : j < 10) (hr : μ'.1.cls = "java/lang/String") (call : ∀ Q' : sp_Qt, Q' r M1 → sp_Mt g Ω μ' 0 0 (.ref (1000000 + j) :: av) M Q')
    (k : sp_Wp g Ω μ 0 0 (pc + 3) lo st1 M1 Q) : sp_Wp g Ω μ 0 0 pc lo st0 M Q :=
  sp_callV0 (mc1 := 0) (ms1 := 0) (mc := 0) (ms := 0) (Qc := fun r' M' => r' = r ∧ M' = M1) av d hm hl hst hsel hfr hlc hn hcat (fun _ _ _ h1 h2 => by omega) (fun s H locs => sp_recvS hj hr s H locs) (call _ ⟨rfl, rfl⟩) (fun r' M' hq => by obtain ⟨rfl, rfl⟩ := hq; rw [hs1]; exact k) st0 hs
end SpRow4
def sp_max (x y : Int32) : Int32 := if x < y then y else x
def sp_min (x y : Int32) : Int32 := if y < x then y else x
theorem tw_max : Cond.code Lib.Math.max.name Lib.Math.max.code 2 (some .int) ∈ sp_tb := sp_mem 537 (by decide +kernel) (by decide +kernel)
theorem tw_min : Cond.code Lib.Math.min.name Lib.Math.min.code 2 (some .int) ∈ sp_tb := sp_mem 534 (by decide +kernel) (by decide +kernel)
section SpMath
variable {g : sp_G} {Ω : sp_Mem → Prop} {μ : sp_MD} {mc ms pc : Nat} {lo : List (Option Value)} {st : List Value} {M : sp_Mem} {Q : sp_Qt}
theorem sp_mmax {i : Nat} {x y : Int32} (d : decode μ.2.1 pc = .ok (.invokestatic i, 3)) (hl : Cond.methodLink μ.1.cls i Lib.Math.max.name ∈ sp_tb) (hfr : 1 ≤ μ.2.2.2.2.1) (hlc : (st.map fun v => v.category).sum + 13 ≤ μ.2.2.2.2.2) (k : sp_Wp g Ω μ mc ms (pc + 3) lo (.int (sp_max x y) :: st) M Q) : sp_Wp g Ω μ mc ms pc lo (.int y :: .int x :: st) M Q := by
  intro ho p e R s m args below meth c H locs cells slots ls C hH hS hl0 h0 h1 h2
  exact va_mmax C.1 C.2.1 (C.2.2.1.trans hl0.1.symm) C.2.2.2.2.2.1 (C.2.2.2.2.2.2.1 _ hl) (C.2.2.2.2.2.2.1 _ tw_536) (C.2.2.2.2.2.2.1 _ tw_110) (C.2.2.2.2.2.2.1 _ tw_max) (Nat.le_trans hfr C.2.2.2.2.2.2.2.2.1) (by rw [sp_cats]; exact Nat.le_trans hlc C.2.2.2.2.2.2.2.2.2.1) (by omega) (by omega) d (k ho p e R s m args below meth c H locs cells slots ls C hH hS hl0 h0 h1 h2)
theorem sp_mmin {i : Nat} {x y : Int32} (d : decode μ.2.1 pc = .ok (.invokestatic i, 3)) (hl : Cond.methodLink μ.1.cls i Lib.Math.min.name ∈ sp_tb) (hfr : 1 ≤ μ.2.2.2.2.1) (hlc : (st.map fun v => v.category).sum + 13 ≤ μ.2.2.2.2.2) (k : sp_Wp g Ω μ mc ms (pc + 3) lo (.int (sp_min x y) :: st) M Q) : sp_Wp g Ω μ mc ms pc lo (.int y :: .int x :: st) M Q := by
  intro ho p e R s m args below meth c H locs cells slots ls C hH hS hl0 h0 h1 h2
  exact va_mmin C.1 C.2.1 (C.2.2.1.trans hl0.1.symm) C.2.2.2.2.2.1 (C.2.2.2.2.2.2.1 _ hl) (C.2.2.2.2.2.2.1 _ tw_533) (C.2.2.2.2.2.2.1 _ tw_110) (C.2.2.2.2.2.2.1 _ tw_min) (Nat.le_trans hfr C.2.2.2.2.2.2.2.2.1) (by rw [sp_cats]; exact Nat.le_trans hlc C.2.2.2.2.2.2.2.2.2.1) (by omega) (by omega) d (k ho p e R s m args below meth c H locs cells slots ls C hH hS hl0 h0 h1 h2)
end SpMath
