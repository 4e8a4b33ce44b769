theorem ws_ok : sp_Ok sp_WS := by
  refine ⟨fun M h => h, fun M f h => h, fun M f h => h, ?_, ?_, ?_, ?_⟩
  · intro M o k x ho hx h
    have hne : ∀ q : Nat, q < 132 → sh_T.getD q 0 ≠ 4 → q ≠ o + 11 := fun q hq hT e => hT (by
      have h1 := (rmA_11 h ho).2
      rw [← e, h.2.1 q hq] at h1
      exact h1)
    refine ⟨h.1, h.2.1, h.2.2.1, fun q hq => ?_, ?_, ?_, fun o' ho' k' t ht => ?_⟩
    · have hq2 : q.1 < 132 ∧ sh_T.getD q.1 0 ≠ 4 := (show ∀ q ∈ sh_P, q.1 < 132 ∧ sh_T.getD q.1 0 ≠ 4 by decide +kernel) q hq
      rw [sp_P_setP, if_neg (fun e => hne q.1 hq2.1 hq2.2 e.1)]
      exact h.2.2.2.1 q hq
    · obtain ⟨a, h1, h2⟩ := h.2.2.2.2.1
      exact ⟨a, h1, by rw [sp_P_setP, if_neg (fun e => hne 77 (by decide) (by decide) e.1)]; exact h2⟩
    · obtain ⟨a, h1, h2⟩ := h.2.2.2.2.2.1
      exact ⟨a, h1, by rw [sp_P_setP, if_neg (fun e => hne 77 (by decide) (by decide) e.1)]; exact h2⟩
    · have hT : sp_text M t := by
        rw [sp_P_setP] at ht
        split at ht
        · exact hx t ht
        · exact h.2.2.2.2.2.2 o' ho' k' t ht
      refine sp_text_P (fun e => ?_) hT
      have h1 := (rmA_11 h ho).2
      have h2 := hT.1.2
      rw [← e, h1] at h2
      omega
  · intro M j a hj ha h
    refine ⟨h.1, h.2.1, h.2.2.1, fun q hq => ?_, ?_, ?_, fun o' ho' k' t ht => ?_⟩
    · have hq2 : ¬ (q.1 = 77 ∧ (q.2.1 = 2 ∨ q.2.1 = 3)) := (show ∀ q ∈ sh_P, ¬ (q.1 = 77 ∧ (q.2.1 = 2 ∨ q.2.1 = 3)) by decide +kernel) q hq
      rw [sp_P_setP, if_neg (fun e => hq2 ⟨e.1, by rw [e.2]; exact hj⟩)]
      exact h.2.2.2.1 q hq
    · by_cases e : j = 2
      · exact ⟨a, ha, by rw [sp_P_setP, if_pos ⟨rfl, e.symm⟩]⟩
      · obtain ⟨b, h1, h2⟩ := h.2.2.2.2.1
        exact ⟨b, h1, by rw [sp_P_setP, if_neg (fun q => e q.2.symm)]; exact h2⟩
    · by_cases e : j = 3
      · exact ⟨a, ha, by rw [sp_P_setP, if_pos ⟨rfl, e.symm⟩]⟩
      · obtain ⟨b, h1, h2⟩ := h.2.2.2.2.2.1
        exact ⟨b, h1, by rw [sp_P_setP, if_neg (fun q => e q.2.symm)]; exact h2⟩
    · have hT : sp_text M t := by
        rw [sp_P_setP, if_neg (fun e => by rcases ho' with rfl | rfl | rfl | rfl | rfl | rfl <;> omega)] at ht
        exact h.2.2.2.2.2.2 o' ho' k' t ht
      refine sp_text_P (fun e => ?_) hT
      have h1 := (wsI_77 h).2
      have h2 := hT.1.2
      rw [← e, h1] at h2
      omega
  · intro M t j x ht hn h
    refine ⟨h.1, h.2.1, h.2.2.1, fun q hq => ?_, ?_, ?_, fun o' ho' k' t' ht' => ?_⟩
    · have hq2 : q.1 < 132 := (show ∀ q ∈ sh_P, q.1 < 132 by decide +kernel) q hq
      rw [sp_P_setP, if_neg (fun e => by omega)]
      exact h.2.2.2.1 q hq
    · obtain ⟨b, h1, h2⟩ := h.2.2.2.2.1
      exact ⟨b, h1, by rw [sp_P_setP, if_neg (fun q => by omega)]; exact h2⟩
    · obtain ⟨b, h1, h2⟩ := h.2.2.2.2.2.1
      exact ⟨b, h1, by rw [sp_P_setP, if_neg (fun q => by omega)]; exact h2⟩
    · have hT : sp_text M t' := by
        rw [sp_P_setP, if_neg (fun e => by rcases ho' with rfl | rfl | rfl | rfl | rfl | rfl <;> omega)] at ht'
        exact h.2.2.2.2.2.2 o' ho' k' t' ht'
      exact sp_text_P (fun e => hn (e ▸ hT)) hT
  · intro M t len h
    have h132 := h.1
    refine ⟨by rw [sp_n_new]; omega, fun i hi => by rw [sp_T_new, if_neg (by omega)]; exact h.2.1 i hi, fun i hi => by rw [sp_N_new, if_neg (by omega)]; exact h.2.2.1 i hi, fun q hq => ?_, ?_, ?_, fun o' ho' k' t' ht' => ?_⟩
    · have hq2 : q.1 < 132 := (show ∀ q ∈ sh_P, q.1 < 132 by decide +kernel) q hq
      rw [sp_P_new, if_neg (by omega)]
      exact h.2.2.2.1 q hq
    · obtain ⟨b, h1, h2⟩ := h.2.2.2.2.1
      exact ⟨b, h1, by rw [sp_P_new, if_neg (by omega)]; exact h2⟩
    · obtain ⟨b, h1, h2⟩ := h.2.2.2.2.2.1
      exact ⟨b, h1, by rw [sp_P_new, if_neg (by omega)]; exact h2⟩
    · have hlt : o' + 11 < 132 := by rcases ho' with rfl | rfl | rfl | rfl | rfl | rfl <;> omega
      rw [sp_P_new, if_neg (by omega)] at ht'
      exact sp_text_new (h.2.2.2.2.2.2 o' ho' k' t' ht')
theorem mm_T : ∀ i, i < 132 → sp_T mm_311 i = sh_T.getD i 0 := by decide +kernel
theorem mm_N : ∀ i, i < 132 → sp_N mm_311 i = sh_N.getD i 0 := by decide +kernel
theorem mm_P : ∀ q ∈ sh_P, sp_P mm_311 q.1 q.2.1 = some q.2.2 := by decide +kernel
set_option maxRecDepth 100000 in
theorem mm_texts (k : Nat) : ∀ o ∈ [17, 34, 50, 63, 75, 89], sp_P mm_311 o k = none := by
  intro o ho
  simp only [List.mem_cons, List.not_mem_nil, or_false] at ho
  rcases ho with rfl | rfl | rfl | rfl | rfl | rfl <;> rfl
theorem mm_ws : sp_WS mm_311 := by
  refine ⟨by decide +kernel, mm_T, mm_N, mm_P, ⟨90, Or.inl rfl, by decide +kernel⟩, ⟨91, Or.inr rfl, by decide +kernel⟩, ?_⟩
  intro o ho k t ht
  exfalso
  have h : sp_P mm_311 (o + 11) k = none := mm_texts k _ (by rcases ho with rfl | rfl | rfl | rfl | rfl | rfl <;> decide)
  rw [h] at ht
  cases ht
set_option maxRecDepth 100000 in
set_option maxHeartbeats 4000000 in
theorem whole_main {g : sp_G} {F : Nat} {Inv : Nat → sp_Mem → Prop} (hlen : sp_sl g ≤ 3072) (hP : sp_Pure F Inv) : sp_Wp g sp_Tr mL_law 1668 261932 0 [some (.ref (1000100 + 101)), none, none, none] [] mm_0 (fun r _ => r = some (.int 1)) := by
  refine sp_bud (mc' := 1667 + 1) (ms' := 261916 + sp_nf 9) rfl rfl ?_
  refine sp_newo2 (c := 9) (M1 := mm_1) 1667 261916 (RX10, TX10, 16) dL_law_0 clX10 tw_119 tw_120 tw_99 (show _ = 0 by decide +kernel) (by decide) rfl ?_
  refine sp_dup dL_law_3 rfl ?_
  refine sp_bud (mc' := 102 + 1565) (ms' := 3491 + 258425) rfl rfl ?_
  refine sp_cI (M1 := mm_224) (st := [.ref 0]) (mc1 := 102) (ms1 := 3491) 1565 258425 [] [.ref 0, .ref 0] dL_law_4 okX10_init tw_121 rfl rfl tw_122 (by decide) (by decide) rfl (Nat.le_of_ble_eq_true rfl) (by decide +kernel) rfl (fun Q hQ => cc_17 hQ) ?_
  refine sp_astore_n [some (.ref (1000100 + 101)), some (.ref 0), none, none] dL_law_7 rfl (by decide) rfl ?_
  refine sp_bud (mc' := 1564 + 1) (ms' := 258369 + sp_nf 10) rfl rfl ?_
  refine sp_newo2 (c := 10) (M1 := mm_225) 1564 258369 (RX11, TX11, 56) dL_law_8 clX11 tw_1187 tw_1188 tw_109 (show _ = 103 by decide +kernel) (by decide) rfl ?_
  refine sp_dup dL_law_11 rfl ?_
  refine sp_bud (mc' := 28 + 1536) (ms' := 20801 + 237568) rfl rfl ?_
  refine sp_cI (M1 := mm_311) (st := [.ref 103]) (mc1 := 28) (ms1 := 20801) 1536 237568 [] [.ref 103, .ref 103] dL_law_12 okX11_init tw_1189 rfl rfl tw_1190 (by decide) (by decide) rfl (Nat.le_of_ble_eq_true rfl) (by decide +kernel) rfl (fun Q hQ => cc_18 hQ) ?_
  refine sp_astore_n [some (.ref (1000100 + 101)), some (.ref 0), some (.ref 103), none] dL_law_15 rfl (by decide) rfl ?_
  refine sp_iconst (v := 0) dL_law_16 (by decide) ?_
  refine sp_istore_n [some (.ref (1000100 + 101)), some (.ref 0), some (.ref 103), some (.int 0)] dL_law_17 rfl (by decide) rfl ?_
  refine sp_chg (Ω' := sp_WS) (fun _ => mm_ws) (fun _ _ => trivial) ?_
  exact law_loop ws_ok hlen hP (fun _ => rfl) 512 0 mm_311 (by omega) (by omega) hP.1
set_option maxRecDepth 100000 in
set_option maxHeartbeats 4000000 in
/-- the law from its entry, out of the pure claim -/
theorem whole_pure {F : Nat} {Inv : Nat → sp_Mem → Prop} (hP : sp_Pure F Inv) {p : Program} {e : Env} {s : State} {m : MethodId} {below : List Frame} {meth : Method} {c : Code} (l : Launch) {b L : Nat} {xs : Nat → Int32} (hL : L ≤ 3072) (C0 : lw_At p s m meth c b L xs) : W p l e room_1 s m #[Value.ref b] below meth c s.heap [] 0 0 (lw_Z below #[Value.ref b] s) (entryFrame m ([Value.ref b] : List Value).toArray 4) := by
  obtain ⟨hx, hb, hr, hml, hown, hts, hX, hbl, hlocks, hgv, hname⟩ := id C0
  have hfl := flat_of_before _ hgv
  have hm : ∀ {w : Cond} (i : Nat), lw_tbl[i]? = some w → w.before #[Value.ref b] s = true := fun i h => hts _ (List.mem_of_getElem? h)
  have hf : ∀ {w : Cond} (i : Nat), st_fl[i]? = some w → w.before #[Value.ref b] s = true := fun i h => hfl _ (List.mem_of_getElem? h)
  have htb : ∀ w ∈ sp_tb, w.before #[Value.ref b] s = true := fun w h => hts w (List.mem_filter.mp h).1
  have hAz : ∀ a : Nat, a < s.heap.size → ¬ (fun q : Nat => s.heap.size ≤ q) a := fun a h => Nat.not_le.mpr h
  obtain ⟨c0, i0, k0⟩ := u_known (C := RX0) (T := TX0) (N := 1) (n := 1) htb inX0 (htb _ tw_134)
  obtain ⟨c1, i1, k1⟩ := u_known (C := RX1) (T := TX1) (N := 7) (n := 7) htb inX1 (htb _ tw_300)
  obtain ⟨c2, i2, k2⟩ := u_known (C := RX2) (T := TX2) (N := 9) (n := 9) htb inX2 (htb _ tw_357)
  obtain ⟨c3, i3, k3⟩ := u_known (C := RX3) (T := TX3) (N := 4) (n := 4) htb inX3 (htb _ tw_255)
  obtain ⟨c4, i4, k4⟩ := u_known (C := RX5) (T := TX5) (N := 16) (n := 16) htb inX5 (htb _ tw_158)
  obtain ⟨c5, i5, k5⟩ := u_known (C := RX6) (T := TX6) (N := 2) (n := 2) htb inX6 (htb _ tw_128)
  obtain ⟨c6, i6, k6⟩ := u_known (C := RX7) (T := TX7) (N := 6) (n := 6) htb inX7 (htb _ tw_152)
  obtain ⟨c7, i7, k7⟩ := u_known (C := RX8) (T := TX8) (N := 5) (n := 5) htb inX8 (htb _ tw_332)
  obtain ⟨c8, i8, k8⟩ := u_known (C := RX9) (T := TX9) (N := 4) (n := 4) htb inX9 (htb _ tw_363)
  obtain ⟨c9, i9, k9⟩ := u_known (C := RX10) (T := TX10) (N := 16) (n := 16) htb inX10 (htb _ tw_120)
  obtain ⟨c10, i10, k10⟩ := u_known (C := RX11) (T := TX11) (N := 56) (n := 56) htb inX11 (htb _ tw_1188)
  obtain ⟨dC, dI, hKc⟩ : ∃ (dC : Nat → ClassId) (dI : Nat → Nat → Nat), ∀ (k : Nat) (q : vw_C), vwCl[k]? = some q → u_Kn s q.1 q.2.1 q.2.2 (dC k) (dI k) := by
    refine ⟨fun k => match k with | 0 => c0 | 1 => c1 | 2 => c2 | 3 => c3 | 4 => c4 | 5 => c5 | 6 => c6 | 7 => c7 | 8 => c8 | 9 => c9 | _ => c10, fun k => match k with | 0 => i0 | 1 => i1 | 2 => i2 | 3 => i3 | 4 => i4 | 5 => i5 | 6 => i6 | 7 => i7 | 8 => i8 | 9 => i9 | _ => i10, ?_⟩
    intro k q hq
    match k, hq with
    | 0, hq => cases hq; exact k0
    | 1, hq => cases hq; exact k1
    | 2, hq => cases hq; exact k2
    | 3, hq => cases hq; exact k3
    | 4, hq => cases hq; exact k4
    | 5, hq => cases hq; exact k5
    | 6, hq => cases hq; exact k6
    | 7, hq => cases hq; exact k7
    | 8, hq => cases hq; exact k8
    | 9, hq => cases hq; exact k9
    | 10, hq => cases hq; exact k10
    | k + 11, hq => simp [vwCl] at hq
  obtain ⟨a0, b0, e0, f01, f02, f03⟩ := Cond.arrayClass_spec (htb _ tw_143)
  obtain ⟨a1, b1, e1, f11, f12, f13⟩ := Cond.arrayClass_spec (htb _ tw_330)
  obtain ⟨a2, b2, e2, f21, f22, f23⟩ := Cond.arrayClass_spec (htb _ tw_329)
  obtain ⟨e3, a3, b3, f31, f32, f33, f34, f35⟩ := Cond.arrayOver_spec (hm _ st_ar)
  obtain ⟨e4, a4, b4, f41, f42, f43, f44, f45⟩ := Cond.arrayOver_spec (hm _ st_at)
  obtain ⟨adK, adV, hvS, hvE⟩ := vk_Sof (args := #[Value.ref b]) (N := 10) (tm := st_tm) (len := sp_tlen) (byt := sp_tbyt) (A := fun q : Nat => s.heap.size ≤ q) (fun i hi => Nat.lt_trans (sp_tlen_sm i hi) (by decide)) (fun i hi => hf _ (st_0 i hi)) (fun i hi => hf _ (st_1 i hi)) (fun i hi => hf _ (st_2 i hi)) (fun i hi => hf _ (st_3 i hi)) (fun i hi j hj => hf _ (st_4 i hi j hj)) (fun i j hi hj hij => (st_5 i hi j hj hij).imp (fun h => hf _ h) (fun h => hf _ h)) hAz
  have hZc := va_Zof (A := fun q : Nat => s.heap.size ≤ q) (hm _ st_lc) (hm _ st_ic) (va_eqi (hf _ st_c)) hAz
  obtain ⟨tf, hZf⟩ : ∃ tf : Nat, va_Z "jdk/internal/util/Preconditions" "SIOOBE_FORMATTER" "Ljava/util/function/BiFunction;" .null (fun q : Nat => s.heap.size ≤ q) s s.heap ∨ va_Z "jdk/internal/util/Preconditions" "SIOOBE_FORMATTER" "Ljava/util/function/BiFunction;" (.ref tf) (fun q : Nat => s.heap.size ≤ q) s s.heap := by
    rcases va_Zqof (A := fun q : Nat => s.heap.size ≤ q) (hm _ st_lf) (hm _ st_if) (hf _ st_f) hAz with h | ⟨t, h⟩
    · exact ⟨0, Or.inl h⟩
    · exact ⟨t, Or.inr h⟩
  obtain ⟨g, hg⟩ : ∃ g : sp_G, g = (l, (dC, dI), s.heap.size, (fun k => match k with | 0 => a0 | 1 => a1 | 2 => a2 | 3 => a3 | _ => a4), adK, (fun i => if i = 100 then tf else if i = 101 then b else adV i), L, xs) := ⟨_, rfl⟩
  have hK : va_K (sp_D g) vwCl (sp_tys g) s := by
    subst hg
    refine ⟨hKc, fun k q hq => ?_⟩
    match k, hq with
    | 0, hq => cases hq; exact ⟨fun n z => ⟨fun k h => (by cases h), b0, f02, e0, f03⟩, f01⟩
    | 1, hq => cases hq; exact ⟨fun n z => ⟨fun k h => (by cases h), b1, f12, e1, f13⟩, f11⟩
    | 2, hq => cases hq; exact ⟨fun n z => ⟨fun k h => (by cases h), b2, f22, e2, f23⟩, f21⟩
    | 3, hq => cases hq; exact ⟨fun n z => ⟨fun k h => (by cases h), b3, f33, e3, f34⟩, b3, e3, f33, f34, f31, f35⟩
    | 4, hq => cases hq; exact ⟨fun n z => ⟨fun k h => (by cases h), b4, f43, e4, f44⟩, b4, e4, f43, f44, f41, f45⟩
    | k + 5, hq => simp [sp_tys] at hq
  have hXX : sp_X g s := by
    subst hg
    refine ⟨⟨fun q hq => ?_, va_Nw.of rfl (hm _ st_ct)⟩, va_AO.of (hm _ st_at), va_AO.of (hm _ st_ar), fun i q hq => ?_, ?_, hZc, hZf, hX, hbl, Nat.le_refl _⟩
    · obtain ⟨i, hi⟩ := List.getElem?_of_mem hq
      have hil : i < 14 := (List.getElem?_eq_some_iff.mp hi).1
      have h := st_7 i hil
      rw [hi] at h
      exact va_Nw.of rfl (hm _ h)
    · have hil : i < 10 := (List.getElem?_eq_some_iff.mp hq).1
      have h1 := st_6 i hil
      have hgd : sp_txt.getD i (0, "") = q := by rw [List.getD_eq_getElem?_getD, hq]; rfl
      have h2 := hvE i hil
      rw [hgd] at h1
      rw [st_tm, hgd] at h2
      exact vk_R.of (hm _ h1) h2
    · refine ⟨fun i hi => ?_, hvS.2⟩
      have h := hvS.1 i hi
      have e : (if i = 100 then tf else if i = 101 then b else adV i) = adV i := by rw [if_neg (by omega), if_neg (by omega)]
      show _ ∧ _ ∧ va_OF _ _ _ (.ref (if i = 100 then tf else if i = 101 then b else adV i)) _ _ _ _ ∧ va_T .byte (if i = 100 then tf else if i = 101 then b else adV i) _ _ _ _ _
      rw [e]
      exact h
  have hz : sp_z g = s.heap.size := by rw [hg]
  have hsl : sp_sl g = L := by rw [hg]
  have hcv : sp_cv g 101 = b := by rw [hg]; rfl
  have hll : sp_l g = l := by rw [hg]
  have hH : sp_HR g mm_0 s.heap := ⟨by rw [hz]; rfl, by decide, fun k q hq => by simp [sp_wl, show sp_n mm_0 = 0 from rfl] at hq⟩
  have hC : sp_C g mL_law p room_1 s m #[Value.ref b] meth c := ⟨hx, hb, hml, hr, hlocks, hown, htb, hK, by decide, by decide, hname, hXX, by rw [hz]; exact Nat.le_refl _⟩
  have hav : ([.ref (1000100 + 101)] : List Value).map (sp_rv g) = [Value.ref b] := by
    simp only [List.map_cons, List.map_nil, sp_rv, sp_ad_v, hcv]
  have hlr := sp_ent_pad g [.ref (1000100 + 101)] (nL := 4) (by rw [sp_lg_len]; simp [sp_ent, Value.category]) (lo := [some (.ref (1000100 + 101)), none, none, none]) (fun k v h => by
    match k, h with
    | 0, h => exact h
    | 1, h => simp at h
    | 2, h => simp at h
    | 3, h => simp at h
    | k + 4, h => simp at h)
  rw [hav] at hlr
  rw [lg_entry_eq]
  have hW := whole_main (g := g) (by rw [hsl]; exact hL) hP trivial p e room_1 s m #[Value.ref b] below meth c s.heap [] 0 0 _ hC hH va_S.rf hlr (by rw [hz]; rfl) (by decide) (by decide)
  intro T hT X
  rw [← hll] at X
  obtain ⟨t, a1, o, q1, q2, ⟨⟨r, M', w1, w2, -, -⟩, -⟩, Lc, ⟨f1, f2, f3⟩, hfree⟩ := hW T hT X
  subst w2
  refine ⟨t, a1, o, q1, q2, w1, f1, f2, f3.weaken (fun y hy hlt => ?_) (by decide) (by decide)⟩
  have h9 : sp_z g ≤ y.base := hfree y hy
  rw [hz] at h9
  exact absurd hlt (Nat.not_lt.mpr h9)
