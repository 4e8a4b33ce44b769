/-! ===== nights ===== -/
theorem l_modI {a b : Int64} {x y : Nat} (ha : a.toInt = x) (hb : b.toInt = y) (hy : 0 < y) (hx : x < 2 ^ 62) : (a - a / b * b).toInt = ((x % y : Nat) : Int) := by
  have hd : (a / b).toInt = ((x / y : Nat) : Int) := by
    rw [l_div (by rw [hb]; omega), ha, hb]; rfl
  have hle : x / y * y ≤ x := Nat.div_mul_le_self x y
  have hm : (a / b * b).toInt = ((x / y * y : Nat) : Int) := by
    have : ((x / y : Nat) : Int) * (y : Int) = ((x / y * y : Nat) : Int) := (Int.natCast_mul _ _).symm
    rw [l_mul (by rw [hd, hb, this]; omega) (by rw [hd, hb, this]; omega), hd, hb, this]
  have h := Nat.div_add_mod x y
  rw [Nat.mul_comm] at h
  rw [l_sub (by rw [ha, hm]; omega) (by rw [ha, hm]; omega), ha, hm]
  omega
/-- the draws' next number -/
def dwN (s : Nat) : Nat := (s * 1103 + 12345) % 1000003
theorem dwN_lt (s : Nat) : dwN s < 1000003 := Nat.mod_lt _ (by omega)
theorem dw_l {s : Nat} (hs : s < 1000003) : ((Int32.toInt64 (nI s)) * 1103 + 12345) - ((Int32.toInt64 (nI s)) * 1103 + 12345) / 1000003 * 1000003 = Int32.toInt64 (nI (dwN s)) := by
  have h0 : (Int32.toInt64 (nI s)).toInt = s := by rw [n_l, nI_toInt (by omega)]
  have h1 : ((Int32.toInt64 (nI s)) * 1103).toInt = ((s * 1103 : Nat) : Int) := by
    rw [l_mul (by rw [h0, show (1103 : Int64).toInt = 1103 from rfl]; omega) (by rw [h0, show (1103 : Int64).toInt = 1103 from rfl]; omega), h0, show (1103 : Int64).toInt = 1103 from rfl]; omega
  have h2 : ((Int32.toInt64 (nI s)) * 1103 + 12345).toInt = ((s * 1103 + 12345 : Nat) : Int) := by
    rw [l_add (by rw [h1, show (12345 : Int64).toInt = 12345 from rfl]; omega) (by rw [h1, show (12345 : Int64).toInt = 12345 from rfl]; omega), h1, show (12345 : Int64).toInt = 12345 from rfl]; omega
  have := dwN_lt s
  rw [l_eq, l_modI h2 (show (1000003 : Int64).toInt = ((1000003 : Nat) : Int) from rfl) (by omega) (by omega), n_l, nI_toInt (by omega)]
  rfl
theorem dr_c {M : sp_Mem} {s m : Nat} (hs : sp_I M 77 6 = nI s) (hs3 : s < 1000003) (hm : 0 < m) (hm6 : m ≤ 6) : fX1_draw M (nI m) = some (nI (dwN s % m), sp_setI M 77 6 (nI (dwN s))) := by
  have := dwN_lt s
  unfold fX1_draw
  simp only [sp_do]
  rw [hs, dw_l hs3, i64_32, if_neg (nI_nle hm (by omega)), if_neg (nI_ne0 hm (by omega)), I_eq, nI_mod hm (by omega) (by omega)]
theorem dr_r {M : sp_Mem} {s m : Nat} (hs : sp_L M 103 52 = Int32.toInt64 (nI s)) (hs3 : s < 1000003) (hm : 0 < m) (hm6 : m ≤ 6) : fX11_draw M (nI m) = some (nI (dwN s % m), sp_setL M 103 52 (Int32.toInt64 (nI (dwN s)))) := by
  have := dwN_lt s
  have hmod := Nat.mod_lt (dwN s) hm
  have hne : ¬ Int32.toInt64 (nI m) = 0 := by
    rw [l_eq, n_l, nI_toInt (by omega), show (0 : Int64).toInt = 0 from rfl]; omega
  unfold fX11_draw
  simp only [sp_do]
  rw [hs, dw_l hs3, if_neg hne, L_eq]
  have e : Int32.toInt64 (nI (dwN s)) - Int32.toInt64 (nI (dwN s)) / Int32.toInt64 (nI m) * Int32.toInt64 (nI m) = Int32.toInt64 (nI (dwN s % m)) := by
    rw [l_eq, l_modI (x := dwN s) (y := m) (by rw [n_l, nI_toInt (by omega)]) (by rw [n_l, nI_toInt (by omega)]) hm (by omega), n_l, nI_toInt (by omega)]
  rw [e, i64_32]
/-- one time: the row when drawn deed is done, whether there was a call -/
def ntR (lf : Option (List ev_C)) (r : Nat → Int32) (s q d : Nat) : Nat → Int32 := if d = 0 then (if canC lf r s q then callR r s q else r) else if d = 1 then (match wkT r q (s % 4 + 1) with
  | none => r
  | some e => up r (21 + q) (nI e)) else r
/-- seed, row, calls -/
def ntX (lf : Option (List ev_C)) (n p : Nat) (st : Nat × (Nat → Int32) × Nat) : Nat × (Nat → Int32) × Nat := (dwN (dwN (dwN st.1)), passR lf (ntR lf st.2.1 (dwN st.1 % n) (dwN (dwN st.1) % p) (dwN (dwN (dwN st.1)) % 3)) 0 n, if dwN (dwN (dwN st.1)) % 3 = 0 ∧ canC lf st.2.1 (dwN st.1 % n) (dwN (dwN st.1) % p) = true then st.2.2 + 1 else st.2.2)
def ntF (lf : Option (List ev_C)) (n p : Nat) : Nat → Nat × (Nat → Int32) × Nat → Nat × (Nat → Int32) × Nat
  | 0, st => st
  | m + 1, st => if 999 ≤ st.2.1 5 then st else ntF lf n p m (ntX lf n p st)
section Nights
variable {F n p : Nat} {r : Nat → Int32} {lf : Option (List ev_C)}
theorem callR_out {s q j : Nat} (h : j < 9 ∨ 21 ≤ j) (hs : s < 6) : callR r s q j = r j := by
  unfold callR
  split
  · rw [up_n _ _ (by omega), up_n _ _ (by omega)]
  · rw [up_n _ _ (by omega)]
theorem ntR_out {s q d j : Nat} (h : j < 9 ∨ 26 ≤ j) (hs : s < 6) (hq : q < 5) : ntR lf r s q d j = r j := by
  unfold ntR
  split
  · split
    · exact callR_out (by omega) hs
    · rfl
  · split
    · cases wkT r q (s % 4 + 1) with
      | none => rfl
      | some e => exact up_n _ _ (by omega)
    · rfl
theorem m_lt {r5 : Int32} (hB : wi r5 0 999) (h : ¬ 999 ≤ r5) : wi r5 0 998 := by
  rw [n_le, show (999 : Int32).toInt = 999 from rfl] at h
  exact ⟨hB.1, by omega⟩
theorem ni_c {o : Nat} {kx : Int32 → sp_Mem → Option (Int32 × sp_Mem)} {q : Nat} (ho : o = 39) (hq : q ≤ 60) (hn0 : 0 < n) (hp0 : 0 < p) (hp5 : p ≤ 5) : ∀ (m i k : Nat) (M : sp_Mem) (st : Nat × (Nat → Int32) × Nat), i + m = q → m < k → st.1 < 1000003 → sp_I M 77 6 = nI st.1 → CX F M o st.2.1 lf n 999 → st.2.1 1 = nI p → sp_WS M → ∃ M', fX1_playNights_l11 F o kx k (nI q) (nI st.2.2) (nI i) M = kx (nI (ntF lf n p m st).2.2) M' ∧ CX F M' o (ntF lf n p m st).2.1 lf n 999 ∧ sp_WS M' := by
  subst ho
  intro m
  induction m with
  | zero =>
    intro i k M st hi hk hs hseed h h1 hw
    obtain ⟨k, rfl⟩ : ∃ m, k = m + 1 := ⟨k - 1, by omega⟩
    refine ⟨M, ?_, h, hw⟩
    unfold fX1_playNights_l11
    rw [if_pos (nI_le (by omega) (by omega))]
    rfl
  | succ m ih =>
    intro i k M st hi hk hs hseed h h1 hw
    obtain ⟨k, rfl⟩ : ∃ m, k = m + 1 := ⟨k - 1, by omega⟩
    obtain ⟨s0, r0, c0⟩ := st
    dsimp only at hs hseed h h1 ⊢
    have h6 := h.2.2.2.2.2.2.2
    have hR := h.2.2.2.1
    have hB := h.2.2.2.2.1.2
    rw [show ntF lf n p (m + 1) (s0, r0, c0) = if 999 ≤ r0 5 then (s0, r0, c0) else ntF lf n p m (ntX lf n p (s0, r0, c0)) from rfl]
    have hmin : sp_I M (39 + 10) 0 = r0 5 := rm_term hR (k := 0) (by omega)
    unfold fX1_playNights_l11
    rw [if_neg (nI_ge (by omega) (by omega)), hmin]
    by_cases hm : 999 ≤ r0 5
    · rw [if_pos hm, if_pos hm]
      exact ⟨M, rfl, h, hw⟩
    · rw [if_neg hm, if_neg hm]
      have e4 : sp_I M 39 4 = nI n := (rm_s hR).trans h.2.2.2.2.2.2.1
      have e8 : sp_I M 39 8 = nI p := (rm_p hR).trans h1
      have d1 := dr_c (M := M) hseed hs hn0 h6
      have d2 := dr_c (M := sp_setI M 77 6 (nI (dwN s0))) (m := p) (I_eq _ _ _ _) (dwN_lt _) hp0 (by omega)
      have d3 := dr_c (M := sp_setI (sp_setI M 77 6 (nI (dwN s0))) 77 6 (nI (dwN (dwN s0)))) (m := 3) (I_eq _ _ _ _) (dwN_lt _) (by omega) (by omega)
      rw [e4, d1, Option.bind_some]
      dsimp only
      rw [I_ne _ _ _ (show (39 : Nat) ≠ 77 by decide), e8, d2, Option.bind_some]
      dsimp only
      have d3 : fX1_draw _ 3 = _ := d3
      rw [d3, Option.bind_some]
      dsimp only
      have hsl := Nat.mod_lt (dwN s0) hn0
      have hql := Nat.mod_lt (dwN (dwN s0)) hp0
      have hdl := Nat.mod_lt (dwN (dwN (dwN s0))) (show 0 < 3 by omega)
      have hsd := dwN_lt (dwN (dwN s0))
      generalize hA : sp_setI (sp_setI (sp_setI M 77 6 (nI (dwN s0))) 77 6 (nI (dwN (dwN s0)))) 77 6 (nI (dwN (dwN (dwN s0)))) = A
      have hfrA : sp_fr [] [(77, 6)] M A := by
        rw [← hA]
        exact ((sp_fr_I (Or.inr (by decide)) rfl).tr (sp_fr_I (Or.inr (by decide)) rfl)).tr (sp_fr_I (Or.inr (by decide)) rfl)
      have hwA := WS_fr0 hfrA (by decide +kernel) (by decide +kernel) hw
      have hseedA : sp_I A 77 6 = nI (dwN (dwN (dwN s0))) := by rw [← hA]; exact I_eq _ _ _ _
      have hCA : CX F A 39 r0 lf n 999 := by
        obtain ⟨hF, hN, ho, hR, hB, hL, hn, h6⟩ := h
        have hIA : ∀ i, i ≠ 77 → sp_I A i = sp_I M i := fun i hi => funext fun j => hfrA.1 i j (by simp) (by simp [hi])
        refine ⟨hF, by rw [hfrA.2.2.2.2.1]; exact hN, ho, fun i hi => ?_, hB, Law_fr hL (fun j _ => hfrA.2.2.1 _ _ (by simp) (by simp)) (fun i hi => hIA i (by omega)) hfrA.2.2.2.2.1 rfl rfl (fun _ _ _ => rfl), hn, h6⟩
        have := fa_le i hi
        rw [ro_at, hIA _ (by omega), ← ro_at]
        exact hR i hi
      have hX : ntX lf n p (s0, r0, c0) = (dwN (dwN (dwN s0)), passR lf (ntR lf r0 (dwN s0 % n) (dwN (dwN s0) % p) (dwN (dwN (dwN s0)) % 3)) 0 n, if dwN (dwN (dwN s0)) % 3 = 0 ∧ canC lf r0 (dwN s0 % n) (dwN (dwN s0) % p) = true then c0 + 1 else c0) := rfl
      rw [hX]
      generalize dwN (dwN (dwN s0)) = s3 at hdl hsd hseedA ⊢
      generalize dwN s0 % n = s at hsl ⊢
      generalize dwN (dwN s0) % p = qq at hql ⊢
      generalize hd : s3 % 3 = d at hdl ⊢
      have hn5 : ∀ j, (j < 9 ∨ 26 ≤ j) → ntR lf r0 s qq d j = r0 j := fun j hj => ntR_out hj (by omega) (by omega)
      -- the MINUTE behind it
      have next : ∀ (c : Nat) (A2 : sp_Mem), sp_fr [4, 3, 41, 42, 44] [] A A2 → CX F A2 39 (ntR lf r0 s qq d) lf n 999 → ∃ M', fX1_playNights_j101 F 39 (fX1_playNights_l11 F 39 kx k) kx (nI q) (nI c) (nI i) A2 = kx (nI (ntF lf n p m (s3, passR lf (ntR lf r0 s qq d) 0 n, c)).2.2) M' ∧ CX F M' 39 (ntF lf n p m (s3, passR lf (ntR lf r0 s qq d) 0 n, c)).2.1 lf n 999 ∧ sp_WS M' := by
        intro c A2 hf hC2
        have hw2 := WS_fr0 hf (by decide +kernel) (by decide +kernel) hwA
        have hC3 : CX F A2 39 (ntR lf r0 s qq d) lf n 998 := CX_T hC2 (by rw [hn5 5 (by omega)]; exact m_lt hB.2.1 hm) (by decide)
        obtain ⟨A3, g1, g2⟩ := pass_c (a := 0) (b := n) hC3 (by decide) (by omega) (Nat.le_refl n)
        have g1 : fX6_passMinute F A2 39 0 (nI n - 1) = some A3 := g1
        have hf3 := frX6_passMinute g1
        have hw3 := WS_fr0 hf3 (by decide +kernel) (by decide +kernel) hw2
        have e4' : sp_I A2 39 4 = nI n := (rm_s hC2.2.2.2.1).trans hC2.2.2.2.2.2.2.1
        obtain ⟨M', f1, f2, f3⟩ := ih (i + 1) k A3 (s3, passR lf (ntR lf r0 s qq d) 0 n, c) (by omega) (by omega) hsd (by
          rw [hf3.1 77 6 (by decide) (by simp), hf.1 77 6 (by decide) (by simp)]; exact hseedA) g2 (by
          show passR lf (ntR lf r0 s qq d) 0 n 1 = nI p
          rw [passR_out (by omega), hn5 1 (by omega)]; exact h1) hw3
        refine ⟨M', ?_, f2, f3⟩
        unfold fX1_playNights_j101
        rw [e4', g1, Option.bind_some, nI_1]
        exact f1
      have hd2 : d = 0 ∨ d = 1 ∨ d = 2 := by omega
      rcases hd2 with rfl | rfl | rfl
      · rw [if_pos (show nI 0 = 0 from rfl)]
        obtain ⟨A2, k1, k2⟩ := call_c (p := qq) hCA hsl h1 hql hp5
        cases hc : canC lf r0 s qq with
        | false =>
          obtain ⟨m1, m2⟩ := k1 hc
          have hfc := frX6_callSpark m1
          rw [m1, Option.bind_some, if_pos (show (-3 : Int32) < 0 by decide)]
          unfold fX1_playNights_j82
          rw [if_neg (by decide), if_neg (by simp [hc])]
          have hN : ntR lf r0 s qq 0 = r0 := by unfold ntR; rw [if_pos rfl, hc]; rfl
          have := next c0 A2 (hfc.mono (by decide) (fun _ h => h)) (by rw [hN]; exact m2)
          exact this
        | true =>
          obtain ⟨m1, m2⟩ := k2 hc
          have hfc := frX6_callSpark m1
          have hnn : ¬ farR r0 s qq < 0 := nI_pos (by
            have hB2 := hB
            unfold far
            obtain ⟨z, hz, ez⟩ := bt_stand hB2 (show qq < 5 by omega)
            rw [ez, nI_clamp (by omega)]
            rcases bt_cell hB2 (show s < 6 by omega) with h | ⟨x, hx, ex⟩
            · rw [h, show (-1 : Int32).toNatClampNeg = 0 by decide]; omega
            · rw [ex, nI_clamp (by omega)]; omega)
          rw [m1, Option.bind_some, if_neg hnn]
          have hN : ntR lf r0 s qq 0 = callR r0 s qq := by unfold ntR; rw [if_pos rfl, hc]; rfl
          dsimp only
          rw [if_pos ⟨rfl, rfl⟩, nI_1]
          exact next (c0 + 1) A2 (hfc.mono (by decide) (fun _ h => h)) (by rw [hN]; exact m2)
      · rw [if_neg (show ¬ nI 1 = 0 by decide), if_neg (by omega)]
        unfold fX1_playNights_j82
        have hw4 : nI s - nI s / 4 * 4 + 1 = nI (s % 4 + 1) := by
          rw [show nI s - nI s / 4 * 4 = nI (s % 4) from nI_mod (b := 4) (by omega) (by omega) (by omega), nI_1]
        rw [if_pos (show nI 1 = 1 from rfl), hw4]
        obtain ⟨k1, k2⟩ := walk_c (w := s % 4 + 1) hCA h1 hql hp5 (by omega) (by omega)
        cases hk : wkT r0 qq (s % 4 + 1) with
        | none =>
          rw [k1 hk, Option.bind_some]
          have hN : ntR lf r0 s qq 1 = r0 := by unfold ntR; rw [if_neg (by omega), if_pos rfl, hk]
          exact next c0 A (sp_fr.refl _ _ _) (by rw [hN]; exact hCA)
        | some e =>
          obtain ⟨m1, m2⟩ := k2 e hk
          rw [m1, Option.bind_some]
          have hN : ntR lf r0 s qq 1 = up r0 (21 + qq) (nI e) := by unfold ntR; rw [if_neg (by omega), if_pos rfl, hk]
          exact next c0 _ (sp_fr_I (Or.inl (by decide)) rfl) (by rw [hN]; exact m2)
      · rw [if_neg (show ¬ nI 2 = 0 by decide), if_neg (by omega)]
        unfold fX1_playNights_j82
        rw [if_neg (by decide)]
        have hN : ntR lf r0 s qq 2 = r0 := by unfold ntR; rw [if_neg (by omega), if_neg (by omega)]
        exact next c0 A (sp_fr.refl _ _ _) (by rw [hN]; exact hCA)
theorem ni_r {kx : Int32 → sp_Mem → Option (Int32 × sp_Mem)} {q : Nat} (hq : q ≤ 60) (hn0 : 0 < n) (hp0 : 0 < p) (hp5 : p ≤ 5) : ∀ (m i k : Nat) (M : sp_Mem) (st : Nat × (Nat → Int32) × Nat), i + m = q → m < k → st.1 < 1000003 → sp_L M 103 52 = Int32.toInt64 (nI st.1) → RX F M st.2.1 lf n 999 → st.2.1 1 = nI p → ∃ M', fX11_nights_l77 F kx k (nI q) (nI st.2.2) (nI i) M = kx (nI (ntF lf n p m st).2.2) M' ∧ RX F M' (ntF lf n p m st).2.1 lf n 999 ∧ sp_fr [124, 121, 123, 105, 125] [(103, 52), (103, 34), (103, 38), (103, 39), (103, 40)] M M' := by
  intro m
  induction m with
  | zero =>
    intro i k M st hi hk hs hseed h h1
    obtain ⟨k, rfl⟩ : ∃ m, k = m + 1 := ⟨k - 1, by omega⟩
    refine ⟨M, ?_, h, sp_fr.refl _ _ _⟩
    unfold fX11_nights_l77
    rw [if_pos (nI_le (by omega) (by omega))]
    rfl
  | succ m ih =>
    intro i k M st hi hk hs hseed h h1
    obtain ⟨k, rfl⟩ : ∃ m, k = m + 1 := ⟨k - 1, by omega⟩
    obtain ⟨s0, r0, c0⟩ := st
    dsimp only at hs hseed h h1 ⊢
    have h6 := h.2.2.2.2.2.2
    have hB := h.2.2.2.1.2
    have hn := h.2.2.2.2.2.1
    rw [show ntF lf n p (m + 1) (s0, r0, c0) = if 999 ≤ r0 5 then (s0, r0, c0) else ntF lf n p m (ntX lf n p (s0, r0, c0)) from rfl]
    unfold fX11_nights_l77
    rw [if_neg (nI_ge (by omega) (by omega)), RX_r h]
    by_cases hm : 999 ≤ r0 5
    · rw [if_pos hm, if_pos hm]
      exact ⟨M, rfl, h, sp_fr.refl _ _ _⟩
    · rw [if_neg hm, if_neg hm]
      have d1 := dr_r (M := M) hseed hs hn0 h6
      have d2 := dr_r (M := sp_setL M 103 52 (Int32.toInt64 (nI (dwN s0)))) (m := p) (L_eq _ _ _ _) (dwN_lt _) hp0 (by omega)
      have d3 := dr_r (M := sp_setL (sp_setL M 103 52 (Int32.toInt64 (nI (dwN s0)))) 103 52 (Int32.toInt64 (nI (dwN (dwN s0))))) (m := 3) (L_eq _ _ _ _) (dwN_lt _) (by omega) (by omega)
      rw [RX_r h, hn, d1, Option.bind_some]
      dsimp only
      rw [sp_I_setL, RX_r h, h1, d2, Option.bind_some]
      dsimp only
      have d3 : fX11_draw _ 3 = _ := d3
      rw [d3, Option.bind_some]
      dsimp only
      have hsl := Nat.mod_lt (dwN s0) hn0
      have hql := Nat.mod_lt (dwN (dwN s0)) hp0
      have hdl := Nat.mod_lt (dwN (dwN (dwN s0))) (show 0 < 3 by omega)
      have hsd := dwN_lt (dwN (dwN s0))
      generalize hA : sp_setL (sp_setL (sp_setL M 103 52 (Int32.toInt64 (nI (dwN s0)))) 103 52 (Int32.toInt64 (nI (dwN (dwN s0))))) 103 52 (Int32.toInt64 (nI (dwN (dwN (dwN s0))))) = A
      have hfrA : sp_fr [124, 121, 123, 105, 125] [(103, 52), (103, 34), (103, 38), (103, 39), (103, 40)] M A := by
        rw [← hA]
        exact ((sp_fr_L (Or.inr (by decide)) rfl).tr (sp_fr_L (Or.inr (by decide)) rfl)).tr (sp_fr_L (Or.inr (by decide)) rfl)
      have hseedA : sp_L A 103 52 = Int32.toInt64 (nI (dwN (dwN (dwN s0)))) := by rw [← hA]; exact L_eq _ _ _ _
      have hXA : RX F A r0 lf n 999 := by rw [← hA]; exact RX_of h rfl rfl
      have hX : ntX lf n p (s0, r0, c0) = (dwN (dwN (dwN s0)), passR lf (ntR lf r0 (dwN s0 % n) (dwN (dwN s0) % p) (dwN (dwN (dwN s0)) % 3)) 0 n, if dwN (dwN (dwN s0)) % 3 = 0 ∧ canC lf r0 (dwN s0 % n) (dwN (dwN s0) % p) = true then c0 + 1 else c0) := rfl
      rw [hX]
      generalize dwN (dwN (dwN s0)) = s3 at hdl hsd hseedA ⊢
      generalize dwN s0 % n = s at hsl ⊢
      generalize dwN (dwN s0) % p = qq at hql ⊢
      generalize hd : s3 % 3 = d at hdl ⊢
      have hn5 : ∀ j, (j < 9 ∨ 26 ≤ j) → ntR lf r0 s qq d j = r0 j := fun j hj => ntR_out hj (by omega) (by omega)
      have next : ∀ (c : Nat) (A2 : sp_Mem), sp_fr [124, 121, 123, 105, 125] [(103, 34), (103, 38), (103, 39), (103, 40)] A A2 → RX F A2 (ntR lf r0 s qq d) lf n 999 → ∃ M', ((fX11_passIt F A2).bind fun M17 => fX11_nights_l77 F kx k (nI q) (nI c) (nI i + 1) M17) = kx (nI (ntF lf n p m (s3, passR lf (ntR lf r0 s qq d) 0 n, c)).2.2) M' ∧ RX F M' (ntF lf n p m (s3, passR lf (ntR lf r0 s qq d) 0 n, c)).2.1 lf n 999 ∧ sp_fr [124, 121, 123, 105, 125] [(103, 52), (103, 34), (103, 38), (103, 39), (103, 40)] M M' := by
        intro c A2 hf hC2
        have hC3 : RX F A2 (ntR lf r0 s qq d) lf n 998 := RX_T hC2 (by rw [hn5 5 (by omega)]; exact m_lt hB.2.1 hm) (by decide)
        obtain ⟨A3, g1, g2⟩ := pass_r hC3 (by decide)
        have hf3 := frX11_passIt g1
        obtain ⟨M', f1, f2, f3⟩ := ih (i + 1) k A3 (s3, passR lf (ntR lf r0 s qq d) 0 n, c) (by omega) (by omega) hsd (by
          rw [hf3.2.1 103 52 (by decide) (by simp), hf.2.1 103 52 (by decide) (by simp)]; exact hseedA) g2 (by
          show passR lf (ntR lf r0 s qq d) 0 n 1 = nI p
          rw [passR_out (by omega), hn5 1 (by omega)]; exact h1)
        refine ⟨M', ?_, f2, ((hfrA.tr (hf.mono (fun _ h => h) (fun _ h => List.mem_cons_of_mem _ h))).tr (hf3.mono (fun _ h => h) (fun _ h => List.mem_cons_of_mem _ h))).tr f3⟩
        rw [g1, Option.bind_some, nI_1]
        exact f1
      have hd2 : d = 0 ∨ d = 1 ∨ d = 2 := by omega
      rcases hd2 with rfl | rfl | rfl
      · rw [if_pos (show nI 0 = 0 from rfl)]
        obtain ⟨A2, k1, k2, k3⟩ := canCall_r (p := qq) hXA hsl (by omega)
        rw [k1, Option.bind_some]
        unfold fX11_nights_j153
        cases hc : canC lf r0 s qq with
        | false =>
          rw [if_pos (show (if false = true then (1 : Int32) else 0) = 0 by decide), if_neg (by decide), if_neg (by simp)]
          have hN : ntR lf r0 s qq 0 = r0 := by unfold ntR; rw [if_pos rfl, hc]; rfl
          exact next c0 A2 (k3.mono (by decide) (fun _ h => h)) (by rw [hN]; exact k2)
        | true =>
          obtain ⟨A3, m1, m2⟩ := callIt_r (p := qq) k2 hsl (by omega)
          have hfc := frX11_callIt m1
          rw [if_neg (show ¬ (if true = true then (1 : Int32) else 0) = 0 by decide), m1, Option.bind_some, if_neg (by decide), if_pos ⟨rfl, rfl⟩, nI_1]
          have hN : ntR lf r0 s qq 0 = callR r0 s qq := by unfold ntR; rw [if_pos rfl, hc]; rfl
          exact next (c0 + 1) A3 ((k3.mono (by decide) (fun _ h => h)).tr (hfc.mono (by decide) (fun x h => by cases h))) (by rw [hN]; exact m2)
      · rw [if_neg (show ¬ nI 1 = 0 by decide), if_neg (by omega)]
        unfold fX11_nights_j153
        have hw4 : nI s - nI s / 4 * 4 + 1 = nI (s % 4 + 1) := by
          rw [show nI s - nI s / 4 * 4 = nI (s % 4) from nI_mod (b := 4) (by omega) (by omega) (by omega), nI_1]
        obtain ⟨k1, k2⟩ := canWalk_r (p := qq) (w := s % 4 + 1) hXA (by omega) (by omega)
        rw [if_pos (show nI 1 = 1 from rfl), hw4, k1, Option.bind_some]
        cases hk : wkT r0 qq (s % 4 + 1) with
        | none =>
          rw [if_pos (show (if (none : Option Nat).isSome = true then (1 : Int32) else 0) = 0 by decide)]
          have hN : ntR lf r0 s qq 1 = r0 := by unfold ntR; rw [if_neg (by omega), if_pos rfl, hk]
          exact next c0 A (sp_fr.refl _ _ _) (by rw [hN]; exact hXA)
        | some e =>
          have he := wkT_lt hB (show qq < 5 by omega) (show s % 4 + 1 < 5 by omega) hk
          rw [if_neg (show ¬ (if (some e).isSome = true then (1 : Int32) else 0) = 0 by simp), show (21 : Int32) + nI qq = nI (21 + qq) from nI_add 21 qq, sp_ix_nI (show 21 + qq < 5480 by omega) (by omega), Option.bind_some, RX_r hXA, k2 e hk, Option.bind_some, Option.bind_some]
          have hN : ntR lf r0 s qq 1 = up r0 (21 + qq) (nI e) := by unfold ntR; rw [if_neg (by omega), if_pos rfl, hk]
          exact next c0 _ (sp_fr_I (Or.inl (by decide)) rfl) (by rw [hN]; exact RX_up hXA (by omega) (by omega) (wi_stand (by omega) he))
      · rw [if_neg (show ¬ nI 2 = 0 by decide), if_neg (by omega)]
        unfold fX11_nights_j153
        rw [if_neg (by decide)]
        have hN : ntR lf r0 s qq 2 = r0 := by unfold ntR; rw [if_neg (by omega), if_neg (by omega)]
        exact next c0 A (sp_fr.refl _ _ _) (by rw [hN]; exact hXA)
theorem ntF_out {j : Nat} (hj : j < 5 ∨ 26 ≤ j) (hn0 : 0 < n) (h6 : n ≤ 6) (hp0 : 0 < p) (hp5 : p ≤ 5) : ∀ (m : Nat) (st : Nat × (Nat → Int32) × Nat), (ntF lf n p m st).2.1 j = st.2.1 j
  | 0, st => rfl
  | m + 1, st => by
    show (if 999 ≤ st.2.1 5 then st else ntF lf n p m (ntX lf n p st)).2.1 j = st.2.1 j
    split
    · rfl
    · rw [ntF_out hj hn0 h6 hp0 hp5 m]
      show passR lf (ntR lf st.2.1 _ _ _) 0 n j = _
      have h1 := Nat.mod_lt (dwN st.1) hn0
      have h2 := Nat.mod_lt (dwN (dwN st.1)) hp0
      rw [passR_out (by omega), ntR_out (by omega) (by omega) (by omega)]
theorem ntF_c : ∀ (m : Nat) (st : Nat × (Nat → Int32) × Nat), (ntF lf n p m st).2.2 ≤ st.2.2 + m
  | 0, st => Nat.le_refl _
  | m + 1, st => by
    show (if 999 ≤ st.2.1 5 then st else ntF lf n p m (ntX lf n p st)).2.2 ≤ st.2.2 + (m + 1)
    split
    · omega
    · have := ntF_c m (ntX lf n p st)
      have h2 : (ntX lf n p st).2.2 ≤ st.2.2 + 1 := by
        unfold ntX
        dsimp only
        split <;> omega
      omega
theorem pb_row2 {M : sp_Mem} (hr : ∀ j, j < 5 ∨ 51 ≤ j → rM M j = r j) (h108 : ∀ i, i < 46 → sp_I M 108 (736 + i) = r (5 + i)) : rM (sp_cpy M 108 105 736 5 46) = r := by
  funext j
  show sp_I (sp_cpy M 108 105 736 5 46) 105 j = r j
  rw [I_cpy]
  by_cases hj : 5 ≤ j ∧ j < 5 + 46
  · rw [if_pos hj, h108 (j - 5) (by omega)]
    congr 1
    omega
  · rw [if_neg hj]
    exact hr j (by omega)
end Nights
