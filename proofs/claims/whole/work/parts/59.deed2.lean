/-! ===== the four deeds ===== -/
/-- refused by which number, or what it tells and the row then -/
abbrev Dv : Type := Nat × Option (Nat × (Nat → Int32))
def dCall (lf : Option (List ev_C)) (r : Nat → Int32) (n np : Nat) (a b : Int32) : Dv := if (0 ≤ a.toInt ∧ a.toInt < n) ∧ (0 ≤ b.toInt ∧ b.toInt < np) then (if canC lf r a.toNatClampNeg b.toNatClampNeg then (0, some (far (r (9 + a.toNatClampNeg)).toNatClampNeg (r (21 + b.toNatClampNeg)).toNatClampNeg, callR r a.toNatClampNeg b.toNatClampNeg)) else (3, none)) else (2, none)
def dWet (r : Nat → Int32) (a : Int32) : Dv := if 0 ≤ a.toInt ∧ a.toInt < 25 then (if r (26 + a.toNatClampNeg) = 1 ∨ r (26 + a.toNatClampNeg) = 3 then (3, none) else (0, some ((r (26 + a.toNatClampNeg)).toNatClampNeg, up r (26 + a.toNatClampNeg) 1))) else (1, none)
def dWalk (r : Nat → Int32) (np : Nat) (a b : Int32) : Dv := if 1 ≤ b.toInt ∧ b.toInt ≤ 4 then (if 0 ≤ a.toInt ∧ a.toInt < np then (match wkT r a.toNatClampNeg b.toNatClampNeg with
  | none => (3, none)
  | some d => (0, some (d, up r (21 + a.toNatClampNeg) (nI d)))) else (2, none)) else (1, none)
def dPass (lf : Option (List ev_C)) (r : Nat → Int32) (n : Nat) : Dv := if 999 ≤ r 5 then (3, none) else (0, some ((r 5).toNatClampNeg + 1, passR lf r 0 n))
def dD (lf : Option (List ev_C)) (r : Nat → Int32) (n np dd : Nat) (a b : Int32) : Dv := if dd = 0 then dCall lf r n np a b else if dd = 1 then dWet r a else if dd = 2 then dWalk r np a b else dPass lf r n
def tv (x : Dv) : Int32 := match x.2 with
  | none => -(nI x.1)
  | some y => nI y.1
/-- what holds of the class's room and past when the deed was tried -/
def dAC (F : Nat) (M : sp_Mem) (o0 w u : Nat) (e : Pe) (r : Nat → Int32) (lf : Option (List ev_C)) (n : Nat) (d : Int32) (x : Dv) : Prop := match x.2 with
  | none => CX F M (o0 + 1) r lf n 999 ∧ PC M (o0 + 13) w u e
  | some y => CX F M (o0 + 1) y.2 lf n 999 ∧ PC M (o0 + 13) (pw u w) (pu u) (pe u e (d, fun i => r (5 + i)))
def dAR (F : Nat) (M : sp_Mem) (u : Nat) (e : Pe) (r : Nat → Int32) (lf : Option (List ev_C)) (n : Nat) (d : Int32) (x : Dv) : Prop := match x.2 with
  | none => RX F M r lf n 999 ∧ PR M u e
  | some y => RX F M y.2 lf n 999 ∧ PR M (pu u) (pe u e (d, fun i => r (5 + i)))
theorem neg3 : ∀ c, 1 ≤ c → c ≤ 6 → -(nI c) < 0 := by
  intro c h1 h6
  rw [n_lt, (neg_nI h1 h6).2, show (0 : Int32).toInt = 0 from rfl]; omega
section Deed2
variable {F o0 w u n np : Nat} {M : sp_Mem} {e : Pe} {r : Nat → Int32} {lf : Option (List ev_C)}
/-- numbers of a deed -/
def dOk (r : Nat → Int32) (x : Dv) : Prop := match x.2 with
  | none => 1 ≤ x.1 ∧ x.1 ≤ 3
  | some y => y.1 < 2000 ∧ (∀ j, j < 5 ∨ (6 ≤ j ∧ j < 9) ∨ 51 ≤ j → y.2 j = r j) ∧ i_BT 999 y.2
theorem dCall_ok (hB : i_BT 999 r) (h6 : n ≤ 6) (hp5 : np ≤ 5) (a b : Int32) : dOk r (dCall lf r n np a b) := by
  unfold dCall
  by_cases h : (0 ≤ a.toInt ∧ a.toInt < n) ∧ (0 ≤ b.toInt ∧ b.toInt < np)
  · rw [if_pos h]
    obtain ⟨s, hs, rfl⟩ := n_of h.1.1 h.1.2
    obtain ⟨p, hp, rfl⟩ := n_of h.2.1 h.2.2
    rw [nI_clamp (by omega), nI_clamp (by omega)]
    cases hc : canC lf r s p with
    | false => exact ⟨by show 1 ≤ 3; omega, Nat.le_refl 3⟩
    | true =>
      obtain ⟨z, hz, ez⟩ := bt_stand hB (show p < 5 by omega)
      refine ⟨?_, fun j hj => callR_out (by omega) (by omega), ?_⟩
      · show far (r (9 + s)).toNatClampNeg (r (21 + p)).toNatClampNeg < 2000
        rw [ez, nI_clamp (by omega)]
        rcases bt_cell hB (show s < 6 by omega) with hm | ⟨x, hx, ex⟩
        · rw [hm, show (-1 : Int32).toNatClampNeg = 0 by decide]; unfold far; omega
        · rw [ex, nI_clamp (by omega)]; unfold far; omega
      · show i_BT 999 (callR r s p)
        unfold callR
        split
        · exact BT_up (BT_up hB (by omega) (by omega) (wi_gone (by omega))) (by omega) (by omega) (wi_cold (by omega))
        · rw [ez]; exact BT_up hB (by omega) (by omega) (wi_cell (by omega) hz)
  · rw [if_neg h]
    exact ⟨by show 1 ≤ 2; omega, by show 2 ≤ 3; omega⟩
theorem dWet_ok (hB : i_BT 999 r) (a : Int32) : dOk r (dWet r a) := by
  unfold dWet
  by_cases h : 0 ≤ a.toInt ∧ a.toInt < 25
  · rw [if_pos h]
    obtain ⟨c, hc, rfl⟩ := n_of (n := 25) h.1 h.2
    rw [nI_clamp (by omega)]
    by_cases hk : r (26 + c) = 1 ∨ r (26 + c) = 3
    · rw [if_pos hk]; exact ⟨by show 1 ≤ 3; omega, Nat.le_refl 3⟩
    · rw [if_neg hk]
      have hk := bt_kind hB hc
      obtain ⟨v, hv, ev⟩ := n_of (n := 4) hk.1 (by have := hk.2; omega)
      refine ⟨?_, fun j hj => up_n _ _ (by omega), BT_up hB (by omega) (by omega) ?_⟩
      · show (r (26 + c)).toNatClampNeg < 2000
        rw [ev, nI_clamp (by omega)]; omega
      · rw [(bd_kind c hc).1, (bd_kind c hc).2]; unfold wi; decide
  · rw [if_neg h]; exact ⟨Nat.le_refl 1, by show 1 ≤ 3; omega⟩
theorem dWalk_ok (hB : i_BT 999 r) (hp5 : np ≤ 5) (a b : Int32) : dOk r (dWalk r np a b) := by
  unfold dWalk
  by_cases hb : 1 ≤ b.toInt ∧ b.toInt ≤ 4
  · rw [if_pos hb]
    by_cases h : 0 ≤ a.toInt ∧ a.toInt < np
    · rw [if_pos h]
      obtain ⟨p, hp, rfl⟩ := n_of h.1 h.2
      obtain ⟨v, hv, rfl⟩ := n_of (a := b) (n := 5) (by omega) (by omega)
      rw [nI_clamp (by omega), nI_clamp (by omega)]
      cases hk : wkT r p v with
      | none => exact ⟨by show 1 ≤ 3; omega, Nat.le_refl 3⟩
      | some d =>
        have hd := wkT_lt hB (show p < 5 by omega) hv hk
        exact ⟨by show d < 2000; omega, fun j hj => up_n _ _ (by omega), BT_up hB (by omega) (by omega) (wi_stand (by omega) hd)⟩
    · rw [if_neg h]; exact ⟨by show 1 ≤ 2; omega, by show 2 ≤ 3; omega⟩
  · rw [if_neg hb]; exact ⟨Nat.le_refl 1, by show 1 ≤ 3; omega⟩
theorem dPass_ok (hB : i_BT 999 r) : dOk r (dPass lf r n) := by
  unfold dPass
  by_cases hm : 999 ≤ r 5
  · rw [if_pos hm]; exact ⟨by show 1 ≤ 3; omega, Nat.le_refl 3⟩
  · rw [if_neg hm]
    obtain ⟨m, hm1, em⟩ := bt_min hB
    have h998 := m_lt hB.2.1 hm
    refine ⟨?_, fun j hj => ?_, ?_⟩
    · show (r 5).toNatClampNeg + 1 < 2000
      rw [em, nI_clamp (by omega)]; omega
    · show passR lf r 0 n j = r j
      by_cases h5 : j < 5 ∨ 21 ≤ j
      · exact passR_out h5
      · exact passR_x (by omega) (by omega)
    · exact passR_BT (lf := lf) (T := 998) (r := r) ⟨hB.1, h998, hB.2.2⟩ (by decide) 0 n
theorem dD_ok (hB : i_BT 999 r) (h6 : n ≤ 6) (hp5 : np ≤ 5) (dd : Nat) (a b : Int32) : dOk r (dD lf r n np dd a b) := by
  unfold dD
  split
  · exact dCall_ok hB h6 hp5 a b
  · split
    · exact dWet_ok hB a
    · split
      · exact dWalk_ok hB hp5 a b
      · exact dPass_ok hB
theorem j136_c {d : Int32} {c : Nat} (h1 : 1 ≤ c) (h6 : c ≤ 6) : fX7_perform_j136 F o0 d (-(nI c)) M = some (-(nI c), M) := by
  unfold fX7_perform_j136
  rw [if_pos (neg3 c h1 h6)]
theorem j136_k {d : Int32} {t : Nat} (ht : t < 2000) (h : PC M (o0 + 13) w u e) (hs : ∀ i, i < 43 → sp_I M (o0 + 13 + 1) (43 * ((w + u) % 17) + i) = r (5 + i_pm i)) : ∃ M', fX7_perform_j136 F o0 d (nI t) M = some (nI t, M') ∧ PC M' (o0 + 13) (pw u w) (pu u) (pe u e (d, fun i => r (5 + i))) ∧ sp_fr [o0 + 13 + 2] [(o0 + 13, 2), (o0 + 13, 3)] M M' := by
  obtain ⟨M1, e1, e2⟩ := keep_c (d := d) h hs
  refine ⟨M1, ?_, e2, frX3_keep e1⟩
  unfold fX7_perform_j136
  rw [if_neg (nI_pos (by omega)), e1, Option.bind_some]
theorem CX_fr3 {o : Nat} {M' : sp_Mem} {T : Int} {A : List Nat} {B : List (Nat × Nat)} (hf : sp_fr A B M M') (h : CX F M o r lf n T) (hA : ∀ i, i ∈ A → i < o ∨ (o + 11 < i ∧ i < 132)) (hB : ∀ q, q ∈ B → q.1 < o ∨ (o + 11 < q.1 ∧ q.1 < 132)) : CX F M' o r lf n T := by
  obtain ⟨hF, hN, ho, hR, hB', hL, hn, h6⟩ := h
  have hI : ∀ i j, (o ≤ i ∧ i ≤ o + 11) ∨ 132 ≤ i → sp_I M' i j = sp_I M i j := fun i j hi => hf.1 i j (fun q => by have := hA i q; omega) (fun q => by have := hB _ q; dsimp only at this; omega)
  refine ⟨hF, by rw [hf.2.2.2.2.1]; exact hN, ho, fun i hi => ?_, hB', Law_fr hL (fun j _ => hf.2.2.1 _ _ (fun q => by have := hA _ q; omega) (fun q => by have := hB _ q; dsimp only at this; omega)) (fun i hi => funext fun j => hI i j (Or.inr hi)) hf.2.2.2.2.1 rfl rfl (fun _ _ _ => rfl), hn, h6⟩
  have := fa_le i hi
  rw [ro_at, hI _ _ (by omega), ← ro_at]
  exact hR i hi
theorem perf_c {dd : Nat} (ho0 : o0 = 5 ∨ o0 = 22) (hC : CX F M (o0 + 1) r lf n 999) (hP : PC M (o0 + 13) w u e) (hnp : r 1 = nI np) (hp5 : np ≤ 5) (hdd : dd < 4) (a b : Int32) : ∃ M', fX7_perform F M o0 (nI dd) a b = some (tv (dD lf r n np dd a b), M') ∧ dAC F M' o0 w u e r lf n (nI dd) (dD lf r n np dd a b) := by
  have h6 := hC.2.2.2.2.2.2.2
  have hB := hC.2.2.2.2.1.2
  obtain ⟨M1, p1, p2, p3⟩ := prep_e hP hC.2.2.2.1 (by omega)
  have hf1 := frX3_prepare p1
  have hC1 : CX F M1 (o0 + 1) r lf n 999 := CX_fr3 hf1 hC (fun i hi => by simp at hi; omega) (fun q hq => by cases hq)
  have hR1 := hC1.2.2.2.1
  have hn := hC1.2.2.2.2.2.2.1
  unfold fX7_perform
  rw [p1, Option.bind_some]
  -- behind a deed that could be
  have fin : ∀ (A : List Nat) (B : List (Nat × Nat)) (M2 : sp_Mem) (t : Nat) (r2 : Nat → Int32), t < 2000 → sp_fr A B M1 M2 → CX F M2 (o0 + 1) r2 lf n 999 → (∀ i ∈ A, i < o0 + 13) → (∀ q ∈ B, q.1 < o0 + 13) → ∃ M', fX7_perform_j136 F o0 (nI dd) (nI t) M2 = some (nI t, M') ∧ CX F M' (o0 + 1) r2 lf n 999 ∧ PC M' (o0 + 13) (pw u w) (pu u) (pe u e (nI dd, fun i => r (5 + i))) := by
    intro A B M2 t r2 ht hf hC2 hA hBB
    have hI : ∀ i j, o0 + 13 ≤ i → sp_I M2 i j = sp_I M1 i j := fun i j hi => hf.1 i j (fun q => by have := hA i q; omega) (fun q => by have := hBB _ q; dsimp only at this; omega)
    obtain ⟨M3, k1, k2, k3⟩ := j136_k (F := F) (d := nI dd) (M := M2) (r := r) ht (PC_cg p2 (fun j _ => hI _ _ (by omega)) (fun k _ i _ => hI _ _ (by omega)) (funext fun j => hI _ _ (by omega))) (fun i hi => by rw [hI _ _ (by omega)]; exact p3 i hi)
    exact ⟨M3, k1, CX_fr3 k3 hC2 (fun i hi => by simp at hi; omega) (fun q hq => by simp at hq; rcases hq with rfl | rfl <;> (dsimp only; omega)), k2⟩
  have hd4 : dd = 0 ∨ dd = 1 ∨ dd = 2 ∨ dd = 3 := by omega
  rcases hd4 with rfl | rfl | rfl | rfl
  · -- to call
    rw [if_pos (show nI 0 = 0 from rfl), show dD lf r n np 0 a b = dCall lf r n np a b from rfl]
    unfold dCall
    have hs1 := has_s (show n < 100 by omega) ((rm_s hR1).trans hn) a
    have hp1 := has_p (show np < 100 by omega) ((rm_p hR1).trans hnp) b
    by_cases hab : (0 ≤ a.toInt ∧ a.toInt < n) ∧ (0 ≤ b.toInt ∧ b.toInt < np)
    · obtain ⟨s, hs, rfl⟩ := n_of hab.1.1 hab.1.2
      obtain ⟨p, hp, rfl⟩ := n_of hab.2.1 hab.2.2
      rw [if_pos hab, nI_clamp (by omega), nI_clamp (by omega)]
      obtain ⟨M2, k1, k2⟩ := call_c (p := p) hC1 hs hnp hp hp5
      cases hc : canC lf r s p with
      | false =>
        obtain ⟨m1, m2⟩ := k1 hc
        have hfc := frX6_callSpark m1
        rw [m1, Option.bind_some, if_neg (by decide)]
        refine ⟨M2, j136_c (c := 3) (by omega) (by omega), m2, PC_fr p2 hfc (by simp <;> omega) (by simp <;> omega) (by simp <;> omega)⟩
      | true =>
        obtain ⟨m1, m2⟩ := k2 hc
        have hfc := frX6_callSpark m1
        have hok := dCall_ok (lf := lf) (n := n) (np := np) hB h6 hp5 (nI s) (nI p)
        unfold dCall at hok
        rw [if_pos hab, nI_clamp (by omega), nI_clamp (by omega), hc, if_pos rfl] at hok
        obtain ⟨hok1, _⟩ := hok
        rw [m1, Option.bind_some, if_pos rfl]
        obtain ⟨M3, z1, z2, z3⟩ := fin _ _ M2 _ _ hok1 hfc m2 (fun i hi => by simp at hi; omega) (fun q hq => by cases hq)
        exact ⟨M3, z1, z2, z3⟩
    · rw [if_neg hab]
      have : fX6_callSpark F M1 (o0 + 1) a b = some (-2, M1) := by
        unfold fX6_callSpark
        by_cases ha : 0 ≤ a.toInt ∧ a.toInt < n
        · rw [if_neg (by rw [hs1]; exact fun q => q ha), if_pos (by rw [hp1]; exact fun q => hab ⟨ha, q⟩)]
        · rw [if_pos (by rw [hs1]; exact ha)]
      rw [this, Option.bind_some]
      exact ⟨M1, j136_c (c := 2) (by omega) (by omega), hC1, p2⟩
  · -- to wet
    rw [if_neg (show ¬ nI 1 = 0 by decide), if_pos (show nI 1 = 1 from rfl), show dD lf r n np 1 a b = dWet r a from rfl]
    unfold dWet fX5_wetCell
    simp only [sp_do]
    by_cases ha : 0 ≤ a.toInt ∧ a.toInt < 25
    · obtain ⟨c, hc, rfl⟩ := n_of (n := 25) ha.1 ha.2
      have hk := bt_kind hB hc
      obtain ⟨v, hv, ev⟩ := n_of (n := 4) hk.1 (by have := hk.2; omega)
      rw [if_pos ha, nI_clamp (by omega), if_neg (by rw [w_cell]; exact fun q => q ha), sp_ix_nI hc (by omega), Option.bind_some, Option.bind_some, rm_kind hR1 hc]
      by_cases k1 : r (26 + c) = 1
      · rw [if_pos k1, if_pos (Or.inl k1), Option.bind_some]
        exact ⟨M1, j136_c (c := 3) (by omega) (by omega), hC1, p2⟩
      · by_cases k3 : r (26 + c) = 3
        · rw [if_neg k1, if_pos k3, if_pos (Or.inr k3), Option.bind_some]
          exact ⟨M1, j136_c (c := 3) (by omega) (by omega), hC1, p2⟩
        · rw [if_neg k1, if_neg k3, if_neg (fun q => q.elim k1 k3), Option.bind_some]
          dsimp only
          rw [ev, nI_clamp (by omega)]
          have hC2 : CX F (sp_setI M1 (o0 + 1 + 1) c 1) (o0 + 1) (up r (26 + c) 1) lf n 999 := CX_upg hC1 (fx_kind c hc) (by omega) (by omega) (by omega) (by rw [(bd_kind c hc).1, (bd_kind c hc).2]; unfold wi; decide)
          obtain ⟨M3, z1, z2, z3⟩ := fin [o0 + 1 + 1] [] _ v _ (by omega) (sp_fr_I (Or.inl (by simp)) rfl) hC2 (fun i hi => by simp at hi; omega) (fun q hq => by cases hq)
          exact ⟨M3, z1, z2, z3⟩
    · rw [if_neg ha, if_pos (by rw [w_cell]; exact ha), Option.bind_some]
      exact ⟨M1, j136_c (c := 1) (by omega) (by omega), hC1, p2⟩
  · -- to walk
    rw [if_neg (show ¬ nI 2 = 0 by decide), if_neg (show ¬ nI 2 = 1 by decide), if_pos (show nI 2 = 2 from rfl), show dD lf r n np 2 a b = dWalk r np a b from rfl]
    unfold dWalk
    by_cases hb : 1 ≤ b.toInt ∧ b.toInt ≤ 4
    · rw [if_pos hb]
      by_cases ha : 0 ≤ a.toInt ∧ a.toInt < np
      · obtain ⟨p, hp, rfl⟩ := n_of ha.1 ha.2
        obtain ⟨v, hv, rfl⟩ := n_of (a := b) (n := 5) (by omega) (by omega)
        have hv1 : 1 ≤ v := by rw [nI_toInt (by omega)] at hb; omega
        rw [if_pos ha, nI_clamp (by omega), nI_clamp (by omega)]
        obtain ⟨k1, k2⟩ := walk_c (w := v) hC1 hnp hp hp5 hv1 (by omega)
        cases hk : wkT r p v with
        | none =>
          rw [k1 hk, Option.bind_some]
          exact ⟨M1, j136_c (c := 3) (by omega) (by omega), hC1, p2⟩
        | some d =>
          have hd := wkT_lt hB (show p < 5 by omega) hv hk
          obtain ⟨m1, m2⟩ := k2 d hk
          rw [m1, Option.bind_some]
          obtain ⟨M3, z1, z2, z3⟩ := fin [o0 + 1 + 5] [] _ d _ (by omega) (sp_fr_I (Or.inl (by simp)) rfl) m2 (fun i hi => by simp at hi; omega) (fun q hq => by cases hq)
          exact ⟨M3, z1, z2, z3⟩
      · have hp1 := has_p (show np < 100 by omega) ((rm_p hR1).trans hnp) a
        rw [if_neg ha]
        unfold fX5_walkPerson
        rw [if_neg (by rw [w_in]; exact fun q => q hb), if_pos (by rw [hp1]; exact ha), Option.bind_some]
        exact ⟨M1, j136_c (c := 2) (by omega) (by omega), hC1, p2⟩
    · rw [if_neg hb]
      unfold fX5_walkPerson
      rw [if_pos (by rw [w_in]; exact hb), Option.bind_some]
      exact ⟨M1, j136_c (c := 1) (by omega) (by omega), hC1, p2⟩
  · -- a MINUTE
    have h5 : sp_I M1 (o0 + 1 + 10) 0 = r 5 := rm_term hR1 (k := 0) (by omega)
    have h4 : sp_I M1 (o0 + 1) 4 = nI n := (rm_s hR1).trans hn
    rw [if_neg (show ¬ nI 3 = 0 by decide), if_neg (show ¬ nI 3 = 1 by decide), if_neg (show ¬ nI 3 = 2 by decide), show dD lf r n np 3 a b = dPass lf r n from rfl, h5, h4]
    unfold dPass
    by_cases hm : 999 ≤ r 5
    · rw [if_pos hm, if_pos hm]
      exact ⟨M1, j136_c (c := 3) (by omega) (by omega), hC1, p2⟩
    · rw [if_neg hm, if_neg hm]
      have hC2 : CX F M1 (o0 + 1) r lf n 998 := CX_T hC1 (m_lt hB.2.1 hm) (by decide)
      obtain ⟨M2, g1, g2⟩ := pass_c (a := 0) (b := n) hC2 (by decide) (by omega) (Nat.le_refl n)
      have g1 : fX6_passMinute F M1 (o0 + 1) 0 (nI n - 1) = some M2 := g1
      have hf2 := frX6_passMinute g1
      obtain ⟨m, hm1, em⟩ := bt_min hB
      have h52 : sp_I M2 (o0 + 1 + 10) 0 = nI (m + 1) := by
        rw [rm_term g2.2.2.2.1 (k := 0) (by omega)]
        show passR lf r 0 n 5 = _
        rw [passR_5, em, nI_1]
      rw [g1, Option.bind_some]
      simp only [sp_do]
      rw [h52, em, nI_clamp (by omega)]
      obtain ⟨M3, z1, z2, z3⟩ := fin _ _ M2 (m + 1) _ (by omega) hf2 g2 (fun i hi => by simp at hi; omega) (fun q hq => by cases hq)
      exact ⟨M3, z1, z2, z3⟩
/-! the reference -/
theorem RX_fr5 {M' : sp_Mem} {T : Int} (h : RX F M r lf n T) (hf : sp_fr [108, 109] [(103, 8)] M M') : RX F M' r lf n T := RX_of h (hf.1 103 20 (by decide) (by decide)) (funext fun j => hf.1 105 j (by decide) (by simp))
theorem PR_fr {M' : sp_Mem} {A : List Nat} {B : List (Nat × Nat)} (h : PR M u e) (hf : sp_fr A B M M') (h1 : 103 ∉ A ∧ (103, 8) ∉ B) (h2 : 108 ∉ A ∧ ∀ j, (108, j) ∉ B) (h3 : 109 ∉ A ∧ ∀ j, (109, j) ∉ B) : PR M' u e :=
  ⟨by rw [hf.1 103 8 h1.1 h1.2]; exact h.1, fun k hk => ⟨by rw [hf.1 109 k h3.1 (h3.2 _)]; exact (h.2 k hk).1, fun i hi => by rw [hf.1 108 _ h2.1 (h2.2 _)]; exact (h.2 k hk).2 i hi⟩⟩
theorem callNow_r (hX : RX F M r lf n 999) (hP : PR M u e) (hu : u ≤ 16) (hnp : r 1 = nI np) (hp5 : np ≤ 5) (a b : Int32) : ∃ M', fX11_callNow F M a b = some (tv (dCall lf r n np a b), M') ∧ dAR F M' u e r lf n 0 (dCall lf r n np a b) := by
  have h6 := hX.2.2.2.2.2.2
  have hF := hX.1
  have hB := hX.2.2.2.1.2
  unfold fX11_callNow dCall
  rw [RX_s hX, is_p (show np < 100 by omega) ((RX_r hX 1).trans hnp)]
  by_cases ha : 0 ≤ a.toInt ∧ a.toInt < n
  · rw [if_pos ha, Option.bind_some, if_neg (by decide)]
    by_cases hb : 0 ≤ b.toInt ∧ b.toInt < np
    · obtain ⟨s, hs, rfl⟩ := n_of ha.1 ha.2
      obtain ⟨p, hp, rfl⟩ := n_of hb.1 hb.2
      rw [if_pos hb, Option.bind_some, if_neg (by decide), if_pos ⟨ha, hb⟩, nI_clamp (by omega), nI_clamp (by omega)]
      obtain ⟨M1, k1, k2, k3⟩ := canCall_r (p := p) hX hs (by omega)
      rw [k1, Option.bind_some]
      have hP1 := PR_fr hP k3 (by decide) (by simp) (by simp)
      cases hc : canC lf r s p with
      | false => exact ⟨M1, rfl, k2, hP1⟩
      | true =>
        obtain ⟨M2, m1, m2⟩ := rem_r (d := 0) hF hP1 hu k2.2.2.1
        have hf2 := frX11_remember m1
        have hX2 := RX_fr5 k2 hf2
        obtain ⟨M3, c1, c2⟩ := callIt_r (p := p) hX2 hs (by omega)
        have hf3 := frX11_callIt c1
        obtain ⟨z, hz, ez⟩ := bt_stand hB (show p < 5 by omega)
        have hcell : r (9 + s) ≠ -1 := by
          unfold canC at hc
          simp only [decide_eq_true_eq] at hc
          exact hc.1
        obtain ⟨x, hx, ex⟩ := (bt_cell hB (show s < 6 by omega)).resolve_left hcell
        dsimp only
        rw [if_neg (show ¬ (if true = true then (1 : Int32) else 0) = 0 by decide), m1, Option.bind_some, show (9 : Int32) + nI s = nI (9 + s) from nI_add 9 s, sp_ix_nI (show 9 + s < 5480 by omega) (by omega), Option.bind_some, show (21 : Int32) + nI p = nI (21 + p) from nI_add 21 p, sp_ix_nI (show 21 + p < 5480 by omega) (by omega), Option.bind_some, RX_r hX2, RX_r hX2, ex, ez, (far_e x hx z hz).2.1, Option.bind_some, c1, Option.bind_some, if_pos rfl, nI_clamp (by omega), nI_clamp (by omega)]
        exact ⟨M3, rfl, c2, PR_fr m2 hf3 (by decide) (by simp) (by simp)⟩
    · rw [if_neg hb, Option.bind_some, if_pos rfl, if_neg (fun q => hb q.2)]
      exact ⟨M, rfl, hX, hP⟩
  · rw [if_neg ha, Option.bind_some, if_pos rfl, if_neg (fun q => ha q.1)]
    exact ⟨M, rfl, hX, hP⟩
theorem wetNow_r (hX : RX F M r lf n 999) (hP : PR M u e) (hu : u ≤ 16) (a : Int32) : ∃ M', fX11_wetNow F M a = some (tv (dWet r a), M') ∧ dAR F M' u e r lf n 1 (dWet r a) := by
  have hF := hX.1
  have hB := hX.2.2.2.1.2
  unfold fX11_wetNow dWet
  simp only [sp_do]
  by_cases ha : 0 ≤ a.toInt ∧ a.toInt < 25
  · obtain ⟨c, hc, rfl⟩ := n_of (n := 25) ha.1 ha.2
    have hk := bt_kind hB hc
    obtain ⟨v, hv, ev⟩ := n_of (n := 4) hk.1 (by have := hk.2; omega)
    rw [if_neg (by rw [m_cell]; exact fun q => q ha), if_pos ha, nI_clamp (by omega), show (26 : Int32) + nI c = nI (26 + c) from nI_add 26 c, sp_ix_nI (show 26 + c < 5480 by omega) (by omega), Option.bind_some, RX_r hX]
    by_cases k1 : r (26 + c) = 1
    · rw [if_pos k1, if_pos (Or.inl k1)]
      exact ⟨M, rfl, hX, hP⟩
    · by_cases k3 : r (26 + c) = 3
      · rw [if_neg k1, if_pos k3, if_pos (Or.inr k3)]
        exact ⟨M, rfl, hX, hP⟩
      · obtain ⟨M2, m1, m2⟩ := rem_r (d := 1) hF hP hu hX.2.2.1
        have hX2 := RX_fr5 hX (frX11_remember m1)
        rw [if_neg k1, if_neg k3, if_neg (fun q => q.elim k1 k3), m1, Option.bind_some, Option.bind_some]
        refine ⟨sp_setI M2 105 (26 + c) 1, ?_, RX_up hX2 (by omega) (by omega) (by rw [(bd_kind c hc).1, (bd_kind c hc).2]; unfold wi; decide), PR_fr (A := [105]) (B := []) m2 (sp_fr_I (Or.inl (by decide)) rfl) (by decide) (by simp) (by simp)⟩
        unfold tv
        dsimp only
        rw [ev, nI_clamp (by omega)]
  · rw [if_pos (by rw [m_cell]; exact ha), if_neg ha]
    exact ⟨M, rfl, hX, hP⟩
theorem walkNow_r (hX : RX F M r lf n 999) (hP : PR M u e) (hu : u ≤ 16) (hnp : r 1 = nI np) (hp5 : np ≤ 5) (a b : Int32) : ∃ M', fX11_walkNow F M a b = some (tv (dWalk r np a b), M') ∧ dAR F M' u e r lf n 2 (dWalk r np a b) := by
  have hF := hX.1
  have hB := hX.2.2.2.1.2
  unfold fX11_walkNow dWalk
  simp only [sp_do]
  by_cases hb : 1 ≤ b.toInt ∧ b.toInt ≤ 4
  · rw [if_neg (by rw [m_in, n_l]; exact fun q => q hb), if_pos hb, is_p (show np < 100 by omega) ((RX_r hX 1).trans hnp)]
    by_cases ha : 0 ≤ a.toInt ∧ a.toInt < np
    · obtain ⟨p, hp, rfl⟩ := n_of ha.1 ha.2
      obtain ⟨v, hv, rfl⟩ := n_of (a := b) (n := 5) (by omega) (by omega)
      obtain ⟨k1, k2⟩ := canWalk_r (p := p) (w := v) hX (by omega) (by omega)
      rw [if_pos ha, Option.bind_some, if_neg (by decide), if_pos ha, nI_clamp (by omega), nI_clamp (by omega), k1, Option.bind_some]
      cases hk : wkT r p v with
      | none => exact ⟨M, rfl, hX, hP⟩
      | some d =>
        have hd := wkT_lt hB (show p < 5 by omega) hv hk
        obtain ⟨M2, m1, m2⟩ := rem_r (d := 2) hF hP hu hX.2.2.1
        have hX2 := RX_fr5 hX (frX11_remember m1)
        dsimp only
        rw [if_neg (show ¬ (if (some d).isSome = true then (1 : Int32) else 0) = 0 by simp), m1, Option.bind_some, show (21 : Int32) + nI p = nI (21 + p) from nI_add 21 p, sp_ix_nI (show 21 + p < 5480 by omega) (by omega), Option.bind_some, RX_r hX2, k2 d hk, Option.bind_some, Option.bind_some, Option.bind_some, I_eq]
        exact ⟨sp_setI M2 105 (21 + p) (nI d), rfl, RX_up hX2 (by omega) (by omega) (wi_stand (by omega) hd), PR_fr (A := [105]) (B := []) m2 (sp_fr_I (Or.inl (by decide)) rfl) (by decide) (by simp) (by simp)⟩
    · rw [if_neg ha, Option.bind_some, if_pos rfl, if_neg ha]
      exact ⟨M, rfl, hX, hP⟩
  · rw [if_pos (by rw [m_in, n_l]; exact hb), if_neg hb]
    exact ⟨M, rfl, hX, hP⟩
theorem passNow_r (hX : RX F M r lf n 999) (hP : PR M u e) (hu : u ≤ 16) : ∃ M', fX11_passNow F M = some (tv (dPass lf r n), M') ∧ dAR F M' u e r lf n 3 (dPass lf r n) := by
  have hF := hX.1
  have hB := hX.2.2.2.1.2
  unfold fX11_passNow dPass
  rw [RX_r hX]
  obtain ⟨m, hm1, em⟩ := bt_min hB
  by_cases hm : 999 ≤ r 5
  · have h9 : r 5 = 999 := by
      have := hB.2.1.2
      rw [n_le, show (999 : Int32).toInt = 999 from rfl] at hm
      rw [n_eq, show (999 : Int32).toInt = 999 from rfl]; omega
    rw [if_pos h9, if_pos hm]
    exact ⟨M, rfl, hX, hP⟩
  · have h9 : ¬ r 5 = 999 := fun q => hm (by rw [q]; decide)
    rw [if_neg h9, if_neg hm]
    obtain ⟨M2, m1, m2⟩ := rem_r (d := 3) hF hP hu hX.2.2.1
    have hX2 := RX_fr5 hX (frX11_remember m1)
    obtain ⟨M3, g1, g2⟩ := pass_r (RX_T hX2 (m_lt hB.2.1 hm) (by decide)) (by decide)
    have hf3 := frX11_passIt g1
    have h53 : sp_I M3 105 5 = nI (m + 1) := by rw [RX_r g2, passR_5, em, nI_1]
    rw [m1, Option.bind_some, g1, Option.bind_some, h53, em, nI_clamp (by omega)]
    exact ⟨M3, rfl, g2, PR_fr m2 hf3 (by decide) (by simp) (by simp)⟩
end Deed2
