/-! ===== a MINUTE ===== -/
def psY (lf : Option (List ev_C)) (r : Nat → Int32) (s x : Nat) : Nat := match stp x (goes lf r s x).toNatClampNeg with
  | none => x
  | some d => if barred lf r s d = 0 then d else x
def psT (lf : Option (List ev_C)) (r : Nat → Int32) (s : Nat) : Int32 := if r (9 + s) = -1 then -1 else nI (psY lf r s (r (9 + s)).toNatClampNeg)
def psB (lf : Option (List ev_C)) (r : Nat → Int32) (s : Nat) : Int32 := if r (9 + s) = -1 then 0 else burns lf r s (psY lf r s (r (9 + s)).toNatClampNeg)
def psH (lf : Option (List ev_C)) (r : Nat → Int32) (s : Nat) : Int32 := fX11_within (Int32.toInt64 (r (15 + s) + psB lf r s)) 0 9
def psC (lf : Option (List ev_C)) (r : Nat → Int32) (s : Nat) : Int32 := if psH lf r s = 0 then -1 else psT lf r s
def psR (lf : Option (List ev_C)) (r : Nat → Int32) (a b j : Nat) : Int32 := if 9 ≤ j ∧ j < 15 ∧ a + 9 ≤ j ∧ j < b + 9 then psC lf r (j - 9) else if 15 ≤ j ∧ j < 21 ∧ a + 15 ≤ j ∧ j < b + 15 then psH lf r (j - 15) else r j
def passR (lf : Option (List ev_C)) (r : Nat → Int32) (a b : Nat) : Nat → Int32 := up (psR lf r a b) 5 (r 5 + 1)
theorem BT_cg {T : Int} {r r' : Nat → Int32} (h : i_BT T r) (h1 : ∀ j, j < 79 → (j < 9 ∨ 21 ≤ j) → r' j = r j) (h2 : ∀ j, 9 ≤ j → j < 21 → wi (r' j) (lo j) (hi j)) : i_BT T r' := by
  obtain ⟨⟨a1, a2, a3, a4, a5⟩, b1, b2⟩ := h
  refine ⟨⟨?_, ?_, ?_, ?_, ?_⟩, ?_, fun i g1 g2 => ?_⟩
  · rw [h1 0 (by omega) (by omega)]; exact a1
  · rw [h1 1 (by omega) (by omega)]; exact a2
  · rw [h1 2 (by omega) (by omega)]; exact a3
  · rw [h1 3 (by omega) (by omega), h1 4 (by omega) (by omega)]; exact a4
  · intro k hk
    rw [h1 2 (by omega) (by omega)] at hk
    obtain ⟨n, hn, e⟩ := a3
    have hk6 : k < 6 := by rw [e, nI_toInt (by omega)] at hk; omega
    rw [h1 1 (by omega) (by omega), h1 (67 + 2 * k) (by omega) (by omega)]
    exact a5 k hk
  · rw [h1 5 (by omega) (by omega)]; exact b1
  · by_cases hj : 9 ≤ i ∧ i < 21
    · exact h2 i hj.1 hj.2
    · rw [h1 i g2 (by omega)]; exact b2 i g1 g2
section Pass
variable {F o s x n : Nat} {M M' : sp_Mem} {r : Nat → Int32} {lf : Option (List ev_C)} {T : Int}
theorem psY_lt (hx : x < 25) : psY lf r s x < 25 := by
  unfold psY
  obtain ⟨w, hw, e⟩ := goes_w lf r s x
  rw [e, nI_clamp (by omega)]
  cases h : stp x w with
  | none => exact hx
  | some d =>
    dsimp only
    split
    · exact stp_lt hx hw h
    · exact hx
theorem psH_wi (lf : Option (List ev_C)) (r : Nat → Int32) (s : Nat) : wi (psH lf r s) 0 9 := wt_rg (by decide)
theorem psT_wi (hB : i_BT T r) (hs : s < 6) : wi (psT lf r s) (-1) 24 := by
  unfold psT
  rcases bt_cell hB hs with h | ⟨x, hx, e⟩
  · rw [if_pos h]; unfold wi; decide
  · rw [if_neg (by rw [e, n_eq, nI_toInt (by omega), show (-1 : Int32).toInt = -1 from rfl]; omega), e, nI_clamp (by omega)]
    have := psY_lt (lf := lf) (r := r) (s := s) hx
    unfold wi
    rw [nI_toInt (by omega)]
    omega
theorem psC_wi (hB : i_BT T r) (hs : s < 6) : wi (psC lf r s) (-1) 24 := by
  unfold psC
  split
  · unfold wi; decide
  · exact psT_wi hB hs
theorem psR_BT (hB : i_BT T r) (a b : Nat) : i_BT T (psR lf r a b) := by
  refine BT_cg hB (fun j _ h2 => ?_) (fun j h1 h2 => ?_)
  · unfold psR
    rw [if_neg (by omega), if_neg (by omega)]
  · unfold psR
    split
    · have := bd_cell (j - 9) (by omega)
      rw [show 9 + (j - 9) = j by omega] at this
      rw [this.1, this.2]
      exact psC_wi hB (by omega)
    · split
      · have := bd_heat (j - 15) (by omega)
        rw [show 15 + (j - 15) = j by omega] at this
        rw [this.1, this.2]
        exact psH_wi _ _ _
      · exact bt_at hB (by omega) (by omega)
theorem psR_out {a b j : Nat} (h : j < 9 ∨ 21 ≤ j) : psR lf r a b j = r j := by
  unfold psR
  rw [if_neg (by omega), if_neg (by omega)]
theorem psR_0 (a : Nat) : psR lf r a a = r := by
  funext j
  unfold psR
  rw [if_neg (by omega), if_neg (by omega)]
theorem psR_c {a i : Nat} (hi : i < 6) : psR lf r a i (9 + i) = r (9 + i) := by
  unfold psR
  rw [if_neg (by omega)]
  split
  · rename_i h; omega
  · rfl
theorem psR_h {a i : Nat} : psR lf r a i (15 + i) = r (15 + i) := by
  unfold psR
  rw [if_neg (by omega), if_neg (by omega)]
theorem psR_s {a i : Nat} (ha : a ≤ i) (hi : i < 6) : psR lf r a (i + 1) = up (up (psR lf r a i) (15 + i) (psH lf r i)) (9 + i) (psC lf r i) := by
  funext j
  unfold up
  by_cases h1 : j = 9 + i
  · rw [if_pos h1]
    unfold psR
    rw [if_pos (by omega), show j - 9 = i by omega]
  · rw [if_neg h1]
    by_cases h2 : j = 15 + i
    · rw [if_pos h2]
      unfold psR
      rw [if_neg (by omega), if_pos (by omega), show j - 15 = i by omega]
    · rw [if_neg h2]
      unfold psR
      by_cases h3 : 9 ≤ j ∧ j < 15 ∧ a + 9 ≤ j ∧ j < i + 9
      · rw [if_pos (by omega), if_pos h3]
      · rw [if_neg (by omega), if_neg h3]
        by_cases h4 : 15 ≤ j ∧ j < 21 ∧ a + 15 ≤ j ∧ j < i + 15
        · rw [if_pos (by omega), if_pos h4]
        · rw [if_neg (by omega), if_neg h4]
/-- rows that are alike where spark s looks -/
def Lk (r r' : Nat → Int32) (s : Nat) : Prop := r' (15 + s) = r (15 + s) ∧ ∀ j, j < 9 ∨ 21 ≤ j → r' j = r j
theorem Lk_tl {r' : Nat → Int32} (h : Lk r r' s) (hd c : Nat) (p : Int32) : tl lf r' hd s c p = tl lf r hd s c p := tl_cg (ev_w_cg h.1 (h.2 _ (by omega)) (h.2 _ (by omega)) (h.2 _ (by omega)) (h.2 _ (by omega)) (h.2 _ (by omega)))
theorem Lk_goes {r' : Nat → Int32} (h : Lk r r' s) : goes lf r' s x = goes lf r s x := by
  unfold goes
  rw [Lk_tl h, h.2 5 (by omega)]
theorem Lk_burns {r' : Nat → Int32} (h : Lk r r' s) : burns lf r' s x = burns lf r s x := by
  unfold burns
  rw [Lk_tl h, h.2 (26 + x) (by omega)]
theorem Lk_barred {r' : Nat → Int32} (h : Lk r r' s) : barred lf r' s x = barred lf r s x := by
  unfold barred
  rw [Lk_tl h, h.2 (26 + x) (by omega)]
theorem CX_up {a j q : Nat} {v : Int32} (h : CX F M o r lf n T) (hq : ∀ i, i < 79 → ((fa i = a ∧ fj i = j) ↔ i = q)) (ha : a ≤ 10) (h1 : 9 ≤ q) (h2 : q < 21) (hv : wi v (lo q) (hi q)) : CX F (sp_setI M (o + a) j v) o (up r q v) lf n T := by
  obtain ⟨hF, hN, ho, hR, ⟨hT, hB⟩, hL, hn, h6⟩ := h
  refine ⟨hF, hN, ho, Room_up hR a j q v hq, ⟨hT, BT_cg hB (fun i g1 g2 => up_n _ _ (by omega)) (fun i g1 g2 => ?_)⟩, Law_fr hL (fun _ _ => rfl) (fun i hi => I_ne _ _ _ (by omega)) (fun _ => rfl) (up_n _ _ (by omega)) (up_n _ _ (by omega)) (fun i g1 g2 => up_n _ _ (by omega)), (up_n _ _ (by omega)).trans hn, h6⟩
  by_cases hi : i = q
  · rw [hi, up_s]; exact hv
  · rw [up_n _ _ hi]; exact bt_at hB (by omega) (by omega)
theorem lt_pred {b i : Nat} (hb : b < 100) (hi : i < 100) : (nI b - 1 < nI i) = (b ≤ i) := by
  have e : (nI b - 1).toInt = (b : Int) - 1 := by
    rw [t_sub, nI_toInt (by omega)]
    · rfl
    · rw [nI_toInt (by omega), show (1 : Int32).toInt = 1 from rfl]; omega
    · rw [nI_toInt (by omega), show (1 : Int32).toInt = 1 from rfl]; omega
  rw [n_lt, e, nI_toInt (by omega)]
  apply propext
  omega
theorem nI_m1 {x : Nat} (h : x < 2 ^ 31) : ¬ nI x = -1 := by
  rw [n_eq, nI_toInt h, show (-1 : Int32).toInt = -1 from rfl]; omega
theorem up_self {q : Nat} {v : Int32} (h : r q = v) : up r q v = r := by
  funext i
  unfold up
  split
  · rename_i e; rw [e, h]
  · rfl
theorem up_up {q : Nat} {u v : Int32} : up (up r q u) q v = up r q v := by
  funext i
  unfold up
  split <;> rfl
theorem up_cm {q p : Nat} {u v : Int32} (h : q ≠ p) : up (up r q u) p v = up (up r p v) q u := by
  funext i
  unfold up
  by_cases h1 : i = p
  · rw [if_pos h1, if_neg (by omega), if_pos h1]
  · rw [if_neg h1]
    by_cases h2 : i = q
    · rw [if_pos h2, if_pos h2]
    · rw [if_neg h2, if_neg h2, if_neg h1]
/-- one spark burns where it now is, of the class -/
theorem pm_j66 {i a y : Nat} {a3 : Int32} {kb : Int32 → Int32 → sp_Mem → Option sp_Mem} {kx : sp_Mem → Option sp_Mem} (hB : i_BT T r) (h : CX F M o (up (psR lf r a i) (9 + i) (nI y)) lf n T) (ha : a ≤ i) (hi : i < n) (hy : y < 25) (hl : ¬ r (9 + i) = -1) (ey : psY lf r i (r (9 + i)).toNatClampNeg = y) : ∃ M', fX6_passMinute_j66 F o kb kx a3 (nI i) M = kb a3 (nI (i + 1)) M' ∧ CX F M' o (psR lf r a (i + 1)) lf n T := by
  have h6 : i < 6 := by have := h.2.2.2.2.2.2.2; omega
  have hR := h.2.2.2.1
  have ho := h.2.2.1
  have lk : Lk r (up (psR lf r a i) (9 + i) (nI y)) i := ⟨by rw [up_n _ _ (by omega), psR_h], fun j hj => by rw [up_n _ _ (by omega), psR_out hj]⟩
  obtain ⟨M1, e1, e2⟩ := burn_c h hi (up_s _ _ _) hy
  have eh : sp_I M (o + 3) i = r (15 + i) := by rw [rm_heat hR h6]; exact lk.1
  have hB1 : psB lf r i = burns lf r i y := by unfold psB; rw [if_neg hl, ey]
  have hT1 : psT lf r i = nI y := by unfold psT; rw [if_neg hl, ey]
  have hH : fX10_nearest (r (15 + i) + burns lf r i y) 0 9 = psH lf r i := by
    rw [near_e (by decide)]; unfold psH; rw [hB1]
  have h1 := CX_fr e2 h
  have h2 := CX_up (v := psH lf r i) h1 (fx_heat i h6) (by omega) (by omega) (by omega) (by rw [(bd_heat i h6).1, (bd_heat i h6).2]; exact psH_wi _ _ _)
  have h3 := CX_up (v := psC lf r i) h2 (fx_cell i h6) (by omega) (by omega) (by omega) (by rw [(bd_cell i h6).1, (bd_cell i h6).2]; exact psC_wi hB h6)
  rw [up_cm (show 15 + i ≠ 9 + i by omega), up_up, up_cm (show 9 + i ≠ 15 + i by omega), ← psR_s ha h6] at h3
  refine ⟨sp_setI (sp_setI M1 (o + 3) i (psH lf r i)) (o + 2) i (psC lf r i), ?_, h3⟩
  unfold fX6_passMinute_j66
  simp only [sp_ix_nI (show i < 6 by omega) (by omega), Option.bind_some, e1, sp_do, eh, Lk_burns lk, hH, sp_I_setI, and_self, if_true, nI_1]
  have ec : sp_I M1 (o + 2) i = nI y := by
    rw [e2.1 _ _ (by simp <;> omega) (by simp), rm_cell hR h6, up_s]
  by_cases hz : psH lf r i = 0
  · have : psC lf r i = -1 := by unfold psC; rw [if_pos hz]
    rw [if_pos hz, this]
  · have : psC lf r i = nI y := by unfold psC; rw [if_neg hz, hT1]
    rw [if_neg hz, if_neg (by omega), ec, this]
theorem pm_loop {a b : Nat} {kx : sp_Mem → Option sp_Mem} (hB : i_BT T r) (hb : b ≤ n) : ∀ (m i k : Nat) (M : sp_Mem), i + m = b → m < k → a ≤ i → CX F M o (psR lf r a i) lf n T → ∃ M', fX6_passMinute_l3 F o kx k (nI b - 1) (nI i) M = kx M' ∧ CX F M' o (psR lf r a b) lf n T := by
  intro m
  induction m with
  | zero =>
    intro i k M hi hk ha h
    obtain ⟨k, rfl⟩ : ∃ m, k = m + 1 := ⟨k - 1, by omega⟩
    have h6 := h.2.2.2.2.2.2.2
    refine ⟨M, ?_, by rw [show b = i by omega]; exact h⟩
    unfold fX6_passMinute_l3
    rw [if_pos (show nI b - 1 < nI i by rw [lt_pred (by omega) (by omega)]; omega)]
  | succ m ih =>
    intro i k M hi hk ha h
    obtain ⟨k, rfl⟩ : ∃ m, k = m + 1 := ⟨k - 1, by omega⟩
    have h6 := h.2.2.2.2.2.2.2
    have hR := h.2.2.2.1
    have hn := h.2.2.2.2.2.2.1
    have ho := h.2.2.1
    have hs : ¬ fX5_hasSpark M o (nI i) = 0 := by
      rw [has_s (show n < 100 by omega) ((rm_s hR).trans hn), nI_toInt (by omega)]; simp; omega
    have ec : sp_I M (o + 2) i = r (9 + i) := by rw [rm_cell hR (show i < 6 by omega), psR_c (by omega)]
    have lk : Lk r (psR lf r a i) i := ⟨psR_h, fun j hj => psR_out hj⟩
    unfold fX6_passMinute_l3 fX5_hasLoose
    rw [if_neg (show ¬ nI b - 1 < nI i by rw [lt_pred (by omega) (by omega)]; omega), if_neg hs, sp_ix_nI (show i < 6 by omega) (by omega), Option.bind_some, ec, Option.bind_some]
    rcases bt_cell hB (show i < 6 by omega) with hm | ⟨x, hx, ex⟩
    · rw [if_pos hm, if_pos rfl, nI_1]
      refine ih (i + 1) k M (by omega) (by omega) (by omega) ?_
      have : psR lf r a (i + 1) = psR lf r a i := by
        have hH : psH lf r i = r (15 + i) := by
          unfold psH psB
          rw [if_pos hm, Int32.add_zero]
          have := bt_heat hB (show i < 6 by omega)
          exact wt_id this.1 this.2
        have hC : psC lf r i = r (9 + i) := by
          unfold psC psT
          rw [if_pos hm, hm, ite_self]
        rw [psR_s ha (by omega), hH, hC, up_self psR_h, up_self (psR_c (by omega))]
      rw [this]
      exact h
    · have hl : ¬ r (9 + i) = -1 := by rw [ex]; exact nI_m1 (by omega)
      obtain ⟨M1, e1, e2⟩ := way_c h (by omega) ((psR_c (by omega)).trans ex) hx
      obtain ⟨w, hw, ew⟩ := goes_w lf r i x
      rw [Lk_goes lk, ew] at e1
      rw [if_neg hl, if_neg (by decide), Option.bind_some, e1, Option.bind_some]
      dsimp only
      rw [ec, ex, (stp_e x hx w hw).1, Option.bind_some]
      have hy : psY lf r i (r (9 + i)).toNatClampNeg = match stp x w with | none => x | some d => if barred lf r i d = 0 then d else x := by
        rw [ex, nI_clamp (by omega)]
        unfold psY
        rw [ew, nI_clamp (by omega)]
      have next : ∀ (y : Nat) (M2 : sp_Mem), y < 25 → psY lf r i (r (9 + i)).toNatClampNeg = y → CX F M2 o (up (psR lf r a i) (9 + i) (nI y)) lf n T → ∃ M', fX6_passMinute_j66 F o (fX6_passMinute_l3 F o kx k) kx (nI b - 1) (nI i) M2 = kx M' ∧ CX F M' o (psR lf r a b) lf n T := by
        intro y M2 hy25 hye h2
        obtain ⟨M3, f1, f2⟩ := pm_j66 (a3 := nI b - 1) (kb := fX6_passMinute_l3 F o kx k) (kx := kx) hB h2 ha (by omega) hy25 hl hye
        rw [f1]
        exact ih (i + 1) k M3 (by omega) (by omega) (by omega) f2
      have hup : up (psR lf r a i) (9 + i) (nI x) = psR lf r a i := up_self ((psR_c (by omega)).trans ex)
      cases hst : stp x w with
      | none =>
        rw [hst] at hy
        rw [if_pos (show fX10_isCell (oN none) = 0 by decide)]
        exact next x M1 hx hy (by rw [hup]; exact CX_fr e2 h)
      | some d =>
        rw [hst] at hy
        have hd := stp_lt hx hw hst
        rw [if_neg (show ¬ fX10_isCell (oN (some d)) = 0 by rw [w_cell]; show ¬ ¬ (0 ≤ (nI d).toInt ∧ (nI d).toInt < 25); rw [nI_toInt (by omega)]; omega)]
        obtain ⟨M2, g1, g2⟩ := barred_c (CX_fr e2 h) (s := i) (by omega) hd
        rw [Lk_barred lk] at g1
        show ∃ M', (fX6_isBarred F M1 o (nI i) (nI d)).bind _ = _ ∧ _
        rw [g1, Option.bind_some]
        dsimp only at hy ⊢
        by_cases hb0 : barred lf r i d = 0
        · rw [if_pos hb0] at hy ⊢
          rw [Option.bind_some]
          simp only [sp_do]
          exact next d _ hd hy (CX_up (CX_fr g2 (CX_fr e2 h)) (fx_cell i (by omega)) (by omega) (by omega) (by omega) (by rw [(bd_cell i (by omega)).1, (bd_cell i (by omega)).2]; unfold wi; rw [show oN (some d) = nI d from rfl, nI_toInt (by omega)]; omega))
        · rw [if_neg hb0] at hy ⊢
          exact next x M2 hx hy (by rw [hup]; exact CX_fr g2 (CX_fr e2 h))
theorem passR_BT (hB : i_BT T r) (hT : T ≤ 2000) (a b : Nat) : i_BT (T + 1) (passR lf r a b) := by
  obtain ⟨⟨a1, a2, a3, a4, a5⟩, b1, b2⟩ := psR_BT (lf := lf) hB a b
  unfold passR
  refine ⟨⟨?_, ?_, ?_, ?_, ?_⟩, ?_, fun i g1 g2 => ?_⟩
  · rw [up_n _ _ (by omega)]; exact a1
  · rw [up_n _ _ (by omega)]; exact a2
  · rw [up_n _ _ (by omega)]; exact a3
  · rw [up_n _ _ (by omega), up_n _ _ (by omega)]; exact a4
  · intro k hk
    rw [up_n _ _ (by omega)] at hk
    rw [up_n _ _ (by omega), up_n _ _ (by omega)]
    exact a5 k hk
  · rw [up_s]
    have h1 := hB.2.1.1
    have h2 := hB.2.1.2
    unfold wi
    rw [t_add, show (1 : Int32).toInt = 1 from rfl]
    · omega
    · rw [show (1 : Int32).toInt = 1 from rfl]; omega
    · rw [show (1 : Int32).toInt = 1 from rfl]; omega
  · rw [up_n _ _ (by omega)]; exact b2 i g1 g2
theorem passR_out {a b j : Nat} (h : j < 5 ∨ 21 ≤ j) : passR lf r a b j = r j := by
  unfold passR
  rw [up_n _ _ (by omega), psR_out (by omega)]
/-- passMinute of the class, over the sparks a .. b - 1 -/
theorem pass_c {a b : Nat} (h : CX F M o r lf n T) (hT : T + 1 ≤ 2000) (hab : a ≤ b) (hb : b ≤ n) : ∃ M', fX6_passMinute F M o (nI a) (nI b - 1) = some M' ∧ CX F M' o (passR lf r a b) lf n (T + 1) := by
  have hF := h.1
  have h6 := h.2.2.2.2.2.2.2
  have hB := h.2.2.2.2.1.2
  unfold fX6_passMinute
  obtain ⟨M1, e1, e2⟩ := pm_loop (F := F) (o := o) (lf := lf) (kx := fun M23 => sp_do (sp_setI M23 (o + 10) 0 (sp_I M23 (o + 10) 0 + 1)) fun M24 => some M24) hB hb (b - a) a F M (by omega) (by omega) (Nat.le_refl a) (by rw [psR_0]; exact h)
  rw [e1]
  obtain ⟨hF, hN, ho, hR, ⟨hT', hB'⟩, hL, hn, h6⟩ := e2
  have e5 : sp_I M1 (o + 10) 0 = r 5 := by rw [rm_term hR (k := 0) (by omega)]; exact psR_out (by omega)
  refine ⟨sp_setI M1 (o + 10) 0 (r 5 + 1), by rw [e5]; rfl, hF, hN, ho, Room_up hR 10 0 5 (r 5 + 1) (fx_term 0 (by omega)), ⟨hT, passR_BT hB (by omega) a b⟩, ?_, ?_, h6⟩
  · exact Law_fr hL (fun _ _ => rfl) (fun i hi => I_ne _ _ _ (by omega)) (fun _ => rfl) (up_n _ _ (by omega)) (up_n _ _ (by omega)) (fun i g1 g2 => up_n _ _ (by omega))
  · exact (up_n _ _ (by omega)).trans hn
end Pass
