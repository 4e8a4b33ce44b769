/-! ===== to call, to walk: class and reference ===== -/
theorem BT_up {T : Int} {r : Nat → Int32} {q : Nat} {v : Int32} (h : i_BT T r) (h6 : 6 ≤ q) (h67 : q < 67) (hv : wi v (lo q) (hi q)) : i_BT T (up r q v) := by
  obtain ⟨⟨a1, a2, a3, a4, a5⟩, b1, b2⟩ := h
  refine ⟨⟨?_, ?_, ?_, ?_, ?_⟩, ?_, fun i g1 g2 => ?_⟩
  · rw [up_n _ _ (by omega)]; exact a1
  · rw [up_n _ _ (by omega)]; exact a2
  · rw [up_n _ _ (by omega)]; exact a3
  · rw [up_n _ _ (by omega), up_n _ _ (by omega)]; exact a4
  · intro k hk
    rw [up_n _ _ (by omega)] at hk
    rw [up_n _ _ (by omega), up_n _ _ (by omega)]
    exact a5 k hk
  · rw [up_n _ _ (by omega)]; exact b1
  · by_cases hq : i = q
    · subst hq; rw [up_s]; exact hv
    · rw [up_n _ _ hq]; exact b2 i g1 g2
section Deed0
variable {F o s p n np : Nat} {M M' : sp_Mem} {r : Nat → Int32} {lf : Option (List ev_C)} {T : Int}
theorem CX_upg {a j q : Nat} {v : Int32} (h : CX F M o r lf n T) (hq : ∀ i, i < 79 → ((fa i = a ∧ fj i = j) ↔ i = q)) (ha : a ≤ 10) (h1 : 6 ≤ q) (h2 : q < 67) (hv : wi v (lo q) (hi q)) : CX F (sp_setI M (o + a) j v) o (up r q v) lf n T := by
  obtain ⟨hF, hN, ho, hR, ⟨hT, hB⟩, hL, hn, h6⟩ := h
  exact ⟨hF, hN, ho, Room_up hR a j q v hq, ⟨hT, BT_up hB h1 h2 hv⟩, Law_fr hL (fun _ _ => rfl) (fun i hi => I_ne _ _ _ (by omega)) (fun _ => rfl) (up_n _ _ (by omega)) (up_n _ _ (by omega)) (fun i g1 g2 => up_n _ _ (by omega)), (up_n _ _ (by omega)).trans hn, h6⟩
theorem RX_up {q : Nat} {v : Int32} (h : RX F M r lf n T) (h1 : 6 ≤ q) (h2 : q < 67) (hv : wi v (lo q) (hi q)) : RX F (sp_setI M 105 q v) (up r q v) lf n T := by
  obtain ⟨hF, h20, hR, ⟨hT, hB⟩, hL, hn, h6⟩ := h
  refine ⟨hF, by rw [I_ne _ _ _ (by decide)]; exact h20, ?_, ⟨hT, BT_up hB h1 h2 hv⟩, LawQ_cg hL (up_n _ _ (by omega)) (fun i g1 g2 => up_n _ _ (by omega)), (up_n _ _ (by omega)).trans hn, h6⟩
  show sp_I _ 105 = _
  rw [I_up]
  show up (rM M) q v = _
  rw [hR]
theorem CX_T {T' : Int} (h : CX F M o r lf n T) (h5 : wi (r 5) 0 T') (hT : T' ≤ 2000) : CX F M o r lf n T' := ⟨h.1, h.2.1, h.2.2.1, h.2.2.2.1, ⟨hT, ⟨h.2.2.2.2.1.2.1, h5, h.2.2.2.2.1.2.2.2⟩⟩, h.2.2.2.2.2⟩
theorem RX_T {T' : Int} (h : RX F M r lf n T) (h5 : wi (r 5) 0 T') (hT : T' ≤ 2000) : RX F M r lf n T' := ⟨h.1, h.2.1, h.2.2.1, ⟨hT, ⟨h.2.2.2.1.2.1, h5, h.2.2.2.1.2.2.2⟩⟩, h.2.2.2.2⟩
/-- the row when spark s has come to person p -/
def callR (r : Nat → Int32) (s p : Nat) : Nat → Int32 := if r (21 + p) = r 8 then up (up r (9 + s) (-1)) (15 + s) 0 else up r (9 + s) (r (21 + p))
/-- whether it comes -/
def canC (lf : Option (List ev_C)) (r : Nat → Int32) (s p : Nat) : Bool := decide (r (9 + s) ≠ -1 ∧ comesV lf r s (r (9 + s)).toNatClampNeg p ≠ 0)
def farR (r : Nat → Int32) (s p : Nat) : Int32 := nI (far (r (9 + s)).toNatClampNeg (r (21 + p)).toNatClampNeg)
theorem wi_cell {x : Nat} (hs : s < 6) (hx : x < 25) : wi (nI x) (lo (9 + s)) (hi (9 + s)) := by
  rw [(bd_cell s hs).1, (bd_cell s hs).2]; unfold wi; rw [nI_toInt (by omega)]; omega
theorem wi_gone (hs : s < 6) : wi (-1) (lo (9 + s)) (hi (9 + s)) := by
  rw [(bd_cell s hs).1, (bd_cell s hs).2]; unfold wi; decide
theorem wi_cold (hs : s < 6) : wi 0 (lo (15 + s)) (hi (15 + s)) := by
  rw [(bd_heat s hs).1, (bd_heat s hs).2]; unfold wi; decide
theorem call_c (h : CX F M o r lf n T) (hs : s < n) (hnp : r 1 = nI np) (hp : p < np) (hp5 : np ≤ 5) : ∃ M', (canC lf r s p = false → fX6_callSpark F M o (nI s) (nI p) = some (-3, M') ∧ CX F M' o r lf n T) ∧ (canC lf r s p = true → fX6_callSpark F M o (nI s) (nI p) = some (farR r s p, M') ∧ CX F M' o (callR r s p) lf n T) := by
  have h' := h
  obtain ⟨hF, hN, ho, hR, ⟨hT, hB⟩, hL, hn, h6⟩ := h
  obtain ⟨z, hz, ez⟩ := bt_stand hB (show p < 5 by omega)
  have hsp : ¬ fX5_hasSpark M o (nI s) = 0 := by
    rw [has_s (show n < 100 by omega) ((rm_s hR).trans hn), nI_toInt (by omega)]; simp; omega
  have hpe : ¬ fX5_hasPerson M o (nI p) = 0 := by
    rw [has_p (show np < 100 by omega) ((rm_p hR).trans hnp), nI_toInt (by omega)]; simp; omega
  unfold fX6_callSpark
  simp only [sp_do]
  rw [if_neg hsp, if_neg hpe, sp_ix_nI (show s < 6 by omega) (by omega), Option.bind_some, rm_cell hR (show s < 6 by omega)]
  rcases bt_cell hB (show s < 6 by omega) with hm | ⟨x, hx, ex⟩
  · have hc : canC lf r s p = false := by unfold canC; simp [hm]
    refine ⟨M, fun _ => ⟨?_, h'⟩, fun q => by rw [hc] at q; cases q⟩
    unfold fX6_comes
    rw [hm, if_pos (by decide), Option.bind_some]
    rfl
  · have hl : ¬ r (9 + s) = -1 := by rw [ex]; exact nI_m1 (by omega)
    obtain ⟨M1, e1, e2⟩ := comes_c h' hs hx (show p < 5 by omega)
    rw [ex, e1, Option.bind_some]
    have hcc : canC lf r s p = decide (comesV lf r s x p ≠ 0) := by
      unfold canC; rw [ex, nI_clamp (by omega)]; simp [nI_m1 (show x < 2 ^ 31 by omega)]
    have h1 := CX_fr e2 h'
    have hR1 := h1.2.2.2.1
    by_cases hv : comesV lf r s x p = 0
    · refine ⟨M1, fun _ => ⟨?_, h1⟩, fun q => by rw [hcc] at q; simp [hv] at q⟩
      rw [if_pos hv]
    · have hst : sp_I M1 (o + 5) p = nI z := (rm_stand hR1 (show p < 5 by omega)).trans ez
      have hho : sp_I M1 (o + 10) 3 = r 8 := rm_term hR1 (k := 3) (by omega)
      have hheat : sp_I M1 (o + 3) s = r (15 + s) := rm_heat hR1 (show s < 6 by omega)
      have hfar : farR r s p = nI (far x z) := by unfold farR; rw [ex, ez, nI_clamp (by omega), nI_clamp (by omega)]
      rw [if_neg hv, sp_ix_nI (show p < 5 by omega) (by omega), Option.bind_some, hst, hho]
      unfold fX6_callSpark_j66 fX6_callSpark_j84
      simp only [sp_do]
      rw [sp_ix_nI (show s < 6 by omega) (by omega), (far_e x hx z hz).1]
      simp only [Option.bind_some]
      by_cases hh : nI z = r 8
      · have hcr : callR r s p = up (up r (9 + s) (-1)) (15 + s) 0 := if_pos (by rw [ez]; exact hh)
        refine ⟨sp_setI (sp_setI M1 (o + 2) s (-1)) (o + 3) s 0, fun q => by rw [hcc] at q; simp [hv] at q, fun _ => ⟨?_, ?_⟩⟩
        · rw [if_pos hh, if_neg (by decide), if_neg (by decide), hfar]
        · rw [hcr]
          exact CX_upg (CX_upg h1 (fx_cell s (by omega)) (by omega) (by omega) (by omega) (wi_gone (by omega))) (fx_heat s (by omega)) (by omega) (by omega) (by omega) (wi_cold (by omega))
      · have hcr : callR r s p = up r (9 + s) (nI z) := by unfold callR; rw [ez]; exact if_neg hh
        refine ⟨sp_setI M1 (o + 2) s (nI z), fun q => by rw [hcc] at q; simp [hv] at q, fun _ => ⟨?_, ?_⟩⟩
        · have hself : sp_setI (sp_setI M1 (o + 2) s (nI z)) (o + 3) s (sp_I (sp_setI M1 (o + 2) s (nI z)) (o + 3) s) = sp_setI M1 (o + 2) s (nI z) := setI_self rfl
          rw [if_neg hh, if_pos rfl, if_pos rfl, hself, hfar]
        · rw [hcr]
          exact CX_upg h1 (fx_cell s (by omega)) (by omega) (by omega) (by omega) (wi_cell (by omega) hz)
theorem canCall_r (h : RX F M r lf n T) (hs : s < n) (hp5 : p < 5) : ∃ M', fX11_canCall F M (nI s) (nI p) = some (if canC lf r s p then 1 else 0, M') ∧ RX F M' r lf n T ∧ sp_fr [121, 123] [(103, 34), (103, 38), (103, 39), (103, 40)] M M' := by
  have hB := h.2.2.2.1.2
  have h6 := h.2.2.2.2.2.2
  unfold fX11_canCall
  rw [RX_l h (by omega), Option.bind_some]
  rcases bt_cell hB (show s < 6 by omega) with hm | ⟨x, hx, ex⟩
  · have hc : canC lf r s p = false := by unfold canC; simp [hm]
    rw [if_pos hm, if_pos rfl, hc]
    exact ⟨M, rfl, h, sp_fr.refl _ _ _⟩
  · have hl : ¬ r (9 + s) = -1 := by rw [ex]; exact nI_m1 (by omega)
    have hcc : canC lf r s p = decide (comesV lf r s x p ≠ 0) := by
      unfold canC; rw [ex, nI_clamp (by omega)]; simp [nI_m1 (show x < 2 ^ 31 by omega)]
    obtain ⟨M1, e1, e2⟩ := comes_r h hs hx hp5
    rw [if_neg hl, if_neg (by decide), show (9 : Int32) + nI s = nI (9 + s) from nI_add 9 s, sp_ix_nI (show 9 + s < 5480 by omega) (by omega), Option.bind_some, RX_r h, ex, e1, Option.bind_some]
    refine ⟨M1, ?_, RX_fr2 e2 h, e2⟩
    dsimp only
    rw [hcc]
    by_cases hv : comesV lf r s x p = 0 <;> simp [hv]
theorem callIt_r (h : RX F M r lf n T) (hs : s < n) (hp5 : p < 5) : ∃ M', fX11_callIt M (nI s) (nI p) = some M' ∧ RX F M' (callR r s p) lf n T := by
  have hB := h.2.2.2.1.2
  have h6 := h.2.2.2.2.2.2
  obtain ⟨z, hz, ez⟩ := bt_stand hB hp5
  have h1 := RX_up (q := 9 + s) (v := nI z) h (by omega) (by omega) (wi_cell (by omega) hz)
  have e21 : up r (9 + s) (nI z) (21 + p) = nI z := by rw [up_n _ _ (by omega)]; exact ez
  have e8 : up r (9 + s) (nI z) 8 = r 8 := up_n _ _ (by omega)
  unfold fX11_callIt
  simp only [sp_do]
  rw [show (21 : Int32) + nI p = nI (21 + p) from nI_add 21 p, sp_ix_nI (show 21 + p < 5480 by omega) (by omega), Option.bind_some, show (9 : Int32) + nI s = nI (9 + s) from nI_add 9 s, sp_ix_nI (show 9 + s < 5480 by omega) (by omega), Option.bind_some, Option.bind_some, RX_r h, ez, RX_r h1, RX_r h1, e21, e8]
  by_cases hh : nI z = r 8
  · have hcr : callR r s p = up (up r (9 + s) (-1)) (15 + s) 0 := if_pos (by rw [ez]; exact hh)
    have h2 := RX_up (q := 15 + s) (v := 0) (RX_up (q := 9 + s) (v := -1) h1 (by omega) (by omega) (wi_gone (by omega))) (by omega) (by omega) (wi_cold (by omega))
    rw [up_up] at h2
    rw [if_pos hh, hcr]
    unfold fX11_endSpark
    simp only [sp_do]
    rw [show (9 : Int32) + nI s = nI (9 + s) from nI_add 9 s, sp_ix_nI (show 9 + s < 5480 by omega) (by omega), Option.bind_some, show (15 : Int32) + nI s = nI (15 + s) from nI_add 15 s, sp_ix_nI (show 15 + s < 5480 by omega) (by omega), Option.bind_some, Option.bind_some]
    exact ⟨_, rfl, h2⟩
  · have hcr : callR r s p = up r (9 + s) (nI z) := by unfold callR; rw [ez]; exact if_neg hh
    rw [if_neg hh, hcr]
    exact ⟨_, rfl, h1⟩
/-- where a walk leads -/
def wkT (r : Nat → Int32) (p w : Nat) : Option Nat := match stp (r (21 + p)).toNatClampNeg w with
  | none => none
  | some d => if r (26 + d) = 3 then none else some d
theorem wkT_lt {w d : Nat} (hB : i_BT T r) (hp5 : p < 5) (hw : w < 5) (h : wkT r p w = some d) : d < 25 := by
  obtain ⟨z, hz, ez⟩ := bt_stand hB hp5
  unfold wkT at h
  rw [ez, nI_clamp (by omega)] at h
  cases hst : stp z w with
  | none => rw [hst] at h; cases h
  | some e =>
    rw [hst] at h
    dsimp only at h
    split at h
    · cases h
    · cases h; exact stp_lt hz hw hst
theorem wi_stand {x : Nat} (hp : p < 5) (hx : x < 25) : wi (nI x) (lo (21 + p)) (hi (21 + p)) := by
  rw [(bd_stand p hp).1, (bd_stand p hp).2]; unfold wi; rw [nI_toInt (by omega)]; omega
theorem walk_c {w : Nat} (h : CX F M o r lf n T) (hnp : r 1 = nI np) (hp : p < np) (hp5 : np ≤ 5) (h1 : 1 ≤ w) (h4 : w ≤ 4) : (wkT r p w = none → fX5_walkPerson M o (nI p) (nI w) = some (-3, M)) ∧ (∀ d, wkT r p w = some d → fX5_walkPerson M o (nI p) (nI w) = some (nI d, sp_setI M (o + 5) p (nI d)) ∧ CX F (sp_setI M (o + 5) p (nI d)) o (up r (21 + p) (nI d)) lf n T) := by
  have h' := h
  obtain ⟨hF, hN, ho, hR, ⟨hT, hB⟩, hL, hn, h6⟩ := h
  obtain ⟨z, hz, ez⟩ := bt_stand hB (show p < 5 by omega)
  have hpe : ¬ fX5_hasPerson M o (nI p) = 0 := by
    rw [has_p (show np < 100 by omega) ((rm_p hR).trans hnp), nI_toInt (by omega)]; simp; omega
  have hw : ¬ fX10_isWithin (nI w) 1 4 = 0 := by
    rw [w_in, nI_toInt (by omega), show (1 : Int32).toInt = 1 from rfl, show (4 : Int32).toInt = 4 from rfl]; simp; omega
  have hwk : wkT r p w = match stp z w with | none => none | some d => if r (26 + d) = 3 then none else some d := by
    unfold wkT; rw [ez, nI_clamp (by omega)]
  unfold fX5_walkPerson
  simp only [sp_do]
  rw [if_neg hw, if_neg hpe, sp_ix_nI (show p < 5 by omega) (by omega), Option.bind_some, rm_stand hR (show p < 5 by omega), ez, (stp_e z hz w (by omega)).1, Option.bind_some, hwk]
  cases hst : stp z w with
  | none =>
    refine ⟨fun _ => ?_, fun d hd => by cases hd⟩
    rw [if_pos (show fX10_isCell (oN none) = 0 by decide)]
  | some e =>
    have he := stp_lt hz (by omega) hst
    have hc : ¬ fX10_isCell (oN (some e)) = 0 := by
      rw [w_cell]; show ¬ ¬ (0 ≤ (nI e).toInt ∧ (nI e).toInt < 25); rw [nI_toInt (by omega)]; omega
    dsimp only
    rw [if_neg hc, show oN (some e) = nI e from rfl, sp_ix_nI he (by omega), Option.bind_some, rm_kind hR he, Option.bind_some]
    by_cases hk : r (26 + e) = 3
    · rw [if_pos hk, if_pos hk]
      exact ⟨fun _ => rfl, fun d hd => by cases hd⟩
    · rw [if_neg hk, if_neg hk]
      refine ⟨fun q => (by cases q), fun d hd => ?_⟩
      cases hd
      exact ⟨rfl, CX_upg h' (fx_stand p (by omega)) (by omega) (by omega) (by omega) (wi_stand (by omega) he)⟩
theorem canWalk_r {w : Nat} (h : RX F M r lf n T) (hp5 : p < 5) (h4 : w ≤ 4) : fX11_canWalk M (nI p) (nI w) = some (if (wkT r p w).isSome then 1 else 0) ∧ (∀ d, wkT r p w = some d → fX11_nextTo (r (21 + p)) (nI w) = some (nI d)) := by
  have hB := h.2.2.2.1.2
  obtain ⟨z, hz, ez⟩ := bt_stand hB hp5
  have hwk : wkT r p w = match stp z w with | none => none | some d => if r (26 + d) = 3 then none else some d := by
    unfold wkT; rw [ez, nI_clamp (by omega)]
  unfold fX11_canWalk
  rw [show (21 : Int32) + nI p = nI (21 + p) from nI_add 21 p, sp_ix_nI (show 21 + p < 5480 by omega) (by omega), Option.bind_some, RX_r h, ez, (stp_e z hz w (by omega)).2.1, Option.bind_some]
  cases hst : stp z w with
  | none =>
    have hk1 : wkT r p w = none := by rw [hwk, hst]
    rw [if_pos (show oN none = -1 from rfl), hk1]
    exact ⟨rfl, fun d hd => by cases hd⟩
  | some e =>
    have he := stp_lt hz (by omega) hst
    rw [if_neg (show ¬ oN (some e) = -1 from nI_m1 (by omega)), show oN (some e) = nI e from rfl, show (26 : Int32) + nI e = nI (26 + e) from nI_add 26 e, sp_ix_nI (show 26 + e < 5480 by omega) (by omega), Option.bind_some, RX_r h]
    by_cases hk : r (26 + e) = 3
    · have hk1 : wkT r p w = none := by rw [hwk, hst]; exact if_pos hk
      rw [if_pos hk, hk1]
      exact ⟨rfl, fun d hd => by cases hd⟩
    · have hk1 : wkT r p w = some e := by rw [hwk, hst]; exact if_neg hk
      rw [if_neg hk, hk1]
      exact ⟨rfl, fun d hd => by cases hd; rfl⟩
end Deed0
