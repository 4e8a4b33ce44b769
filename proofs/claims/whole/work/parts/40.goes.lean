/-! ===== going, burning, barred, coming ===== -/
def goes (lf : Option (List ev_C)) (r : Nat → Int32) (s x : Nat) : Int32 := fX11_within (match tl lf r 0 s x (-1) with
  | none => Int32.toInt64 (nI ((s + (r 5).toNatClampNeg) % 5))
  | some v => v) 0 4
def burns (lf : Option (List ev_C)) (r : Nat → Int32) (s x : Nat) : Int32 := fX11_within (match tl lf r 1 s x (-1) with
  | none => if r (26 + x) = 2 then 1 else if r (26 + x) = 1 then -3 else 0
  | some v => v) (-3) 3
def barred (lf : Option (List ev_C)) (r : Nat → Int32) (s c : Nat) : Int32 := if r (26 + c) = 3 then 1 else match tl lf r 3 s c (-1) with
  | none => 0
  | some _ => 1
def shunV (lf : Option (List ev_C)) (r : Nat → Int32) (s c p : Nat) : Int32 := match tl lf r 2 s c (nI p) with
  | none => 0
  | some _ => 1
def comesV (lf : Option (List ev_C)) (r : Nat → Int32) (s c p : Nat) : Int32 := if (r (62 + p) >>> (nI s &&& 31)) &&& 1 = 1 then (if r (57 + p) < nI (far c (r (21 + p)).toNatClampNeg) then 0 else (match tl lf r 2 s c (nI p) with
  | none => 1
  | some _ => 0)) else 0
/-- what the class needs of its memory for a room; what the reference needs -/
def CX (F : Nat) (M : sp_Mem) (o : Nat) (r : Nat → Int32) (lf : Option (List ev_C)) (n : Nat) (T : Int) : Prop := 1000 ≤ F ∧ sp_N M 4 = 10 ∧ (5 ≤ o ∧ o ≤ 100) ∧ i_Room M o r ∧ (T ≤ 2000 ∧ i_BT T r) ∧ Law M o r lf ∧ r 0 = nI n ∧ n ≤ 6
def RX (F : Nat) (M : sp_Mem) (r : Nat → Int32) (lf : Option (List ev_C)) (n : Nat) (T : Int) : Prop := 1000 ≤ F ∧ sp_I M 103 20 = 0 ∧ rM M = r ∧ (T ≤ 2000 ∧ i_BT T r) ∧ LawQ r lf ∧ r 0 = nI n ∧ n ≤ 6
section Goes
variable {F o s x c p n : Nat} {M M' : sp_Mem} {r : Nat → Int32} {lf : Option (List ev_C)} {T : Int}
theorem CX_fr (hf : sp_fr [4, 3] [] M M') (h : CX F M o r lf n T) : CX F M' o r lf n T := by
  obtain ⟨hF, hN, ho, hR, hB, hL, hn, h6⟩ := h
  have hI : ∀ i, i ≠ 4 → i ≠ 3 → sp_I M' i = sp_I M i := fun i h1 h2 => funext fun j => hf.1 i j (by simp [h1, h2]) (by simp)
  refine ⟨hF, by rw [hf.2.2.2.2.1]; exact hN, ho, ?_, hB, Law_fr hL (fun j _ => hf.2.2.1 _ _ (by simp <;> omega) (by simp)) (fun i hi => hI i (by omega) (by omega)) hf.2.2.2.2.1 rfl rfl (fun _ _ _ => rfl), hn, h6⟩
  intro i hi
  rw [ro_at, hI _ (by omega) (by omega), ← ro_at]
  exact hR i hi
theorem RX_fr (hf : sp_fr [124, 121, 123, 125] [(103, 34), (103, 38), (103, 39), (103, 40)] M M') (h : RX F M r lf n T) : RX F M' r lf n T := by
  obtain ⟨hF, h20, hR, hB, hL, hn, h6⟩ := h
  refine ⟨hF, by rw [hf.1 103 20 (by decide) (by decide)]; exact h20, ?_, hB, hL, hn, h6⟩
  rw [← hR]
  exact funext fun j => hf.1 105 j (by decide) (by simp)
theorem RX_fr2 (hf : sp_fr [121, 123] [(103, 34), (103, 38), (103, 39), (103, 40)] M M') (h : RX F M r lf n T) : RX F M' r lf n T := RX_fr (hf.mono (by decide) (fun _ h => h)) h
theorem goes_w (lf : Option (List ev_C)) (r : Nat → Int32) (s x : Nat) : ∃ w : Nat, w < 5 ∧ goes lf r s x = nI w := by
  have h : wi (goes lf r s x) 0 4 := wt_rg (by decide)
  exact n_of (n := 5) h.1 (by have := h.2; omega)
theorem burns_w (lf : Option (List ev_C)) (r : Nat → Int32) (s x : Nat) : wi (burns lf r s x) (-3) 3 := wt_rg (by decide)
theorem wi_m1 : wi (-1) (-1) 4 := by unfold wi; decide
theorem way_c (h : CX F M o r lf n T) (hs : s < n) (hx : r (9 + s) = nI x) (hx25 : x < 25) : ∃ M', fX6_wayOf F M o (nI s) = some (goes lf r s x, M') ∧ sp_fr [4, 3] [] M M' := by
  obtain ⟨hF, hN, ho, hR, ⟨hT, hB⟩, hL, hn, h6⟩ := h
  obtain ⟨y, M1, e1, e2, e3, e4⟩ := tell_c (hd := 0) (p := -1) hF hN ho.1 hR hB hT hL hn h6 hs hx25 wi_m1 (by omega)
  have e1 : fX6_toldBy F M o 0 (nI s) (nI x) (-1) = some (y, M1) := e1
  refine ⟨M1, ?_, e2⟩
  unfold fX6_wayOf
  rw [sp_ix_nI (show s < 6 by omega) (by omega), Option.bind_some, rm_cell hR (show s < 6 by omega), hx, e1, Option.bind_some]
  dsimp only
  unfold goes
  cases ht : tl lf r 0 s x (-1) with
  | none =>
    obtain ⟨m, hm, em⟩ := bt_min hB
    have h5 : sp_I M1 (o + 10) 0 = nI m := by
      rw [e2.1 _ _ (by simp <;> omega) (by simp), rm_term hR (k := 0) (by omega)]; exact em
    rw [if_pos (e3 ht), h5, nI_add, show nI (s + m) - nI (s + m) / 5 * 5 = nI ((s + m) % 5) from nI_mod (b := 5) (by omega) (by omega) (by omega)]
    dsimp only
    rw [em, nI_clamp (by omega), wt_id (by rw [nI_toInt (by omega)]; exact Int.natCast_nonneg _) (by rw [nI_toInt (by omega), show (4 : Int32).toInt = 4 from rfl]; omega)]
  | some v =>
    obtain ⟨k1, k2⟩ := e4 v ht
    rw [if_neg k2, near_e (by decide), k1]
theorem burn_c (h : CX F M o r lf n T) (hs : s < n) (hx : r (9 + s) = nI x) (hx25 : x < 25) : ∃ M', fX6_burnOf F M o (nI s) = some (burns lf r s x, M') ∧ sp_fr [4, 3] [] M M' := by
  obtain ⟨hF, hN, ho, hR, ⟨hT, hB⟩, hL, hn, h6⟩ := h
  obtain ⟨y, M1, e1, e2, e3, e4⟩ := tell_c (hd := 1) (p := -1) hF hN ho.1 hR hB hT hL hn h6 hs hx25 wi_m1 (by omega)
  have e1 : fX6_toldBy F M o 1 (nI s) (nI x) (-1) = some (y, M1) := e1
  refine ⟨M1, ?_, e2⟩
  unfold fX6_burnOf
  rw [sp_ix_nI (show s < 6 by omega) (by omega), Option.bind_some, rm_cell hR (show s < 6 by omega), hx]
  simp only [sp_do]
  rw [e1, Option.bind_some]
  dsimp only
  unfold burns
  cases ht : tl lf r 1 s x (-1) with
  | none =>
    have hk : sp_I M1 (o + 1) x = r (26 + x) := by
      rw [e2.1 _ _ (by simp <;> omega) (by simp)]; exact rm_kind hR hx25
    rw [if_pos (e3 ht), if_neg (by rw [w_cell, nI_toInt (by omega)]; simp; omega), sp_ix_nI hx25 (by omega), Option.bind_some, Option.bind_some, hk]
    dsimp only
    by_cases k2 : r (26 + x) = 2
    · rw [if_pos k2, if_pos k2]; rfl
    · rw [if_neg k2, if_neg k2]
      by_cases k1 : r (26 + x) = 1
      · rw [if_pos k1, if_pos k1]; rfl
      · rw [if_neg k1, if_neg k1]; rfl
  | some v =>
    obtain ⟨k1, k2⟩ := e4 v ht
    rw [if_neg k2, near_e (by decide), k1]
theorem barred_c (h : CX F M o r lf n T) (hs : s < n) (hc : c < 25) : ∃ M', fX6_isBarred F M o (nI s) (nI c) = some (barred lf r s c, M') ∧ sp_fr [4, 3] [] M M' := by
  obtain ⟨hF, hN, ho, hR, ⟨hT, hB⟩, hL, hn, h6⟩ := h
  unfold fX6_isBarred barred
  rw [sp_ix_nI hc (by omega), Option.bind_some, rm_kind hR hc]
  by_cases k3 : r (26 + c) = 3
  · rw [if_pos k3, if_pos k3]
    exact ⟨M, rfl, sp_fr.refl _ _ _⟩
  · rw [if_neg k3, if_neg k3]
    obtain ⟨y, M1, e1, e2, e3, e4⟩ := tell_c (hd := 3) (p := -1) hF hN ho.1 hR hB hT hL hn h6 hs hc wi_m1 (by omega)
    have e1 : fX6_toldBy F M o 3 (nI s) (nI c) (-1) = some (y, M1) := e1
    refine ⟨M1, ?_, e2⟩
    rw [e1, Option.bind_some]
    dsimp only
    cases ht : tl lf r 3 s c (-1) with
    | none => rw [if_pos (e3 ht)]
    | some v => rw [if_neg (e4 v ht).2]
theorem shun_c (h : CX F M o r lf n T) (hs : s < n) (hc : c < 25) (hp : p < 5) : ∃ y M', fX6_toldBy F M o 2 (nI s) (nI c) (nI p) = some (y, M') ∧ sp_fr [4, 3] [] M M' ∧ (if y = -2000000000 then 0 else 1) = shunV lf r s c p := by
  obtain ⟨hF, hN, ho, hR, ⟨hT, hB⟩, hL, hn, h6⟩ := h
  obtain ⟨y, M1, e1, e2, e3, e4⟩ := tell_c (hd := 2) (p := nI p) hF hN ho.1 hR hB hT hL hn h6 hs hc (by unfold wi; rw [nI_toInt (by omega)]; omega) (by omega)
  refine ⟨y, M1, e1, e2, ?_⟩
  unfold shunV
  cases ht : tl lf r 2 s c (nI p) with
  | none => rw [if_pos (e3 ht)]
  | some v => rw [if_neg (e4 v ht).2]
theorem comes_c (h : CX F M o r lf n T) (hs : s < n) (hc : c < 25) (hp : p < 5) : ∃ M', fX6_comes F M o (nI s) (nI c) (nI p) = some (comesV lf r s c p, M') ∧ sp_fr [4, 3] [] M M' := by
  have h' := h
  obtain ⟨hF, hN, ho, hR, ⟨hT, hB⟩, hL, hn, h6⟩ := h
  obtain ⟨z, hz, ez⟩ := bt_stand hB hp
  unfold fX6_comes comesV
  rw [if_neg (by rw [w_cell, nI_toInt (by omega)]; simp; omega), sp_ix_nI hp (by omega)]
  simp only [Option.bind_some, rm_know hR hp, rm_stand hR hp, rm_reach hR hp, ez, (far_e c hc z hz).1, nI_clamp (show z < 2 ^ 31 by omega)]
  by_cases k1 : r (62 + p) >>> (nI s &&& 31) &&& 1 = 1
  · rw [if_pos k1, if_pos k1]
    by_cases k2 : r (57 + p) < nI (far c z)
    · rw [if_pos k2, if_pos k2]
      exact ⟨M, rfl, sp_fr.refl _ _ _⟩
    · rw [if_neg k2, if_neg k2]
      obtain ⟨y, M1, e1, e2, e3⟩ := shun_c h' hs hc hp
      refine ⟨M1, ?_, e2⟩
      rw [e1, Option.bind_some]
      dsimp only
      unfold shunV at e3
      cases ht : tl lf r 2 s c (nI p) with
      | none =>
        rw [ht] at e3
        dsimp only at e3 ⊢
        by_cases hy : y = -2000000000
        · rw [if_pos hy]
        · rw [if_neg hy] at e3; exact absurd e3 (by decide)
      | some v =>
        rw [ht] at e3
        dsimp only at e3 ⊢
        by_cases hy : y = -2000000000
        · rw [if_pos hy] at e3; exact absurd e3 (by decide)
        · rw [if_neg hy]
  · rw [if_neg k1, if_neg k1]
    exact ⟨M, rfl, sp_fr.refl _ _ _⟩
/-! the reference -/
theorem way_r (h : RX F M r lf n T) (hs : s < n) (hx : r (9 + s) = nI x) (hx25 : x < 25) : ∃ M', fX11_goesOf F M (nI s) = some (goes lf r s x, M') ∧ sp_fr [121, 123] [(103, 34), (103, 38), (103, 39), (103, 40)] M M' := by
  obtain ⟨hF, h20, hR, ⟨hT, hB⟩, hL, hn, h6⟩ := h
  have hr : ∀ i, sp_I M 105 i = r i := fun i => by rw [← hR]
  obtain ⟨m, hm, em⟩ := bt_min hB
  obtain ⟨M1, e1, e2⟩ := tell_r (hd := 0) (p := -1) (w0 := Int32.toInt64 (nI ((s + m) % 5))) hF h20 hR hB hL hn h6 hs hx25 (by omega)
  have e1 : fX11_tells F M 0 (nI s) (nI x) (-1) (Int32.toInt64 (nI ((s + m) % 5))) = _ := e1
  refine ⟨M1, ?_, e2⟩
  unfold fX11_goesOf
  rw [show (9 : Int32) + nI s = nI (9 + s) from nI_add 9 s, sp_ix_nI (show 9 + s < 5480 by omega) (by omega), Option.bind_some, hr, hr, hx, em, nI_add, show nI (s + m) - nI (s + m) / 5 * 5 = nI ((s + m) % 5) from nI_mod (b := 5) (by omega) (by omega) (by omega), e1, Option.bind_some]
  dsimp only
  unfold goes tlr
  cases tl lf r 0 s x (-1) with
  | none =>
    dsimp only
    rw [em, nI_clamp (by omega)]
  | some v => rfl
theorem burn_r (h : RX F M r lf n T) (hs : s < n) (hx : r (9 + s) = nI x) (hx25 : x < 25) : ∃ M', fX11_burnsOf F M (nI s) = some (burns lf r s x, M') ∧ sp_fr [121, 123] [(103, 34), (103, 38), (103, 39), (103, 40)] M M' := by
  obtain ⟨hF, h20, hR, ⟨hT, hB⟩, hL, hn, h6⟩ := h
  have hr : ∀ i, sp_I M 105 i = r i := fun i => by rw [← hR]
  have main : ∀ w0 : Int64, (if r (26 + x) = 2 then (1 : Int64) else if r (26 + x) = 1 then -3 else 0) = w0 → ∃ M', (fX11_tells F M 1 (nI s) (nI x) (-1) w0).bind (fun x9 => some (fX11_within x9.1 (-3) 3, x9.2)) = some (burns lf r s x, M') ∧ sp_fr [121, 123] [(103, 34), (103, 38), (103, 39), (103, 40)] M M' := by
    intro w0 hw
    obtain ⟨M1, e1, e2⟩ := tell_r (hd := 1) (p := -1) (w0 := w0) hF h20 hR hB hL hn h6 hs hx25 (by omega)
    have e1 : fX11_tells F M 1 (nI s) (nI x) (-1) w0 = _ := e1
    refine ⟨M1, ?_, e2⟩
    rw [e1, Option.bind_some]
    dsimp only
    unfold burns tlr
    cases tl lf r 1 s x (-1) with
    | none => dsimp only; rw [hw]
    | some v => rfl
  unfold fX11_burnsOf
  simp only [show (9 : Int32) + nI s = nI (9 + s) from nI_add 9 s, sp_ix_nI (show 9 + s < 5480 by omega) (by omega), Option.bind_some, hr, hx, show (26 : Int32) + nI x = nI (26 + x) from nI_add 26 x, sp_ix_nI (show 26 + x < 5480 by omega) (by omega), sp_do]
  by_cases k2 : r (26 + x) = 2
  · rw [if_pos k2]; exact main 1 (if_pos k2)
  · rw [if_neg k2]
    by_cases k1 : r (26 + x) = 1
    · rw [if_pos k1]; exact main (-3) (by rw [if_neg k2, if_pos k1])
    · rw [if_neg k1]; exact main 0 (by rw [if_neg k2, if_neg k1])
theorem barred_r (h : RX F M r lf n T) (hs : s < n) (hc : c < 25) : ∃ M', fX11_isBarred F M (nI s) (nI c) = some (barred lf r s c, M') ∧ sp_fr [121, 123] [(103, 34), (103, 38), (103, 39), (103, 40)] M M' := by
  obtain ⟨hF, h20, hR, ⟨hT, hB⟩, hL, hn, h6⟩ := h
  have hr : ∀ i, sp_I M 105 i = r i := fun i => by rw [← hR]
  unfold fX11_isBarred barred
  rw [show (26 : Int32) + nI c = nI (26 + c) from nI_add 26 c, sp_ix_nI (show 26 + c < 5480 by omega) (by omega), Option.bind_some, hr]
  by_cases k3 : r (26 + c) = 3
  · rw [if_pos k3, if_pos k3]
    exact ⟨M, rfl, sp_fr.refl _ _ _⟩
  · rw [if_neg k3, if_neg k3]
    obtain ⟨M1, e1, e2⟩ := tell_r (hd := 3) (p := -1) (w0 := 0) hF h20 hR hB hL hn h6 hs hc (by omega)
    have e1 : fX11_tells F M 3 (nI s) (nI c) (-1) 0 = _ := e1
    refine ⟨M1, ?_, e2⟩
    rw [e1, Option.bind_some]
    dsimp only
    unfold tlr
    cases tl lf r 3 s c (-1) with
    | none => rfl
    | some v => rfl
theorem shun_r (h : RX F M r lf n T) (hs : s < n) (hc : c < 25) (hp : p < 5) : ∃ M', fX11_shuns F M (nI s) (nI p) (nI c) = some (shunV lf r s c p, M') ∧ sp_fr [121, 123] [(103, 34), (103, 38), (103, 39), (103, 40)] M M' := by
  obtain ⟨hF, h20, hR, ⟨hT, hB⟩, hL, hn, h6⟩ := h
  obtain ⟨M1, e1, e2⟩ := tell_r (hd := 2) (p := nI p) (w0 := 0) hF h20 hR hB hL hn h6 hs hc (by omega)
  have e1 : fX11_tells F M 2 (nI s) (nI c) (nI p) 0 = _ := e1
  refine ⟨M1, ?_, e2⟩
  unfold fX11_shuns shunV
  rw [e1, Option.bind_some]
  dsimp only
  unfold tlr
  cases tl lf r 2 s c (nI p) with
  | none => rfl
  | some v => rfl
theorem comes_r (h : RX F M r lf n T) (hs : s < n) (hc : c < 25) (hp : p < 5) : ∃ M', fX11_comes F M (nI s) (nI p) (nI c) = some (comesV lf r s c p, M') ∧ sp_fr [121, 123] [(103, 34), (103, 38), (103, 39), (103, 40)] M M' := by
  have h' := h
  obtain ⟨hF, h20, hR, ⟨hT, hB⟩, hL, hn, h6⟩ := h
  have hr : ∀ i, sp_I M 105 i = r i := fun i => by rw [← hR]
  obtain ⟨z, hz, ez⟩ := bt_stand hB hp
  unfold fX11_comes fX11_is comesV
  simp only [show (62 : Int32) + nI p = nI (62 + p) from nI_add 62 p, show (21 : Int32) + nI p = nI (21 + p) from nI_add 21 p, show (57 : Int32) + nI p = nI (57 + p) from nI_add 57 p, sp_ix_nI (show 62 + p < 5480 by omega) (by omega), sp_ix_nI (show 21 + p < 5480 by omega) (by omega), sp_ix_nI (show 57 + p < 5480 by omega) (by omega), Option.bind_some, hr, ez, (far_e c hc z hz).2.1, nI_clamp (show z < 2 ^ 31 by omega)]
  by_cases k1 : r (62 + p) >>> (nI s &&& 31) &&& 1 = 1
  · rw [if_pos k1, if_pos k1, if_neg (by decide)]
    by_cases k2 : r (57 + p) < nI (far c z)
    · rw [if_pos k2, if_pos k2]
      exact ⟨M, rfl, sp_fr.refl _ _ _⟩
    · rw [if_neg k2, if_neg k2]
      obtain ⟨M1, e1, e2⟩ := shun_r h' hs hc hp
      refine ⟨M1, ?_, e2⟩
      rw [e1, Option.bind_some]
      dsimp only
      unfold shunV
      cases tl lf r 2 s c (nI p) with
      | none => rfl
      | some v => rfl
  · rw [if_neg k1, if_neg k1, if_pos rfl]
    exact ⟨M, rfl, sp_fr.refl _ _ _⟩
end Goes
