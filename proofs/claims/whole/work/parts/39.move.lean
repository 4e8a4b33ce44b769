/-! ===== ways, distances, numbers ===== -/
def far (a b : Nat) : Nat := (a % 5 - b % 5) + (b % 5 - a % 5) + ((a / 5 - b / 5) + (b / 5 - a / 5))
def stp (c w : Nat) : Option Nat := if w = 1 then (if c / 5 < 4 then some (c + 5) else none) else if w = 2 then (if c % 5 < 4 then some (c + 1) else none) else if w = 3 then (if 0 < c / 5 then some (c - 5) else none) else if w = 4 then (if 0 < c % 5 then some (c - 1) else none) else some c
def oN (x : Option Nat) : Int32 := match x with
  | none => -1
  | some d => nI d
theorem far_e : ∀ a, a < 25 → ∀ b, b < 25 → fX10_farApart (nI a) (nI b) = some (nI (far a b)) ∧ fX11_apart (nI a) (nI b) = some (nI (far a b)) ∧ far a b ≤ 8 := by decide +kernel
theorem stp_e : ∀ c, c < 25 → ∀ w, w < 5 → fX10_stepFrom (nI c) (nI w) = some (oN (stp c w)) ∧ fX11_nextTo (nI c) (nI w) = some (oN (stp c w)) ∧ (stp c w).all (fun d => decide (d < 25)) = true := by decide +kernel
theorem stp_lt {c w d : Nat} (hc : c < 25) (hw : w < 5) (h : stp c w = some d) : d < 25 := by
  have := (stp_e c hc w hw).2.2
  rw [h] at this
  simpa using this
theorem c5_e : ∀ c, c < 25 → nI c - nI c / 5 * 5 = nI (c % 5) ∧ nI c / 5 = nI (c / 5) := by decide +kernel
theorem c5_m : ∀ c, c < 25 → nI c - nI (c / 5) * 5 = nI (c % 5) := by decide +kernel
theorem nI_div {a b : Nat} (hb : 0 < b) (ha : a < 2 ^ 31) (hb2 : b < 2 ^ 31) : nI a / nI b = nI (a / b) := by
  have : a / b ≤ a := Nat.div_le_self a b
  rw [n_eq, t_div (by rw [nI_toInt hb2]; omega), nI_toInt ha, nI_toInt hb2, nI_toInt (by omega)]
  rfl
theorem nI_sub {a b : Nat} (h : b ≤ a) (ha : a < 2 ^ 31) : nI a - nI b = nI (a - b) := by
  rw [n_eq, t_sub (by rw [nI_toInt ha, nI_toInt (by omega)]; omega) (by rw [nI_toInt ha, nI_toInt (by omega)]; omega), nI_toInt ha, nI_toInt (by omega), nI_toInt (by omega)]
  omega
theorem nI_mod {a b : Nat} (hb : 0 < b) (ha : a < 2 ^ 31) (hb2 : b < 2 ^ 31) : nI a - nI a / nI b * nI b = nI (a % b) := by
  have h := Nat.div_add_mod a b
  rw [Nat.mul_comm] at h
  rw [nI_div hb ha hb2, nI_mul, nI_sub (by omega) ha]
  congr 1
  omega
theorem i64_32 (x : Int32) : Int64.toInt32 (Int32.toInt64 x) = x := by
  have := n_range x
  rw [n_eq, l_to (by rw [n_l]; omega) (by rw [n_l]; omega), n_l]
theorem near_e {x lo hi : Int32} (h : lo.toInt ≤ hi.toInt) : fX10_nearest x lo hi = fX11_within (Int32.toInt64 x) lo hi := by
  unfold fX10_nearest fX11_within sp_max sp_min
  simp only [n_lt, l_le, n_l, i64_32]
  by_cases a : x.toInt < hi.toInt
  · rw [if_pos a]
    by_cases b : lo.toInt < x.toInt
    · rw [if_pos b, if_pos (by omega), if_pos (by omega)]
    · rw [if_neg b]
      by_cases c : lo.toInt ≤ x.toInt
      · rw [if_pos c, if_pos (by omega), n_eq]; omega
      · rw [if_neg c]
  · rw [if_neg a, if_pos (show lo.toInt ≤ x.toInt by omega)]
    by_cases b : lo.toInt < hi.toInt
    · rw [if_pos b]
      by_cases c : x.toInt ≤ hi.toInt
      · rw [if_pos c, n_eq]; omega
      · rw [if_neg c]
    · rw [if_neg b]
      by_cases c : x.toInt ≤ hi.toInt
      · rw [if_pos c, n_eq]; omega
      · rw [if_neg c, n_eq]; omega
theorem wt_rg {v : Int64} {lo hi : Int32} (h : lo.toInt ≤ hi.toInt) : wi (fX11_within v lo hi) lo.toInt hi.toInt := by
  unfold fX11_within
  simp only [l_le, n_l]
  split
  · split
    · have h1 := n_range lo
      have h2 := n_range hi
      unfold wi
      rw [l_to (by omega) (by omega)]
      omega
    · exact ⟨h, Int.le_refl _⟩
  · exact ⟨Int.le_refl _, h⟩
theorem wt_id {x lo hi : Int32} (h1 : lo.toInt ≤ x.toInt) (h2 : x.toInt ≤ hi.toInt) : fX11_within (Int32.toInt64 x) lo hi = x := by
  unfold fX11_within
  simp only [l_le, n_l, i64_32]
  rw [if_pos h1, if_pos h2]
/-! ===== bounds, where the MINUTE may be beyond 999 ===== -/
def i_BT (T : Int) (r : Nat → Int32) : Prop := i_Q r ∧ wi (r 5) 0 T ∧ ∀ i, 6 ≤ i → i < 79 → wi (r i) (lo i) (hi i)
theorem lh5 : lo 5 = 0 ∧ hi 5 = 999 ∧ lo 6 = 0 ∧ hi 6 = 2 ∧ lo 7 = 0 ∧ hi 7 = 9 ∧ lo 8 = 0 ∧ hi 8 = 24 := by decide
theorem BT_of {r : Nat → Int32} (h : i_B r) : i_BT 999 r := ⟨h.1, by have := h.2 5 (by omega) (by omega); rwa [lh5.1, lh5.2.1] at this, fun i h1 h2 => h.2 i (by omega) h2⟩
theorem BT_to {r : Nat → Int32} (h : i_BT 999 r) : i_B r := ⟨h.1, fun i h1 h2 => by
  by_cases h5 : i = 5
  · rw [h5, lh5.1, lh5.2.1]; exact h.2.1
  · exact h.2.2 i (by omega) h2⟩
theorem BT_mono {r : Nat → Int32} {T T' : Int} (hT : T ≤ T') (h : i_BT T r) : i_BT T' r := ⟨h.1, ⟨h.2.1.1, by have := h.2.1.2; omega⟩, h.2.2⟩
section BT
variable {T : Int} {r : Nat → Int32}
theorem bt_n (h : i_BT T r) : ∃ n : Nat, n ≤ 6 ∧ r 0 = nI n := h.1.1
theorem bt_p (h : i_BT T r) : ∃ n : Nat, n ≤ 5 ∧ r 1 = nI n := h.1.2.1
theorem bt_min (h : i_BT T r) : ∃ m : Nat, (m : Int) ≤ T ∧ r 5 = nI m := by
  obtain ⟨m, hm, e⟩ := n_of (n := T.toNat + 1) h.2.1.1 (by have := h.2.1.2; have := h.2.1.1; omega)
  have h2 := h.2.1.2
  have h1 := h.2.1.1
  refine ⟨(r 5).toInt.toNat, by omega, ?_⟩
  have := n_range (r 5)
  rw [n_eq, nI_toInt (by omega)]; omega
theorem bt_at (h : i_BT T r) {i : Nat} (h1 : 6 ≤ i) (h2 : i < 79) : wi (r i) (lo i) (hi i) := h.2.2 i h1 h2
theorem bt_home (h : i_BT T r) : ∃ c : Nat, c < 25 ∧ r 8 = nI c := by
  have := bt_at h (i := 8) (by omega) (by omega)
  rw [lh5.2.2.2.2.2.2.1, lh5.2.2.2.2.2.2.2] at this
  exact n_of (n := 25) this.1 (by have := this.2; omega)
theorem bt_cell (h : i_BT T r) {s : Nat} (hs : s < 6) : r (9 + s) = -1 ∨ ∃ x : Nat, x < 25 ∧ r (9 + s) = nI x := by
  have := bt_at h (i := 9 + s) (by omega) (by omega)
  rw [(bd_cell s hs).1, (bd_cell s hs).2] at this
  by_cases hm : (r (9 + s)).toInt = -1
  · left; rw [n_eq, hm]; rfl
  · right; exact n_of (n := 25) (by have := this.1; omega) (by have := this.2; omega)
theorem bt_stand (h : i_BT T r) {s : Nat} (hs : s < 5) : ∃ x : Nat, x < 25 ∧ r (21 + s) = nI x := by
  have := bt_at h (i := 21 + s) (by omega) (by omega)
  rw [(bd_stand s hs).1, (bd_stand s hs).2] at this
  exact n_of (n := 25) this.1 (by have := this.2; omega)
theorem bt_heat (h : i_BT T r) {s : Nat} (hs : s < 6) : wi (r (15 + s)) 0 9 := by
  have := bt_at h (i := 15 + s) (by omega) (by omega)
  rwa [(bd_heat s hs).1, (bd_heat s hs).2] at this
theorem bt_name (h : i_BT T r) {s : Nat} (hs : s < 6) : wi (r (51 + s)) 0 99 := by
  have := bt_at h (i := 51 + s) (by omega) (by omega)
  rwa [(bd_name s hs).1, (bd_name s hs).2] at this
theorem bt_kind (h : i_BT T r) {s : Nat} (hs : s < 25) : wi (r (26 + s)) 0 3 := by
  have := bt_at h (i := 26 + s) (by omega) (by omega)
  rwa [(bd_kind s hs).1, (bd_kind s hs).2] at this
theorem bt_mood (h : i_BT T r) : wi (r 7) 0 9 := by
  have := bt_at h (i := 7) (by omega) (by omega)
  rwa [lh5.2.2.2.2.1, lh5.2.2.2.2.2.1] at this
end BT
/-! ===== what a law tells of a spark ===== -/
def ev_w (r : Nat → Int32) (s c : Nat) (p : Int32) (i : Nat) : Int32 := if i = 0 then nI s else if i = 1 then r (15 + s) else if i = 2 then r (51 + s) else if i = 3 then nI (c % 5) else if i = 4 then nI (c / 5) else if i = 5 then r (26 + c) else if i = 6 then nI (far c (r 8).toNatClampNeg) else if i = 7 then p else if i = 8 then r 5 else r 7
def ev_W (r : Nat → Int32) (s c : Nat) (p : Int32) (i : Nat) : Int64 := Int32.toInt64 (ev_w r s c p i)
def tl (lf : Option (List ev_C)) (r : Nat → Int32) (hd s c : Nat) (p : Int32) : Option Int64 := match lf with
  | none => none
  | some cl => ev_tk cl (ev_W r s c p) hd cl.length
/-- the law in force, of the class's room and of the reference's row -/
def Law (M : sp_Mem) (o : Nat) (r : Nat → Int32) (lf : Option (List ev_C)) : Prop := match lf with
  | none => r 4 = -1
  | some cl => ∃ k t, k < 6 ∧ r 4 = nI k ∧ (k : Int) < (r 3).toInt ∧ sp_P M (o + 11) k = some t ∧ 132 ≤ t ∧ ev_LC (sp_I M (t + 1)) (sp_I M (t + 2)) (sp_I M t 2) (sp_I M t 3) (sp_N M (t + 1)) (sp_N M (t + 2)) cl ∧ ev_LQ (fun i => r (80 + 900 * k + i)) cl
def LawQ (r : Nat → Int32) (lf : Option (List ev_C)) : Prop := match lf with
  | none => r 4 = -1
  | some cl => ∃ k, k < 6 ∧ r 4 = nI k ∧ ev_LQ (fun i => r (80 + 900 * k + i)) cl
theorem Law.q {M : sp_Mem} {o : Nat} {r : Nat → Int32} {lf : Option (List ev_C)} (h : Law M o r lf) : LawQ r lf := by
  cases lf with
  | none => exact h
  | some cl =>
    obtain ⟨k, t, h1, h2, h3, h4, h5, h6, h7⟩ := h
    exact ⟨k, h1, h2, h7⟩
theorem Law_ex {M : sp_Mem} {o : Nat} {r : Nat → Int32} (hq : i_Q r) (h : i_Law M o r) : ∃ lf, Law M o r lf := by
  obtain ⟨n, hn, h3, hf⟩ := hq.2.2.2.1
  by_cases hm : r 4 = -1
  · exact ⟨none, hm⟩
  · have h4 : 0 ≤ (r 4).toInt := by
      have h0 := hf.1
      rw [n_eq, show (-1 : Int32).toInt = -1 from rfl] at hm
      omega
    obtain ⟨k, hk, e⟩ := n_of (n := 6) h4 (by have := hf.2; omega)
    have hk3 : (k : Int) < (r 3).toInt := by
      have := hf.2
      rw [e, nI_toInt (by omega)] at this
      rw [h3, nI_toInt (by omega)]
      omega
    obtain ⟨t, g1, g2, g3, cl, g4, g5⟩ := h k hk3
    exact ⟨some cl, k, t, hk, e, hk3, g1, g2, g4, g5⟩
theorem Law_fr {M M' : sp_Mem} {o : Nat} {r r' : Nat → Int32} {lf : Option (List ev_C)} (h : Law M o r lf) (hP : ∀ j, j < 6 → sp_P M' (o + 11) j = sp_P M (o + 11) j) (hI : ∀ i, 132 ≤ i → sp_I M' i = sp_I M i) (hN : ∀ i, sp_N M' i = sp_N M i) (h3 : r' 3 = r 3) (h4 : r' 4 = r 4) (hr : ∀ i, 80 ≤ i → i < 5480 → r' i = r i) : Law M' o r' lf := by
  cases lf with
  | none => exact h4.trans h
  | some cl =>
    obtain ⟨k, t, g1, g2, g3, g4, g5, g6, g7⟩ := h
    refine ⟨k, t, g1, h4.trans g2, by rw [h3]; exact g3, by rw [hP k g1]; exact g4, g5, ?_, ev_LQ_ext (fun i hi => hr _ (by omega) (by omega)) g7⟩
    rw [hI (t + 1) (by omega), hI (t + 2) (by omega), hI t (by omega), hN, hN]
    exact g6
theorem LawQ_cg {r r' : Nat → Int32} {lf : Option (List ev_C)} (h : LawQ r lf) (h4 : r' 4 = r 4) (hr : ∀ i, 80 ≤ i → i < 5480 → r' i = r i) : LawQ r' lf := by
  cases lf with
  | none => exact h4.trans h
  | some cl =>
    obtain ⟨k, g1, g2, g3⟩ := h
    exact ⟨k, g1, h4.trans g2, ev_LQ_ext (fun i hi => hr _ (by omega) (by omega)) g3⟩
theorem ev_w_cg {r r' : Nat → Int32} {s c : Nat} {p : Int32} (h1 : r' (15 + s) = r (15 + s)) (h2 : r' (51 + s) = r (51 + s)) (h5 : r' (26 + c) = r (26 + c)) (h6 : r' 8 = r 8) (h8 : r' 5 = r 5) (h9 : r' 7 = r 7) : ev_w r' s c p = ev_w r s c p := by
  funext i
  unfold ev_w
  rw [h1, h2, h5, h6, h8, h9]
theorem tl_cg {lf : Option (List ev_C)} {r r' : Nat → Int32} {hd s c : Nat} {p : Int32} (h : ev_w r' s c p = ev_w r s c p) : tl lf r' hd s c p = tl lf r hd s c p := by
  have : ev_W r' s c p = ev_W r s c p := by funext i; unfold ev_W; rw [h]
  unfold tl
  rw [this]
theorem ev_W_ok {T : Int} {r : Nat → Int32} (hB : i_BT T r) (hT : T ≤ 2000) {s c : Nat} {p : Int32} (hs : s < 6) (hc : c < 25) (hp : wi p (-1) 4) (i : Nat) : ev_chk (ev_W r s c p i) = some (ev_W r s c p i) := by
  have hw : wi (ev_w r s c p i) (-2000) 2000 := by
    unfold ev_w
    have a1 := bt_heat hB hs
    have a2 := bt_name hB hs
    have a3 := bt_kind hB hc
    have a4 := bt_mood hB
    have a5 := hB.2.1
    obtain ⟨h, hh, eh⟩ := bt_home hB
    have a6 := (far_e c hc h hh).2.2
    unfold wi at *
    rw [eh, nI_clamp (by omega)]
    split
    · rw [nI_toInt (by omega)]; omega
    · split
      · omega
      · split
        · omega
        · split
          · rw [nI_toInt (by omega)]; omega
          · split
            · rw [nI_toInt (by omega)]; omega
            · split
              · omega
              · split
                · rw [nI_toInt (by omega)]; omega
                · split
                  · omega
                  · split
                    · omega
                    · omega
  unfold ev_W
  exact ev_chk_of (by rw [n_l]; have := hw.1; omega) (by rw [n_l]; have := hw.2; omega)
theorem lookAt_e {M : sp_Mem} {o n s c h : Nat} {p : Int32} {r : Nat → Int32} (ho : 5 ≤ o) (hR : i_Room M o r) (hn : r 0 = nI n) (hn6 : n ≤ 6) (hs : s < n) (hc : c < 25) (hh : h < 25) (eh : r 8 = nI h) : ∃ M', fX6_lookAt M o (nI s) (nI c) p = some M' ∧ ∀ i, i < 10 → sp_I M' 4 i = ev_w r s c p i := by
  have e4 : sp_I M o 4 = nI n := (rm_s hR).trans hn
  have e1 := rm_heat hR (show s < 6 by omega)
  have e2 := rm_name hR (show s < 6 by omega)
  have e3 := rm_kind hR hc
  have e5 : sp_I M (o + 10) 0 = r 5 := rm_term hR (k := 0) (by omega)
  have e6 : sp_I M (o + 10) 2 = r 7 := rm_term hR (k := 2) (by omega)
  have e7 : sp_I M (o + 10) 3 = r 8 := rm_term hR (k := 3) (by omega)
  have e7' : sp_I M (o + 10) 3 = nI h := e7.trans eh
  have hs1 : (fX5_hasSpark M o (nI s) = 0) = False := by
    rw [has_s (show n < 100 by omega) e4, nI_toInt (by omega)]; simp; omega
  have hc1 : (fX10_isCell (nI c) = 0) = False := by
    rw [w_cell, nI_toInt (by omega)]; simp; omega
  have n1 : ¬ (o + 3 = 4) := by omega
  have n2 : ¬ (o + 4 = 4) := by omega
  have n3 : ¬ (o + 1 = 4) := by omega
  have n4 : ¬ (o + 10 = 4) := by omega
  refine ⟨sp_setI (sp_setI (sp_setI (sp_setI (sp_setI (sp_setI (sp_setI (sp_setI (sp_setI (sp_setI M 4 0 (nI s)) 4 1 (r (15 + s))) 4 2 (r (51 + s))) 4 3 (nI (c % 5))) 4 4 (nI (c / 5))) 4 5 (r (26 + c))) 4 6 (nI (far c h))) 4 7 p) 4 8 (r 5)) 4 9 (r 7), ?_, ?_⟩
  · unfold fX6_lookAt
    simp only [hs1, hc1, if_false, sp_do, sp_ix_nI (show s < 6 by omega) (by omega), sp_ix_nI (show c < 25 by omega) (by omega), Option.bind_some, sp_I_setI, n1, n2, n3, n4, false_and, e1, e2, e3, e5, e6, e7', (far_e c hc h hh).1, (c5_e c hc).2, c5_m c hc]
  · intro i hi
    have : i = 0 ∨ i = 1 ∨ i = 2 ∨ i = 3 ∨ i = 4 ∨ i = 5 ∨ i = 6 ∨ i = 7 ∨ i = 8 ∨ i = 9 := by omega
    rcases this with rfl | rfl | rfl | rfl | rfl | rfl | rfl | rfl | rfl | rfl <;> simp [sp_I_setI, ev_w, eh, nI_clamp (show h < 2 ^ 31 by omega)]
/-- the class's telling -/
theorem tell_c {F o s c n hd : Nat} {T : Int} {M : sp_Mem} {r : Nat → Int32} {p : Int32} {lf : Option (List ev_C)} (hF : 1000 ≤ F) (hN4 : sp_N M 4 = 10) (ho : 5 ≤ o) (hR : i_Room M o r) (hB : i_BT T r) (hT : T ≤ 2000) (hL : Law M o r lf) (hn : r 0 = nI n) (h6 : n ≤ 6) (hs : s < n) (hc : c < 25) (hp : wi p (-1) 4) (hhd : hd < 4) : ∃ x M', fX6_toldBy F M o (nI hd) (nI s) (nI c) p = some (x, M') ∧ sp_fr [4, 3] [] M M' ∧ (tl lf r hd s c p = none → x = -2000000000) ∧ ∀ v, tl lf r hd s c p = some v → Int32.toInt64 x = v ∧ x ≠ -2000000000 := by
  suffices hx : ∃ x M', fX6_toldBy F M o (nI hd) (nI s) (nI c) p = some (x, M') ∧ (tl lf r hd s c p = none → x = -2000000000) ∧ ∀ v, tl lf r hd s c p = some v → Int32.toInt64 x = v ∧ x ≠ -2000000000 by
    obtain ⟨x, M', g1, g2⟩ := hx
    exact ⟨x, M', g1, frX6_toldBy g1, g2⟩
  unfold fX6_toldBy fX5_textInForce
  rw [rm_f hR]
  cases lf with
  | none =>
    have hL : r 4 = -1 := hL
    have : fX5_hasLaw M o (r 4) = 0 := by rw [hL]; unfold fX5_hasLaw; rw [if_pos (by decide)]
    rw [if_pos this]
    exact ⟨-2000000000, M, rfl, fun _ => rfl, fun v hv => by cases hv⟩
  | some cl =>
    obtain ⟨k, t, g1, g2, g3, g4, g5, g6, g7⟩ := hL
    obtain ⟨l, hl, e3, _⟩ := hB.1.2.2.2.1
    have : ¬ fX5_hasLaw M o (r 4) = 0 := by
      rw [has_l (show l < 100 by omega) ((rm_l hR).trans e3), g2, nI_toInt (by omega)]
      rw [e3, nI_toInt (by omega)] at g3
      simp; omega
    rw [if_neg this, g2, sp_ix_nI (show k < 6 by omega) (by omega), Option.bind_some, g4, Option.bind_some]
    show ∃ x M', fX6_toldBy_j11 F o t (nI hd) (nI s) (nI c) p M = some (x, M') ∧ _
    unfold fX6_toldBy_j11
    rw [if_neg (by rw [w_cell, nI_toInt (by omega)]; simp; omega)]
    obtain ⟨h, hh, eh⟩ := bt_home hB
    obtain ⟨M1, k1, k2⟩ := lookAt_e (p := p) ho hR hn h6 hs hc hh eh
    have kf := frX6_lookAt k1
    rw [k1, Option.bind_some]
    simp only [sp_do]
    have hI : ∀ i, i ≠ 4 → sp_I M1 i = sp_I M i := fun i hi => funext fun j => kf.1 i j (by simp [hi]) (by simp)
    have hTX : ev_TX M1 t cl (ev_W r s c p) := by
      refine ⟨g5, ?_, by rw [kf.2.2.2.2.1]; exact hN4, fun i hi => by rw [k2 i hi]; rfl, fun i hi => ev_W_ok hB hT (by omega) hc hp i⟩
      rw [hI (t + 1) (by omega), hI (t + 2) (by omega), hI t (by omega), kf.2.2.2.2.1, kf.2.2.2.2.1]
      exact g6
    have hlen : sp_I M1 t 2 = nI cl.length := hTX.2.1.2.1
    rw [hlen]
    obtain ⟨h12, _, lim, _, hq⟩ := g7
    exact tl_cls hF hhd (fun i c hc => ⟨(hq i c hc).1, (hq i c hc).2.2.1⟩) cl.length F M1 (Nat.le_refl _) (by omega) hTX
def tlr (lf : Option (List ev_C)) (r : Nat → Int32) (hd s c : Nat) (p : Int32) (w0 : Int64) : Int64 := match tl lf r hd s c p with
  | none => w0
  | some v => if hd < 2 then v else 1
/-- the reference's memory as it begins to tell -/
def tr16 (M : sp_Mem) (r : Nat → Int32) (k s c h : Nat) (p : Int32) : sp_Mem := sp_setL (sp_setL (sp_setL (sp_setL (sp_setL (sp_setL (sp_setL (sp_setL (sp_setL (sp_setL (sp_setI M 103 34 (nI (80 + 900 * k))) 121 1 (Int32.toInt64 (nI s))) 121 2 (Int32.toInt64 (r (15 + s)))) 121 3 (Int32.toInt64 (r (51 + s)))) 121 4 (Int32.toInt64 (nI (c % 5)))) 121 5 (Int32.toInt64 (nI (c / 5)))) 121 6 (Int32.toInt64 (r (26 + c)))) 121 7 (Int32.toInt64 (nI (far c h)))) 121 8 (Int32.toInt64 p)) 121 9 (Int32.toInt64 (r 5))) 121 10 (Int32.toInt64 (r 7))
theorem L_nf (M : sp_Mem) (o : Nat) {q j : Nat} (v : Int64) (h : j ≠ q) : sp_L (sp_setL M o q v) o j = sp_L M o j := by
  rw [sp_L_setL, if_neg (fun k => h k.2)]
theorem L_eq (M : sp_Mem) (o q : Nat) (v : Int64) : sp_L (sp_setL M o q v) o q = v := by
  rw [sp_L_setL, if_pos ⟨rfl, rfl⟩]
theorem tr16_TR {M : sp_Mem} {r : Nat → Int32} {k s c h : Nat} {p : Int32} (hk : k < 6) (hh : h < 25) (eh : r 8 = nI h) (h20 : sp_I M 103 20 = 0) (hr : ∀ i, sp_I M 105 i = r i) : ev_TR (tr16 M r k s c h p) (80 + 900 * k) (fun i => r (80 + 900 * k + i)) (ev_W r s c p) := by
  have e103 : ∀ j, sp_I (tr16 M r k s c h p) 103 j = sp_I (sp_setI M 103 34 (nI (80 + 900 * k))) 103 j := fun j => rfl
  have e105 : sp_I (tr16 M r k s c h p) 105 = sp_I M 105 := I_ne M 34 (nI (80 + 900 * k)) (show 105 ≠ 103 by decide)
  refine ⟨?_, by omega, ?_, fun i hi => ?_, fun i hi => ?_⟩
  · rw [e103, sp_I_setI, if_neg (by decide)]; exact h20
  · rw [e103, sp_I_setI, if_pos ⟨rfl, rfl⟩]
  · rw [e105]; exact hr _
  · have e6 : ev_w r s c p 6 = nI (far c h) := by
      show nI (far c (r 8).toNatClampNeg) = _
      rw [eh, nI_clamp (by omega)]
    unfold ev_W
    have : i = 0 ∨ i = 1 ∨ i = 2 ∨ i = 3 ∨ i = 4 ∨ i = 5 ∨ i = 6 ∨ i = 7 ∨ i = 8 ∨ i = 9 := by omega
    rcases this with rfl | rfl | rfl | rfl | rfl | rfl | rfl | rfl | rfl | rfl
    · rw [show ev_w r s c p 0 = nI s from rfl]; simp (disch := decide) only [tr16, L_nf, L_eq]
    · rw [show ev_w r s c p 1 = r (15 + s) from rfl]; simp (disch := decide) only [tr16, L_nf, L_eq]
    · rw [show ev_w r s c p 2 = r (51 + s) from rfl]; simp (disch := decide) only [tr16, L_nf, L_eq]
    · rw [show ev_w r s c p 3 = nI (c % 5) from rfl]; simp (disch := decide) only [tr16, L_nf, L_eq]
    · rw [show ev_w r s c p 4 = nI (c / 5) from rfl]; simp (disch := decide) only [tr16, L_nf, L_eq]
    · rw [show ev_w r s c p 5 = r (26 + c) from rfl]; simp (disch := decide) only [tr16, L_nf, L_eq]
    · rw [e6]; simp (disch := decide) only [tr16, L_nf, L_eq]
    · rw [show ev_w r s c p 7 = p from rfl]; simp (disch := decide) only [tr16, L_nf, L_eq]
    · rw [show ev_w r s c p 8 = r 5 from rfl]; simp (disch := decide) only [tr16, L_nf, L_eq]
    · rw [show ev_w r s c p 9 = r 7 from rfl]; simp (disch := decide) only [tr16, L_nf, L_eq]
theorem tr16_e {F k s c h hd : Nat} {M : sp_Mem} {r : Nat → Int32} {p : Int32} {w0 : Int64} (hk : k < 6) (hs : s < 6) (hc : c < 25) (hh : h < 25) (eh : r 8 = nI h) (e4 : r 4 = nI k) (hr : ∀ i, sp_I M 105 i = r i) : fX11_tells F M (nI hd) (nI s) (nI c) p w0 = fX11_tells_l172 F (fun b27 M26 => some (b27, M26)) F (nI hd) w0 (nI 0) (tr16 M r k s c h p) := by
  have h4 : ¬ sp_I M 105 4 = -1 := by
    rw [hr 4, e4, n_eq, nI_toInt (by omega), show (-1 : Int32).toInt = -1 from rfl]; omega
  have hlw : (80 : Int32) + 900 * sp_I M 105 4 = nI (80 + 900 * k) := by
    rw [hr 4, e4, show (900 : Int32) * nI k = nI (900 * k) from nI_mul 900 k]; exact nI_add 80 _
  have eh' : sp_I M 105 8 = nI h := (hr 8).trans eh
  unfold fX11_tells
  rw [if_neg h4]
  simp only [sp_do, sp_I_setI, sp_I_setL, Nat.reduceEqDiff, false_and, if_false, show (15 : Int32) + nI s = nI (15 + s) from nI_add 15 s, show (51 : Int32) + nI s = nI (51 + s) from nI_add 51 s, show (26 : Int32) + nI c = nI (26 + c) from nI_add 26 c, sp_ix_nI (show 15 + s < 5480 by omega) (by omega), sp_ix_nI (show 51 + s < 5480 by omega) (by omega), sp_ix_nI (show 26 + c < 5480 by omega) (by omega), Option.bind_some, hlw, eh', (far_e c hc h hh).2.1, (c5_e c hc).2, c5_m c hc]
  simp only [hr]
  rfl
/-- the reference's telling -/
theorem tell_r {F s c n hd : Nat} {T : Int} {M : sp_Mem} {r : Nat → Int32} {p : Int32} {w0 : Int64} {lf : Option (List ev_C)} (hF : 1000 ≤ F) (h20 : sp_I M 103 20 = 0) (hR : rM M = r) (hB : i_BT T r) (hL : LawQ r lf) (hn : r 0 = nI n) (h6 : n ≤ 6) (hs : s < n) (hc : c < 25) (hhd : hd < 4) : ∃ M', fX11_tells F M (nI hd) (nI s) (nI c) p w0 = some (tlr lf r hd s c p w0, M') ∧ sp_fr [121, 123] [(103, 34), (103, 38), (103, 39), (103, 40)] M M' := by
  suffices hx : ∃ M', fX11_tells F M (nI hd) (nI s) (nI c) p w0 = some (tlr lf r hd s c p w0, M') by
    obtain ⟨M', g1⟩ := hx
    exact ⟨M', g1, frX11_tells g1⟩
  have hr : ∀ i, sp_I M 105 i = r i := fun i => by rw [← hR]
  cases lf with
  | none =>
    have hL : r 4 = -1 := hL
    unfold fX11_tells
    rw [if_pos ((hr 4).trans hL)]
    exact ⟨M, rfl⟩
  | some cl =>
    obtain ⟨k, g1, g2, g7⟩ := hL
    obtain ⟨h, hh, eh⟩ := bt_home hB
    rw [tr16_e (h := h) g1 (by omega) hc hh eh g2 hr]
    obtain ⟨M', e1, e2⟩ := tl_ref (kx := fun b27 M26 => some (b27, M26)) (w0 := w0) hF hhd g7 cl.length 0 F (tr16 M r k s c h p) (by omega) (by have := g7.1; omega) (tr16_TR g1 hh eh h20 hr)
    exact ⟨M', e1⟩
