/-! ===== expressions: the class reads a leaf that is a word ===== -/
theorem fnd_lt {α : Type} {P : α → Bool} : ∀ (l : List α) (k j : Nat), fnd P k l = some j → k ≤ j ∧ j < k + l.length
  | [], _, _, h => by cases h
  | x :: xs, k, j, h => by
    rw [fnd] at h
    rw [List.length_cons]
    by_cases z : P x = true
    · rw [if_pos z] at h
      have : k = j := Option.some.inj h
      omega
    · rw [if_neg z] at h
      have := fnd_lt xs (k + 1) j h
      omega
theorem wdx_lt {q : Nat → Nat} {n f : Nat} {cs : List Int64} {j : Nat} (h : wdx q n f cs = some j) : j < cs.length := by
  rw [wdx_e] at h
  have := fnd_lt cs 0 j h
  omega
section LeafW
variable {p0 : PP} {F n f nw len m lv br : Nat} {q : Nat → Nat} {M : sp_Mem} {Ai : List (Nat × ev_S × Nat)}
theorem num_no (hF : 1000 ≤ F) {lim : Nat} (hl : lim ≤ 1000) (hT : TXC M q n) (hK : TKC M q n f) (hS : tkS q n f ≠ 2) : fX8_numberTo F M (nI lim) = some (-1) := by
  rw [num_c hF hl hT hK, if_neg hS]
theorem l50 (h : sp_I M 96 6 = nI lv) (hlv : lv < 50) : sp_I M 96 6 < 50 := by
  rw [h, show (50 : Int32) = nI 50 from rfl, nIlt (by omega) (by omega)]
  exact hlv
theorem leaf_full {ord : Bool} (h : XC M q n f ord nw p0 Ai len len m lv br) (hlv : ¬ lv < 50) (h2 : lv < 1000) : fX2_readPart F M = some (0, M) := by
  unfold fX2_readPart
  rw [if_neg (by rw [h.2.2.2.1, show (50 : Int32) = nI 50 from rfl, nIlt (by omega) (by omega)]; exact hlv)]
/-- in a law -/
theorem leaf_w (hF : 1000 ≤ F) (h : XC M q n f false 10 p0 Ai len len m lv br) (hlv : lv < 50) (hS : tkS q n f ≠ 2) : (wdx q n f cs_8 = none → fX2_readPart F M = some (0, M)) ∧ ∀ j, wdx q n f cs_8 = some j → ∃ M', fX2_readPart F M = some (1, M') ∧ xfr M M' ∧ XC M' q n (nxt q n f) false 10 p0 Ai len (len + 1) m (lv + 1) br ∧ sp_I M' 96 8 = 0 ∧ ev_Seg 10 (ev_cc (sp_I M' 99) (len + 1)) len (len + 1) (fun W => some (W j)) 1 := by
  have hnum : fX8_numberTo F M 1000 = some (-1) := num_no (lim := 1000) hF (by omega) h.1 h.2.1 hS
  have h7 : sp_I M 96 7 = 0 := h.2.2.2.2.2.1
  have pre : ∀ x, wdx q n f cs_8 = x → fX2_readPart F M = (if oN x = -1 then some (0, M) else fX2_readPart_j106 F (oN x) M) := by
    intro x hx
    unfold fX2_readPart fX2_readPart_j45
    rw [if_pos (l50 h.2.2.2.1 hlv), hnum, Option.bind_some, if_pos rfl, h7, if_pos rfl, plc_8 hF h.1 h.2.1, Option.bind_some, hx, if_pos rfl]
  refine ⟨fun hx => by rw [pre _ hx]; rfl, fun j hx => ?_⟩
  have hj : j < 10 := wdx_lt hx
  obtain ⟨M', M1, e1, e2, e3, e4, e5, e6⟩ := la_c (a := 2) (b := j) (v := fun W => some (W j)) hF h (by rw [wdx_S hx]; decide) (by omega) (by omega) (fun code hc => ev_Seg_word hc hj (by omega))
  refine ⟨M', ?_, e3, e4, e5, e6⟩
  rw [pre _ hx, show oN (some j) = nI j from rfl, if_neg (nI_m1 (by omega))]
  unfold fX2_readPart_j106
  rw [show fX9_addStep M 97 2 (nI j) = some M1 from e1, Option.bind_some]
  exact e2
/-- in orders -/
theorem leaf_o (hF : 1000 ≤ F) (h : XC M q n f true 16 p0 Ai len len m lv br) (hlv : lv < 50) (hS : tkS q n f ≠ 2) : (wdx q n f cs_7 = none → fX2_readPart F M = some (0, M)) ∧ (∀ j, wdx q n f cs_7 = some j → j < 4 → ∃ M', fX2_readPart F M = some (1, M') ∧ xfr M M' ∧ XC M' q n (nxt q n f) true 16 p0 Ai len (len + 1) m (lv + 1) br ∧ sp_I M' 96 8 = 0 ∧ ev_Seg 16 (ev_cc (sp_I M' 99) (len + 1)) len (len + 1) (fun W => some (W j)) 1) ∧ (∀ j, wdx q n f cs_7 = some j → ¬ j < 4 → (tkS q n (nxt q n f) = 2 ∧ nbT q n (nxt q n f) ≤ 5) → ∃ M', fX2_readPart F M = some (1, M') ∧ xfr M M' ∧ XC M' q n (nxt q n (nxt q n f)) true 16 p0 Ai len (len + 1) m (lv + 1) br ∧ sp_I M' 96 8 = 0 ∧ ev_Seg 16 (ev_cc (sp_I M' 99) (len + 1)) len (len + 1) (fun W => some (W (4 + (j - 4) * 6 + nbT q n (nxt q n f)))) 1) ∧ (∀ j, wdx q n f cs_7 = some j → ¬ j < 4 → ¬ (tkS q n (nxt q n f) = 2 ∧ nbT q n (nxt q n f) ≤ 5) → ∃ M', fX2_readPart F M = some (0, M') ∧ xfr M M' ∧ TXC M' q n ∧ TKC M' q n (nxt q n f)) := by
  have hnum : fX8_numberTo F M 1000 = some (-1) := num_no (lim := 1000) hF (by omega) h.1 h.2.1 hS
  have h7 : sp_I M 96 7 = 1 := h.2.2.2.2.2.1
  have pre : ∀ x, wdx q n f cs_7 = x → fX2_readPart F M = (if oN x = -1 then some (0, M) else if oN x < 4 then fX2_readPart_j106 F (oN x) M else ((fX8_toNext F M).bind fun M23 => (fX8_numberTo F M23 5).bind fun v24 => if fX10_isWithin v24 0 5 = 0 then some (0, M23) else fX2_readPart_j106 F ((4 + ((oN x - 4) * 6)) + v24) M23)) := by
    intro x hx
    unfold fX2_readPart fX2_readPart_j45_3
    rw [if_pos (l50 h.2.2.2.1 hlv), hnum, Option.bind_some, if_pos rfl, h7, if_neg (by decide), plc_7 hF h.1 h.2.1, Option.bind_some, hx, if_neg (show ¬ (1 : Int32) = 0 by decide)]
    rfl
  refine ⟨fun hx => by rw [pre _ hx]; rfl, fun j hx h4 => ?_, fun j hx h4 hn => ?_, fun j hx h4 hn => ?_⟩
  · obtain ⟨M', M1, e1, e2, e3, e4, e5, e6⟩ := la_c (a := 2) (b := j) (v := fun W => some (W j)) hF h (by rw [wdx_S hx]; decide) (by omega) (by omega) (fun code hc => ev_Seg_word hc (by omega) (by omega))
    refine ⟨M', ?_, e3, e4, e5, e6⟩
    rw [pre _ hx, show oN (some j) = nI j from rfl, if_neg (nI_m1 (by omega)), if_pos (show nI j < 4 by rw [show (4 : Int32) = nI 4 from rfl, nIlt (by omega) (by omega)]; exact h4)]
    unfold fX2_readPart_j106
    rw [show fX9_addStep M 97 2 (nI j) = some M1 from e1, Option.bind_some]
    exact e2
  · have hj : j < 6 := wdx_lt hx
    have hg := nxt_gt h.2.1.1 (by rw [wdx_S hx]; decide)
    obtain ⟨M1, e1, e2, e3⟩ := XC_next (F := F) hF h.1 h.2.1 h.2.2.1 h.2.2.2.1 h.2.2.2.2.1 h.2.2.2.2.2.1 (by have := h.2.2.2.2.2.2; omega)
    have hnum2 := num_c (F := F) (lim := 5) hF (by omega) e3.1 e3.2.1
    rw [if_pos hn.1] at hnum2
    have hnum2 : fX8_numberTo F M1 5 = some (nI (min (nbT q n (nxt q n f)) 6)) := hnum2
    obtain ⟨M', M2, r1, r2, r3, r4, r5, r6⟩ := la_c (a := 2) (b := 4 + (j - 4) * 6 + nbT q n (nxt q n f)) (v := fun W => some (W (4 + (j - 4) * 6 + nbT q n (nxt q n f)))) hF e3 (by omega) (by omega) (by omega) (fun code hc => ev_Seg_word hc (by omega) (by omega))
    refine ⟨M', ?_, (e2.mono (by decide) (by decide)).tr r3, r4, r5, r6⟩
    rw [pre _ hx, show oN (some j) = nI j from rfl, if_neg (nI_m1 (by omega)), if_neg (show ¬ nI j < 4 by rw [show (4 : Int32) = nI 4 from rfl, nIlt (by omega) (by omega)]; exact h4), e1, Option.bind_some, hnum2, Option.bind_some, show min (nbT q n (nxt q n f)) 6 = nbT q n (nxt q n f) by omega, if_neg (by
      rw [w_in, nI_toInt (by omega)]
      have a0 : (0 : Int32).toInt = 0 := rfl
      have a5 : (5 : Int32).toInt = 5 := rfl
      omega), show nI j - 4 = nI (j - 4) from nI_sub (b := 4) (by omega) (by omega), show nI (j - 4) * 6 = nI ((j - 4) * 6) from nI_mul _ 6, show (4 : Int32) + nI ((j - 4) * 6) = nI (4 + (j - 4) * 6) from nI_add 4 _, nI_add]
    unfold fX2_readPart_j106
    rw [show fX9_addStep M1 97 2 (nI (4 + (j - 4) * 6 + nbT q n (nxt q n f))) = some M2 from r1, Option.bind_some]
    exact r2
  · have hj : j < 6 := wdx_lt hx
    have hg := nxt_gt h.2.1.1 (by rw [wdx_S hx]; decide)
    obtain ⟨M1, e1, e2, e3⟩ := XC_next (F := F) hF h.1 h.2.1 h.2.2.1 h.2.2.2.1 h.2.2.2.2.1 h.2.2.2.2.2.1 (by have := h.2.2.2.2.2.2; omega)
    refine ⟨M1, ?_, e2.mono (by decide) (by decide), e3.1, e3.2.1⟩
    rw [pre _ hx, show oN (some j) = nI j from rfl, if_neg (nI_m1 (by omega)), if_neg (show ¬ nI j < 4 by rw [show (4 : Int32) = nI 4 from rfl, nIlt (by omega) (by omega)]; exact h4), e1, Option.bind_some, show fX8_numberTo F M1 5 = _ from num_c (F := F) (lim := 5) hF (by omega) e3.1 e3.2.1, Option.bind_some, if_pos]
    rw [w_in]
    have a0 : (0 : Int32).toInt = 0 := rfl
    have a5 : (5 : Int32).toInt = 5 := rfl
    by_cases z : tkS q n (nxt q n f) = 2
    · have hgt : ¬ nbT q n (nxt q n f) ≤ 5 := fun w => hn ⟨z, w⟩
      rw [if_pos z, show min (nbN q (nxt q n f) (tkT q n (nxt q n f) - nxt q n f)) (5 + 1) = 6 by
        have : ¬ nbN q (nxt q n f) (tkT q n (nxt q n f) - nxt q n f) ≤ 5 := hgt
        omega, nI_toInt (by omega)]
      omega
    · rw [if_neg z]
      have : (-1 : Int32).toInt = -1 := rfl
      omega
end LeafW
