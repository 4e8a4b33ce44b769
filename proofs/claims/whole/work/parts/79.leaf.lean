/-! ===== expressions: the class reads a leaf ===== -/
section LeafC
variable {p0 : PP} {F n f nw len m lv br : Nat} {q : Nat → Nat} {ord : Bool} {M : sp_Mem} {Ai : List (Nat × ev_S × Nat)}
theorem PSC_leaf {a b : Nat} (hP : PSC M nw p0 Ai len len m) (hl : len < 400) (ha : a < 14) (hb : b < 1001) : PSC (sp_setI (sp_setI M 99 len ((nI b <<< (5 &&& 31)) ||| nI a)) 97 3 (nI (len + 1))) nw p0 Ai len (len + 1) m ∧ ev_cc (sp_I (sp_setI (sp_setI M 99 len ((nI b <<< (5 &&& 31)) ||| nI a)) 97 3 (nI (len + 1))) 99) (len + 1) len = (nI a, nI b) := by
  obtain ⟨g1, g2, g3, g4, g5, g6, g7⟩ := hP
  have en := enc_e a ha b hb
  have e99 : sp_I (sp_setI (sp_setI M 99 len ((nI b <<< (5 &&& 31)) ||| nI a)) 97 3 (nI (len + 1))) 99 = sp_I (sp_setI M 99 len ((nI b <<< (5 &&& 31)) ||| nI a)) 99 := I_ne _ _ _ (by decide)
  refine ⟨⟨g1, I_eq _ _ _ _, by omega, ?_, g5, ?_, ?_⟩, ?_⟩
  · rw [I_ne _ _ _ (by decide), I_ne _ _ _ (by decide)]; exact g4
  · exact SKC_cg (by rw [I_ne _ _ _ (by decide), I_ne _ _ _ (by decide)]) (by rw [I_ne _ _ _ (by decide), I_ne _ _ _ (by decide)]) Ai g6
  · rw [e99]
    exact Lay_cg Ai len m (fun i _ hi => cc_set M hi rfl) g7
  · unfold ev_cc
    rw [if_pos (by omega), e99, I_eq, en.1, en.2]
theorem jr_c {p len' : Nat} (hF : 1000 ≤ F) (hT : TXC M q n) (hK : TKC M q n f) (hP : PSC M nw p0 Ai p len' m) (h6 : sp_I M 96 6 = nI lv) (h5 : sp_I M 96 5 = nI br) (h7 : sp_I M 96 7 = bI ord) (hb : len' + Ai.length ≤ nxt q n f) : ∃ M', fX2_readPart_j136 F M = some (1, M') ∧ sp_fr [] [(96, 6), (96, 8), (94, 3), (94, 2), (94, 4)] M M' ∧ XC M' q n (nxt q n f) ord nw p0 Ai p len' m (lv + 1) br ∧ sp_I M' 96 8 = 0 := by
  have f1 : sp_fr [] [(96, 6), (96, 8)] M (sp_setI (sp_setI M 96 6 (nI (lv + 1))) 96 8 0) := (sp_fr_I (Or.inr (by decide)) rfl).tr (sp_fr_I (Or.inr (by decide)) rfl)
  obtain ⟨M', e1, e2, e3⟩ := XC_next (F := F) (lv := lv + 1) (br := br) (ord := ord) hF (TXC_fr f1 hT (by decide)) ⟨hK.1, (f1.1 94 3 (by decide) (by decide)).trans hK.2.1, (f1.1 94 4 (by decide) (by decide)).trans hK.2.2.1, (f1.1 94 2 (by decide) (by decide)).trans hK.2.2.2⟩ (PSC_fr f1 (by decide) hP) ((I_nf _ _ _ (by decide)).trans (I_eq _ _ _ _)) ((f1.1 96 5 (by decide) (by decide)).trans h5) ((f1.1 96 7 (by decide) (by decide)).trans h7) hb
  refine ⟨M', ?_, (f1.mono (by decide) (by decide)).tr (e2.mono (by decide) (by decide)), e3, (e2.1 96 8 (by decide) (by decide)).trans (I_eq _ _ _ _)⟩
  unfold fX2_readPart_j136
  simp only [sp_do]
  rw [h6, nI_1, e1, Option.bind_some]
/-- a step for the leaf, then on -/
theorem la_c {a b : Nat} {v : ev_S} (hF : 1000 ≤ F) (h : XC M q n f ord nw p0 Ai len len m lv br) (hS : tkS q n f ≠ 0) (ha : a < 14) (hb : b < 1001) (hv : ∀ code : Nat → Int32 × Int32, code len = (nI a, nI b) → ev_Seg nw code len (len + 1) v 1) : ∃ M' M1, fX9_addStep M 97 (nI a) (nI b) = some M1 ∧ fX2_readPart_j136 F M1 = some (1, M') ∧ xfr M M' ∧ XC M' q n (nxt q n f) ord nw p0 Ai len (len + 1) m (lv + 1) br ∧ sp_I M' 96 8 = 0 ∧ ev_Seg nw (ev_cc (sp_I M' 99) (len + 1)) len (len + 1) v 1 := by
  obtain ⟨hT, hK, hP, h6, h5, h7, hbu⟩ := h
  have hg := nxt_gt hK.1 hS
  have hn := hT.1
  have hl : len < 400 := by omega
  obtain ⟨P1, c1⟩ := PSC_leaf (a := a) (b := b) hP hl ha hb
  have f1 : sp_fr [99] [(97, 3)] M (sp_setI (sp_setI M 99 len ((nI b <<< (5 &&& 31)) ||| nI a)) 97 3 (nI (len + 1))) := (sp_fr_I (Or.inl (by decide)) rfl).tr (sp_fr_I (Or.inr (by decide)) rfl)
  obtain ⟨M', e1, e2, e3, e4⟩ := jr_c (F := F) (lv := lv) (br := br) (ord := ord) hF (TXC_fr f1 hT (by decide)) (q := q) (f := f) ⟨hK.1, (f1.1 94 3 (by decide) (by decide)).trans hK.2.1, (f1.1 94 4 (by decide) (by decide)).trans hK.2.2.1, (f1.1 94 2 (by decide) (by decide)).trans hK.2.2.2⟩ P1 ((f1.1 96 6 (by decide) (by decide)).trans h6) ((f1.1 96 5 (by decide) (by decide)).trans h5) ((f1.1 96 7 (by decide) (by decide)).trans h7) (by omega)
  refine ⟨M', _, add_c hP.1 hP.2.1 hl _ _, e1, (f1.mono (by decide) (by decide)).tr (e2.mono (by decide) (by decide)), e3, e4, hv _ ?_⟩
  rw [show sp_I M' 99 = sp_I (sp_setI (sp_setI M 99 len ((nI b <<< (5 &&& 31)) ||| nI a)) 97 3 (nI (len + 1))) 99 from funext fun j => e2.1 99 j (by decide) (by simp)]
  exact c1
theorem chk_n : ∀ b, b < 1001 → ev_chk (Int32.toInt64 (nI b)) = some (Int32.toInt64 (nI b)) := by decide +kernel
/-- a number -/
theorem leaf_n (hF : 1000 ≤ F) (h : XC M q n f ord nw p0 Ai len len m lv br) (hlv : lv < 50) (hS : tkS q n f = 2) : (nbT q n f ≤ 1000 → ∃ M', fX2_readPart F M = some (1, M') ∧ xfr M M' ∧ XC M' q n (nxt q n f) ord nw p0 Ai len (len + 1) m (lv + 1) br ∧ sp_I M' 96 8 = 0 ∧ ev_Seg nw (ev_cc (sp_I M' 99) (len + 1)) len (len + 1) (fun _ => some (Int32.toInt64 (nI (nbT q n f)))) 1) ∧ (¬ nbT q n f ≤ 1000 → fX2_readPart F M = some (0, M)) := by
  have hnum := num_c (F := F) (lim := 1000) hF (by omega) h.1 h.2.1
  rw [if_pos hS] at hnum
  have hnum : fX8_numberTo F M 1000 = some (nI (min (nbT q n f) 1001)) := hnum
  have h50 : sp_I M 96 6 < 50 := by rw [h.2.2.2.1, show (50 : Int32) = nI 50 from rfl, nIlt (by omega) (by omega)]; exact hlv
  have hmin : min (nbT q n f) 1001 ≤ 1001 := Nat.min_le_right _ _
  refine ⟨fun hle => ?_, fun hle => ?_⟩
  · obtain ⟨M', M1, e1, e2, e3, e4, e5, e6⟩ := la_c (a := 1) (b := nbT q n f) (v := fun _ => some (Int32.toInt64 (nI (nbT q n f)))) hF h (by omega) (by omega) (by omega) (fun code hc => ev_Seg_num hc (chk_n _ (by omega)))
    refine ⟨M', ?_, e3, e4, e5, e6⟩
    unfold fX2_readPart
    rw [if_pos h50, hnum, Option.bind_some, show min (nbT q n f) 1001 = nbT q n f by omega, if_neg (nI_m1 (by omega)), if_pos (show nI (nbT q n f) ≤ 1000 from nI_le (b := 1000) hle (by omega)), show fX9_addStep M 97 1 (nI (nbT q n f)) = some M1 from e1, Option.bind_some]
    exact e2
  · unfold fX2_readPart
    rw [if_pos h50, hnum, Option.bind_some, show min (nbT q n f) 1001 = 1001 by omega, if_neg (by decide), if_neg (by decide)]
end LeafC
