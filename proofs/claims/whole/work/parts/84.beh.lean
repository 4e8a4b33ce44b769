/-! ===== expressions: the class behind an operand: folding and pushing ===== -/
section Beh
variable {p0 : PP} {F n f nw len m nn lv br p : Nat} {q : Nat → Nat} {ord : Bool} {M : sp_Mem} {Ai : List (Nat × ev_S × Nat)} {v : ev_S}
theorem fold_w {b : Nat} (hF : 1000 ≤ F) (hb : 1 ≤ b) (hb7 : b < 7) (h : XC M q n f ord nw p0 Ai p len m lv br) (hS : ev_Seg nw (ev_cc (sp_I M 99) len) p len v nn) (ho : Fok b (drp Ai) v) : ∃ M' Ai' p' len' m' n', fX2_fold F M (nI b) = some M' ∧ sp_fr [99] [(97, 3), (96, 4)] M M' ∧ XC M' q n f ord nw p0 Ai' p' len' m' lv br ∧ ev_Seg nw (ev_cc (sp_I M' 99) len') p' len' (fo b (drp Ai) v).2 n' ∧ m' + n' = m + nn ∧ drp Ai' = (fo b (drp Ai) v).1 ∧ Ai' <:+ Ai := by
  obtain ⟨hT, hK, hP, h6, h5, h7, hbu⟩ := h
  have hn := hT.1
  have hfn := hK.1
  have hl := hP.2.2.2.2.1
  obtain ⟨M', A', p', len', m', n', f', e1, e2, e3, e4, e5, e6, e7, e8⟩ := fold_c (F := F) (kx := fun M12 => some M12) hb hb7 Ai F M p len m nn v (by omega) hP (by omega) hS ho
  have e6a : drp A' = (fo b (drp Ai) v).1 := congrArg Prod.fst e6
  have e6b : f' = (fo b (drp Ai) v).2 := congrArg Prod.snd e6
  refine ⟨M', A', p', len', m', n', e1, e2, ⟨TXC_fr e2 hT (by decide), ⟨hK.1, (e2.1 94 3 (by decide) (by decide)).trans hK.2.1, (e2.1 94 4 (by decide) (by decide)).trans hK.2.2.1, (e2.1 94 2 (by decide) (by decide)).trans hK.2.2.2⟩, e3, (e2.1 96 6 (by decide) (by decide)).trans h6, (e2.1 96 5 (by decide) (by decide)).trans h5, (e2.1 96 7 (by decide) (by decide)).trans h7, by omega⟩, by rw [← e6b]; exact e4, e5, e6a, e8⟩
theorem SKC_push {x : Int32} {L : Nat} : ∀ A : List (Nat × ev_S × Nat), A.length ≤ L → SKC M A → SKC (sp_setI (sp_setI M 100 L x) 96 4 (nI (L + 1))) A
  | [], _, _ => trivial
  | (k, g, a) :: A, hl, hs => by
    rw [List.length_cons] at hl
    refine ⟨hs.1, ?_, ?_, SKC_push A (by omega) hs.2.2.2⟩
    · rw [I_ne _ _ _ (by decide), I_nf _ _ _ (by omega)]; exact hs.2.1
    · rw [I_ne _ _ _ (by decide), I_ne _ _ _ (by decide)]; exact hs.2.2.1
/-- a binary item takes the operand below it -/
theorem PSC_pushB {kk : Nat} (hP : PSC M nw p0 Ai p len m) (hS : ev_Seg nw (ev_cc (sp_I M 99) len) p len v nn) (hk : 3 ≤ kk ∧ kk ≤ 10) (hL : Ai.length < 160) : PSC (sp_setI (sp_setI M 100 Ai.length (nI kk)) 96 4 (nI (Ai.length + 1))) nw p0 ((kk, v, 0) :: Ai) len len (m + nn) := by
  obtain ⟨g1, g2, g3, g4, g5, g6, g7⟩ := hP
  refine ⟨g1, by rw [I_ne _ _ _ (by decide), I_ne _ _ _ (by decide)]; exact g2, g3, I_eq _ _ _ _, by rw [List.length_cons]; omega, ⟨by omega, ?_, fun z => absurd z (by omega), SKC_push Ai (Nat.le_refl _) g6⟩, ?_⟩
  · rw [I_ne _ _ _ (by decide)]; exact I_eq _ _ _ _
  · unfold Lay
    rw [if_pos hk, I_ne _ _ _ (by decide), I_ne _ _ _ (by decide)]
    exact ⟨p, nn, m, g7, hS, rfl⟩
/-- joins: push a sum's or a comparison's sign, next token -/
theorem jb_c {kk u : Nat} (hF : 1000 ≤ F) (h : XC M q n f ord nw p0 Ai p len m lv br) (hS : ev_Seg nw (ev_cc (sp_I M 99) len) p len v nn) (hk : 3 ≤ kk ∧ kk ≤ 10) (hu : 3 ≤ u ∧ u < 7) (hL : Ai.length < 160) (ht : tkS q n f ≠ 0) : ∃ M', fX2_joins_j83 F (nI kk) (nI u) M = some (1, M') ∧ xfr M M' ∧ XC M' q n (nxt q n f) ord nw p0 ((kk, v, 0) :: Ai) len len (m + nn) lv br := by
  obtain ⟨hT, hK, hP, h6, h5, h7, hbu⟩ := h
  have hg := nxt_gt hK.1 ht
  have f1 : sp_fr [100] [(96, 4)] M (sp_setI (sp_setI M 100 Ai.length (nI kk)) 96 4 (nI (Ai.length + 1))) := (sp_fr_I (Or.inl (by decide)) rfl).tr (sp_fr_I (Or.inr (by decide)) rfl)
  obtain ⟨M', e1, e2, e3⟩ := XC_next (F := F) (lv := lv) (br := br) (ord := ord) hF (TXC_fr f1 hT (by decide)) (q := q) (f := f) ⟨hK.1, (f1.1 94 3 (by decide) (by decide)).trans hK.2.1, (f1.1 94 4 (by decide) (by decide)).trans hK.2.2.1, (f1.1 94 2 (by decide) (by decide)).trans hK.2.2.2⟩ (PSC_pushB hP hS hk hL) ((f1.1 96 6 (by decide) (by decide)).trans h6) ((f1.1 96 5 (by decide) (by decide)).trans h5) ((f1.1 96 7 (by decide) (by decide)).trans h7) (by rw [List.length_cons]; omega)
  refine ⟨M', ?_, (f1.mono (by decide) (by decide)).tr (e2.mono (by decide) (by decide)), e3⟩
  unfold fX2_joins_j83
  rw [push_c hP.2.2.2.1 hL, Option.bind_some]
  dsimp only
  rw [if_neg (by decide), if_neg (show ¬ nI u = 2 from fun w => by have := (nIe (b := 2) (by omega) (by omega)).1 w; omega), if_neg (show ¬ nI u = 1 from fun w => by have := (nIe (b := 1) (by omega) (by omega)).1 w; omega), e1, Option.bind_some]
end Beh
