/-! ===== expressions: the class pushes an and / or ===== -/
section Beh2
variable {p0 : PP} {F n f nw len m nn lv br p : Nat} {q : Nat → Nat} {ord : Bool} {M : sp_Mem} {Ai : List (Nat × ev_S × Nat)} {v : ev_S}
theorem PSC_pushO {kk : Nat} (hP : PSC M nw p0 Ai p len m) (hS : ev_Seg nw (ev_cc (sp_I M 99) len) p len v nn) (hk : kk = 12 ∨ kk = 13) (hL : Ai.length < 160) (hl : len < 400) : PSC (sp_setI (sp_setI (sp_setI (sp_setI (sp_setI M 100 Ai.length (nI kk)) 96 4 (nI (Ai.length + 1))) 101 Ai.length (nI len)) 99 len ((nI 0 <<< (5 &&& 31)) ||| nI kk)) 97 3 (nI (len + 1))) nw p0 ((kk, v, len) :: Ai) (len + 1) (len + 1) (m + nn) := by
  obtain ⟨g1, g2, g3, g4, g5, g6, g7⟩ := hP
  have en := enc_e kk (by omega) 0 (by omega)
  let M2 := sp_setI (sp_setI (sp_setI M 100 Ai.length (nI kk)) 96 4 (nI (Ai.length + 1))) 101 Ai.length (nI len)
  have e99 : sp_I (sp_setI (sp_setI M2 99 len ((nI 0 <<< (5 &&& 31)) ||| nI kk)) 97 3 (nI (len + 1))) 99 = sp_I (sp_setI M2 99 len ((nI 0 <<< (5 &&& 31)) ||| nI kk)) 99 := I_ne _ _ _ (by decide)
  have b99 : sp_I M2 99 = sp_I M 99 := by rw [I_ne _ _ _ (by decide), I_ne _ _ _ (by decide), I_ne _ _ _ (by decide)]
  have lS := hS.1
  have hcd : ∀ i, i < len → ev_cc (sp_I (sp_setI M2 99 len ((nI 0 <<< (5 &&& 31)) ||| nI kk)) 99) (len + 1) i = ev_cc (sp_I M 99) len i := fun i hi => (cc_set M2 hi b99)
  have sk : ∀ A : List (Nat × ev_S × Nat), A.length ≤ Ai.length → SKC M A → SKC (sp_setI (sp_setI M2 99 len ((nI 0 <<< (5 &&& 31)) ||| nI kk)) 97 3 (nI (len + 1))) A := by
    intro A
    induction A with
    | nil => exact fun _ _ => trivial
    | cons y A ih =>
      obtain ⟨k, g, a⟩ := y
      intro hl hs
      rw [List.length_cons] at hl
      refine ⟨hs.1, ?_, ?_, ih (by omega) hs.2.2.2⟩
      · rw [I_ne _ _ _ (by decide), I_ne _ _ _ (by decide), I_ne _ _ _ (by decide), I_ne _ _ _ (by decide), I_nf _ _ _ (by omega)]; exact hs.2.1
      · rw [I_ne _ _ _ (by decide), I_ne _ _ _ (by decide), I_nf _ _ _ (by omega), I_ne _ _ _ (by decide), I_ne _ _ _ (by decide)]; exact hs.2.2.1
  refine ⟨g1, I_eq _ _ _ _, by omega, ?_, by rw [List.length_cons]; omega, ⟨by omega, ?_, fun _ => ?_, sk Ai (Nat.le_refl _) g6⟩, ?_⟩
  · rw [I_ne _ _ _ (by decide), I_ne _ _ _ (by decide), I_ne _ _ _ (by decide)]; exact I_eq _ _ _ _
  · rw [I_ne _ _ _ (by decide), I_ne _ _ _ (by decide), I_ne _ _ _ (by decide), I_ne _ _ _ (by decide)]; exact I_eq _ _ _ _
  · rw [I_ne _ _ _ (by decide), I_ne _ _ _ (by decide)]; exact I_eq _ _ _ _
  · unfold Lay
    rw [if_neg (by omega), if_pos hk, e99]
    refine ⟨p, nn, m, Lay_cg Ai p m (fun i _ hi => hcd i (by omega)) g7, ev_Seg_cg hS (fun i _ hi => hcd i hi), rfl, ?_, rfl⟩
    unfold ev_cc
    rw [if_pos (by omega), I_eq]
    exact en.1
/-- joins: push an and / or, its step, next token -/
theorem jao_c {kk u : Nat} (hF : 1000 ≤ F) (h : XC M q n f ord nw p0 Ai p len m lv br) (hS : ev_Seg nw (ev_cc (sp_I M 99) len) p len v nn) (hk : kk = 12 ∨ kk = 13) (hu : u = 1 ∨ u = 2) (hL : Ai.length < 160) (hb2 : len + Ai.length + 2 ≤ nxt q n f) (hfn : f < n) : ∃ M', fX2_joins_j83 F (nI kk) (nI u) M = some (1, M') ∧ xfr M M' ∧ XC M' q n (nxt q n f) ord nw p0 ((kk, v, len) :: Ai) (len + 1) (len + 1) (m + nn) lv br := by
  obtain ⟨hT, hK, hP, h6, h5, h7, hbu⟩ := h
  have hn := hT.1
  have hl : len < 400 := by omega
  let M1 := sp_setI (sp_setI M 100 Ai.length (nI kk)) 96 4 (nI (Ai.length + 1))
  let M2 := sp_setI M1 101 Ai.length (nI len)
  let M3 := sp_setI (sp_setI M2 99 len ((nI 0 <<< (5 &&& 31)) ||| nI kk)) 97 3 (nI (len + 1))
  have f3 : sp_fr [99, 100, 101] [(96, 4), (97, 3)] M M3 := ((((sp_fr_I (Or.inl (by decide)) rfl).tr (sp_fr_I (Or.inr (by decide)) rfl)).tr (sp_fr_I (Or.inl (by decide)) rfl)).tr (sp_fr_I (Or.inl (by decide)) rfl)).tr (sp_fr_I (Or.inr (by decide)) rfl)
  have P3 : PSC M3 nw p0 ((kk, v, len) :: Ai) (len + 1) (len + 1) (m + nn) := PSC_pushO hP hS hk hL hl
  obtain ⟨M', e1, e2, e3⟩ := XC_next (F := F) (lv := lv) (br := br) (ord := ord) hF (TXC_fr f3 hT (by decide)) (q := q) (f := f) ⟨hK.1, (f3.1 94 3 (by decide) (by decide)).trans hK.2.1, (f3.1 94 4 (by decide) (by decide)).trans hK.2.2.1, (f3.1 94 2 (by decide) (by decide)).trans hK.2.2.2⟩ P3 ((f3.1 96 6 (by decide) (by decide)).trans h6) ((f3.1 96 5 (by decide) (by decide)).trans h5) ((f3.1 96 7 (by decide) (by decide)).trans h7) (by rw [List.length_cons]; omega)
  refine ⟨M', ?_, (f3.mono (by decide) (by decide)).tr (e2.mono (by decide) (by decide)), e3⟩
  have j103 : fX2_joins_j103 F (nI kk) M1 = some (1, M') := by
    unfold fX2_joins_j103
    have a4 : sp_I M1 96 4 = nI (Ai.length + 1) := I_eq _ _ _ _
    have a3 : sp_I M1 97 3 = nI len := by rw [I_ne _ _ _ (by decide), I_ne _ _ _ (by decide)]; exact hP.2.1
    rw [a4, show nI (Ai.length + 1) - 1 = nI Ai.length from nI_sub (a := Ai.length + 1) (b := 1) (by omega) (by omega), sp_ix_nI hL (by omega), Option.bind_some, a3]
    simp only [sp_do]
    rw [show fX9_addStep (sp_setI M1 101 Ai.length (nI len)) 97 (nI kk) 0 = some M3 from add_c (M := M2) hP.1 (by rw [I_ne _ _ _ (by decide)]; exact a3) hl _ _, Option.bind_some, e1, Option.bind_some]
  unfold fX2_joins_j83
  rw [push_c hP.2.2.2.1 hL, Option.bind_some]
  dsimp only
  rw [if_neg (by decide)]
  rcases hu with rfl | rfl
  · rw [if_neg (by decide), if_pos (show nI 1 = 1 from rfl)]
    exact j103
  · rw [if_pos (show nI 2 = 2 from rfl)]
    exact j103
end Beh2
