/-! ===== expressions: the class ends an expression ===== -/
/-- an expression is read: its code, with the step 0 behind it -/
def DN (M : sp_Mem) (q : Nat → Nat) (n f : Nat) (ord : Bool) (nw : Nat) (p0 : PP) (v : ev_S) (t lv : Nat) : Prop := TXC M q n ∧ TKC M q n f ∧ sp_N M 99 = 400 ∧ sp_I M 96 6 = nI lv ∧ sp_I M 96 7 = bI ord ∧ ∃ len, len + 1 ≤ f ∧ sp_I M 97 3 = nI (len + 1) ∧ ev_Seg nw (ev_cc (sp_I M 99) (len + 1)) p0.1 len v t ∧ sp_I M 99 len = 0 ∧ ∀ i, i < p0.1 → ev_cc (sp_I M 99) (len + 1) i = p0.2 i
section Who
variable {p0 : PP} {F n f nw t lv br base : Nat} {q : Nat → Nat} {ord td : Bool} {M : sp_Mem} {A : Sk} {v : ev_S}
theorem one_c {p len m nn a : Nat} {g : ev_S} (hB : base = 20 ∨ base = 21) (hX : XC M q n f ord nw p0 [(base, g, a)] p len m lv br) (hS : ev_Seg nw (ev_cc (sp_I M 99) len) p len v nn) : ∃ M', fX9_addStep M 97 0 0 = some M' ∧ sp_fr [99] [(97, 3)] M M' ∧ DN M' q n f ord nw p0 v (m + nn) lv := by
  obtain ⟨hT, hK, hP, h6, h5, h7, hbu⟩ := hX
  have hbu : len + 1 ≤ f := hbu
  have hn := hT.1
  have hf := hK.1
  obtain ⟨g1, g2, g3, g4, g5, g6, g7⟩ := hP
  unfold Lay at g7
  rw [if_neg (by omega), if_neg (by omega)] at g7
  obtain ⟨rfl, rfl, l3⟩ := g7
  have lS := hS.1
  have f1 : sp_fr [99] [(97, 3)] M (sp_setI (sp_setI M 99 len (((0 : Int32) <<< (5 &&& 31)) ||| 0)) 97 3 (nI (len + 1))) := (sp_fr_I (Or.inl (by decide)) rfl).tr (sp_fr_I (Or.inr (by decide)) rfl)
  have e99 : sp_I (sp_setI (sp_setI M 99 len (((0 : Int32) <<< (5 &&& 31)) ||| 0)) 97 3 (nI (len + 1))) 99 = sp_I (sp_setI M 99 len (((0 : Int32) <<< (5 &&& 31)) ||| 0)) 99 := I_ne _ _ _ (by decide)
  have hcd : ∀ i, i < len → ev_cc (sp_I (sp_setI (sp_setI M 99 len (((0 : Int32) <<< (5 &&& 31)) ||| 0)) 97 3 (nI (len + 1))) 99) (len + 1) i = ev_cc (sp_I M 99) len i := by
    intro i hi
    rw [e99]
    exact cc_set M hi rfl
  refine ⟨_, add_c g1 g2 (by omega) 0 0, f1, TXC_fr f1 hT (by decide), ⟨hK.1, (f1.1 94 3 (by decide) (by decide)).trans hK.2.1, (f1.1 94 4 (by decide) (by decide)).trans hK.2.2.1, (f1.1 94 2 (by decide) (by decide)).trans hK.2.2.2⟩, g1, (f1.1 96 6 (by decide) (by decide)).trans h6, (f1.1 96 7 (by decide) (by decide)).trans h7, len, hbu, I_eq _ _ _ _, ?_, ?_, fun i hi => ?_⟩
  · rw [Nat.zero_add]
    exact ev_Seg_cg hS (fun i _ hi => hcd i hi)
  · rw [e99, I_eq]; decide
  · rw [hcd i (by omega)]; exact l3 i hi
theorem who_c (hF : 1000 ≤ F) (hB : base = 20 ∨ base = 21) (h : BX M q n f ord nw p0 base A v td t lv br) :
  (tpk (fo 5 A v).1 = 20 → ∃ M', fX2_isWhole F M = some (1, M') ∧ sp_fr [99] [(97, 3), (96, 4)] M M' ∧ DN M' q n f ord nw p0 (fo 5 A v).2 t lv) ∧
  (tpk (fo 5 A v).1 ≠ 20 → (td = true ∨ bnd (tpk (fo 5 A v).1) = 4) → tpk (fo 1 (fo 5 A v).1 (fo 5 A v).2).1 = 21 → ∃ M', fX2_isWhole F M = some (1, M') ∧ sp_fr [99] [(97, 3), (96, 4)] M M' ∧ DN M' q n f ord nw p0 (fo 1 (fo 5 A v).1 (fo 5 A v).2).2 t lv ∧ ev_T (fo 1 (fo 5 A v).1 (fo 5 A v).2).2) ∧
  (tpk (fo 5 A v).1 ≠ 20 → ¬ ((td = true ∨ bnd (tpk (fo 5 A v).1) = 4) ∧ tpk (fo 1 (fo 5 A v).1 (fo 5 A v).2).1 = 21) → ∃ M', fX2_isWhole F M = some (0, M') ∧ sp_fr [99] [(97, 3), (96, 4)] M M' ∧ TXC M' q n ∧ TKC M' q n f) := by
  have h0 := b0 hB
  have hw := BX_w h
  have W := fo_wf (b := 5) (by omega) h0 A br v hw
  have FF : fo 5 (fo 5 A v).1 (fo 5 A v).2 = fo 5 A v := fo_fo (by omega) h0 hw
  obtain ⟨M1, e1, e2, e3⟩ := fold5_x hF h0 h
  have tp : fX2_top M1 = some (nI (tpk (fo 5 A v).1)) ∧ tpk (fo 5 A v).1 < 24 := by
    obtain ⟨Ai, p, len, m, nn, e, hX, _⟩ := e3
    have := top_w hX.2.2.1 (by rw [e]; exact wf_ne W.1)
    rw [e] at this
    exact this
  have pre : fX2_isWhole F M = (if nI (tpk (fo 5 A v).1) = 20 then ((fX9_addStep M1 97 0 0).bind fun M4 => some (1, M4)) else ((fX2_isTest F M1).bind fun x5 => if x5.1 = 0 then (some (0, x5.2)) else ((fX2_fold F x5.2 1).bind fun M7 => (fX2_top M7).bind fun v8 => if v8 = 21 then ((fX9_addStep M7 97 0 0).bind fun M10 => some (1, M10)) else (some (0, M7))))) := by
    unfold fX2_isWhole
    rw [e1, Option.bind_some, tp.1, Option.bind_some]
  have n20 : tpk (fo 5 A v).1 ≠ 20 → ¬ nI (tpk (fo 5 A v).1) = 20 := fun z w => z ((nIe (b := 20) (by omega) (by omega)).1 w)
  obtain ⟨M2, r1, r2, r3⟩ := ist_x hF hB e3
  rw [FF] at r1 r3
  have two : (td = true ∨ bnd (tpk (fo 5 A v).1) = 4) → ∃ M3 Ai p len m nn, fX2_fold F M2 1 = some M3 ∧ sp_fr [99] [(97, 3), (96, 4)] M2 M3 ∧ drp Ai = (fo 1 (fo 5 A v).1 (fo 5 A v).2).1 ∧ XC M3 q n f ord nw p0 Ai p len m lv br ∧ ev_Seg nw (ev_cc (sp_I M3 99) len) p len (fo 1 (fo 5 A v).1 (fo 5 A v).2).2 nn ∧ m + nn = t ∧ fX2_top M3 = some (nI (tpk (fo 1 (fo 5 A v).1 (fo 5 A v).2).1)) ∧ tpk (fo 1 (fo 5 A v).1 (fo 5 A v).2).1 < 24 := by
    intro hT
    have K := Fok_x (b := 1) (by omega) (by omega) hB h hT
    obtain ⟨Ai, p, len, m, nn, e, hX, hS, ht, hw, hL, htd, h8⟩ := r3
    obtain ⟨M3, Ai2, p2, len2, m2, n2, g1, g2, g3, g4, g5, g6, g7⟩ := fold_w (b := 1) hF (by omega) (by omega) hX hS (by rw [e]; exact K.1)
    rw [e] at g4 g6
    have W := fo_wf (b := 1) (by omega) h0 _ br (fo 5 A v).2 hw
    have tp := top_w g3.2.2.1 (by rw [g6]; exact wf_ne W.1)
    rw [g6] at tp
    exact ⟨M3, Ai2, p2, len2, m2, n2, g1, g2, g6, g3, g4, by omega, tp.1, tp.2⟩
  refine ⟨fun h20 => ?_, fun h20 hT h21 => ?_, fun h20 hT => ?_⟩
  · obtain ⟨Ai, p, len, m, nn, e, hX, hS, ht, hw2, hL, htd, h8⟩ := e3
    obtain ⟨x, hx⟩ := WFk_b W.1 (Or.inl h20)
    cases Ai with
    | nil => rw [hx] at e; cases e
    | cons y A0 =>
      obtain ⟨k, g, a⟩ := y
      have e' : (k, g) :: drp A0 = [x] := e.trans hx
      have hA0 : A0 = [] := by
        cases A0 with
        | nil => rfl
        | cons z B => cases e'
      subst hA0
      have hk : k = 20 := by rw [← h20, hx, ← e']; rfl
      subst hk
      obtain ⟨M3, s1, s2, s3⟩ := one_c (Or.inl rfl) hX hS
      rw [ht] at s3
      refine ⟨M3, ?_, e2.tr (s2.mono (by decide) (by decide)), s3⟩
      rw [pre, h20, if_pos (show nI 20 = 20 from rfl), s1, Option.bind_some]
  · have K := Fok_x (b := 1) (by omega) (by omega) hB h hT
    have W2 := fo_wf (b := 1) (by omega) h0 _ br (fo 5 A v).2 W.1
    obtain ⟨M3, Ai, p, len, m, nn, g1, g2, g3, g4, g5, g6, g7, g8⟩ := two hT
    obtain ⟨x, hx⟩ := WFk_b W2.1 (Or.inr h21)
    cases Ai with
    | nil => rw [hx] at g3; cases g3
    | cons y A0 =>
      obtain ⟨k, g, a⟩ := y
      have e' : (k, g) :: drp A0 = [x] := g3.trans hx
      have hA0 : A0 = [] := by
        cases A0 with
        | nil => rfl
        | cons z B => cases e'
      subst hA0
      have hk : k = 21 := by rw [← h21, hx, ← e']; rfl
      subst hk
      obtain ⟨M4, s1, s2, s3⟩ := one_c (Or.inr rfl) g4 g5
      rw [g6] at s3
      refine ⟨M4, ?_, ((e2.tr r2).tr g2).tr (s2.mono (by decide) (by decide)), s3, K.2⟩
      rw [pre, if_neg (n20 h20), r1, Option.bind_some]
      dsimp only
      rw [decide_eq_true hT, if_neg (by decide), g1, Option.bind_some, g7, Option.bind_some, h21, if_pos (show nI 21 = 21 from rfl), s1, Option.bind_some]
  · rw [pre, if_neg (n20 h20), r1, Option.bind_some]
    dsimp only
    by_cases hT2 : td = true ∨ bnd (tpk (fo 5 A v).1) = 4
    · have h21 : tpk (fo 1 (fo 5 A v).1 (fo 5 A v).2).1 ≠ 21 := fun w => hT ⟨hT2, w⟩
      obtain ⟨M3, Ai, p, len, m, nn, g1, g2, g3, g4, g5, g6, g7, g8⟩ := two hT2
      refine ⟨M3, ?_, (e2.tr r2).tr g2, g4.1, g4.2.1⟩
      rw [decide_eq_true hT2, if_neg (by decide), g1, Option.bind_some, g7, Option.bind_some, if_neg (show ¬ nI (tpk (fo 1 (fo 5 A v).1 (fo 5 A v).2).1) = 21 from fun w => h21 ((nIe (b := 21) (by omega) (by omega)).1 w))]
    · refine ⟨M2, ?_, e2.tr r2, (BX_t r3).1, (BX_t r3).2⟩
      rw [decide_eq_false hT2, if_pos (show bI false = 0 from rfl)]
theorem DN_t (h : DN M q n f ord nw p0 v t lv) : TXC M q n ∧ TKC M q n f := ⟨h.1, h.2.1⟩
theorem who_any (hF : 1000 ≤ F) (hB : base = 20 ∨ base = 21) (h : BX M q n f ord nw p0 base A v td t lv br) : ∃ b M', fX2_isWhole F M = some (b, M') ∧ sp_fr [99] [(97, 3), (96, 4)] M M' ∧ TXC M' q n ∧ TKC M' q n f ∧ (b = 0 ∨ b = 1) := by
  have H := who_c hF hB h
  by_cases h20 : tpk (fo 5 A v).1 = 20
  · obtain ⟨M', e1, e2, e3⟩ := H.1 h20
    exact ⟨1, M', e1, e2, e3.1, e3.2.1, Or.inr rfl⟩
  · by_cases hT : (td = true ∨ bnd (tpk (fo 5 A v).1) = 4) ∧ tpk (fo 1 (fo 5 A v).1 (fo 5 A v).2).1 = 21
    · obtain ⟨M', e1, e2, e3, _⟩ := H.2.1 h20 hT.1 hT.2
      exact ⟨1, M', e1, e2, e3.1, e3.2.1, Or.inr rfl⟩
    · obtain ⟨M', e1, e2, e3, e4⟩ := H.2.2 h20 hT
      exact ⟨0, M', e1, e2, e3, e4, Or.inl rfl⟩
end Who
