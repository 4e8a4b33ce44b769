/-! ===== expressions: the class asks whether a test lies behind ===== -/
section Ist
variable {p0 : PP} {F n f nw len m nn lv br p base : Nat} {q : Nat → Nat} {ord td : Bool} {M : sp_Mem} {Ai : List (Nat × ev_S × Nat)} {v : ev_S}
theorem b4_e : ∀ k, k < 24 → (fX2_bindingOf (nI k) = 4 ↔ bnd k = 4) := by decide +kernel
theorem top_w {Aj : List (Nat × ev_S × Nat)} {p' len' m' : Nat} (h : PSC M nw p0 Aj p' len' m') (hne : drp Aj ≠ []) : fX2_top M = some (nI (tpk (drp Aj))) ∧ tpk (drp Aj) < 24 := by
  cases Aj with
  | nil => exact (hne rfl).elim
  | cons x A0 =>
    obtain ⟨k, g, a⟩ := x
    have g4 := h.2.2.2.1
    have g5 := h.2.2.2.2.1
    rw [List.length_cons] at g4 g5
    exact ⟨top_c g4 g5 h.2.2.2.2.2.1, h.2.2.2.2.2.1.1⟩
theorem wf_ne {A : Sk} {b : Nat} (h : WFk base A b) : A ≠ [] := fun z => by rw [z] at h; exact h
theorem ist_c (hF : 1000 ≤ F) (h0 : bnd base = 0) (h : XC M q n f ord nw p0 Ai p len m lv br) (hS : ev_Seg nw (ev_cc (sp_I M 99) len) p len v nn) (hw : WFk base (drp Ai) br) (h8 : sp_I M 96 8 = bI td) : ∃ M' Ai' p' len' m' n', fX2_isTest F M = some (bI (decide (td = true ∨ bnd (tpk (fo 5 (drp Ai) v).1) = 4)), M') ∧ sp_fr [99] [(97, 3), (96, 4)] M M' ∧ XC M' q n f ord nw p0 Ai' p' len' m' lv br ∧ ev_Seg nw (ev_cc (sp_I M' 99) len') p' len' (fo 5 (drp Ai) v).2 n' ∧ m' + n' = m + nn ∧ drp Ai' = (fo 5 (drp Ai) v).1 ∧ Ai' <:+ Ai := by
  obtain ⟨M', Ai', p', len', m', n', e1, e2, e3, e4, e5, e6, e7⟩ := fold_w (b := 5) hF (by omega) (by omega) h hS (Fok_4 (by omega) _ _)
  have hw2 := (fo_wf (b := 5) (by omega) h0 (drp Ai) br v hw).1
  rw [← e6] at hw2
  have tp := top_w e3.2.2.1 (wf_ne hw2)
  refine ⟨M', Ai', p', len', m', n', ?_, e2, e3, e4, e5, e6, e7⟩
  have e8 : sp_I M' 96 8 = bI td := (e2.1 96 8 (by decide) (by decide)).trans h8
  unfold fX2_isTest
  rw [show fX2_fold F M 5 = some M' from e1, Option.bind_some, e8, ← e6]
  cases td with
  | true =>
    rw [if_neg (by decide), decide_eq_true (Or.inl rfl)]
    rfl
  | false =>
    rw [if_pos (show bI false = 0 from rfl), tp.1, Option.bind_some]
    by_cases z : bnd (tpk (drp Ai')) = 4
    · rw [if_pos ((b4_e _ tp.2).2 z), decide_eq_true (Or.inr z)]; rfl
    · rw [if_neg (fun w => z ((b4_e _ tp.2).1 w)), decide_eq_false (fun w => w.elim (fun y => by cases y) z)]; rfl
end Ist
