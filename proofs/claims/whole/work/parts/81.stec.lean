/-! ===== expressions: the class, expecting ===== -/
def nwO (ord : Bool) : Nat := if ord = true then 16 else 10
theorem wdx_sg {q : Nat → Nat} {n f : Nat} (cs : List Int64) (h : tkS q n f ≠ 1) : wdx q n f cs = none := if_neg h
theorem wdx_not {q : Nat → Nat} {n f : Nat} (h : wdx q n f cs_6 = some 0) : wdx q n f cs_8 = none ∧ wdx q n f cs_7 = none := by
  have hW : tkW q n f = 14836 := by
    unfold wdx at h
    rw [if_pos (wdx_S (cs := cs_6) (j := 0) h)] at h
    unfold cs_6 at h
    rw [fnd, fnd] at h
    by_cases z : tkW q n f = 14836
    · exact z
    · rw [if_neg (fun w => z (of_decide_eq_true w))] at h; cases h
  unfold wdx
  rw [if_pos (wdx_S h), hW, if_pos (wdx_S h)]
  decide +kernel
section SteC
variable {p0 : PP} {F n f len m lv br : Nat} {q : Nat → Nat} {ord : Bool} {M : sp_Mem} {Ai : List (Nat × ev_S × Nat)}
theorem rp_fail (hF : 1000 ≤ F) (h : XC M q n f ord (nwO ord) p0 Ai len len m lv br) (hlv : lv ≤ 50) (h2 : tkS q n f ≠ 2) (h8 : wdx q n f cs_8 = none) (h7 : wdx q n f cs_7 = none) : fX2_readPart F M = some (0, M) := by
  by_cases hl : lv < 50
  · cases ord with
    | false => exact (leaf_w hF h hl h2).1 h8
    | true => exact (leaf_o hF h hl h2).1 h7
  · exact leaf_full h hl (by omega)
/-- the leaf, as the machine has it -/
theorem lf_c (hF : 1000 ≤ F) (h : XC M q n f ord (nwO ord) p0 Ai len len m lv br) (hlv : lv < 50) : (∀ f', lfE q n ord f = .inl f' → ∃ M', fX2_readPart F M = some (0, M') ∧ xfr M M' ∧ TXC M' q n ∧ TKC M' q n f') ∧ (∀ f' v, lfE q n ord f = .inr (f', v) → ∃ M', fX2_readPart F M = some (1, M') ∧ xfr M M' ∧ XC M' q n f' ord (nwO ord) p0 Ai len (len + 1) m (lv + 1) br ∧ sp_I M' 96 8 = 0 ∧ ev_Seg (nwO ord) (ev_cc (sp_I M' 99) (len + 1)) len (len + 1) v 1) := by
  have stay : fX2_readPart F M = some (0, M) → ∃ M', fX2_readPart F M = some (0, M') ∧ xfr M M' ∧ TXC M' q n ∧ TKC M' q n f := fun z => ⟨M, z, sp_fr.refl _ _ _, h.1, h.2.1⟩
  unfold lfE
  by_cases hS : tkS q n f = 2
  · have L := leaf_n hF h hlv hS
    rw [if_pos hS]
    by_cases hN : nbT q n f ≤ 1000
    · rw [if_pos hN]
      refine ⟨fun f' e => (by cases e), fun f' v e => ?_⟩
      cases e
      exact L.1 hN
    · rw [if_neg hN]
      refine ⟨fun f' e => ?_, fun f' v e => (by cases e)⟩
      cases e
      exact stay (L.2 hN)
  · rw [if_neg hS]
    cases ord with
    | false =>
      have L := leaf_w hF h hlv hS
      rw [if_pos rfl]
      cases hx : wdx q n f cs_8 with
      | none =>
        refine ⟨fun f' e => ?_, fun f' v e => (by cases e)⟩
        cases e
        exact stay (L.1 hx)
      | some j =>
        refine ⟨fun f' e => (by cases e), fun f' v e => ?_⟩
        cases e
        exact L.2 j hx
    | true =>
      have L := leaf_o hF h hlv hS
      rw [if_neg (by decide)]
      cases hx : wdx q n f cs_7 with
      | none =>
        refine ⟨fun f' e => ?_, fun f' v e => (by cases e)⟩
        cases e
        exact stay (L.1 hx)
      | some j =>
        dsimp only
        by_cases h4 : j < 4
        · rw [if_pos h4]
          refine ⟨fun f' e => (by cases e), fun f' v e => ?_⟩
          cases e
          exact L.2.1 j hx h4
        · rw [if_neg h4]
          by_cases h5 : tkS q n (nxt q n f) = 2 ∧ nbT q n (nxt q n f) ≤ 5
          · rw [if_pos h5]
            refine ⟨fun f' e => (by cases e), fun f' v e => ?_⟩
            cases e
            exact L.2.2.1 j hx h4 h5
          · rw [if_neg h5]
            refine ⟨fun f' e => ?_, fun f' v e => (by cases e)⟩
            cases e
            exact L.2.2.2 j hx h4 h5
end SteC
