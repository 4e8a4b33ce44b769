/-! ===== expressions: one round of the class while it expects ===== -/
section SteC2
variable {p0 : PP} {F n f len m lv br : Nat} {q : Nat → Nat} {ord : Bool} {M : sp_Mem} {Ai : List (Nat × ev_S × Nat)}
theorem drp_len (A : List (Nat × ev_S × Nat)) : (drp A).length = A.length := by
  unfold drp
  rw [List.length_map]
theorem rnd_1 {kx : sp_Mem → Option (Int32 × sp_Mem)} {kf i : Nat} (hi : i ≤ 400) {x : Int32 × sp_Mem} (hx : fX2_opens F M = some x) : fX2_readValue_l44 F kx (kf + 1) 1 (nI i) M = (if x.1 = 0 then ((fX2_readPart F x.2).bind fun x16 => if x16.1 = 0 then (some (0, x16.2)) else (fX2_readValue_l44 F kx kf 0 (nI (i + 1)) x16.2)) else fX2_readValue_l44 F kx kf 1 (nI (i + 1)) x.2) := by
  rw [fX2_readValue_l44, if_neg (show ¬ (400 : Int32) < nI i by rw [show (400 : Int32) = nI 400 from rfl, nIlt (by omega) (by omega)]; omega), if_neg (by decide), hx, Option.bind_some, nI_1]
theorem ste_c {kx : sp_Mem → Option (Int32 × sp_Mem)} {kf i base : Nat} (hF : 1000 ≤ F) (hi : i ≤ 400) (hbr : br ≤ 8) (hlv : lv ≤ 50) (h : XC M q n f ord (nwO ord) p0 Ai len len m lv br) (hw : WFk base (drp Ai) br) :
  (∀ f', stE q n ord (f, drp Ai, lv, br) = .inl f' → ∃ M', fX2_readValue_l44 F kx (kf + 1) 1 (nI i) M = some (0, M') ∧ xfr M M' ∧ TXC M' q n ∧ TKC M' q n f') ∧
  (∀ s, stE q n ord (f, drp Ai, lv, br) = .inr (.inl s) → ∃ M' Ai', fX2_readValue_l44 F kx (kf + 1) 1 (nI i) M = fX2_readValue_l44 F kx kf 1 (nI (i + 1)) M' ∧ xfr M M' ∧ drp Ai' = s.2.1 ∧ XC M' q n s.1 ord (nwO ord) p0 Ai' len len m s.2.2.1 s.2.2.2) ∧
  (∀ s, stE q n ord (f, drp Ai, lv, br) = .inr (.inr s) → ∃ M', fX2_readValue_l44 F kx (kf + 1) 1 (nI i) M = fX2_readValue_l44 F kx kf 0 (nI (i + 1)) M' ∧ xfr M M' ∧ drp Ai = s.2.1 ∧ XC M' q n s.1 ord (nwO ord) p0 Ai len (len + 1) m s.2.2.2.2.1 s.2.2.2.2.2 ∧ sp_I M' 96 8 = 0 ∧ s.2.2.2.1 = false ∧ ev_Seg (nwO ord) (ev_cc (sp_I M' 99) (len + 1)) len (len + 1) s.2.2.1 1) := by
  have hlen := WFk_len _ _ hw
  have hb6 := bnd_6 (tpk (drp Ai))
  rw [drp_len] at hlen
  cases Ai with
  | nil => exact hw.elim
  | cons x A0 =>
    obtain ⟨k, g, a⟩ := x
    rw [List.length_cons] at hlen
    have O := opens_c hF hbr h (show A0.length + 1 < 160 by omega)
    have tp : tpk (drp ((k, g, a) :: A0)) = k := rfl
    have fail : fX2_opens F M = some (0, M) → tkS q n f ≠ 2 → wdx q n f cs_8 = none → wdx q n f cs_7 = none → ∃ M', fX2_readValue_l44 F kx (kf + 1) 1 (nI i) M = some (0, M') ∧ xfr M M' ∧ TXC M' q n ∧ TKC M' q n f := by
      intro e h2 h8 h7
      refine ⟨M, ?_, sp_fr.refl _ _ _, h.1, h.2.1⟩
      rw [rnd_1 hi e]
      dsimp only
      rw [if_pos rfl, rp_fail hF h hlv h2 h8 h7, Option.bind_some]
      dsimp only
      rw [if_pos rfl]
    have push : ∀ {f' : Nat} {A' : List (Nat × ev_S × Nat)} {br' : Nat}, (∃ M', fX2_opens F M = some (1, M') ∧ xfr M M' ∧ XC M' q n f' ord (nwO ord) p0 A' len len m lv br') → ∃ M' Ai', fX2_readValue_l44 F kx (kf + 1) 1 (nI i) M = fX2_readValue_l44 F kx kf 1 (nI (i + 1)) M' ∧ xfr M M' ∧ drp Ai' = drp A' ∧ XC M' q n f' ord (nwO ord) p0 Ai' len len m lv br' := by
      rintro f' A' br' ⟨M', e1, e2, e3⟩
      refine ⟨M', A', ?_, e2, rfl, e3⟩
      rw [rnd_1 hi e1]
      dsimp only
      rw [if_neg (by decide)]
    unfold stE
    dsimp only
    rw [tp]
    by_cases hx : wdx q n f cs_6 = some 0
    · have hn := wdx_not hx
      have hS := wdx_S hx
      rw [if_pos hx]
      by_cases hc : cTB k = true
      · rw [if_pos hc]
        by_cases h11 : k = 11
        · rw [if_pos h11]
          refine ⟨fun f' e => (by cases e), fun s e => ?_, fun s e => (by cases e)⟩
          cases e
          exact push (O.2.1 hx hc h11)
        · rw [if_neg h11]
          refine ⟨fun f' e => (by cases e), fun s e => ?_, fun s e => (by cases e)⟩
          cases e
          exact push (O.2.2.1 hx hc h11)
      · rw [if_neg hc]
        refine ⟨fun f' e => ?_, fun s e => (by cases e), fun s e => (by cases e)⟩
        cases e
        exact fail (O.1 hx (Bool.eq_false_iff.2 hc)) (by omega) hn.1 hn.2
    · have hx0 : wdx q n f cs_6 = none := wdx6.resolve_left hx
      rw [if_neg hx]
      by_cases s40 : sg q n f 40 = true
      · have hS := (sg_S s40).1
        rw [if_pos s40]
        by_cases hc : cTB k = true ∧ br < 8
        · rw [if_pos hc]
          refine ⟨fun f' e => (by cases e), fun s e => ?_, fun s e => (by cases e)⟩
          cases e
          exact push (O.2.2.2.2.1 hx0 s40 hc.1 hc.2)
        · rw [if_neg hc]
          refine ⟨fun f' e => ?_, fun s e => (by cases e), fun s e => (by cases e)⟩
          cases e
          refine fail (O.2.2.2.1 hx0 s40 ?_) (by omega) (wdx_sg _ (by omega)) (wdx_sg _ (by omega))
          by_cases z : cTB k = true
          · exact Or.inr (by by_cases y : br < 8
                             · exact (hc ⟨z, y⟩).elim
                             · omega)
          · exact Or.inl (Bool.eq_false_iff.2 z)
      · have s40' : sg q n f 40 = false := Bool.eq_false_iff.2 s40
        rw [if_neg s40]
        by_cases s91 : sg q n f 91 = true
        · have hS := (sg_S s91).1
          rw [if_pos s91]
          by_cases hc : br < 8
          · rw [if_pos hc]
            refine ⟨fun f' e => (by cases e), fun s e => ?_, fun s e => (by cases e)⟩
            cases e
            exact push (O.2.2.2.2.2.2.1 hx0 s40' s91 hc)
          · rw [if_neg hc]
            refine ⟨fun f' e => ?_, fun s e => (by cases e), fun s e => (by cases e)⟩
            cases e
            exact fail (O.2.2.2.2.2.1 hx0 s40' s91 (by omega)) (by omega) (wdx_sg _ (by omega)) (wdx_sg _ (by omega))
        · rw [if_neg s91]
          have e0 := O.2.2.2.2.2.2.2 hx0 s40' (Bool.eq_false_iff.2 s91)
          by_cases hl : lv < 50
          · have L := lf_c hF h hl
            rw [if_pos hl]
            cases hE : lfE q n ord f with
            | inl f1 =>
              refine ⟨fun f' e => ?_, fun s e => (by cases e), fun s e => (by cases e)⟩
              cases e
              obtain ⟨M', e1, e2, e3, e4⟩ := L.1 f1 hE
              refine ⟨M', ?_, e2, e3, e4⟩
              rw [rnd_1 hi e0]
              dsimp only
              rw [if_pos rfl, e1, Option.bind_some]
              dsimp only
              rw [if_pos rfl]
            | inr y =>
              obtain ⟨f1, v1⟩ := y
              refine ⟨fun f' e => (by cases e), fun s e => (by cases e), fun s e => ?_⟩
              cases e
              obtain ⟨M', e1, e2, e3, e4, e5⟩ := L.2 f1 v1 hE
              refine ⟨M', ?_, e2, rfl, e3, e4, rfl, e5⟩
              rw [rnd_1 hi e0]
              dsimp only
              rw [if_pos rfl, e1, Option.bind_some]
              dsimp only
              rw [if_neg (by decide)]
          · rw [if_neg hl]
            refine ⟨fun f' e => ?_, fun s e => (by cases e), fun s e => (by cases e)⟩
            cases e
            refine ⟨M, ?_, sp_fr.refl _ _ _, h.1, h.2.1⟩
            rw [rnd_1 hi e0]
            dsimp only
            rw [if_pos rfl, leaf_full h hl (by omega), Option.bind_some]
            dsimp only
            rw [if_pos rfl]
end SteC2
