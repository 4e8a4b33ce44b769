/-! ===== texts: the class reads a text ===== -/
def rdX (F : Nat) (ord : Bool) : sp_Mem → Option (Int32 × sp_Mem) := if ord = true then fX2_readOrder F else fX2_readLaw F
def rdR (q : Nat → Nat) (n : Nat) (ord : Bool) : Nat → Nat → Nat ⊕ (Nat × Nat × GC) := if ord = true then ordR q n else lawR q n
section LText3
variable {F n : Nat} {q : Nat → Nat} {ord : Bool}
theorem step_c {M : sp_Mem} {f len lv : Nat} {cl : List GC} (hF : 1000 ≤ F) (h : CR M q n f ord len lv cl.length) (hG : CLG (nwO ord) (sp_I M 98) (sp_I M 99) len cl) (h12 : cl.length < 12) : StC q n (rdX F ord) (rdR q n ord f lv) ord M cl := by
  cases ord with
  | false => exact law_c hF h hG h12
  | true => exact order_c hF h hG h12
theorem read_l (hF : 1000 ≤ F) : ∀ (c kf : Nat) (M : sp_Mem) (f len lv : Nat) (cl : List GC), c + cl.length = 12 → c < kf → CR M q n f ord len lv cl.length → CLG (nwO ord) (sp_I M 98) (sp_I M 99) len cl → (∀ x ∈ cl, tT x) →
  (∀ g, gT q n (rdR q n ord) c f lv cl = .inl g → ∃ M', fX2_read_l26 F (fun M16 => some ((sp_I M16 94 3), M16)) kf (bI ord) (nI cl.length) M = some (nI g, M') ∧ cfr M M' ∧ g ≤ n) ∧
  (∀ cl', gT q n (rdR q n ord) c f lv cl = .inr cl' → ∃ M' len' f' lv', fX2_read_l26 F (fun M16 => some ((sp_I M16 94 3), M16)) kf (bI ord) (nI cl.length) M = some (-1, M') ∧ cfr M M' ∧ CR M' q n f' ord len' lv' cl'.length ∧ CLG (nwO ord) (sp_I M' 98) (sp_I M' 99) len' cl' ∧ ∀ x ∈ cl', tT x)
  | 0, kf, M, f, len, lv, cl, hc, hk, h, hG, ht => by
    obtain ⟨kf, rfl⟩ : ∃ m, kf = m + 1 := ⟨kf - 1, by omega⟩
    refine ⟨fun g e => ?_, fun cl' e => (by cases e)⟩
    cases e
    refine ⟨M, ?_, sp_fr.refl _ _ _, h.2.1.1⟩
    rw [fX2_read_l26, if_pos (show (12 : Int32) ≤ nI cl.length by rw [show cl.length = 12 by omega]; decide), h.2.1.2.1]
  | c + 1, kf, M, f, len, lv, cl, hc, hk, h, hG, ht => by
    obtain ⟨kf, rfl⟩ : ∃ m, kf = m + 1 := ⟨kf - 1, by omega⟩
    have S := step_c hF h hG (by omega)
    have pre : ∀ {b : Int32} {M' : sp_Mem}, rdX F ord M = some (b, M') → fX2_read_l26 F (fun M16 => some ((sp_I M16 94 3), M16)) (kf + 1) (bI ord) (nI cl.length) M = fX2_read_j47 F (fX2_read_l26 F (fun M16 => some ((sp_I M16 94 3), M16)) kf) (fun M16 => some ((sp_I M16 94 3), M16)) (bI ord) (nI cl.length) b M' := by
      intro b M' hr
      rw [fX2_read_l26, if_neg (show ¬ (12 : Int32) ≤ nI cl.length from nI_ge (b := 12) (by omega) (by omega))]
      cases ord with
      | false =>
        rw [if_pos (show bI false = 0 from rfl), show fX2_readLaw F M = some (b, M') from hr, Option.bind_some]
      | true =>
        rw [if_neg (show ¬ bI true = 0 by decide), show fX2_readOrder F M = some (b, M') from hr, Option.bind_some]
    have stop : ∀ {b : Int32} {M' : sp_Mem} {g : Nat}, TXC M' q n → TKC M' q n g → (b = 0 ∨ (b = 1 ∧ tkS q n g ≠ 0 ∧ sg q n g 59 = false)) → fX2_read_j47 F (fX2_read_l26 F (fun M16 => some ((sp_I M16 94 3), M16)) kf) (fun M16 => some ((sp_I M16 94 3), M16)) (bI ord) (nI cl.length) b M' = some (nI g, M') := by
      intro b M' g hT hK hb
      unfold fX2_read_j47 fX2_read_j64
      rcases hb with rfl | ⟨rfl, hs, h59⟩
      · rw [if_pos rfl, if_pos rfl, hK.2.1]
      · have h4 := tkS4 (f := g) (fun i hi => (hT.2.2 i hi).2)
        rw [if_neg (by decide), hK.2.2.2, if_neg (show ¬ nI (tkS q n g) = 0 from fun w => hs ((nIe (b := 0) (by omega) (by omega)).1 w)), if_neg (by decide), show fX8_isSign M' 59 = some (bI (sg q n g 59)) from sgb_c hT hK (b := 59) (by omega), Option.bind_some, h59, if_pos (show bI false = 0 from rfl), hK.2.1]
    rw [gT]
    cases hr : rdR q n ord f lv with
    | inl g1 =>
      refine ⟨fun g e => ?_, fun cl' e => (by cases e)⟩
      cases e
      obtain ⟨b, M', e1, e2, e3, e4, e5⟩ := S.1 g1 hr
      refine ⟨M', ?_, e2, e4.1⟩
      rw [pre e1]
      exact stop e3 e4 (e5.imp id (fun w => ⟨w.1, by rw [(sg_S w.2).1]; decide, sg_ne w.2 (by decide)⟩))
    | inr y =>
      obtain ⟨g1, lv1, x⟩ := y
      obtain ⟨M1, len1, e1, e2, e3, e4, e5⟩ := S.2 g1 lv1 x hr
      have hlen1 : (cl ++ [x]).length = cl.length + 1 := by rw [List.length_append, List.length_singleton]
      have ht1 : ∀ y ∈ cl ++ [x], tT y := by
        intro y hy
        rcases List.mem_append.mp hy with w | w
        · exact ht y w
        · rw [List.mem_singleton.mp w]; exact e5
      have hT1 := e3.1
      have hK1 := e3.2.1
      have h4 := tkS4 (f := g1) (fun i hi => (hT1.2.2 i hi).2)
      dsimp only
      by_cases h0 : tkS q n g1 = 0
      · rw [if_pos h0]
        refine ⟨fun g e => (by cases e), fun cl' e => ?_⟩
        cases e
        refine ⟨M1, len1, g1, lv1, ?_, e2, by rw [hlen1]; exact e3, e4, ht1⟩
        rw [pre e1]
        unfold fX2_read_j47
        rw [if_neg (by decide), hK1.2.2.2, h0, if_pos (show nI 0 = 0 from rfl)]
      · rw [if_neg h0]
        by_cases h59 : sg q n g1 59 = true
        · rw [if_pos h59]
          obtain ⟨M2, r1, r2, r3⟩ := CR_next hF e3
          have G2 := CLG_fr r2 (by decide) e4
          have ih := read_l hF c kf M2 (nxt q n g1) len1 lv1 (cl ++ [x]) (by omega) (by omega) (by rw [hlen1]; exact r3) G2 ht1
          have he : fX2_read_l26 F (fun M16 => some ((sp_I M16 94 3), M16)) (kf + 1) (bI ord) (nI cl.length) M = fX2_read_l26 F (fun M16 => some ((sp_I M16 94 3), M16)) kf (bI ord) (nI (cl ++ [x]).length) M2 := by
            rw [pre e1]
            unfold fX2_read_j47 fX2_read_j64
            rw [if_neg (by decide), hK1.2.2.2, if_neg (show ¬ nI (tkS q n g1) = 0 from fun w => h0 ((nIe (b := 0) (by omega) (by omega)).1 w)), if_neg (by decide), show fX8_isSign M1 59 = some (bI (sg q n g1 59)) from sgb_c hT1 hK1 (b := 59) (by omega), Option.bind_some, h59, if_neg (show ¬ bI true = 0 by decide), r1, Option.bind_some, hlen1, nI_1]
          have f2 : cfr M M2 := e2.tr (r2.mono (by decide) (by decide))
          refine ⟨fun g e => ?_, fun cl' e => ?_⟩
          · obtain ⟨M', s1, s2, s3⟩ := ih.1 g e
            exact ⟨M', he.trans s1, f2.tr s2, s3⟩
          · obtain ⟨M', len', f', lv', s1, s2, s3⟩ := ih.2 cl' e
            exact ⟨M', len', f', lv', he.trans s1, f2.tr s2, s3⟩
        · rw [if_neg h59]
          refine ⟨fun g e => ?_, fun cl' e => (by cases e)⟩
          cases e
          refine ⟨M1, ?_, e2, hK1.1⟩
          rw [pre e1]
          exact stop hT1 hK1 (Or.inr ⟨rfl, h0, Bool.eq_false_iff.2 h59⟩)
def gX (q : Nat → Nat) (n : Nat) (ord : Bool) : Nat ⊕ List GC := gT q n (rdR q n ord) 12 (tkF q n 0) 0 []
theorem read_c {M : sp_Mem} (hF : 1000 ≤ F) (hT : TXC M q n) (h99 : sp_N M 99 = 400) (h98 : sp_N M 98 = 60) :
  (∀ g, gX q n ord = .inl g → ∃ M', fX2_read F M (bI ord) = some (nI g, M') ∧ sp_fr [98, 99, 100, 101] [(94, 2), (94, 3), (94, 4), (96, 4), (96, 5), (96, 6), (96, 7), (96, 8), (97, 2), (97, 3)] M M' ∧ g ≤ n) ∧
  (∀ cl, gX q n ord = .inr cl → ∃ M' len f lv, fX2_read F M (bI ord) = some (-1, M') ∧ sp_fr [98, 99, 100, 101] [(94, 2), (94, 3), (94, 4), (96, 4), (96, 5), (96, 6), (96, 7), (96, 8), (97, 2), (97, 3)] M M' ∧ CR M' q n f ord len lv cl.length ∧ CLG (nwO ord) (sp_I M' 98) (sp_I M' 99) len cl ∧ ∀ x ∈ cl, tT x) := by
  let M1 := sp_setI M 96 7 (bI ord)
  let M2 := sp_setI M1 96 6 0
  let M3 := sp_setI M2 97 2 0
  let M4 := sp_setI M3 97 3 0
  let M5 := sp_setI M4 94 4 0
  have f5 : sp_fr [] [(94, 4), (96, 6), (96, 7), (97, 2), (97, 3)] M M5 := ((((sp_fr_I (Or.inr (by decide)) rfl).tr (sp_fr_I (Or.inr (by decide)) rfl)).tr (sp_fr_I (Or.inr (by decide)) rfl)).tr (sp_fr_I (Or.inr (by decide)) rfl)).tr (sp_fr_I (Or.inr (by decide)) rfl)
  obtain ⟨M6, e1, e2, e3, e4⟩ := next_c hF (TXC_fr f5 hT (by decide)) (Nat.zero_le n) (show sp_I M5 94 4 = nI 0 from I_eq _ _ _ _)
  have f6 : sp_fr [98, 99, 100, 101] [(94, 2), (94, 3), (94, 4), (96, 4), (96, 5), (96, 6), (96, 7), (96, 8), (97, 2), (97, 3)] M M6 := (f5.mono (by decide) (by decide)).tr (e2.mono (by decide) (by decide))
  have C : CR M6 q n (tkF q n 0) ord 0 0 0 := ⟨e3, e4, (e2.2.2.2.2.1 99).trans h99, (e2.2.2.2.2.1 98).trans h98, (e2.1 97 3 (by decide) (by decide)).trans (by rw [I_ne _ _ _ (by decide)]; exact I_eq _ _ _ _), (e2.1 97 2 (by decide) (by decide)).trans (by rw [I_ne _ _ _ (by decide), I_nf _ _ _ (by decide)]; exact I_eq _ _ _ _), (e2.1 96 6 (by decide) (by decide)).trans (by rw [I_ne _ _ _ (by decide), I_ne _ _ _ (by decide), I_ne _ _ _ (by decide)]; exact I_eq _ _ _ _), (e2.1 96 7 (by decide) (by decide)).trans (by rw [I_ne _ _ _ (by decide), I_ne _ _ _ (by decide), I_ne _ _ _ (by decide), I_nf _ _ _ (by decide)]; exact I_eq _ _ _ _), by omega, by omega, Nat.zero_le _⟩
  have L := read_l (ord := ord) hF 12 F M6 (tkF q n 0) 0 0 [] rfl (by omega) C (fun i c hi => by cases hi) (fun x hx => by cases hx)
  have pre : fX2_read F M (bI ord) = fX2_read_l26 F (fun M16 => some ((sp_I M16 94 3), M16)) F (bI ord) (nI ([] : List GC).length) M6 := by
    unfold fX2_read fX9_clear fX8_toFirst
    simp only [sp_do]
    rw [show sp_b01 (bI ord) = some () by cases ord <;> rfl, Option.bind_some, Option.bind_some]
    rw [show fX8_toNext F (sp_setI (sp_setI (sp_setI (sp_setI (sp_setI M 96 7 (bI ord)) 96 6 0) 97 2 0) 97 3 0) 94 4 0) = some M6 from e1, Option.bind_some, Option.bind_some]
    rfl
  refine ⟨fun g e => ?_, fun cl e => ?_⟩
  · obtain ⟨M', s1, s2, s3⟩ := L.1 g e
    exact ⟨M', pre.trans s1, f6.tr (s2.mono (by decide) (by decide)), s3⟩
  · obtain ⟨M', len', f', lv', s1, s2, s3⟩ := L.2 cl e
    exact ⟨M', len', f', lv', pre.trans s1, f6.tr (s2.mono (by decide) (by decide)), s3⟩
end LText3
