
theorem stop_ord {F n g kf : Nat} {q : Nat → Nat} {M : sp_Mem} {kx : sp_Mem → Option (Int32 × sp_Mem)} (h : BD M q n g) : fX11_orders_l19 F kx (kf + 1) M = kx M := by
  obtain ⟨h1, h2, h3⟩ := h
  rw [fX11_orders_l19]
  rcases h3 with ⟨a, b⟩ | ⟨a, b, c⟩
  · rw [if_neg (show ¬ sp_I M 103 19 = 0 by rw [a]; decide)]
  · rw [if_pos a, show fX11_isSign M 59 = bI (sg q n g 59) from sgb_r h1 b (b := 59) (by omega), sg_ne c (show 41 ≠ 59 by decide), if_pos (show bI false = 0 from rfl)]

/-! ===== texts: the reference's loop over clauses (orders) ===== -/
theorem full_ord {F n f len lv : Nat} {q : Nat → Nat} {M : sp_Mem} (hF : 2000 ≤ F) (h : RR M q n f true len lv 12) : ∃ M', fX11_readOrder F M = some M' ∧ tfr M M' ∧ BD M' q n f := by
  obtain ⟨hT, hK, h23, h21, h26, h20, h19, hC, hlv, hnc0, hl⟩ := h
  obtain ⟨M', e1, e2, e3, e4, e5, e6⟩ := mf_r (F := F) hT hK h19 hC.1
  refine ⟨M', ?_, e2.mono (by decide) (by decide), e3, e4, Or.inl ⟨e5, e6⟩⟩
  have j54 : ∀ a, fX11_readOrder_j54 F a 0 M = some M' := by
    intro a
    unfold fX11_readOrder_j54
    rw [e1, Option.bind_some, if_neg (show ¬ sp_I M' 103 19 = 0 by rw [e5]; decide)]
  unfold fX11_readOrder
  rw [overb_r (by omega) hT hK hC.1]
  split
  · exact j54 _
  · rw [h21, if_pos (show (12 : Int32) ≤ nI 12 by decide)]
    exact j54 _
theorem loop_ord {F n : Nat} {q : Nat → Nat} {kx : sp_Mem → Option (Int32 × sp_Mem)} (hF : 2000 ≤ F) : ∀ (c kf : Nat) (M : sp_Mem) (f len lv : Nat) (cl : List GC), c + cl.length = 12 → c < kf → RR M q n f true len lv cl.length → pOW M len cl →
  (∀ g, gT q n (ordR q n) c f lv cl = .inl g → ∃ M', ((fX11_readOrder F M).bind fun M1 => fX11_orders_l19 F kx kf M1) = kx M' ∧ tfr M M' ∧ BE M' q n g) ∧
  (∀ cl', gT q n (ordR q n) c f lv cl = .inr cl' → ∃ M' len' f' lv', ((fX11_readOrder F M).bind fun M1 => fX11_orders_l19 F kx kf M1) = kx M' ∧ tfr M M' ∧ RR M' q n f' true len' lv' cl'.length ∧ pOW M' len' cl' ∧ tkS q n f' = 0)
  | 0, kf, M, f, len, lv, cl, hc, hk, h, hP => by
    obtain ⟨kf, rfl⟩ : ∃ m, kf = m + 1 := ⟨kf - 1, by omega⟩
    refine ⟨fun g e => ?_, fun cl' e => (by cases e)⟩
    cases e
    rw [show cl.length = 12 by omega] at h
    obtain ⟨M', e1, e2, e3⟩ := full_ord hF h
    refine ⟨M', ?_, e2, BE_of e3⟩
    rw [e1, Option.bind_some]
    exact stop_ord e3
  | c + 1, kf, M, f, len, lv, cl, hc, hk, h, hP => by
    obtain ⟨kf, rfl⟩ : ∃ m, kf = m + 1 := ⟨kf - 1, by omega⟩
    have S := order_r hF (by omega) h hP
    rw [gT]
    cases hr : ordR q n f lv with
    | inl g1 =>
      refine ⟨fun g e => ?_, fun cl' e => (by cases e)⟩
      cases e
      obtain ⟨M', e1, e2, e3⟩ := S.1 g1 hr
      refine ⟨M', ?_, e2, BE_of e3⟩
      rw [e1, Option.bind_some]
      exact stop_ord e3
    | inr y =>
      obtain ⟨g1, lv1, x⟩ := y
      obtain ⟨M1, len1, e1, e2, e3, e4⟩ := S.2 g1 lv1 x hr
      have hlen1 : (cl ++ [x]).length = cl.length + 1 := by rw [List.length_append, List.length_singleton]
      have hT1 := e3.1
      have hK1 := e3.2.1
      have h19 := e3.2.2.2.2.2.2.1
      have s59 : fX11_isSign M1 59 = bI (sg q n g1 59) := sgb_r hT1 hK1 (b := 59) (by omega)
      rw [e1, Option.bind_some, fX11_orders_l19, if_pos h19, s59]
      dsimp only
      by_cases h0 : tkS q n g1 = 0
      · have n59 : sg q n g1 59 = false := Bool.eq_false_iff.2 fun z => by rw [(sg_S z).1] at h0; cases h0
        rw [if_pos h0, n59, if_pos (show bI false = 0 from rfl)]
        refine ⟨fun g e => (by cases e), fun cl' e => ?_⟩
        cases e
        exact ⟨M1, len1, g1, lv1, rfl, e2, by rw [hlen1]; exact e3, e4, h0⟩
      · rw [if_neg h0]
        by_cases h59 : sg q n g1 59 = true
        · rw [if_pos h59, h59, if_neg (show ¬ bI true = 0 by decide)]
          obtain ⟨M2, r1, r2, r3⟩ := RR_next (F := F) (by omega) e3
          rw [r1, Option.bind_some]
          have ih := loop_ord (kx := kx) hF c kf M2 (nxt q n g1) len1 lv1 (cl ++ [x]) (by omega) (by omega) (by rw [hlen1]; exact r3) (pOW_fr (by decide) r2 e4)
          have f2 : tfr M M2 := e2.tr (r2.mono (by decide) (by decide))
          refine ⟨fun g e => ?_, fun cl' e => ?_⟩
          · obtain ⟨M', s1, s2, s3⟩ := ih.1 g e
            exact ⟨M', s1, f2.tr s2, s3⟩
          · obtain ⟨M', len', f', lv', s1, s2, s3⟩ := ih.2 cl' e
            exact ⟨M', len', f', lv', s1, f2.tr s2, s3⟩
        · rw [if_neg h59, Bool.eq_false_iff.2 h59, if_pos (show bI false = 0 from rfl)]
          refine ⟨fun g e => ?_, fun cl' e => (by cases e)⟩
          cases e
          exact ⟨M1, rfl, e2, hT1, e3.2.2.2.2.2.2.2.1.1, Or.inr ⟨h19, hK1, h0⟩⟩

