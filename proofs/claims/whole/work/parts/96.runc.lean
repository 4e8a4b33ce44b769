/-! ===== expressions: the class's loop follows the machine ===== -/
theorem lfE_gt {q : Nat → Nat} {n f f' : Nat} {ord : Bool} {v : ev_S} (hf : f ≤ n) (h : lfE q n ord f = .inr (f', v)) : f + 1 ≤ f' := by
  have nx : ∀ g, g ≤ n → tkS q n g ≠ 0 → g + 1 ≤ nxt q n g ∧ nxt q n g ≤ n := fun g hg hs => nxt_gt hg hs
  unfold lfE at h
  by_cases h2 : tkS q n f = 2
  · rw [if_pos h2] at h
    by_cases h3 : nbT q n f ≤ 1000
    · rw [if_pos h3] at h
      cases h
      exact (nx f hf (by omega)).1
    · rw [if_neg h3] at h; cases h
  · rw [if_neg h2] at h
    cases ord with
    | false =>
      rw [if_pos rfl] at h
      cases hx : wdx q n f cs_8 with
      | none => rw [hx] at h; cases h
      | some j =>
        rw [hx] at h
        cases h
        exact (nx f hf (by rw [wdx_S hx]; decide)).1
    | true =>
      rw [if_neg (by decide)] at h
      cases hx : wdx q n f cs_7 with
      | none => rw [hx] at h; cases h
      | some j =>
        rw [hx] at h
        dsimp only at h
        have g := nx f hf (by rw [wdx_S hx]; decide)
        by_cases h4 : j < 4
        · rw [if_pos h4] at h
          cases h
          exact g.1
        · rw [if_neg h4] at h
          by_cases h5 : tkS q n (nxt q n f) = 2 ∧ nbT q n (nxt q n f) ≤ 5
          · rw [if_pos h5] at h
            cases h
            have := nx (nxt q n f) g.2 (by omega)
            omega
          · rw [if_neg h5] at h; cases h
theorem cTB_11 {k : Nat} (h : cTB k = true) (h11 : k ≠ 11) : bnd k < 3 := by
  have h := of_decide_eq_true h
  rcases h with h | h | h
  · rw [h]; decide
  · rw [h]; decide
  · rcases bnd_3 h.1 h.2 with e | e | e
    · exact (h11 e).elim
    · rw [e]; decide
    · rw [e]; decide
/-- the machine's step keeps the waiting items in order -/
theorem stE_wf {q : Nat → Nat} {n f lv br base : Nat} {ord : Bool} {A : Sk} (hB : base = 20 ∨ base = 21) (hf : f ≤ n) (hbr : br ≤ 8) (hlv : lv ≤ 50) (hw : WFk base A br) (hL : TL A) :
  (∀ s, stE q n ord (f, A, lv, br) = .inr (.inl s) → WFk base s.2.1 s.2.2.2 ∧ TL s.2.1 ∧ f + 1 ≤ s.1 ∧ s.2.2.1 = lv ∧ s.2.2.2 ≤ 8) ∧
  (∀ s, stE q n ord (f, A, lv, br) = .inr (.inr s) → s.2.1 = A ∧ s.2.2.2.1 = false ∧ f + 1 ≤ s.1 ∧ s.2.2.2.2.1 = lv + 1 ∧ lv + 1 ≤ 50 ∧ s.2.2.2.2.2 = br) := by
  unfold stE
  dsimp only
  by_cases hx : wdx q n f cs_6 = some 0
  · have hg := (nxt_gt hf (by rw [wdx_S hx]; decide)).1
    rw [if_pos hx]
    by_cases hc : cTB (tpk A) = true
    · rw [if_pos hc]
      by_cases h11 : tpk A = 11
      · rw [if_pos h11]
        refine ⟨fun s e => ?_, fun s e => (by cases e)⟩
        cases e
        refine ⟨?_, fun x hx => hL x (List.mem_of_mem_tail hx), hg, rfl, hbr⟩
        cases A with
        | nil => exact hw.elim
        | cons x A =>
          have h11 : x.1 = 11 := h11
          cases A with
          | nil =>
            have : x.1 = base := hw.1
            omega
          | cons y A =>
            rcases hw.2 with ⟨_, w⟩ | ⟨w, _⟩
            · exact w
            · omega
      · rw [if_neg h11]
        refine ⟨fun s e => ?_, fun s e => (by cases e)⟩
        cases e
        exact ⟨WFk_cons hw (by omega) ⟨fun _ => cTB_11 hc h11, fun _ => hc⟩, TL_cons hL (fun z => (by omega)), hg, rfl, hbr⟩
    · rw [if_neg hc]
      exact ⟨fun s e => (by cases e), fun s e => (by cases e)⟩
  rw [if_neg hx]
  by_cases s40 : sg q n f 40 = true
  · have hg := (nxt_gt hf (by rw [(sg_S s40).1]; decide)).1
    rw [if_pos s40]
    by_cases hc : cTB (tpk A) = true ∧ br < 8
    · rw [if_pos hc]
      refine ⟨fun s e => ?_, fun s e => (by cases e)⟩
      cases e
      exact ⟨WFk_br hw (Or.inr rfl) ⟨fun z => (by omega), fun _ => hc.1⟩, TL_cons hL (fun z => (by omega)), hg, rfl, by have := hc.2; show br + 1 ≤ 8; omega⟩
    · rw [if_neg hc]
      exact ⟨fun s e => (by cases e), fun s e => (by cases e)⟩
  rw [if_neg s40]
  by_cases s91 : sg q n f 91 = true
  · have hg := (nxt_gt hf (by rw [(sg_S s91).1]; decide)).1
    rw [if_pos s91]
    by_cases hc : br < 8
    · rw [if_pos hc]
      refine ⟨fun s e => ?_, fun s e => (by cases e)⟩
      cases e
      exact ⟨WFk_br hw (Or.inl rfl) ⟨fun z => (by omega), fun z => (by omega)⟩, TL_cons hL (fun z => (by omega)), hg, rfl, by show br + 1 ≤ 8; omega⟩
    · rw [if_neg hc]
      exact ⟨fun s e => (by cases e), fun s e => (by cases e)⟩
  rw [if_neg s91]
  by_cases hl : lv < 50
  · rw [if_pos hl]
    cases hE : lfE q n ord f with
    | inl f1 => exact ⟨fun s e => (by cases e), fun s e => (by cases e)⟩
    | inr y =>
      obtain ⟨f1, v1⟩ := y
      refine ⟨fun s e => (by cases e), fun s e => ?_⟩
      cases e
      exact ⟨rfl, rfl, lfE_gt hf hE, rfl, by omega, rfl⟩
  · rw [if_neg hl]
    exact ⟨fun s e => (by cases e), fun s e => (by cases e)⟩
/-- what the class's run gives, by the machine's outcome o -/
def OC (M' : sp_Mem) (q : Nat → Nat) (n : Nat) (ord : Bool) (nw : Nat) (p0 : PP) (base : Nat) (b : Int32) (o : Nat × Nat × ev_S × Nat) : Prop := TXC M' q n ∧ TKC M' q n o.2.1 ∧ (b = 0 ∨ b = 1) ∧ (o.1 = 0 → b = 0) ∧ (o.1 = 1 → b = 1 ∧ ∃ t, t ≤ o.2.2.2 ∧ o.2.2.2 ≤ 50 ∧ DN M' q n o.2.1 ord nw p0 o.2.2.1 t o.2.2.2 ∧ (base = 21 → ev_T o.2.2.1)) ∧ (o.1 = 2 → sg q n o.2.1 41 = true ∧ base = 21) ∧ o.1 ≤ 2
section RunC
variable {p0 : PP} {F n base : Nat} {q : Nat → Nat} {ord : Bool}
theorem run_c {kx : sp_Mem → Option (Int32 × sp_Mem)} (hF : 1000 ≤ F) (hB : base = 20 ∨ base = 21) : ∀ (mm kf : Nat) (M : sp_Mem) (i f t lv br : Nat) (A : Sk), n - f < mm → mm ≤ kf → i ≤ f → br ≤ 8 → t ≤ lv → lv ≤ 50 →
  (EX M q n f ord (nwO ord) p0 base A t lv br → ∃ b M', fX2_readValue_l44 F kx kf 1 (nI i) M = some (b, M') ∧ xfr M M' ∧ OC M' q n ord (nwO ord) p0 base b (xrun q n ord mm (.inl (f, A, lv, br)))) ∧
  (∀ (v : ev_S) (td : Bool), BX M q n f ord (nwO ord) p0 base A v td t lv br → ∃ b M', fX2_readValue_l44 F kx kf 0 (nI i) M = some (b, M') ∧ xfr M M' ∧ OC M' q n ord (nwO ord) p0 base b (xrun q n ord mm (.inr (f, A, v, td, lv, br))))
  | 0, _, _, _, _, _, _, _, _, h, _, _, _, _, _ => by omega
  | mm + 1, kf, M, i, f, t, lv, br, A, hm, hk, hi, hbr, ht, hlv => by
    obtain ⟨kf, rfl⟩ : ∃ m, kf = m + 1 := ⟨kf - 1, by omega⟩
    have goE : ∀ (M1 : sp_Mem) (s : StE) (t1 : Nat), xfr M M1 → EX M1 q n s.1 ord (nwO ord) p0 base s.2.1 t1 s.2.2.1 s.2.2.2 → f + 1 ≤ s.1 → f < n → s.2.2.2 ≤ 8 → t1 ≤ s.2.2.1 → s.2.2.1 ≤ 50 → ∃ b M', fX2_readValue_l44 F kx kf 1 (nI (i + 1)) M1 = some (b, M') ∧ xfr M M' ∧ OC M' q n ord (nwO ord) p0 base b (xrun q n ord mm (.inl s)) := by
      intro M1 s t1 f1 e1 e2 e2n e3 e4 e5
      obtain ⟨b, M', r1, r2, r3⟩ := (run_c hF hB mm kf M1 (i + 1) s.1 t1 s.2.2.1 s.2.2.2 s.2.1 (by omega) (by omega) (by omega) e3 e4 e5).1 e1
      exact ⟨b, M', r1, f1.tr r2, r3⟩
    have goB : ∀ (M1 : sp_Mem) (s : StB) (t1 : Nat), xfr M M1 → BX M1 q n s.1 ord (nwO ord) p0 base s.2.1 s.2.2.1 s.2.2.2.1 t1 s.2.2.2.2.1 s.2.2.2.2.2 → f + 1 ≤ s.1 → f < n → s.2.2.2.2.2 ≤ 8 → t1 ≤ s.2.2.2.2.1 → s.2.2.2.2.1 ≤ 50 → ∃ b M', fX2_readValue_l44 F kx kf 0 (nI (i + 1)) M1 = some (b, M') ∧ xfr M M' ∧ OC M' q n ord (nwO ord) p0 base b (xrun q n ord mm (.inr s)) := by
      intro M1 s t1 f1 e1 e2 e2n e3 e4 e5
      obtain ⟨b, M', r1, r2, r3⟩ := (run_c hF hB mm kf M1 (i + 1) s.1 t1 s.2.2.2.2.1 s.2.2.2.2.2 s.2.1 (by omega) (by omega) (by omega) e3 e4 e5).2 s.2.2.1 s.2.2.2.1 e1
      exact ⟨b, M', r1, f1.tr r2, r3⟩
    refine ⟨fun h => ?_, fun v td h => ?_⟩
    · obtain ⟨Ai, len, rfl, hX, hw, hL⟩ := h
      have hfn := hX.2.1.1
      have hn := hX.1.1
      have S := ste_c (kx := kx) (kf := kf) (i := i) (base := base) hF (by omega) hbr hlv hX hw
      have Wf := stE_wf (q := q) (ord := ord) hB hfn hbr hlv hw hL
      rw [xrun]
      cases hE : stE q n ord (f, drp Ai, lv, br) with
      | inl f1 =>
        obtain ⟨M', e1, e2, e3, e4⟩ := S.1 f1 hE
        exact ⟨0, M', e1, e2, e3, e4, Or.inl rfl, fun _ => rfl, fun z => (by cases z), fun z => (by cases z), by show 0 ≤ 2; omega⟩
      | inr st =>
        cases st with
        | inl s =>
          obtain ⟨M1, Ai1, e1, e2, e3, e4⟩ := S.2.1 s hE
          obtain ⟨w1, w2, w3, w4, w5⟩ := Wf.1 s hE
          have hs := e4.2.1.1
          dsimp only
          rw [e1]
          exact goE M1 s t e2 ⟨Ai1, len, e3, e4, w1, w2⟩ w3 (by omega) w5 (by omega) (by omega)
        | inr s =>
          obtain ⟨M1, e1, e2, e3, e4, e5, e6, e7⟩ := S.2.2 s hE
          obtain ⟨w1, w2, w3, w4, w5, w6⟩ := Wf.2 s hE
          have hs := e4.2.1.1
          dsimp only
          rw [e1]
          refine goB M1 s (t + 1) e2 ⟨Ai, len, len + 1, t, 1, e3, e4, e7, rfl, ?_, ?_, fun z => ?_, ?_⟩ w3 (by omega) (by omega) (by omega) (by omega)
          · rw [w1, w6]; exact hw
          · rw [w1]; exact hL
          · rw [w2] at z; cases z
          · rw [w2]; exact e5
    · have hfn := (BX_t h).2.1
      have hn := (BX_t h).1.1
      have S := stb_c (kx := kx) (kf := kf) (i := i) hF (by omega) hB hbr h
      rw [xrun]
      cases hE : stB q n (f, A, v, td, lv, br) with
      | inl o =>
        obtain ⟨b, M', e1, e2, e3, e4, e5, e6, e7, e8, e9⟩ := S.1 o hE
        exact ⟨b, M', e1, e2, e3, e4, e5, e6, fun z => ⟨(e7 z).1, t, ht, hlv, (e7 z).2.1, (e7 z).2.2⟩, e8, e9⟩
      | inr st =>
        cases st with
        | inl s =>
          obtain ⟨M1, e1, e2, e3, e4, e5, e6⟩ := S.2.1 s hE
          have hs : s.1 ≤ n := by
            obtain ⟨_, _, _, hX, _⟩ := e3
            exact hX.2.1.1
          dsimp only
          rw [e1]
          exact goE M1 s t e2 e3 e4 (by omega) e6 (by omega) (by omega)
        | inr s =>
          obtain ⟨M1, e1, e2, e3, e4, e5, e6⟩ := S.2.2 s hE
          have hs : s.1 ≤ n := (BX_t e3).2.1
          dsimp only
          rw [e1]
          exact goB M1 s t e2 e3 e4 (by omega) e6 (by omega) (by omega)
end RunC
