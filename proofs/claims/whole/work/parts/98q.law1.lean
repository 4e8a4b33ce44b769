/-! ===== law: more cells, and what every clause is ===== -/
theorem shP_132 : ∀ q ∈ sh_P, q.1 < 132 := by decide +kernel
section Grow
variable {k j : Nat} {M Mx : sp_Mem}
theorem Inv_grow (hI : Inv k M) (eI : ∀ i, i < sp_n M → sp_I Mx i = sp_I M i) (eL : ∀ i, i < sp_n M → sp_L Mx i = sp_L M i) (eP : ∀ i, i < sp_n M → sp_P Mx i = sp_P M i) (eN : ∀ i, i < sp_n M → sp_N Mx i = sp_N M i) (eT : ∀ i, i < sp_n M → sp_T Mx i = sp_T M i) (hn : sp_n M ≤ sp_n Mx) (hj : sp_n Mx ≤ 132 + 3 * j) : Inv j Mx := by
  obtain ⟨hW, hR, hU, hT, hM, hi, hN, hC, hk⟩ := hI
  have h132 := hW.1
  have I : ∀ i, i < 132 → sp_I Mx i = sp_I M i := fun i h => eI i (by omega)
  have L : ∀ i, i < 132 → sp_L Mx i = sp_L M i := fun i h => eL i (by omega)
  have P : ∀ i, i < 132 → sp_P Mx i = sp_P M i := fun i h => eP i (by omega)
  have txt : ∀ t, sp_text M t → sp_text Mx t := by
    intro t ht
    obtain ⟨⟨a1, a2⟩, a3, a4, ⟨a5, a6⟩, ⟨a7, a8⟩⟩ := ht
    exact ⟨⟨by omega, by rw [eT t a1]; exact a2⟩, by rw [eP t a1]; exact a3, by rw [eP t a1]; exact a4, ⟨by omega, by rw [eT _ a5]; exact a6⟩, ⟨by omega, by rw [eT _ a7]; exact a8⟩⟩
  have row : ∀ o, o < 120 → rowOf Mx o = rowOf M o := fun o ho => rowOf_cg (fun j _ => by rw [I o (by omega)]) (fun k _ _ => I _ (by omega))
  have law : ∀ o (r : Nat → Int32), o < 120 → i_Law M o r → i_Law Mx o r := by
    intro o r ho h k hk
    obtain ⟨t, b1, b2, b3, b4⟩ := h k hk
    refine ⟨t, by rw [P (o + 11) (by omega)]; exact b1, b2, by omega, ?_⟩
    rw [eI t (by omega), eI (t + 1) (by omega), eI (t + 2) (by omega), eN (t + 1) (by omega), eN (t + 2) (by omega)]
    exact b4
  refine ⟨?_, ?_, ?_, ?_, ?_, ?_, ?_, ?_, hj⟩
  · obtain ⟨g1, g2, g3, g4, g5, g6, g7⟩ := hW
    refine ⟨by omega, fun i h => by rw [eT i (by omega)]; exact g2 i h, fun i h => by rw [eN i (by omega)]; exact g3 i h, fun q hq => by rw [P q.1 (shP_132 q hq)]; exact g4 q hq, by rw [P 77 (by omega)]; exact g5, by rw [P 77 (by omega)]; exact g6, fun o ho k t hkt => ?_⟩
    rw [P (o + 11) (by rcases ho with rfl | rfl | rfl | rfl | rfl | rfl <;> decide)] at hkt
    exact txt t (g7 o ho k t hkt)
  · obtain ⟨g1, g2, g3⟩ := hR
    have er : rM Mx = rM M := I 105 (by omega)
    unfold i_R
    rw [er]
    refine ⟨?_, g2, law 6 _ (by omega) g3⟩
    unfold i_Room
    rw [row 6 (by omega)]
    exact g1
  · have er : rM Mx = rM M := I 105 (by omega)
    rw [er]
    unfold i_U at hU ⊢
    rw [I 18 (by omega), I 103 (by omega), I 20 (by omega), I 109 (by omega), I 19 (by omega), I 108 (by omega)]
    exact hU
  · unfold i_T at hT ⊢
    rw [I 94 (by omega), I 103 (by omega), I 95 (by omega), I 112 (by omega)]
    exact hT
  · unfold i_M at hM ⊢
    rw [I 102 (by omega), I 104 (by omega), I 0 (by omega), I 103 (by omega)]
    exact hM
  · intro k hk
    have h := hi k hk
    unfold i_I1 at h ⊢
    rw [I 76 (by omega), I 107 (by omega), I 106 (by omega)]
    refine ⟨h.1, h.2.imp id (fun w => ⟨w.1, ?_, w.2.2.1, law _ _ (by omega) w.2.2.2⟩)⟩
    unfold i_Room
    rw [row _ (by omega)]
    exact w.2.1
  · unfold i_N at hN ⊢
    rw [I 0 (by omega), I 103 (by omega), I 39 (by omega), I 41 (by omega), I 42 (by omega), I 44 (by omega), I 131 (by omega)]
    exact hN
  · unfold i_C at hC ⊢
    rw [L 118 (by omega), L 119 (by omega), L 120 (by omega), L 129 (by omega), P 77 (by omega)]
    exact hC
theorem Inv_lower {i : Nat} (hI : Inv i M) (hn : sp_n M ≤ 132 + 3 * j) : Inv j M := by
  obtain ⟨hW, hR, hU, hT, hM, hi, hN, hC, hk⟩ := hI
  exact ⟨hW, hR, hU, hT, hM, hi, hN, hC, hn⟩
end Grow
theorem gT_p {q : Nat → Nat} {n : Nat} {rd : Nat → Nat → Nat ⊕ (Nat × Nat × GC)} {P : GC → Prop} (hp : ∀ f lv g lv' c, rd f lv = .inr (g, lv', c) → P c) : ∀ (m f lv : Nat) (cl cl' : List GC), (∀ c ∈ cl, P c) → gT q n rd m f lv cl = .inr cl' → ∀ c ∈ cl', P c
  | 0, f, lv, cl, cl', _, h => by cases h
  | m + 1, f, lv, cl, cl', hc, h => by
    rw [gT] at h
    cases hr : rd f lv with
    | inl g => rw [hr] at h; cases h
    | inr y =>
      obtain ⟨g, lv', x⟩ := y
      rw [hr] at h
      dsimp only at h
      have hx : ∀ c ∈ cl ++ [x], P c := by
        intro c hcm
        rcases List.mem_append.mp hcm with w | w
        · exact hc c w
        · rw [List.mem_singleton.mp w]; exact hp f lv g lv' x hr
      by_cases h0 : tkS q n g = 0
      · rw [if_pos h0] at h
        cases h
        exact hx
      · rw [if_neg h0] at h
        by_cases h59 : sg q n g 59 = true
        · rw [if_pos h59] at h
          exact gT_p hp m _ _ _ _ hx h
        · rw [if_neg h59] at h; cases h
theorem tsR_p {q : Nat → Nat} {n f lv g lv' : Nat} {ord : Bool} {c c' : GC} (h : tsR q n ord f lv c = .inr (g, lv', c')) : c'.1 = c.1 ∧ c'.2.1 = c.2.1 ∧ c'.2.2.1 = c.2.2.1 ∧ c'.2.2.2.1 = c.2.2.2.1 := by
  unfold tsR at h
  by_cases hx : wdx q n f cs_1 = some 0
  · rw [if_pos hx] at h
    cases hr : xr q n ord 21 (nxt q n f) lv with
    | inl g1 => rw [hr] at h; cases h
    | inr y =>
      obtain ⟨g1, l1, v1⟩ := y
      rw [hr] at h
      cases h
      exact ⟨rfl, rfl, rfl, rfl⟩
  · rw [if_neg hx] at h
    cases h
    exact ⟨rfl, rfl, rfl, rfl⟩
theorem lawR_p {q : Nat → Nat} {n f lv g lv' : Nat} {c : GC} (h : lawR q n f lv = .inr (g, lv', c)) : c.1 < 4 ∧ (c.2.1 = none ↔ 2 ≤ c.1) := by
  unfold lawR at h
  cases hx : wdx q n f cs_0 with
  | none => rw [hx] at h; cases h
  | some j =>
    have hj : j < 4 := wdx_lt hx
    rw [hx] at h
    dsimp only at h
    by_cases h2 : j < 2
    · rw [if_pos h2] at h
      cases hr : xr q n false 20 (nxt q n f) lv with
      | inl g1 => rw [hr] at h; cases h
      | inr y =>
        obtain ⟨g1, l1, v1⟩ := y
        rw [hr] at h
        obtain ⟨a, b, _⟩ := tsR_p h
        rw [a, b]
        exact ⟨hj, ⟨fun z => (by cases z), fun z => absurd (show 2 ≤ j from z) (by omega)⟩⟩
    · rw [if_neg h2] at h
      obtain ⟨a, b, _⟩ := tsR_p h
      rw [a, b]
      exact ⟨hj, ⟨fun _ => (show 2 ≤ j by omega), fun _ => rfl⟩⟩
/-! the reference lays a law by -/
theorem cp_110 {F u nc : Nat} {kx : Int32 → sp_Mem → Option (Int32 × sp_Mem)} (hu : u + 898 ≤ 5480) (hnc : nc ≤ 12) : ∀ (e d kf : Nat) (M : sp_Mem), d + e = 8 * nc → e < kf → sp_I M 103 21 = nI nc → ∃ M', fX11_law_l110 F kx kf (nI u) (nI d) M = kx (nI u) M' ∧ sp_fr [105] [] M M' ∧ (∀ i, i < u + 2 + d ∨ u + 98 ≤ i → sp_I M' 105 i = sp_I M 105 i) ∧ (∀ i, d ≤ i → i < 8 * nc → sp_I M' 105 (u + 2 + i) = sp_I M 113 i)
  | 0, d, kf, M, hd, hk, h21 => by
    obtain ⟨kf, rfl⟩ : ∃ m, kf = m + 1 := ⟨kf - 1, by omega⟩
    refine ⟨M, ?_, sp_fr.refl _ _ _, fun i _ => rfl, fun i h1 h2 => by omega⟩
    rw [fX11_law_l110, h21, show (8 : Int32) * nI nc = nI (8 * nc) from nI_mul 8 _, if_pos (nI_le (by omega) (by omega))]
  | e + 1, d, kf, M, hd, hk, h21 => by
    obtain ⟨kf, rfl⟩ : ∃ m, kf = m + 1 := ⟨kf - 1, by omega⟩
    obtain ⟨M', r1, r2, r3, r4⟩ := cp_110 (F := F) (kx := kx) hu hnc e (d + 1) kf (sp_setI M 105 (u + 2 + d) (sp_I M 113 d)) (by omega) (by omega) (by rw [I_ne _ _ _ (by decide)]; exact h21)
    refine ⟨M', ?_, (sp_fr_I (Or.inl (by decide)) rfl).tr r2, fun i hi => ?_, fun i h1 h2 => ?_⟩
    · rw [← r1, fX11_law_l110, h21, show (8 : Int32) * nI nc = nI (8 * nc) from nI_mul 8 _, if_neg (nI_ge (show d < 8 * nc by omega) (by omega)), sp_ix_nI (show d < 96 by omega) (by omega), Option.bind_some, show nI u + 2 + nI d = nI (u + 2 + d) by rw [show nI u + 2 = nI (u + 2) from nI_add u 2, nI_add], sp_ix_nI (show u + 2 + d < 5480 by omega) (by omega), Option.bind_some]
      simp only [sp_do]
      rw [nI_1]
    · rw [r3 i (by omega), I_nf _ _ _ (by omega)]
    · by_cases z : i = d
      · rw [z, r3 _ (by omega)]; exact I_eq _ _ _ _
      · rw [r4 i (by omega) h2, I_ne _ _ _ (by decide)]
theorem cp_145 {F u len : Nat} {kx : sp_Mem → Option (Int32 × sp_Mem)} (hu : u + 898 ≤ 5480) (hl : len ≤ 400) : ∀ (e d kf : Nat) (M : sp_Mem), d + e = len → e < kf → sp_I M 103 23 = nI len → ∃ M', fX11_law_l145 F kx kf (nI u) (nI d) M = kx M' ∧ sp_fr [105] [] M M' ∧ (∀ i, i < u + 98 + 2 * d ∨ u + 98 + 2 * len ≤ i → sp_I M' 105 i = sp_I M 105 i) ∧ (∀ i, d ≤ i → i < len → sp_I M' 105 (u + 98 + 2 * i) = sp_I M 114 i ∧ sp_I M' 105 (u + 98 + 2 * i + 1) = sp_I M 115 i)
  | 0, d, kf, M, hd, hk, h23 => by
    obtain ⟨kf, rfl⟩ : ∃ m, kf = m + 1 := ⟨kf - 1, by omega⟩
    refine ⟨M, ?_, sp_fr.refl _ _ _, fun i _ => rfl, fun i h1 h2 => by omega⟩
    rw [fX11_law_l145, h23, if_pos (nI_le (by omega) (by omega))]
  | e + 1, d, kf, M, hd, hk, h23 => by
    obtain ⟨kf, rfl⟩ : ∃ m, kf = m + 1 := ⟨kf - 1, by omega⟩
    let M1 := sp_setI M 105 (u + 98 + 2 * d) (sp_I M 114 d)
    let M2 := sp_setI M1 105 (u + 98 + 2 * d + 1) (sp_I M 115 d)
    have f2 : sp_fr [105] [] M M2 := (sp_fr_I (Or.inl (by decide)) rfl).tr (sp_fr_I (Or.inl (by decide)) rfl)
    obtain ⟨M', r1, r2, r3, r4⟩ := cp_145 (F := F) (kx := kx) hu hl e (d + 1) kf M2 (by omega) (by omega) (by rw [I_ne _ _ _ (by decide), I_ne _ _ _ (by decide)]; exact h23)
    have e1 : nI u + 98 + 2 * nI d = nI (u + 98 + 2 * d) := by rw [show nI u + 98 = nI (u + 98) from nI_add u 98, show (2 : Int32) * nI d = nI (2 * d) from nI_mul 2 _, nI_add]
    refine ⟨M', ?_, f2.tr r2, fun i hi => ?_, fun i h1 h2 => ?_⟩
    · rw [← r1, fX11_law_l145, h23, if_neg (nI_ge (show d < len by omega) (by omega)), sp_ix_nI (show d < 400 by omega) (by omega), Option.bind_some, e1, sp_ix_nI (show u + 98 + 2 * d < 5480 by omega) (by omega), Option.bind_some]
      simp only [sp_do]
      rw [Option.bind_some, nI_1, sp_ix_nI (show u + 98 + 2 * d + 1 < 5480 by omega) (by omega), Option.bind_some, nI_1, show sp_I (sp_setI M 105 (u + 98 + 2 * d) (sp_I M 114 d)) 115 d = sp_I M 115 d from congrFun (I_ne _ _ _ (by decide)) d]
    · rw [r3 i (by omega), I_nf _ _ _ (by omega), I_nf _ _ _ (by omega)]
    · by_cases z : i = d
      · subst z
        refine ⟨?_, ?_⟩
        · rw [r3 _ (by omega), I_nf _ _ _ (by omega)]; exact I_eq _ _ _ _
        · rw [r3 _ (by omega)]; exact I_eq _ _ _ _
      · have := r4 i (by omega) h2
        rw [this.1, this.2, I_ne _ _ _ (by decide), I_ne _ _ _ (by decide), I_ne _ _ _ (by decide), I_ne _ _ _ (by decide)]
        exact ⟨rfl, rfl⟩
