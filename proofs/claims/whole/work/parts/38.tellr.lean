/-! ===== the reference's telling ===== -/
theorem nI_mul (a b : Nat) : nI a * nI b = nI (a * b) := (Int32.ofNat_mul a b).symm
/-- the law's words and the words' values stand in the reference -/
def ev_TR (M : sp_Mem) (lw : Nat) (q : Nat → Int32) (W : Nat → Int64) : Prop := sp_I M 103 20 = 0 ∧ lw ≤ 4580 ∧ sp_I M 103 34 = nI lw ∧ (∀ i, i < 900 → sp_I M 105 (lw + i) = q i) ∧ ∀ i, i < 10 → sp_L M 121 (i + 1) = W i
theorem ev_TR_fr {M M' : sp_Mem} {lw : Nat} {q : Nat → Int32} {W : Nat → Int64} (hf : sp_fr [123] [(103, 38), (103, 39), (103, 40)] M M') (h : ev_TR M lw q W) : ev_TR M' lw q W := by
  obtain ⟨a, b, c, d, e⟩ := h
  refine ⟨by rw [hf.1 103 20 (by decide) (by decide)]; exact a, b, by rw [hf.1 103 34 (by decide) (by decide)]; exact c, fun i hi => ?_, fun i hi => ?_⟩
  · rw [hf.1 105 (lw + i) (by decide) (by simp)]; exact d i hi
  · rw [hf.2.1 121 (i + 1) (by decide) (by simp)]; exact e i hi
theorem ev_TR_RM {M : sp_Mem} {lw lim : Nat} {q : Nat → Int32} {W : Nat → Int64} (h : ev_TR M lw q W) (hl : lim ≤ 400) : ev_RM 0 M (fun j => q (98 + 2 * j)) (fun j => q (98 + 2 * j + 1)) lim 10 W := by
  obtain ⟨a, b, c, d, e⟩ := h
  refine ⟨hl, Or.inl ⟨rfl, rfl, a, ⟨lw, b, c, fun i hi => ⟨?_, ?_⟩⟩, e⟩⟩
  · rw [show lw + 98 + 2 * i = lw + (98 + 2 * i) by omega]; exact d _ (by omega)
  · rw [show lw + 98 + 2 * i + 1 = lw + (98 + 2 * i + 1) by omega]; exact d _ (by omega)
section TellR
variable {F lw hd i : Nat} {cl : List ev_C} {c : ev_C} {q : Nat → Int32} {W : Nat → Int64} {M : sp_Mem}
theorem tl_j59 (hF : 1000 ≤ F) (hq : ev_LQ q cl) (hc : cl[i]? = some c) (hM : ev_TR M lw q W) : ∃ x M', fX11_isSo_j59 F (nI (lw + 2 + 8 * i)) M = some (x, M') ∧ sp_fr [123] [(103, 38), (103, 39), (103, 40)] M M' ∧ (ev_sm W c.2.1 = none → x = 0) ∧ (∀ v, ev_sm W c.2.1 = some v → x = 1 ∧ (c.1 < 2 → sp_L M' 103 40 = v)) := by
  obtain ⟨h12, h1, lim, hl, h2⟩ := hq
  have hi : i < cl.length := (List.getElem?_eq_some_iff.mp hc).1
  obtain ⟨a1, a2, a3, a4, a5, a6⟩ := h2 i c hc
  have hM' := hM
  obtain ⟨m1, m2, m3, m4, m5⟩ := hM
  have e0 : sp_I M 105 (lw + 2 + 8 * i) = nI c.1 := by
    rw [show lw + 2 + 8 * i = lw + (2 + 8 * i) by omega, m4 _ (by omega)]; exact a4
  unfold fX11_isSo_j59
  rw [sp_ix_nI (show lw + 2 + 8 * i < 5480 by omega) (by omega), Option.bind_some, e0]
  cases hs : c.2.1 with
  | none =>
    have h2 : 2 ≤ c.1 := a2.mp hs
    rw [if_pos (show (2 : Int32) ≤ nI c.1 from nI_le (a := 2) h2 (by omega))]
    exact ⟨1, M, rfl, sp_fr.refl _ _ _, fun h => (by cases h), fun v hv => ⟨rfl, fun h => by omega⟩⟩
  | some f =>
    have hlt : c.1 < 2 := by
      apply Decidable.byContradiction
      intro h
      have := a2.mpr (by omega)
      rw [hs] at this
      cases this
    rw [if_neg (show ¬ (2 : Int32) ≤ nI c.1 from nI_ge (b := 2) hlt (by omega))]
    rw [hs] at a5
    obtain ⟨p, q', n, e1, e2, e3, e4, e5⟩ := a5
    have i3 : sp_I M 105 (lw + 2 + 8 * i + 3) = nI p := by
      rw [show lw + 2 + 8 * i + 3 = lw + (2 + 8 * i + 3) by omega, m4 _ (by omega)]; exact e1
    have i4 : sp_I M 105 (lw + 2 + 8 * i + 4) = nI q' := by
      rw [show lw + 2 + 8 * i + 4 = lw + (2 + 8 * i + 4) by omega, m4 _ (by omega)]; exact e2
    rw [show nI (lw + 2 + 8 * i) + 3 = nI (lw + 2 + 8 * i + 3) from nI_add _ 3, show nI (lw + 2 + 8 * i) + 4 = nI (lw + 2 + 8 * i + 4) from nI_add _ 4, sp_ix_nI (show lw + 2 + 8 * i + 3 < 5480 by omega) (by omega), Option.bind_some, sp_ix_nI (show lw + 2 + 8 * i + 4 < 5480 by omega) (by omega), Option.bind_some, i3, i4]
    obtain ⟨M8, g1, g2, g3, g4⟩ := ev_ref hF (ev_TR_RM hM' hl) e3 e5 e4
    rw [g1, Option.bind_some]
    have hfr : sp_fr [123] [(103, 38), (103, 39), (103, 40)] M M8 := g2.mono (fun _ h => h) (fun x h => by simp at h ⊢; rcases h with rfl | rfl <;> simp)
    refine ⟨_, sp_setL M8 103 40 (sp_L M8 103 39), rfl, hfr.tr (sp_fr_L (Or.inr (by decide)) rfl), fun h => ?_, fun v hv => ?_⟩
    · have := g3 h
      rw [sp_I_setL, if_neg (by rw [this]; decide)]
    · obtain ⟨k1, k2⟩ := g4 v hv
      rw [sp_I_setL, if_pos k1]
      exact ⟨rfl, fun _ => by rw [sp_L_setL, if_pos ⟨rfl, rfl⟩, k2]⟩
theorem tl_isSo (hF : 1000 ≤ F) (hq : ev_LQ q cl) (hc : cl[i]? = some c) (hM : ev_TR M lw q W) : ∃ x M', fX11_isSo F M (nI (lw + 2 + 8 * i)) = some (x, M') ∧ sp_fr [123] [(103, 38), (103, 39), (103, 40)] M M' ∧ ((if ev_ts W c.2.2 = some 1 then ev_sm W c.2.1 else none) = none → x = 0) ∧ (∀ v, (if ev_ts W c.2.2 = some 1 then ev_sm W c.2.1 else none) = some v → x = 1 ∧ (c.1 < 2 → sp_L M' 103 40 = v)) := by
  have hq' := hq
  obtain ⟨h12, h1, lim, hl, h2⟩ := hq
  have hi : i < cl.length := (List.getElem?_eq_some_iff.mp hc).1
  obtain ⟨a1, a2, a3, a4, a5, a6⟩ := h2 i c hc
  have hM' := hM
  obtain ⟨m1, m2, m3, m4, m5⟩ := hM
  have i5 : sp_I M 105 (lw + 2 + 8 * i + 5) = q (2 + 8 * i + 5) := by
    rw [show lw + 2 + 8 * i + 5 = lw + (2 + 8 * i + 5) by omega, m4 _ (by omega)]
  have i6 : sp_I M 105 (lw + 2 + 8 * i + 6) = q (2 + 8 * i + 6) := by
    rw [show lw + 2 + 8 * i + 6 = lw + (2 + 8 * i + 6) by omega, m4 _ (by omega)]
  unfold fX11_isSo
  rw [show nI (lw + 2 + 8 * i) + 5 = nI (lw + 2 + 8 * i + 5) from nI_add _ 5, show nI (lw + 2 + 8 * i) + 6 = nI (lw + 2 + 8 * i + 6) from nI_add _ 6]
  simp only [sp_ix_nI (show lw + 2 + 8 * i + 5 < 5480 by omega) (by omega), sp_ix_nI (show lw + 2 + 8 * i + 6 < 5480 by omega) (by omega), Option.bind_some, i5, i6]
  cases hs : c.2.2 with
  | none =>
    rw [hs] at a6
    obtain ⟨p, e0, e1, e2⟩ := a6
    rw [e1, e2, if_pos (nI_le (Nat.le_refl p) (by omega)), if_pos (show ev_ts W none = some 1 from rfl)]
    exact tl_j59 hF hq' hc hM'
  | some g =>
    rw [hs] at a6
    obtain ⟨p, q', n, e1, e2, e3, e4, e5⟩ := a6
    have hpq : p < q' := e5.1
    rw [e1, e2, if_neg (nI_ge hpq (by omega))]
    obtain ⟨M8, g1, g2, g3, g4⟩ := ev_ref hF (ev_TR_RM hM' hl) e3 e5 e4
    rw [g1, Option.bind_some]
    have hfr : sp_fr [123] [(103, 38), (103, 39), (103, 40)] M M8 := g2.mono (fun _ h => h) (fun x h => by simp at h ⊢; rcases h with rfl | rfl <;> simp)
    have hts : ev_ts W (some g) = g W := rfl
    rw [hts]
    cases hg : g W with
    | none =>
      rw [if_neg (by rw [g3 hg]; decide)]
      exact ⟨0, M8, rfl, hfr, fun _ => rfl, fun v hv => by simp at hv⟩
    | some v =>
      obtain ⟨k1, k2⟩ := g4 v hg
      rw [if_pos k1, k2]
      rcases a3 g hs W v hg with rfl | rfl
      · rw [if_pos rfl]
        exact ⟨0, M8, rfl, hfr, fun _ => rfl, fun v hv => by simp at hv⟩
      · rw [if_neg (by decide), if_pos rfl]
        obtain ⟨x, M9, f1, f2, f3⟩ := tl_j59 hF hq' hc (ev_TR_fr hfr hM')
        exact ⟨x, M9, f1, hfr.tr f2, f3⟩
def tl_acc (cl : List ev_C) (W : Nat → Int64) (hd : Nat) (w0 : Int64) (i : Nat) : Int64 := match ev_tk cl W hd i with
  | none => w0
  | some v => if hd < 2 then v else 1
theorem tl_ref (hF : 1000 ≤ F) (hhd : hd < 4) (hq : ev_LQ q cl) {w0 : Int64} {kx : Int64 → sp_Mem → Option (Int64 × sp_Mem)} : ∀ (m i n : Nat) (M : sp_Mem), i + m = cl.length → m < n → ev_TR M lw q W → ∃ M', fX11_tells_l172 F kx n (nI hd) (tl_acc cl W hd w0 i) (nI i) M = kx (tl_acc cl W hd w0 cl.length) M' ∧ sp_fr [123] [(103, 38), (103, 39), (103, 40)] M M' := by
  have hq' := hq
  obtain ⟨h12, h1, lim, hl, h2⟩ := hq
  intro m
  induction m with
  | zero =>
    intro i n M hi hn hM
    obtain ⟨n, rfl⟩ : ∃ m, n = m + 1 := ⟨n - 1, by omega⟩
    obtain ⟨m1, m2, m3, m4, m5⟩ := hM
    refine ⟨M, ?_, sp_fr.refl _ _ _⟩
    unfold fX11_tells_l172
    rw [m3, nI_1, sp_ix_nI (show lw + 1 < 5480 by omega) (by omega), Option.bind_some, m4 1 (by omega), h1, if_pos (nI_le (by omega) (by omega)), show i = cl.length by omega]
  | succ m ih =>
    intro i n M hi hn hM
    obtain ⟨n, rfl⟩ : ∃ m, n = m + 1 := ⟨n - 1, by omega⟩
    have hM' := hM
    obtain ⟨m1, m2, m3, m4, m5⟩ := hM
    obtain ⟨c, hc⟩ : ∃ c, cl[i]? = some c := ⟨cl[i], List.getElem?_eq_getElem (by omega)⟩
    obtain ⟨a1, a2, a3, a4, a5, a6⟩ := h2 i c hc
    have e0 : sp_I M 105 (lw + 2 + 8 * i) = nI c.1 := by
      rw [show lw + 2 + 8 * i = lw + (2 + 8 * i) by omega, m4 _ (by omega)]; exact a4
    have hu : nI lw + 2 + 8 * nI i = nI (lw + 2 + 8 * i) := by
      rw [show (8 : Int32) * nI i = nI (8 * i) from nI_mul 8 i, show nI lw + 2 = nI (lw + 2) from nI_add lw 2, nI_add]
    unfold fX11_tells_l172
    simp only [sp_do]
    rw [m3, nI_1, sp_ix_nI (show lw + 1 < 5480 by omega) (by omega), Option.bind_some, m4 1 (by omega), h1, if_neg (nI_ge (by omega) (by omega)), hu, sp_ix_nI (show lw + 2 + 8 * i < 5480 by omega) (by omega), Option.bind_some, e0, nI_1]
    have hstep : tl_acc cl W hd w0 (i + 1) = match ev_one W hd c with
        | none => tl_acc cl W hd w0 i
        | some v => if hd < 2 then v else 1 := by
      unfold tl_acc
      rw [ev_tk_s hc]
      cases ev_one W hd c <;> rfl
    by_cases hv : c.1 = hd
    · rw [if_pos (by rw [hv])]
      obtain ⟨x, M1, f1, f2, f3, f4⟩ := tl_isSo hF hq' hc hM'
      rw [f1, Option.bind_some]
      have h1e : ev_one W hd c = if ev_ts W c.2.2 = some 1 then ev_sm W c.2.1 else none := if_pos hv
      rw [← h1e] at f3 f4
      cases ho : ev_one W hd c with
      | none =>
        rw [if_pos (f3 ho)]
        obtain ⟨M2, k1, k2⟩ := ih (i + 1) n M1 (by omega) (by omega) (ev_TR_fr f2 hM')
        rw [hstep, ho] at k1
        exact ⟨M2, k1, f2.tr k2⟩
      | some v =>
        obtain ⟨g1, g2⟩ := f4 v ho
        rw [if_neg (show ¬ x = 0 by rw [g1]; decide)]
        obtain ⟨M2, k1, k2⟩ := ih (i + 1) n M1 (by omega) (by omega) (ev_TR_fr f2 hM')
        rw [hstep, ho] at k1
        refine ⟨M2, ?_, f2.tr k2⟩
        by_cases h2 : hd < 2
        · rw [if_neg (show ¬ (2 : Int32) ≤ nI hd from nI_ge (b := 2) h2 (by omega))]
          simp only [if_pos h2] at k1
          rw [g2 (by omega)]
          exact k1
        · rw [if_pos (show (2 : Int32) ≤ nI hd from nI_le (a := 2) (by omega) (by omega))]
          simp only [if_neg h2] at k1
          exact k1
    · rw [if_neg (by rw [nI_eq (by omega) (by omega)]; exact hv)]
      have h1e : ev_one W hd c = none := if_neg hv
      obtain ⟨M2, k1, k2⟩ := ih (i + 1) n M (by omega) (by omega) hM'
      rw [hstep, h1e] at k1
      exact ⟨M2, k1, k2⟩
end TellR
