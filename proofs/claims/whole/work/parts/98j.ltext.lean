/-! ===== texts: the plain machine, and the class's clauses ===== -/
/-- a clause: verb, first sum, second sum, times, test -/
abbrev GC : Type := Nat × Option ev_S × Option ev_S × Nat × Option ev_S
def gT (q : Nat → Nat) (n : Nat) (rd : Nat → Nat → Nat ⊕ (Nat × Nat × GC)) : Nat → Nat → Nat → List GC → Nat ⊕ List GC
  | 0, f, _, _ => .inl f
  | c + 1, f, lv, cl => match rd f lv with
    | .inl g => .inl g
    | .inr (g, lv', x) => if tkS q n g = 0 then .inr (cl ++ [x]) else if sg q n g 59 = true then gT q n rd c (nxt q n g) lv' (cl ++ [x]) else .inl g
/-- an expression read, as a clause's reader sees it -/
def xr (q : Nat → Nat) (n : Nat) (ord : Bool) (base f lv : Nat) : Nat ⊕ (Nat × Nat × ev_S) := if (xo q n ord base f lv).1 = 1 then .inr ((xo q n ord base f lv).2.1, (xo q n ord base f lv).2.2.2, (xo q n ord base f lv).2.2.1) else .inl (xo q n ord base f lv).2.1
/-- the test at a clause's end -/
def tsR (q : Nat → Nat) (n : Nat) (ord : Bool) (f lv : Nat) (c : GC) : Nat ⊕ (Nat × Nat × GC) := if wdx q n f cs_1 = some 0 then (match xr q n ord 21 (nxt q n f) lv with
    | .inl g => .inl g
    | .inr (g, lv', v) => .inr (g, lv', (c.1, c.2.1, c.2.2.1, c.2.2.2.1, some v))) else .inr (f, lv, c)
def lawR (q : Nat → Nat) (n f lv : Nat) : Nat ⊕ (Nat × Nat × GC) := match wdx q n f cs_0 with
  | none => .inl f
  | some j => if j < 2 then (match xr q n false 20 (nxt q n f) lv with
      | .inl g => .inl g
      | .inr (g, lv', v) => tsR q n false g lv' (j, some v, none, 1, none))
    else tsR q n false (nxt q n f) lv (j, none, none, 1, none)
def CLG (nw : Nat) (H stp : Nat → Int32) (len : Nat) (cl : List GC) : Prop := ∀ i c, cl[i]? = some c → H (5 * i) = nI c.1 ∧ ev_CO nw stp len (H (5 * i + 1)) c.2.1 ∧ ev_CO nw stp len (H (5 * i + 2)) c.2.2.1 ∧ H (5 * i + 3) = nI c.2.2.2.1 ∧ ev_CO nw stp len (H (5 * i + 4)) c.2.2.2.2
theorem CO_up {nw : Nat} {stp stp' : Nat → Int32} {len len' : Nat} {x : Int32} {o : Option ev_S} (hl : len ≤ len') (hc : ∀ i, i < len → ev_cc stp' len' i = ev_cc stp len i) (h : ev_CO nw stp len x o) : ev_CO nw stp' len' x o := by
  cases o with
  | none => exact h
  | some f =>
    obtain ⟨p, q, n, e1, e2, e3, e4, e5⟩ := h
    refine ⟨p, q, n, e1, by omega, e3, ev_Seg_cg e4 (fun i _ hi => hc i (by omega)), ?_⟩
    have := congrArg Prod.fst (hc q e2)
    unfold ev_cc at this
    rw [if_pos (by omega), if_pos e2] at this
    exact this.trans e5
theorem CLG_up {nw : Nat} {H H' stp stp' : Nat → Int32} {len len' : Nat} {cl : List GC} (hl : len ≤ len') (hc : ∀ i, i < len → ev_cc stp' len' i = ev_cc stp len i) (hH : ∀ i, i < 5 * cl.length → H' i = H i) (h : CLG nw H stp len cl) : CLG nw H' stp' len' cl := by
  intro i c hi
  have hlt : i < cl.length := (List.getElem?_eq_some_iff.mp hi).1
  obtain ⟨h1, h2, h3, h4, h5⟩ := h i c hi
  rw [hH _ (by omega), hH _ (by omega), hH _ (by omega), hH _ (by omega), hH _ (by omega)]
  exact ⟨h1, CO_up hl hc h2, CO_up hl hc h3, h4, CO_up hl hc h5⟩
theorem CLG_snoc {nw : Nat} {H stp : Nat → Int32} {len : Nat} {cl : List GC} {c : GC} (h : CLG nw H stp len cl) (h0 : H (5 * cl.length) = nI c.1) (h1 : ev_CO nw stp len (H (5 * cl.length + 1)) c.2.1) (h2 : ev_CO nw stp len (H (5 * cl.length + 2)) c.2.2.1) (h3 : H (5 * cl.length + 3) = nI c.2.2.2.1) (h4 : ev_CO nw stp len (H (5 * cl.length + 4)) c.2.2.2.2) : CLG nw H stp len (cl ++ [c]) := by
  intro i x hi
  by_cases z : i < cl.length
  · rw [List.getElem?_append_left z] at hi
    exact h i x hi
  · rw [List.getElem?_append_right (by omega)] at hi
    have hi0 : i - cl.length = 0 := by
      by_cases y : i - cl.length = 0
      · exact y
      · rw [List.getElem?_eq_none (by rw [List.length_singleton]; omega)] at hi
        cases hi
    have e : i = cl.length := by omega
    rw [hi0] at hi
    have : c = x := Option.some.inj hi
    subst this
    subst e
    exact ⟨h0, h1, h2, h3, h4⟩
theorem CLG_init {nw : Nat} {H stp : Nat → Int32} {len : Nat} {cl : List GC} {c : GC} (h : CLG nw H stp len (cl ++ [c])) : CLG nw H stp len cl := by
  intro i x hi
  have z : i < cl.length := (List.getElem?_eq_some_iff.mp hi).1
  exact h i x (by rw [List.getElem?_append_left z]; exact hi)
theorem CLG_last {nw : Nat} {H stp : Nat → Int32} {len : Nat} {cl : List GC} {c : GC} (h : CLG nw H stp len (cl ++ [c])) : H (5 * cl.length) = nI c.1 ∧ ev_CO nw stp len (H (5 * cl.length + 1)) c.2.1 ∧ ev_CO nw stp len (H (5 * cl.length + 2)) c.2.2.1 ∧ H (5 * cl.length + 3) = nI c.2.2.2.1 ∧ ev_CO nw stp len (H (5 * cl.length + 4)) c.2.2.2.2 := h cl.length c (by rw [List.getElem?_append_right (Nat.le_refl _), Nat.sub_self]; rfl)
/-- a value in a slot of the last clause -/
def upS (a : Nat) (c : GC) (v : ev_S) : GC := if a = 1 then (c.1, some v, c.2.2.1, c.2.2.2.1, c.2.2.2.2) else if a = 2 then (c.1, c.2.1, some v, c.2.2.2.1, c.2.2.2.2) else (c.1, c.2.1, c.2.2.1, c.2.2.2.1, some v)
section LTextC
variable {F n f len lv : Nat} {q : Nat → Nat} {ord : Bool} {M : sp_Mem} {cl : List GC} {c : GC}
theorem cfr_of {M M' : sp_Mem} (h : sp_fr [98, 99, 100, 101] [(94, 2), (94, 3), (94, 4), (96, 4), (96, 5), (96, 6), (96, 8), (97, 3)] M M') : cfr M M' := h.mono (by decide) (by decide)
/-- the class reads an expression into a slot -/
theorem val_g {base a : Nat} (hF : 1000 ≤ F) (hB : base = 20 ∨ base = 21) (ha : a = 1 ∨ a = 2 ∨ a = 4) (hab : nI base = (if nI a = 4 then 21 else 20)) (h : CR M q n f ord len lv (cl.length + 1)) (hG : CLG (nwO ord) (sp_I M 98) (sp_I M 99) len (cl ++ [c])) (hlen : len + 1 ≤ f) :
  (∀ g, xr q n ord base f lv = .inl g → ∃ b M', fX2_readValue F M (nI a) = some (b, M') ∧ cfr M M' ∧ TXC M' q n ∧ TKC M' q n g ∧ (b = 0 ∨ (b = 1 ∧ sg q n g 41 = true ∧ base = 21))) ∧
  (∀ g lv' v, xr q n ord base f lv = .inr (g, lv', v) → ∃ M' len', fX2_readValue F M (nI a) = some (1, M') ∧ cfr M M' ∧ CR M' q n g ord len' lv' (cl.length + 1) ∧ CLG (nwO ord) (sp_I M' 98) (sp_I M' 99) len' (cl ++ [upS a c v]) ∧ (base = 21 → ev_T v)) := by
  obtain ⟨b, M', e1, e2, e3, o1, o2, o3, o4, o5, o6, o7⟩ := val_c hF hB (show a < 5 by omega) hab h (by omega) hlen
  rw [show 5 * (cl.length + 1 - 1) + a = 5 * cl.length + a by omega] at e3
  unfold xr
  by_cases z : (xo q n ord base f lv).1 = 1
  · rw [if_pos z]
    refine ⟨fun g e => (by cases e), fun g lv' v e => ?_⟩
    cases e
    obtain ⟨hb, t, ht, hlv, hD, hT⟩ := o5 z
    obtain ⟨d1, d2, d3, d4, d5, len', d6, d7, d8, d9, d10⟩ := hD
    subst hb
    have hll : len ≤ len' := by
      have : len < len' := d8.1
      omega
    have hup : ∀ i, i < len → ev_cc (sp_I M' 99) (len' + 1) i = ev_cc (sp_I M 99) len i := d10
    have hH : ∀ i, i ≠ 5 * cl.length + a → sp_I M' 98 i = sp_I M 98 i := fun i hi => by rw [e3, I_nf _ _ _ hi]
    have hHa : sp_I M' 98 (5 * cl.length + a) = nI len := by rw [e3]; exact I_eq _ _ _ _
    have hco : ev_CO (nwO ord) (sp_I M' 99) (len' + 1) (nI len) (some (xo q n ord base f lv).2.2.1) := ⟨len, len', t, rfl, by omega, by omega, d8, by rw [d9]; decide⟩
    obtain ⟨l0, l1, l2, l3, l4⟩ := CLG_last hG
    have up : ∀ {x o}, ev_CO (nwO ord) (sp_I M 99) len x o → ev_CO (nwO ord) (sp_I M' 99) (len' + 1) x o := fun w => CO_up (by omega) hup w
    refine ⟨M', len' + 1, e1, cfr_of e2, ⟨d1, d2, d3, (e2.2.2.2.2.1 98).trans h.2.2.2.1, d7, (e2.1 97 2 (by decide) (by decide)).trans h.2.2.2.2.2.1, d4, d5, hlv, h.2.2.2.2.2.2.2.2.2.1, d6⟩, ?_, hT⟩
    have C0 : CLG (nwO ord) (sp_I M' 98) (sp_I M' 99) (len' + 1) cl := CLG_up (by omega) hup (fun i hi => hH i (by omega)) (CLG_init hG)
    rcases ha with rfl | rfl | rfl
    · exact CLG_snoc C0 (by rw [hH _ (by omega)]; exact l0) (by rw [hHa]; exact hco) (by rw [hH _ (by omega)]; exact up l2) (by rw [hH _ (by omega)]; exact l3) (by rw [hH _ (by omega)]; exact up l4)
    · exact CLG_snoc C0 (by rw [hH _ (by omega)]; exact l0) (by rw [hH _ (by omega)]; exact up l1) (by rw [hHa]; exact hco) (by rw [hH _ (by omega)]; exact l3) (by rw [hH _ (by omega)]; exact up l4)
    · exact CLG_snoc C0 (by rw [hH _ (by omega)]; exact l0) (by rw [hH _ (by omega)]; exact up l1) (by rw [hH _ (by omega)]; exact up l2) (by rw [hH _ (by omega)]; exact l3) (by rw [hHa]; exact hco)
  · rw [if_neg z]
    refine ⟨fun g e => ?_, fun g lv' v e => (by cases e)⟩
    cases e
    refine ⟨b, M', e1, cfr_of e2, o1, o2, ?_⟩
    rcases o3 with rfl | rfl
    · exact Or.inl rfl
    · refine Or.inr ⟨rfl, o6 ?_⟩
      have : (xo q n ord base f lv).1 ≠ 0 := fun w => absurd (o4 w) (by decide)
      omega
/-- on to the next token -/
theorem CR_next {nc : Nat} (hF : 1000 ≤ F) (h : CR M q n f ord len lv nc) : ∃ M', fX8_toNext F M = some M' ∧ sp_fr [] [(94, 3), (94, 2), (94, 4)] M M' ∧ CR M' q n (nxt q n f) ord len lv nc := by
  obtain ⟨hT, hK, h99, h98, h3, h2, h6, h7, hlv, hnc, hl⟩ := h
  have hg := tkT_b (q := q) hK.1
  have hg2 := tkF_b (q := q) hg.2
  obtain ⟨M', e1, e2, e3, e4⟩ := next_c hF hT hg.2 hK.2.2.1
  exact ⟨M', e1, e2, e3, e4, (e2.2.2.2.2.1 99).trans h99, (e2.2.2.2.2.1 98).trans h98, (e2.1 97 3 (by decide) (by decide)).trans h3, (e2.1 97 2 (by decide) (by decide)).trans h2, (e2.1 96 6 (by decide) (by decide)).trans h6, (e2.1 96 7 (by decide) (by decide)).trans h7, hlv, hnc, by unfold nxt; omega⟩
/-- a word of one kind, taken or not -/
theorem takes_c {nc o : Nat} {cs : List Int64} (hF : 1000 ≤ F) (h : CR M q n f ord len lv nc) (hp : fX8_placeIn F M o = some (oN (wdx q n f cs))) (h1 : wdx q n f cs = some 0 ∨ wdx q n f cs = none) : (wdx q n f cs = some 0 → ∃ M', fX2_takes F M o = some (1, M') ∧ sp_fr [] [(94, 3), (94, 2), (94, 4)] M M' ∧ CR M' q n (nxt q n f) ord len lv nc ∧ f + 1 ≤ nxt q n f) ∧ (¬ wdx q n f cs = some 0 → fX2_takes F M o = some (0, M)) := by
  unfold fX2_takes fX2_takes_j17
  rw [hp, Option.bind_some]
  refine ⟨fun e => ?_, fun e => ?_⟩
  · obtain ⟨M', e1, e2, e3⟩ := CR_next hF h
    refine ⟨M', ?_, e2, e3, (nxt_gt h.2.1.1 (by rw [wdx_S e]; decide)).1⟩
    rw [e, if_neg (show ¬ oN (some 0) = -1 by decide), if_neg (by decide), e1, Option.bind_some]
    rfl
  · rw [h1.resolve_left e]
    rfl
theorem wdx1 {q : Nat → Nat} {n f : Nat} (x : Int64) : wdx q n f [x] = some 0 ∨ wdx q n f [x] = none := by
  rw [wdx_e, fnd, fnd]
  split
  · exact Or.inl rfl
  · exact Or.inr rfl
theorem addC {nc j : Nat} (h : CR M q n f ord len lv nc) (hG : CLG (nwO ord) (sp_I M 98) (sp_I M 99) len cl) (hc : cl.length = nc) (hnc : nc < 12) : ∃ M', fX9_addClause M 97 (nI j) = some M' ∧ sp_fr [98] [(97, 2)] M M' ∧ CR M' q n f ord len lv (nc + 1) ∧ CLG (nwO ord) (sp_I M' 98) (sp_I M' 99) len (cl ++ [(j, none, none, 1, none)]) := by
  obtain ⟨hT, hK, h99, h98, h3, h2, h6, h7, hlv, hnc0, hl⟩ := h
  let M1 := sp_setI M 98 (5 * nc) (nI j)
  let M2 := sp_setI M1 98 (5 * nc + 1) (-1)
  let M3 := sp_setI M2 98 (5 * nc + 2) (-1)
  let M4 := sp_setI M3 98 (5 * nc + 3) 1
  let M5 := sp_setI M4 98 (5 * nc + 4) (-1)
  let M6 := sp_setI M5 97 2 (nI (nc + 1))
  have f6 : sp_fr [98] [(97, 2)] M M6 := (((((sp_fr_I (Or.inl (by decide)) rfl).tr (sp_fr_I (Or.inl (by decide)) rfl)).tr (sp_fr_I (Or.inl (by decide)) rfl)).tr (sp_fr_I (Or.inl (by decide)) rfl)).tr (sp_fr_I (Or.inl (by decide)) rfl)).tr (sp_fr_I (Or.inr (by decide)) rfl)
  have e98 : sp_I M6 98 = sp_I M5 98 := I_ne _ _ _ (by decide)
  have e99 : sp_I M6 99 = sp_I M 99 := fr_A (SA := [99]) (SB := []) f6 (by decide) 99 (by decide)
  have lo : ∀ i, i < 5 * nc → sp_I M6 98 i = sp_I M 98 i := fun i hi => by rw [e98, I_nf _ _ _ (by omega), I_nf _ _ _ (by omega), I_nf _ _ _ (by omega), I_nf _ _ _ (by omega), I_nf _ _ _ (by omega)]
  have g0 : sp_I M6 98 (5 * nc) = nI j := by rw [e98, I_nf _ _ _ (by omega), I_nf _ _ _ (by omega), I_nf _ _ _ (by omega), I_nf _ _ _ (by omega), I_eq]
  have g1 : sp_I M6 98 (5 * nc + 1) = -1 := by rw [e98, I_nf _ _ _ (by omega), I_nf _ _ _ (by omega), I_nf _ _ _ (by omega), I_eq]
  have g2 : sp_I M6 98 (5 * nc + 2) = -1 := by rw [e98, I_nf _ _ _ (by omega), I_nf _ _ _ (by omega), I_eq]
  have g3 : sp_I M6 98 (5 * nc + 3) = 1 := by rw [e98, I_nf _ _ _ (by omega), I_eq]
  have g4 : sp_I M6 98 (5 * nc + 4) = -1 := by rw [e98, I_eq]
  refine ⟨M6, ?_, f6, ⟨TXC_fr f6 hT (by decide), ⟨hK.1, (f6.1 94 3 (by decide) (by decide)).trans hK.2.1, (f6.1 94 4 (by decide) (by decide)).trans hK.2.2.1, (f6.1 94 2 (by decide) (by decide)).trans hK.2.2.2⟩, (f6.2.2.2.2.1 99).trans h99, (f6.2.2.2.2.1 98).trans h98, (f6.1 97 3 (by decide) (by decide)).trans h3, I_eq _ _ _ _, (f6.1 96 6 (by decide) (by decide)).trans h6, (f6.1 96 7 (by decide) (by decide)).trans h7, hlv, by omega, hl⟩, ?_⟩
  · unfold fX9_addClause
    simp only [sp_do]
    have u : sp_I M 97 2 * 5 = nI (5 * nc) := by rw [h2, show nI nc * 5 = nI (nc * 5) from nI_mul _ 5, Nat.mul_comm]
    have ix : ∀ d, d < 5 → sp_ix 60 (nI (5 * nc + d)) = some (5 * nc + d) := fun d hd => sp_ix_nI (by omega) (by omega)
    have N : ∀ M', sp_fr [98] [(97, 2)] M M' → sp_N M' 98 = 60 := fun M' hf => (hf.2.2.2.2.1 98).trans h98
    have p0 : nI (5 * nc) + 0 = nI (5 * nc) := Int32.add_zero _
    have p1 : nI (5 * nc) + 1 = nI (5 * nc + 1) := nI_add _ 1
    have p2 : nI (5 * nc) + 2 = nI (5 * nc + 2) := nI_add _ 2
    have p3 : nI (5 * nc) + 3 = nI (5 * nc + 3) := nI_add _ 3
    have p4 : nI (5 * nc) + 4 = nI (5 * nc + 4) := nI_add _ 4
    have p5 : nI (5 * nc) + 5 = nI (5 * nc + 5) := nI_add _ 5
    have n98 : ∀ (X : sp_Mem) (i : Nat) (x : Int32), sp_N (sp_setI X 98 i x) 98 = sp_N X 98 := fun X i x => rfl
    show (if Int32.ofNat (sp_N M 98) < sp_I M 97 2 * 5 + 5 then _ else _) = _
    rw [u, p5, h98, if_neg (show ¬ Int32.ofNat 60 < nI (5 * nc + 5) by rw [show Int32.ofNat 60 = nI 60 from rfl, nIlt (by omega) (by omega)]; omega), p0, show sp_ix 60 (nI (5 * nc)) = some (5 * nc) from ix 0 (by omega)]
    rw [Option.bind_some]
    show (sp_ix (sp_N M1 98) (nI (5 * nc) + 1)).bind _ = _
    rw [show sp_N M1 98 = 60 from h98, p1, ix 1 (by omega), Option.bind_some]
    show (sp_ix (sp_N M2 98) (nI (5 * nc) + 2)).bind _ = _
    rw [show sp_N M2 98 = 60 from h98, p2, ix 2 (by omega), Option.bind_some]
    show (sp_ix (sp_N M3 98) (nI (5 * nc) + 3)).bind _ = _
    rw [show sp_N M3 98 = 60 from h98, p3, ix 3 (by omega), Option.bind_some]
    show (sp_ix (sp_N M4 98) (nI (5 * nc) + 4)).bind _ = _
    rw [show sp_N M4 98 = 60 from h98, p4, ix 4 (by omega), Option.bind_some]
    show some (sp_setI M5 97 2 (sp_I M5 97 2 + 1)) = some M6
    rw [show sp_I M5 97 2 = nI nc from (by rw [I_ne _ _ _ (by decide), I_ne _ _ _ (by decide), I_ne _ _ _ (by decide), I_ne _ _ _ (by decide), I_ne _ _ _ (by decide)]; exact h2), nI_1]
  · rw [e99]
    have C0 : CLG (nwO ord) (sp_I M6 98) (sp_I M 99) len cl := CLG_up (Nat.le_refl _) (fun _ _ => rfl) (fun i hi => lo i (by omega)) hG
    refine CLG_snoc C0 ?_ ?_ ?_ ?_ ?_
    · rw [hc]; exact g0
    · rw [hc]; exact g1
    · rw [hc]; exact g2
    · rw [hc]; exact g3
    · rw [hc]; exact g4
end LTextC
