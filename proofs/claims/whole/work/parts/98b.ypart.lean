/-! ===== expressions: the reference reads a part ===== -/
theorem n64s : ∀ b, b < 1001 → Int64.toInt32 (Int64.ofNat b) = nI b := by decide +kernel
theorem i64n {b : Nat} (h : b < 2 ^ 62) : (Int64.ofNat b).toInt = b := by
  rw [Int64.toInt_ofNat_of_lt (by omega)]
section YPart
variable {p0 : PP} {F n f len m lv br : Nat} {q : Nat → Nat} {ord : Bool} {M : sp_Mem} {Bi : List (Nat × ev_S × Nat)}
def csP (ord : Bool) : List Int64 := if ord = true then cs_7 else cs_8
theorem rp_pre (hF : 1000 ≤ F) (h : YC M q n f ord (nwO ord) p0 Bi len len m lv br) (hs : sg q n f 91 = false) : fX11_readPart F M = fX11_readPart_j35 F (oD 1 (-1) (wdx q n f (csP ord))) M := by
  have s91 : fX11_isSign M 91 = bI false := by rw [← hs]; exact sgb_r h.1 h.2.1 (b := 91) (by omega)
  have h20 := h.2.2.2.2.2.1
  unfold fX11_readPart
  rw [s91, if_pos (show bI false = 0 from rfl), h20]
  cases ord with
  | false => rw [if_pos (show bI false = 0 from rfl), part_r hF h.1 h.2.1 h.2.2.2.2.2.2.2.1.1, Option.bind_some]; rfl
  | true => rw [if_neg (show ¬ bI true = 0 by decide), opart_r hF h.1 h.2.1 h.2.2.2.2.2.2.2.1.1, Option.bind_some]; rfl
/-- no part -/
theorem rp_no (h : YC M q n f ord (nwO ord) p0 Bi len len m lv br) (hlv : lv ≤ 50) : ∃ M', fX11_readPart_j99 F (-1) 0 0 0 M = some (3, M') ∧ yfr M M' ∧ FS M' q n f := by
  obtain ⟨M', e1, e2, e3, e4⟩ := lf0_r (F := F) h hlv (a := 0) (Or.inl rfl) 0 0
  refine ⟨M', ?_, e2, e3⟩
  unfold fX11_readPart_j99
  rw [e1, Option.bind_some, if_pos (show (-1 : Int32) < 5 by decide), ite_self]
/-- too many -/
theorem rp_full (h : YC M q n f ord (nwO ord) p0 Bi len len m lv br) (hlv : lv ≤ 50) (hl : ¬ lv < 50) (a1 s0 s1 s2 : Int32) : ∃ M', fX11_readPart_j99 F a1 s0 s1 s2 M = some (3, M') ∧ yfr M M' ∧ FS M' q n f := by
  obtain ⟨M', e1, e2, e3, e4⟩ := lf0_r (F := F) h hlv (a := s2) (Or.inr hl) s1 s0
  refine ⟨M', ?_, e2, e3⟩
  unfold fX11_readPart_j99
  rw [e1, Option.bind_some, if_neg (show ¬ sp_I M' 103 19 = 0 by rw [e3.2.1]; decide), ite_self, ite_self]
theorem nb_r (h : YC M q n f ord (nwO ord) p0 Bi len len m lv br) (hS : tkS q n f = 2) : (nbT q n f ≤ 1000 → ¬ (1000 : Int64) < sp_L M 103 17 ∧ Int64.toInt32 (sp_L M 103 17) = nI (nbT q n f)) ∧ (¬ nbT q n f ≤ 1000 → (1000 : Int64) < sp_L M 103 17) := by
  obtain ⟨b, e1, e2⟩ := num_r h.1 h.2.1 hS
  have e2 : (b = nbT q n f ∧ b ≤ 10000009) ∨ (1000000 < b ∧ b ≤ 10000009 ∧ 1000000 < nbT q n f) := e2
  have hb : (Int64.ofNat b).toInt = b := i64n (by omega)
  have h1 : (1000 : Int64).toInt = 1000 := rfl
  rw [e1, Int64.lt_iff_toInt_lt, hb, h1]
  refine ⟨fun hle => ⟨by omega, ?_⟩, fun hgt => by omega⟩
  have : b = nbT q n f := by omega
  rw [this]
  exact n64s _ (by omega)
/-- a number -/
theorem rp_n (hF : 1000 ≤ F) (h : YC M q n f ord (nwO ord) p0 Bi len len m lv br) (hlv : lv < 50) (hS : tkS q n f = 2) : (nbT q n f ≤ 1000 → ∃ M', fX11_readPart_j35 F (-1) M = some (3, M') ∧ yfr M M' ∧ YC M' q n (nxt q n f) ord (nwO ord) p0 Bi len (len + 1) m (lv + 1) br ∧ ev_Seg (nwO ord) (rcM M' (bI ord) (len + 1)) len (len + 1) (fun _ => some (Int32.toInt64 (nI (nbT q n f)))) 1) ∧ (¬ nbT q n f ≤ 1000 → ∃ M', fX11_readPart_j35 F (-1) M = some (3, M') ∧ yfr M M' ∧ FS M' q n f) := by
  have h16 : sp_I M 103 16 = 2 := by rw [h.2.1.2.2.2.1, hS]; rfl
  have N := nb_r h hS
  refine ⟨fun hle => ?_, fun hgt => ?_⟩
  · obtain ⟨n1, n2⟩ := N.1 hle
    obtain ⟨M', e1, e2, e3, e4, e5⟩ := lf1_r hF h (by omega) hlv (a := 1) (by decide) 0 (nI (nbT q n f))
    refine ⟨M', ?_, e2, e3, ev_Seg_num ?_ (chk_n _ (by omega))⟩
    · unfold fX11_readPart_j35 fX11_readPart_j60 fX11_readPart_j76 fX11_readPart_j86 fX11_readPart_j99
      rw [if_pos h16, if_neg n1, if_pos rfl, if_neg (by decide), if_pos rfl, if_neg (by decide), n2, e1, Option.bind_some, if_pos (show (-1 : Int32) < 5 by decide), ite_self]
    · unfold rcM ev_rcf
      rw [if_pos (by omega), e4, e5]
      rfl
  · obtain ⟨M', e1, e2, e3⟩ := rp_no (F := F) h (by omega)
    refine ⟨M', ?_, e2, e3⟩
    unfold fX11_readPart_j35 fX11_readPart_j60 fX11_readPart_j76 fX11_readPart_j86
    rw [if_pos h16, if_pos (N.2 hgt), if_pos rfl, if_pos rfl, if_pos rfl, if_pos rfl]
    exact e1
/-- not a number: the roads to a word -/
theorem rp_w (h : YC M q n f ord (nwO ord) p0 Bi len len m lv br) (hS : tkS q n f ≠ 2) : fX11_readPart_j35 F (-1) M = fX11_readPart_j99 F (-1) 0 0 0 M ∧ ∀ j, j < 20 → fX11_readPart_j35 F (nI (j + 1)) M = fX11_readPart_j99 F (nI (j + 1)) 0 (nI (j + 1)) 1 M := by
  have h4 := tkS4 (f := f) (fun i hi => (h.1.2.2 i hi).2)
  have h16 : ¬ sp_I M 103 16 = 2 := by rw [h.2.1.2.2.2.1]; exact fun w => hS ((nIe (b := 2) (by omega) (by omega)).1 w)
  refine ⟨?_, fun j hj => ?_⟩
  · unfold fX11_readPart_j35 fX11_readPart_j59 fX11_readPart_j60 fX11_readPart_j76 fX11_readPart_j86
    rw [if_neg h16, if_pos rfl, if_pos rfl, if_pos rfl, if_pos rfl]
  · have hm : ¬ nI (j + 1) = -1 := nI_m1 (by omega)
    unfold fX11_readPart_j35 fX11_readPart_j59 fX11_readPart_j60 fX11_readPart_j76 fX11_readPart_j86
    rw [if_neg h16, if_neg hm, if_neg hm, if_pos rfl]
theorem rcw0 : ∀ j, j < 10 → ev_rc 0 (nI (j + 1)) 0 = (2, nI j) := by decide +kernel
theorem rcw1 : ∀ j, j < 4 → ev_rc 1 (nI (j + 1)) 0 = (2, nI j) := by decide +kernel
theorem rcw2 : ∀ j, j < 6 → ¬ j < 4 → ∀ b, b < 6 → ev_rc 1 (nI (j + 1)) (nI b) = (2, nI (4 + (j - 4) * 6 + b)) := by decide +kernel
/-- a word of a law -/
theorem rp_w0 {j : Nat} (hF : 1000 ≤ F) (h : YC M q n f false 10 p0 Bi len len m lv br) (hlv : lv < 50) (hS : tkS q n f ≠ 0) (hj : j < 10) : ∃ M', fX11_readPart_j99 F (nI (j + 1)) 0 (nI (j + 1)) 1 M = some (3, M') ∧ yfr M M' ∧ YC M' q n (nxt q n f) false 10 p0 Bi len (len + 1) m (lv + 1) br ∧ ev_Seg 10 (rcM M' (bI false) (len + 1)) len (len + 1) (fun W => some (W j)) 1 := by
  obtain ⟨M', e1, e2, e3, e4, e5⟩ := lf1_r hF h hS hlv (a := 1) (by decide) (nI (j + 1)) 0
  refine ⟨M', ?_, e2, e3, ev_Seg_word ?_ hj (by omega)⟩
  · unfold fX11_readPart_j99
    rw [e1, Option.bind_some, if_pos (show sp_I M' 103 20 = 0 from e3.2.2.2.2.2.1)]
  · unfold rcM ev_rcf
    rw [if_pos (by omega), e4, e5]
    exact rcw0 j hj
/-- a word of orders -/
theorem rp_w1 {j : Nat} (hF : 1000 ≤ F) (h : YC M q n f true 16 p0 Bi len len m lv br) (hlv : lv < 50) (hS : tkS q n f ≠ 0) (hj : j < 4) : ∃ M', fX11_readPart_j99 F (nI (j + 1)) 0 (nI (j + 1)) 1 M = some (3, M') ∧ yfr M M' ∧ YC M' q n (nxt q n f) true 16 p0 Bi len (len + 1) m (lv + 1) br ∧ ev_Seg 16 (rcM M' (bI true) (len + 1)) len (len + 1) (fun W => some (W j)) 1 := by
  obtain ⟨M', e1, e2, e3, e4, e5⟩ := lf1_r hF h hS hlv (a := 1) (by decide) (nI (j + 1)) 0
  refine ⟨M', ?_, e2, e3, ev_Seg_word ?_ (by omega) (by omega)⟩
  · unfold fX11_readPart_j99
    rw [e1, Option.bind_some, if_neg (show ¬ sp_I M' 103 20 = 0 by rw [e3.2.2.2.2.2.1]; decide), if_pos (show nI (j + 1) < 5 by rw [show (5 : Int32) = nI 5 from rfl, nIlt (by omega) (by omega)]; omega)]
  · unfold rcM ev_rcf
    rw [if_pos (by omega), e4, e5]
    exact rcw1 j hj
/-- heat or cell: a number follows -/
theorem rp_w2 {j : Nat} (hF : 1000 ≤ F) (h : YC M q n f true 16 p0 Bi len len m lv br) (hlv : lv < 50) (hS : tkS q n f ≠ 0) (h4 : ¬ j < 4) (hj : j < 6) :
  ((tkS q n (nxt q n f) = 2 ∧ nbT q n (nxt q n f) ≤ 5) → ∃ M', fX11_readPart_j99 F (nI (j + 1)) 0 (nI (j + 1)) 1 M = some (3, M') ∧ yfr M M' ∧ YC M' q n (nxt q n (nxt q n f)) true 16 p0 Bi len (len + 1) m (lv + 1) br ∧ ev_Seg 16 (rcM M' (bI true) (len + 1)) len (len + 1) (fun W => some (W (4 + (j - 4) * 6 + nbT q n (nxt q n f)))) 1) ∧
  (¬ (tkS q n (nxt q n f) = 2 ∧ nbT q n (nxt q n f) ≤ 5) → ∃ M', fX11_readPart_j99 F (nI (j + 1)) 0 (nI (j + 1)) 1 M = some (3, M') ∧ yfr M M' ∧ FS M' q n (nxt q n f)) := by
  obtain ⟨M1, e1, e2, e3, e4, e5⟩ := lf1_r hF h hS hlv (a := 1) (by decide) (nI (j + 1)) 0
  have hn := e3.1.1
  have hfn := e3.2.1.1
  have hbu := e3.2.2.2.2.2.2.2.2
  have h23 : sp_I M1 103 23 - 1 = nI len := by rw [e3.2.2.1.1]; exact nI_sub (a := len + 1) (b := 1) (by omega) (by omega)
  have h19 := e3.2.2.2.2.2.2.1
  have pre : fX11_readPart_j99 F (nI (j + 1)) 0 (nI (j + 1)) 1 M = ((fX11_number F M1 0 5).bind fun x14 => some (3, sp_setI x14.2 115 len x14.1)) := by
    unfold fX11_readPart_j99
    rw [e1, Option.bind_some, if_neg (show ¬ sp_I M1 103 20 = 0 by rw [e3.2.2.2.2.2.1]; decide), if_neg (show ¬ nI (j + 1) < 5 by rw [show (5 : Int32) = nI 5 from rfl, nIlt (by omega) (by omega)]; omega), if_pos h19]
    simp only [sp_do]
    rw [h23]
    congr 1
    funext x
    rw [sp_ix_nI (show len < 400 by omega) (by omega), Option.bind_some]
  have h4' := tkS4 (f := nxt q n f) (fun i hi => (e3.1.2.2 i hi).2)
  have h16 : sp_I M1 103 16 = nI (tkS q n (nxt q n f)) := e3.2.1.2.2.2.1
  have a0 : (0 : Int64).toInt = 0 := rfl
  have a5 : (5 : Int64).toInt = 5 := rfl
  refine ⟨fun hn2 => ?_, fun hn2 => ?_⟩
  · obtain ⟨b, r1, r2⟩ := num_r e3.1 e3.2.1 hn2.1
    have r2 : (b = nbT q n (nxt q n f) ∧ b ≤ 10000009) ∨ (1000000 < b ∧ b ≤ 10000009 ∧ 1000000 < nbT q n (nxt q n f)) := r2
    have hb5 := hn2.2
    have hb : b = nbT q n (nxt q n f) := by omega
    have hbi : (Int64.ofNat b).toInt = b := i64n (by omega)
    obtain ⟨M2, g1, g2, g3⟩ := YC_next hF e3
    have f3 : sp_fr [115] [] M2 (sp_setI M2 115 len (nI (nbT q n (nxt q n f)))) := sp_fr_I (Or.inl (by decide)) rfl
    obtain ⟨b1, b2, b3, b4, b5, b6, b7, b8, b9⟩ := g3
    have o115 : ∀ i, i ≠ len → sp_I (sp_setI M2 115 len (nI (nbT q n (nxt q n f)))) 115 i = sp_I M2 115 i := fun i hi => I_nf _ _ _ hi
    have o114 : sp_I (sp_setI M2 115 len (nI (nbT q n (nxt q n f)))) 114 = sp_I M2 114 := I_ne _ _ _ (by decide)
    refine ⟨_, ?_, (e2.tr (g2.mono (by decide) (by decide))).tr (f3.mono (by decide) (by decide)), ⟨TXR_fr f3 b1 (by decide), TKR_fr f3 b2 (by decide), ?_, (f3.1 103 26 (by decide) (by decide)).trans b4, (f3.1 103 30 (by decide) (by decide)).trans b5, (f3.1 103 20 (by decide) (by decide)).trans b6, (f3.1 103 19 (by decide) (by decide)).trans b7, i8_fr f3 (by decide) b8, b9⟩, ev_Seg_word ?_ (by omega) (by omega)⟩
    · rw [pre]
      unfold fX11_number
      simp only [sp_do]
      rw [h16, hn2.1, if_pos (show nI 2 = 2 from rfl), r1, if_neg (show ¬ fX11_in (Int64.ofNat b) 0 5 = 0 by rw [m_in, hbi, a0, a5]; omega), must_1 h19 (by decide) g1, Option.bind_some, Option.bind_some]
      dsimp only
      rw [n64s b (by omega), hb]
    · obtain ⟨c2, c3, c4, c5, c6, c7⟩ := b3
      refine ⟨(f3.1 103 23 (by decide) (by decide)).trans c2, c3, (f3.1 103 29 (by decide) (by decide)).trans c4, c5, SKR_cg (I_ne _ _ _ (by decide)) (I_ne _ _ _ (by decide)) Bi c6, Lay_cg Bi len m (fun i _ hi => ?_) c7⟩
      unfold rcM ev_rcf
      rw [o114, o115 i (by omega)]
    · unfold rcM ev_rcf
      rw [if_pos (by omega), o114, fr_A (SA := [114]) (SB := []) g2 (by decide) 114 (by decide), e4, I_eq]
      exact rcw2 j hj h4 _ (by omega)
  · obtain ⟨M2, g1, g2, g3⟩ := must_f (F := F) e3 (by omega)
    have f3 : ∀ x, sp_fr [115] [] M2 (sp_setI M2 115 len x) := fun x => sp_fr_I (Or.inl (by decide)) rfl
    have fin : ∀ x, fX11_number F M1 0 5 = some (x, M2) → ∃ M', fX11_readPart_j99 F (nI (j + 1)) 0 (nI (j + 1)) 1 M = some (3, M') ∧ yfr M M' ∧ FS M' q n (nxt q n f) := by
      intro x hx
      obtain ⟨c1, c2, c3, c4, c5⟩ := g3
      refine ⟨sp_setI M2 115 len x, by rw [pre, hx, Option.bind_some], (e2.tr g2).tr ((f3 x).mono (by decide) (by decide)), TXR_fr (f3 x) c1 (by decide), ((f3 x).1 103 19 (by decide) (by decide)).trans c2, ((f3 x).1 103 18 (by decide) (by decide)).trans c3, i_C_fr (f3 x) (by decide) c4, SFE_fr (f3 x) (by decide) c5⟩
    refine fin (Int64.toInt32 (sp_L M1 103 17)) ?_
    unfold fX11_number
    simp only [sp_do]
    rw [h16]
    by_cases z : tkS q n (nxt q n f) = 2
    · obtain ⟨b, r1, r2⟩ := num_r e3.1 e3.2.1 z
      have r2 : (b = nbT q n (nxt q n f) ∧ b ≤ 10000009) ∨ (1000000 < b ∧ b ≤ 10000009 ∧ 1000000 < nbT q n (nxt q n f)) := r2
      have hbi : (Int64.ofNat b).toInt = b := i64n (by omega)
      have hgt : ¬ nbT q n (nxt q n f) ≤ 5 := fun w => hn2 ⟨z, w⟩
      rw [z, if_pos (show nI 2 = 2 from rfl), r1, if_pos (show fX11_in (Int64.ofNat b) 0 5 = 0 by rw [m_in, hbi, a0, a5]; omega), g1, Option.bind_some]
    · rw [if_neg (show ¬ nI (tkS q n (nxt q n f)) = 2 from fun w => z ((nIe (b := 2) (by omega) (by omega)).1 w)), g1, Option.bind_some]
/-- a leaf, as the machine has it -/
theorem lf_r (hF : 1000 ≤ F) (h : YC M q n f ord (nwO ord) p0 Bi len len m lv br) (hlv : lv < 50) (hs : sg q n f 91 = false) : (∀ f', lfE q n ord f = .inl f' → ∃ M', fX11_readPart F M = some (3, M') ∧ yfr M M' ∧ FS M' q n f') ∧ (∀ f' v, lfE q n ord f = .inr (f', v) → ∃ M', fX11_readPart F M = some (3, M') ∧ yfr M M' ∧ YC M' q n f' ord (nwO ord) p0 Bi len (len + 1) m (lv + 1) br ∧ ev_Seg (nwO ord) (rcM M' (bI ord) (len + 1)) len (len + 1) v 1) := by
  rw [rp_pre hF h hs]
  unfold lfE
  by_cases hS : tkS q n f = 2
  · have L := rp_n hF h hlv hS
    rw [if_pos hS, show wdx q n f (csP ord) = none from wdx_sg _ (by omega)]
    by_cases hN : nbT q n f ≤ 1000
    · rw [if_pos hN]
      refine ⟨fun f' e => (by cases e), fun f' v e => ?_⟩
      cases e
      exact L.1 hN
    · rw [if_neg hN]
      refine ⟨fun f' e => ?_, fun f' v e => (by cases e)⟩
      cases e
      exact L.2 hN
  · have L := rp_w (F := F) h hS
    rw [if_neg hS]
    cases ord with
    | false =>
      rw [if_pos rfl, show csP false = cs_8 from rfl]
      cases hx : wdx q n f cs_8 with
      | none =>
        refine ⟨fun f' e => ?_, fun f' v e => (by cases e)⟩
        cases e
        rw [show oD 1 (-1) none = -1 from rfl, L.1]
        exact rp_no h (by omega)
      | some j =>
        have hj : j < 10 := wdx_lt hx
        refine ⟨fun f' e => (by cases e), fun f' v e => ?_⟩
        cases e
        rw [show oD 1 (-1) (some j) = nI (j + 1) from rfl, L.2 j (by omega)]
        exact rp_w0 hF h hlv (by rw [wdx_S hx]; decide) hj
    | true =>
      rw [if_neg (by decide), show csP true = cs_7 from rfl]
      cases hx : wdx q n f cs_7 with
      | none =>
        refine ⟨fun f' e => ?_, fun f' v e => (by cases e)⟩
        cases e
        rw [show oD 1 (-1) none = -1 from rfl, L.1]
        exact rp_no h (by omega)
      | some j =>
        have hj : j < 6 := wdx_lt hx
        dsimp only
        rw [show oD 1 (-1) (some j) = nI (j + 1) from rfl, L.2 j (by omega)]
        by_cases h4 : j < 4
        · rw [if_pos h4]
          refine ⟨fun f' e => (by cases e), fun f' v e => ?_⟩
          cases e
          exact rp_w1 hF h hlv (by rw [wdx_S hx]; decide) h4
        · rw [if_neg h4]
          have R := rp_w2 hF h hlv (by rw [wdx_S hx]; decide) h4 hj
          by_cases h5 : tkS q n (nxt q n f) = 2 ∧ nbT q n (nxt q n f) ≤ 5
          · rw [if_pos h5]
            refine ⟨fun f' e => (by cases e), fun f' v e => ?_⟩
            cases e
            exact R.1 h5
          · rw [if_neg h5]
            refine ⟨fun f' e => ?_, fun f' v e => (by cases e)⟩
            cases e
            exact R.2 h5
/-- no leaf can be read here -/
theorem lf_no (hF : 1000 ≤ F) (h : YC M q n f ord (nwO ord) p0 Bi len len m lv br) (hlv : lv ≤ 50) (hs : sg q n f 91 = false) (hno : ¬ lv < 50 ∨ (tkS q n f ≠ 2 ∧ wdx q n f cs_8 = none ∧ wdx q n f cs_7 = none)) : ∃ M', fX11_readPart F M = some (3, M') ∧ yfr M M' ∧ FS M' q n f := by
  rw [rp_pre hF h hs]
  by_cases hl : lv < 50
  · obtain ⟨h2, h8, h7⟩ := hno.resolve_left (fun w => w hl)
    have hx : wdx q n f (csP ord) = none := by
      cases ord with
      | false => exact h8
      | true => exact h7
    rw [hx, show oD 1 (-1) none = -1 from rfl, (rp_w (F := F) h h2).1]
    exact rp_no h hlv
  · have full := rp_full (F := F) h hlv hl
    unfold fX11_readPart_j35 fX11_readPart_j59 fX11_readPart_j60 fX11_readPart_j76 fX11_readPart_j86
    split
    · split
      · exact full _ _ _ _
      · exact full _ _ _ _
    · split
      · exact full _ _ _ _
      · exact full _ _ _ _
end YPart
