/-! ===== expressions: the class's fold ===== -/
def SKC (M : sp_Mem) : List (Nat × ev_S × Nat) → Prop
  | [] => True
  | (k, _, a) :: A => k < 24 ∧ sp_I M 100 A.length = nI k ∧ (k = 12 ∨ k = 13 → sp_I M 101 A.length = nI a) ∧ SKC M A
def PSC (M : sp_Mem) (nw : Nat) (p0 : PP) (A : List (Nat × ev_S × Nat)) (p len m : Nat) : Prop := sp_N M 99 = 400 ∧ sp_I M 97 3 = nI len ∧ len ≤ 400 ∧ sp_I M 96 4 = nI A.length ∧ A.length ≤ 160 ∧ SKC M A ∧ Lay nw (ev_cc (sp_I M 99) len) p0 A p m
theorem SKC_cg {M M' : sp_Mem} (h1 : sp_I M' 100 = sp_I M 100) (h2 : sp_I M' 101 = sp_I M 101) : ∀ A, SKC M A → SKC M' A
  | [], _ => trivial
  | (k, g, a) :: A, h => ⟨h.1, by rw [h1]; exact h.2.1, by rw [h2]; exact h.2.2.1, SKC_cg h1 h2 A h.2.2.2⟩
theorem bnd_e : ∀ k, k < 24 → fX2_bindingOf (nI k) = nI (bnd k) ∧ bnd k < 7 := by decide +kernel
theorem cc_set {stp : Nat → Int32} {len i : Nat} {v : Int32} (M : sp_Mem) (hi : i < len) (h : sp_I M 99 = stp) : ev_cc (sp_I (sp_setI M 99 len v) 99) (len + 1) i = ev_cc stp len i := by
  unfold ev_cc
  rw [if_pos (by omega), if_pos hi, I_nf _ _ _ (by omega), h]
section Fold
variable {p0 : PP} {F nw : Nat}
theorem top_c {M : sp_Mem} {k a : Nat} {g : ev_S} {A : List (Nat × ev_S × Nat)} (h4 : sp_I M 96 4 = nI (A.length + 1)) (hl : A.length + 1 ≤ 160) (hS : SKC M ((k, g, a) :: A)) : fX2_top M = some (nI k) := by
  unfold fX2_top
  rw [h4, if_neg (show ¬ nI (A.length + 1) ≤ 0 from nI_ge (a := 0) (by omega) (by omega)), if_neg (show ¬ (160 : Int32) < nI (A.length + 1) by rw [show (160 : Int32) = nI 160 from rfl, nIlt (by omega) (by omega)]; omega), show nI (A.length + 1) - 1 = nI A.length from nI_sub (a := A.length + 1) (b := 1) (by omega) (by omega), sp_ix_nI (show A.length < 160 by omega) (by omega), Option.bind_some, hS.2.1]
theorem add_c {M : sp_Mem} {len : Nat} (hN : sp_N M 99 = 400) (h3 : sp_I M 97 3 = nI len) (hl : len < 400) (a b : Int32) : fX9_addStep M 97 a b = some (sp_setI (sp_setI M 99 len ((b <<< (5 &&& 31)) ||| a)) 97 3 (nI (len + 1))) := by
  unfold fX9_addStep
  rw [show sp_N M (97 + 2) = 400 from hN, h3, if_neg (show ¬ Int32.ofNat 400 ≤ nI len from nI_ge (b := 400) (by omega) (by omega)), sp_ix_nI (show len < 400 by omega) (by omega), Option.bind_some]
  simp only [sp_do]
  rw [show sp_I (sp_setI M (97 + 2) len ((b <<< (5 &&& 31)) ||| a)) 97 3 = nI len from (congrFun (I_ne _ _ _ (by decide)) 3).trans h3, nI_1]
/-- one step into the code, and a smaller pile -/
theorem PSC_add {M : sp_Mem} {k a p len m n b : Nat} {g f f' : ev_S} {A : List (Nat × ev_S × Nat)} (h : PSC M nw p0 ((k, g, a) :: A) p len m) (hlen : len < 400) (hS : ev_Seg nw (ev_cc (sp_I M 99) len) p len f n) (hk : ∃ p' m' n', Lay nw (ev_cc (sp_I (sp_setI M 99 len ((nI b <<< (5 &&& 31)) ||| nI k)) 99) (len + 1)) p0 A p' m' ∧ ev_Seg nw (ev_cc (sp_I (sp_setI M 99 len ((nI b <<< (5 &&& 31)) ||| nI k)) 99) (len + 1)) p' (len + 1) f' n' ∧ m' + n' = m + n) : ∃ M' p' m' n', sp_setI (sp_setI (sp_setI M 99 len ((nI b <<< (5 &&& 31)) ||| nI k)) 97 3 (nI (len + 1))) 96 4 (nI A.length) = M' ∧ sp_fr [99] [(97, 3), (96, 4)] M M' ∧ PSC M' nw p0 A p' (len + 1) m' ∧ ev_Seg nw (ev_cc (sp_I M' 99) (len + 1)) p' (len + 1) f' n' ∧ m' + n' = m + n := by
  obtain ⟨p', m', n', h1, h2, h3⟩ := hk
  obtain ⟨g1, g2, g3, g4, g5, g6, g7⟩ := h
  rw [List.length_cons] at g5
  have e99 : sp_I (sp_setI (sp_setI (sp_setI M 99 len ((nI b <<< (5 &&& 31)) ||| nI k)) 97 3 (nI (len + 1))) 96 4 (nI A.length)) 99 = sp_I (sp_setI M 99 len ((nI b <<< (5 &&& 31)) ||| nI k)) 99 := by rw [I_ne _ _ _ (by decide), I_ne _ _ _ (by decide)]
  refine ⟨_, p', m', n', rfl, ((sp_fr_I (Or.inl (by decide)) rfl).tr (sp_fr_I (Or.inr (by decide)) rfl)).tr (sp_fr_I (Or.inr (by decide)) rfl), ⟨g1, ?_, by omega, I_eq _ _ _ _, by omega, ?_, by rw [e99]; exact h1⟩, by rw [e99]; exact h2, h3⟩
  · rw [I_ne _ _ _ (by decide)]; exact I_eq _ _ _ _
  · refine SKC_cg ?_ ?_ A g6.2.2.2
    · rw [I_ne _ _ _ (by decide), I_ne _ _ _ (by decide), I_ne _ _ _ (by decide)]
    · rw [I_ne _ _ _ (by decide), I_ne _ _ _ (by decide), I_ne _ _ _ (by decide)]
theorem fold_c {kx : sp_Mem → Option sp_Mem} {b : Nat} (hb : 1 ≤ b) (hb7 : b < 7) : ∀ (A : List (Nat × ev_S × Nat)) (kf : Nat) (M : sp_Mem) (p len m n : Nat) (f : ev_S), A.length < kf → PSC M nw p0 A p len m → len + A.length ≤ 400 → ev_Seg nw (ev_cc (sp_I M 99) len) p len f n → Fok b (drp A) f → ∃ M' A' p' len' m' n' f', fX2_fold_l0 F kx kf (nI b) M = kx M' ∧ sp_fr [99] [(97, 3), (96, 4)] M M' ∧ PSC M' nw p0 A' p' len' m' ∧ ev_Seg nw (ev_cc (sp_I M' 99) len') p' len' f' n' ∧ m' + n' = m + n ∧ (drp A', f') = fo b (drp A) f ∧ len' + A'.length ≤ len + A.length ∧ A' <:+ A
  | [], kf, M, p, len, m, n, f, hk, h, hc, hS, ho => by
    obtain ⟨kf, rfl⟩ : ∃ m, kf = m + 1 := ⟨kf - 1, by omega⟩
    refine ⟨M, [], p, len, m, n, f, ?_, sp_fr.refl _ _ _, h, hS, rfl, rfl, Nat.le_refl _, List.suffix_refl _⟩
    rw [fX2_fold_l0, h.2.2.2.1, if_pos (show nI ([] : List (Nat × ev_S × Nat)).length ≤ 0 from Int32.le_refl _)]
  | (k, g, a) :: A, kf, M, p, len, m, n, f, hk, h, hc, hS, ho => by
    obtain ⟨kf, rfl⟩ : ∃ m, kf = m + 1 := ⟨kf - 1, by omega⟩
    rw [List.length_cons] at hk hc
    have h' := h
    obtain ⟨g1, g2, g3, g4, g5, g6, g7⟩ := h
    rw [List.length_cons] at g4 g5
    have hbk := bnd_e k g6.1
    have tp := top_c g4 g5 g6
    rw [fX2_fold_l0, g4, if_neg (show ¬ nI (A.length + 1) ≤ 0 from nI_ge (a := 0) (by omega) (by omega)), tp, Option.bind_some, hbk.1]
    by_cases hlt : bnd k < b
    · refine ⟨M, (k, g, a) :: A, p, len, m, n, f, ?_, sp_fr.refl _ _ _, h', hS, rfl, ?_, Nat.le_refl _, List.suffix_refl _⟩
      · rw [if_pos ((nIlt (by omega) (by omega)).2 hlt)]
      · show _ = fo b ((k, g) :: drp A) f
        rw [fo, if_pos hlt]
        rfl
    · have hfo : fo b (drp ((k, g, a) :: A)) f = fo b (drp A) (xpp k g f) := by
        show fo b ((k, g) :: drp A) f = _
        rw [fo, if_neg hlt]
      have ho' : (k = 11 ∨ k = 12 ∨ k = 13 → ev_T f) ∧ Fok b (drp A) (xpp k g f) := Or.resolve_left ho hlt
      have hk1 : 3 ≤ k ∧ k ≤ 13 := by
        unfold bnd at hlt
        by_cases q : 3 ≤ k ∧ k ≤ 13
        · exact q
        · exfalso
          rw [if_neg (by omega), if_neg (by omega), if_neg (by omega), if_neg (by omega), if_neg (by omega), if_neg (by omega)] at hlt
          omega
      have hsub : nI (A.length + 1) - 1 = nI A.length := nI_sub (a := A.length + 1) (b := 1) (by omega) (by omega)
      rw [if_neg (fun w => hlt ((nIlt (by omega) (by omega)).1 w)), Option.bind_some, hfo]
      have fin : ∀ (M1 : sp_Mem) (p1 len1 m1 n1 : Nat), sp_fr [99] [(97, 3), (96, 4)] M M1 → PSC M1 nw p0 A p1 len1 m1 → len1 ≤ len + 1 → ev_Seg nw (ev_cc (sp_I M1 99) len1) p1 len1 (xpp k g f) n1 → m1 + n1 = m + n → ∃ M' A' p' len' m' n' f', fX2_fold_l0 F kx kf (nI b) M1 = kx M' ∧ sp_fr [99] [(97, 3), (96, 4)] M M' ∧ PSC M' nw p0 A' p' len' m' ∧ ev_Seg nw (ev_cc (sp_I M' 99) len') p' len' f' n' ∧ m' + n' = m + n ∧ (drp A', f') = fo b (drp A) (xpp k g f) ∧ len' + A'.length ≤ len + ((k, g, a) :: A).length ∧ A' <:+ (k, g, a) :: A := by
        intro M1 p1 len1 m1 n1 f1 q1 q2 q3 q4
        obtain ⟨M', A', p', len', m', n', f', r1, r2, r3, r4, r5, r6, r7, r8⟩ := fold_c hb hb7 A kf M1 p1 len1 m1 n1 _ (by omega) q1 (by omega) q3 ho'.2
        exact ⟨M', A', p', len', m', n', f', r1, f1.tr r2, r3, r4, by omega, r6, by rw [List.length_cons]; omega, r8.trans (List.suffix_cons _ _)⟩
      by_cases hao : k = 12 ∨ k = 13
      · have e101 : sp_I M 101 A.length = nI a := g6.2.2.1 hao
        have lt : a < len ∧ (ev_cc (sp_I M 99) len a).1 = nI k := by
          unfold Lay at g7
          rw [if_neg (by omega), if_pos hao] at g7
          obtain ⟨_, _, _, _, _, z1, z2, _⟩ := g7
          have := hS.1
          exact ⟨by omega, z2⟩
        have e31 : sp_I M 99 a &&& 31 = nI k := by
          have := lt.2
          unfold ev_cc at this
          rw [if_pos lt.1] at this
          exact this
        let v := (nI len <<< (5 &&& 31)) ||| nI k
        let M1 := sp_setI (sp_setI M 99 a v) 96 4 (nI A.length)
        have en := enc_e k (by omega) len (by omega)
        have e99 : sp_I M1 99 = sp_I (sp_setI M 99 a v) 99 := I_ne _ _ _ (by decide)
        have hcd : ∀ i, i ≠ a → ev_cc (sp_I M1 99) len i = ev_cc (sp_I M 99) len i := by
          intro i hi
          unfold ev_cc
          rw [e99, I_nf _ _ _ hi]
        have hca : ev_cc (sp_I M1 99) len a = (nI k, nI len) := by
          unfold ev_cc
          rw [if_pos lt.1, e99, I_eq, en.1, en.2]
        obtain ⟨_, p1, m1, n1, l1, l2, l3⟩ := pop_o hao g7 hS (by omega) hcd hca
        have f1 : sp_fr [99] [(97, 3), (96, 4)] M M1 := (sp_fr_I (Or.inl (by decide)) rfl).tr (sp_fr_I (Or.inr (by decide)) rfl)
        obtain ⟨M', A', p', len', m', n', f', r1, r2⟩ := fin M1 p1 len m1 n1 f1 ⟨g1, by rw [I_ne _ _ _ (by decide), I_ne _ _ _ (by decide)]; exact g2, g3, I_eq _ _ _ _, by omega, SKC_cg (by rw [I_ne _ _ _ (by decide), I_ne _ _ _ (by decide)]) (by rw [I_ne _ _ _ (by decide), I_ne _ _ _ (by decide)]) A g6.2.2.2, l1⟩ (by omega) l2 l3
        refine ⟨M', A', p', len', m', n', f', ?_, r2⟩
        rw [← r1]
        have j35 : fX2_fold_j35 F (fX2_fold_l0 F kx kf) kx (nI b) M = fX2_fold_l0 F kx kf (nI b) M1 := by
          unfold fX2_fold_j35 fX9_aimHere
          rw [g4, hsub, sp_ix_nI (show A.length < 160 by omega) (by omega), Option.bind_some, e101, if_neg (show ¬ nI a < 0 by rw [Int32.lt_iff_toInt_lt, nI_toInt (by omega)]; show ¬ ((a : Int) < 0); omega), g2, if_neg (nI_ge lt.1 (by omega)), show sp_N M (97 + 2) = 400 from g1, sp_ix_nI (show a < 400 by omega) (by omega), Option.bind_some, Option.bind_some, show sp_I M (97 + 2) a &&& 31 = nI k from e31]
          simp only [sp_do]
          rw [Option.bind_some, show sp_I (sp_setI M (97 + 2) a (nI len <<< (5 &&& 31) ||| nI k)) 96 4 = nI (A.length + 1) from (congrFun (I_ne _ _ _ (by decide)) 4).trans g4, hsub]
        by_cases h12 : k = 12
        · rw [if_pos (by rw [h12]; rfl)]; exact j35
        · rw [if_neg (show ¬ nI k = 12 from fun w => h12 ((nIe (b := 12) (by omega) (by omega)).1 w)), if_pos (by rw [show k = 13 by omega]; rfl)]; exact j35
      · have n12 : ¬ nI k = 12 := fun w => hao (Or.inl ((nIe (b := 12) (by omega) (by omega)).1 w))
        have n13 : ¬ nI k = 13 := fun w => hao (Or.inr ((nIe (b := 13) (by omega) (by omega)).1 w))
        have en := enc_e k (by omega) 0 (by omega)
        have cur : ev_cc (sp_I (sp_setI M 99 len ((nI 0 <<< (5 &&& 31)) ||| nI k)) 99) (len + 1) len = (nI k, nI 0) := by
          unfold ev_cc
          rw [if_pos (by omega), I_eq, en.1, en.2]
        have hcd : ∀ i, i < len → ev_cc (sp_I (sp_setI M 99 len ((nI 0 <<< (5 &&& 31)) ||| nI k)) 99) (len + 1) i = ev_cc (sp_I M 99) len i := fun i hi => cc_set M hi rfl
        have lS := hS.1
        have L2 := Lay_cg (code' := ev_cc (sp_I (sp_setI M 99 len ((nI 0 <<< (5 &&& 31)) ||| nI k)) 99) (len + 1)) _ _ _ (fun i _ hi => hcd i (by omega)) g7
        have S2 := ev_Seg_cg (code' := ev_cc (sp_I (sp_setI M 99 len ((nI 0 <<< (5 &&& 31)) ||| nI k)) 99) (len + 1)) hS (fun i _ hi => hcd i hi)
        have hpop : ∃ p' m' n', Lay nw (ev_cc (sp_I (sp_setI M 99 len ((nI 0 <<< (5 &&& 31)) ||| nI k)) 99) (len + 1)) p0 A p' m' ∧ ev_Seg nw (ev_cc (sp_I (sp_setI M 99 len ((nI 0 <<< (5 &&& 31)) ||| nI k)) 99) (len + 1)) p' (len + 1) (xpp k g f) n' ∧ m' + n' = m + n := by
          by_cases h11 : k = 11
          · subst h11
            exact pop_n L2 S2 (ho'.1 (Or.inl rfl)) (by rw [cur]; rfl)
          · exact pop_b (by omega) L2 S2 (by rw [cur])
        obtain ⟨M1, p1, m1, n1, e1, e2, e3, e4, e5⟩ := PSC_add h' (by omega) hS hpop
        obtain ⟨M', A', p', len', m', n', f', r1, r2⟩ := fin M1 p1 (len + 1) m1 n1 e2 e3 (by omega) e4 e5
        refine ⟨M', A', p', len', m', n', f', ?_, r2⟩
        rw [← r1, if_neg n12, if_neg n13, add_c g1 g2 (by omega), Option.bind_some]
        simp only [sp_do]
        rw [show sp_I (sp_setI (sp_setI M 99 len ((0 : Int32) <<< (5 &&& 31) ||| nI k)) 97 3 (nI (len + 1))) 96 4 = nI (A.length + 1) by rw [I_ne _ _ _ (by decide), I_ne _ _ _ (by decide)]; exact g4, hsub]
        rw [← e1]
        rfl
end Fold
