/-! ===== expressions: the reference's settle ===== -/
def rk (k : Nat) : Nat := if k = 23 then 31 else if k = 22 then 32 else k + 17
def okK (k : Nat) : Prop := (3 ≤ k ∧ k ≤ 13) ∨ k = 22 ∨ k = 23
def SKR (M : sp_Mem) : List (Nat × ev_S × Nat) → Prop
  | [] => True
  | (k, _, a) :: A => okK k ∧ sp_I M 116 A.length = nI (rk k) ∧ (k = 12 ∨ k = 13 → sp_I M 117 A.length = nI a) ∧ SKR M A
abbrev rcM (M : sp_Mem) (ord : Int32) (len : Nat) : Nat → Int32 × Int32 := ev_rcf ord (sp_I M 114) (sp_I M 115) len
def PSR (M : sp_Mem) (ord : Int32) (nw : Nat) (p0 : PP) (A : List (Nat × ev_S × Nat)) (p len m : Nat) : Prop := sp_I M 103 23 = nI len ∧ len ≤ 400 ∧ sp_I M 103 29 = nI A.length ∧ A.length ≤ 400 ∧ SKR M A ∧ Lay nw (rcM M ord len) p0 A p m
theorem SKR_cg {M M' : sp_Mem} (h1 : sp_I M' 116 = sp_I M 116) (h2 : sp_I M' 117 = sp_I M 117) : ∀ A, SKR M A → SKR M' A
  | [], _ => trivial
  | (k, g, a) :: A, h => ⟨h.1, by rw [h1]; exact h.2.1, by rw [h2]; exact h.2.2.1, SKR_cg h1 h2 A h.2.2.2⟩
theorem rk_e : ∀ k, k < 24 → ((3 ≤ k ∧ k ≤ 13) ∨ k = 22 ∨ k = 23) → fX11_binds (nI (rk k)) = nI (bnd k) ∧ (nI (rk k) = 29 ↔ k = 12) ∧ (nI (rk k) = 30 ↔ k = 13) := by decide +kernel
theorem rc_e : ∀ k, k < 12 → 3 ≤ k → ∀ ord : Int32, ev_rc ord (nI (rk k)) 0 = (nI k, 0) := by
  intro k h1 h3 ord
  have h : ∀ k, k < 12 → 3 ≤ k → ¬ nI (rk k) = 0 ∧ 20 ≤ nI (rk k) ∧ ¬ (nI (rk k) = 29 ∨ nI (rk k) = 30) ∧ nI (rk k) ≤ 28 ∧ nI (rk k) - 17 = nI k := by decide +kernel
  obtain ⟨a1, a2, a3, a4, a5⟩ := h k h1 h3
  unfold ev_rc
  rw [if_neg a1, if_pos a2, if_neg a3, if_pos a4, a5]
theorem rc_o : ∀ k, k = 12 ∨ k = 13 → ∀ ord x : Int32, ev_rc ord (nI (rk k)) x = (nI k, x) := by
  intro k h ord x
  rcases h with rfl | rfl
  · rfl
  · rfl
theorem rc_inv {op : Int32} {ord x : Int32} {k : Nat} (hk : k = 12 ∨ k = 13) (h : (ev_rc ord op x).1 = nI k) : op = nI (rk k) := by
  unfold ev_rc at h
  by_cases h0 : op = 0
  · rw [if_pos h0] at h
    have h : (1 : Int32) = nI k := h
    rcases hk with rfl | rfl <;> exact absurd h (by decide)
  rw [if_neg h0] at h
  by_cases h1 : 20 ≤ op
  · rw [if_pos h1] at h
    by_cases h2 : op = 29 ∨ op = 30
    · rw [if_pos h2] at h
      have h : op - 17 = nI k := h
      rcases h2 with rfl | rfl <;> rcases hk with rfl | rfl
      · rfl
      · exact absurd h (by decide)
      · exact absurd h (by decide)
      · rfl
    · rw [if_neg h2] at h
      by_cases h3 : op ≤ 28
      · rw [if_pos h3] at h
        exfalso
        have h : op - 17 = nI k := h
        have e : op = nI (k + 17) := by
          rw [← nI_add k 17, ← h, show nI 17 = 17 from rfl, Int32.sub_add_cancel]
        apply h2
        rcases hk with rfl | rfl
        · exact Or.inl e
        · exact Or.inr e
      · rw [if_neg h3] at h
        rcases hk with rfl | rfl <;> exact absurd h (by decide)
  rw [if_neg h1] at h
  exfalso
  have no : ∀ y : Int32 × Int32, y.1 = 2 ∨ y.1 = 0 → y.1 = nI k → False := by
    intro y hy e
    rw [e] at hy
    rcases hk with rfl | rfl <;> exact absurd hy (by decide)
  refine no _ ?_ h
  split
  · split
    · exact Or.inl rfl
    · exact Or.inr rfl
  · split
    · split
      · exact Or.inl rfl
      · exact Or.inr rfl
    · split
      · split
        · exact Or.inl rfl
        · exact Or.inr rfl
      · split
        · exact Or.inl rfl
        · exact Or.inr rfl
section Settle
variable {p0 : PP} {F nw : Nat} {ord : Int32}
theorem emit_r {M : sp_Mem} {len : Nat} (h : sp_I M 103 23 = nI len) (hl : len < 400) (a b : Int32) : fX11_emit M a b = some (sp_setI (sp_setI (sp_setI M 114 len a) 115 len b) 103 23 (nI (len + 1))) := by
  unfold fX11_emit
  rw [h, sp_ix_nI (show len < 400 by omega) (by omega), Option.bind_some]
  simp only [sp_do]
  rw [show sp_I (sp_setI M 114 len a) 103 23 = nI len from (congrFun (I_ne _ _ _ (by decide)) 23).trans h, sp_ix_nI (show len < 400 by omega) (by omega), Option.bind_some, show sp_I (sp_setI (sp_setI M 114 len a) 115 len b) 103 23 = nI len by rw [I_ne _ _ _ (by decide), I_ne _ _ _ (by decide)]; exact h, nI_1]
theorem settle_r {kx : sp_Mem → Option sp_Mem} {b : Nat} (hb : 1 ≤ b) (hb7 : b < 7) : ∀ (A : List (Nat × ev_S × Nat)) (kf : Nat) (M : sp_Mem) (p len m n : Nat) (f : ev_S), A.length < kf → PSR M ord nw p0 A p len m → len + A.length ≤ 400 → ev_Seg nw (rcM M ord len) p len f n → Fok b (drp A) f → ∃ M' A' p' len' m' n' f', fX11_settle_l0 F kx kf (nI b) M = kx M' ∧ sp_fr [114, 115] [(103, 23), (103, 29)] M M' ∧ PSR M' ord nw p0 A' p' len' m' ∧ ev_Seg nw (rcM M' ord len') p' len' f' n' ∧ m' + n' = m + n ∧ (drp A', f') = fo b (drp A) f ∧ len' + A'.length ≤ len + A.length ∧ A' <:+ A
  | [], kf, M, p, len, m, n, f, hk, h, hc, hS, ho => by
    obtain ⟨kf, rfl⟩ : ∃ m, kf = m + 1 := ⟨kf - 1, by omega⟩
    refine ⟨M, [], p, len, m, n, f, ?_, sp_fr.refl _ _ _, h, hS, rfl, rfl, Nat.le_refl _, List.suffix_refl _⟩
    rw [fX11_settle_l0, h.2.2.1, if_pos (show nI ([] : List (Nat × ev_S × Nat)).length ≤ 0 from Int32.le_refl _)]
  | (k, g, a) :: A, kf, M, p, len, m, n, f, hk, h, hc, hS, ho => by
    obtain ⟨kf, rfl⟩ : ∃ m, kf = m + 1 := ⟨kf - 1, by omega⟩
    rw [List.length_cons] at hk hc
    have h' := h
    obtain ⟨g2, g3, g4, g5, g6, g7⟩ := h
    rw [List.length_cons] at g4 g5
    have hokk : (3 ≤ k ∧ k ≤ 13) ∨ k = 22 ∨ k = 23 := g6.1
    have hrk := rk_e k (by omega) hokk
    have hbk := (bnd_e k (by omega)).2
    have hsub : nI (A.length + 1) - 1 = nI A.length := nI_sub (a := A.length + 1) (b := 1) (by omega) (by omega)
    have iA : sp_ix 400 (nI A.length) = some A.length := sp_ix_nI (show A.length < 400 by omega) (by omega)
    rw [fX11_settle_l0, g4, if_neg (show ¬ nI (A.length + 1) ≤ 0 from nI_ge (a := 0) (by omega) (by omega)), hsub, iA, Option.bind_some, g6.2.1, hrk.1]
    by_cases hlt : bnd k < b
    · refine ⟨M, (k, g, a) :: A, p, len, m, n, f, ?_, sp_fr.refl _ _ _, h', hS, rfl, ?_, Nat.le_refl _, List.suffix_refl _⟩
      · rw [if_pos ((nIlt (by omega) (by omega)).2 hlt)]
      · show _ = fo b ((k, g) :: drp A) f
        rw [fo, if_pos hlt]
        rfl
    · have hfo : fo b (drp ((k, g, a) :: A)) f = fo b (drp A) (xpp k g f) := by
        show fo b ((k, g) :: drp A) f = _
        rw [fo, if_neg hlt]
      have ho' : (k = 11 ∨ k = 12 ∨ k = 13 → ev_T f) ∧ Fok b (drp A) (xpp k g f) := Or.resolve_left ho hlt
      have hk1 : 3 ≤ k ∧ k ≤ 13 := by
        unfold bnd at hlt
        by_cases q : 3 ≤ k ∧ k ≤ 13
        · exact q
        · exfalso
          rw [if_neg (by omega), if_neg (by omega), if_neg (by omega), if_neg (by omega), if_neg (by omega), if_neg (by omega)] at hlt
          omega
      rw [if_neg (fun w => hlt ((nIlt (by omega) (by omega)).1 w)), hfo]
      simp only [sp_do]
      have e4 : sp_I (sp_setI M 103 29 (nI A.length)) 103 29 = nI A.length := I_eq _ _ _ _
      have e116 : sp_I (sp_setI M 103 29 (nI A.length)) 116 A.length = nI (rk k) := (congrFun (I_ne _ _ _ (by decide)) _).trans g6.2.1
      rw [e4, iA, Option.bind_some, e116]
      have fin : ∀ (M1 : sp_Mem) (p1 len1 m1 n1 : Nat), sp_fr [114, 115] [(103, 23), (103, 29)] M M1 → PSR M1 ord nw p0 A p1 len1 m1 → len1 ≤ len + 1 → ev_Seg nw (rcM M1 ord len1) p1 len1 (xpp k g f) n1 → m1 + n1 = m + n → ∃ M' A' p' len' m' n' f', fX11_settle_l0 F kx kf (nI b) M1 = kx M' ∧ sp_fr [114, 115] [(103, 23), (103, 29)] M M' ∧ PSR M' ord nw p0 A' p' len' m' ∧ ev_Seg nw (rcM M' ord len') p' len' f' n' ∧ m' + n' = m + n ∧ (drp A', f') = fo b (drp A) (xpp k g f) ∧ len' + A'.length ≤ len + ((k, g, a) :: A).length ∧ A' <:+ (k, g, a) :: A := by
        intro M1 p1 len1 m1 n1 f1 q1 q2 q3 q4
        obtain ⟨M', A', p', len', m', n', f', r1, r2, r3, r4, r5, r6, r7, r8⟩ := settle_r hb hb7 A kf M1 p1 len1 m1 n1 _ (by omega) q1 (by omega) q3 ho'.2
        exact ⟨M', A', p', len', m', n', f', r1, f1.tr r2, r3, r4, by omega, r6, by rw [List.length_cons]; omega, r8.trans (List.suffix_cons _ _)⟩
      by_cases hao : k = 12 ∨ k = 13
      · have e117 : sp_I (sp_setI M 103 29 (nI A.length)) 117 A.length = nI a := (congrFun (I_ne _ _ _ (by decide)) _).trans (g6.2.2.1 hao)
        have lt : a < len ∧ (rcM M ord len a).1 = nI k := by
          unfold Lay at g7
          rw [if_neg (by omega), if_pos hao] at g7
          obtain ⟨_, _, _, _, _, z1, z2, _⟩ := g7
          have := hS.1
          exact ⟨by omega, z2⟩
        have eop : sp_I M 114 a = nI (rk k) := by
          have := lt.2
          unfold rcM ev_rcf at this
          rw [if_pos lt.1] at this
          exact rc_inv hao this
        let M1 := sp_setI (sp_setI M 103 29 (nI A.length)) 115 a (nI len)
        have e114 : sp_I M1 114 = sp_I M 114 := by rw [I_ne _ _ _ (by decide), I_ne _ _ _ (by decide)]
        have e115 : ∀ i, i ≠ a → sp_I M1 115 i = sp_I M 115 i := fun i hi => by rw [I_nf _ _ _ hi, I_ne _ _ _ (by decide)]
        have hcd : ∀ i, i ≠ a → rcM M1 ord len i = rcM M ord len i := by
          intro i hi
          unfold rcM ev_rcf
          rw [e114, e115 i hi]
        have hca : rcM M1 ord len a = (nI k, nI len) := by
          unfold rcM ev_rcf
          rw [if_pos lt.1, e114, eop, show sp_I M1 115 a = nI len from I_eq _ _ _ _, rc_o k hao]
        obtain ⟨_, p1, m1, n1, l1, l2, l3⟩ := pop_o hao g7 hS (by omega) hcd hca
        have f1 : sp_fr [114, 115] [(103, 23), (103, 29)] M M1 := (sp_fr_I (Or.inr (by decide)) rfl).tr (sp_fr_I (Or.inl (by decide)) rfl)
        have e23 : sp_I (sp_setI M 103 29 (nI A.length)) 103 23 = nI len := (I_nf _ _ _ (by decide)).trans g2
        obtain ⟨M', A', p', len', m', n', f', r1, r2⟩ := fin M1 p1 len m1 n1 f1 ⟨by rw [I_ne _ _ _ (by decide)]; exact e23, g3, by rw [I_ne _ _ _ (by decide)]; exact e4, by omega, SKR_cg (by rw [I_ne _ _ _ (by decide), I_ne _ _ _ (by decide)]) (by rw [I_ne _ _ _ (by decide), I_ne _ _ _ (by decide)]) A g6.2.2.2, l1⟩ (by omega) l2 l3
        refine ⟨M', A', p', len', m', n', f', ?_, r2⟩
        rw [← r1]
        have j63 : fX11_settle_j63 F (fX11_settle_l0 F kx kf) kx (nI b) (sp_setI M 103 29 (nI A.length)) = fX11_settle_l0 F kx kf (nI b) M1 := by
          unfold fX11_settle_j63
          rw [e4, iA, Option.bind_some, e117, sp_ix_nI (show a < 400 by omega) (by omega), Option.bind_some, e23]
          rfl
        by_cases h12 : k = 12
        · rw [if_pos (hrk.2.1.2 h12)]; exact j63
        · rw [if_neg (fun w => h12 (hrk.2.1.1 w)), Option.bind_some, e116, if_pos (hrk.2.2.2 (by omega))]; exact j63
      · have n29 : ¬ nI (rk k) = 29 := fun w => hao (Or.inl (hrk.2.1.1 w))
        have n30 : ¬ nI (rk k) = 30 := fun w => hao (Or.inr (hrk.2.2.1 w))
        have e23 : sp_I (sp_setI M 103 29 (nI A.length)) 103 23 = nI len := (I_nf _ _ _ (by decide)).trans g2
        let M1 := sp_setI (sp_setI (sp_setI (sp_setI M 103 29 (nI A.length)) 114 len (nI (rk k))) 115 len 0) 103 23 (nI (len + 1))
        have f1 : sp_fr [114, 115] [(103, 23), (103, 29)] M M1 := (((sp_fr_I (Or.inr (by decide)) rfl).tr (sp_fr_I (Or.inl (by decide)) rfl)).tr (sp_fr_I (Or.inl (by decide)) rfl)).tr (sp_fr_I (Or.inr (by decide)) rfl)
        have e114 : sp_I M1 114 len = nI (rk k) := by rw [I_ne _ _ _ (by decide), I_ne _ _ _ (by decide), I_eq]
        have e115 : sp_I M1 115 len = 0 := by rw [I_ne _ _ _ (by decide), I_eq]
        have o114 : ∀ i, i ≠ len → sp_I M1 114 i = sp_I M 114 i := fun i hi => by rw [I_ne _ _ _ (by decide), I_ne _ _ _ (by decide), I_nf _ _ _ hi, I_ne _ _ _ (by decide)]
        have o115 : ∀ i, i ≠ len → sp_I M1 115 i = sp_I M 115 i := fun i hi => by rw [I_ne _ _ _ (by decide), I_nf _ _ _ hi, I_ne _ _ _ (by decide), I_ne _ _ _ (by decide)]
        have cur : rcM M1 ord (len + 1) len = (nI k, 0) := by
          unfold rcM ev_rcf
          rw [if_pos (by omega), e114, e115, rc_e k (by omega) hk1.1]
        have hcd : ∀ i, i < len → rcM M1 ord (len + 1) i = rcM M ord len i := by
          intro i hi
          unfold rcM ev_rcf
          rw [if_pos (by omega), if_pos hi, o114 i (by omega), o115 i (by omega)]
        have lS := hS.1
        have L2 := Lay_cg (code' := rcM M1 ord (len + 1)) _ _ _ (fun i _ hi => hcd i (by omega)) g7
        have S2 := ev_Seg_cg (code' := rcM M1 ord (len + 1)) hS (fun i _ hi => hcd i hi)
        have hpop : ∃ p' m' n', Lay nw (rcM M1 ord (len + 1)) p0 A p' m' ∧ ev_Seg nw (rcM M1 ord (len + 1)) p' (len + 1) (xpp k g f) n' ∧ m' + n' = m + n := by
          by_cases h11 : k = 11
          · subst h11
            exact pop_n L2 S2 (ho'.1 (Or.inl rfl)) (by rw [cur]; rfl)
          · exact pop_b (by omega) L2 S2 (by rw [cur])
        obtain ⟨p1, m1, n1, l1, l2, l3⟩ := hpop
        obtain ⟨M', A', p', len', m', n', f', r1, r2⟩ := fin M1 p1 (len + 1) m1 n1 f1 ⟨I_eq _ _ _ _, by omega, by rw [I_nf _ _ _ (by decide), I_ne _ _ _ (by decide), I_ne _ _ _ (by decide)]; exact e4, by omega, SKR_cg (by rw [I_ne _ _ _ (by decide), I_ne _ _ _ (by decide), I_ne _ _ _ (by decide), I_ne _ _ _ (by decide)]) (by rw [I_ne _ _ _ (by decide), I_ne _ _ _ (by decide), I_ne _ _ _ (by decide), I_ne _ _ _ (by decide)]) A g6.2.2.2, l1⟩ (by omega) l2 l3
        refine ⟨M', A', p', len', m', n', f', ?_, r2⟩
        rw [← r1, if_neg n29, Option.bind_some, e116, if_neg n30, Option.bind_some, e116, emit_r e23 (by omega), Option.bind_some]
end Settle
