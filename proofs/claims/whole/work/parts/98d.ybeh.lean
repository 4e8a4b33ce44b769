/-! ===== expressions: the reference behind an operand: its helpers ===== -/
def ic (k : Nat) : Int32 := if k = 22 then 32 else if k = 23 then 31 else -1
def cmpB : Sk → Bool
  | [] => false
  | x :: B => if 3 ≤ x.1 ∧ x.1 ≤ 7 then cmpB B else decide (8 ≤ x.1 ∧ x.1 ≤ 10)
theorem bnd_57 {k : Nat} : (3 ≤ k ∧ k ≤ 7) ↔ ¬ bnd k < 5 := by
  constructor
  · intro h
    have : k = 3 ∨ k = 4 ∨ k = 5 ∨ k = 6 ∨ k = 7 := by omega
    rcases this with rfl | rfl | rfl | rfl | rfl <;> decide
  · intro h
    by_cases z : 3 ≤ k ∧ k ≤ 7
    · exact z
    · exfalso
      apply h
      by_cases y : 3 ≤ k ∧ k ≤ 13
      · have : k = 8 ∨ k = 9 ∨ k = 10 ∨ k = 11 ∨ k = 12 ∨ k = 13 := by omega
        rcases this with rfl | rfl | rfl | rfl | rfl | rfl <;> decide
      · rw [bnd_0 y]; decide
theorem bnd_i4 {k : Nat} : bnd k = 4 ↔ (8 ≤ k ∧ k ≤ 10) := by
  constructor
  · exact bnd_c4
  · intro h
    have : k = 8 ∨ k = 9 ∨ k = 10 := by omega
    rcases this with rfl | rfl | rfl <;> decide
theorem cmpB_e : ∀ (B : Sk) (v : ev_S), cmpB B = decide (bnd (tpk (fo 5 B v).1) = 4)
  | [], _ => rfl
  | (k, g) :: B, v => by
    rw [cmpB]
    by_cases h : 3 ≤ k ∧ k ≤ 7
    · rw [if_pos h, show fo 5 ((k, g) :: B) v = fo 5 B (xpp k g v) from if_neg (bnd_57.1 h)]
      exact cmpB_e B _
    · have h5 : bnd k < 5 := by
        by_cases z : bnd k < 5
        · exact z
        · exact (h (bnd_57.2 z)).elim
      rw [if_neg h, show fo 5 ((k, g) :: B) v = ((k, g) :: B, v) from if_pos h5]
      exact decide_eq_decide.2 bnd_i4.symm
theorem cmp_cnc {base : Nat} (hB : base = 20 ∨ base = 21) {B : Sk} (h : WB base B) : bnd (tpk (cnc base B)) = 4 ↔ bnd (tpk B) = 4 := by
  cases B with
  | nil =>
    show bnd base = 4 ↔ bnd 0 = 4
    rw [b0 hB]
    exact ⟨fun z => (by omega), fun z => (by cases z)⟩
  | cons x B =>
    by_cases c : x.1 = 11 ∧ tpk (cnc base B) = 11
    · obtain ⟨g, hg⟩ := cnc_top c.2
      obtain ⟨br, W⟩ := h B (List.suffix_cons _ _)
      rw [hg] at W
      have h3 := (WFk_11 hB W).1
      rw [cnc_1 c]
      show _ ↔ bnd x.1 = 4
      rw [c.1, show bnd 11 = 3 from rfl]
      exact ⟨fun z => (by omega), fun z => (by omega)⟩
    · rw [cnc_2 c]
      exact Iff.rfl
theorem SKR_at {M : sp_Mem} {k a : Nat} {g : ev_S} {S : List (Nat × ev_S × Nat)} : ∀ R : List (Nat × ev_S × Nat), SKR M (R ++ (k, g, a) :: S) → okK k ∧ sp_I M 116 S.length = nI (rk k)
  | [], h => ⟨h.1, h.2.1⟩
  | _ :: R, h => SKR_at R h.2.2.2
theorem SKR_ok {M : sp_Mem} : ∀ A : List (Nat × ev_S × Nat), SKR M A → ∀ x ∈ drp A, okK x.1
  | [], _, x, hx => by cases hx
  | (k, g, a) :: A, h, x, hx => by
    rcases List.mem_cons.mp hx with e | e
    · rw [e]; exact h.1
    · exact SKR_ok A h.2.2.2 x e
theorem rk_i : ∀ k, k < 24 → ((3 ≤ k ∧ k ≤ 13) ∨ k = 22 ∨ k = 23) → (nI (rk k) < 31 ↔ ¬ (k = 22 ∨ k = 23)) ∧ ((k = 22 ∨ k = 23) → nI (rk k) = ic k) := by decide +kernel
theorem rk_j : ∀ k, k < 24 → ((3 ≤ k ∧ k ≤ 13) ∨ k = 22 ∨ k = 23) → (fX11_in (Int32.toInt64 (nI (rk k))) 20 24 = 0 ↔ ¬ (3 ≤ k ∧ k ≤ 7)) ∧ (fX11_in (Int32.toInt64 (nI (rk k))) 25 27 = 0 ↔ ¬ (8 ≤ k ∧ k ≤ 10)) := by decide +kernel
section YBeh
variable {p0 : PP} {F n f nw len m nn lv br p : Nat} {q : Nat → Nat} {ord : Bool} {M : sp_Mem} {Bi : List (Nat × ev_S × Nat)} {v : ev_S}
theorem inner_l {kx : Int32 → Option Int32} (h29 : sp_I M 103 29 = nI Bi.length) (hL : Bi.length ≤ 400) (hs : SKR M Bi) : ∀ (d : Nat) (R S : List (Nat × ev_S × Nat)) (kf : Nat), R.length = d → Bi = R ++ S → d < kf → fX11_inner_l4 F M kx kf (ic (inn (drp S))) (nI S.length) = kx (ic (inn (drp Bi))) := by
  intro d
  induction d with
  | zero =>
    intro R S kf hR he hk
    obtain ⟨kf, rfl⟩ : ∃ m, kf = m + 1 := ⟨kf - 1, by omega⟩
    have : R = [] := List.length_eq_zero_iff.mp hR
    subst this
    have he : Bi = S := he
    rw [fX11_inner_l4, h29, he, if_pos (Int32.le_refl _)]
  | succ d ih =>
    intro R S kf hR he hk
    obtain ⟨kf, rfl⟩ : ∃ m, kf = m + 1 := ⟨kf - 1, by omega⟩
    have hne : R ≠ [] := fun z => by rw [z] at hR; cases hR
    obtain ⟨R', x, rfl⟩ : ∃ R' x, R = R' ++ [x] := ⟨R.dropLast, R.getLast hne, (List.dropLast_concat_getLast hne).symm⟩
    obtain ⟨k, g, a⟩ := x
    have he2 : Bi = R' ++ (k, g, a) :: S := by rw [he, List.append_assoc]; rfl
    have hlen : Bi.length = R'.length + (S.length + 1) := by rw [he2, List.length_append, List.length_cons]
    have hs2 := hs
    rw [he2] at hs2
    have at_ := SKR_at R' hs2
    have hk24 : k < 24 := by have := at_.1; unfold okK at this; omega
    have ri := rk_i k hk24 at_.1
    have hR2 : R'.length = d := by rw [List.length_append, List.length_singleton] at hR; omega
    rw [fX11_inner_l4, h29, if_neg (nI_ge (show S.length < Bi.length by omega) (by omega)), sp_ix_nI (show S.length < 400 by omega) (by omega), Option.bind_some, at_.2]
    have nx := ih R' ((k, g, a) :: S) kf hR2 he2 (by omega)
    rw [List.length_cons, ← nI_1] at nx
    by_cases hb : k = 22 ∨ k = 23
    · have e : inn (drp ((k, g, a) :: S)) = k := if_pos hb
      rw [if_neg (fun w => (ri.1.1 w) hb), Option.bind_some]
      simp only [sp_do]
      rw [at_.2, ri.2 hb]
      rw [e] at nx
      exact nx
    · have e : inn (drp ((k, g, a) :: S)) = inn (drp S) := inn_p hb
      rw [if_pos (ri.1.2 hb)]
      rw [e] at nx
      exact nx
theorem inner_r (hF : 1000 ≤ F) (h : YC M q n f ord nw p0 Bi p len m lv br) : fX11_inner F M = some (ic (inn (drp Bi))) := by
  have hn := h.1.1
  have hf := h.2.1.1
  have hb := h.2.2.2.2.2.2.2.2
  have hP := h.2.2.1
  exact inner_l (F := F) (kx := fun b7 => some b7) hP.2.2.1 hP.2.2.2.1 hP.2.2.2.2.1 Bi.length Bi [] F rfl (List.append_nil _).symm (by omega)
theorem cmp_l {kx : Int32 → Option Int32} (hkx : ∀ x, kx x = fX11_isCompared_j36 F M x) : ∀ (A : List (Nat × ev_S × Nat)) (kf : Nat), SKR M A → A.length ≤ 400 → A.length < kf → fX11_isCompared_l7 F M kx kf (nI A.length - 1) = some (bI (cmpB (drp A)))
  | [], kf, _, _, hk => by
    obtain ⟨kf, rfl⟩ : ∃ m, kf = m + 1 := ⟨kf - 1, by omega⟩
    rw [fX11_isCompared_l7, show nI ([] : List (Nat × ev_S × Nat)).length - 1 = -1 from rfl, if_pos (by decide), hkx]
    unfold fX11_isCompared_j36
    rw [if_pos (by decide)]
    rfl
  | (k, g, a) :: A, kf, hs, hl, hk => by
    obtain ⟨kf, rfl⟩ : ∃ m, kf = m + 1 := ⟨kf - 1, by omega⟩
    rw [List.length_cons] at hl hk ⊢
    have hsub : nI (A.length + 1) - 1 = nI A.length := nI_sub (a := A.length + 1) (b := 1) (by omega) (by omega)
    have hk24 : k < 24 := by have := hs.1; unfold okK at this; omega
    have rj := rk_j k hk24 hs.1
    have n0 : ¬ nI A.length < 0 := by rw [Int32.lt_iff_toInt_lt, nI_toInt (by omega)]; show ¬ ((A.length : Int) < 0); omega
    rw [fX11_isCompared_l7, hsub, if_neg n0, sp_ix_nI (show A.length < 400 by omega) (by omega), Option.bind_some, hs.2.1]
    by_cases h37 : 3 ≤ k ∧ k ≤ 7
    · have e : cmpB (drp ((k, g, a) :: A)) = cmpB (drp A) := if_pos h37
      rw [if_neg (fun w => (rj.1.1 w) h37), e, show nI A.length + -1 = nI A.length - 1 from (Int32.sub_eq_add_neg _ _).symm]
      exact cmp_l hkx A kf hs.2.2.2 (by omega) (by omega)
    · have e : cmpB (drp ((k, g, a) :: A)) = decide (8 ≤ k ∧ k ≤ 10) := if_neg h37
      rw [if_pos (rj.1.2 h37), hkx, e]
      unfold fX11_isCompared_j36
      rw [if_neg n0, sp_ix_nI (show A.length < 400 by omega) (by omega), Option.bind_some, hs.2.1]
      by_cases h8 : 8 ≤ k ∧ k ≤ 10
      · rw [if_neg (fun w => (rj.2.1 w) h8), decide_eq_true h8]; rfl
      · rw [if_pos (rj.2.2 h8), decide_eq_false h8]; rfl
theorem cmp_r (hF : 1000 ≤ F) (h : YC M q n f ord nw p0 Bi p len m lv br) : fX11_isCompared F M = some (bI (cmpB (drp Bi))) := by
  have hP := h.2.2.1
  unfold fX11_isCompared
  simp only [sp_do]
  rw [hP.2.2.1]
  exact cmp_l (fun _ => rfl) Bi F hP.2.2.2.2.1 hP.2.2.2.1 (by have := hP.2.2.2.1; omega)
/-- settle -/
theorem settle_w {b : Nat} (hF : 1000 ≤ F) (hb : 1 ≤ b) (hb7 : b < 7) (h : YC M q n f ord nw p0 Bi p len m lv br) (hS : ev_Seg nw (rcM M (bI ord) len) p len v nn) (ho : Fok b (drp Bi) v) : ∃ M' Bi' p' len' m' n', fX11_settle F M (nI b) = some M' ∧ sp_fr [114, 115] [(103, 23), (103, 29)] M M' ∧ YC M' q n f ord nw p0 Bi' p' len' m' lv br ∧ ev_Seg nw (rcM M' (bI ord) len') p' len' (fo b (drp Bi) v).2 n' ∧ m' + n' = m + nn ∧ drp Bi' = (fo b (drp Bi) v).1 ∧ len' + Bi'.length ≤ len + Bi.length := by
  obtain ⟨hT, hK, hP, h26, h30, h20, h19, hC, hbu⟩ := h
  have hn := hT.1
  have hf := hK.1
  have hl := hP.2.2.2.1
  obtain ⟨M', A', p', len', m', n', f', e1, e2, e3, e4, e5, e6, e7, e8⟩ := settle_r (F := F) (kx := fun M14 => some M14) hb hb7 Bi F M p len m nn v (by omega) hP (by omega) hS ho
  have e6a : drp A' = (fo b (drp Bi) v).1 := congrArg Prod.fst e6
  have e6b : f' = (fo b (drp Bi) v).2 := congrArg Prod.snd e6
  exact ⟨M', A', p', len', m', n', e1, e2, ⟨TXR_fr e2 hT (by decide), TKR_fr e2 hK (by decide), e3, (e2.1 103 26 (by decide) (by decide)).trans h26, (e2.1 103 30 (by decide) (by decide)).trans h30, (e2.1 103 20 (by decide) (by decide)).trans h20, (e2.1 103 19 (by decide) (by decide)).trans h19, i8_fr e2 (by decide) hC, by omega⟩, by rw [← e6b]; exact e4, e5, e6a, e7⟩
theorem pushB_p {k : Nat} (h : PSR M (bI ord) nw p0 Bi p len m) (hL : Bi.length < 400) (hS : ev_Seg nw (rcM M (bI ord) len) p len v nn) (hk : 3 ≤ k ∧ k ≤ 10) : PSR (sp_setI (sp_setI (sp_setI M 116 Bi.length (nI (rk k))) 117 Bi.length 0) 103 29 (nI (Bi.length + 1))) (bI ord) nw p0 ((k, v, 0) :: Bi) len len (m + nn) := by
  refine PSR_push h hL (by unfold okK; omega) (by omega) (fun code hl hc => ?_)
  unfold Lay
  rw [if_pos hk]
  exact ⟨p, nn, m, hl, ev_Seg_cg hS (fun i _ _ => (hc i).symm), rfl⟩
/-- a binary item goes onto the pile, the next token is taken -/
theorem push_n {k : Nat} (hF : 1000 ≤ F) (h : YC M q n f ord nw p0 Bi p len m lv br) (hS : ev_Seg nw (rcM M (bI ord) len) p len v nn) (hk : 3 ≤ k ∧ k ≤ 10) (ht : tkS q n f ≠ 0) : ∃ M1 M2, fX11_push M (nI (rk k)) 0 = some M1 ∧ fX11_next F M1 = some M2 ∧ yfr M M2 ∧ YC M2 q n (nxt q n f) ord nw p0 ((k, v, 0) :: Bi) len len (m + nn) lv br := by
  obtain ⟨hT, hK, hP, h26, h30, h20, h19, hC, hbu⟩ := h
  have hn := hT.1
  have hf := hK.1
  have hg := nxt_gt hf ht
  have f1 : sp_fr [116, 117] [(103, 29)] M (sp_setI (sp_setI (sp_setI M 116 Bi.length (nI (rk k))) 117 Bi.length 0) 103 29 (nI (Bi.length + 1))) := ((sp_fr_I (Or.inl (by decide)) rfl).tr (sp_fr_I (Or.inl (by decide)) rfl)).tr (sp_fr_I (Or.inr (by decide)) rfl)
  have hg1 := tkT_b (q := q) hK.1
  obtain ⟨M2, e1, e2, e3, e4⟩ := next_r hF (TXR_fr f1 hT (by decide)) hg1.2 ((f1.1 103 15 (by decide) (by decide)).trans hK.2.2.1)
  exact ⟨_, M2, pushr hP.2.2.1 (by omega) _ _, e1, (f1.mono (by decide) (by decide)).tr (e2.mono (by decide) (by decide)), e3, e4, PSR_fr e2 (by decide) (pushB_p hP (by omega) hS hk), (e2.1 103 26 (by decide) (by decide)).trans ((f1.1 103 26 (by decide) (by decide)).trans h26), (e2.1 103 30 (by decide) (by decide)).trans ((f1.1 103 30 (by decide) (by decide)).trans h30), (e2.1 103 20 (by decide) (by decide)).trans ((f1.1 103 20 (by decide) (by decide)).trans h20), (e2.1 103 19 (by decide) (by decide)).trans ((f1.1 103 19 (by decide) (by decide)).trans h19), i8_fr e2 (by decide) (i8_fr f1 (by decide) hC), by rw [List.length_cons]; omega⟩
/-- the same, where the next token is taken before -/
theorem push_b {k : Nat} (h : YC M q n f ord nw p0 Bi p len m lv br) (hS : ev_Seg nw (rcM M (bI ord) len) p len v nn) (hk : 3 ≤ k ∧ k ≤ 10) (hb : len + Bi.length + 1 ≤ f) : ∃ M1, fX11_push M (nI (rk k)) 0 = some M1 ∧ yfr M M1 ∧ YC M1 q n f ord nw p0 ((k, v, 0) :: Bi) len len (m + nn) lv br := by
  obtain ⟨hT, hK, hP, h26, h30, h20, h19, hC, hbu⟩ := h
  have hn := hT.1
  have hf := hK.1
  have f1 : sp_fr [116, 117] [(103, 29)] M (sp_setI (sp_setI (sp_setI M 116 Bi.length (nI (rk k))) 117 Bi.length 0) 103 29 (nI (Bi.length + 1))) := ((sp_fr_I (Or.inl (by decide)) rfl).tr (sp_fr_I (Or.inl (by decide)) rfl)).tr (sp_fr_I (Or.inr (by decide)) rfl)
  exact ⟨_, pushr hP.2.2.1 (by omega) _ _, f1.mono (by decide) (by decide), TXR_fr f1 hT (by decide), TKR_fr f1 hK (by decide), pushB_p hP (by omega) hS hk, (f1.1 103 26 (by decide) (by decide)).trans h26, (f1.1 103 30 (by decide) (by decide)).trans h30, (f1.1 103 20 (by decide) (by decide)).trans h20, (f1.1 103 19 (by decide) (by decide)).trans h19, i8_fr f1 (by decide) hC, by rw [List.length_cons]; omega⟩
/-- an and / or: pushed, its step, the next token -/
theorem push_o {k : Nat} (hF : 1000 ≤ F) (h : YC M q n f ord nw p0 Bi p len m lv br) (hS : ev_Seg nw (rcM M (bI ord) len) p len v nn) (hk : k = 12 ∨ k = 13) (hb : len + Bi.length + 2 ≤ nxt q n f) : ∃ M1 M2 M3, fX11_push M (nI (rk k)) (sp_I M 103 23) = some M1 ∧ fX11_emit M1 (nI (rk k)) 0 = some M2 ∧ fX11_next F M2 = some M3 ∧ yfr M M3 ∧ YC M3 q n (nxt q n f) ord nw p0 ((k, v, len) :: Bi) (len + 1) (len + 1) (m + nn) lv br := by
  obtain ⟨hT, hK, hP, h26, h30, h20, h19, hC, hbu⟩ := h
  have hn := hT.1
  have hf := hK.1
  have hg1 := tkT_b (q := q) hK.1
  have hg2 := tkF_b (q := q) hg1.2
  have hnx : nxt q n f ≤ n := hg2.2
  obtain ⟨g2, g3, g4, g5, g6, g7⟩ := hP
  let M1 := sp_setI (sp_setI (sp_setI M 116 Bi.length (nI (rk k))) 117 Bi.length (nI len)) 103 29 (nI (Bi.length + 1))
  let M2 := sp_setI (sp_setI (sp_setI M1 114 len (nI (rk k))) 115 len 0) 103 23 (nI (len + 1))
  have f1 : sp_fr [116, 117] [(103, 29)] M M1 := ((sp_fr_I (Or.inl (by decide)) rfl).tr (sp_fr_I (Or.inl (by decide)) rfl)).tr (sp_fr_I (Or.inr (by decide)) rfl)
  have f2 : sp_fr [114, 115] [(103, 23)] M1 M2 := ((sp_fr_I (Or.inl (by decide)) rfl).tr (sp_fr_I (Or.inl (by decide)) rfl)).tr (sp_fr_I (Or.inr (by decide)) rfl)
  have f12 : sp_fr [114, 115, 116, 117] [(103, 23), (103, 29)] M M2 := (f1.mono (by decide) (by decide)).tr (f2.mono (by decide) (by decide))
  obtain ⟨M3, e1, e2, e3, e4⟩ := next_r hF (TXR_fr f12 hT (by decide)) hg1.2 ((f12.1 103 15 (by decide) (by decide)).trans hK.2.2.1)
  have lS := hS.1
  have o114 : ∀ i, i ≠ len → sp_I M2 114 i = sp_I M 114 i := fun i hi => by rw [I_ne _ _ _ (by decide), I_ne _ _ _ (by decide), I_nf _ _ _ hi, I_ne _ _ _ (by decide), I_ne _ _ _ (by decide), I_ne _ _ _ (by decide)]
  have o115 : ∀ i, i ≠ len → sp_I M2 115 i = sp_I M 115 i := fun i hi => by rw [I_ne _ _ _ (by decide), I_nf _ _ _ hi, I_ne _ _ _ (by decide), I_ne _ _ _ (by decide), I_ne _ _ _ (by decide), I_ne _ _ _ (by decide)]
  have n114 : sp_I M2 114 len = nI (rk k) := by rw [I_ne _ _ _ (by decide), I_ne _ _ _ (by decide), I_eq]
  have hcd : ∀ i, i < len → rcM M2 (bI ord) (len + 1) i = rcM M (bI ord) len i := by
    intro i hi
    unfold rcM ev_rcf
    rw [if_pos (by omega), if_pos hi, o114 i (by omega), o115 i (by omega)]
  have P2 : PSR M2 (bI ord) nw p0 ((k, v, len) :: Bi) (len + 1) (len + 1) (m + nn) := by
    refine ⟨I_eq _ _ _ _, by omega, (f2.1 103 29 (by decide) (by decide)).trans (I_eq _ _ _ _), by rw [List.length_cons]; omega, ⟨by unfold okK; omega, ?_, fun _ => ?_, ?_⟩, ?_⟩
    · rw [fr_A (SA := [116]) (SB := []) f2 (by decide) 116 (by decide), I_ne _ _ _ (by decide), I_ne _ _ _ (by decide)]; exact I_eq _ _ _ _
    · rw [fr_A (SA := [117]) (SB := []) f2 (by decide) 117 (by decide), I_ne _ _ _ (by decide)]; exact I_eq _ _ _ _
    · exact SKR_cg (fr_A (SA := [116]) (SB := []) f2 (by decide) 116 (by decide)) (fr_A (SA := [117]) (SB := []) f2 (by decide) 117 (by decide)) Bi (SKR_push Bi (Nat.le_refl _) g6)
    · unfold Lay
      rw [if_neg (by omega), if_pos hk]
      refine ⟨p, nn, m, Lay_cg Bi p m (fun i _ hi => hcd i (by omega)) g7, ev_Seg_cg hS (fun i _ hi => hcd i hi), rfl, ?_, rfl⟩
      unfold rcM ev_rcf
      rw [if_pos (by omega), n114, rc_o k hk]
  refine ⟨M1, M2, M3, ?_, ?_, e1, (f12.mono (by decide) (by decide)).tr (e2.mono (by decide) (by decide)), e3, e4, PSR_fr e2 (by decide) P2, (e2.1 103 26 (by decide) (by decide)).trans ((f12.1 103 26 (by decide) (by decide)).trans h26), (e2.1 103 30 (by decide) (by decide)).trans ((f12.1 103 30 (by decide) (by decide)).trans h30), (e2.1 103 20 (by decide) (by decide)).trans ((f12.1 103 20 (by decide) (by decide)).trans h20), (e2.1 103 19 (by decide) (by decide)).trans ((f12.1 103 19 (by decide) (by decide)).trans h19), i8_fr e2 (by decide) (i8_fr f12 (by decide) hC), by rw [List.length_cons]; omega⟩
  · rw [g2]; exact pushr g4 (by omega) _ _
  · exact emit_r ((f1.1 103 23 (by decide) (by decide)).trans g2) (by omega) _ _
/-- the bracket goes from the pile -/
theorem pop_y {k a : Nat} {g : ev_S} (h : YC M q n f ord nw p0 ((k, g, a) :: Bi) p len m lv br) (hk : k = 22 ∨ k = 23) (hbr : 1 ≤ br) (hbr8 : br ≤ 8) : ∃ M', sp_setI (sp_setI M 103 29 (sp_I M 103 29 - 1)) 103 30 (sp_I (sp_setI M 103 29 (sp_I M 103 29 - 1)) 103 30 - 1) = M' ∧ sp_fr [] [(103, 29), (103, 30)] M M' ∧ YC M' q n f ord nw p0 Bi p len m lv (br - 1) := by
  obtain ⟨hT, hK, hP, h26, h30, h20, h19, hC, hbu⟩ := h
  obtain ⟨g2, g3, g4, g5, g6, g7⟩ := hP
  rw [List.length_cons] at g4 g5 hbu
  have f1 : sp_fr [] [(103, 29), (103, 30)] M (sp_setI (sp_setI M 103 29 (sp_I M 103 29 - 1)) 103 30 (sp_I (sp_setI M 103 29 (sp_I M 103 29 - 1)) 103 30 - 1)) := (sp_fr_I (Or.inr (by decide)) rfl).tr (sp_fr_I (Or.inr (by decide)) rfl)
  refine ⟨_, rfl, f1, TXR_fr f1 hT (by decide), TKR_fr f1 hK (by decide), ⟨(f1.1 103 23 (by decide) (by decide)).trans g2, g3, ?_, by omega, SKR_cg (fr_A (SA := [116]) (SB := []) f1 (by decide) 116 (by decide)) (fr_A (SA := [117]) (SB := []) f1 (by decide) 117 (by decide)) Bi g6.2.2.2, ?_⟩, (f1.1 103 26 (by decide) (by decide)).trans h26, ?_, (f1.1 103 20 (by decide) (by decide)).trans h20, (f1.1 103 19 (by decide) (by decide)).trans h19, i8_fr f1 (by decide) hC, by omega⟩
  · rw [I_nf _ _ _ (by decide), I_eq, g4]
    exact nI_sub (a := Bi.length + 1) (b := 1) (by omega) (by omega)
  · unfold Lay at g7
    rw [if_neg (by omega), if_neg (by omega)] at g7
    unfold rcM
    rw [fr_A (SA := [114]) (SB := []) f1 (by decide) 114 (by decide), fr_A (SA := [115]) (SB := []) f1 (by decide) 115 (by decide)]
    exact g7
  · rw [I_eq, I_nf _ _ _ (by decide), h30]
    exact nI_sub (b := 1) (by omega) (by omega)
end YBeh
