/-! ===== expressions: the reference's loop follows the machine ===== -/
theorem set_sf {F : Nat} {kx : sp_Mem → Option sp_Mem} : ∀ (Bi : List (Nat × ev_S × Nat)) (kf : Nat) (M : sp_Mem) (len : Nat), Bi.length < kf → sp_I M 103 23 = nI len → sp_I M 103 29 = nI Bi.length → len + Bi.length ≤ 400 → SKR M Bi → (∀ x ∈ Bi, x.1 = 12 ∨ x.1 = 13 → x.2.2 < 400) → ∃ M', fX11_settle_l0 F kx kf 1 M = kx M' ∧ sp_fr [114, 115] [(103, 23), (103, 29)] M M'
  | [], kf, M, len, hk, h23, h29, hl, hs, hp => by
    obtain ⟨kf, rfl⟩ : ∃ m, kf = m + 1 := ⟨kf - 1, by omega⟩
    refine ⟨M, ?_, sp_fr.refl _ _ _⟩
    rw [fX11_settle_l0, h29, if_pos (show nI ([] : List (Nat × ev_S × Nat)).length ≤ 0 from Int32.le_refl _)]
  | (k, g, a) :: A, kf, M, len, hk, h23, h29, hl, hs, hp => by
    obtain ⟨kf, rfl⟩ : ∃ m, kf = m + 1 := ⟨kf - 1, by omega⟩
    rw [List.length_cons] at hk h29 hl
    have hk24 : k < 24 := by have := hs.1; unfold okK at this; omega
    have hrk := rk_e k hk24 hs.1
    have hsub : nI (A.length + 1) - 1 = nI A.length := nI_sub (a := A.length + 1) (b := 1) (by omega) (by omega)
    have iA : sp_ix 400 (nI A.length) = some A.length := sp_ix_nI (show A.length < 400 by omega) (by omega)
    rw [fX11_settle_l0, h29, if_neg (show ¬ nI (A.length + 1) ≤ 0 from nI_ge (a := 0) (by omega) (by omega)), hsub, iA, Option.bind_some, hs.2.1]
    by_cases hb : fX11_binds (nI (rk k)) < 1
    · exact ⟨M, by rw [if_pos hb], sp_fr.refl _ _ _⟩
    · rw [if_neg hb]
      simp only [sp_do]
      have e4 : sp_I (sp_setI M 103 29 (nI A.length)) 103 29 = nI A.length := I_eq _ _ _ _
      have e116 : sp_I (sp_setI M 103 29 (nI A.length)) 116 A.length = nI (rk k) := (congrFun (I_ne _ _ _ (by decide)) _).trans hs.2.1
      have e23 : sp_I (sp_setI M 103 29 (nI A.length)) 103 23 = nI len := (I_nf _ _ _ (by decide)).trans h23
      have hp' : ∀ x ∈ A, x.1 = 12 ∨ x.1 = 13 → x.2.2 < 400 := fun x hx => hp x (List.mem_cons_of_mem _ hx)
      rw [e4, iA, Option.bind_some, e116]
      by_cases hao : k = 12 ∨ k = 13
      · have ha : a < 400 := hp (k, g, a) (by simp) hao
        have e117 : sp_I (sp_setI M 103 29 (nI A.length)) 117 A.length = nI a := (congrFun (I_ne _ _ _ (by decide)) _).trans (hs.2.2.1 hao)
        let M1 := sp_setI (sp_setI M 103 29 (nI A.length)) 115 a (nI len)
        have f1 : sp_fr [114, 115] [(103, 23), (103, 29)] M M1 := (sp_fr_I (Or.inr (by decide)) rfl).tr (sp_fr_I (Or.inl (by decide)) rfl)
        obtain ⟨M', r1, r2⟩ := set_sf (F := F) (kx := kx) A kf M1 len (by omega) (by rw [I_ne _ _ _ (by decide)]; exact e23) (by rw [I_ne _ _ _ (by decide)]; exact e4) (by omega) (SKR_cg (by rw [I_ne _ _ _ (by decide), I_ne _ _ _ (by decide)]) (by rw [I_ne _ _ _ (by decide), I_ne _ _ _ (by decide)]) A hs.2.2.2) hp'
        have j63 : fX11_settle_j63 F (fX11_settle_l0 F kx kf) kx 1 (sp_setI M 103 29 (nI A.length)) = fX11_settle_l0 F kx kf 1 M1 := by
          unfold fX11_settle_j63
          rw [e4, iA, Option.bind_some, e117, sp_ix_nI ha (by omega), Option.bind_some, e23]
          rfl
        refine ⟨M', ?_, f1.tr r2⟩
        rw [← r1]
        by_cases h12 : k = 12
        · rw [if_pos (hrk.2.1.2 h12)]; exact j63
        · rw [if_neg (fun w => h12 (hrk.2.1.1 w)), Option.bind_some, e116, if_pos (hrk.2.2.2 (by omega))]; exact j63
      · have n29 : ¬ nI (rk k) = 29 := fun w => hao (Or.inl (hrk.2.1.1 w))
        have n30 : ¬ nI (rk k) = 30 := fun w => hao (Or.inr (hrk.2.2.1 w))
        let M1 := sp_setI (sp_setI (sp_setI (sp_setI M 103 29 (nI A.length)) 114 len (nI (rk k))) 115 len 0) 103 23 (nI (len + 1))
        have f1 : sp_fr [114, 115] [(103, 23), (103, 29)] M M1 := (((sp_fr_I (Or.inr (by decide)) rfl).tr (sp_fr_I (Or.inl (by decide)) rfl)).tr (sp_fr_I (Or.inl (by decide)) rfl)).tr (sp_fr_I (Or.inr (by decide)) rfl)
        obtain ⟨M', r1, r2⟩ := set_sf (F := F) (kx := kx) A kf M1 (len + 1) (by omega) (I_eq _ _ _ _) (by rw [I_nf _ _ _ (by decide), I_ne _ _ _ (by decide), I_ne _ _ _ (by decide)]; exact e4) (by omega) (SKR_cg (by rw [I_ne _ _ _ (by decide), I_ne _ _ _ (by decide), I_ne _ _ _ (by decide), I_ne _ _ _ (by decide)]) (by rw [I_ne _ _ _ (by decide), I_ne _ _ _ (by decide), I_ne _ _ _ (by decide), I_ne _ _ _ (by decide)]) A hs.2.2.2) hp'
        refine ⟨M', ?_, f1.tr r2⟩
        rw [← r1, if_neg n29, Option.bind_some, e116, if_neg n30, Option.bind_some, e116, emit_r e23 (by omega), Option.bind_some]
theorem TLc {base : Nat} (hB : base = 20 ∨ base = 21) : ∀ {B : Sk}, TL B → TL (cnc base B) := by
  intro B
  induction B with
  | nil =>
    intro _ x hx hk
    rcases List.mem_cons.mp hx with e | e
    · rw [e] at hk
      have hk : base = 12 ∨ base = 13 := hk
      omega
    · cases e
  | cons x B ih =>
    intro hL
    have i := ih (fun y hy => hL y (List.mem_cons_of_mem _ hy))
    by_cases c : x.1 = 11 ∧ tpk (cnc base B) = 11
    · rw [cnc_1 c]; exact fun y hy => i y (List.mem_of_mem_tail hy)
    · rw [cnc_2 c]
      intro y hy
      rcases List.mem_cons.mp hy with e | e
      · rw [e]; exact hL x (by simp)
      · exact i y e
/-- the machine's step behind an operand takes a token -/
theorem stB_wf {q : Nat → Nat} {n f lv br : Nat} {A : Sk} {v : ev_S} {td : Bool} (hf : f ≤ n) (hbr : br ≤ 8) :
  (∀ s, stB q n (f, A, v, td, lv, br) = .inr (.inl s) → f + 1 ≤ s.1 ∧ s.1 ≤ n ∧ s.2.2.1 = lv ∧ s.2.2.2 ≤ 8) ∧
  (∀ s, stB q n (f, A, v, td, lv, br) = .inr (.inr s) → f + 1 ≤ s.1 ∧ s.1 ≤ n ∧ s.2.2.2.2.1 = lv ∧ s.2.2.2.2.2 ≤ 8) := by
  have bz : bnd 0 = 0 := rfl
  have pu : jnK q n f ≠ 0 → f + 1 ≤ nxt q n f ∧ nxt q n f ≤ n := fun z => nxt_gt hf (jnK_S z)
  have cl : ∀ b, sg q n f b = true → f + 1 ≤ nxt q n f ∧ nxt q n f ≤ n := fun b z => nxt_gt hf (by rw [(sg_S z).1]; decide)
  unfold stB
  dsimp only
  by_cases c1 : 5 ≤ bnd (jnK q n f) ∧ td = false
  · rw [if_pos c1]
    refine ⟨fun s e => ?_, fun s e => (by cases e)⟩
    cases e
    have := pu (fun z => by rw [z, bz] at c1; omega)
    exact ⟨this.1, this.2, rfl, hbr⟩
  rw [if_neg c1]
  by_cases c2 : bnd (jnK q n f) = 4 ∧ td = false ∧ cTB (tpk (fo 5 A v).1) = true
  · rw [if_pos c2]
    refine ⟨fun s e => ?_, fun s e => (by cases e)⟩
    cases e
    have := pu (fun z => by rw [z, bz] at c2; omega)
    exact ⟨this.1, this.2, rfl, hbr⟩
  rw [if_neg c2]
  by_cases c3 : (bnd (jnK q n f) = 1 ∨ bnd (jnK q n f) = 2) ∧ (td = true ∨ bnd (tpk (fo 5 A v).1) = 4)
  · rw [if_pos c3]
    refine ⟨fun s e => ?_, fun s e => (by cases e)⟩
    cases e
    have := pu (fun z => by rw [z, bz] at c3; omega)
    exact ⟨this.1, this.2, rfl, hbr⟩
  rw [if_neg c3]
  by_cases c4 : sg q n f 41 = true ∧ (td = true ∨ bnd (tpk (fo 5 A v).1) = 4)
  · rw [if_pos c4]
    by_cases c5 : tpk (fo 1 (fo 5 A v).1 (fo 5 A v).2).1 = 23
    · rw [if_pos c5]
      refine ⟨fun s e => (by cases e), fun s e => ?_⟩
      cases e
      have := cl _ c4.1
      exact ⟨this.1, this.2, rfl, by show br - 1 ≤ 8; omega⟩
    · rw [if_neg c5]
      exact ⟨fun s e => (by cases e), fun s e => (by cases e)⟩
  rw [if_neg c4]
  by_cases c6 : sg q n f 93 = true ∧ tpk (fo 5 A v).1 = 22
  · rw [if_pos c6]
    refine ⟨fun s e => (by cases e), fun s e => ?_⟩
    cases e
    have := cl _ c6.1
    exact ⟨this.1, this.2, rfl, by show br - 1 ≤ 8; omega⟩
  rw [if_neg c6]
  by_cases c7 : tpk (fo 5 A v).1 = 20
  · rw [if_pos c7]
    exact ⟨fun s e => (by cases e), fun s e => (by cases e)⟩
  rw [if_neg c7]
  by_cases c8 : td = true ∨ bnd (tpk (fo 5 A v).1) = 4
  · rw [if_pos c8]
    by_cases c9 : tpk (fo 1 (fo 5 A v).1 (fo 5 A v).2).1 = 21
    · rw [if_pos c9]
      exact ⟨fun s e => (by cases e), fun s e => (by cases e)⟩
    · rw [if_neg c9]
      exact ⟨fun s e => (by cases e), fun s e => (by cases e)⟩
  · rw [if_neg c8]
    exact ⟨fun s e => (by cases e), fun s e => (by cases e)⟩
/-- the reference has read an expression -/
def DR (M : sp_Mem) (q : Nat → Nat) (n f : Nat) (ord : Bool) (nw : Nat) (p0 : PP) (v : ev_S) (t lv : Nat) : Prop := sp_I M 103 26 = nI lv ∧ sp_I M 103 20 = bI ord ∧ ∃ len, len ≤ f ∧ sp_I M 103 23 = nI len ∧ ev_Seg nw (rcM M (bI ord) len) p0.1 len v t ∧ ∀ i, i < p0.1 → rcM M (bI ord) len i = p0.2 i
def OY (M : sp_Mem) (q : Nat → Nat) (n : Nat) (ord : Bool) (nw : Nat) (p0 : PP) (o : Nat × Nat × ev_S × Nat) : Prop := TXR M q n ∧ i_C M ∧ (o.1 = 0 → sp_I M 103 19 = 1 ∧ sp_I M 103 18 = nI o.2.1) ∧ (o.1 ≠ 0 → TKR M q n o.2.1 ∧ sp_I M 103 19 = 0 ∧ i8 M ∧ ∃ t, t ≤ o.2.2.2 ∧ o.2.2.2 ≤ 50 ∧ DR M q n o.2.1 ord nw p0 o.2.2.1 t o.2.2.2)
section YRun
variable {p0 : PP} {F n base : Nat} {q : Nat → Nat} {ord : Bool}
theorem end_f {M : sp_Mem} {f : Nat} (hF : 1000 ≤ F) (h : FS M q n f) : ∃ M', ((fX11_settle F M 1).bind fun M14 => some M14) = some M' ∧ yfr M M' ∧ TXR M' q n ∧ i_C M' ∧ sp_I M' 103 19 = 1 ∧ sp_I M' 103 18 = nI f := by
  obtain ⟨hT, h19, h18, hC, Bi, len, g1, g2, g3, g4, g5⟩ := h
  obtain ⟨M', e1, e2⟩ := set_sf (F := F) (kx := fun M14 => some M14) Bi F M len (by omega) g1 g2 g3 g4 g5
  refine ⟨M', ?_, e2.mono (by decide) (by decide), TXR_fr e2 hT (by decide), i_C_fr e2 (by decide) hC, (e2.1 103 19 (by decide) (by decide)).trans h19, (e2.1 103 18 (by decide) (by decide)).trans h18⟩
  unfold fX11_settle
  rw [e1, Option.bind_some]
theorem end_d {M : sp_Mem} {f t lv br : Nat} {B : Sk} {v : ev_S} {td : Bool} (hF : 1000 ≤ F) (hB : base = 20 ∨ base = 21) (h : BR M q n f ord (nwO ord) p0 base B v td t lv br) (ho : Fok 1 B v) (ht : tpk (fo 1 (cnc base B) v).1 = 20 ∨ tpk (fo 1 (cnc base B) v).1 = 21) : ∃ M', ((fX11_settle F M 1).bind fun M14 => some M14) = some M' ∧ yfr M M' ∧ TXR M' q n ∧ i8 M' ∧ TKR M' q n f ∧ sp_I M' 103 19 = 0 ∧ DR M' q n f ord (nwO ord) p0 (fo 1 (cnc base B) v).2 t lv := by
  obtain ⟨Bi, p, len, m, nn, rfl, hY, hS, htt, hWB, hw, hL, htd⟩ := h
  have FC := fo_cnc (b := 1) (by omega) hB (drp Bi) v hWB
  have W := fo_wf (b := 1) (by omega) (b0 hB) _ br v hw
  obtain ⟨M', Bi1, p1, len1, m1, n1, e1, e2, e3, e4, e5, e6, e7⟩ := settle_w (b := 1) hF (by omega) (by omega) hY hS ho
  have hnil : Bi1 = [] := by
    cases hc : Bi1 with
    | nil => rfl
    | cons x B0 =>
      exfalso
      obtain ⟨k, g, a⟩ := x
      rw [hc] at e6 e3
      have e6 : (k, g) :: drp B0 = (fo 1 (drp Bi) v).1 := e6
      have hok : okK k := e3.2.2.1.2.2.2.2.1.1
      have n11 : k ≠ 11 := by
        intro z
        have : ∀ (B : Sk) (v : ev_S), tpk (fo 1 B v).1 ≠ 11 := by
          intro B
          induction B with
          | nil => intro v; exact (show 0 ≠ 11 by decide)
          | cons x B ih =>
            intro v
            obtain ⟨k, g⟩ := x
            by_cases hb : bnd k < 1
            · rw [show fo 1 ((k, g) :: B) v = ((k, g) :: B, v) from if_pos hb]
              intro w
              have w : k = 11 := w
              rw [w] at hb
              exact absurd hb (by decide)
            · rw [show fo 1 ((k, g) :: B) v = fo 1 B (xpp k g v) from if_neg hb]
              exact ih _
        apply this (drp Bi) v
        rw [← e6]
        exact z
      rw [FC] at ht
      dsimp only at ht
      rw [← e6, cnc_2 (x := (k, g)) (fun w => n11 w.1)] at ht
      have ht : k = 20 ∨ k = 21 := ht
      unfold okK at hok
      omega
  subst hnil
  obtain ⟨hT, hK, hP, h26, h30, h20, h19, hC, hbu⟩ := e3
  obtain ⟨g2, g3, g4, g5, g6, g7⟩ := hP
  obtain ⟨rfl, rfl, l3⟩ := g7
  refine ⟨M', by rw [show fX11_settle F M 1 = some M' from e1, Option.bind_some], e2.mono (by decide) (by decide), hT, hC, hK, h19, h26, h20, len1, by have hbu : len1 + 0 ≤ f := hbu; omega, g2, ?_, l3⟩
  rw [FC]
  have : n1 = t := by omega
  rw [← this]
  exact e4
theorem run_y (hF : 1000 ≤ F) (hB : base = 20 ∨ base = 21) : ∀ (mm kf : Nat) (M : sp_Mem) (f t lv br : Nat) (B : Sk), n - f < mm → 4 * mm ≤ kf → br ≤ 8 → t ≤ lv → lv ≤ 50 →
  (ER M q n f ord (nwO ord) p0 base B t lv br → ∃ M', fX11_readExpression_l20 F (fun M13 => (fX11_settle F M13 1).bind fun M14 => some M14) kf (bI (decide (base = 21))) (rsE (cnc base B)) M = some M' ∧ yfr M M' ∧ OY M' q n ord (nwO ord) p0 (xrun q n ord mm (.inl (f, cnc base B, lv, br)))) ∧
  (∀ (v : ev_S) (td : Bool), BR M q n f ord (nwO ord) p0 base B v td t lv br → ∃ M', fX11_readExpression_l20 F (fun M13 => (fX11_settle F M13 1).bind fun M14 => some M14) kf (bI (decide (base = 21))) (stN td) M = some M' ∧ yfr M M' ∧ OY M' q n ord (nwO ord) p0 (xrun q n ord mm (.inr (f, cnc base B, v, td, lv, br))))
  | 0, _, _, _, _, _, _, _, h, _, _, _, _ => by omega
  | mm + 1, kf, M, f, t, lv, br, B, hm, hk, hbr, ht, hlv => by
    obtain ⟨kf, rfl⟩ : ∃ m, kf = m + 4 := ⟨kf - 4, by omega⟩
    have goE : ∀ (M1 : sp_Mem) (s : StE) (t1 k' : Nat) (B' : Sk), yfr M M1 → cnc base B' = s.2.1 → ER M1 q n s.1 ord (nwO ord) p0 base B' t1 s.2.2.1 s.2.2.2 → f + 1 ≤ s.1 → s.1 ≤ n → s.2.2.2 ≤ 8 → t1 ≤ s.2.2.1 → s.2.2.1 ≤ 50 → kf + 2 ≤ k' → ∃ M', fX11_readExpression_l20 F (fun M13 => (fX11_settle F M13 1).bind fun M14 => some M14) k' (bI (decide (base = 21))) (rsE s.2.1) M1 = some M' ∧ yfr M M' ∧ OY M' q n ord (nwO ord) p0 (xrun q n ord mm (.inl s)) := by
      intro M1 s t1 k' B' f1 hc e1 e2 e2n e3 e4 e5 e6
      obtain ⟨M', r1, r2, r3⟩ := (run_y hF hB mm k' M1 s.1 t1 s.2.2.1 s.2.2.2 B' (by omega) (by omega) e3 e4 e5).1 e1
      rw [hc] at r1 r3
      exact ⟨M', r1, f1.tr r2, r3⟩
    have goB : ∀ (M1 : sp_Mem) (s : StB) (t1 k' : Nat) (B' : Sk), yfr M M1 → cnc base B' = s.2.1 → BR M1 q n s.1 ord (nwO ord) p0 base B' s.2.2.1 s.2.2.2.1 t1 s.2.2.2.2.1 s.2.2.2.2.2 → f + 1 ≤ s.1 → s.1 ≤ n → s.2.2.2.2.2 ≤ 8 → t1 ≤ s.2.2.2.2.1 → s.2.2.2.2.1 ≤ 50 → kf + 2 ≤ k' → ∃ M', fX11_readExpression_l20 F (fun M13 => (fX11_settle F M13 1).bind fun M14 => some M14) k' (bI (decide (base = 21))) (stN s.2.2.2.1) M1 = some M' ∧ yfr M M' ∧ OY M' q n ord (nwO ord) p0 (xrun q n ord mm (.inr s)) := by
      intro M1 s t1 k' B' f1 hc e1 e2 e2n e3 e4 e5 e6
      obtain ⟨M', r1, r2, r3⟩ := (run_y hF hB mm k' M1 s.1 t1 s.2.2.2.2.1 s.2.2.2.2.2 B' (by omega) (by omega) e3 e4 e5).2 s.2.2.1 s.2.2.2.1 e1
      rw [hc] at r3
      exact ⟨M', r1, f1.tr r2, r3⟩
    refine ⟨fun h => ?_, fun v td h => ?_⟩
    · have hh := h
      obtain ⟨Bi, len, rfl, hY, hWB, hw, hL⟩ := h
      have hfn := hY.2.1.1
      have hn := hY.1.1
      have S := yste_r (kx := fun M13 => (fX11_settle F M13 1).bind fun M14 => some M14) (kf := kf + 2) (a1 := bI (decide (base = 21))) hF hB hbr hlv hh
      rw [xrun]
      cases hE : stE q n ord (f, cnc base (drp Bi), lv, br) with
      | inl f1 =>
        obtain ⟨M1, e1, e2, e3⟩ := S.1 f1 hE
        obtain ⟨M', r1, r2, r3, r4, r5, r6⟩ := end_f hF e3
        exact ⟨M', e1.trans r1, e2.tr r2, r3, r4, fun _ => ⟨r5, r6⟩, fun z => (z rfl).elim⟩
      | inr st =>
        cases st with
        | inl s =>
          obtain ⟨M1, B', e1, e2, e3, e4⟩ := S.2.1 s hE
          have hL2 : f + 1 ≤ s.1 ∧ s.2.2.1 = lv ∧ s.2.2.2 ≤ 8 := by
            have := (stE_wf (q := q) (ord := ord) (n := n) (f := f) (lv := lv) (br := br) (base := base) (A := cnc base (drp Bi)) hB hfn hbr hlv hw (TLc hB hL)).1 s hE
            exact ⟨this.2.2.1, this.2.2.2.1, this.2.2.2.2⟩
          have hs : s.1 ≤ n := by
            obtain ⟨_, _, _, hY2, _⟩ := e4
            exact hY2.2.1.1
          dsimp only
          rw [e1]
          exact goE M1 s t _ B' e2 e3 e4 hL2.1 hs hL2.2.2 (by omega) (by omega) (by omega)
        | inr s =>
          obtain ⟨M1, e1, e2, e3, e4, e5⟩ := S.2.2 s hE
          have hL2 := (stE_wf (q := q) (ord := ord) (n := n) (f := f) (lv := lv) (br := br) (base := base) (A := cnc base (drp Bi)) hB hfn hbr hlv hw (TLc hB hL)).2 s hE
          have hs : s.1 ≤ n := (BR_Y e4).2.1.1
          have g := goB M1 s (t + 1) (kf + 2 + 1) (drp Bi) e2 e3.symm (by rw [e5]; exact e4) hL2.2.2.1 hs (by omega) (by omega) (by omega) (by omega)
          rw [e5] at g
          dsimp only
          rw [e1]
          exact g
    · have hfn := (BR_Y h).2.1.1
      have S := ystb_r (kx := fun M13 => (fX11_settle F M13 1).bind fun M14 => some M14) (kf := kf) hF hB hbr h
      have P := stB_wf (q := q) (n := n) (f := f) (lv := lv) (br := br) (A := cnc base B) (v := v) (td := td) hfn hbr
      rw [xrun]
      cases hE : stB q n (f, cnc base B, v, td, lv, br) with
      | inl o =>
        have So := S.1 o hE
        by_cases z : o.1 = 0
        · obtain ⟨M1, e1, e2, e3⟩ := So.1 z
          obtain ⟨M', r1, r2, r3, r4, r5, r6⟩ := end_f hF e3
          exact ⟨M', e1.trans r1, e2.tr r2, r3, r4, fun _ => ⟨r5, r6⟩, fun w => (w z).elim⟩
        · obtain ⟨e1, e2, e3, e4⟩ := So.2 z
          obtain ⟨M', r1, r2, r3, r4, r5, r6, r7⟩ := end_d hF hB h e2 e4
          rw [e3] at r7
          exact ⟨M', e1.trans r1, r2, r3, r4.1, fun w => (z w).elim, fun _ => ⟨r5, r6, r4, t, ht, hlv, r7⟩⟩
      | inr st =>
        cases st with
        | inl s =>
          obtain ⟨M1, B', k', e0, e1, e2, e3, e4⟩ := S.2.1 s hE
          obtain ⟨p1, p2, p3, p4⟩ := P.1 s hE
          dsimp only
          rw [e1]
          exact goE M1 s t k' B' e2 e3 e4 p1 p2 p4 (by omega) (by omega) e0
        | inr s =>
          obtain ⟨M1, B', k', e0, e1, e2, e3, e4⟩ := S.2.2 s hE
          obtain ⟨p1, p2, p3, p4⟩ := P.2 s hE
          dsimp only
          rw [e1]
          exact goB M1 s t k' B' e2 e3 e4 p1 p2 p4 (by omega) (by omega) e0
end YRun
