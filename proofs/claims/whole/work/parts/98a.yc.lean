/-! ===== expressions: the reference's context ===== -/
/-- the words' codes, and no fault so far -/
def i8 (M : sp_Mem) : Prop := i_C M ∧ sp_I M 103 18 = -1
theorem i8_fr {A : List Nat} {B : List (Nat × Nat)} {M M' : sp_Mem} (h : sp_fr A B M M') (hd : dj [118, 119, 120, 129] [(77, 2), (77, 3), (103, 18)] A B = true) (ht : i8 M) : i8 M' := ⟨i_C_fr h (dj_sub (by decide) (by decide) hd) ht.1, (fr_B h hd 103 18 (by decide)).trans ht.2⟩
def YC (M : sp_Mem) (q : Nat → Nat) (n f : Nat) (ord : Bool) (nw : Nat) (p0 : PP) (Bi : List (Nat × ev_S × Nat)) (p len m lv br : Nat) : Prop := TXR M q n ∧ TKR M q n f ∧ PSR M (bI ord) nw p0 Bi p len m ∧ sp_I M 103 26 = nI lv ∧ sp_I M 103 30 = nI br ∧ sp_I M 103 20 = bI ord ∧ sp_I M 103 19 = 0 ∧ i8 M ∧ len + Bi.length ≤ f
abbrev yfr (M M' : sp_Mem) : Prop := sp_fr [114, 115, 116, 117] [(103, 14), (103, 15), (103, 16), (103, 17), (103, 18), (103, 19), (103, 23), (103, 26), (103, 29), (103, 30)] M M'
/-- settling can't go wrong -/
def SFE (M : sp_Mem) : Prop := ∃ (Bi : List (Nat × ev_S × Nat)) (len : Nat), sp_I M 103 23 = nI len ∧ sp_I M 103 29 = nI Bi.length ∧ len + Bi.length ≤ 400 ∧ SKR M Bi ∧ ∀ x ∈ Bi, x.1 = 12 ∨ x.1 = 13 → x.2.2 < 400
/-- the reference has failed at f -/
def FS (M : sp_Mem) (q : Nat → Nat) (n f : Nat) : Prop := TXR M q n ∧ sp_I M 103 19 = 1 ∧ sp_I M 103 18 = nI f ∧ i_C M ∧ SFE M
theorem Lay_pl {nw : Nat} {p0 : PP} {code : Nat → Int32 × Int32} : ∀ (A : List (Nat × ev_S × Nat)) (cur m : Nat), Lay nw code p0 A cur m → ∀ x ∈ A, x.1 = 12 ∨ x.1 = 13 → x.2.2 < cur
  | [], _, _, _, x, hx, _ => by cases hx
  | (k, g, a) :: A, cur, m, h, x, hx, hk => by
    unfold Lay at h
    by_cases h1 : (3 ≤ k ∧ k ≤ 10)
    · rw [if_pos h1] at h
      obtain ⟨p, n, m', h2, h3, _⟩ := h
      have l := h3.1
      rcases List.mem_cons.mp hx with e | e
      · rw [e] at hk
        have hk : k = 12 ∨ k = 13 := hk
        omega
      · have := Lay_pl A p m' h2 x e hk
        omega
    · rw [if_neg h1] at h
      by_cases h2 : k = 12 ∨ k = 13
      · rw [if_pos h2] at h
        obtain ⟨p, n, m', h2, h3, h4, _⟩ := h
        have l := h3.1
        rcases List.mem_cons.mp hx with e | e
        · rw [e]
          show a < cur
          omega
        · have := Lay_pl A p m' h2 x e hk
          omega
      · rw [if_neg h2] at h
        rcases List.mem_cons.mp hx with e | e
        · rw [e] at hk
          exact (h2 hk).elim
        · exact Lay_pl A cur m h x e hk
theorem PSR_fr {M M' : sp_Mem} {ord : Int32} {p0 : PP} {nw p len m : Nat} {Bi : List (Nat × ev_S × Nat)} {A : List Nat} {B : List (Nat × Nat)} (hf : sp_fr A B M M') (hd : dj [114, 115, 116, 117] [(103, 23), (103, 29)] A B = true) (h : PSR M ord nw p0 Bi p len m) : PSR M' ord nw p0 Bi p len m := by
  obtain ⟨g2, g3, g4, g5, g6, g7⟩ := h
  refine ⟨(fr_B hf hd 103 23 (by decide)).trans g2, g3, (fr_B hf hd 103 29 (by decide)).trans g4, g5, SKR_cg (fr_A hf hd 116 (by decide)) (fr_A hf hd 117 (by decide)) Bi g6, ?_⟩
  unfold rcM
  rw [fr_A hf hd 114 (by decide), fr_A hf hd 115 (by decide)]
  exact g7
theorem SFE_fr {M M' : sp_Mem} {A : List Nat} {B : List (Nat × Nat)} (hf : sp_fr A B M M') (hd : dj [116, 117] [(103, 23), (103, 29)] A B = true) (h : SFE M) : SFE M' := by
  obtain ⟨Bi, len, g1, g2, g3, g4, g5⟩ := h
  exact ⟨Bi, len, (fr_B hf hd 103 23 (by decide)).trans g1, (fr_B hf hd 103 29 (by decide)).trans g2, g3, SKR_cg (fr_A hf hd 116 (by decide)) (fr_A hf hd 117 (by decide)) Bi g4, g5⟩
theorem TKR_fr {M M' : sp_Mem} {q : Nat → Nat} {n f : Nat} {A : List Nat} {B : List (Nat × Nat)} (hf : sp_fr A B M M') (h : TKR M q n f) (hd : dj [] [(103, 14), (103, 15), (103, 16), (103, 17)] A B = true) : TKR M' q n f := ⟨h.1, (fr_B hf hd 103 14 (by decide)).trans h.2.1, (fr_B hf hd 103 15 (by decide)).trans h.2.2.1, (fr_B hf hd 103 16 (by decide)).trans h.2.2.2.1, (hf.2.1 103 17 (dj_B (i := 103) (j := 17) hd (by decide)).1 (dj_B (i := 103) (j := 17) hd (by decide)).2).trans h.2.2.2.2⟩
section Yc
variable {p0 : PP} {F n f nw len m lv br p : Nat} {q : Nat → Nat} {ord : Bool} {M : sp_Mem} {Bi : List (Nat × ev_S × Nat)}
theorem SFE_of (h : PSR M (bI ord) nw p0 Bi p len m) (hp : p ≤ 400) (hb : len + Bi.length ≤ 400) : SFE M := by
  obtain ⟨g2, g3, g4, g5, g6, g7⟩ := h
  refine ⟨Bi, len, g2, g4, hb, g6, fun x hx hk => ?_⟩
  have := Lay_pl Bi p m g7 x hx hk
  omega
/-- a token that must not stand here -/
theorem must_0 (h19 : sp_I M 103 19 = 0) (h : TXR M q n) (hK : TKR M q n f) (hC : i_C M) (hs : SFE M) : ∃ M', fX11_must F M 0 = some M' ∧ sp_fr [] [(103, 18), (103, 19)] M M' ∧ FS M' q n f := by
  let M1 := sp_setI M 103 19 1
  let M2 := sp_setI M1 103 18 (sp_I M1 103 14)
  have f2 : sp_fr [] [(103, 18), (103, 19)] M M2 := (sp_fr_I (Or.inr (by decide)) rfl).tr (sp_fr_I (Or.inr (by decide)) rfl)
  have e19 : sp_I M2 103 19 = 1 := (I_nf _ _ _ (by decide)).trans (I_eq _ _ _ _)
  have e18 : sp_I M2 103 18 = nI f := (I_eq _ _ _ _).trans ((I_nf _ _ _ (by decide)).trans hK.2.1)
  refine ⟨M2, ?_, f2, TXR_fr f2 h (by decide), e19, e18, i_C_fr f2 (by decide) hC, SFE_fr f2 (by decide) hs⟩
  unfold fX11_must
  rw [if_pos h19, if_pos rfl]
  simp only [sp_do]
  rw [if_neg (show ¬ sp_I (sp_setI (sp_setI M 103 19 1) 103 18 (sp_I (sp_setI M 103 19 1) 103 14)) 103 19 = 0 by rw [show sp_I (sp_setI (sp_setI M 103 19 1) 103 18 (sp_I (sp_setI M 103 19 1) 103 14)) 103 19 = 1 from e19]; decide)]
theorem must_1 (h19 : sp_I M 103 19 = 0) {a : Int32} (ha : ¬ a = 0) {M' : sp_Mem} (hn : fX11_next F M = some M') : fX11_must F M a = some M' := by
  unfold fX11_must
  rw [if_pos h19, if_neg ha, if_pos h19, hn, Option.bind_some]
theorem YC_next (hF : 1000 ≤ F) (h : YC M q n f ord nw p0 Bi p len m lv br) : ∃ M', fX11_next F M = some M' ∧ sp_fr [] [(103, 14), (103, 15), (103, 16), (103, 17)] M M' ∧ YC M' q n (nxt q n f) ord nw p0 Bi p len m lv br := by
  obtain ⟨hT, hK, hP, h26, h30, h20, h19, hC, hb⟩ := h
  have hg := tkT_b (q := q) hK.1
  have hg2 := tkF_b (q := q) hg.2
  obtain ⟨M', e1, e2, e3, e4⟩ := next_r hF hT hg.2 hK.2.2.1
  exact ⟨M', e1, e2, e3, e4, PSR_fr e2 (by decide) hP, (e2.1 103 26 (by decide) (by decide)).trans h26, (e2.1 103 30 (by decide) (by decide)).trans h30, (e2.1 103 20 (by decide) (by decide)).trans h20, (e2.1 103 19 (by decide) (by decide)).trans h19, i8_fr e2 (by decide) hC, by unfold nxt; omega⟩
theorem YC_sf (h : YC M q n f ord nw p0 Bi p len m lv br) (hp : p ≤ len) : SFE M := by
  have hn := h.1.1
  have hf := h.2.1.1
  have hb := h.2.2.2.2.2.2.2.2
  exact SFE_of h.2.2.1 (by omega) (by omega)
theorem must_f (h : YC M q n f ord nw p0 Bi p len m lv br) (hp : p ≤ len) : ∃ M', fX11_must F M 0 = some M' ∧ yfr M M' ∧ FS M' q n f := by
  obtain ⟨M', e1, e2, e3⟩ := must_0 (F := F) h.2.2.2.2.2.2.1 h.1 h.2.1 h.2.2.2.2.2.2.2.1.1 (YC_sf h hp)
  exact ⟨M', e1, e2.mono (by decide) (by decide), e3⟩
theorem sgb_r (hT : TXR M q n) (hK : TKR M q n f) {b : Nat} (hb : b < 256) : fX11_isSign M (nI b) = bI (sg q n f b) := by
  rw [sgn_r hT hK hb]
  unfold sg bI
  by_cases z : tkS q n f = 3 ∧ q f = b
  · rw [if_pos z, if_pos (decide_eq_true z)]
  · rw [if_neg z, if_neg (fun w => z (of_decide_eq_true w))]
theorem pushr {L : Nat} (h : sp_I M 103 29 = nI L) (hL : L < 400) (x y : Int32) : fX11_push M x y = some (sp_setI (sp_setI (sp_setI M 116 L x) 117 L y) 103 29 (nI (L + 1))) := by
  unfold fX11_push
  rw [h, sp_ix_nI hL (by omega), Option.bind_some]
  simp only [sp_do]
  rw [show sp_I (sp_setI M 116 L x) 103 29 = nI L from (congrFun (I_ne _ _ _ (by decide)) 29).trans h, sp_ix_nI hL (by omega), Option.bind_some, show sp_I (sp_setI (sp_setI M 116 L x) 117 L y) 103 29 = nI L by rw [I_ne _ _ _ (by decide), I_ne _ _ _ (by decide)]; exact h, nI_1]
theorem SKR_push {x y z : Int32} {L : Nat} : ∀ A : List (Nat × ev_S × Nat), A.length ≤ L → SKR M A → SKR (sp_setI (sp_setI (sp_setI M 116 L x) 117 L y) 103 29 z) A
  | [], _, _ => trivial
  | (k, g, a) :: A, hl, hs => by
    rw [List.length_cons] at hl
    refine ⟨hs.1, ?_, ?_, SKR_push A (by omega) hs.2.2.2⟩
    · rw [I_ne _ _ _ (by decide), I_ne _ _ _ (by decide), I_nf _ _ _ (by omega)]; exact hs.2.1
    · rw [I_ne _ _ _ (by decide), I_nf _ _ _ (by omega), I_ne _ _ _ (by decide)]; exact hs.2.2.1
/-- an item goes onto the pile -/
theorem PSR_push {k : Nat} {g : ev_S} {p' m' : Nat} (h : PSR M (bI ord) nw p0 Bi p len m) (hL : Bi.length < 400) (hk : okK k) (h12 : ¬ (k = 12 ∨ k = 13)) (hl : ∀ code, Lay nw code p0 Bi p m → (∀ i, rcM M (bI ord) len i = code i) → Lay nw code p0 ((k, g, 0) :: Bi) p' m') : PSR (sp_setI (sp_setI (sp_setI M 116 Bi.length (nI (rk k))) 117 Bi.length 0) 103 29 (nI (Bi.length + 1))) (bI ord) nw p0 ((k, g, 0) :: Bi) p' len m' := by
  obtain ⟨g2, g3, g4, g5, g6, g7⟩ := h
  have f1 : sp_fr [116, 117] [(103, 29)] M (sp_setI (sp_setI (sp_setI M 116 Bi.length (nI (rk k))) 117 Bi.length 0) 103 29 (nI (Bi.length + 1))) := ((sp_fr_I (Or.inl (by decide)) rfl).tr (sp_fr_I (Or.inl (by decide)) rfl)).tr (sp_fr_I (Or.inr (by decide)) rfl)
  refine ⟨(f1.1 103 23 (by decide) (by decide)).trans g2, g3, I_eq _ _ _ _, by rw [List.length_cons]; omega, ⟨hk, ?_, fun z => (h12 z).elim, SKR_push Bi (Nat.le_refl _) g6⟩, ?_⟩
  · rw [I_ne _ _ _ (by decide), I_ne _ _ _ (by decide)]; exact I_eq _ _ _ _
  · have e : rcM (sp_setI (sp_setI (sp_setI M 116 Bi.length (nI (rk k))) 117 Bi.length 0) 103 29 (nI (Bi.length + 1))) (bI ord) len = rcM M (bI ord) len := by
      unfold rcM
      rw [fr_A (SA := [114]) (SB := []) f1 (by decide) 114 (by decide), fr_A (SA := [115]) (SB := []) f1 (by decide) 115 (by decide)]
    rw [e]
    exact hl _ g7 (fun _ => rfl)
/-- a not or a bracket goes onto the pile, in a context whose token is behind it -/
theorem YC_push {k : Nat} (h : YC M q n f ord nw p0 Bi len len m lv br) (hb : len + Bi.length + 1 ≤ f) (hk : k = 11 ∨ k = 22 ∨ k = 23) : ∃ M', fX11_push M (nI (rk k)) 0 = some M' ∧ sp_fr [116, 117] [(103, 29)] M M' ∧ YC M' q n f ord nw p0 ((k, zS, 0) :: Bi) len len m lv br := by
  obtain ⟨hT, hK, hP, h26, h30, h20, h19, hC, hbu⟩ := h
  have hn := hT.1
  have hf := hK.1
  have f1 : sp_fr [116, 117] [(103, 29)] M (sp_setI (sp_setI (sp_setI M 116 Bi.length (nI (rk k))) 117 Bi.length 0) 103 29 (nI (Bi.length + 1))) := ((sp_fr_I (Or.inl (by decide)) rfl).tr (sp_fr_I (Or.inl (by decide)) rfl)).tr (sp_fr_I (Or.inr (by decide)) rfl)
  refine ⟨_, pushr hP.2.2.1 (by omega) _ _, f1, TXR_fr f1 hT (by decide), TKR_fr f1 hK (by decide), PSR_push hP (by omega) (by unfold okK; omega) (by omega) (fun code hl _ => ?_), (f1.1 103 26 (by decide) (by decide)).trans h26, (f1.1 103 30 (by decide) (by decide)).trans h30, (f1.1 103 20 (by decide) (by decide)).trans h20, (f1.1 103 19 (by decide) (by decide)).trans h19, i8_fr f1 (by decide) hC, by rw [List.length_cons]; omega⟩
  unfold Lay
  rw [if_neg (by omega), if_neg (by omega)]
  exact hl
/-- openBracket -/
theorem obr_r {k : Nat} (hF : 1000 ≤ F) (hbr : br ≤ 8) (h : YC M q n f ord nw p0 Bi len len m lv br) (hS : tkS q n f ≠ 0) (hk : k = 22 ∨ k = 23) :
  (br < 8 → ∃ M', fX11_openBracket F M (nI (rk k)) = some M' ∧ yfr M M' ∧ YC M' q n (nxt q n f) ord nw p0 ((k, zS, 0) :: Bi) len len m lv (br + 1)) ∧
  (¬ br < 8 → ∃ M', fX11_openBracket F M (nI (rk k)) = some M' ∧ yfr M M' ∧ FS M' q n f) := by
  have hg := nxt_gt h.2.1.1 hS
  have h30 := h.2.2.2.2.1
  have h19 := h.2.2.2.2.2.2.1
  have hbu := h.2.2.2.2.2.2.2.2
  refine ⟨fun hlt => ?_, fun hge => ?_⟩
  · obtain ⟨M1, e1, e2, e3⟩ := YC_next hF h
    let M2 := sp_setI M1 103 30 (nI (br + 1))
    have f2 : sp_fr [] [(103, 30)] M1 M2 := sp_fr_I (Or.inr (by decide)) rfl
    have Y2 : YC M2 q n (nxt q n f) ord nw p0 Bi len len m lv (br + 1) := by
      obtain ⟨a1, a2, a3, a4, a5, a6, a7, a8, a9⟩ := e3
      exact ⟨TXR_fr f2 a1 (by decide), TKR_fr f2 a2 (by decide), PSR_fr f2 (by decide) a3, (f2.1 103 26 (by decide) (by decide)).trans a4, I_eq _ _ _ _, (f2.1 103 20 (by decide) (by decide)).trans a6, (f2.1 103 19 (by decide) (by decide)).trans a7, i8_fr f2 (by decide) a8, a9⟩
    obtain ⟨M3, g1, g2, g3⟩ := YC_push Y2 (by omega) (show k = 11 ∨ k = 22 ∨ k = 23 by omega)
    refine ⟨M3, ?_, ((e2.mono (by decide) (by decide)).tr (f2.mono (by decide) (by decide))).tr (g2.mono (by decide) (by decide)), g3⟩
    unfold fX11_openBracket fX11_openBracket_j15
    rw [h30, if_neg (show ¬ (8 : Int32) ≤ nI br by rw [show (8 : Int32) = nI 8 from rfl]; exact nI_ge (by omega) (by omega)), must_1 h19 (by decide) e1, Option.bind_some, if_pos e3.2.2.2.2.2.2.1]
    simp only [sp_do]
    rw [e3.2.2.2.2.1, nI_1]
    rw [show fX11_push (sp_setI M1 103 30 (nI (br + 1))) (nI (rk k)) 0 = some M3 from g1, Option.bind_some]
  · obtain ⟨M', e1, e2, e3⟩ := must_f (F := F) h (Nat.le_refl _)
    refine ⟨M', ?_, e2, e3⟩
    unfold fX11_openBracket fX11_openBracket_j15
    rw [h30, if_pos (show (8 : Int32) ≤ nI br by rw [show (8 : Int32) = nI 8 from rfl]; exact nI_le (by omega) (by omega)), e1, Option.bind_some, if_neg (show ¬ sp_I M' 103 19 = 0 by rw [e3.2.1]; decide)]
/-- a leaf -/
theorem lf1_r (hF : 1000 ≤ F) (h : YC M q n f ord nw p0 Bi len len m lv br) (hS : tkS q n f ≠ 0) (hlv : lv < 50) {a : Int32} (ha : ¬ a = 0) (op arg : Int32) : ∃ M', fX11_leaf F M a op arg = some M' ∧ yfr M M' ∧ YC M' q n (nxt q n f) ord nw p0 Bi len (len + 1) m (lv + 1) br ∧ sp_I M' 114 len = op ∧ sp_I M' 115 len = arg := by
  have hg := nxt_gt h.2.1.1 hS
  have h26 := h.2.2.2.1
  have h19 := h.2.2.2.2.2.2.1
  have hbu := h.2.2.2.2.2.2.2.2
  have hn := h.1.1
  obtain ⟨M1, e1, e2, e3⟩ := YC_next hF h
  obtain ⟨a1, a2, a3, a4, a5, a6, a7, a8, a9⟩ := e3
  let M2 := sp_setI (sp_setI (sp_setI M1 114 len op) 115 len arg) 103 23 (nI (len + 1))
  let M3 := sp_setI M2 103 26 (nI (lv + 1))
  have f2 : sp_fr [114, 115] [(103, 23), (103, 26)] M1 M3 := (((sp_fr_I (Or.inl (by decide)) rfl).tr (sp_fr_I (Or.inl (by decide)) rfl)).tr (sp_fr_I (Or.inr (by decide)) rfl)).tr (sp_fr_I (Or.inr (by decide)) rfl)
  have o114 : ∀ i, i ≠ len → sp_I M3 114 i = sp_I M1 114 i := fun i hi => by rw [I_ne _ _ _ (by decide), I_ne _ _ _ (by decide), I_ne _ _ _ (by decide), I_nf _ _ _ hi]
  have o115 : ∀ i, i ≠ len → sp_I M3 115 i = sp_I M1 115 i := fun i hi => by rw [I_ne _ _ _ (by decide), I_ne _ _ _ (by decide), I_nf _ _ _ hi, I_ne _ _ _ (by decide)]
  refine ⟨M3, ?_, (e2.mono (by decide) (by decide)).tr (f2.mono (by decide) (by decide)), ⟨TXR_fr f2 a1 (by decide), TKR_fr f2 a2 (by decide), ?_, I_eq _ _ _ _, (f2.1 103 30 (by decide) (by decide)).trans a5, (f2.1 103 20 (by decide) (by decide)).trans a6, (f2.1 103 19 (by decide) (by decide)).trans a7, i8_fr f2 (by decide) a8, by omega⟩, ?_, ?_⟩
  · unfold fX11_leaf fX11_leaf_j19
    rw [if_neg ha, h26, if_neg (show ¬ (50 : Int32) ≤ nI lv by rw [show (50 : Int32) = nI 50 from rfl]; exact nI_ge (by omega) (by omega)), must_1 h19 (by decide) e1, Option.bind_some, if_pos a7, emit_r a3.1 (by omega), Option.bind_some]
    simp only [sp_do]
    rw [show sp_I (sp_setI (sp_setI (sp_setI M1 114 len op) 115 len arg) 103 23 (nI (len + 1))) 103 26 = nI lv by rw [I_nf _ _ _ (by decide), I_ne _ _ _ (by decide), I_ne _ _ _ (by decide)]; exact a4, nI_1]
  · obtain ⟨g2, g3, g4, g5, g6, g7⟩ := a3
    refine ⟨(I_nf _ _ _ (by decide)).trans (I_eq _ _ _ _), by omega, (f2.1 103 29 (by decide) (by decide)).trans g4, g5, SKR_cg (fr_A (SA := [116]) (SB := []) f2 (by decide) 116 (by decide)) (fr_A (SA := [117]) (SB := []) f2 (by decide) 117 (by decide)) Bi g6, Lay_cg Bi len m (fun i _ hi => ?_) g7⟩
    unfold rcM ev_rcf
    rw [if_pos (by omega), if_pos hi, o114 i (by omega), o115 i (by omega)]
  · rw [I_ne _ _ _ (by decide), I_ne _ _ _ (by decide), I_ne _ _ _ (by decide), I_eq]
  · rw [I_ne _ _ _ (by decide), I_ne _ _ _ (by decide), I_eq]
theorem lf0_r (h : YC M q n f ord nw p0 Bi len len m lv br) (hlv : lv ≤ 50) {a : Int32} (ha : a = 0 ∨ ¬ lv < 50) (op arg : Int32) : ∃ M', fX11_leaf F M a op arg = some M' ∧ yfr M M' ∧ FS M' q n f ∧ sp_I M' 103 20 = bI ord := by
  obtain ⟨M', e1, e2, e3⟩ := must_f (F := F) h (Nat.le_refl _)
  refine ⟨M', ?_, e2, e3, (e2.1 103 20 (by decide) (by decide)).trans h.2.2.2.2.2.1⟩
  have j19 : fX11_leaf_j19 F op arg 0 M = some M' := by
    unfold fX11_leaf_j19
    rw [e1, Option.bind_some, if_neg (show ¬ sp_I M' 103 19 = 0 by rw [e3.2.1]; decide)]
  unfold fX11_leaf fX11_leaf_j18
  by_cases z : a = 0
  · rw [if_pos z]; exact j19
  · have ha : ¬ lv < 50 := ha.resolve_left z
    rw [if_neg z, h.2.2.2.1, if_pos (show (50 : Int32) ≤ nI lv by rw [show (50 : Int32) = nI 50 from rfl]; exact nI_le (by omega) (by omega))]
    exact j19
end Yc
