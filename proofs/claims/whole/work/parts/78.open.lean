/-! ===== expressions: the class opens ===== -/
def XC (M : sp_Mem) (q : Nat → Nat) (n f : Nat) (ord : Bool) (nw : Nat) (p0 : PP) (Ai : List (Nat × ev_S × Nat)) (p len m lv br : Nat) : Prop := TXC M q n ∧ TKC M q n f ∧ PSC M nw p0 Ai p len m ∧ sp_I M 96 6 = nI lv ∧ sp_I M 96 5 = nI br ∧ sp_I M 96 7 = bI ord ∧ len + Ai.length ≤ f
abbrev xfr (M M' : sp_Mem) : Prop := sp_fr [99, 100, 101] [(94, 2), (94, 3), (94, 4), (96, 4), (96, 5), (96, 6), (96, 8), (97, 3)] M M'
theorem PSC_fr {M M' : sp_Mem} {p0 : PP} {nw p len m : Nat} {Ai : List (Nat × ev_S × Nat)} {A : List Nat} {B : List (Nat × Nat)} (hf : sp_fr A B M M') (hd : dj [99, 100, 101] [(97, 3), (96, 4)] A B = true) (h : PSC M nw p0 Ai p len m) : PSC M' nw p0 Ai p len m := by
  obtain ⟨g1, g2, g3, g4, g5, g6, g7⟩ := h
  exact ⟨(hf.2.2.2.2.1 99).trans g1, (fr_B hf hd 97 3 (by decide)).trans g2, g3, (fr_B hf hd 96 4 (by decide)).trans g4, g5, SKC_cg (fr_A hf hd 100 (by decide)) (fr_A hf hd 101 (by decide)) Ai g6, by rw [fr_A hf hd 99 (by decide)]; exact g7⟩
theorem ext_gt {q : Nat → Nat} {n f : Nat} (hf : f < n) : f + 1 ≤ ext q n (srt (q f)) (n - f) f := by
  rw [show n - f = n - (f + 1) + 1 by omega, ext_1 (by omega) rfl]
  exact (ext_b q n _ (n - (f + 1)) (f + 1) (by omega)).1
theorem nxt_gt {q : Nat → Nat} {n f : Nat} (hf : f ≤ n) (h : tkS q n f ≠ 0) : f + 1 ≤ nxt q n f ∧ nxt q n f ≤ n := by
  have hfn : f < n := by
    unfold tkS at h
    by_cases z : f < n
    · exact z
    · rw [if_neg z] at h; exact (h rfl).elim
  have hS : tkS q n f = srt (q f) := if_pos hfn
  have hT : f + 1 ≤ tkT q n f := by
    unfold tkT
    rw [if_neg h]
    split
    · omega
    · rw [hS]; exact ext_gt hfn
  have hb := tkT_b (q := q) hf
  have := tkF_b (q := q) hb.2
  exact ⟨Nat.le_trans hT this.1, this.2⟩
section Opens
variable {p0 : PP} {F n f nw len m lv br k a : Nat} {q : Nat → Nat} {ord : Bool} {M : sp_Mem} {g : ev_S} {A0 : List (Nat × ev_S × Nat)}
/-- on to the next token, the rest kept -/
theorem XC_next {Ai : List (Nat × ev_S × Nat)} {p : Nat} (hF : 1000 ≤ F) (hT : TXC M q n) (hK : TKC M q n f) (hP : PSC M nw p0 Ai p len m) (h6 : sp_I M 96 6 = nI lv) (h5 : sp_I M 96 5 = nI br) (h7 : sp_I M 96 7 = bI ord) (hb : len + Ai.length ≤ nxt q n f) : ∃ M', fX8_toNext F M = some M' ∧ sp_fr [] [(94, 3), (94, 2), (94, 4)] M M' ∧ XC M' q n (nxt q n f) ord nw p0 Ai p len m lv br := by
  obtain ⟨M', e1, e2, e3, e4⟩ := next_c hF hT (tkT_b (q := q) hK.1).2 hK.2.2.1
  exact ⟨M', e1, e2, e3, e4, PSC_fr e2 (by decide) hP, (e2.1 96 6 (by decide) (by decide)).trans h6, (e2.1 96 5 (by decide) (by decide)).trans h5, (e2.1 96 7 (by decide) (by decide)).trans h7, hb⟩
theorem push_c {L : Nat} (h : sp_I M 96 4 = nI L) (hL : L < 160) (x : Int32) : fX2_push M x = some (1, sp_setI (sp_setI M 100 L x) 96 4 (nI (L + 1))) := by
  unfold fX2_push
  rw [h, if_pos (show nI L < 160 by rw [show (160 : Int32) = nI 160 from rfl, nIlt (by omega) (by omega)]; exact hL), sp_ix_nI hL (by omega), Option.bind_some]
  simp only [sp_do]
  rw [show sp_I (sp_setI M 100 L x) 96 4 = nI L from (congrFun (I_ne _ _ _ (by decide)) 4).trans h, nI_1]
theorem ctb_e : ∀ k, k < 24 → (fX10_isWithin (fX2_bindingOf (nI k)) 1 3 = 0 ↔ ¬ (1 ≤ bnd k ∧ bnd k ≤ 3)) ∧ (nI k = 21 ↔ k = 21) ∧ (nI k = 23 ↔ k = 23) ∧ (nI k = 11 ↔ k = 11) := by decide +kernel
theorem ctb_c {p : Nat} (h : PSC M nw p0 ((k, g, a) :: A0) p len m) : fX2_canTestBegin M = some (bI (cTB k)) := by
  obtain ⟨g1, g2, g3, g4, g5, g6, g7⟩ := h
  rw [List.length_cons] at g4 g5
  obtain ⟨c1, c2, c3, _⟩ := ctb_e k g6.1
  unfold fX2_canTestBegin cTB
  rw [top_c g4 g5 g6, Option.bind_some]
  by_cases h1 : k = 21
  · rw [if_pos (c2.2 h1), decide_eq_true (Or.inl h1)]; rfl
  rw [if_neg (fun w => h1 (c2.1 w))]
  by_cases h2 : k = 23
  · rw [if_pos (c3.2 h2), decide_eq_true (Or.inr (Or.inl h2))]; rfl
  rw [if_neg (fun w => h2 (c3.1 w))]
  by_cases h3 : 1 ≤ bnd k ∧ bnd k ≤ 3
  · rw [if_neg (fun w => (c1.1 w) h3), decide_eq_true (Or.inr (Or.inr h3))]; rfl
  · rw [if_pos (c1.2 h3), decide_eq_false (fun z => z.elim h1 (fun z => z.elim h2 h3))]; rfl
/-- an item that holds no operand goes on top -/
theorem PSC_push {p kk : Nat} (h : PSC M nw p0 ((k, g, a) :: A0) p len m) (hk : kk = 11 ∨ kk = 22 ∨ kk = 23) (hL : A0.length + 1 < 160) : PSC (sp_setI (sp_setI M 100 (A0.length + 1) (nI kk)) 96 4 (nI (A0.length + 1 + 1))) nw p0 ((kk, zS, 0) :: (k, g, a) :: A0) p len m := by
  obtain ⟨g1, g2, g3, g4, g5, g6, g7⟩ := h
  have sk : ∀ A : List (Nat × ev_S × Nat), A.length < A0.length + 2 → SKC M A → SKC (sp_setI (sp_setI M 100 (A0.length + 1) (nI kk)) 96 4 (nI (A0.length + 1 + 1))) A := by
    intro A
    induction A with
    | nil => exact fun _ _ => trivial
    | cons x A ih =>
      obtain ⟨k, g, a⟩ := x
      intro hl hs
      rw [List.length_cons] at hl
      refine ⟨hs.1, ?_, ?_, ih (by omega) hs.2.2.2⟩
      · rw [I_ne _ _ _ (by decide), I_nf _ _ _ (by omega)]; exact hs.2.1
      · rw [I_ne _ _ _ (by decide), I_ne _ _ _ (by decide)]; exact hs.2.2.1
  refine ⟨g1, by rw [I_ne _ _ _ (by decide), I_ne _ _ _ (by decide)]; exact g2, g3, I_eq _ _ _ _, by rw [List.length_cons, List.length_cons]; omega, ⟨by omega, ?_, fun z => absurd z (by omega), sk _ (by rw [List.length_cons]; omega) g6⟩, ?_⟩
  · rw [I_ne _ _ _ (by decide)]; exact I_eq _ _ _ _
  · unfold Lay
    rw [if_neg (by omega), if_neg (by omega), I_ne _ _ _ (by decide), I_ne _ _ _ (by decide)]
    exact g7
/-- the end of opens: brackets counted, next token -/
theorem jo_c {Ai : List (Nat × ev_S × Nat)} {p : Nat} (hF : 1000 ≤ F) (hbr : br ≤ 8) (hT : TXC M q n) (hK : TKC M q n f) (hP : PSC M nw p0 Ai p len m) (h6 : sp_I M 96 6 = nI lv) (h5 : sp_I M 96 5 = nI br) (h7 : sp_I M 96 7 = bI ord) (hb : len + Ai.length ≤ nxt q n f) (a1 : Int32) : ∃ M', fX2_opens_j136 F a1 M = some (1, M') ∧ sp_fr [] [(96, 5), (94, 3), (94, 2), (94, 4)] M M' ∧ XC M' q n (nxt q n f) ord nw p0 Ai p len m lv (br + (if a1 = 0 then 1 else 0)) := by
  have f1 : sp_fr [] [(96, 5)] M (sp_setI M 96 5 (nI (br + (if a1 = 0 then 1 else 0)))) := sp_fr_I (Or.inr (by decide)) rfl
  obtain ⟨M', e1, e2, e3⟩ := XC_next (F := F) (br := br + (if a1 = 0 then 1 else 0)) hF (TXC_fr f1 hT (by decide)) ⟨hK.1, (f1.1 94 3 (by decide) (by decide)).trans hK.2.1, (f1.1 94 4 (by decide) (by decide)).trans hK.2.2.1, (f1.1 94 2 (by decide) (by decide)).trans hK.2.2.2⟩ (PSC_fr f1 (by decide) hP) ((f1.1 96 6 (by decide) (by decide)).trans h6) (I_eq _ _ _ _) ((f1.1 96 7 (by decide) (by decide)).trans h7) hb
  refine ⟨M', ?_, (f1.mono (by decide) (by decide)).tr (e2.mono (by decide) (by decide)), e3⟩
  unfold fX2_opens_j136
  simp only [sp_do]
  have : sp_I M 96 5 + (if a1 = 0 then 1 else 0) = nI (br + (if a1 = 0 then 1 else 0)) := by
    rw [h5]
    by_cases z : a1 = 0
    · rw [if_pos z, if_pos z, nI_1]
    · rw [if_neg z, if_neg z, Int32.add_zero]; rfl
  rw [this, e1, Option.bind_some]
theorem wdx6 {q : Nat → Nat} {n f : Nat} : wdx q n f cs_6 = some 0 ∨ wdx q n f cs_6 = none := by
  rw [wdx_e]
  unfold cs_6
  rw [fnd, fnd]
  split
  · exact Or.inl rfl
  · exact Or.inr rfl
theorem wdx_S {q : Nat → Nat} {n f : Nat} {cs : List Int64} {j : Nat} (h : wdx q n f cs = some j) : tkS q n f = 1 := by
  unfold wdx at h
  by_cases z : tkS q n f = 1
  · exact z
  · rw [if_neg z] at h; cases h
theorem sg_S {q : Nat → Nat} {n f b : Nat} (h : sg q n f b = true) : tkS q n f = 3 ∧ q f = b := of_decide_eq_true h
theorem sgb_c (hT : TXC M q n) (hK : TKC M q n f) {b : Nat} (hb : b < 256) : fX8_isSign M (nI b) = some (bI (sg q n f b)) := by
  rw [sgn_c hT hK hb]
  unfold sg bI
  by_cases z : tkS q n f = 3 ∧ q f = b
  · rw [if_pos z, if_pos (decide_eq_true z)]
  · rw [if_neg z, if_neg (fun w => z (of_decide_eq_true w))]
/-- opens: pushes an item -/
theorem jp_c {kk : Nat} (hF : 1000 ≤ F) (hbr : br ≤ 8) (h : XC M q n f ord nw p0 ((k, g, a) :: A0) len len m lv br) (hS : tkS q n f ≠ 0) (hL : A0.length + 1 < 160) (hk : kk = 11 ∨ kk = 22 ∨ kk = 23) (a1 : Int32) : ∃ M', fX2_opens_j128 F a1 (nI kk) M = some (1, M') ∧ xfr M M' ∧ XC M' q n (nxt q n f) ord nw p0 ((kk, zS, 0) :: (k, g, a) :: A0) len len m lv (br + (if a1 = 0 then 1 else 0)) := by
  obtain ⟨hT, hK, hP, h6, h5, h7, hb⟩ := h
  have hg := nxt_gt hK.1 hS
  rw [List.length_cons] at hb
  have f1 : sp_fr [100] [(96, 4)] M (sp_setI (sp_setI M 100 (A0.length + 1) (nI kk)) 96 4 (nI (A0.length + 1 + 1))) := (sp_fr_I (Or.inl (by decide)) rfl).tr (sp_fr_I (Or.inr (by decide)) rfl)
  obtain ⟨M', e1, e2, e3⟩ := jo_c (F := F) hF hbr (TXC_fr f1 hT (by decide)) ⟨hK.1, (f1.1 94 3 (by decide) (by decide)).trans hK.2.1, (f1.1 94 4 (by decide) (by decide)).trans hK.2.2.1, (f1.1 94 2 (by decide) (by decide)).trans hK.2.2.2⟩ (PSC_push hP hk hL) ((f1.1 96 6 (by decide) (by decide)).trans h6) ((f1.1 96 5 (by decide) (by decide)).trans h5) ((f1.1 96 7 (by decide) (by decide)).trans h7) (by rw [List.length_cons, List.length_cons]; omega) a1
  refine ⟨M', ?_, (f1.mono (by decide) (by decide)).tr (e2.mono (by decide) (by decide)), e3⟩
  unfold fX2_opens_j128
  rw [push_c (show sp_I M 96 4 = nI (A0.length + 1) from hP.2.2.2.1) hL, Option.bind_some]
  dsimp only
  rw [if_neg (by decide)]
  exact e1
theorem opens_c (hF : 1000 ≤ F) (hbr : br ≤ 8) (h : XC M q n f ord nw p0 ((k, g, a) :: A0) len len m lv br) (hL : A0.length + 1 < 160) :
  (wdx q n f cs_6 = some 0 → cTB k = false → fX2_opens F M = some (0, M)) ∧
  (wdx q n f cs_6 = some 0 → cTB k = true → k = 11 → ∃ M', fX2_opens F M = some (1, M') ∧ xfr M M' ∧ XC M' q n (nxt q n f) ord nw p0 A0 len len m lv br) ∧
  (wdx q n f cs_6 = some 0 → cTB k = true → k ≠ 11 → ∃ M', fX2_opens F M = some (1, M') ∧ xfr M M' ∧ XC M' q n (nxt q n f) ord nw p0 ((11, zS, 0) :: (k, g, a) :: A0) len len m lv br) ∧
  (wdx q n f cs_6 = none → sg q n f 40 = true → (cTB k = false ∨ 8 ≤ br) → fX2_opens F M = some (0, M)) ∧
  (wdx q n f cs_6 = none → sg q n f 40 = true → cTB k = true → br < 8 → ∃ M', fX2_opens F M = some (1, M') ∧ xfr M M' ∧ XC M' q n (nxt q n f) ord nw p0 ((23, zS, 0) :: (k, g, a) :: A0) len len m lv (br + 1)) ∧
  (wdx q n f cs_6 = none → sg q n f 40 = false → sg q n f 91 = true → 8 ≤ br → fX2_opens F M = some (0, M)) ∧
  (wdx q n f cs_6 = none → sg q n f 40 = false → sg q n f 91 = true → br < 8 → ∃ M', fX2_opens F M = some (1, M') ∧ xfr M M' ∧ XC M' q n (nxt q n f) ord nw p0 ((22, zS, 0) :: (k, g, a) :: A0) len len m lv (br + 1)) ∧
  (wdx q n f cs_6 = none → sg q n f 40 = false → sg q n f 91 = false → fX2_opens F M = some (0, M)) := by
  have h' := h
  obtain ⟨hT, hK, hP, h6, h5, h7, hb⟩ := h
  have hk24 := hP.2.2.2.2.2.1.1
  have tp := top_c (show sp_I M 96 4 = nI (A0.length + 1) from hP.2.2.2.1) (by omega) hP.2.2.2.2.2.1
  have h11 := (ctb_e k hk24).2.2.2
  have s40 := sgb_c hT hK (b := 40) (by omega)
  have s91 := sgb_c hT hK (b := 91) (by omega)
  have s40 : fX8_isSign M 40 = some (bI (sg q n f 40)) := s40
  have s91 : fX8_isSign M 91 = some (bI (sg q n f 91)) := s91
  have pre : ∀ x, wdx q n f cs_6 = x → fX2_opens F M = fX2_opens_j18 F (if oN x = -1 then 0 else 1) M := by
    intro x hx
    unfold fX2_opens
    rw [plc_6 hF hT hK, Option.bind_some, hx]
  have pre0 : wdx q n f cs_6 = some 0 → fX2_opens F M = fX2_opens_j59 F 1 (bI (sg q n f 40)) M := by
    intro hx
    rw [pre _ hx, show (if oN (some 0) = -1 then (0 : Int32) else 1) = 1 from rfl]
    unfold fX2_opens_j18
    rw [s40, Option.bind_some, if_neg (by decide)]
    unfold fX2_opens_j51
    rw [if_neg (by decide)]
  have n8 : (8 : Int32) ≤ sp_I M 96 5 ↔ 8 ≤ br := by
    rw [h5, n_le, nI_toInt (by omega)]
    have : (8 : Int32).toInt = 8 := rfl
    omega
  have hb1 := hb
  rw [List.length_cons] at hb1
  refine ⟨fun hx hc => ?_, fun hx hc he => ?_, fun hx hc he => ?_, fun hx hs hc => ?_, fun hx hs hc he => ?_, fun hx hs ht he => ?_, fun hx hs ht he => ?_, fun hx hs ht => ?_⟩
  · rw [pre0 hx]
    unfold fX2_opens_j59
    rw [ctb_c hP, Option.bind_some, hc, if_pos (show bI false = 0 from rfl)]
  · have hS : tkS q n f ≠ 0 := by rw [wdx_S hx]; decide
    have hg := nxt_gt hK.1 hS
    have f1 : sp_fr [] [(96, 4)] M (sp_setI M 96 4 (nI A0.length)) := sp_fr_I (Or.inr (by decide)) rfl
    have hP1 : PSC (sp_setI M 96 4 (nI A0.length)) nw p0 A0 len len m := by
      obtain ⟨g1, g2, g3, g4, g5, g6, g7⟩ := hP
      refine ⟨g1, (f1.1 97 3 (by decide) (by decide)).trans g2, g3, I_eq _ _ _ _, by omega, SKC_cg (I_ne _ _ _ (by decide)) (I_ne _ _ _ (by decide)) A0 g6.2.2.2, ?_⟩
      unfold Lay at g7
      rw [he, if_neg (by omega), if_neg (by omega)] at g7
      rw [I_ne _ _ _ (by decide)]
      exact g7
    obtain ⟨M', e1, e2, e3⟩ := jo_c (F := F) hF hbr (TXC_fr f1 hT (by decide)) ⟨hK.1, (f1.1 94 3 (by decide) (by decide)).trans hK.2.1, (f1.1 94 4 (by decide) (by decide)).trans hK.2.2.1, (f1.1 94 2 (by decide) (by decide)).trans hK.2.2.2⟩ hP1 ((f1.1 96 6 (by decide) (by decide)).trans h6) ((f1.1 96 5 (by decide) (by decide)).trans h5) ((f1.1 96 7 (by decide) (by decide)).trans h7) (by omega) 1
    refine ⟨M', ?_, (f1.mono (by decide) (by decide)).tr (e2.mono (by decide) (by decide)), e3⟩
    rw [pre0 hx]
    unfold fX2_opens_j59 fX2_opens_j68
    rw [ctb_c hP, Option.bind_some, hc, if_neg (show ¬ bI true = 0 by decide), if_neg (by decide), tp, Option.bind_some, if_pos (h11.2 he)]
    simp only [sp_do]
    rw [show sp_I M 96 4 = nI (A0.length + 1) from hP.2.2.2.1, show nI (A0.length + 1) - 1 = nI A0.length from nI_sub (a := A0.length + 1) (b := 1) (by omega) (by omega)]
    exact e1
  · have hS : tkS q n f ≠ 0 := by rw [wdx_S hx]; decide
    obtain ⟨M', e1, e2, e3⟩ := jp_c (kk := 11) hF hbr h' hS hL (Or.inl rfl) 1
    refine ⟨M', ?_, e2, e3⟩
    rw [pre0 hx]
    unfold fX2_opens_j59 fX2_opens_j68 fX2_opens_j94 fX2_opens_j107
    rw [ctb_c hP, Option.bind_some, hc, if_neg (show ¬ bI true = 0 by decide), if_neg (by decide), tp, Option.bind_some, if_neg (fun w => he (h11.1 w)), if_neg (by decide), if_neg (by decide)]
    exact e1
  · rw [pre _ hx, show (if oN none = -1 then (0 : Int32) else 1) = 0 from rfl]
    unfold fX2_opens_j18 fX2_opens_j51 fX2_opens_j59 fX2_opens_j68 fX2_opens_j94
    rw [s40, Option.bind_some, hs, if_pos rfl, if_neg (show ¬ bI true = 0 by decide), if_pos rfl, if_neg (show ¬ bI true = 0 by decide), ctb_c hP, Option.bind_some, if_pos rfl, if_pos rfl]
    rcases hc with hc | hc
    · rw [hc, if_pos (show bI false = 0 from rfl)]
    · rw [if_pos (n8.2 hc), ite_self]
  · have hS : tkS q n f ≠ 0 := by rw [(sg_S hs).1]; decide
    obtain ⟨M', e1, e2, e3⟩ := jp_c (kk := 23) hF hbr h' hS hL (Or.inr (Or.inr rfl)) 0
    refine ⟨M', ?_, e2, e3⟩
    rw [pre _ hx, show (if oN none = -1 then (0 : Int32) else 1) = 0 from rfl]
    unfold fX2_opens_j18 fX2_opens_j51 fX2_opens_j59 fX2_opens_j68 fX2_opens_j94 fX2_opens_j107
    rw [s40, Option.bind_some, hs, if_pos rfl, if_neg (show ¬ bI true = 0 by decide), if_pos rfl, if_neg (show ¬ bI true = 0 by decide), ctb_c hP, Option.bind_some, hc, if_neg (show ¬ bI true = 0 by decide), if_pos rfl, if_pos rfl, if_neg (fun w => absurd (n8.1 w) (by omega)), if_pos rfl, if_neg (show ¬ bI true = 0 by decide)]
    exact e1
  · rw [pre _ hx, show (if oN none = -1 then (0 : Int32) else 1) = 0 from rfl]
    unfold fX2_opens_j18 fX2_opens_j51 fX2_opens_j68 fX2_opens_j94
    rw [s40, Option.bind_some, hs, if_pos rfl, if_pos (show bI false = 0 from rfl), s91, Option.bind_some, ht, if_neg (show ¬ bI true = 0 by decide), if_pos rfl, if_pos (show bI false = 0 from rfl), if_pos rfl, if_pos rfl, if_pos (n8.2 he)]
  · have hS : tkS q n f ≠ 0 := by rw [(sg_S ht).1]; decide
    obtain ⟨M', e1, e2, e3⟩ := jp_c (kk := 22) hF hbr h' hS hL (Or.inr (Or.inl rfl)) 0
    refine ⟨M', ?_, e2, e3⟩
    rw [pre _ hx, show (if oN none = -1 then (0 : Int32) else 1) = 0 from rfl]
    unfold fX2_opens_j18 fX2_opens_j51 fX2_opens_j68 fX2_opens_j94 fX2_opens_j107
    rw [s40, Option.bind_some, hs, if_pos rfl, if_pos (show bI false = 0 from rfl), s91, Option.bind_some, ht, if_neg (show ¬ bI true = 0 by decide), if_pos rfl, if_pos (show bI false = 0 from rfl), if_pos rfl, if_pos rfl, if_neg (fun w => absurd (n8.1 w) (by omega)), if_pos rfl, if_pos (show bI false = 0 from rfl)]
    exact e1
  · rw [pre _ hx, show (if oN none = -1 then (0 : Int32) else 1) = 0 from rfl]
    unfold fX2_opens_j18
    rw [s40, Option.bind_some, hs, if_pos rfl, if_pos (show bI false = 0 from rfl), s91, Option.bind_some, ht, if_pos (show bI false = 0 from rfl)]
end Opens
