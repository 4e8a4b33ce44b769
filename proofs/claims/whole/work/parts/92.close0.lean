/-! ===== expressions: the class behind an operand, in one word ===== -/
/-- behind an operand: the waiting items are A, the operand is v (td: a test in brackets), t leaves lie in the code of this expression -/
def BX (M : sp_Mem) (q : Nat → Nat) (n f : Nat) (ord : Bool) (nw : Nat) (p0 : PP) (base : Nat) (A : Sk) (v : ev_S) (td : Bool) (t lv br : Nat) : Prop := ∃ Ai p len m nn, drp Ai = A ∧ XC M q n f ord nw p0 Ai p len m lv br ∧ ev_Seg nw (ev_cc (sp_I M 99) len) p len v nn ∧ m + nn = t ∧ WFk base A br ∧ TL A ∧ (td = true → ev_T v ∧ cTB (tpk A) = true) ∧ sp_I M 96 8 = bI td
/-- expecting -/
def EX (M : sp_Mem) (q : Nat → Nat) (n f : Nat) (ord : Bool) (nw : Nat) (p0 : PP) (base : Nat) (A : Sk) (t lv br : Nat) : Prop := ∃ Ai len, drp Ai = A ∧ XC M q n f ord nw p0 Ai len len t lv br ∧ WFk base A br ∧ TL A
theorem cTB_3 {k : Nat} (h : cTB k = true) : bnd k ≤ 3 := by
  have h := of_decide_eq_true h
  rcases h with h | h | h
  · rw [h]; decide
  · rw [h]; decide
  · exact h.2
theorem cTB_0 {k : Nat} (h : cTB k = true) (h0 : bnd k < 1) : k = 21 ∨ k = 23 := by
  have h := of_decide_eq_true h
  rcases h with h | h | h
  · exact Or.inl h
  · exact Or.inr h
  · omega
theorem cTB_b {k : Nat} (h : k = 11 ∨ k = 12 ∨ k = 13) : cTB k = true := by
  rcases h with rfl | rfl | rfl <;> decide
/-- folding below a test ends where a test may begin -/
theorem fo_ctb {base b : Nat} (hb : 1 ≤ b) (h0 : bnd base = 0) : ∀ (A : Sk) (br : Nat) (v : ev_S), WFk base A br → cTB (tpk A) = true → cTB (tpk (fo b A v).1) = true
  | [], _, _, h, _ => h.elim
  | [x], br, v, h, hc => by
    have z : bnd x.1 < b := by rw [h.1, h0]; omega
    rw [show fo b [x] v = ([x], v) from if_pos z]; exact hc
  | x :: y :: A, br, v, h, hc => by
    by_cases z : bnd x.1 < b
    · rw [show fo b (x :: y :: A) v = (x :: y :: A, v) from if_pos z]; exact hc
    · rw [show fo b (x :: y :: A) v = fo b (y :: A) (xpp x.1 x.2 v) from if_neg z]
      have h3 := cTB_3 (show cTB x.1 = true from hc)
      have hk := bnd_3 (k := x.1) (by omega) h3
      rcases h.2 with ⟨_, w⟩ | ⟨w, _⟩
      · exact fo_ctb hb h0 (y :: A) br _ w (h.1.2 (by omega))
      · omega
theorem bnd_c4 {k : Nat} (h : bnd k = 4) : 8 ≤ k ∧ k ≤ 10 := by
  unfold bnd at h
  by_cases a : k = 3 ∨ k = 4
  · rw [if_pos a] at h; omega
  rw [if_neg a] at h
  by_cases b : k = 5 ∨ k = 6 ∨ k = 7
  · rw [if_pos b] at h; omega
  rw [if_neg b] at h
  by_cases c : k = 8 ∨ k = 9 ∨ k = 10
  · omega
  rw [if_neg c] at h
  repeat' split at h
  all_goals omega
/-- and below a comparison -/
theorem fo_ctc {base b : Nat} (hb : 1 ≤ b) (hb3 : b ≤ 3) (h0 : bnd base = 0) : ∀ (A : Sk) (br : Nat) (v : ev_S), WFk base A br → bnd (tpk A) = 4 → cTB (tpk (fo b A v).1) = true
  | [], _, _, h, _ => h.elim
  | [x], br, v, h, hc => by
    have hc : bnd x.1 = 4 := hc
    rw [h.1, h0] at hc
    omega
  | x :: y :: A, br, v, h, hc => by
    have hc : bnd x.1 = 4 := hc
    rw [show fo b (x :: y :: A) v = fo b (y :: A) (xpp x.1 x.2 v) from if_neg (by omega)]
    have hk := bnd_c4 hc
    rcases h.2 with ⟨_, w⟩ | ⟨w, _⟩
    · exact fo_ctb hb h0 (y :: A) br _ w (h.1.2 (by omega))
    · omega
theorem isT_ctb {base b br : Nat} {A : Sk} {v : ev_S} {td : Bool} (hb : 1 ≤ b) (hb3 : b ≤ 3) (h0 : bnd base = 0) (hw : WFk base A br) (htd : td = true → ev_T v ∧ cTB (tpk A) = true) (hT : td = true ∨ bnd (tpk (fo 5 A v).1) = 4) : cTB (tpk (fo b (fo 5 A v).1 (fo 5 A v).2).1) = true := by
  by_cases z : td = true
  · have t := htd z
    have t3 := cTB_3 t.2
    rw [fo_id (show bnd (tpk A) < 5 by omega)]
    exact fo_ctb hb h0 A br v hw t.2
  · exact fo_ctc hb hb3 h0 _ br _ (fo_wf (b := 5) (by omega) h0 A br v hw).1 (hT.resolve_left z)
theorem WFk_cons {base br k : Nat} {g : ev_S} : ∀ {A : Sk}, WFk base A br → 3 ≤ k ∧ k ≤ 13 → okP k (tpk A) → WFk base ((k, g) :: A) br
  | [], h, _, _ => h.elim
  | _ :: _, h, hk, ho => ⟨ho, Or.inl ⟨hk, h⟩⟩
theorem WFk_br {base br k : Nat} {g : ev_S} : ∀ {A : Sk}, WFk base A br → k = 22 ∨ k = 23 → okP k (tpk A) → WFk base ((k, g) :: A) (br + 1)
  | [], h, _, _ => h.elim
  | _ :: _, h, hk, ho => ⟨ho, Or.inr ⟨hk, by omega, h⟩⟩
theorem TL_cons {k : Nat} {g : ev_S} {A : Sk} (h : TL A) (hg : k = 12 ∨ k = 13 → ev_T g) : TL ((k, g) :: A) := by
  intro x hx
  rcases List.mem_cons.mp hx with e | e
  · rw [e]; exact hg
  · exact h x e
theorem jnK_3n : ∀ k, k < 14 → k ≠ 11 → bnd k ≠ 3 := by decide +kernel
theorem jnK_11 {q : Nat → Nat} {n f : Nat} : jnK q n f ≠ 11 := by
  unfold jnK
  repeat' split
  all_goals omega
section Clo
variable {p0 : PP} {F n f nw t lv br base : Nat} {q : Nat → Nat} {ord td : Bool} {M : sp_Mem} {A : Sk} {v : ev_S}
theorem fold5_x (hF : 1000 ≤ F) (h0 : bnd base = 0) (h : BX M q n f ord nw p0 base A v td t lv br) : ∃ M', fX2_fold F M 5 = some M' ∧ sp_fr [99] [(97, 3), (96, 4)] M M' ∧ BX M' q n f ord nw p0 base (fo 5 A v).1 (fo 5 A v).2 td t lv br := by
  obtain ⟨Ai, p, len, m, nn, rfl, hX, hS, ht, hw, hL, htd, h8⟩ := h
  obtain ⟨M1, Ai1, p1, len1, m1, n1, e1, e2, e3, e4, e5, e6, e7⟩ := fold_w (b := 5) hF (by omega) (by omega) hX hS (Fok_4 (by omega) _ _)
  have W := fo_wf (b := 5) (by omega) h0 (drp Ai) br v hw
  refine ⟨M1, e1, e2, Ai1, p1, len1, m1, n1, e6, e3, e4, by omega, W.1, TL_s W.2.2 hL, fun z => ?_, (e2.1 96 8 (by decide) (by decide)).trans h8⟩
  have t := htd z
  have t3 := cTB_3 t.2
  rw [fo_id (show bnd (tpk (drp Ai)) < 5 by omega)]
  exact t
/-- joins: refused -/
theorem jno_c (hF : 1000 ≤ F) (h0 : bnd base = 0) (hbr : br ≤ 8) (h : BX M q n f ord nw p0 base A v td t lv br) (n1 : ¬ (5 ≤ bnd (jnK q n f) ∧ td = false)) (n2 : ¬ (bnd (jnK q n f) = 4 ∧ td = false ∧ cTB (tpk (fo 5 A v).1) = true)) (n3 : ¬ ((bnd (jnK q n f) = 1 ∨ bnd (jnK q n f) = 2) ∧ (td = true ∨ bnd (tpk (fo 5 A v).1) = 4))) : ∃ M' A' v', fX2_joins F M = some (0, M') ∧ sp_fr [99] [(97, 3), (96, 4)] M M' ∧ BX M' q n f ord nw p0 base A' v' td t lv br ∧ fo 5 A' v' = fo 5 A v := by
  have hh := h
  obtain ⟨Ai, p, len, m, nn, rfl, hX, hS, ht, hw, hL, htd, h8⟩ := h
  have W := fo_wf (b := 5) (by omega) h0 (drp Ai) br v hw
  have hk := jnK_lt (q := q) (n := n) (f := f)
  have hb3 := jnK_3n _ hk jnK_11
  have htd3 : td = true → ev_T v ∧ bnd (tpk (drp Ai)) ≤ 3 := fun z => ⟨(htd z).1, cTB_3 (htd z).2⟩
  have stay : fX2_joins F M = some (0, M) → ∃ M' A' v', fX2_joins F M = some (0, M') ∧ sp_fr [99] [(97, 3), (96, 4)] M M' ∧ BX M' q n f ord nw p0 base A' v' td t lv br ∧ fo 5 A' v' = fo 5 (drp Ai) v := fun e => ⟨M, drp Ai, v, e, sp_fr.refl _ _ _, hh, rfl⟩
  have fold : (∃ M' Ai' p' len' m' n', fX2_joins F M = some (0, M') ∧ sp_fr [99] [(97, 3), (96, 4)] M M' ∧ XC M' q n f ord nw p0 Ai' p' len' m' lv br ∧ ev_Seg nw (ev_cc (sp_I M' 99) len') p' len' (fo 5 (drp Ai) v).2 n' ∧ m' + n' = m + nn ∧ drp Ai' = (fo 5 (drp Ai) v).1) → ∃ M' A' v', fX2_joins F M = some (0, M') ∧ sp_fr [99] [(97, 3), (96, 4)] M M' ∧ BX M' q n f ord nw p0 base A' v' td t lv br ∧ fo 5 A' v' = fo 5 (drp Ai) v := by
    rintro ⟨M1, Ai1, p1, len1, m1, n1, e1, e2, e3, e4, e5, e6⟩
    refine ⟨M1, (fo 5 (drp Ai) v).1, (fo 5 (drp Ai) v).2, e1, e2, ⟨Ai1, p1, len1, m1, n1, e6, e3, e4, by omega, W.1, TL_s W.2.2 hL, fun z => ?_, (e2.1 96 8 (by decide) (by decide)).trans h8⟩, fo_fo (by omega) h0 hw⟩
    have t := htd z
    have t3 := cTB_3 t.2
    rw [fo_id (show bnd (tpk (drp Ai)) < 5 by omega)]
    exact t
  cases td with
  | true =>
    by_cases u0 : bnd (jnK q n f) = 0 ∨ 4 ≤ bnd (jnK q n f)
    · refine stay (joins_0 hF hX.1 hX.2.1 ?_)
      rcases u0 with u0 | u0
      · exact Or.inl u0
      · exact Or.inr ⟨u0, by rw [h8]; decide⟩
    · exact (n3 ⟨by omega, Or.inl rfl⟩).elim
  | false =>
    by_cases u0 : bnd (jnK q n f) = 0
    · exact stay (joins_0 hF hX.1 hX.2.1 (Or.inl u0))
    · by_cases u4 : bnd (jnK q n f) = 4
      · exact fold ((joins_p hF h0 hbr hX hS hw h8 u4).2 (Bool.eq_false_iff.2 fun z => n2 ⟨u4, rfl, z⟩))
      · by_cases u5 : 5 ≤ bnd (jnK q n f)
        · exact (n1 ⟨u5, rfl⟩).elim
        · have u12 : bnd (jnK q n f) = 1 ∨ bnd (jnK q n f) = 2 := by omega
          exact fold ((joins_o hF h0 hbr hX hS hw hL htd3 h8 u12).2 (fun z => n3 ⟨u12, z⟩))
/-- joins: a sum's sign -/
theorem jy1_c (hF : 1000 ≤ F) (h0 : bnd base = 0) (hbr : br ≤ 8) (h : BX M q n f ord nw p0 base A v td t lv br) (n1 : 5 ≤ bnd (jnK q n f) ∧ td = false) : ∃ M', fX2_joins F M = some (1, M') ∧ xfr M M' ∧ EX M' q n (nxt q n f) ord nw p0 base ((jnK q n f, (fo (bnd (jnK q n f)) A v).2) :: (fo (bnd (jnK q n f)) A v).1) t lv br := by
  obtain ⟨Ai, p, len, m, nn, rfl, hX, hS, ht, hw, hL, htd, h8⟩ := h
  obtain ⟨hu, rfl⟩ := n1
  have W := fo_wf (b := bnd (jnK q n f)) (by omega) h0 (drp Ai) br v hw
  have hk := bnd_5 _ jnK_lt hu
  obtain ⟨M1, Ai1, len1, m1, e1, e2, e3, e4, e5⟩ := joins_a hF h0 hbr hX hS hw h8 hu
  refine ⟨M1, e1, e2, Ai1, len1, e3, by rw [← ht, ← e5]; exact e4, WFk_cons W.1 (by omega) ⟨fun _ => W.2.1, fun z => by omega⟩, TL_cons (TL_s W.2.2 hL) (fun z => by omega)⟩
theorem jy2_c (hF : 1000 ≤ F) (h0 : bnd base = 0) (hbr : br ≤ 8) (h : BX M q n f ord nw p0 base A v td t lv br) (n2 : bnd (jnK q n f) = 4 ∧ td = false ∧ cTB (tpk (fo 5 A v).1) = true) : ∃ M', fX2_joins F M = some (1, M') ∧ xfr M M' ∧ EX M' q n (nxt q n f) ord nw p0 base ((jnK q n f, (fo 5 A v).2) :: (fo 5 A v).1) t lv br := by
  obtain ⟨Ai, p, len, m, nn, rfl, hX, hS, ht, hw, hL, htd, h8⟩ := h
  obtain ⟨hu, rfl, hc⟩ := n2
  have W := fo_wf (b := 5) (by omega) h0 (drp Ai) br v hw
  have hk := bnd_44 _ jnK_lt hu
  have c3 := cTB_3 hc
  obtain ⟨M1, Ai1, len1, m1, e1, e2, e3, e4, e5⟩ := (joins_p hF h0 hbr hX hS hw h8 hu).1 hc
  refine ⟨M1, e1, e2, Ai1, len1, e3, by rw [← ht, ← e5]; exact e4, WFk_cons W.1 (by omega) ⟨fun _ => by omega, fun _ => hc⟩, TL_cons (TL_s W.2.2 hL) (fun z => by omega)⟩
theorem jy3_c (hF : 1000 ≤ F) (h0 : bnd base = 0) (hbr : br ≤ 8) (h : BX M q n f ord nw p0 base A v td t lv br) (n3 : (bnd (jnK q n f) = 1 ∨ bnd (jnK q n f) = 2) ∧ (td = true ∨ bnd (tpk (fo 5 A v).1) = 4)) : ∃ M', fX2_joins F M = some (1, M') ∧ xfr M M' ∧ EX M' q n (nxt q n f) ord nw p0 base ((jnK q n f, (fo (bnd (jnK q n f)) (fo 5 A v).1 (fo 5 A v).2).2) :: (fo (bnd (jnK q n f)) (fo 5 A v).1 (fo 5 A v).2).1) t lv br := by
  obtain ⟨Ai, p, len, m, nn, rfl, hX, hS, ht, hw, hL, htd, h8⟩ := h
  obtain ⟨hu, hT⟩ := n3
  have W := fo_wf (b := 5) (by omega) h0 (drp Ai) br v hw
  have W2 := fo_wf (b := bnd (jnK q n f)) (by omega) h0 _ br (fo 5 (drp Ai) v).2 W.1
  have hk := bnd_12 _ jnK_lt hu
  have hc := isT_ctb (b := bnd (jnK q n f)) (by omega) (by omega) h0 hw htd hT
  obtain ⟨M1, Ai1, len1, m1, e1, e2, e3, e4, e5, e6⟩ := (joins_o hF h0 hbr hX hS hw hL (fun z => ⟨(htd z).1, cTB_3 (htd z).2⟩) h8 hu).1 hT
  refine ⟨M1, e1, e2, Ai1, len1, e3, by rw [← ht, ← e5]; exact e4, WFk_cons W2.1 (by omega) ⟨fun _ => W2.2.1, fun _ => hc⟩, TL_cons (TL_s W2.2.2 (TL_s W.2.2 hL)) (fun z => e6)⟩
end Clo
