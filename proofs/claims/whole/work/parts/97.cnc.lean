/-! ===== expressions: the reference keeps every not, the class drops pairs ===== -/
def cnc (base : Nat) : Sk → Sk
  | [] => [(base, zS)]
  | x :: B => if x.1 = 11 ∧ tpk (cnc base B) = 11 then (cnc base B).tail else x :: cnc base B
/-- every end of the reference's pile stands for waiting items in order -/
def WB (base : Nat) (B : Sk) : Prop := ∀ S, S <:+ B → ∃ br, WFk base (cnc base S) br
theorem WB_s {base : Nat} {B S : Sk} (h : WB base B) (hs : S <:+ B) : WB base S := fun T hT => h T (hT.trans hs)
theorem WB_cons {base br : Nat} {x : Nat × ev_S} {B : Sk} (h : WB base B) (hw : WFk base (cnc base (x :: B)) br) : WB base (x :: B) := by
  intro S hS
  rcases List.suffix_cons_iff.mp hS with e | e
  · rw [e]; exact ⟨br, hw⟩
  · exact h S e
theorem cnc_1 {base : Nat} {x : Nat × ev_S} {B : Sk} (h : x.1 = 11 ∧ tpk (cnc base B) = 11) : cnc base (x :: B) = (cnc base B).tail := if_pos h
theorem cnc_2 {base : Nat} {x : Nat × ev_S} {B : Sk} (h : ¬ (x.1 = 11 ∧ tpk (cnc base B) = 11)) : cnc base (x :: B) = x :: cnc base B := if_neg h
theorem xpN_N (f : ev_S) : xpN (xpN f) = f := ev_nn f
theorem xpp_11 {g f : ev_S} : xpp 11 g f = xpN f := if_pos rfl
/-- below a not that waits, what binds less -/
theorem WFk_11 {base br : Nat} {g : ev_S} {C : Sk} (hB : base = 20 ∨ base = 21) (h : WFk base ((11, g) :: C) br) : bnd (tpk C) < 3 ∧ C ≠ [] ∧ cTB (tpk C) = true ∧ WFk base C br := by
  cases C with
  | nil =>
    have : 11 = base := h.1
    omega
  | cons y C =>
    rcases h.2 with ⟨_, w⟩ | ⟨w, _⟩
    · exact ⟨h.1.1 (show 3 ≤ 11 ∧ 11 ≤ 13 by decide), by simp, h.1.2 (Or.inl (show 8 ≤ 11 ∧ 11 ≤ 13 by decide)), w⟩
    · have w : 11 = 22 ∨ 11 = 23 := w
      omega
theorem cnc_top {base : Nat} {B : Sk} (h : tpk (cnc base B) = 11) : ∃ g, cnc base B = (11, g) :: (cnc base B).tail := by
  cases e : cnc base B with
  | nil => rw [e] at h; cases h
  | cons y C =>
    rw [e] at h
    obtain ⟨k, g⟩ := y
    have h : k = 11 := h
    subst h
    exact ⟨g, rfl⟩
theorem fo_cnc {base b : Nat} (hb : 1 ≤ b) (hB : base = 20 ∨ base = 21) : ∀ (B : Sk) (v : ev_S), WB base B → fo b (cnc base B) v = (cnc base (fo b B v).1, (fo b B v).2)
  | [], v, _ => by
    have : bnd base < b := by rw [b0 hB]; omega
    exact (show fo b [(base, zS)] v = ([(base, zS)], v) from if_pos this)
  | x :: B, v, h => by
    have h1 := WB_s h (List.suffix_cons x B)
    obtain ⟨br1, W1⟩ := h1 B (List.suffix_refl _)
    by_cases c : x.1 = 11 ∧ tpk (cnc base B) = 11
    · obtain ⟨g, hg⟩ := cnc_top c.2
      have ih := fo_cnc hb hB B (xpN v) h1
      have hx : x = (11, x.2) := Prod.ext c.1 rfl
      rw [cnc_1 c]
      by_cases hb3 : b ≤ 3
      · have e1 : fo b (x :: B) v = fo b B (xpN v) := by
          rw [hx, fo, if_neg (show ¬ bnd 11 < b by show ¬ 3 < b; omega), xpp_11]
        rw [e1, ← ih]
        rw [hg, fo, if_neg (show ¬ bnd 11 < b by show ¬ 3 < b; omega), xpp_11, xpN_N]
        rfl
      · have e1 : fo b (x :: B) v = (x :: B, v) := by
          rw [hx, fo, if_pos (show bnd 11 < b by show 3 < b; omega)]
        rw [hg] at W1
        have := (WFk_11 hB W1).1
        rw [e1, fo_id (show bnd (tpk (cnc base B).tail) < b by omega)]
        show _ = (cnc base (x :: B), v)
        rw [cnc_1 c]
    · rw [cnc_2 c]
      obtain ⟨k, g⟩ := x
      by_cases hk : bnd k < b
      · rw [fo, if_pos hk, fo, if_pos hk]
        show _ = (cnc base ((k, g) :: B), v)
        rw [cnc_2 c]
      · rw [fo, if_neg hk, fo, if_neg hk]
        exact fo_cnc hb hB B _ h1
theorem fo_suf {b : Nat} : ∀ (B : Sk) (v : ev_S), (fo b B v).1 <:+ B
  | [], _ => List.suffix_refl _
  | (k, g) :: B, v => by
    by_cases hk : bnd k < b
    · rw [fo, if_pos hk]; exact List.suffix_refl _
    · rw [fo, if_neg hk]; exact (fo_suf B _).trans (List.suffix_cons _ _)
/-- folding twice -/
theorem fo_2 {b c : Nat} (hbc : b ≤ c) : ∀ (B : Sk) (v : ev_S), fo b (fo c B v).1 (fo c B v).2 = fo b B v
  | [], _ => rfl
  | (k, g) :: B, v => by
    by_cases hk : bnd k < c
    · rw [show fo c ((k, g) :: B) v = ((k, g) :: B, v) from if_pos hk]
    · rw [show fo c ((k, g) :: B) v = fo c B (xpp k g v) from if_neg hk, show fo b ((k, g) :: B) v = fo b B (xpp k g v) from if_neg (by omega)]
      exact fo_2 hbc B _
/-- the reference may settle below a test -/
theorem FokB_T {base b : Nat} (hb : 1 ≤ b) (hB : base = 20 ∨ base = 21) : ∀ (B : Sk) (v : ev_S), WB base B → TL B → bnd (tpk (cnc base B)) ≤ 3 → ev_T v → Fok b B v
  | [], _, _, _, _, _ => trivial
  | (k, g) :: B, v, h, hL, h3, hv => by
    have h1 := WB_s h (List.suffix_cons _ B)
    have hL1 : TL B := fun x hx => hL x (List.mem_cons_of_mem _ hx)
    by_cases hk : bnd k < b
    · exact Or.inl hk
    · refine Or.inr ⟨fun _ => hv, ?_⟩
      by_cases c : k = 11 ∧ tpk (cnc base B) = 11
      · obtain ⟨rfl, c2⟩ := c
        refine FokB_T hb hB B _ h1 hL1 (by rw [c2]; decide) ?_
        exact xpp_T (Or.inl rfl) hv (fun z => (by omega))
      · have e : cnc base ((k, g) :: B) = (k, g) :: cnc base B := cnc_2 c
        rw [e] at h3
        have h3 : bnd k ≤ 3 := h3
        have hk3 := bnd_3 (k := k) (by omega) h3
        obtain ⟨br, W⟩ := h _ (List.suffix_refl _)
        rw [e] at W
        have hlow : bnd (tpk (cnc base B)) ≤ 3 := by
          cases hc : cnc base B with
          | nil => show bnd 0 ≤ 3; decide
          | cons y C =>
            rw [hc] at W
            have : bnd y.1 < bnd k := W.1.1 (show 3 ≤ k ∧ k ≤ 13 by omega)
            show bnd y.1 ≤ 3
            omega
        exact FokB_T hb hB B _ h1 hL1 hlow (xpp_T hk3 hv (fun z => hL (k, g) (by simp) z))
theorem FokB_C {base b : Nat} (hb : 1 ≤ b) (hb3 : b ≤ 3) (hB : base = 20 ∨ base = 21) : ∀ (B : Sk) (v : ev_S), WB base B → TL B → bnd (tpk (fo 5 (cnc base B) v).1) = 4 → Fok b B v
  | [], _, _, _, _ => trivial
  | (k, g) :: B, v, h, hL, h4 => by
    have h1 := WB_s h (List.suffix_cons _ B)
    have hL1 : TL B := fun x hx => hL x (List.mem_cons_of_mem _ hx)
    obtain ⟨br, W⟩ := h _ (List.suffix_refl _)
    obtain ⟨br1, W1⟩ := h1 _ (List.suffix_refl _)
    by_cases c : k = 11 ∧ tpk (cnc base B) = 11
    · exfalso
      obtain ⟨g2, hg⟩ := cnc_top c.2
      rw [hg] at W1
      have h3 := (WFk_11 hB W1).1
      rw [cnc_1 (x := (k, g)) c, fo_id (by omega)] at h4
      have h4 : bnd (tpk (cnc base B).tail) = 4 := h4
      omega
    · have e : cnc base ((k, g) :: B) = (k, g) :: cnc base B := cnc_2 c
      rw [e] at h4 W
      by_cases h5 : bnd k < 5
      · rw [show fo 5 ((k, g) :: cnc base B) v = ((k, g) :: cnc base B, v) from if_pos h5] at h4
        have h4 : bnd k = 4 := h4
        have hk := bnd_c4 h4
        refine Or.inr ⟨fun z => (by omega), ?_⟩
        have hv2 : ev_T (xpp k g v) := by
          unfold xpp
          rw [if_neg (by omega), if_neg (by omega)]
          refine ev_T_cmp ?_
          have : k = 8 ∨ k = 9 ∨ k = 10 := by omega
          rcases this with rfl | rfl | rfl
          · exact Or.inl rfl
          · exact Or.inr (Or.inl rfl)
          · exact Or.inr (Or.inr rfl)
        refine FokB_T hb hB B _ h1 hL1 ?_ hv2
        cases hc : cnc base B with
        | nil => show bnd 0 ≤ 3; decide
        | cons y C =>
          rw [hc] at W
          have := W.1.1 (show 3 ≤ k ∧ k ≤ 13 by omega)
          have : bnd y.1 < bnd k := this
          show bnd y.1 ≤ 3
          omega
      · rw [show fo 5 ((k, g) :: cnc base B) v = fo 5 (cnc base B) (xpp k g v) from if_neg h5] at h4
        refine Or.inr ⟨fun z => ?_, FokB_C hb hb3 hB B _ h1 hL1 h4⟩
        have := bnd_4 z
        omega
/-- the innermost bracket -/
def inn : Sk → Nat
  | [] => 0
  | x :: B => if x.1 = 22 ∨ x.1 = 23 then x.1 else inn B
theorem inn_p {k : Nat} {g : ev_S} {B : Sk} (h : ¬ (k = 22 ∨ k = 23)) : inn ((k, g) :: B) = inn B := if_neg h
theorem inn_cnc {base : Nat} (hB : base = 20 ∨ base = 21) : ∀ B : Sk, inn (cnc base B) = inn B
  | [] => inn_p (by omega)
  | (k, g) :: B => by
    have ih := inn_cnc hB B
    by_cases c : k = 11 ∧ tpk (cnc base B) = 11
    · obtain ⟨g2, hg⟩ := cnc_top c.2
      rw [cnc_1 (x := (k, g)) c, inn_p (by omega), ← ih]
      rw [hg]
      exact (inn_p (by omega)).symm
    · rw [cnc_2 (x := (k, g)) c]
      unfold inn
      rw [ih]
theorem inn_fo {b : Nat} (hb : 1 ≤ b) : ∀ (B : Sk) (v : ev_S), inn (fo b B v).1 = inn B
  | [], _ => rfl
  | (k, g) :: B, v => by
    by_cases hk : bnd k < b
    · rw [show fo b ((k, g) :: B) v = ((k, g) :: B, v) from if_pos hk]
    · rw [show fo b ((k, g) :: B) v = fo b B (xpp k g v) from if_neg hk, inn_fo hb B _]
      refine (inn_p (fun z => hk ?_)).symm
      rw [bnd_0 (by omega)]
      omega
theorem inn_22 {base : Nat} (hB : base = 20 ∨ base = 21) : ∀ (A : Sk) (br : Nat), WFk base A br → cTB (tpk A) = true → inn A ≠ 22
  | [], _, h, _ => h.elim
  | [(k, g)], br, h, hc => by
    have hk : k = base := h.1
    rw [inn_p (by omega)]
    decide
  | (k, g) :: y :: A, br, h, hc => by
    have hc : cTB k = true := hc
    rcases h.2 with ⟨w, w2⟩ | ⟨w, _⟩
    · have w : 3 ≤ k ∧ k ≤ 13 := w
      rw [inn_p (by omega)]
      refine inn_22 hB (y :: A) br w2 (h.1.2 ?_)
      rcases of_decide_eq_true hc with e | e | e
      · omega
      · omega
      · have := bnd_3 e.1 e.2
        show (8 ≤ k ∧ k ≤ 13) ∨ k = 23
        omega
    · have w : k = 22 ∨ k = 23 := w
      have : k = 23 := by
        rcases of_decide_eq_true hc with e | e | e
        · omega
        · exact e
        · have := bnd_3 e.1 e.2
          omega
      subst this
      show (if 23 = 22 ∨ 23 = 23 then 23 else _) ≠ 22
      rw [if_pos (by decide)]
      decide
/-- within the brackets of a sum, sums alone -/
theorem top_22 {base : Nat} (hB : base = 20 ∨ base = 21) : ∀ (A : Sk) (br : Nat) (v : ev_S), WFk base A br → (inn A = 22 → tpk (fo 5 A v).1 = 22) ∧ (inn A = 0 → base = 20 → tpk (fo 5 A v).1 = 20)
  | [], _, _, h => h.elim
  | [(k, g)], br, v, h => by
    have hk : k = base := h.1
    have hb : bnd k < 5 := by rw [hk, b0 hB]; decide
    rw [show fo 5 [(k, g)] v = ([(k, g)], v) from if_pos hb, inn_p (by omega)]
    exact ⟨fun z => (by cases z), fun _ z => by show k = 20; omega⟩
  | (k, g) :: y :: A, br, v, h => by
    rcases h.2 with ⟨w, w2⟩ | ⟨w, _⟩
    · have w : 3 ≤ k ∧ k ≤ 13 := w
      rw [inn_p (by omega)]
      by_cases h8 : 8 ≤ k
      · have hc := h.1.2 (show (8 ≤ k ∧ k ≤ 13) ∨ k = 23 by omega)
        have n22 := inn_22 hB (y :: A) br w2 hc
        refine ⟨fun z => (n22 z).elim, fun z zb => ?_⟩
        exfalso
        have : ∀ (A : Sk) (br : Nat), WFk base A br → cTB (tpk A) = true → inn A ≠ 0 := by
          intro A
          induction A with
          | nil => intro _ h _; exact h.elim
          | cons x A ih =>
            intro br h hc
            obtain ⟨k, g⟩ := x
            have hck : cTB k = true := hc
            cases A with
            | nil =>
              have : k = base := h.1
              rw [this, zb] at hck
              cases hck
            | cons y A =>
              rcases h.2 with ⟨w, w2⟩ | ⟨w, _⟩
              · have w : 3 ≤ k ∧ k ≤ 13 := w
                rw [inn_p (by omega)]
                refine ih br w2 (h.1.2 ?_)
                rcases of_decide_eq_true hck with e | e | e
                · omega
                · omega
                · have := bnd_3 e.1 e.2
                  show (8 ≤ k ∧ k ≤ 13) ∨ k = 23
                  omega
              · have w : k = 22 ∨ k = 23 := w
                show (if k = 22 ∨ k = 23 then k else _) ≠ 0
                rw [if_pos w]
                omega
        exact this (y :: A) br w2 hc z
      · have h5 : ¬ bnd k < 5 := by
          have : k = 3 ∨ k = 4 ∨ k = 5 ∨ k = 6 ∨ k = 7 := by omega
          rcases this with rfl | rfl | rfl | rfl | rfl <;> decide
        rw [show fo 5 ((k, g) :: y :: A) v = fo 5 (y :: A) (xpp k g v) from if_neg h5]
        exact top_22 hB (y :: A) br _ w2
    · have w : k = 22 ∨ k = 23 := w
      have hb : bnd k < 5 := by rcases w with rfl | rfl <;> decide
      rw [show fo 5 ((k, g) :: y :: A) v = ((k, g) :: y :: A, v) from if_pos hb]
      have hi : inn ((k, g) :: y :: A) = k := if_pos w
      rw [hi]
      exact ⟨fun z => z, fun z => (by omega)⟩
/-- where a test may begin -/
theorem top_ctb {base br : Nat} {A : Sk} (hw : WFk base A br) (h3 : bnd (tpk A) ≤ 3) (h22 : inn A ≠ 22) (h0 : ¬ (inn A = 0 ∧ base = 20)) (hB : base = 20 ∨ base = 21) : cTB (tpk A) = true := by
  cases A with
  | nil => exact hw.elim
  | cons x A =>
    obtain ⟨k, g⟩ := x
    have h3 : bnd k ≤ 3 := h3
    show cTB k = true
    cases A with
    | nil =>
      have hk : k = base := hw.1
      rw [inn_p (by omega)] at h0
      have : k = 21 := by
        rcases hB with e | e
        · exact (h0 ⟨rfl, e⟩).elim
        · omega
      rw [this]; decide
    | cons y A =>
      rcases hw.2 with ⟨w, w2⟩ | ⟨w, _⟩
      · have w : 3 ≤ k ∧ k ≤ 13 := w
        have hb : 1 ≤ bnd k := by
          have : k = 3 ∨ k = 4 ∨ k = 5 ∨ k = 6 ∨ k = 7 ∨ k = 8 ∨ k = 9 ∨ k = 10 ∨ k = 11 ∨ k = 12 ∨ k = 13 := by omega
          rcases this with rfl | rfl | rfl | rfl | rfl | rfl | rfl | rfl | rfl | rfl | rfl <;> decide
        exact cTB_b (bnd_3 hb h3)
      · have w : k = 22 ∨ k = 23 := w
        have : k = 23 := by
          rcases w with e | e
          · exfalso
            apply h22
            show (if k = 22 ∨ k = 23 then k else _) = 22
            rw [if_pos (by omega), e]
          · exact e
        rw [this]; decide
/-- what is left on top when all within the brackets is folded -/
theorem top_fo1 {base br : Nat} {A : Sk} (hB : base = 20 ∨ base = 21) (hw : WFk base A br) (h1 : bnd (tpk A) < 1) (hc : cTB (tpk A) = true) : (inn A = 0 ∧ tpk A = 21) ∨ (inn A = 23 ∧ tpk A = 23) := by
  cases A with
  | nil => exact hw.elim
  | cons x A =>
    obtain ⟨k, g⟩ := x
    have hc : cTB k = true := hc
    have h1 : bnd k < 1 := h1
    rcases cTB_0 hc h1 with e | e
    · refine Or.inl ⟨?_, e⟩
      cases A with
      | nil => exact inn_p (by omega)
      | cons y A =>
        rcases hw.2 with ⟨w, _⟩ | ⟨w, _⟩
        · have w : 3 ≤ k ∧ k ≤ 13 := w
          omega
        · have w : k = 22 ∨ k = 23 := w
          omega
    · refine Or.inr ⟨?_, e⟩
      show (if k = 22 ∨ k = 23 then k else _) = 23
      rw [if_pos (by omega), e]
