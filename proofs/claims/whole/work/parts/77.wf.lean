/-! ===== expressions: waiting items in order ===== -/
def okP (k k' : Nat) : Prop := (3 ≤ k ∧ k ≤ 13 → bnd k' < bnd k) ∧ ((8 ≤ k ∧ k ≤ 13) ∨ k = 23 → cTB k' = true)
/-- the waiting items over their base, br brackets open -/
def WFk (base : Nat) : Sk → Nat → Prop
  | [], _ => False
  | [x], br => x.1 = base ∧ br = 0
  | x :: y :: A, br => okP x.1 y.1 ∧ (((3 ≤ x.1 ∧ x.1 ≤ 13) ∧ WFk base (y :: A) br) ∨ ((x.1 = 22 ∨ x.1 = 23) ∧ 1 ≤ br ∧ WFk base (y :: A) (br - 1)))
def TL (A : Sk) : Prop := ∀ x ∈ A, x.1 = 12 ∨ x.1 = 13 → ev_T x.2
theorem bnd_0 {k : Nat} (h : ¬ (3 ≤ k ∧ k ≤ 13)) : bnd k = 0 := by
  unfold bnd
  rw [if_neg (by omega), if_neg (by omega), if_neg (by omega), if_neg (by omega), if_neg (by omega), if_neg (by omega)]
theorem bnd_6 (k : Nat) : bnd k ≤ 6 := by
  unfold bnd
  repeat' split
  all_goals omega
theorem bnd_3 {k : Nat} (h : 1 ≤ bnd k) (h2 : bnd k ≤ 3) : k = 11 ∨ k = 12 ∨ k = 13 := by
  unfold bnd at h h2
  by_cases a : k = 3 ∨ k = 4
  · rw [if_pos a] at h2; omega
  rw [if_neg a] at h h2
  by_cases b : k = 5 ∨ k = 6 ∨ k = 7
  · rw [if_pos b] at h2; omega
  rw [if_neg b] at h h2
  by_cases c : k = 8 ∨ k = 9 ∨ k = 10
  · rw [if_pos c] at h2; omega
  rw [if_neg c] at h h2
  by_cases d : k = 11
  · exact Or.inl d
  rw [if_neg d] at h
  by_cases e : k = 12
  · exact Or.inr (Or.inl e)
  rw [if_neg e] at h
  by_cases g : k = 13
  · exact Or.inr (Or.inr g)
  rw [if_neg g] at h
  omega
theorem bnd_4 {k : Nat} (h : k = 11 ∨ k = 12 ∨ k = 13) : bnd k ≤ 3 := by
  rcases h with rfl | rfl | rfl <;> decide
theorem WFk_len {base : Nat} : ∀ (A : Sk) (br : Nat), WFk base A br → A.length ≤ 7 * br + 1 + bnd (tpk A)
  | [], _, h => h.elim
  | [x], br, h => by
    show 1 ≤ _
    omega
  | x :: y :: A, br, h => by
    obtain ⟨h1, h2⟩ := h
    rw [List.length_cons]
    show _ ≤ 7 * br + 1 + bnd x.1
    rcases h2 with ⟨h2, h3⟩ | ⟨h2, h3, h4⟩
    · have i := WFk_len (y :: A) br h3
      have j := h1.1 h2
      have : bnd (tpk (y :: A)) = bnd y.1 := rfl
      omega
    · have i := WFk_len (y :: A) (br - 1) h4
      have := bnd_6 (tpk (y :: A))
      omega
theorem fo_wf {base b : Nat} (hb : 1 ≤ b) (hbase : bnd base = 0) : ∀ (A : Sk) (br : Nat) (v : ev_S), WFk base A br → WFk base (fo b A v).1 br ∧ bnd (tpk (fo b A v).1) < b ∧ (fo b A v).1 <:+ A
  | [], _, _, h => h.elim
  | [x], br, v, h => by
    have : bnd x.1 < b := by rw [h.1, hbase]; omega
    rw [show fo b [x] v = ([x], v) from if_pos this]
    exact ⟨h, this, List.suffix_refl _⟩
  | x :: y :: A, br, v, h => by
    by_cases hx : bnd x.1 < b
    · rw [show fo b (x :: y :: A) v = (x :: y :: A, v) from if_pos hx]
      exact ⟨h, hx, List.suffix_refl _⟩
    · rw [show fo b (x :: y :: A) v = fo b (y :: A) (xpp x.1 x.2 v) from if_neg hx]
      rcases h.2 with ⟨h2, h3⟩ | ⟨h2, _, _⟩
      · obtain ⟨i1, i2, i3⟩ := fo_wf hb hbase (y :: A) br (xpp x.1 x.2 v) h3
        exact ⟨i1, i2, i3.trans (List.suffix_cons _ _)⟩
      · exact absurd (show bnd x.1 < b by rw [bnd_0 (by omega)]; omega) hx
/-- popping sums and comparisons asks for no test -/
theorem Fok_4 {b : Nat} (hb : 4 ≤ b) : ∀ (A : Sk) (v : ev_S), Fok b A v
  | [], _ => trivial
  | (k, g) :: A, v => by
    by_cases h : bnd k < b
    · exact Or.inl h
    · exact Or.inr ⟨fun z => absurd (bnd_4 z) (by omega), Fok_4 hb A _⟩
theorem xpp_T {k : Nat} {g v : ev_S} (h : k = 11 ∨ k = 12 ∨ k = 13) (hv : ev_T v) (hg : k = 12 ∨ k = 13 → ev_T g) : ev_T (xpp k g v) := by
  unfold xpp
  by_cases h1 : k = 11
  · rw [if_pos h1]; exact ev_T_not hv
  · rw [if_neg h1, if_pos (by omega)]; exact ev_T_ao (hg (by omega)) hv
theorem Fok_T {base b : Nat} (hb : 1 ≤ b) : ∀ (A : Sk) (br : Nat) (v : ev_S), WFk base A br → bnd base = 0 → bnd (tpk A) ≤ 3 → TL A → ev_T v → Fok b A v ∧ ev_T (fo b A v).2
  | [], _, _, h, _, _, _, _ => h.elim
  | [x], br, v, h, h0, h3, ht, hv => by
    have : bnd x.1 < b := by rw [h.1, h0]; omega
    rw [show fo b [x] v = ([x], v) from if_pos this]
    exact ⟨Or.inl this, hv⟩
  | x :: y :: A, br, v, h, h0, h3, ht, hv => by
    by_cases hx : bnd x.1 < b
    · rw [show fo b (x :: y :: A) v = (x :: y :: A, v) from if_pos hx]
      exact ⟨Or.inl hx, hv⟩
    · rw [show fo b (x :: y :: A) v = fo b (y :: A) (xpp x.1 x.2 v) from if_neg hx]
      have hk := bnd_3 (k := x.1) (by omega) h3
      have hv2 : ev_T (xpp x.1 x.2 v) := xpp_T hk hv (ht x (by simp))
      have hl := h.1.1 (by omega)
      have h3 : bnd x.1 ≤ 3 := h3
      rcases h.2 with ⟨_, w⟩ | ⟨w, _⟩
      · obtain ⟨i1, i2⟩ := Fok_T hb (y :: A) br _ w h0 (show bnd y.1 ≤ 3 by omega) (fun z hz => ht z (List.mem_cons_of_mem _ hz)) hv2
        exact ⟨Or.inr ⟨fun _ => hv, i1⟩, i2⟩
      · omega
/-- behind a comparison -/
theorem Fok_C {base b : Nat} (hb : 1 ≤ b) (hb3 : b ≤ 3) : ∀ (A : Sk) (br : Nat) (v : ev_S), WFk base A br → bnd base = 0 → bnd (tpk A) = 4 → TL A → Fok b A v ∧ ev_T (fo b A v).2
  | [], _, _, h, _, _, _ => h.elim
  | [x], br, v, h, h0, h4, ht => by
    have h4 : bnd x.1 = 4 := h4
    rw [h.1, h0] at h4
    omega
  | x :: y :: A, br, v, h, h0, h4, ht => by
    have h4 : bnd x.1 = 4 := h4
    have hx : ¬ bnd x.1 < b := by omega
    have h813 : 3 ≤ x.1 ∧ x.1 ≤ 13 := by
      by_cases q : 3 ≤ x.1 ∧ x.1 ≤ 13
      · exact q
      · rw [bnd_0 q] at h4; omega
    have hc : x.1 = 8 ∨ x.1 = 9 ∨ x.1 = 10 := by
      have : x.1 = 3 ∨ x.1 = 4 ∨ x.1 = 5 ∨ x.1 = 6 ∨ x.1 = 7 ∨ x.1 = 8 ∨ x.1 = 9 ∨ x.1 = 10 ∨ x.1 = 11 ∨ x.1 = 12 ∨ x.1 = 13 := by omega
      rcases this with e | e | e | e | e | e | e | e | e | e | e <;> first | omega | (rw [e] at h4; exact absurd h4 (by decide))
    rw [show fo b (x :: y :: A) v = fo b (y :: A) (xpp x.1 x.2 v) from if_neg hx]
    have hv2 : ev_T (xpp x.1 x.2 v) := by
      unfold xpp
      rw [if_neg (by omega), if_neg (by omega)]
      refine ev_T_cmp ?_
      rcases hc with e | e | e
      · exact Or.inl (by rw [e]; rfl)
      · exact Or.inr (Or.inl (by rw [e]; rfl))
      · exact Or.inr (Or.inr (by rw [e]; rfl))
    have hl := h.1.1 h813
    rcases h.2 with ⟨_, w⟩ | ⟨w, _⟩
    · obtain ⟨i1, i2⟩ := Fok_T hb (y :: A) br _ w h0 (show bnd y.1 ≤ 3 by omega) (fun z hz => ht z (List.mem_cons_of_mem _ hz)) hv2
      exact ⟨Or.inr ⟨fun z => absurd z (by omega), i1⟩, i2⟩
    · omega
