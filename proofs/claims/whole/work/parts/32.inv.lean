/-- a law's text of the class (its heads, steps, how many clauses, how long) and the reference's words of it: the same clauses -/
def LR (hd stp : Nat → Int32) (nc len : Int32) (Nh Ns : Nat) (q : Nat → Int32) : Prop := ∃ cl : List ev_C, ev_LC hd stp nc len Nh Ns cl ∧ ev_LQ q cl
theorem LR_ext {hd stp : Nat → Int32} {nc len : Int32} {Nh Ns : Nat} {q q' : Nat → Int32} (hq : ∀ i, i < 900 → q' i = q i) (h : LR hd stp nc len Nh Ns q) : LR hd stp nc len Nh Ns q' := h.imp fun _ h => ⟨h.1, ev_LQ_ext hq h.2⟩
/-! ===== what class and reference hold in common between calls ===== -/
abbrev rM (M : sp_Mem) : Nat → Int32 := sp_I M 105
/-- within: a ≤ x ≤ b -/
def wi (x : Int32) (a b : Int) : Prop := a ≤ x.toInt ∧ x.toInt ≤ b
def i_Room (M : sp_Mem) (o : Nat) (r : Nat → Int32) : Prop := ∀ i, i < 79 → rowOf M o i = r i
/-- bounds of the row's numbers -/
def lo (i : Nat) : Int := if 9 ≤ i ∧ i < 15 then -1 else 0
def hi (i : Nat) : Int := if i = 5 then 999 else if i = 6 then 2 else if i = 7 then 9 else if i < 15 then 24 else if i < 21 then 9 else if i < 26 then 24 else if i < 51 then 3 else if i < 57 then 99 else if i < 62 then 8 else if i < 67 then 63 else if i % 2 = 0 then 1 else 4
def i_Q (r : Nat → Int32) : Prop := (∃ n : Nat, n ≤ 6 ∧ r 0 = nI n) ∧ (∃ n : Nat, n ≤ 5 ∧ r 1 = nI n) ∧ (∃ n : Nat, n ≤ 6 ∧ r 2 = nI n) ∧ (∃ n : Nat, n ≤ 6 ∧ r 3 = nI n ∧ wi (r 4) (-1) ((n : Int) - 1)) ∧ (∀ k : Nat, (k : Int) < (r 2).toInt → (r (67 + 2 * k)).toInt < (r 1).toInt)
def i_B (r : Nat → Int32) : Prop := i_Q r ∧ ∀ i, 5 ≤ i → i < 79 → wi (r i) (lo i) (hi i)
def i_Law (M : sp_Mem) (o : Nat) (r : Nat → Int32) : Prop := ∀ k : Nat, (k : Int) < (r 3).toInt → ∃ t, sp_P M (o + 11) k = some t ∧ 132 ≤ t ∧ t + 2 < sp_n M ∧ LR (sp_I M (t + 1)) (sp_I M (t + 2)) (sp_I M t 2) (sp_I M t 3) (sp_N M (t + 1)) (sp_N M (t + 2)) (fun i => r (80 + 900 * k + i))
/-- where a number of the class's snapshot stands in the reference's -/
def i_pm (i : Nat) : Nat := if i < 25 then 21 + i else if i < 42 then i - 21 else 0
def i_U (M : sp_Mem) (r : Nat → Int32) : Prop := ∃ u w : Nat, u ≤ 16 ∧ w < 17 ∧ sp_I M 18 3 = nI u ∧ sp_I M 103 8 = nI u ∧ sp_I M 18 2 = nI w ∧
  ∀ k, k < u → sp_I M 20 ((w + k) % 17) = sp_I M 109 k ∧ wi (sp_I M 109 k) 0 3 ∧ (∀ i, i < 43 → sp_I M 19 (43 * ((w + k) % 17) + i) = sp_I M 108 (46 * k + i_pm i)) ∧ (∀ i, 1 ≤ i → i ≤ 3 → sp_I M 108 (46 * k + i) = r (5 + i)) ∧ (∀ i, i < 46 → wi (sp_I M 108 (46 * k + i)) (lo (5 + i)) (hi (5 + i)))
def i_T (M : sp_Mem) : Prop := ∃ n : Nat, n ≤ 400 ∧ sp_I M 94 1 = nI n ∧ sp_I M 103 13 = nI n ∧ ∀ i, i < n → sp_I M 95 i = sp_I M 112 i ∧ wi (sp_I M 112 i) 0 255
def i_M (M : sp_Mem) : Prop := (∀ i, i < 7 → sp_I M 102 i = sp_I M 104 i) ∧ sp_I M 0 12 = sp_I M 103 1 ∧ sp_I M 0 13 = sp_I M 103 11 ∧ sp_I M 0 14 = sp_I M 103 18 ∧ sp_I M 0 15 = sp_I M 103 50 ∧ sp_I M 103 20 = 0
def i_I1 (M : sp_Mem) (k : Nat) : Prop := sp_I M 76 k = sp_I M 107 k ∧ (sp_I M 76 k = 0 ∨ (sp_I M 76 k = 1 ∧ i_Room M (52 + 12 * k) (fun i => sp_I M 106 (5480 * k + i)) ∧ i_B (fun i => sp_I M 106 (5480 * k + i)) ∧ i_Law M (52 + 12 * k) (fun i => sp_I M 106 (5480 * k + i))))
def i_I (M : sp_Mem) : Prop := ∀ k, k < 2 → i_I1 M k
def i_N (M : sp_Mem) : Prop := (sp_I M 0 11 = 0 ∧ sp_I M 103 54 = -1 ∧ sp_I M 103 55 = -1) ∨ (sp_I M 0 11 = 1 ∧ sp_I M 39 4 = sp_I M 103 54 ∧ sp_I M 39 8 = sp_I M 103 55 ∧ (∃ n : Nat, n ≤ 6 ∧ sp_I M 103 54 = nI n) ∧ (∃ n : Nat, n ≤ 5 ∧ sp_I M 103 55 = nI n) ∧ (∀ k, k < 6 → sp_I M 41 k = sp_I M 131 (4 + k) ∧ sp_I M 42 k = sp_I M 131 (10 + k)) ∧ ∀ k, k < 5 → sp_I M 44 k = sp_I M 131 (16 + k))
def i_C (M : sp_Mem) : Prop := (∀ k, k < 10 → sp_L M 118 k = sp_L mm_311 118 k) ∧ (∀ k, k < 6 → sp_L M 119 k = sp_L mm_311 119 k) ∧ (∀ k, k < 4 → sp_L M 120 k = sp_L mm_311 120 k) ∧ (∀ k, k < 4 → sp_L M 129 k = sp_L mm_311 129 k) ∧ sp_P M 77 2 ≠ sp_P M 77 3
def i_R (M : sp_Mem) : Prop := i_Room M 6 (rM M) ∧ i_B (rM M) ∧ i_Law M 6 (rM M)
def Inv (k : Nat) (M : sp_Mem) : Prop := sp_WS M ∧ i_R M ∧ i_U M (rM M) ∧ i_T M ∧ i_M M ∧ i_I M ∧ i_N M ∧ i_C M ∧ sp_n M ≤ 132 + 3 * k
/-! a frame leaves alone what it doesn't name -/
def dj (SA : List Nat) (SB : List (Nat × Nat)) (A : List Nat) (B : List (Nat × Nat)) : Bool := SA.all (fun i => !A.contains i && B.all (fun q => q.1 != i)) && SB.all (fun q => !A.contains q.1 && !B.contains q)
/-- rows and fields that a frame may name: none of a law's text, none that holds a reference -/
def okA (A : List Nat) (B : List (Nat × Nat)) : Bool := A.all (fun a => decide (a < 132) && (sh_T.getD a 0 != 13)) && B.all (fun q => decide (q.1 < 132) && ((sh_T.getD q.1 0 != 13) || decide (2 ≤ q.2)))
section InvFr
variable {A SA : List Nat} {B SB : List (Nat × Nat)} {M M' : sp_Mem}
theorem dj_A (h : dj SA SB A B = true) {i j : Nat} (hi : i ∈ SA) : i ∉ A ∧ (i, j) ∉ B := by
  unfold dj at h
  rw [Bool.and_eq_true] at h
  have h1 := List.all_eq_true.mp h.1 i hi
  rw [Bool.and_eq_true] at h1
  refine ⟨fun q => by have := h1.1; simp [q] at this, fun q => ?_⟩
  have := List.all_eq_true.mp h1.2 _ q
  simp at this
theorem dj_B (h : dj SA SB A B = true) {i j : Nat} (hi : (i, j) ∈ SB) : i ∉ A ∧ (i, j) ∉ B := by
  unfold dj at h
  rw [Bool.and_eq_true] at h
  have h1 := List.all_eq_true.mp h.2 _ hi
  rw [Bool.and_eq_true] at h1
  exact ⟨fun q => by have := h1.1; simp [q] at this, fun q => by have := h1.2; simp [q] at this⟩
theorem fr_A (h : sp_fr A B M M') (hd : dj SA SB A B = true) (i : Nat) (hi : i ∈ SA) : sp_I M' i = sp_I M i := funext fun j => h.1 i j (dj_A (j := j) hd hi).1 (dj_A hd hi).2
theorem fr_B (h : sp_fr A B M M') (hd : dj SA SB A B = true) (i j : Nat) (hi : (i, j) ∈ SB) : sp_I M' i j = sp_I M i j := h.1 i j (dj_B hd hi).1 (dj_B hd hi).2
theorem fr_L (h : sp_fr A B M M') (hd : dj SA SB A B = true) (i : Nat) (hi : i ∈ SA) : sp_L M' i = sp_L M i := funext fun j => h.2.1 i j (dj_A (j := j) hd hi).1 (dj_A hd hi).2
theorem fr_P (h : sp_fr A B M M') (hd : dj SA SB A B = true) (i : Nat) (hi : i ∈ SA) : sp_P M' i = sp_P M i := funext fun j => h.2.2.1 i j (dj_A (j := j) hd hi).1 (dj_A hd hi).2
theorem fr_PB (h : sp_fr A B M M') (hd : dj SA SB A B = true) (i j : Nat) (hi : (i, j) ∈ SB) : sp_P M' i j = sp_P M i j := h.2.2.1 i j (dj_B hd hi).1 (dj_B hd hi).2
theorem dj_sub {SA' : List Nat} {SB' : List (Nat × Nat)} (h1 : ∀ i ∈ SA', i ∈ SA) (h2 : ∀ i ∈ SB', i ∈ SB) (h : dj SA SB A B = true) : dj SA' SB' A B = true := by
  unfold dj at h ⊢
  rw [Bool.and_eq_true] at h ⊢
  exact ⟨List.all_eq_true.mpr fun i hi => List.all_eq_true.mp h.1 i (h1 i hi), List.all_eq_true.mpr fun i hi => List.all_eq_true.mp h.2 i (h2 i hi)⟩
theorem okA_132 (h : okA A B = true) {i j : Nat} (hi : 132 ≤ i) : i ∉ A ∧ (i, j) ∉ B := by
  unfold okA at h
  rw [Bool.and_eq_true] at h
  refine ⟨fun q => ?_, fun q => ?_⟩
  · have := List.all_eq_true.mp h.1 _ q
    simp at this; omega
  · have := List.all_eq_true.mp h.2 _ q
    simp at this; omega
theorem text_fr (h : sp_fr A B M M') (hok : okA A B = true) (hT : ∀ i, i < 132 → sp_T M i = sh_T.getD i 0) {t : Nat} (ht : sp_text M t) : sp_text M' t := by
  have hq : ∀ j, j < 2 → t ∉ A ∧ (t, j) ∉ B := by
    intro j hj
    by_cases h1 : t < 132
    · have h13 : sh_T.getD t 0 = 13 := by rw [← hT t h1]; exact ht.1.2
      unfold okA at hok
      rw [Bool.and_eq_true] at hok
      refine ⟨fun q => ?_, fun q => ?_⟩
      · have := List.all_eq_true.mp hok.1 _ q
        rw [h13] at this; simp at this
      · have := List.all_eq_true.mp hok.2 _ q
        rw [h13] at this; simp at this; omega
    · exact okA_132 hok (by omega)
  obtain ⟨⟨a1, a2⟩, a3, a4, ⟨a5, a6⟩, ⟨a7, a8⟩⟩ := ht
  have e := h.2.2
  refine ⟨⟨by rw [e.2.2.2]; exact a1, by rw [e.2.1]; exact a2⟩, by rw [e.1 t 0 (hq 0 (by omega)).1 (hq 0 (by omega)).2]; exact a3, by rw [e.1 t 1 (hq 1 (by omega)).1 (hq 1 (by omega)).2]; exact a4, ⟨by rw [e.2.2.2]; exact a5, by rw [e.2.1]; exact a6⟩, ⟨by rw [e.2.2.2]; exact a7, by rw [e.2.1]; exact a8⟩⟩
/-- the references that stay -/
def wsB : List (Nat × Nat) := sh_P.map (fun q => (q.1, q.2.1))
theorem WS_fr (h : sp_fr A B M M') (hok : okA A B = true) (hd : dj [] wsB A B = true) (h2 : ∃ a, sp_half a ∧ sp_P M' 77 2 = some a) (h3 : ∃ a, sp_half a ∧ sp_P M' 77 3 = some a) (ht : ∀ o, sp_room o → ∀ k t, sp_P M' (o + 11) k = some t → sp_text M t) (hw : sp_WS M) : sp_WS M' := by
  obtain ⟨g1, g2, g3, g4, g5, g6, g7⟩ := hw
  have e1 := h.2.2.2.1
  have e2 := h.2.2.2.2.1
  have e3 := h.2.2.2.2.2
  refine ⟨by rw [e3]; exact g1, fun i hi => by rw [e1]; exact g2 i hi, fun i hi => by rw [e2]; exact g3 i hi, fun q hq => ?_, h2, h3, fun o ho k t hk => text_fr h hok g2 (ht o ho k t hk)⟩
  rw [fr_PB h hd q.1 q.2.1 (List.mem_map.mpr ⟨q, hq, rfl⟩)]
  exact g4 q hq
theorem WS_fr0 (h : sp_fr A B M M') (hok : okA A B = true) (hd : dj [17, 34, 50, 63, 75, 89] (wsB ++ [(77, 2), (77, 3)]) A B = true) (hw : sp_WS M) : sp_WS M' := by
  have hd' : dj [17, 34, 50, 63, 75, 89] [] A B = true := dj_sub (fun i hi => hi) (fun i hi => by cases hi) hd
  refine WS_fr h hok (dj_sub (fun i hi => by cases hi) (fun i hi => List.mem_append_left _ hi) hd) ?_ ?_ ?_ hw
  · rw [fr_PB h hd 77 2 (List.mem_append_right _ (by decide))]; exact hw.2.2.2.2.1
  · rw [fr_PB h hd 77 3 (List.mem_append_right _ (by decide))]; exact hw.2.2.2.2.2.1
  · intro o ho k t hk
    rw [fr_P h hd' (o + 11) (by rcases ho with rfl | rfl | rfl | rfl | rfl | rfl <;> decide)] at hk
    exact hw.2.2.2.2.2.2 o ho k t hk
theorem i_Law_fr {o o' : Nat} {r r' : Nat → Int32} (h : sp_fr A B M M') (hok : okA A B = true) (hP : ∀ j : Nat, (j : Int) < (r 3).toInt → sp_P M' (o' + 11) j = sp_P M (o + 11) j) (h3 : r' 3 = r 3) (hr : ∀ i, 80 ≤ i → i < 5480 → r' i = r i) (hb : (r 3).toInt ≤ 6) (hl : i_Law M o r) : i_Law M' o' r' := by
  intro k hk
  rw [h3] at hk
  obtain ⟨t, g1, g2, g3, g4⟩ := hl k hk
  have e : ∀ i j, 132 ≤ i → sp_I M' i j = sp_I M i j := fun i j hi => h.1 i j (okA_132 (j := j) hok hi).1 (okA_132 hok hi).2
  refine ⟨t, by rw [hP k hk]; exact g1, g2, by rw [h.2.2.2.2.2]; exact g3, ?_⟩
  have e1 : sp_I M' (t + 1) = sp_I M (t + 1) := funext fun j => e _ j (by omega)
  have e2 : sp_I M' (t + 2) = sp_I M (t + 2) := funext fun j => e _ j (by omega)
  rw [e1, e2, e t 2 g2, e t 3 g2, h.2.2.2.2.1, h.2.2.2.2.1]
  exact LR_ext (fun i hi => hr _ (by omega) (by omega)) g4
theorem rowOf_cg {o : Nat} (h0 : ∀ j, j = 4 ∨ j = 8 ∨ j = 11 ∨ j = 14 ∨ j = 15 → sp_I M' o j = sp_I M o j) (h1 : ∀ k, 1 ≤ k → k ≤ 10 → sp_I M' (o + k) = sp_I M (o + k)) : rowOf M' o = rowOf M o := by
  funext i
  unfold rowOf
  rw [h0 4 (by decide), h0 8 (by decide), h0 11 (by decide), h0 14 (by decide), h0 15 (by decide), h1 1 (by decide) (by decide), h1 2 (by decide) (by decide), h1 3 (by decide) (by decide), h1 4 (by decide) (by decide), h1 5 (by decide) (by decide), h1 6 (by decide) (by decide), h1 7 (by decide) (by decide), h1 8 (by decide) (by decide), h1 9 (by decide) (by decide), h1 10 (by decide) (by decide)]
theorem rowOf_6 (h : sp_fr A B M M') (hd : dj [7, 8, 9, 10, 11, 12, 13, 14, 15, 16] [(6, 4), (6, 8), (6, 11), (6, 14), (6, 15)] A B = true) : rowOf M' 6 = rowOf M 6 := by
  refine rowOf_cg (fun j hj => fr_B h hd 6 j (by rcases hj with rfl | rfl | rfl | rfl | rfl <;> decide)) (fun k h1 h2 => fr_A h hd (6 + k) ?_)
  have : k = 1 ∨ k = 2 ∨ k = 3 ∨ k = 4 ∨ k = 5 ∨ k = 6 ∨ k = 7 ∨ k = 8 ∨ k = 9 ∨ k = 10 := by omega
  rcases this with rfl | rfl | rfl | rfl | rfl | rfl | rfl | rfl | rfl | rfl <;> decide
theorem i_T_fr (h : sp_fr A B M M') (hd : dj [95, 112] [(94, 1), (103, 13)] A B = true) (ht : i_T M) : i_T M' := by
  unfold i_T at ht ⊢
  rw [fr_A h hd 95 (by decide), fr_A h hd 112 (by decide), fr_B h hd 94 1 (by decide), fr_B h hd 103 13 (by decide)]
  exact ht
theorem i_M_fr (h : sp_fr A B M M') (hd : dj [102, 104] [(0, 12), (0, 13), (0, 14), (0, 15), (103, 1), (103, 11), (103, 18), (103, 50), (103, 20)] A B = true) (ht : i_M M) : i_M M' := by
  unfold i_M at ht ⊢
  rw [fr_A h hd 102 (by decide), fr_A h hd 104 (by decide), fr_B h hd 0 12 (by decide), fr_B h hd 0 13 (by decide), fr_B h hd 0 14 (by decide), fr_B h hd 0 15 (by decide), fr_B h hd 103 1 (by decide), fr_B h hd 103 11 (by decide), fr_B h hd 103 18 (by decide), fr_B h hd 103 50 (by decide), fr_B h hd 103 20 (by decide)]
  exact ht
theorem i_N_fr (h : sp_fr A B M M') (hd : dj [41, 42, 44, 131] [(0, 11), (39, 4), (39, 8), (103, 54), (103, 55)] A B = true) (ht : i_N M) : i_N M' := by
  unfold i_N at ht ⊢
  rw [fr_A h hd 41 (by decide), fr_A h hd 42 (by decide), fr_A h hd 44 (by decide), fr_A h hd 131 (by decide), fr_B h hd 0 11 (by decide), fr_B h hd 39 4 (by decide), fr_B h hd 39 8 (by decide), fr_B h hd 103 54 (by decide), fr_B h hd 103 55 (by decide)]
  exact ht
theorem i_C_fr (h : sp_fr A B M M') (hd : dj [118, 119, 120, 129] [(77, 2), (77, 3)] A B = true) (ht : i_C M) : i_C M' := by
  unfold i_C at ht ⊢
  rw [fr_L h hd 118 (by decide), fr_L h hd 119 (by decide), fr_L h hd 120 (by decide), fr_L h hd 129 (by decide), fr_PB h hd 77 2 (by decide), fr_PB h hd 77 3 (by decide)]
  exact ht
/-- the undo rows; the row may change where no snapshot looks -/
theorem i_U_fr {r r' : Nat → Int32} (h : sp_fr A B M M') (hd : dj [19, 20, 108, 109] [(18, 2), (18, 3), (103, 8)] A B = true) (hr : ∀ k, 1 ≤ k → k ≤ 3 → r' (5 + k) = r (5 + k)) (ht : i_U M r) : i_U M' r' := by
  obtain ⟨u, w, g1, g2, g3, g4, g5, g6⟩ := ht
  refine ⟨u, w, g1, g2, by rw [fr_B h hd 18 3 (by decide)]; exact g3, by rw [fr_B h hd 103 8 (by decide)]; exact g4, by rw [fr_B h hd 18 2 (by decide)]; exact g5, fun k hk => ?_⟩
  obtain ⟨e1, e2, e3, e4, e5⟩ := g6 k hk
  rw [fr_A h hd 20 (by decide), fr_A h hd 109 (by decide), fr_A h hd 19 (by decide), fr_A h hd 108 (by decide)]
  exact ⟨e1, e2, e3, fun i h1 h2 => (e4 i h1 h2).trans (hr i h1 h2).symm, e5⟩
/-- with nothing to undo -/
theorem i_U_0 {r : Nat → Int32} {w : Nat} (hw : w < 17) (h1 : sp_I M 18 3 = 0) (h2 : sp_I M 103 8 = 0) (h3 : sp_I M 18 2 = nI w) : i_U M r := ⟨0, w, by omega, hw, by rw [h1]; rfl, by rw [h2]; rfl, h3, fun k hk => absurd hk (by omega)⟩
theorem i_I1_fr {k : Nat} (hk : k < 2) (h : sp_fr A B M M') (hok : okA A B = true) (hd : dj [76, 106, 107, 53, 54, 55, 56, 57, 58, 59, 60, 61, 62, 63, 65, 66, 67, 68, 69, 70, 71, 72, 73, 74, 75] [(52, 4), (52, 8), (52, 11), (52, 14), (52, 15), (64, 4), (64, 8), (64, 11), (64, 14), (64, 15)] A B = true) (ht : i_I1 M k) : i_I1 M' k := by
  obtain ⟨g1, g2⟩ := ht
  have h2 : k = 0 ∨ k = 1 := by omega
  unfold i_I1
  rw [fr_A h hd 76 (by decide), fr_A h hd 107 (by decide), fr_A h hd 106 (by decide)]
  refine ⟨g1, g2.imp id (fun g => ⟨g.1, fun i hi => ?_, g.2.2.1, i_Law_fr h hok (fun j _ => by rw [fr_P h hd (52 + 12 * k + 11) (by rcases h2 with rfl | rfl <;> decide)]) rfl (fun _ _ _ => rfl) ?_ g.2.2.2⟩)⟩
  · rw [← g.2.1 i hi, rowOf_cg]
    · intro j hj
      exact fr_B h hd (52 + 12 * k) j (by rcases h2 with rfl | rfl <;> rcases hj with rfl | rfl | rfl | rfl | rfl <;> decide)
    · intro l hl1 hl2
      refine fr_A h hd (52 + 12 * k + l) ?_
      have : l = 1 ∨ l = 2 ∨ l = 3 ∨ l = 4 ∨ l = 5 ∨ l = 6 ∨ l = 7 ∨ l = 8 ∨ l = 9 ∨ l = 10 := by omega
      rcases h2 with rfl | rfl <;> rcases this with rfl | rfl | rfl | rfl | rfl | rfl | rfl | rfl | rfl | rfl <;> decide
  · obtain ⟨n, hn, h3, _⟩ := g.2.2.1.1.2.2.2.1
    have h3 : sp_I M 106 (5480 * k + 3) = nI n := h3
    rw [h3, nI_toInt (by omega)]
    omega
theorem i_R_fr (h : sp_fr A B M M') (hok : okA A B = true) (hd : dj [7, 8, 9, 10, 11, 12, 13, 14, 15, 16, 17, 105] [(6, 4), (6, 8), (6, 11), (6, 14), (6, 15)] A B = true) (ht : i_R M) : i_R M' := by
  obtain ⟨g1, g2, g3⟩ := ht
  have er : rM M' = rM M := fr_A h hd 105 (by decide)
  refine ⟨?_, by rw [er]; exact g2, ?_⟩
  · unfold i_Room
    rw [er, rowOf_6 h (dj_sub (by decide) (by decide) hd)]
    exact g1
  · refine i_Law_fr h hok (fun j _ => by rw [fr_P h hd 17 (by decide)]) (by rw [er]) (fun _ _ _ => by rw [er]) ?_ g3
    obtain ⟨n, hn, h3, _⟩ := g2.1.2.2.2.1
    rw [h3, nI_toInt (by omega)]
    omega
/-- a step: of each part of the invariant either the frame leaves it alone, or it is shown anew -/
theorem Inv_step2 {k : Nat} (h : sp_fr A B M M') (hI : Inv k M) (hok : okA A B = true)
  (hW : dj [17, 34, 50, 63, 75, 89] (wsB ++ [(77, 2), (77, 3)]) A B = true ∨ sp_WS M')
  (hR : dj [7, 8, 9, 10, 11, 12, 13, 14, 15, 16, 17, 105] [(6, 4), (6, 8), (6, 11), (6, 14), (6, 15)] A B = true ∨ i_R M')
  (hU : dj [19, 20, 108, 109, 105] [(18, 2), (18, 3), (103, 8)] A B = true ∨ i_U M' (rM M'))
  (hT : dj [95, 112] [(94, 1), (103, 13)] A B = true ∨ i_T M')
  (hM : dj [102, 104] [(0, 12), (0, 13), (0, 14), (0, 15), (103, 1), (103, 11), (103, 18), (103, 50), (103, 20)] A B = true ∨ i_M M')
  (hi : dj [76, 106, 107, 53, 54, 55, 56, 57, 58, 59, 60, 61, 62, 63, 65, 66, 67, 68, 69, 70, 71, 72, 73, 74, 75] [(52, 4), (52, 8), (52, 11), (52, 14), (52, 15), (64, 4), (64, 8), (64, 11), (64, 14), (64, 15)] A B = true ∨ i_I M')
  (hN : dj [41, 42, 44, 131] [(0, 11), (39, 4), (39, 8), (103, 54), (103, 55)] A B = true ∨ i_N M')
  (hC : i_C M') : Inv (k + 1) M' := by
  obtain ⟨g1, g2, g3, g4, g5, g6, g7, g8, g9⟩ := hI
  refine ⟨hW.elim (fun q => WS_fr0 h hok q g1) id, hR.elim (fun q => i_R_fr h hok q g2) id, hU.elim (fun q => ?_) id, hT.elim (fun q => i_T_fr h q g4) id, hM.elim (fun q => i_M_fr h q g5) id, hi.elim (fun q k hk => i_I1_fr hk h hok q (g6 k hk)) id, hN.elim (fun q => i_N_fr h q g7) id, hC, by rw [h.2.2.2.2.2]; omega⟩
  have er : rM M' = rM M := fr_A h q 105 (by decide)
  rw [er]
  exact i_U_fr h (dj_sub (by decide) (by decide) q) (fun _ _ _ => rfl) g3
/-- the same, the words' codes left alone -/
theorem Inv_step {k : Nat} (h : sp_fr A B M M') (hI : Inv k M) (hok : okA A B = true)
  (hW : dj [17, 34, 50, 63, 75, 89] (wsB ++ [(77, 2), (77, 3)]) A B = true ∨ sp_WS M')
  (hR : dj [7, 8, 9, 10, 11, 12, 13, 14, 15, 16, 17, 105] [(6, 4), (6, 8), (6, 11), (6, 14), (6, 15)] A B = true ∨ i_R M')
  (hU : dj [19, 20, 108, 109, 105] [(18, 2), (18, 3), (103, 8)] A B = true ∨ i_U M' (rM M'))
  (hT : dj [95, 112] [(94, 1), (103, 13)] A B = true ∨ i_T M')
  (hM : dj [102, 104] [(0, 12), (0, 13), (0, 14), (0, 15), (103, 1), (103, 11), (103, 18), (103, 50), (103, 20)] A B = true ∨ i_M M')
  (hi : dj [76, 106, 107, 53, 54, 55, 56, 57, 58, 59, 60, 61, 62, 63, 65, 66, 67, 68, 69, 70, 71, 72, 73, 74, 75] [(52, 4), (52, 8), (52, 11), (52, 14), (52, 15), (64, 4), (64, 8), (64, 11), (64, 14), (64, 15)] A B = true ∨ i_I M')
  (hN : dj [41, 42, 44, 131] [(0, 11), (39, 4), (39, 8), (103, 54), (103, 55)] A B = true ∨ i_N M')
  (hC : dj [118, 119, 120, 129] [(77, 2), (77, 3)] A B = true) : Inv (k + 1) M' := Inv_step2 h hI hok hW hR hU hT hM hi hN (i_C_fr h hC hI.2.2.2.2.2.2.2.1)
end InvFr
theorem sp_fr.tr2 {A A' : List Nat} {B B' : List (Nat × Nat)} {M M1 M2 : sp_Mem} (h : sp_fr A B M M1) (k : sp_fr A' B' M1 M2) : sp_fr (A ++ A') (B ++ B') M M2 :=
  (h.mono (fun _ q => List.mem_append_left _ q) (fun _ q => List.mem_append_left _ q)).tr (k.mono (fun _ q => List.mem_append_right _ q) (fun _ q => List.mem_append_right _ q))
