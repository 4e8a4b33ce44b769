/-! ===== expressions: the plain machine ===== -/
def bnd (k : Nat) : Nat := if k = 3 ∨ k = 4 then 5 else if k = 5 ∨ k = 6 ∨ k = 7 then 6 else if k = 8 ∨ k = 9 ∨ k = 10 then 4 else if k = 11 then 3 else if k = 12 then 2 else if k = 13 then 1 else 0
def xpN (f : ev_S) : ev_S := fun W => (f W).map fun a => 1 - a
def xpB (k : Nat) (g f : ev_S) : ev_S := fun W => (g W).bind fun a => (f W).bind fun b => ev_jn (nI k) a b
def xpO (k : Nat) (g f : ev_S) : ev_S := fun W => (g W).bind fun a => if a = (if nI k = 13 then 1 else 0) then some a else f W
def xpp (k : Nat) (g f : ev_S) : ev_S := if k = 11 then xpN f else if k = 12 ∨ k = 13 then xpO k g f else xpB k g f
/-- pop while the item binds at least as much as b -/
def fo (b : Nat) : List (Nat × ev_S) → ev_S → List (Nat × ev_S) × ev_S
  | [], f => ([], f)
  | (k, g) :: A, f => if bnd k < b then ((k, g) :: A, f) else fo b A (xpp k g f)
/-- where a not or an and/or is popped, there is a test on top -/
def Fok (b : Nat) : List (Nat × ev_S) → ev_S → Prop
  | [], _ => True
  | (k, g) :: A, f => bnd k < b ∨ ((k = 11 ∨ k = 12 ∨ k = 13 → ev_T f) ∧ Fok b A (xpp k g f))
/-- where an expression's code begins, and the code below it -/
abbrev PP : Type := Nat × (Nat → Int32 × Int32)
/-- how the code below cur lies: the waiting items, top first, with the place of an and/or -/
def Lay (nw : Nat) (code : Nat → Int32 × Int32) (p0 : PP) : List (Nat × ev_S × Nat) → Nat → Nat → Prop
  | [], cur, m => cur = p0.1 ∧ m = 0 ∧ ∀ i, i < p0.1 → code i = p0.2 i
  | (k, g, at_) :: A, cur, m => if (3 ≤ k ∧ k ≤ 10) then (∃ p n m', Lay nw code p0 A p m' ∧ ev_Seg nw code p cur g n ∧ m = m' + n) else if k = 12 ∨ k = 13 then (∃ p n m', Lay nw code p0 A p m' ∧ ev_Seg nw code p at_ g n ∧ cur = at_ + 1 ∧ (code at_).1 = nI k ∧ m = m' + n) else Lay nw code p0 A cur m
def drp (A : List (Nat × ev_S × Nat)) : List (Nat × ev_S) := A.map (fun x => (x.1, x.2.1))
section Mach
variable {p0 : PP} {nw : Nat} {code code' : Nat → Int32 × Int32}
theorem Lay_le : ∀ (A : List (Nat × ev_S × Nat)) (cur m : Nat), Lay nw code p0 A cur m → p0.1 ≤ cur
  | [], cur, m, h => Nat.le_of_eq h.1.symm
  | (k, g, a) :: A, cur, m, h => by
    unfold Lay at h
    by_cases h1 : (3 ≤ k ∧ k ≤ 10)
    · rw [if_pos h1] at h
      obtain ⟨p, n, m', h2, h3, _⟩ := h
      have := Lay_le A p m' h2
      have := h3.1
      omega
    · rw [if_neg h1] at h
      by_cases h2 : k = 12 ∨ k = 13
      · rw [if_pos h2] at h
        obtain ⟨p, n, m', h2, h3, h4, _⟩ := h
        have := Lay_le A p m' h2
        have := h3.1
        omega
      · rw [if_neg h2] at h
        exact Lay_le A cur m h
theorem Lay_cg : ∀ (A : List (Nat × ev_S × Nat)) (cur m : Nat), (∀ i, 0 ≤ i → i < cur → code' i = code i) → Lay nw code p0 A cur m → Lay nw code' p0 A cur m
  | [], cur, m, hc, h => ⟨h.1, h.2.1, fun i hi => (hc i (Nat.zero_le _) (by rw [h.1]; exact hi)).trans (h.2.2 i hi)⟩
  | (k, g, a) :: A, cur, m, hc, h => by
    unfold Lay at h ⊢
    by_cases h1 : (3 ≤ k ∧ k ≤ 10)
    · rw [if_pos h1] at h ⊢
      obtain ⟨p, n, m', h2, h3, h4⟩ := h
      have l1 := Lay_le A p m' h2
      have l2 := h3.1
      exact ⟨p, n, m', Lay_cg A p m' (fun i a b => hc i a (by omega)) h2, ev_Seg_cg h3 (fun i a b => hc i (by omega) b), h4⟩
    · rw [if_neg h1] at h ⊢
      by_cases h2 : k = 12 ∨ k = 13
      · rw [if_pos h2] at h ⊢
        obtain ⟨p, n, m', h2, h3, h4, h5, h6⟩ := h
        have l1 := Lay_le A p m' h2
        have l2 := h3.1
        exact ⟨p, n, m', Lay_cg A p m' (fun i a b => hc i a (by omega)) h2, ev_Seg_cg h3 (fun i a b => hc i (by omega) (by omega)), h4, by rw [hc _ (by omega) (by omega)]; exact h5, h6⟩
      · rw [if_neg h2] at h ⊢
        exact Lay_cg A cur m hc h
theorem ev_Seg_xt {p q n : Nat} {f : ev_S} (h : ev_Seg nw code p q f n) : p < q := h.1
theorem pop_b {k p cur m n a : Nat} {g f : ev_S} {A : List (Nat × ev_S × Nat)} (hk : 3 ≤ k ∧ k ≤ 10) (h : Lay nw code p0 ((k, g, a) :: A) p m) (hS : ev_Seg nw code p cur f n) (hc : (code cur).1 = nI k) : ∃ p' m' n', Lay nw code p0 A p' m' ∧ ev_Seg nw code p' (cur + 1) (xpp k g f) n' ∧ m' + n' = m + n := by
  unfold Lay at h
  rw [if_pos hk] at h
  obtain ⟨p', n', m', h2, h3, h4⟩ := h
  refine ⟨p', m', n' + n, h2, ?_, by omega⟩
  have hb : ev_bin (code cur).1 := by
    rw [hc]
    have : k = 3 ∨ k = 4 ∨ k = 5 ∨ k = 6 ∨ k = 7 ∨ k = 8 ∨ k = 9 ∨ k = 10 := by omega
    unfold ev_bin
    rcases this with rfl | rfl | rfl | rfl | rfl | rfl | rfl | rfl <;> decide
  have := ev_Seg_bin h3 hS rfl hb
  rw [hc] at this
  unfold xpp
  rw [if_neg (by omega), if_neg (by omega)]
  exact this
theorem pop_n {p cur m n a : Nat} {g f : ev_S} {A : List (Nat × ev_S × Nat)} (h : Lay nw code p0 ((11, g, a) :: A) p m) (hS : ev_Seg nw code p cur f n) (hT : ev_T f) (hc : (code cur).1 = 11) : ∃ p' m' n', Lay nw code p0 A p' m' ∧ ev_Seg nw code p' (cur + 1) (xpp 11 g f) n' ∧ m' + n' = m + n := by
  unfold Lay at h
  rw [if_neg (by omega), if_neg (by omega)] at h
  refine ⟨p, m, n, h, ?_, rfl⟩
  unfold xpp
  rw [if_pos rfl]
  exact ev_Seg_not hS hT rfl hc
theorem pop_o {k p cur m n a : Nat} {g f : ev_S} {A : List (Nat × ev_S × Nat)} (hk : k = 12 ∨ k = 13) (h : Lay nw code p0 ((k, g, a) :: A) p m) (hS : ev_Seg nw code p cur f n) (hcur : cur < 2 ^ 31) (hc : ∀ i, i ≠ a → code' i = code i) (hc2 : code' a = (nI k, nI cur)) : a < cur ∧ ∃ p' m' n', Lay nw code' p0 A p' m' ∧ ev_Seg nw code' p' cur (xpp k g f) n' ∧ m' + n' = m + n := by
  unfold Lay at h
  rw [if_neg (by omega), if_pos hk] at h
  obtain ⟨p', n', m', h2, h3, h4, h5, h6⟩ := h
  have l3 := h3.1
  have lS := hS.1
  refine ⟨by omega, p', m', n' + n, Lay_cg A p' m' (fun i _ b => hc i (by omega)) h2, ?_, by omega⟩
  have s1 := ev_Seg_cg (code' := code') h3 (fun i _ b => hc i (by omega))
  have s2 : ev_Seg nw code' (a + 1) cur f n := by
    rw [← h4]
    exact ev_Seg_cg (code' := code') hS (fun i b _ => hc i (by omega))
  have := ev_Seg_ao s1 s2 rfl (show (code' a).1 = 12 ∨ (code' a).1 = 13 by
    rw [hc2]
    rcases hk with rfl | rfl
    · exact Or.inl rfl
    · exact Or.inr rfl) (by rw [hc2]) hcur
  rw [hc2] at this
  unfold xpp
  rw [if_neg (by omega), if_pos hk]
  exact this
end Mach
theorem enc_e : ∀ a, a < 14 → ∀ b, b < 1001 → (((nI b <<< (5 &&& 31)) ||| nI a) &&& 31 = nI a) ∧ (((nI b <<< (5 &&& 31)) ||| nI a) >>> (5 &&& 31) = nI b) := by decide +kernel
