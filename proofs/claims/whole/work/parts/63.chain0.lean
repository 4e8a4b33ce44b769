/-! ===== chains: levels ===== -/
section Levels
def chS (A : Nat → Nat → Prop) (H : Nat → Prop) : Nat → Nat → Prop
  | 0, p => H p
  | c + 1, p => chS A H c p ∨ ∃ q, q < 5 ∧ A p q ∧ chS A H c q
def chR (A : Nat → Nat → Prop) (H : Nat → Prop) : Nat → Nat → Prop
  | 0, _ => False
  | c + 1, k => ∃ q, q < 5 ∧ A k q ∧ chS A H c q
/-- the level of k is c -/
def chL (A : Nat → Nat → Prop) (H : Nat → Prop) (k c : Nat) : Prop := chR A H c k ∧ ∀ j, j < c → ¬ chR A H j k
/-- calls left after p is called -/
def chG (A : Nat → Nat → Prop) (H : Nat → Prop) (p c : Nat) : Prop := (H p ∧ c = 0) ∨ (¬ H p ∧ chL A H p c)
variable {A : Nat → Nat → Prop} {H : Nat → Prop}
theorem chS_1 {c p : Nat} (h : chS A H c p) : chS A H (c + 1) p := Or.inl h
theorem chS_m {c p : Nat} : ∀ {d : Nat}, c ≤ d → chS A H c p → chS A H d p
  | 0, h, g => by rw [show c = 0 by omega] at g; exact g
  | d + 1, h, g => by
    by_cases q : c = d + 1
    · rw [← q]; exact g
    · exact chS_1 (chS_m (show c ≤ d by omega) g)
theorem chR_m {c k : Nat} {d : Nat} (h : c ≤ d) (g : chR A H c k) : chR A H d k := by
  cases c with
  | zero => exact g.elim
  | succ c =>
    obtain ⟨d, rfl⟩ : ∃ e, d = e + 1 := ⟨d - 1, by omega⟩
    obtain ⟨q, h1, h2, h3⟩ := g
    exact ⟨q, h1, h2, chS_m (by omega) h3⟩
theorem chS_R {p : Nat} : ∀ c, chS A H c p ↔ (H p ∨ chR A H c p)
  | 0 => ⟨Or.inl, fun h => h.elim id False.elim⟩
  | c + 1 => ⟨fun h => h.elim (fun g => ((chS_R c).1 g).imp id (chR_m (by omega))) Or.inr, fun h => h.elim (fun g => chS_m (c := 0) (by omega) g) Or.inr⟩
theorem chL_ex {k : Nat} : ∀ c, chR A H c k → ∃ j, j ≤ c ∧ chL A H k j
  | 0, h => h.elim
  | c + 1, h => by
    by_cases g : chR A H c k
    · obtain ⟨j, h1, h2⟩ := chL_ex c g
      exact ⟨j, by omega, h2⟩
    · exact ⟨c + 1, by omega, h, fun j hj q => g (chR_m (by omega) q)⟩
theorem chL_u {k c d : Nat} (h : chL A H k c) (g : chL A H k d) : c = d := by
  rcases Nat.lt_trichotomy c d with q | q | q
  · exact (g.2 c q h.1).elim
  · exact q
  · exact (h.2 d q g.1).elim
theorem chL_1 {k c : Nat} (h : chL A H k c) : 1 ≤ c := by
  cases c with
  | zero => exact h.1.elim
  | succ c => omega
theorem chG_u {k c d : Nat} (h : chG A H k c) (g : chG A H k d) : c = d := by
  rcases h with ⟨h1, h2⟩ | ⟨h1, h2⟩ <;> rcases g with ⟨g1, g2⟩ | ⟨g1, g2⟩
  · omega
  · exact (g1 h1).elim
  · exact (h1 g1).elim
  · exact chL_u h2 g2
/-- who is at level c + 1: one calls somebody after whom c are left -/
theorem chG_S {p c : Nat} : chG A H p c ↔ (chS A H c p ∧ ∀ j, j < c → ¬ chS A H j p) := by
  constructor
  · rintro (⟨h1, rfl⟩ | ⟨h1, h2⟩)
    · exact ⟨h1, fun j hj => absurd hj (by omega)⟩
    · exact ⟨(chS_R c).2 (Or.inr h2.1), fun j hj q => ((chS_R j).1 q).elim h1 (h2.2 j hj)⟩
  · rintro ⟨h1, h2⟩
    by_cases g : H p
    · refine Or.inl ⟨g, ?_⟩
      cases c with
      | zero => rfl
      | succ c => exact (h2 0 (by omega) g).elim
    · exact Or.inr ⟨g, ((chS_R c).1 h1).resolve_left g, fun j hj q => h2 j hj ((chS_R j).2 (Or.inr q))⟩
theorem chL_next {k c : Nat} : chL A H k (c + 1) ↔ ((∃ q, q < 5 ∧ A k q ∧ chG A H q c) ∧ ¬ chR A H c k) := by
  constructor
  · rintro ⟨⟨q, h1, h2, h3⟩, h4⟩
    refine ⟨⟨q, h1, h2, chG_S.2 ⟨h3, fun j hj g => ?_⟩⟩, h4 c (by omega)⟩
    exact h4 (j + 1) (by omega) ⟨q, h1, h2, g⟩
  · rintro ⟨⟨q, h1, h2, h3⟩, h4⟩
    exact ⟨⟨q, h1, h2, (chG_S.1 h3).1⟩, fun j hj g => h4 (chR_m (by omega) g)⟩
def cnt5 (f : Nat → Bool) : Nat := (f 0).toNat + (f 1).toNat + (f 2).toNat + (f 3).toNat + (f 4).toNat
theorem toN_le (b : Bool) : b.toNat ≤ 1 := by cases b <;> decide
theorem cnt5_le (f : Nat → Bool) : cnt5 f ≤ 5 := by
  unfold cnt5
  have h0 := toN_le (f 0)
  have h1 := toN_le (f 1)
  have h2 := toN_le (f 2)
  have h3 := toN_le (f 3)
  have h4 := toN_le (f 4)
  omega
theorem cnt5_lt {f g : Nat → Bool} (h : ∀ p, p < 5 → f p = true → g p = true) {p : Nat} (hp : p < 5) (h1 : g p = true) (h2 : ¬ f p = true) : cnt5 f < cnt5 g := by
  have hi : ∀ i, i < 5 → (f i).toNat ≤ (g i).toNat := by
    intro i hi
    have := h i hi
    cases q : f i
    · exact Nat.zero_le _
    · rw [this q]; exact Nat.le_refl _
  have hs : (f p).toNat + 1 ≤ (g p).toNat := by
    rw [h1]
    cases q : f p
    · decide
    · exact (h2 q).elim
  have g0 := hi 0 (by omega)
  have g1 := hi 1 (by omega)
  have g2 := hi 2 (by omega)
  have g3 := hi 3 (by omega)
  have g4 := hi 4 (by omega)
  unfold cnt5
  have : p = 0 ∨ p = 1 ∨ p = 2 ∨ p = 3 ∨ p = 4 := by omega
  rcases this with rfl | rfl | rfl | rfl | rfl <;> omega
theorem bEx (f : Nat → Prop) : ∀ n, ∃ g : Nat → Bool, ∀ p, p < n → (g p = true ↔ f p)
  | 0 => ⟨fun _ => false, fun p hp => absurd hp (by omega)⟩
  | n + 1 => by
    obtain ⟨g, hg⟩ := bEx f n
    by_cases q : f n
    · refine ⟨fun p => if p = n then true else g p, fun p hp => ?_⟩
      by_cases e : p = n
      · simp [e, q]
      · simp [e, hg p (by omega)]
    · refine ⟨fun p => if p = n then false else g p, fun p hp => ?_⟩
      by_cases e : p = n
      · simp [e, q]
      · simp [e, hg p (by omega)]
theorem chS_st {c : Nat} (h : ∀ p, p < 5 → chS A H (c + 1) p → chS A H c p) : ∀ d, c ≤ d → ∀ p, p < 5 → chS A H (d + 1) p → chS A H d p
  | 0, hd, p, hp, g => by rw [show c = 0 by omega] at h; exact h p hp g
  | d + 1, hd, p, hp, g => by
    by_cases q : c = d + 1
    · rw [q] at h; exact h p hp g
    · rcases g with g | ⟨q, h1, h2, h3⟩
      · exact g
      · exact Or.inr ⟨q, h1, h2, chS_st h d (by omega) q h1 h3⟩
theorem chS_4 : ∀ p, p < 5 → chS A H 5 p → chS A H 4 p := by
  by_cases hst : ∀ p, p < 5 → chS A H 5 p → chS A H 4 p
  · exact hst
  exfalso
  have key : ∀ c, c ≤ 4 → ∃ p, p < 5 ∧ chS A H (c + 1) p ∧ ¬ chS A H c p := by
    intro c hc
    by_cases g : ∃ p, p < 5 ∧ chS A H (c + 1) p ∧ ¬ chS A H c p
    · exact g
    · refine absurd (chS_st (c := c) (fun p hp q => ?_) 4 hc) hst
      by_cases z : chS A H c p
      · exact z
      · exact (g ⟨p, hp, q, z⟩).elim
  have lt : ∀ c, c ≤ 4 → ∀ g g' : Nat → Bool, (∀ p, p < 5 → (g p = true ↔ chS A H c p)) → (∀ p, p < 5 → (g' p = true ↔ chS A H (c + 1) p)) → cnt5 g < cnt5 g' := fun c hc g g' e1 e2 => by
    obtain ⟨p, h1, h2, h3⟩ := key c hc
    exact cnt5_lt (fun p hp z => (e2 p hp).2 (chS_1 ((e1 p hp).1 z))) h1 ((e2 p h1).2 h2) (fun z => h3 ((e1 p h1).1 z))
  obtain ⟨b0, q0⟩ := bEx (chS A H 0) 5
  obtain ⟨b1, q1⟩ := bEx (chS A H 1) 5
  obtain ⟨b2, q2⟩ := bEx (chS A H 2) 5
  obtain ⟨b3, q3⟩ := bEx (chS A H 3) 5
  obtain ⟨b4, q4⟩ := bEx (chS A H 4) 5
  obtain ⟨b5, q5⟩ := bEx (chS A H 5) 5
  have h0 : 0 < cnt5 b0 := by
    obtain ⟨p, h1, h2, h3⟩ := key 0 (by omega)
    rcases h2 with h2 | ⟨q, g1, g2, g3⟩
    · exact (h3 h2).elim
    · exact Nat.lt_of_le_of_lt (Nat.zero_le _) (cnt5_lt (f := fun _ => false) (fun _ _ z => by cases z) g1 ((q0 q g1).2 g3) (fun z => by cases z))
  have l0 := lt 0 (by omega) b0 b1 q0 q1
  have l1 := lt 1 (by omega) b1 b2 q1 q2
  have l2 := lt 2 (by omega) b2 b3 q2 q3
  have l3 := lt 3 (by omega) b3 b4 q3 q4
  have l4 := lt 4 (by omega) b4 b5 q4 q5
  have := cnt5_le b5
  omega
theorem chR_5 {c k : Nat} (h : chR A H c k) : chR A H 5 k := by
  cases c with
  | zero => exact h.elim
  | succ c =>
    obtain ⟨q, h1, h2, h3⟩ := h
    by_cases g : c ≤ 4
    · exact ⟨q, h1, h2, chS_m g h3⟩
    · refine ⟨q, h1, h2, ?_⟩
      have : ∀ d, 4 ≤ d → chS A H d q → chS A H 4 q := by
        intro d hd
        induction d with
        | zero => omega
        | succ d ih =>
          intro z
          by_cases e : d + 1 = 4
          · rw [← e]; exact z
          · exact ih (by omega) (chS_st chS_4 d (by omega) q h1 z)
      exact this c (by omega) h3
theorem chL_5 {k c : Nat} (h : chL A H k c) : c ≤ 5 := by
  by_cases q : c ≤ 5
  · exact q
  · exact (h.2 5 (by omega) (chR_5 h.1)).elim
/-- the first p from i on that k can call with c left after it -/
def chF (A : Nat → Nat → Prop) (H : Nat → Prop) (k c i p : Nat) : Prop := i ≤ p ∧ p < 5 ∧ A k p ∧ chG A H p c ∧ ∀ q, i ≤ q → q < p → ¬ (A k q ∧ chG A H q c)
theorem chF_ex {k c : Nat} : ∀ (m i : Nat), i + m = 5 → (∃ q, i ≤ q ∧ q < 5 ∧ A k q ∧ chG A H q c) → ∃ p, chF A H k c i p
  | 0, i, hi, ⟨q, h1, h2, _⟩ => absurd h1 (by omega)
  | m + 1, i, hi, ⟨q, h1, h2, h3, h4⟩ => by
    by_cases g : A k i ∧ chG A H i c
    · exact ⟨i, by omega, by omega, g.1, g.2, fun q a b => absurd a (by omega)⟩
    · have : q ≠ i := fun z => g (by rw [← z]; exact ⟨h3, h4⟩)
      obtain ⟨p, e1, e2, e3, e4, e5⟩ := chF_ex m (i + 1) (by omega) ⟨q, by omega, h2, h3, h4⟩
      refine ⟨p, by omega, e2, e3, e4, fun q a b => ?_⟩
      by_cases z : q = i
      · rw [z]; exact g
      · exact e5 q (by omega) b
end Levels
