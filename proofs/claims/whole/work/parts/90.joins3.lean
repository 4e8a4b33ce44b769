/-! ===== expressions: where the class joins nothing ===== -/
theorem joins_0 {F n f : Nat} {q : Nat → Nat} {M : sp_Mem} (hF : 1000 ≤ F) (hT : TXC M q n) (hK : TKC M q n f) (hu : bnd (jnK q n f) = 0 ∨ (4 ≤ bnd (jnK q n f) ∧ ¬ sp_I M 96 8 = 0)) : fX2_joins F M = some (0, M) := by
  have hk := jnK_lt (q := q) (n := n) (f := f)
  have hb6 := bnd_6 (jnK q n f)
  have n2 : ¬ nI (bnd (jnK q n f)) = 2 := fun w => by have := (nIe (b := 2) (by omega) (by omega)).1 w; omega
  have n1 : ¬ nI (bnd (jnK q n f)) = 1 := fun w => by have := (nIe (b := 1) (by omega) (by omega)).1 w; omega
  unfold fX2_joins fX2_joins_j30 fX2_joins_j56
  rw [jstep_c hF hT hK, Option.bind_some]
  simp only [sp_do]
  rw [bj_e _ (by omega), if_neg n2, if_neg n1]
  rcases hu with h | ⟨h, h8⟩
  · rw [h, if_pos (show nI 0 < 5 by decide), if_neg (show ¬ nI 0 = 4 by decide)]
  · rw [if_neg h8, if_neg h8, ite_self, ite_self]
