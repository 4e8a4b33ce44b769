/-! ===== expressions: which join the class sees ===== -/
def jb (b : Nat) : Nat := if b = 37 then 7 else if b = 42 then 5 else if b = 43 then 3 else if b = 45 then 4 else if b = 47 then 6 else if b = 60 then 8 else if b = 61 then 10 else if b = 62 then 9 else 0
def jcI (v2 : Int32) : Option Int32 := if v2 = 37 then (some 7) else if v2 = 42 then (some 5) else if v2 = 43 then (some 3) else if v2 = 45 then (some 4) else if v2 = 47 then (some 6) else if v2 = 60 then (some 8) else if v2 = 61 then (some 10) else if v2 = 62 then (some 9) else (some (-1))
theorem jcI_e : ∀ b, b < 256 → jcI (nI b) = some (if jb b = 0 then -1 else nI (jb b)) := by decide +kernel
theorem jb_d : ∀ b, b < 256 → srt b = 2 → jb b = 0 := by decide +kernel
theorem jb_s : ∀ b, b < 256 → jb b ≠ 0 → srt b = 3 := by decide +kernel
theorem jnK_3 {q : Nat → Nat} {n f : Nat} (h : tkS q n f = 3) : jnK q n f = jb (q f) := by
  have hs : ∀ b, (sg q n f b = true) = (q f = b) := fun b => by
    unfold sg
    rw [decide_eq_true_eq, h]
    simp
  unfold jnK jb
  rw [if_neg (by omega)]
  simp only [hs]
theorem jnK_02 {q : Nat → Nat} {n f : Nat} (h : tkS q n f ≠ 1) (h3 : tkS q n f ≠ 3) : jnK q n f = 0 := by
  have hs : ∀ b, ¬ sg q n f b = true := fun b z => h3 (sg_S z).1
  unfold jnK
  rw [if_neg h, if_neg (hs _), if_neg (hs _), if_neg (hs _), if_neg (hs _), if_neg (hs _), if_neg (hs _), if_neg (hs _), if_neg (hs _)]
theorem wdx9 {q : Nat → Nat} {n f : Nat} : wdx q n f cs_9 = some 0 ∨ wdx q n f cs_9 = some 1 ∨ wdx q n f cs_9 = none := by
  rw [wdx_e]
  unfold cs_9
  rw [fnd, fnd, fnd]
  split
  · exact Or.inl rfl
  · split
    · exact Or.inr (Or.inl rfl)
    · exact Or.inr (Or.inr rfl)
theorem jstep_c {F n f : Nat} {q : Nat → Nat} {M : sp_Mem} (hF : 1000 ≤ F) (hT : TXC M q n) (hK : TKC M q n f) : fX2_joiningStep F M = some (if jnK q n f = 0 then -1 else nI (jnK q n f)) := by
  have hn := hT.1
  have hfn := hK.1
  have h4 := tkS4 (f := f) (fun i hi => (hT.2.2 i hi).2)
  unfold fX2_joiningStep
  rw [hK.2.2.2, hK.2.1]
  by_cases h1 : tkS q n f = 1
  · rw [if_pos (by rw [h1]; rfl), plc_9 hF hT hK, Option.bind_some]
    unfold jnK
    rw [if_pos h1]
    rcases wdx9 (q := q) (n := n) (f := f) with e | e | e
    · rw [e]; rfl
    · rw [e]; rfl
    · rw [e]; rfl
  · rw [if_neg (show ¬ nI (tkS q n f) = 1 from fun w => h1 ((nIe (b := 1) (by omega) (by omega)).1 w)), by_c2 hT (by omega), Option.bind_some]
    show jcI _ = _
    by_cases z : f < n
    · have hb := (hT.2.2 f z).2
      have hS : tkS q n f = srt (q f) := if_pos z
      rw [if_pos z, jcI_e _ hb]
      by_cases h3 : tkS q n f = 3
      · rw [jnK_3 h3]
      · rw [jnK_02 h1 h3]
        have : jb (q f) = 0 := by
          by_cases y : jb (q f) = 0
          · exact y
          · exact (h3 (hS.trans (jb_s _ hb y))).elim
        rw [this]
    · have h0 : tkS q n f = 0 := if_neg z
      rw [if_neg z, jnK_02 h1 (by omega)]
      rfl
