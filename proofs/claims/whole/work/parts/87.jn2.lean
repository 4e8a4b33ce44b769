/-! ===== expressions: small facts for joins ===== -/
theorem fo_id {b : Nat} {A : Sk} {v : ev_S} (h : bnd (tpk A) < b) : fo b A v = (A, v) := by
  cases A with
  | nil => rfl
  | cons x A => exact if_pos h
theorem fo_fo {b : Nat} (hb : 1 ≤ b) {base br : Nat} (h0 : bnd base = 0) {A : Sk} {v : ev_S} (h : WFk base A br) : fo b (fo b A v).1 (fo b A v).2 = fo b A v := fo_id (fo_wf hb h0 A br v h).2.1
theorem jn_w {q : Nat → Nat} {n f : Nat} (h : jnK q n f = 12 ∨ jnK q n f = 13) : tkS q n f = 1 ∧ (tkW q n f = 1476 ∨ tkW q n f = 498) := by
  by_cases h1 : tkS q n f = 1
  · refine ⟨h1, ?_⟩
    have hx : ¬ wdx q n f cs_9 = none := by
      intro z
      unfold jnK at h
      rw [if_pos h1, z, if_neg (by decide), if_neg (by decide)] at h
      omega
    unfold wdx at hx
    rw [if_pos h1] at hx
    unfold cs_9 at hx
    rw [fnd, fnd, fnd] at hx
    by_cases a : tkW q n f = 1476
    · exact Or.inl a
    · by_cases b : tkW q n f = 498
      · exact Or.inr b
      · rw [if_neg (fun w => a (of_decide_eq_true w)), if_neg (fun w => b (of_decide_eq_true w))] at hx
        exact (hx rfl).elim
  · exfalso
    by_cases h3 : tkS q n f = 3
    · rw [jnK_3 h3] at h
      unfold jb at h
      repeat' split at h
      all_goals omega
    · rw [jnK_02 h1 h3] at h
      omega
theorem jn_2 {q : Nat → Nat} {n f : Nat} (hf : f ≤ n) (h : jnK q n f = 12 ∨ jnK q n f = 13) : f + 2 ≤ nxt q n f ∧ f < n := by
  obtain ⟨h1, h2⟩ := jn_w h
  have hfn : f < n := by
    unfold tkS at h1
    by_cases z : f < n
    · exact z
    · rw [if_neg z] at h1; omega
  have hT : tkT q n f = ext q n 1 (n - f) f := by unfold tkT; rw [h1, if_neg (by decide), if_neg (by decide)]
  have hq : srt (q f) = 1 := by rw [← h1]; exact (if_pos hfn).symm
  have hg0 := ext_gt (q := q) hfn
  rw [hq] at hg0
  have hg : f + 1 ≤ tkT q n f := by rw [hT]; exact hg0
  have hl := srt_1 hq
  have hb := tkT_b (q := q) hf
  have hF := tkF_b (q := q) hb.2
  refine ⟨?_, hfn⟩
  by_cases z : tkT q n f = f + 1
  · exfalso
    have e := wrd_s (q := q) (f := f) 1 f (by omega) (by omega) (fun j a b => by rw [show j = f by omega]; exact hl)
    rw [Nat.sub_self, Nat.zero_add] at e
    have hw : tkW q n f = Int64.ofNat (cdN q f 1) := by
      unfold tkW
      rw [if_pos h1, z, show f + 1 - f = 1 by omega]
      exact e
    have hc : cdN q f 1 = q f - 96 := by
      rw [cdN, cdN]
      show 32 * 0 + (q (f + 0) - 96) = _
      rw [Nat.add_zero]
      omega
    rcases h2 with h2 | h2
    · have := n64 (a := cdN q f 1) (b := 1476) (by omega) (by omega) (hw.symm.trans h2)
      omega
    · have := n64 (a := cdN q f 1) (b := 498) (by omega) (by omega) (hw.symm.trans h2)
      omega
  · unfold nxt
    omega
