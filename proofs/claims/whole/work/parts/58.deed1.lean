/-! ===== what can be undone ===== -/
abbrev Pe : Type := Nat → Int32 × (Nat → Int32)
/-- the class's ring: w the oldest, u of them, e what each was -/
def PC (M : sp_Mem) (q w u : Nat) (e : Pe) : Prop := w < 17 ∧ u ≤ 16 ∧ sp_I M q 3 = nI u ∧ sp_I M q 2 = nI w ∧ ∀ k, k < u → sp_I M (q + 2) ((w + k) % 17) = (e k).1 ∧ ∀ i, i < 43 → sp_I M (q + 1) (43 * ((w + k) % 17) + i) = (e k).2 (i_pm i)
def PR (M : sp_Mem) (u : Nat) (e : Pe) : Prop := sp_I M 103 8 = nI u ∧ ∀ k, k < u → sp_I M 109 k = (e k).1 ∧ ∀ i, i < 46 → sp_I M 108 (46 * k + i) = (e k).2 i
def PB (u : Nat) (e : Pe) (r : Nat → Int32) : Prop := ∀ k, k < u → wi (e k).1 0 3 ∧ (∀ i, 1 ≤ i → i ≤ 3 → (e k).2 i = r (5 + i)) ∧ ∀ i, i < 46 → wi ((e k).2 i) (lo (5 + i)) (hi (5 + i))
theorem U_of {M : sp_Mem} {r : Nat → Int32} (h : i_U M r) : ∃ u w e, PC M 18 w u e ∧ PR M u e ∧ PB u e r := by
  obtain ⟨u, w, g1, g2, g3, g4, g5, g6⟩ := h
  refine ⟨u, w, fun k => (sp_I M 109 k, fun i => sp_I M 108 (46 * k + i)), ⟨g2, g1, g3, g5, fun k hk => ⟨(g6 k hk).1, (g6 k hk).2.2.1⟩⟩, ⟨g4, fun k hk => ⟨rfl, fun i hi => rfl⟩⟩, fun k hk => ⟨(g6 k hk).2.1, (g6 k hk).2.2.2.1, (g6 k hk).2.2.2.2⟩⟩
theorem U_to {M : sp_Mem} {r : Nat → Int32} {u w : Nat} {e : Pe} (h1 : PC M 18 w u e) (h2 : PR M u e) (h3 : PB u e r) : i_U M r := by
  obtain ⟨a1, a2, a3, a4, a5⟩ := h1
  refine ⟨u, w, a2, a1, a3, h2.1, a4, fun k hk => ?_⟩
  obtain ⟨b1, b2⟩ := a5 k hk
  obtain ⟨c1, c2⟩ := h2.2 k hk
  obtain ⟨d1, d2, d3⟩ := h3 k hk
  refine ⟨b1.trans c1.symm, by rw [c1]; exact d1, fun i hi => ?_, fun i h1 h2 => ?_, fun i hi => ?_⟩
  · have hpm : i_pm i < 46 := by unfold i_pm; split <;> (try split) <;> omega
    rw [c2 _ hpm]; exact b2 i hi
  · rw [c2 i (by omega)]; exact d2 i h1 h2
  · rw [c2 i hi]; exact d3 i hi
def pu (u : Nat) : Nat := if u = 16 then 16 else u + 1
def pw (u w : Nat) : Nat := if u = 16 then (w + 1) % 17 else w
def pe (u : Nat) (e : Pe) (x : Int32 × (Nat → Int32)) : Pe := if u = 16 then (fun k => if k = 15 then x else e (k + 1)) else (fun k => if k = u then x else e k)
theorem pu_le {u : Nat} (h : u ≤ 16) : pu u ≤ 16 := by unfold pu; split <;> omega
theorem PB_push {u : Nat} {e : Pe} {r r' : Nat → Int32} {d : Int32} (h : PB u e r) (hB : i_BT 999 r) (hd : wi d 0 3) (hu : u ≤ 16) (hr : ∀ i, 1 ≤ i → i ≤ 3 → r' (5 + i) = r (5 + i)) : PB (pu u) (pe u e (d, fun i => r (5 + i))) r' := by
  have hnew : wi d 0 3 ∧ (∀ i, 1 ≤ i → i ≤ 3 → r (5 + i) = r' (5 + i)) ∧ ∀ i, i < 46 → wi (r (5 + i)) (lo (5 + i)) (hi (5 + i)) := by
    refine ⟨hd, fun i h1 h2 => (hr i h1 h2).symm, fun i hi => ?_⟩
    exact (BT_to hB).2 (5 + i) (by omega) (by omega)
  have hold : ∀ k, k < u → wi (e k).1 0 3 ∧ (∀ i, 1 ≤ i → i ≤ 3 → (e k).2 i = r' (5 + i)) ∧ ∀ i, i < 46 → wi ((e k).2 i) (lo (5 + i)) (hi (5 + i)) := fun k hk => ⟨(h k hk).1, fun i h1 h2 => ((h k hk).2.1 i h1 h2).trans (hr i h1 h2).symm, (h k hk).2.2⟩
  intro k hk
  unfold pu at hk
  unfold pe
  by_cases h16 : u = 16
  · rw [if_pos h16] at hk ⊢
    by_cases h15 : k = 15
    · rw [if_pos h15]; exact hnew
    · rw [if_neg h15]; exact hold (k + 1) (by omega)
  · rw [if_neg h16] at hk ⊢
    by_cases hku : k = u
    · rw [if_pos hku]; exact hnew
    · rw [if_neg hku]; exact hold k (by omega)
theorem PB_cg {u : Nat} {e : Pe} {r r' : Nat → Int32} (h : PB u e r) (hr : ∀ i, 1 ≤ i → i ≤ 3 → r' (5 + i) = r (5 + i)) : PB u e r' := fun k hk => ⟨(h k hk).1, fun i h1 h2 => ((h k hk).2.1 i h1 h2).trans (hr i h1 h2).symm, (h k hk).2.2⟩
section Past
variable {F q o w u : Nat} {M M' : sp_Mem} {r : Nat → Int32} {e : Pe}
theorem PC_cg (h : PC M q w u e) (h0 : ∀ j, j = 2 ∨ j = 3 → sp_I M' q j = sp_I M q j) (h1 : ∀ k, k < u → ∀ i, i < 43 → sp_I M' (q + 1) (43 * ((w + k) % 17) + i) = sp_I M (q + 1) (43 * ((w + k) % 17) + i)) (h2 : sp_I M' (q + 2) = sp_I M (q + 2)) : PC M' q w u e := by
  obtain ⟨a1, a2, a3, a4, a5⟩ := h
  exact ⟨a1, a2, by rw [h0 3 (by simp)]; exact a3, by rw [h0 2 (by simp)]; exact a4, fun k hk => ⟨by rw [h2]; exact (a5 k hk).1, fun i hi => by rw [h1 k hk i hi]; exact (a5 k hk).2 i hi⟩⟩
theorem PC_fr {A : List Nat} {B : List (Nat × Nat)} (h : PC M q w u e) (hf : sp_fr A B M M') (h0 : q ∉ A ∧ (q, 2) ∉ B ∧ (q, 3) ∉ B) (h1 : q + 1 ∉ A ∧ ∀ j, (q + 1, j) ∉ B) (h2 : q + 2 ∉ A ∧ ∀ j, (q + 2, j) ∉ B) : PC M' q w u e :=
  PC_cg h (fun j hj => by rcases hj with rfl | rfl; exact hf.1 _ _ h0.1 h0.2.1; exact hf.1 _ _ h0.1 h0.2.2) (fun k _ i _ => hf.1 _ _ h1.1 (h1.2 _)) (funext fun j => hf.1 _ _ h2.1 (h2.2 _))
theorem free_e (h : PC M q w u e) : fX3_freeRow M q = some (nI ((w + u) % 17)) := by
  obtain ⟨a1, a2, a3, a4, a5⟩ := h
  unfold fX3_freeRow
  rw [a3, a4, nI_add, show nI (w + u) - nI (w + u) / 17 * 17 = nI ((w + u) % 17) from nI_mod (b := 17) (by omega) (by omega) (by omega)]
theorem cix_0 {Na Nb d n : Nat} (h1 : n ≤ Na) (h2 : d + n ≤ Nb) (hN : Nb < 100000) (hM : Na < 100000) : sp_cix Na Nb 0 (nI d) (nI n) = some (0, d, n) := by
  unfold sp_cix
  rw [nI_clamp (by omega), nI_clamp (by omega), show (0 : Int32).toNatClampNeg = 0 by decide, if_neg]
  intro h
  rcases h with h | h | h | h | h
  · exact absurd h (by decide)
  · exact nI_pos (by omega) h
  · exact nI_pos (by omega) h
  · omega
  · omega
theorem cix_1 {Na Nb d n : Nat} (h1 : d + n ≤ Na) (h2 : n ≤ Nb) (hN : Nb < 100000) (hM : Na < 100000) : sp_cix Na Nb (nI d) 0 (nI n) = some (d, 0, n) := by
  unfold sp_cix
  rw [nI_clamp (by omega), nI_clamp (by omega), show (0 : Int32).toNatClampNeg = 0 by decide, if_neg]
  intro h
  rcases h with h | h | h | h | h
  · exact nI_pos (by omega) h
  · exact absurd h (by decide)
  · exact nI_pos (by omega) h
  · omega
  · omega
theorem save_e {f : Nat} (hR : i_Room M o r) (hf : f < 17) (ho : o + 12 ≤ q) : ∃ M', fX5_saveMoves M o (q + 1) (nI f * 43) = some M' ∧ (∀ i, i < 43 → sp_I M' (q + 1) (43 * f + i) = r (5 + i_pm i)) ∧ ∀ j, j < 43 * f ∨ 43 * f + 43 ≤ j → sp_I M' (q + 1) j = sp_I M (q + 1) j := by
  have i0 : nI f * 43 = nI (43 * f) := by rw [show (43 : Int32) = nI 43 from rfl, nI_mul, Nat.mul_comm]
  have i1 : nI (43 * f) + 25 = nI (43 * f + 25) := nI_add _ 25
  have i2 : nI (43 * f + 25) + 6 = nI (43 * f + 25 + 6) := nI_add _ 6
  have i3 : nI (43 * f + 25 + 6) + 6 = nI (43 * f + 25 + 6 + 6) := nI_add _ 6
  have i4 : nI (43 * f + 25 + 6 + 6) + 5 = nI (43 * f + 25 + 6 + 6 + 5) := nI_add _ 5
  unfold fX5_saveMoves
  simp only [sp_do]
  rw [i0, i1, i2, i3, i4]
  have c1 : sp_cix 25 731 0 (nI (43 * f)) 25 = some (0, 43 * f, 25) := cix_0 (n := 25) (by omega) (by omega) (by omega) (by omega)
  have c2 : sp_cix 6 731 0 (nI (43 * f + 25)) 6 = some (0, 43 * f + 25, 6) := cix_0 (n := 6) (by omega) (by omega) (by omega) (by omega)
  have c3 : sp_cix 6 731 0 (nI (43 * f + 25 + 6)) 6 = some (0, 43 * f + 25 + 6, 6) := cix_0 (n := 6) (by omega) (by omega) (by omega) (by omega)
  have c4 : sp_cix 5 731 0 (nI (43 * f + 25 + 6 + 6)) 5 = some (0, 43 * f + 25 + 6 + 6, 5) := cix_0 (n := 5) (by omega) (by omega) (by omega) (by omega)
  rw [c1, Option.bind_some, c2, Option.bind_some, c3, Option.bind_some, c4, Option.bind_some, sp_ix_nI (show 43 * f + 25 + 6 + 6 + 5 < 731 by omega) (by omega), Option.bind_some]
  dsimp only
  refine ⟨_, rfl, fun i hi => ?_, fun j hj => ?_⟩
  · by_cases h42 : i = 42
    · subst h42
      rw [show 43 * f + 42 = 43 * f + 25 + 6 + 6 + 5 by omega, I_eq, I_cpy_ne (by omega), I_cpy_ne (by omega), I_cpy_ne (by omega), I_cpy_ne (by omega)]
      exact rm_term hR (k := 0) (by omega)
    · rw [I_nf _ _ _ (by omega), I_cpy]
      by_cases h37 : 37 ≤ i
      · rw [if_pos (by omega), I_cpy_ne (by omega), I_cpy_ne (by omega), I_cpy_ne (by omega), show 0 + (43 * f + i - (43 * f + 25 + 6 + 6)) = i - 37 by omega, rm_stand hR (show i - 37 < 5 by omega)]
        congr 1
        unfold i_pm; rw [if_neg (by omega), if_pos (by omega)]; omega
      · rw [if_neg (by omega), I_cpy]
        by_cases h31 : 31 ≤ i
        · rw [if_pos (by omega), I_cpy_ne (by omega), I_cpy_ne (by omega), show 0 + (43 * f + i - (43 * f + 25 + 6)) = i - 31 by omega, rm_heat hR (show i - 31 < 6 by omega)]
          congr 1
          unfold i_pm; rw [if_neg (by omega), if_pos (by omega)]; omega
        · rw [if_neg (by omega), I_cpy]
          by_cases h25 : 25 ≤ i
          · rw [if_pos (by omega), I_cpy_ne (by omega), show 0 + (43 * f + i - (43 * f + 25)) = i - 25 by omega, rm_cell hR (show i - 25 < 6 by omega)]
            congr 1
            unfold i_pm; rw [if_neg (by omega), if_pos (by omega)]; omega
          · rw [if_neg (by omega), I_cpy, if_pos (by omega), show 0 + (43 * f + i - 43 * f) = i by omega, rm_kind hR (show i < 25 by omega)]
            congr 1
            unfold i_pm; rw [if_pos (by omega)]; omega
  · rw [I_nf _ _ _ (by omega), I_cpy, if_neg (by omega), I_cpy, if_neg (by omega), I_cpy, if_neg (by omega), I_cpy, if_neg (by omega)]
theorem mod_ne {k : Nat} (hu : u ≤ 16) (hk : k < u) : (w + k) % 17 ≠ (w + u) % 17 := by omega
/-- prepare: nothing that counts changes; the room stands in the free row -/
theorem prep_e (h : PC M q w u e) (hR : i_Room M o r) (ho : o + 12 ≤ q) : ∃ M', fX3_prepare M q o = some M' ∧ PC M' q w u e ∧ (∀ i, i < 43 → sp_I M' (q + 1) (43 * ((w + u) % 17) + i) = r (5 + i_pm i)) := by
  obtain ⟨M1, e1, e2, e3⟩ := save_e (f := (w + u) % 17) hR (Nat.mod_lt _ (by omega)) ho
  have e4 : fX3_prepare M q o = some M1 := by
    unfold fX3_prepare
    rw [free_e h, Option.bind_some, e1, Option.bind_some]
  have hf := frX3_prepare e4
  have hu := h.2.1
  refine ⟨M1, e4, PC_cg h (fun j _ => hf.1 _ _ (by simp) (by simp)) (fun k hk i hi => e3 _ ?_) (funext fun j => hf.1 _ _ (by simp) (by simp)), e2⟩
  have := mod_ne (w := w) hu hk
  omega
/-- keep: the room as it was stands as the newest -/
theorem keep_c {d : Int32} (h : PC M q w u e) (hs : ∀ i, i < 43 → sp_I M (q + 1) (43 * ((w + u) % 17) + i) = r (5 + i_pm i)) : ∃ M', fX3_keep M q d = some M' ∧ PC M' q (pw u w) (pu u) (pe u e (d, fun i => r (5 + i))) := by
  have h' := h
  obtain ⟨a1, a2, a3, a4, a5⟩ := h
  have hfl : (w + u) % 17 < 17 := Nat.mod_lt _ (by omega)
  unfold fX3_keep
  simp only [sp_do]
  rw [free_e h', Option.bind_some, sp_ix_nI hfl (by omega), Option.bind_some, I_ne _ _ _ (show q ≠ q + 2 by omega), a3, a4]
  by_cases h16 : u = 16
  · rw [if_pos (show (16 : Int32) ≤ nI u from nI_le (a := 16) (by omega) (by omega)), nI_1, show nI (w + 1) - nI (w + 1) / 17 * 17 = nI ((w + 1) % 17) from nI_mod (b := 17) (by omega) (by omega) (by omega)]
    refine ⟨_, rfl, ?_⟩
    unfold pw pu pe
    rw [if_pos h16, if_pos h16, if_pos h16]
    refine ⟨Nat.mod_lt _ (by omega), Nat.le_refl _, ?_, ?_, fun k hk => ?_⟩
    · rw [I_nf _ _ _ (by decide), I_ne _ _ _ (by omega), a3, h16]
    · exact I_eq _ _ _ _
    · rw [I_ne _ _ _ (show q + 2 ≠ q by omega), I_ne _ _ _ (show q + 1 ≠ q by omega), I_ne _ _ _ (show q + 1 ≠ q + 2 by omega)]
      dsimp only
      by_cases h15 : k = 15
      · rw [if_pos h15, show ((w + 1) % 17 + k) % 17 = (w + u) % 17 by omega, I_eq]
        exact ⟨rfl, fun i hi => hs i hi⟩
      · rw [if_neg h15, show ((w + 1) % 17 + k) % 17 = (w + (k + 1)) % 17 by omega, I_nf _ _ _ (by omega)]
        exact a5 (k + 1) (by omega)
  · rw [if_neg (show ¬ (16 : Int32) ≤ nI u from nI_ge (b := 16) (by omega) (by omega)), nI_1]
    refine ⟨_, rfl, ?_⟩
    unfold pw pu pe
    rw [if_neg h16, if_neg h16, if_neg h16]
    refine ⟨a1, by omega, ?_, ?_, fun k hk => ?_⟩
    · exact I_eq _ _ _ _
    · rw [I_nf _ _ _ (by decide), I_ne _ _ _ (by omega), a4]
    · rw [I_ne _ _ _ (show q + 2 ≠ q by omega), I_ne _ _ _ (show q + 1 ≠ q by omega), I_ne _ _ _ (show q + 1 ≠ q + 2 by omega)]
      dsimp only
      by_cases hku : k = u
      · rw [if_pos hku, hku, I_eq]
        exact ⟨rfl, fun i hi => hs i hi⟩
      · rw [if_neg hku, I_nf _ _ _ (by omega)]
        exact a5 k (by omega)
/-- remember, of the reference -/
theorem rem_r {d : Int32} (hF : 1000 ≤ F) (h : PR M u e) (hu : u ≤ 16) (hr : rM M = r) : ∃ M', fX11_remember F M d = some M' ∧ PR M' (pu u) (pe u e (d, fun i => r (5 + i))) := by
  have hat : ∀ i, sp_I M 105 i = r i := fun i => by rw [← hr]
  obtain ⟨b1, b2⟩ := h
  have j77 : ∀ (M1 : sp_Mem) (v : Nat) (e1 : Pe), v < 16 → PR M1 v e1 → (∀ i, sp_I M1 105 i = r i) → ∃ M', fX11_remember_j77 F d M1 = some M' ∧ PR M' (v + 1) (fun k => if k = v then (d, fun i => r (5 + i)) else e1 k) := by
    intro M1 v e1 hv h1 hr1
    obtain ⟨c1, c2⟩ := h1
    unfold fX11_remember_j77
    simp only [sp_do]
    rw [c1, keep_e hF (by omega), Option.bind_some, I_cpy_ne (by decide), c1, sp_ix_nI hv (by omega), Option.bind_some, I_ne _ _ _ (by decide), I_cpy_ne (by decide), c1, nI_1]
    refine ⟨_, rfl, I_eq _ _ _ _, fun k hk => ?_⟩
    rw [I_ne _ _ _ (show (109 : Nat) ≠ 103 by decide), I_ne _ _ _ (show (108 : Nat) ≠ 103 by decide), I_ne _ _ _ (show (108 : Nat) ≠ 109 by decide)]
    dsimp only
    by_cases hkv : k = v
    · rw [if_pos hkv, hkv, I_eq]
      refine ⟨rfl, fun i hi => ?_⟩
      rw [I_cpy, if_pos (by omega), hr1]
      congr 1
      omega
    · rw [if_neg hkv, I_nf _ _ _ hkv, I_cpy_ne (by decide)]
      refine ⟨(c2 k (by omega)).1, fun i hi => ?_⟩
      rw [I_cpy, if_neg (by omega)]
      exact (c2 k (by omega)).2 i hi
  unfold fX11_remember
  rw [b1]
  by_cases h16 : u = 16
  · rw [if_pos (show nI u = 16 by rw [h16]; rfl)]
    have e1 := rm_l11 (F := F) (M := M) (a1 := d) (kx := fun b11 M10 => fX11_remember_l41 F (fun b17 M16 => sp_do (sp_setI M16 103 8 (sp_I M16 103 8 - 1)) fun M18 => fX11_remember_j77 F b17 M18) F b11 0 M10) 690 0 F (by omega) (by omega)
    rw [cpy_0] at e1
    have e1 : fX11_remember_l11 F _ F d 0 M = _ := e1
    rw [e1]
    have e2 := rm_l41 (F := F) (M := sp_cpy M 108 108 46 0 690) (a1 := d) (kx := fun b17 M16 => sp_do (sp_setI M16 103 8 (sp_I M16 103 8 - 1)) fun M18 => fX11_remember_j77 F b17 M18) 15 0 F (by omega) (by omega)
    rw [cpy_0] at e2
    have e2 : fX11_remember_l41 F _ F d 0 (sp_cpy M 108 108 46 0 690) = _ := e2
    rw [e2]
    simp only [sp_do]
    rw [I_cpy_ne (by decide), I_cpy_ne (by decide), b1, show nI u - 1 = nI 15 by rw [h16]; rfl]
    obtain ⟨M', f1, f2⟩ := j77 (sp_setI (sp_cpy (sp_cpy M 108 108 46 0 690) 109 109 1 0 15) 103 8 (nI 15)) 15 (fun k => e (k + 1)) (by omega) ⟨I_eq _ _ _ _, fun k hk => by
      rw [I_ne _ _ _ (show (109 : Nat) ≠ 103 by decide), I_ne _ _ _ (show (108 : Nat) ≠ 103 by decide), I_cpy, if_pos (by omega), I_cpy_ne (show (109 : Nat) ≠ 108 by decide), I_cpy_ne (show (108 : Nat) ≠ 109 by decide), show 1 + (k - 0) = k + 1 by omega]
      refine ⟨(b2 (k + 1) (by omega)).1, fun i hi => ?_⟩
      rw [I_cpy, if_pos (by omega), show 46 + (46 * k + i - 0) = 46 * (k + 1) + i by omega]
      exact (b2 (k + 1) (by omega)).2 i hi⟩ (fun i => by rw [I_ne _ _ _ (by decide), I_cpy_ne (by decide), I_cpy_ne (by decide)]; exact hat i)
    refine ⟨M', f1, ?_⟩
    unfold pu pe
    rw [if_pos h16, if_pos h16]
    exact f2
  · rw [if_neg (show ¬ nI u = 16 by rw [show (16 : Int32) = nI 16 from rfl, nI_eq (by omega) (by omega)]; exact h16)]
    obtain ⟨M', f1, f2⟩ := j77 M u e (by omega) ⟨b1, b2⟩ hat
    refine ⟨M', f1, ?_⟩
    unfold pu pe
    rw [if_neg h16, if_neg h16]
    exact f2
end Past
